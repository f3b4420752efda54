/-! keep: the fewest TESTS -/
def oI : Option Nat → Int32
  | none => -1
  | some b => nI b
theorem oI_ne {b : Nat} (h : b < 2 ^ 31) : ¬ nI b = -1 := fun z => by
  have h1 := congrArg Int32.toInt z
  rw [nI_toInt h, show (-1 : Int32).toInt = -1 from rfl] at h1
  omega
/-- whether a set is better than the best so far -/
def btr (f : Nat → Nat) (n a : Nat) : Option Nat → Bool
  | none => true
  | some b => decide (bc (nI a) - bc (nI b) < 0) || (decide (bc (nI a) - bc (nI b) = 0) && decide (sumB a f n < sumB b f n))
theorem btr_some (f : Nat → Nat) (n a b : Nat) : btr f n a (some b) = (decide (bc (nI a) - bc (nI b) < 0) || (decide (bc (nI a) - bc (nI b) = 0) && decide (sumB a f n < sumB b f n))) := rfl
section KEEP
variable {m m' : jx_Mem} {G K : Nat} {O C : Nat → Nat} {N : Nat → Nat → Nat}
theorem sum31 {S n c : Nat} {f : Nat → Nat} (h : ∀ k, k < n → f k ≤ c) (hc : n * c < 2 ^ 31) : sumB S f n < 2 ^ 31 := Nat.lt_of_le_of_lt (sumB_le h) hc
theorem s_oftenOf (h : goodsF m G K O C N) (gg : gGoods G K O C N) {S : Nat} (hS : S < 2 ^ G) : f_Goods_oftenOf (nI S) m = some (nI (sumB S O G), m) := by
  have hG := gg.1
  rw [e_Goods_oftenOf]
  have h1 := lp_up (fun i x => f_Goods_oftenOf_4 (nI S) x i m) (fun n => nI (sumB S O n)) G (by
    intro n hn
    rw [e_Goods_oftenOf_4, h.1]
    refine (ifn (nI_ge (a := n) (b := G) hn (by omega))).trans ?_
    by_cases c : S.testBit n = true
    · rw [s_has_t (lt31 hS hG) (by omega) c, Option.bind_some]
      refine (ifn ne10).trans ?_
      rw [in_nI (show n < 10 by omega) (by omega), nI_cl (by omega), h.2.2.1 n hn, e_Goods_oftenOf_29, nI_add, nI_1, sumB_s, if_pos c]
      rfl
    · have c2 : S.testBit n = false := by simpa using c
      rw [s_has_f (lt31 hS hG) (by omega) c2, Option.bind_some]
      refine (ifp eq00).trans ?_
      rw [e_Goods_oftenOf_29, nI_1, sumB_s, if_neg c]
      rfl) 0 (by omega)
  refine h1.trans ?_
  rw [e_Goods_oftenOf_4, h.1]
  exact ifp (nI_le (Nat.le_refl _) (by omega))
theorem s_costOfAll (h : goodsF m G K O C N) (gg : gGoods G K O C N) {S : Nat} (hS : S < 2 ^ K) : f_Goods_costOfAll (nI S) m = some (nI (sumB S C K), m) := by
  have hG := gg.2.1
  rw [e_Goods_costOfAll]
  have h1 := lp_up (fun i x => f_Goods_costOfAll_4 (nI S) x i m) (fun n => nI (sumB S C n)) K (by
    intro n hn
    rw [e_Goods_costOfAll_4, h.2.1]
    refine (ifn (nI_ge (a := n) (b := K) hn (by omega))).trans ?_
    by_cases c : S.testBit n = true
    · rw [s_has_t (lt31 hS (by omega)) (by omega) c, Option.bind_some]
      refine (ifn ne10).trans ?_
      rw [in_nI (show n < 6 by omega) (by omega), nI_cl (by omega), h.2.2.2.1 n hn, e_Goods_costOfAll_29, nI_add, nI_1, sumB_s, if_pos c]
      rfl
    · have c2 : S.testBit n = false := by simpa using c
      rw [s_has_f (lt31 hS (by omega)) (by omega) c2, Option.bind_some]
      refine (ifp eq00).trans ?_
      rw [e_Goods_costOfAll_29, nI_1, sumB_s, if_neg c]
      rfl) 0 (by omega)
  refine h1.trans ?_
  rw [e_Goods_costOfAll_4, h.2.1]
  exact ifp (nI_le (Nat.le_refl _) (by omega))
theorem s_sum70 (h : goodsM m G K O C N) (gg : gGoods G K O C N) {S : Nat} (hS : S < 2 ^ G) : f_M_sumOf_r70 (nI S) m = some (nI (sumB S O G), m) := by
  have hG := gg.1
  rw [e_M_sumOf_r70]
  have h1 := lp_up (fun i x => f_M_sumOf_5_r70 (nI S) x i m) (fun n => nI (sumB S O n)) 10 (by
    intro n hn
    rw [e_M_sumOf_5_r70]
    refine (ifn (nI_ge (a := n) (b := 10) hn (by omega))).trans ?_
    by_cases c : S.testBit n = true
    · have hn2 : n < G := by
        rcases Nat.lt_or_ge n G with q | q
        · exact q
        · rw [tb_ge hS q] at c; cases c
      rw [s_mhas_t (lt31 hS hG) (by omega) c, Option.bind_some]
      refine (ifn ne10).trans ?_
      rw [in_nI (show n < 10 by omega) (by omega), nI_cl (by omega), h.2.2.1 n hn2, e_M_sumOf_30_r70, nI_add, nI_1, sumB_s, if_pos c]
      rfl
    · have c2 : S.testBit n = false := by simpa using c
      rw [s_mhas_f (lt31 hS hG) (by omega) c2, Option.bind_some]
      refine (ifp eq00).trans ?_
      rw [e_M_sumOf_30_r70, Int32.add_zero, nI_1, sumB_s, if_neg c]
      rfl) 0 (by omega)
  refine h1.trans ?_
  rw [e_M_sumOf_5_r70]
  refine (ifp (nI_le (a := 10) (b := 10) (Nat.le_refl _) (by omega))).trans ?_
  have h2 := sumB_more (f := O) hS (10 - G)
  rw [show G + (10 - G) = 10 by omega] at h2
  rw [h2]
theorem s_sum71 (h : goodsM m G K O C N) (gg : gGoods G K O C N) {S : Nat} (hS : S < 2 ^ K) : f_M_sumOf_r71 (nI S) m = some (nI (sumB S C K), m) := by
  have hG := gg.2.1
  rw [e_M_sumOf_r71]
  have h1 := lp_up (fun i x => f_M_sumOf_5_r71 (nI S) x i m) (fun n => nI (sumB S C n)) 6 (by
    intro n hn
    rw [e_M_sumOf_5_r71]
    refine (ifn (nI_ge (a := n) (b := 6) hn (by omega))).trans ?_
    by_cases c : S.testBit n = true
    · have hn2 : n < K := by
        rcases Nat.lt_or_ge n K with q | q
        · exact q
        · rw [tb_ge hS q] at c; cases c
      rw [s_mhas_t (lt31 hS (by omega)) (by omega) c, Option.bind_some]
      refine (ifn ne10).trans ?_
      rw [in_nI (show n < 6 by omega) (by omega), nI_cl (by omega), h.2.2.2.1 n hn2, e_M_sumOf_30_r71, nI_add, nI_1, sumB_s, if_pos c]
      rfl
    · have c2 : S.testBit n = false := by simpa using c
      rw [s_mhas_f (lt31 hS (by omega)) (by omega) c2, Option.bind_some]
      refine (ifp eq00).trans ?_
      rw [e_M_sumOf_30_r71, Int32.add_zero, nI_1, sumB_s, if_neg c]
      rfl) 0 (by omega)
  refine h1.trans ?_
  rw [e_M_sumOf_5_r71]
  refine (ifp (nI_le (a := 6) (b := 6) (Nat.le_refl _) (by omega))).trans ?_
  have h2 := sumB_more (f := C) hS (6 - K)
  rw [show K + (6 - K) = 6 by omega] at h2
  rw [h2]
theorem s_better (h : goodsF m G K O C N) (gg : gGoods G K O C N) {a b : Nat} (ha : a < 2 ^ K) (hb : b < 2 ^ K) : f_Goods_betterTests (nI a) (nI b) m = some (bi (btr C K a (some b)), m) := by
  have hK := gg.2.1
  have l1 : ∀ S, sumB S C K < 2 ^ 31 := fun S => sum31 (c := 9) (fun k hk => (gg.2.2.2.1 k hk).2) (by omega)
  rw [e_Goods_betterTests, s_bc, Option.bind_some, s_bc, Option.bind_some]
  rw [btr_some]
  by_cases c : bc (nI a) - bc (nI b) < 0
  · refine (ifp c).trans ?_
    rw [e_Goods_betterTests_31, e_Goods_betterTests_36, decide_eq_true c]
    rfl
  · refine (ifn c).trans ?_
    rw [decide_eq_false c]
    by_cases d : bc (nI a) - bc (nI b) = 0
    · refine (ifnp d).trans ?_
      rw [decide_eq_true d]
      rw [s_costOfAll h gg ha, Option.bind_some, s_costOfAll h gg hb, Option.bind_some]
      by_cases e : sumB a C K < sumB b C K
      · refine (ifn (nI_ge e (l1 b))).trans ?_
        rw [e_Goods_betterTests_31, e_Goods_betterTests_36, decide_eq_true e]
        rfl
      · refine (ifp (nI_le (by omega) (l1 a))).trans ?_
        rw [e_Goods_betterTests_35, e_Goods_betterTests_36, decide_eq_false e]
        rfl
    · refine (ifnn d).trans ?_
      rw [e_Goods_betterTests_35, e_Goods_betterTests_36, decide_eq_false d]
      rfl
theorem s_isB71 (h : goodsM m G K O C N) (gg : gGoods G K O C N) {a : Nat} {ob : Option Nat} (ha : a < 2 ^ K) (hb : ∀ b, ob = some b → b < 2 ^ K) : f_M_isBetter_r71 (nI a) (oI ob) m = some (bi (btr C K a ob), m) := by
  have hK := gg.2.1
  have l1 : ∀ S, sumB S C K < 2 ^ 31 := fun S => sum31 (c := 9) (fun k hk => (gg.2.2.2.1 k hk).2) (by omega)
  rw [e_M_isBetter_r71, s_bc, Option.bind_some, s_bc, Option.bind_some]
  cases ob with
  | none =>
    refine (ifp (show (-1 : Int32) < 0 by decide)).trans ?_
    rw [e_M_isBetter_40, e_M_isBetter_45]
    rfl
  | some b =>
    have hb2 := hb b rfl
    refine (ifn (nI_pos (lt31 hb2 (by omega)))).trans ?_
    rw [btr_some]
    show (if decide (bc (nI a) - bc (nI b) < 0) = true then _ else (if decide (¬ bc (nI a) - bc (nI b) = 0) = true then _ else _)) = _
    by_cases c : bc (nI a) - bc (nI b) < 0
    · refine (ifp c).trans ?_
      rw [e_M_isBetter_40, e_M_isBetter_45, decide_eq_true c]
      rfl
    · refine (ifn c).trans ?_
      rw [decide_eq_false c]
      by_cases d : bc (nI a) - bc (nI b) = 0
      · refine (ifnp d).trans ?_
        rw [decide_eq_true d]
        rw [s_sum71 h gg ha, Option.bind_some]
        show (f_M_sumOf_r71 (nI b) m).bind _ = _
        rw [s_sum71 h gg hb2, Option.bind_some]
        by_cases e : sumB a C K < sumB b C K
        · refine (ifn (nI_ge e (l1 b))).trans ?_
          rw [e_M_isBetter_40, e_M_isBetter_45, decide_eq_true e]
          rfl
        · refine (ifp (nI_le (by omega) (l1 a))).trans ?_
          rw [e_M_isBetter_44, e_M_isBetter_45, decide_eq_false e]
          rfl
      · refine (ifnn d).trans ?_
        rw [e_M_isBetter_44, e_M_isBetter_45, decide_eq_false d]
        rfl
theorem s_isB70 (h : goodsM m G K O C N) (gg : gGoods G K O C N) {a : Nat} {ob : Option Nat} (ha : a < 2 ^ G) (hb : ∀ b, ob = some b → b < 2 ^ G) : f_M_isBetter_r70 (nI a) (oI ob) m = some (bi (btr O G a ob), m) := by
  have hG := gg.1
  have l1 : ∀ S, sumB S O G < 2 ^ 31 := fun S => sum31 (c := 9) (fun k hk => (gg.2.2.1 k hk).2) (by omega)
  rw [e_M_isBetter_r70, s_bc, Option.bind_some, s_bc, Option.bind_some]
  cases ob with
  | none =>
    refine (ifp (show (-1 : Int32) < 0 by decide)).trans ?_
    rw [e_M_isBetter_40, e_M_isBetter_45]
    rfl
  | some b =>
    have hb2 := hb b rfl
    refine (ifn (nI_pos (lt31 hb2 (by omega)))).trans ?_
    rw [btr_some]
    show (if decide (bc (nI a) - bc (nI b) < 0) = true then _ else (if decide (¬ bc (nI a) - bc (nI b) = 0) = true then _ else _)) = _
    by_cases c : bc (nI a) - bc (nI b) < 0
    · refine (ifp c).trans ?_
      rw [e_M_isBetter_40, e_M_isBetter_45, decide_eq_true c]
      rfl
    · refine (ifn c).trans ?_
      rw [decide_eq_false c]
      by_cases d : bc (nI a) - bc (nI b) = 0
      · refine (ifnp d).trans ?_
        rw [decide_eq_true d]
        rw [s_sum70 h gg ha, Option.bind_some]
        show (f_M_sumOf_r70 (nI b) m).bind _ = _
        rw [s_sum70 h gg hb2, Option.bind_some]
        by_cases e : sumB a O G < sumB b O G
        · refine (ifn (nI_ge e (l1 b))).trans ?_
          rw [e_M_isBetter_40, e_M_isBetter_45, decide_eq_true e]
          rfl
        · refine (ifp (nI_le (by omega) (l1 a))).trans ?_
          rw [e_M_isBetter_44, e_M_isBetter_45, decide_eq_false e]
          rfl
      · refine (ifnn d).trans ?_
        rw [e_M_isBetter_44, e_M_isBetter_45, decide_eq_false d]
        rfl
/-- the best so far -/
def kp (N : Nat → Nat → Nat) (G K : Nat) (C : Nat → Nat) (S : Nat) : Nat → Option Nat
  | 0 => none
  | n + 1 => if mxS N G K S n = 0 ∧ btr C K n (kp N G K C S n) = true then some n else kp N G K C S n
theorem kp_lt {S : Nat} : ∀ n b, kp N G K C S n = some b → b < n := by
  intro n
  induction n with
  | zero => intro b h; cases h
  | succ n ih =>
    intro b h
    unfold kp at h
    split at h
    · cases h; omega
    · have := ih b h; omega
theorem s_fewest (h : goodsF m G K O C N) (gg : gGoods G K O C N) {S : Nat} (hS : S < 2 ^ G) : f_Goods_fewestTests (nI S) m = some (oI (kp N G K C S (2 ^ K)), m) := by
  have hG := gg.1
  have hK := gg.2.1
  have hp := pw31 (show K < 31 by omega)
  have hpK : 2 ^ K ≤ 64 := Nat.le_trans (Nat.pow_le_pow_right (by omega) hK) (by decide)
  rw [e_Goods_fewestTests]
  have h1 := lp_up (fun i x => f_Goods_fewestTests_4 (nI S) x i m) (fun n => oI (kp N G K C S n)) (2 ^ K) (by
    intro n hn
    rw [e_Goods_fewestTests_4, h.2.1, sh1 (by omega)]
    refine (ifn (nI_ge (a := n) (b := 2 ^ K) hn hp)).trans ?_
    have h28 : ∀ ob, f_Goods_fewestTests_28 (nI S) ob (nI n) m = f_Goods_fewestTests_4 (nI S) (if mxS N G K S n = 0 then nI n else ob) (nI (n + 1)) m := by
      intro ob
      rw [e_Goods_fewestTests_28, s_toldBy h gg hn hS, Option.bind_some]
      by_cases c : mxS N G K S n = 0
      · refine (ifnp (by rw [(tl_all hS).mpr c])).trans ?_
        rw [e_Goods_fewestTests_40, nI_1, if_pos c]
      · refine (ifnn (fun z => c ((tl_all hS).mp ((nI_eq (lt31 (bs_lt _ _) hG) (lt31 hS hG)).mp z)))).trans ?_
        rw [e_Goods_fewestTests_40, nI_1, if_neg c]
    show _ = f_Goods_fewestTests_4 (nI S) (oI (if mxS N G K S n = 0 ∧ btr C K n (kp N G K C S n) = true then some n else kp N G K C S n)) (nI (n + 1)) m
    cases hk : kp N G K C S n with
    | none =>
      refine (ifp rfl).trans ?_
      rw [h28]
      by_cases c : mxS N G K S n = 0
      · rw [if_pos c, if_pos ⟨c, rfl⟩]; rfl
      · rw [if_neg c, if_neg (fun z => c z.1)]
    | some b =>
      have hb := kp_lt n b hk
      refine (ifn (oI_ne (show b < 2 ^ 31 by omega))).trans ?_
      show (f_Goods_betterTests (nI n) (nI b) m).bind _ = _
      rw [s_better h gg hn (by omega), Option.bind_some]
      cases hbt : btr C K n (some b) with
      | true =>
        refine (ifn ne10).trans ?_
        show f_Goods_fewestTests_28 (nI S) (oI (some b)) (nI n) m = _
        rw [h28]
        by_cases c : mxS N G K S n = 0
        · rw [if_pos c, if_pos ⟨c, rfl⟩]; rfl
        · rw [if_neg c, if_neg (fun z => c z.1)]
      | false =>
        refine (ifp eq00).trans ?_
        rw [e_Goods_fewestTests_40, nI_1, if_neg (fun z => by cases z.2)]) 0 (Nat.zero_le _)
  refine h1.trans ?_
  rw [e_Goods_fewestTests_4, h.2.1, sh1 (by omega)]
  exact ifp (nI_le (Nat.le_refl _) hp)
def cG (x : Int32) (G : Nat) : Prop := 1 ≤ x.toInt ∧ x.toInt < ((2 ^ G : Nat) : Int)
theorem F_keep (h : goodsF m G K O C N) (gg : gGoods G K O C N) (x : Int32) : ∃ m', sm wRF m m' ∧
    ((∃ b, cG x G ∧ kp N G K C (jn x) (2 ^ K) = some b ∧ f_F_keep x m = some (bc (nI b), m') ∧ rF m' [(nI b).toInt64]) ∨ (cG x G ∧ kp N G K C (jn x) (2 ^ K) = none ∧ f_F_keep x m = some (-2, m') ∧ m' = m) ∨ (¬ cG x G ∧ f_F_keep x m = some (-1, m') ∧ m' = m)) := by
  have hG := gg.1
  have hK := gg.2.1
  have hpK : 2 ^ K ≤ 64 := Nat.le_trans (Nat.pow_le_pow_right (by omega) hK) (by decide)
  rw [e_F_keep]
  by_cases hx : 1 ≤ x.toInt ∧ x.toInt < ((2 ^ G : Nat) : Int)
  · obtain ⟨S, hS, rfl⟩ := nI_get (show 0 ≤ x.toInt by omega) hx.2
    rw [jn_nI (lt31 hS hG), s_aG_t h gg hx, Option.bind_some]
    cases hk : kp N G K C S (2 ^ K) with
    | none =>
      refine ⟨m, sm.rf, Or.inr (Or.inl ⟨hx, rfl, ?_, rfl⟩)⟩
      refine (ifnn ne10).trans ?_
      rw [s_fewest h gg hS, hk, Option.bind_some]
      exact ifn (show ¬ (0 : Int32) ≤ -1 by decide)
    | some b =>
      have hb := kp_lt _ b hk
      obtain ⟨m', q1, q2, q3⟩ := s_tell1 (nI b).toInt64 m
      refine ⟨m', q3, Or.inl ⟨b, hx, rfl, ?_, q2⟩⟩
      refine (ifnn ne10).trans ?_
      rw [s_fewest h gg hS, hk, Option.bind_some]
      refine (ifp (nI_pos' (show b < 2 ^ 31 by omega))).trans ?_
      show (f_Row_tell_J (nI b).toInt64 m).bind _ = _
      rw [q1, Option.bind_some]
      show (f_Int_bitCount (nI b) m').bind _ = _
      rw [s_bc]
      rfl
  · refine ⟨m, sm.rf, Or.inr (Or.inr ⟨hx, ?_, rfl⟩)⟩
    rw [s_aG_f h gg hx, Option.bind_some]
    exact ifnp eq00
theorem M_keep (h : goodsM m G K O C N) (gg : gGoods G K O C N) (x : Int32) : ∃ m', sm wTM m m' ∧
    ((∃ b, cG x G ∧ kp N G K C (jn x) (2 ^ K) = some b ∧ f_M_keep x m = some (bc (nI b), m') ∧ rM m' [(nI b).toInt64]) ∨ (cG x G ∧ kp N G K C (jn x) (2 ^ K) = none ∧ f_M_keep x m = some (-2, m') ∧ m' = jx_w1 m 63 0 0) ∨ (¬ cG x G ∧ f_M_keep x m = some (-1, m') ∧ m' = jx_w1 m 63 0 0)) := by
  have hG := gg.1
  have hK := gg.2.1
  have hp := pw31 (show K < 31 by omega)
  have hpK : 2 ^ K ≤ 64 := Nat.le_trans (Nat.pow_le_pow_right (by omega) hK) (by decide)
  have h1 := goodsM_th h (v := 0)
  have s1 : sm wTM m (jx_w1 m 63 0 0) := sm_w1 (by unfold wTM; omega)
  rw [e_M_keep]
  dsimp only
  by_cases hx : 1 ≤ x.toInt ∧ x.toInt < ((2 ^ G : Nat) : Int)
  · obtain ⟨S, hS, rfl⟩ := nI_get (show 0 ≤ x.toInt by omega) hx.2
    rw [jn_nI (lt31 hS hG), s_maG_t h1 gg hx, Option.bind_some]
    have hlp := lp_up (fun i y => f_M_keep_19 (nI S) y i (jx_w1 m 63 0 0)) (fun n => oI (kp N G K C S n)) (2 ^ K) (by
      intro n hn
      rw [e_M_keep_19, h1.2.1, sh1 (by omega)]
      refine (ifn (nI_ge (a := n) (b := 2 ^ K) hn hp)).trans ?_
      show _ = f_M_keep_19 (nI S) (oI (if mxS N G K S n = 0 ∧ btr C K n (kp N G K C S n) = true then some n else kp N G K C S n)) (nI (n + 1)) _
      rw [s_mixed h1 gg hn hS, Option.bind_some]
      by_cases c : mxS N G K S n = 0
      · refine (ifnp (by rw [c]; rfl)).trans ?_
        rw [s_isB71 h1 gg hn (fun b hb => by have := kp_lt n b hb; omega), Option.bind_some]
        cases hbt : btr C K n (kp N G K C S n) with
        | true =>
          refine (ifn ne10).trans ?_
          rw [e_M_keep_56, nI_1, if_pos ⟨c, rfl⟩]
          rfl
        | false =>
          refine (ifp eq00).trans ?_
          rw [e_M_keep_55, e_M_keep_56, nI_1, if_neg (fun z => by cases z.2)]
      · refine (ifnn (fun z => c ((nI_eq (b := 0) (lt31 (bs_lt _ _) hG) (by omega)).mp z))).trans ?_
        rw [e_M_keep_55, e_M_keep_56, nI_1, if_neg (fun z => c z.1)]) 0 (Nat.zero_le _)
    have hlp2 : f_M_keep_19 (nI S) (-1) 0 (jx_w1 m 63 0 0) = f_M_keep_19 (nI S) (oI (kp N G K C S (2 ^ K))) (nI (2 ^ K)) (jx_w1 m 63 0 0) := hlp
    rw [e_M_keep_19 _ _ (nI (2 ^ K)), h1.2.1, sh1 (by omega)] at hlp2
    have hlp3 := hlp2.trans (ifp (nI_le (Nat.le_refl _) hp))
    cases hk : kp N G K C S (2 ^ K) with
    | none =>
      refine ⟨_, s1, Or.inr (Or.inl ⟨hx, rfl, ?_, rfl⟩)⟩
      refine (ifnn ne10).trans ?_
      rw [hk] at hlp3
      refine hlp3.trans ?_
      exact ifn (show ¬ (0 : Int32) ≤ -1 by decide)
    | some b =>
      have hb := kp_lt _ b hk
      obtain ⟨m', q1, q2, q3⟩ := s_enters (nI b).toInt64 (rM_0 (jx_w1 m 63 0 0)) (by simp)
      refine ⟨m', (s1.w1 (by unfold wTM; omega)).tr (q3.mono (by unfold wRM wTM; omega)), Or.inl ⟨b, hx, rfl, ?_, q2⟩⟩
      refine (ifnn ne10).trans ?_
      rw [hk] at hlp3
      refine hlp3.trans ?_
      refine (ifp (nI_pos' (show b < 2 ^ 31 by omega))).trans ?_
      show (f_M_enters (nI b).toInt64 _).bind _ = _
      rw [q1, Option.bind_some]
      show (f_Int_bitCount (nI b) m').bind _ = _
      rw [s_bc]
      rfl
  · refine ⟨_, s1, Or.inr (Or.inr ⟨hx, ?_, rfl⟩)⟩
    rw [s_maG_f h1 gg hx, Option.bind_some]
    exact ifnp eq00
end KEEP
