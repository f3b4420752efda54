/-! ban: both sides -/
section BAN
variable {m m' : jx_Mem} {G K : Nat} {O C : Nat → Nat} {N : Nat → Nat → Nat}
theorem s_givesWay (h : goodsF m G K O C N) (gg : gGoods G K O C N) {g R : Nat} (hg : g < G) (hR : R < 2 ^ G) : f_Goods_givesWay (nI g) (nI R) m = some (bi (anyF (gwC O R g) 0 G), m) := by
  have hG := gg.1
  rw [e_Goods_givesWay]
  have h1 := lp_any (fun i => f_Goods_givesWay_2 (nI g) (nI R) i m) (gwC O R g) (some (1, m)) (some (0, m)) G (by
    rw [e_Goods_givesWay_2, h.1]
    exact ifp (nI_le (Nat.le_refl _) (by omega))) (by
    intro n hn
    rw [e_Goods_givesWay_2, h.1]
    refine (ifn (nI_ge (a := n) (b := G) hn (by omega))).trans ?_
    unfold gwC
    by_cases c : n = g
    · refine (ifp (by rw [c])).trans ?_
      rw [e_Goods_givesWay_63, nI_1, beq_iff_eq.mpr c]
      rfl
    · refine (ifn (fun z => c ((nI_eq (by omega) (by omega)).mp z))).trans ?_
      rw [beq_false_of_ne c]
      by_cases d : R.testBit n = true
      · rw [s_has_t (lt31 hR hG) (by omega) d, Option.bind_some, d]
        refine (ifnn ne10).trans ?_
        have o1 := gg.2.2.1 n hn
        have o2 := gg.2.2.1 g hg
        rw [in_nI (show n < 10 by omega) (by omega), in_nI (show g < 10 by omega) (by omega), nI_cl (show n < 2 ^ 31 by omega), nI_cl (show g < 2 ^ 31 by omega)]
        show (if decide (m.1 10 g < m.1 10 n) = true then f_Goods_givesWay_61 m else (if decide (¬ m.1 10 n = m.1 10 g) = true then f_Goods_givesWay_63 (nI g) (nI R) (nI n) m else (if decide (nI n ≤ nI g) = true then f_Goods_givesWay_63 (nI g) (nI R) (nI n) m else f_Goods_givesWay_61 m))) = _
        rw [h.2.2.1 n hn, h.2.2.1 g hg]
        by_cases e : O g < O n
        · refine (ifp (nI_lt e (by omega))).trans ?_
          rw [e_Goods_givesWay_61, decide_eq_true e]
          rfl
        · refine (ifn (nI_nlt (by omega) (by omega))).trans ?_
          rw [decide_eq_false e]
          by_cases e2 : O n = O g
          · refine (ifnp (by rw [e2])).trans ?_
            rw [beq_iff_eq.mpr e2]
            by_cases e3 : g < n
            · refine (ifn (nI_ge e3 (by omega))).trans ?_
              rw [e_Goods_givesWay_61, decide_eq_true e3]
              rfl
            · refine (ifp (nI_le (by omega) (by omega))).trans ?_
              rw [e_Goods_givesWay_63, nI_1, decide_eq_false e3]
              rfl
          · refine (ifnn (fun z => e2 ((nI_eq (by omega) (by omega)).mp z))).trans ?_
            rw [e_Goods_givesWay_63, nI_1, beq_false_of_ne e2]
            rfl
      · have d2 : R.testBit n = false := by simpa using d
        rw [s_has_f (lt31 hR hG) (by omega) d2, Option.bind_some, d2]
        refine (ifnp eq00).trans ?_
        rw [e_Goods_givesWay_63, nI_1]
        rfl) G 0 (by omega)
  refine h1.trans ?_
  unfold bi
  split <;> rfl
theorem s_toBan (h : goodsF m G K O C N) (gg : gGoods G K O C N) {b S : Nat} (hb : b < 2 ^ K) (hS : S < 2 ^ G) : f_Goods_toBan (nI b) (nI S) m = some (nI (tb N O G K S b), m) := by
  have hG := gg.1
  have hK := gg.2.1
  rw [e_Goods_toBan]
  have h1 := lp_up (fun i x => f_Goods_toBan_5 (nI b) (nI S) x i m) (fun n => nI (bs (fun g => S.testBit g && anyF (gwC O (sa N G K S b g) g) 0 G) n)) G (by
    intro n hn
    rw [e_Goods_toBan_5, h.1]
    refine (ifn (nI_ge (a := n) (b := G) hn (by omega))).trans ?_
    by_cases c : S.testBit n = true
    · rw [s_has_t (lt31 hS hG) (by omega) c, Option.bind_some]
      refine (ifn ne10).trans ?_
      rw [s_sameAs h gg hn hb hS, Option.bind_some, s_givesWay (R := sa N G K S b n) h gg hn (bs_lt _ _), Option.bind_some]
      cases hm : anyF (gwC O (sa N G K S b n) n) 0 G with
      | true =>
        refine (ifn ne10).trans ?_
        rw [e_Goods_toBan_47, nI_1, or_bs_t (by omega) (by simp [c, hm])]
      | false =>
        refine (ifp eq00).trans ?_
        rw [e_Goods_toBan_47, nI_1, bs_f (by simp [hm])]
    · have c2 : S.testBit n = false := by simpa using c
      rw [s_has_f (lt31 hS hG) (by omega) c2, Option.bind_some]
      refine (ifp eq00).trans ?_
      rw [e_Goods_toBan_47, nI_1, bs_f (by simp [c2])]) 0 (by omega)
  refine h1.trans ?_
  rw [e_Goods_toBan_5, h.1]
  exact ifp (nI_le (Nat.le_refl _) (by omega))
theorem F_ban (h : goodsF m G K O C N) (gg : gGoods G K O C N) (x y : Int32) : ∃ m', sm wRF m m' ∧
    ((cGT x y G K ∧ f_F_ban x y m = some (bc (nI (tb N O G K (jn x) (jn y))), m') ∧ rF m' [(nI (tb N O G K (jn x) (jn y))).toInt64]) ∨ (¬ cGT x y G K ∧ f_F_ban x y m = some (-1, m') ∧ m' = m)) := by
  have hG := gg.1
  have hK := gg.2.1
  rw [e_F_ban]
  by_cases hx : 1 ≤ x.toInt ∧ x.toInt < ((2 ^ G : Nat) : Int)
  · by_cases hy : 0 ≤ y.toInt ∧ y.toInt < ((2 ^ K : Nat) : Int)
    · obtain ⟨S, hS, rfl⟩ := nI_get (show 0 ≤ x.toInt by omega) hx.2
      obtain ⟨b, hb, rfl⟩ := nI_get hy.1 hy.2
      rw [jn_nI (lt31 hS hG), jn_nI (lt31 hb (by omega))]
      obtain ⟨m', q1, q2, q3⟩ := s_tell1 (nI (tb N O G K S b)).toInt64 m
      refine ⟨m', q3, Or.inl ⟨⟨hx, hy⟩, ?_, q2⟩⟩
      simp [s_aG_t h gg hx, s_aT_t h gg hy, s_toBan h gg hb hS, q1, s_bc]
    · refine ⟨m, sm.rf, Or.inr ⟨fun q => hy q.2, ?_, rfl⟩⟩
      simp [s_aG_t h gg hx, s_aT_f h gg hy, e_F_ban_22]
  · refine ⟨m, sm.rf, Or.inr ⟨fun q => hx q.1, ?_, rfl⟩⟩
    simp [s_aG_f h gg hx, e_F_ban_22]
theorem df_nI {G S n : Nat} (hG : G ≤ 10) (hS : S < 2 ^ G) : nI S &&& (nI n ^^^ (-1)) = nI (df G S n) := and_not hS (by omega)
theorem ban_step (h : goodsM m G K O C N) (gg : gGoods G K O C N) {b S n : Nat} (hb : b < 2 ^ K) (hS : S < 2 ^ G) (hn : n < S + 1) : f_M_ban_28 (nI S) (nI b) (oI (bn (vldB N G K S b) O G n)) (nI n) m = f_M_ban_28 (nI S) (nI b) (oI (bn (vldB N G K S b) O G (n + 1))) (nI (n + 1)) m := by
  have hG := gg.1
  have hK := gg.2.1
  have hn2 : n < 2 ^ G := by omega
  have e1 : oI (bn (vldB N G K S b) O G (n + 1)) = oI (if vldB N G K S b n = true ∧ btr O G n (bn (vldB N G K S b) O G n) = true then some n else bn (vldB N G K S b) O G n) := rfl
  rw [e1]
  have h62 : f_M_ban_62 (nI S) (nI b) (oI (bn (vldB N G K S b) O G n)) (nI n) (bi (vldB N G K S b n)) m = f_M_ban_28 (nI S) (nI b) (oI (if vldB N G K S b n = true ∧ btr O G n (bn (vldB N G K S b) O G n) = true then some n else bn (vldB N G K S b) O G n)) (nI (n + 1)) m := by
    rw [e_M_ban_62]
    cases hv : vldB N G K S b n with
    | false =>
      refine (ifp eq00).trans ?_
      rw [e_M_ban_88, e_M_ban_89, nI_1, if_neg (fun z => by cases z.1)]
    | true =>
      refine (ifn ne10).trans ?_
      rw [s_isB70 h gg hn2 (fun q hq => by have := (bn_lt n q hq).1; omega), Option.bind_some]
      cases hbt : btr O G n (bn (vldB N G K S b) O G n) with
      | true =>
        refine (ifn ne10).trans ?_
        rw [e_M_ban_89, nI_1, if_pos ⟨rfl, rfl⟩]
        rfl
      | false =>
        refine (ifp eq00).trans ?_
        rw [e_M_ban_88, e_M_ban_89, nI_1, if_neg (fun z => by cases z.2)]
  rw [← h62, e_M_ban_28]
  refine (ifn (nI_nlt (by omega) (lt31 hS hG))).trans ?_
  rw [df_nI hG hn2, df_nI hG hS]
  by_cases c : df G n S = 0
  · refine (ifnp (by rw [c]; rfl)).trans ?_
    rw [s_mixed h gg hb (df_lt G S n), Option.bind_some]
    by_cases d : mxS N G K (df G S n) b = 0
    · refine (ifnp (by rw [d]; rfl)).trans ?_
      have : vldB N G K S b n = true := by unfold vldB; rw [decide_eq_true c, decide_eq_true d]; rfl
      rw [this]
      rfl
    · refine (ifnn (fun z => d ((nI_eq (b := 0) (lt31 (bs_lt _ _) hG) (by omega)).mp z))).trans ?_
      have : vldB N G K S b n = false := by unfold vldB; rw [decide_eq_true c, decide_eq_false d]; rfl
      rw [this, e_M_ban_61]
      rfl
  · refine (ifnn (fun z => c ((nI_eq (b := 0) (lt31 (df_lt _ _ _) hG) (by omega)).mp z))).trans ?_
    have : vldB N G K S b n = false := by unfold vldB; rw [decide_eq_false c]; rfl
    rw [this, e_M_ban_61]
    rfl
theorem M_ban (h : goodsM m G K O C N) (gg : gGoods G K O C N) (x y : Int32) : ∃ m', sm wTM m m' ∧
    ((cGT x y G K ∧ f_M_ban x y m = some (bc (nI (tb N O G K (jn x) (jn y))), m') ∧ rM m' [(nI (tb N O G K (jn x) (jn y))).toInt64]) ∨ (¬ cGT x y G K ∧ f_M_ban x y m = some (-1, m') ∧ m' = jx_w1 m 63 0 0)) := by
  have hG := gg.1
  have hK := gg.2.1
  have h1 := goodsM_th h (v := 0)
  have s1 : sm wTM m (jx_w1 m 63 0 0) := sm_w1 (by unfold wTM; omega)
  rw [e_M_ban]
  dsimp only
  by_cases hx : 1 ≤ x.toInt ∧ x.toInt < ((2 ^ G : Nat) : Int)
  · by_cases hy : 0 ≤ y.toInt ∧ y.toInt < ((2 ^ K : Nat) : Int)
    · obtain ⟨S, hS, rfl⟩ := nI_get (show 0 ≤ x.toInt by omega) hx.2
      obtain ⟨b, hb, rfl⟩ := nI_get hy.1 hy.2
      rw [jn_nI (lt31 hS hG), jn_nI (lt31 hb (by omega))]
      obtain ⟨m', q1, q2, q3⟩ := s_enters (nI (tb N O G K S b)).toInt64 (rM_0 (jx_w1 m 63 0 0)) (by simp)
      refine ⟨m', (s1.w1 (by unfold wTM; omega)).tr (q3.mono (by unfold wRM wTM; omega)), Or.inl ⟨⟨hx, hy⟩, ?_, q2⟩⟩
      rw [s_maG_t h1 gg hx, Option.bind_some]
      refine (ifn ne10).trans ?_
      rw [s_maT_t h1 gg hy, Option.bind_some]
      refine (ifnn ne10).trans ?_
      have hlp := lp_up (fun i y => f_M_ban_28 (nI S) (nI b) y i (jx_w1 m 63 0 0)) (fun n => oI (bn (vldB N G K S b) O G n)) (S + 1) (fun n hn => ban_step h1 gg hb hS hn) 0 (Nat.zero_le _)
      refine Eq.trans (b := f_M_ban_28 (nI S) (nI b) (oI (bn (vldB N G K S b) O G (S + 1))) (nI (S + 1)) (jx_w1 m 63 0 0)) hlp ?_
      rw [e_M_ban_28, ban_is hG (fun g hg => (gg.2.2.1 g hg).2) hS]
      have hS2 : S + 1 < 2 ^ 31 := Nat.lt_of_le_of_lt hS (pw31 (show G < 31 by omega))
      refine (ifp (nI_lt (Nat.lt_succ_self S) hS2)).trans ?_
      show (f_M_enters (nI (tb N O G K S b)).toInt64 _).bind _ = _
      rw [q1, Option.bind_some]
      show (f_Int_bitCount (nI (tb N O G K S b)) m').bind _ = _
      rw [s_bc]
      rfl
    · refine ⟨_, s1, Or.inr ⟨fun q => hy q.2, ?_, rfl⟩⟩
      simp [s_maG_t h1 gg hx, s_maT_f h1 gg hy, e_M_ban_21]
  · refine ⟨_, s1, Or.inr ⟨fun q => hx q.1, ?_, rfl⟩⟩
    simp [s_maG_f h1 gg hx, e_M_ban_21]
end BAN
