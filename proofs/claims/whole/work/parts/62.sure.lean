/-! sure, keep: who is kept apart by some TESTS -/
def bc (x0 : Int32) : Int32 := (((((((x0 - ((jx_ushr x0 1) &&& 1431655765)) &&& 858993459) + ((jx_ushr (x0 - ((jx_ushr x0 1) &&& 1431655765)) 2) &&& 858993459)) + (jx_ushr (((x0 - ((jx_ushr x0 1) &&& 1431655765)) &&& 858993459) + ((jx_ushr (x0 - ((jx_ushr x0 1) &&& 1431655765)) 2) &&& 858993459)) 4)) &&& 252645135) + (jx_ushr (((((x0 - ((jx_ushr x0 1) &&& 1431655765)) &&& 858993459) + ((jx_ushr (x0 - ((jx_ushr x0 1) &&& 1431655765)) 2) &&& 858993459)) + (jx_ushr (((x0 - ((jx_ushr x0 1) &&& 1431655765)) &&& 858993459) + ((jx_ushr (x0 - ((jx_ushr x0 1) &&& 1431655765)) 2) &&& 858993459)) 4)) &&& 252645135) 8)) + (jx_ushr ((((((x0 - ((jx_ushr x0 1) &&& 1431655765)) &&& 858993459) + ((jx_ushr (x0 - ((jx_ushr x0 1) &&& 1431655765)) 2) &&& 858993459)) + (jx_ushr (((x0 - ((jx_ushr x0 1) &&& 1431655765)) &&& 858993459) + ((jx_ushr (x0 - ((jx_ushr x0 1) &&& 1431655765)) 2) &&& 858993459)) 4)) &&& 252645135) + (jx_ushr (((((x0 - ((jx_ushr x0 1) &&& 1431655765)) &&& 858993459) + ((jx_ushr (x0 - ((jx_ushr x0 1) &&& 1431655765)) 2) &&& 858993459)) + (jx_ushr (((x0 - ((jx_ushr x0 1) &&& 1431655765)) &&& 858993459) + ((jx_ushr (x0 - ((jx_ushr x0 1) &&& 1431655765)) 2) &&& 858993459)) 4)) &&& 252645135) 8)) 16)) &&& 63
theorem s_bc (x : Int32) (m : jx_Mem) : f_Int_bitCount x m = some (bc x, m) := e_Int_bitCount x m
theorem ifnp {α : Type} {p : Prop} [Decidable p] {x y : α} (h : p) : (if decide (¬ p) = true then x else y) = y := if_neg (dn (fun z => z h))
theorem ifnn {α : Type} {p : Prop} [Decidable p] {x y : α} (h : ¬ p) : (if decide (¬ p) = true then x else y) = x := if_pos (decide_eq_true h)
def eqT (N : Nat → Nat → Nat) (by' g o : Nat) : Nat → Bool
  | 0 => true
  | t + 1 => eqT N by' g o t && (!by'.testBit t || N o t == N g t)
theorem eqT_s (N : Nat → Nat → Nat) (by' g o t : Nat) : eqT N by' g o (t + 1) = (eqT N by' g o t && (!by'.testBit t || N o t == N g t)) := rfl
theorem eqT_iff {N : Nat → Nat → Nat} {by' g o : Nat} : ∀ {k : Nat}, eqT N by' g o k = true ↔ ∀ t, t < k → by'.testBit t = true → N o t = N g t := by
  intro k
  induction k with
  | zero => exact ⟨fun _ t ht => absurd ht (Nat.not_lt_zero t), fun _ => rfl⟩
  | succ k ih =>
    rw [eqT_s, Bool.and_eq_true, ih]
    constructor
    · intro ⟨h1, h2⟩ t ht hb
      by_cases c : t = k
      · subst c
        simpa [hb] using h2
      · exact h1 t (by omega) hb
    · intro h
      refine ⟨fun t ht => h t (by omega), ?_⟩
      by_cases c : by'.testBit k = true
      · simp [h k (by omega) c]
      · simp [c]
/-- those of a set that answer as a GOOD does -/
def sa (N : Nat → Nat → Nat) (G K S by' g : Nat) : Nat := bs (fun o => S.testBit o && eqT N by' g o K) G
/-- whether another one answers as it does -/
def mx (N : Nat → Nat → Nat) (K S by' g : Nat) : Nat → Bool
  | 0 => false
  | o + 1 => mx N K S by' g o || (!(o == g) && (S.testBit o && eqT N by' g o K))
theorem mx_s (N : Nat → Nat → Nat) (K S by' g o : Nat) : mx N K S by' g (o + 1) = (mx N K S by' g o || (!(o == g) && (S.testBit o && eqT N by' g o K))) := rfl
theorem mx_iff {N : Nat → Nat → Nat} {K S by' g : Nat} : ∀ {n : Nat}, mx N K S by' g n = true ↔ ∃ o, o < n ∧ o ≠ g ∧ S.testBit o = true ∧ eqT N by' g o K = true := by
  intro n
  induction n with
  | zero => exact ⟨fun h => (by cases h), fun ⟨o, ho, _⟩ => absurd ho (Nat.not_lt_zero o)⟩
  | succ n ih =>
    rw [mx_s, Bool.or_eq_true, ih]
    constructor
    · rintro (⟨o, h1, h2⟩ | h)
      · exact ⟨o, by omega, h2⟩
      · simp only [Bool.and_eq_true, Bool.not_eq_true', beq_eq_false_iff_ne] at h
        exact ⟨n, by omega, h.1, h.2⟩
    · rintro ⟨o, h1, h2, h3⟩
      by_cases c : o = n
      · subst c
        refine Or.inr ?_
        simp [h2, h3]
      · exact Or.inl ⟨o, by omega, h2, h3⟩
/-- those that are mixed up -/
def mxS (N : Nat → Nat → Nat) (G K S by' : Nat) : Nat := bs (fun g => S.testBit g && mx N K S by' g G) G
/-- those that are told -/
def tlS (N : Nat → Nat → Nat) (G K S by' : Nat) : Nat := bs (fun g => S.testBit g && !mx N K S by' g G) G
theorem sa_one {N : Nat → Nat → Nat} {G K S by' g : Nat} (hg : g < G) (hS : S.testBit g = true) : sa N G K S by' g = 2 ^ g ↔ mx N K S by' g G = false := by
  have hgg : eqT N by' g g K = true := eqT_iff.mpr (fun _ _ _ => rfl)
  constructor
  · intro h
    cases hm : mx N K S by' g G with
    | false => rfl
    | true =>
      obtain ⟨o, h1, h2, h3, h4⟩ := mx_iff.mp hm
      have h5 : (sa N G K S by' g).testBit o = true := by
        unfold sa
        rw [bs_tb]
        simp [h1, h3, h4]
      rw [h, Nat.testBit_two_pow] at h5
      exact absurd (of_decide_eq_true h5).symm h2
  · intro h
    have h0 : ∀ o, o < G → o ≠ g → S.testBit o = true → ¬ eqT N by' g o K = true := fun o h1 h2 h3 h4 => by
      rw [mx_iff.mpr ⟨o, h1, h2, h3, h4⟩] at h; cases h
    refine (bs_eq (Nat.pow_lt_pow_right (by omega) hg) (fun i hi => ?_)).symm
    rw [Nat.testBit_two_pow]
    by_cases c : g = i
    · subst c
      simp [hS, hgg]
    · rw [decide_eq_false c]
      by_cases d : S.testBit i = true
      · have := h0 i hi (fun z => c z.symm) d
        simp [this]
      · simp [d]
section SURE
variable {m m' : jx_Mem} {G K : Nat} {O C : Nat → Nat} {N : Nat → Nat → Nat}
theorem s_aG_t (h : goodsF m G K O C N) (gg : gGoods G K O C N) {x : Int32} (hx : 1 ≤ x.toInt ∧ x.toInt < ((2 ^ G : Nat) : Int)) : f_Goods_areGoods x m = some (1, m) := by rw [s_areGoods h gg, jb_t hx]
theorem s_aG_f (h : goodsF m G K O C N) (gg : gGoods G K O C N) {x : Int32} (hx : ¬ (1 ≤ x.toInt ∧ x.toInt < ((2 ^ G : Nat) : Int))) : f_Goods_areGoods x m = some (0, m) := by rw [s_areGoods h gg, jb_f hx]
theorem s_maG_t (h : goodsM m G K O C N) (gg : gGoods G K O C N) {x : Int32} (hx : 1 ≤ x.toInt ∧ x.toInt < ((2 ^ G : Nat) : Int)) : f_M_areGoods x m = some (1, m) := by rw [s_mareGoods h gg, jb_t hx]
theorem s_maG_f (h : goodsM m G K O C N) (gg : gGoods G K O C N) {x : Int32} (hx : ¬ (1 ≤ x.toInt ∧ x.toInt < ((2 ^ G : Nat) : Int))) : f_M_areGoods x m = some (0, m) := by rw [s_mareGoods h gg, jb_f hx]
theorem s_aT_t (h : goodsF m G K O C N) (gg : gGoods G K O C N) {x : Int32} (hx : 0 ≤ x.toInt ∧ x.toInt < ((2 ^ K : Nat) : Int)) : f_Goods_areTests x m = some (1, m) := by rw [s_areTests h gg, jb_t hx]
theorem s_aT_f (h : goodsF m G K O C N) (gg : gGoods G K O C N) {x : Int32} (hx : ¬ (0 ≤ x.toInt ∧ x.toInt < ((2 ^ K : Nat) : Int))) : f_Goods_areTests x m = some (0, m) := by rw [s_areTests h gg, jb_f hx]
theorem s_maT_t (h : goodsM m G K O C N) (gg : gGoods G K O C N) {x : Int32} (hx : 0 ≤ x.toInt ∧ x.toInt < ((2 ^ K : Nat) : Int)) : f_M_areTests x m = some (1, m) := by rw [s_mareTests h gg, jb_t hx]
theorem s_maT_f (h : goodsM m G K O C N) (gg : gGoods G K O C N) {x : Int32} (hx : ¬ (0 ≤ x.toInt ∧ x.toInt < ((2 ^ K : Nat) : Int))) : f_M_areTests x m = some (0, m) := by rw [s_mareTests h gg, jb_f hx]
theorem lt31 {S G : Nat} (h : S < 2 ^ G) (hG : G ≤ 10) : S < 2 ^ 31 := Nat.lt_of_lt_of_le h (Nat.pow_le_pow_right (by omega) (by omega))
theorem s_sameAs (h : goodsF m G K O C N) (gg : gGoods G K O C N) {g b S : Nat} (hg : g < G) (hb : b < 2 ^ K) (hS : S < 2 ^ G) : f_Goods_sameAs (nI g) (nI b) (nI S) m = some (nI (sa N G K S b g), m) := by
  have hG := gg.1
  have hK := gg.2.1
  rw [e_Goods_sameAs]
  have e0 : S = bs (fun o => S.testBit o && eqT N b g o 0) G := bs_eq hS (fun i _ => by simp [eqT])
  have h1 := lp_up (fun i x => f_Goods_sameAs_6 (nI g) (nI b) x i m) (fun n => nI (bs (fun o => S.testBit o && eqT N b g o n) G)) K (by
    intro n hn
    rw [e_Goods_sameAs_6, h.2.1]
    refine (ifn (nI_ge (a := n) (b := K) hn (by omega))).trans ?_
    by_cases c : b.testBit n = true
    · rw [s_has_t (lt31 hb (by omega)) (by omega) c, Option.bind_some]
      refine (ifn ne10).trans ?_
      have hN := gg.2.2.2.2.1 g n
      rw [s_answerOf h gg hg hn, Option.bind_some, s_part h gg (bs_lt _ _) hn (by omega), Option.bind_some, e_Goods_sameAs_41, nI_1]
      dsimp only
      congr 2
      unfold pt
      apply bs_congr
      intro i hi
      rw [bs_tb, eqT_s, c]
      simp [hi, Bool.and_assoc]
    · have c2 : b.testBit n = false := by simpa using c
      rw [s_has_f (lt31 hb (by omega)) (by omega) c2, Option.bind_some]
      refine (ifp eq00).trans ?_
      rw [e_Goods_sameAs_41, nI_1]
      congr 2
      apply bs_congr
      intro i hi
      rw [eqT_s, c2]
      simp) 0 (by omega)
  have h2 : f_Goods_sameAs_6 (nI g) (nI b) (nI S) 0 m = f_Goods_sameAs_6 (nI g) (nI b) (nI (bs (fun o => S.testBit o && eqT N b g o 0) G)) (nI 0) m := by rw [← e0]; rfl
  rw [h2]
  refine h1.trans ?_
  rw [e_Goods_sameAs_6, h.2.1]
  exact ifp (nI_le (Nat.le_refl _) (by omega))
theorem s_toldBy (h : goodsF m G K O C N) (gg : gGoods G K O C N) {b S : Nat} (hb : b < 2 ^ K) (hS : S < 2 ^ G) : f_Goods_toldBy (nI b) (nI S) m = some (nI (tlS N G K S b), m) := by
  have hG := gg.1
  have hK := gg.2.1
  rw [e_Goods_toldBy]
  have h1 := lp_up (fun i x => f_Goods_toldBy_5 (nI b) (nI S) x i m) (fun n => nI (bs (fun g => S.testBit g && !mx N K S b g G) n)) G (by
    intro n hn
    rw [e_Goods_toldBy_5, h.1]
    refine (ifn (nI_ge (a := n) (b := G) hn (by omega))).trans ?_
    by_cases c : S.testBit n = true
    · rw [s_has_t (lt31 hS hG) (by omega) c, Option.bind_some]
      refine (ifn ne10).trans ?_
      rw [s_sameAs h gg hn hb hS, Option.bind_some]
      dsimp only
      rw [sh1 (show n < 31 by omega)]
      have hl := lt31 (bs_lt (fun o => S.testBit o && eqT N b n o K) G) hG
      have hl2 := pw31 (show n < 31 by omega)
      cases hm : mx N K S b n G with
      | false =>
        refine (ifn (fun z => z (by rw [(sa_one hn c).mpr hm]))).trans ?_
        rw [e_Goods_toldBy_45, nI_1, ← sh1 (show n < 31 by omega), or_bs_t (by omega) (by simp [c, hm])]
      | true =>
        refine (ifnn (fun z => ?_)).trans ?_
        · have := (sa_one hn c).mp ((nI_eq hl hl2).mp z)
          rw [hm] at this; cases this
        · rw [e_Goods_toldBy_45, nI_1, bs_f (by simp [hm])]
    · have c2 : S.testBit n = false := by simpa using c
      rw [s_has_f (lt31 hS hG) (by omega) c2, Option.bind_some]
      refine (ifp eq00).trans ?_
      rw [e_Goods_toldBy_45, nI_1, bs_f (by simp [c2])]) 0 (by omega)
  refine h1.trans ?_
  rw [e_Goods_toldBy_5, h.1]
  exact ifp (nI_le (Nat.le_refl _) (by omega))
def bi (b : Bool) : Int32 := if b = true then 1 else 0
theorem bi_01 (b : Bool) : jx_01 (bi b) = true := by cases b <;> rfl
theorem and_dif {N : Nat → Nat → Nat} {K a o b : Nat} (hK : K ≤ 6) (hb : b < 2 ^ K) : (nI (bs (dif N a o) K) &&& nI b = 0) ↔ eqT N b a o K = true := by
  have hl : bs (dif N a o) K &&& b < 2 ^ 31 := Nat.lt_of_le_of_lt Nat.and_le_right (lt31 hb (by omega))
  rw [fa_and, show (0 : Int32) = nI 0 from rfl, nI_eq hl (by omega), eqT_iff]
  constructor
  · intro h t ht hbt
    have h1 : (bs (dif N a o) K &&& b).testBit t = false := by rw [h]; simp
    rw [Nat.testBit_and, bs_tb, hbt] at h1
    simp [ht, dif] at h1
    exact h1.symm
  · intro h
    apply Nat.eq_of_testBit_eq
    intro t
    rw [Nat.testBit_and, bs_tb, Nat.zero_testBit]
    by_cases ht : t < K
    · by_cases hbt : b.testBit t = true
      · simp [dif, h t ht hbt]
      · simp [hbt]
    · simp [ht]
theorem s_isMixed (h : goodsM m G K O C N) (gg : gGoods G K O C N) {g b S : Nat} (hg : g < 10) (hb : b < 2 ^ K) (hS : S < 2 ^ G) : f_M_isMixed (nI g) (nI S) (nI b) m = some (bi (mx N K S b g G), m) := by
  have hG := gg.1
  have hK := gg.2.1
  rw [e_M_isMixed]
  have h1 := lp_up (fun i x => f_M_isMixed_6 (nI g) (nI S) (nI b) x i m) (fun n => bi (mx N K S b g n)) G (by
    intro n hn
    rw [e_M_isMixed_6, h.1]
    refine (ifn (nI_ge (a := n) (b := G) hn (by omega))).trans ?_
    cases hm : mx N K S b g n with
    | true =>
      refine (ifp ne10).trans ?_
      rw [e_M_isMixed_47, e_M_isMixed_52, nI_1, mx_s, hm]
      rfl
    | false =>
      refine (ifn (fun z => z eq00)).trans ?_
      by_cases c : n = g
      · refine (ifp (by rw [c])).trans ?_
        rw [e_M_isMixed_51, e_M_isMixed_52, nI_1, mx_s, hm, beq_iff_eq.mpr c]
        rfl
      · refine (ifn (fun z => c ((nI_eq (by omega) (by omega)).mp z))).trans ?_
        by_cases d : S.testBit n = true
        · rw [s_mhas_t (lt31 hS hG) (by omega) d, Option.bind_some]
          refine (ifn ne10).trans ?_
          rw [s_parted h gg hg (by omega), Option.bind_some]
          cases he : eqT N b g n K with
          | true =>
            refine (ifn (fun z => z ((and_dif hK hb).mpr he))).trans ?_
            rw [e_M_isMixed_47, e_M_isMixed_52, nI_1, mx_s, hm, he, d, beq_false_of_ne c]
            rfl
          | false =>
            refine (ifnn (fun z => by rw [(and_dif hK hb).mp z] at he; cases he)).trans ?_
            rw [e_M_isMixed_51, e_M_isMixed_52, nI_1, mx_s, hm, he, d, beq_false_of_ne c]
            rfl
        · have d2 : S.testBit n = false := by simpa using d
          rw [s_mhas_f (lt31 hS hG) (by omega) d2, Option.bind_some]
          refine (ifp eq00).trans ?_
          rw [e_M_isMixed_51, e_M_isMixed_52, nI_1, mx_s, hm, d2, beq_false_of_ne c]
          rfl) 0 (by omega)
  refine h1.trans ?_
  rw [e_M_isMixed_6, h.1]
  refine (ifp (nI_le (Nat.le_refl _) (by omega))).trans ?_
  rw [bi_01]
  rfl
theorem s_mixed (h : goodsM m G K O C N) (gg : gGoods G K O C N) {b S : Nat} (hb : b < 2 ^ K) (hS : S < 2 ^ G) : f_M_mixed (nI S) (nI b) m = some (nI (mxS N G K S b), m) := by
  have hG := gg.1
  have hK := gg.2.1
  rw [e_M_mixed]
  have h1 := lp_up (fun i x => f_M_mixed_5 (nI S) (nI b) x i m) (fun n => nI (bs (fun g => S.testBit g && mx N K S b g G) n)) G (by
    intro n hn
    rw [e_M_mixed_5, h.1]
    refine (ifn (nI_ge (a := n) (b := G) hn (by omega))).trans ?_
    by_cases c : S.testBit n = true
    · rw [s_mhas_t (lt31 hS hG) (by omega) c, Option.bind_some]
      refine (ifn ne10).trans ?_
      rw [s_isMixed h gg (by omega) hb hS, Option.bind_some]
      cases hm : mx N K S b n G with
      | true =>
        refine (ifn ne10).trans ?_
        rw [e_M_mixed_43, nI_1, or_bs_t (by omega) (by simp [c, hm])]
      | false =>
        refine (ifp eq00).trans ?_
        rw [e_M_mixed_42, e_M_mixed_43, nI_1, or_bs_f (by omega) (by simp [hm])]
    · have c2 : S.testBit n = false := by simpa using c
      rw [s_mhas_f (lt31 hS hG) (by omega) c2, Option.bind_some]
      refine (ifp eq00).trans ?_
      rw [e_M_mixed_42, e_M_mixed_43, nI_1, or_bs_f (by omega) (by simp [c2])]) 0 (by omega)
  refine h1.trans ?_
  rw [e_M_mixed_5, h.1]
  exact ifp (nI_le (Nat.le_refl _) (by omega))
theorem tl_mx {N : Nat → Nat → Nat} {G K S b : Nat} (hS : S < 2 ^ G) (hG : G ≤ 10) : nI S &&& (nI (mxS N G K S b) ^^^ (-1)) = nI (tlS N G K S b) := by
  rw [and_not hS (by omega)]
  congr 1
  apply bs_congr
  intro i hi
  unfold mxS
  rw [bs_tb]
  cases S.testBit i <;> simp [hi]
theorem tl_all {N : Nat → Nat → Nat} {G K S b : Nat} (hS : S < 2 ^ G) : tlS N G K S b = S ↔ mxS N G K S b = 0 := by
  constructor
  · intro h
    apply Nat.eq_of_testBit_eq
    intro i
    unfold mxS
    rw [bs_tb, Nat.zero_testBit]
    by_cases hi : i < G
    · have h1 : (tlS N G K S b).testBit i = S.testBit i := by rw [h]
      unfold tlS at h1
      rw [bs_tb] at h1
      cases c : S.testBit i
      · simp
      · rw [c] at h1
        simp [hi] at h1
        simp [h1]
    · simp [hi]
  · intro h
    refine (bs_eq hS (fun i hi => ?_)).symm
    have h1 : (mxS N G K S b).testBit i = false := by rw [h]; simp
    unfold mxS at h1
    rw [bs_tb] at h1
    cases c : S.testBit i
    · simp
    · rw [c] at h1
      simp [hi] at h1
      simp [h1]
/-- what a set of GOODS and one of TESTS may be -/
def cGT (x y : Int32) (G K : Nat) : Prop := (1 ≤ x.toInt ∧ x.toInt < ((2 ^ G : Nat) : Int)) ∧ (0 ≤ y.toInt ∧ y.toInt < ((2 ^ K : Nat) : Int))
theorem F_sure (h : goodsF m G K O C N) (gg : gGoods G K O C N) (x y : Int32) : ∃ m', sm wRF m m' ∧
    ((cGT x y G K ∧ f_F_sure x y m = some (bc (nI (tlS N G K (jn x) (jn y))), m') ∧ rF m' [(nI (tlS N G K (jn x) (jn y))).toInt64]) ∨ (¬ cGT x y G K ∧ f_F_sure x y m = some (-1, m') ∧ m' = m)) := by
  have hG := gg.1
  have hK := gg.2.1
  rw [e_F_sure]
  by_cases hx : 1 ≤ x.toInt ∧ x.toInt < ((2 ^ G : Nat) : Int)
  · by_cases hy : 0 ≤ y.toInt ∧ y.toInt < ((2 ^ K : Nat) : Int)
    · obtain ⟨S, hS, rfl⟩ := nI_get (show 0 ≤ x.toInt by omega) hx.2
      obtain ⟨b, hb, rfl⟩ := nI_get hy.1 hy.2
      rw [jn_nI (lt31 hS hG), jn_nI (lt31 hb (by omega))]
      obtain ⟨m', q1, q2, q3⟩ := s_tell1 (nI (tlS N G K S b)).toInt64 m
      refine ⟨m', q3, Or.inl ⟨⟨hx, hy⟩, ?_, q2⟩⟩
      simp [s_aG_t h gg hx, s_aT_t h gg hy, s_toldBy h gg hb hS, q1, s_bc]
    · refine ⟨m, sm.rf, Or.inr ⟨fun q => hy q.2, ?_, rfl⟩⟩
      simp [s_aG_t h gg hx, s_aT_f h gg hy, e_F_sure_22]
  · refine ⟨m, sm.rf, Or.inr ⟨fun q => hx q.1, ?_, rfl⟩⟩
    simp [s_aG_f h gg hx, e_F_sure_22]
/-- what a telling call of the model writes: its row, what was thrown -/
def wTM (a k : Nat) : Prop := (a = 63 ∧ (k = 0 ∨ k = 1)) ∨ a = 64
theorem M_sure (h : goodsM m G K O C N) (gg : gGoods G K O C N) (x y : Int32) : ∃ m', sm wTM m m' ∧
    ((cGT x y G K ∧ f_M_sure x y m = some (bc (nI (tlS N G K (jn x) (jn y))), m') ∧ rM m' [(nI (tlS N G K (jn x) (jn y))).toInt64]) ∨ (¬ cGT x y G K ∧ f_M_sure x y m = some (-1, m') ∧ m' = jx_w1 m 63 0 0)) := by
  have hG := gg.1
  have hK := gg.2.1
  have h1 := goodsM_th h (v := 0)
  have s1 : sm wTM m (jx_w1 m 63 0 0) := sm_w1 (by unfold wTM; omega)
  rw [e_M_sure]
  dsimp only
  by_cases hx : 1 ≤ x.toInt ∧ x.toInt < ((2 ^ G : Nat) : Int)
  · by_cases hy : 0 ≤ y.toInt ∧ y.toInt < ((2 ^ K : Nat) : Int)
    · obtain ⟨S, hS, rfl⟩ := nI_get (show 0 ≤ x.toInt by omega) hx.2
      obtain ⟨b, hb, rfl⟩ := nI_get hy.1 hy.2
      rw [jn_nI (lt31 hS hG), jn_nI (lt31 hb (by omega))]
      obtain ⟨m', q1, q2, q3⟩ := s_enters (nI (tlS N G K S b)).toInt64 (rM_0 (jx_w1 m 63 0 0)) (by simp)
      refine ⟨m', (s1.w1 (by unfold wTM; omega)).tr (q3.mono (by unfold wRM wTM; omega)), Or.inl ⟨⟨hx, hy⟩, ?_, q2⟩⟩
      rw [s_maG_t h1 gg hx, Option.bind_some]
      refine (ifn ne10).trans ?_
      rw [s_maT_t h1 gg hy, Option.bind_some]
      refine (ifnn ne10).trans ?_
      rw [s_mixed h1 gg hb hS, Option.bind_some]
      dsimp only
      rw [tl_mx hS hG, q1, Option.bind_some, s_bc]
      rfl
    · refine ⟨_, s1, Or.inr ⟨fun q => hy q.2, ?_, rfl⟩⟩
      simp [s_maG_t h1 gg hx, s_maT_f h1 gg hy, e_M_sure_21]
  · refine ⟨_, s1, Or.inr ⟨fun q => hx q.1, ?_, rfl⟩⟩
    simp [s_maG_f h1 gg hx, e_M_sure_21]
end SURE
