/-! numbers, and the small questions that all methods ask -/
abbrev jn (x : Int32) : Nat := x.toNatClampNeg
/-- a number from 0 to k -/
def lim (x : Int32) (k : Nat) : Prop := 0 ≤ x.toInt ∧ x.toInt ≤ (k : Int)
theorem lim_nI {x : Int32} {k : Nat} (h : lim x k) : x = nI (jn x) := by
  have h1 : (jn x : Int) = x.toInt := by
    show ((x.toInt.toNat : Nat) : Int) = x.toInt
    have := h.1
    omega
  apply Int32.toInt_inj.mp
  have hb := Int32.toInt_lt x
  rw [nI_toInt (by omega)]
  exact h1.symm
theorem lim_jn {x : Int32} {k : Nat} (h : lim x k) : (jn x : Int) = x.toInt := by
  show ((x.toInt.toNat : Nat) : Int) = x.toInt
  have := h.1
  omega
theorem lim_le {x : Int32} {k : Nat} (h : lim x k) : jn x ≤ k := by
  have h1 := lim_jn h
  have h2 := h.2
  omega
theorem lim_of {n k : Nat} (h : n ≤ k) (hk : k < 2 ^ 31) : lim (nI n) k := by
  unfold lim
  rw [nI_toInt (by omega)]
  omega
theorem jn_nI {n : Nat} (h : n < 2 ^ 31) : jn (nI n) = n := nI_clamp h
theorem i_lt {x y : Int32} : x < y ↔ x.toInt < y.toInt := Int32.lt_iff_toInt_lt
theorem i_le {x y : Int32} : x ≤ y ↔ x.toInt ≤ y.toInt := Int32.le_iff_toInt_le
theorem i_eq {x y : Int32} : x = y ↔ x.toInt = y.toInt := Int32.toInt_inj.symm
theorem l_lt {x y : Int64} : x < y ↔ x.toInt < y.toInt := Int64.lt_iff_toInt_lt
theorem l_le {x y : Int64} : x ≤ y ↔ x.toInt ≤ y.toInt := Int64.le_iff_toInt_le
theorem l_eq {x y : Int64} : x = y ↔ x.toInt = y.toInt := Int64.toInt_inj.symm
theorem il_toInt (x : Int32) : x.toInt64.toInt = x.toInt := Int32.toInt_toInt64 x
/-- a truth as a number -/
def jb (p : Prop) [Decidable p] : Int32 := if p then 1 else 0
theorem jb_01 (p : Prop) [Decidable p] : jx_01 (jb p) = true := by unfold jb; split <;> rfl
theorem jb_t {p : Prop} [Decidable p] (h : p) : jb p = 1 := if_pos h
theorem jb_f {p : Prop} [Decidable p] (h : ¬ p) : jb p = 0 := if_neg h
theorem jb_congr {p q : Prop} [Decidable p] [Decidable q] (h : p ↔ q) : jb p = jb q := by
  by_cases hq : q
  · rw [jb_t hq, jb_t (h.mpr hq)]
  · rw [jb_f hq, jb_f (fun z => hq (h.mp z))]
theorem jb_eq0 {p : Prop} [Decidable p] : jb p = 0 ↔ ¬ p := by unfold jb; split <;> simp_all
theorem jx_in_iff {x : Int32} {n : Nat} : jx_in x n = true ↔ 0 ≤ x.toInt ∧ x.toInt < (n : Int) := by
  unfold jx_in
  simp only [Bool.and_eq_true, Bool.not_eq_true', decide_eq_false_iff_not, decide_eq_true_eq, i_lt]
  show ¬ x.toInt < (0 : Int32).toInt ∧ x.toInt.toNat < n ↔ _
  rw [show (0 : Int32).toInt = 0 from rfl]
  omega
theorem s_F_within (x lo hi : Int32) (m : jx_Mem) : f_F_within x lo hi m = some (jb (lo ≤ x ∧ x ≤ hi), m) := by
  rw [e_F_within]
  by_cases h1 : x < lo
  · rw [if_pos (decide_eq_true h1), e_F_within_14, e_F_within_15, jb_f (fun h => by have := i_le.mp h.1; have := i_lt.mp h1; omega)]
    rfl
  · rw [if_neg (by simpa using h1)]
    by_cases h2 : hi < x
    · rw [if_pos (decide_eq_true h2), e_F_within_14, e_F_within_15, jb_f (fun h => by have := i_le.mp h.2; have := i_lt.mp h2; omega)]
      rfl
    · rw [if_neg (by simpa using h2), e_F_within_15, jb_t ⟨by rw [i_le]; rw [i_lt] at h1; omega, by rw [i_le]; rw [i_lt] at h2; omega⟩]
      rfl
theorem s_Mine_isPlace (x : Int32) (m : jx_Mem) : f_Mine_isPlace x m = some (jb (0 ≤ x.toInt ∧ x.toInt < 10), m) := by
  rw [e_Mine_isPlace]
  by_cases h1 : x < 0
  · rw [if_pos (decide_eq_true h1), e_Mine_isPlace_14, e_Mine_isPlace_15, jb_f (fun h => by have := i_lt.mp h1; rw [show (0 : Int32).toInt = 0 from rfl] at this; omega)]
    rfl
  · rw [if_neg (by simpa using h1)]
    by_cases h2 : 10 ≤ x
    · rw [if_pos (decide_eq_true h2), e_Mine_isPlace_14, e_Mine_isPlace_15, jb_f (fun h => by have := i_le.mp h2; rw [show (10 : Int32).toInt = 10 from rfl] at this; omega)]
      rfl
    · rw [if_neg (by simpa using h2), e_Mine_isPlace_15, jb_t ⟨by rw [i_lt, show (0 : Int32).toInt = 0 from rfl] at h1; omega, by rw [i_le, show (10 : Int32).toInt = 10 from rfl] at h2; omega⟩]
      rfl
theorem lg_neg {x y : Int64} : lg_cmp x y < 0 ↔ x < y := by
  unfold lg_cmp
  by_cases h : x > y
  · rw [if_pos h]
    constructor
    · intro q; exact absurd q (by decide)
    · intro q; have h1 := l_lt.mp h; have h2 := l_lt.mp q; omega
  · rw [if_neg h]
    by_cases h2 : x = y
    · rw [if_pos h2]
      constructor
      · intro q; exact absurd q (by decide)
      · intro q; rw [h2] at q; have := l_lt.mp q; omega
    · rw [if_neg h2]
      constructor
      · intro _
        rw [gt_iff_lt, l_lt] at h
        rw [l_eq] at h2
        exact l_lt.mpr (by omega)
      · intro _; decide
theorem lg_pos {x y : Int64} : 0 < lg_cmp x y ↔ y < x := by
  unfold lg_cmp
  by_cases h : x > y
  · rw [if_pos h]
    exact ⟨fun _ => h, fun _ => by decide⟩
  · rw [if_neg h]
    by_cases h2 : x = y
    · rw [if_pos h2]
      exact ⟨fun q => absurd q (by decide), fun q => absurd q h⟩
    · rw [if_neg h2]
      exact ⟨fun q => absurd q (by decide), fun q => absurd q h⟩
theorem s_M_in (x lo hi : Int64) (m : jx_Mem) : f_M_in x lo hi m = some (jb (lo.toInt ≤ x.toInt ∧ x.toInt ≤ hi.toInt), m) := by
  rw [e_M_in]
  by_cases h1 : x < lo
  · rw [if_pos (decide_eq_true (lg_neg.mpr h1)), e_M_in_17, e_M_in_18, jb_f (fun h => by have := l_lt.mp h1; omega)]
    rfl
  · rw [if_neg (by simpa using fun q => h1 (lg_neg.mp q))]
    by_cases h2 : hi < x
    · rw [if_pos (decide_eq_true (lg_pos.mpr h2)), e_M_in_17, e_M_in_18, jb_f (fun h => by have := l_lt.mp h2; omega)]
      rfl
    · rw [if_neg (by simpa using fun q => h2 (lg_pos.mp q)), e_M_in_18, jb_t ⟨by rw [l_lt] at h1; omega, by rw [l_lt] at h2; omega⟩]
      rfl
theorem s_M_isPlace (x : Int32) (m : jx_Mem) : f_M_isPlace x m = some (jb (0 ≤ x.toInt ∧ x.toInt < 10), m) := by
  rw [e_M_isPlace, s_M_in]
  rw [show (0 : Int64).toInt = 0 from rfl, show (9 : Int64).toInt = 9 from rfl, il_toInt]
  rw [jb_congr (show (0 ≤ x.toInt ∧ x.toInt ≤ 9) ↔ (0 ≤ x.toInt ∧ x.toInt < 10) by omega)]
  show (bif jx_01 (jb _) then _ else none) = _
  rw [jb_01]
  rfl

theorem t_isGood (x : Int32) (m : jx_Mem) : f_Goods_isGood x m = some (jb (0 ≤ x.toInt ∧ x.toInt < (m.1 9 4).toInt), m) := by
  simp only [e_Goods_isGood, e_Goods_isGood_16, e_Goods_isGood_17, decide_eq_true_eq, i_lt, i_le, jb, Int32.reduceToInt]
  repeat' split
  all_goals first | rfl | omega | (exfalso; omega)
