/-! small questions about people and goods -/
theorem i_sub1 {x : Int32} {k : Nat} (h : lim x k) : (x - 1).toInt = x.toInt - 1 := by
  have h1 := h.1
  have hb := Int32.toInt_lt x
  rw [Int32.toInt_sub, show (1 : Int32).toInt = 1 from rfl]
  rw [Int.bmod_eq_of_le (by omega) (by omega)]
theorem s_Mine_isPerson (x : Int32) (m : jx_Mem) : f_Mine_isPerson x m = some (jb (0 ≤ x.toInt ∧ x.toInt < (m.1 3 6).toInt), m) := by
  simp only [e_Mine_isPerson, e_Mine_isPerson_16, e_Mine_isPerson_17, decide_eq_true_eq, i_lt, i_le, jb, Int32.reduceToInt]
  repeat' split
  all_goals first | rfl | omega | (exfalso; omega)
theorem s_M_isPerson {x : Int32} {m : jx_Mem} {k : Nat} (h : lim (m.1 63 6) k) : f_M_isPerson x m = some (jb (0 ≤ x.toInt ∧ x.toInt < (m.1 63 6).toInt), m) := by
  rw [e_M_isPerson, s_M_in, il_toInt, il_toInt, i_sub1 h, show (0 : Int64).toInt = 0 from rfl]
  rw [jb_congr (show (0 ≤ x.toInt ∧ x.toInt ≤ (m.1 63 6).toInt - 1) ↔ (0 ≤ x.toInt ∧ x.toInt < (m.1 63 6).toInt) by omega)]
  show (bif jx_01 (jb _) then _ else none) = _
  rw [jb_01]
  rfl
theorem w1_rd (m : jx_Mem) (a k : Nat) (v : Int32) (a' k' : Nat) : (jx_w1 m a k v).1 a' k' = if a' = a ∧ k' = k then v else m.1 a' k' := rfl
theorem w1_two (m : jx_Mem) (a k : Nat) (v : Int32) : (jx_w1 m a k v).2 = m.2 := rfl
theorem w2_rd (m : jx_Mem) (a k : Nat) (v : Int64) (a' k' : Nat) : (jx_w2 m a k v).2 a' k' = if a' = a ∧ k' = k then v else m.2 a' k' := rfl
theorem w2_one (m : jx_Mem) (a k : Nat) (v : Int64) : (jx_w2 m a k v).1 = m.1 := rfl
theorem jx_in_t {x : Int32} {n : Nat} (h0 : 0 ≤ x.toInt) (h1 : x.toInt < (n : Int)) : jx_in x n = true := jx_in_iff.mpr ⟨h0, h1⟩
/-- wall: both sides, as plain values -/
theorem s_F_wall {x v : Int32} {m : jx_Mem} : f_F_wall x v m = some (if (0 ≤ x.toInt ∧ x.toInt < 10) ∧ 0 ≤ v.toInt ∧ v.toInt ≤ 20 then (m.1 5 x.toNatClampNeg, jx_w1 m 5 x.toNatClampNeg v) else (-1, m)) := by
  by_cases h1 : 0 ≤ x.toInt ∧ x.toInt < 10
  · have hin : jx_in x 10 = true := jx_in_t h1.1 (show x.toInt < ((10 : Nat) : Int) from h1.2)
    by_cases h2 : 0 ≤ v.toInt ∧ v.toInt ≤ 20
    · have hv : (0 : Int32) ≤ v ∧ v ≤ 20 := ⟨i_le.mpr h2.1, i_le.mpr h2.2⟩
      rw [if_pos ⟨h1, h2⟩]
      simp [e_F_wall, e_Mine_setWall, s_Mine_isPlace, s_F_within, jb_t h1, jb_t hv, hin]
    · have hv : ¬ ((0 : Int32) ≤ v ∧ v ≤ 20) := fun q => h2 ⟨i_le.mp q.1, i_le.mp q.2⟩
      rw [if_neg (fun q => h2 q.2)]
      simp [e_F_wall, e_Mine_setWall, s_Mine_isPlace, s_F_within, jb_t h1, jb_f hv, e_Mine_setWall_18]
  · rw [if_neg (fun q => h1 q.1)]
    simp [e_F_wall, e_Mine_setWall, s_Mine_isPlace, jb_f h1, e_Mine_setWall_18]
