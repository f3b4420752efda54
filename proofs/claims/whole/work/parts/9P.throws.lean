/-! the three that may throw -/
section THROWS
variable {m : jx_Mem}
theorem InvP_th2 {P : Nat} (h : InvP P m) (v w : Int32) : InvP P (jx_w1 (jx_w1 m 63 0 v) 63 0 w) := InvP_th (InvP_th h v) w
theorem T_of (h : Inv m) (x y : Int32) : ∃ P, m.1 3 6 = nI P ∧ P ≤ 8 ∧ ((cOf x y P ∧ ∃ v m2, f_F_of x y m = some (v, m) ∧ f_M_of x y m = some (v, m2) ∧ m2.1 63 0 = 0 ∧ Inv m2) ∨ (¬ cOf x y P ∧ ∃ m2, f_M_of x y m = some (0, m2) ∧ m2.1 63 0 = 1 ∧ Inv m2)) := by
  obtain ⟨P, h⟩ := h
  obtain ⟨T, D, W, A, U, L, gm, mF, mM⟩ := h.1
  refine ⟨P, mF.2.1, gm.2.1, ?_⟩
  rcases M_of mM gm x y with ⟨c, e2⟩ | ⟨c, e2⟩
  · exact Or.inl ⟨c, _, _, F_of mF gm c, e2, rfl, Inv_of (InvP_th h 0)⟩
  · exact Or.inr ⟨c, _, e2, rfl, Inv_of (InvP_th2 h 0 1)⟩
theorem T_thing (h : Inv m) (x y : Int32) : ∃ I, m.1 26 3 = nI I ∧ I ≤ 12 ∧ ((cThing x y I ∧ ∃ v m2, f_F_thing x y m = some (v, m) ∧ f_M_thing_II x y m = some (v, m2) ∧ m2.1 63 0 = 0 ∧ Inv m2) ∨ (¬ cThing x y I ∧ ∃ m2, f_M_thing_II x y m = some (0, m2) ∧ m2.1 63 0 = 1 ∧ Inv m2)) := by
  obtain ⟨P, h⟩ := h
  obtain ⟨I, S, Gd, Ow, Sd, Y, Wn, wd, Pr, gi, iF, iM, ga, aF, aM⟩ := h.2.1
  refine ⟨I, iF.1, gi.1, ?_⟩
  rcases M_thing iM gi aM x y with ⟨c, e2⟩ | ⟨c, e2⟩
  · exact Or.inl ⟨c, _, _, F_thing iF gi aF c, e2, rfl, Inv_of (InvP_th h 0)⟩
  · exact Or.inr ⟨c, _, e2, rfl, Inv_of (InvP_th2 h 0 1)⟩
theorem T_row (h : Inv m) (x : Int32) : ∃ vs : List Int64, m.1 1 1 = nI vs.length ∧ vs.length ≤ 12 ∧ ((cRow x vs ∧ ∃ v m2, f_F_row x m = some (v, m) ∧ f_M_row x m = some (v, m2) ∧ m2.1 63 0 = 0 ∧ Inv m2) ∨ (¬ cRow x vs ∧ ∃ m2, f_M_row x m = some (0, m2) ∧ m2.1 63 0 = 1 ∧ Inv m2)) := by
  obtain ⟨P, h⟩ := h
  obtain ⟨vs, hl, rf, rm⟩ := h.2.2.2.2.2.2.2.2.2.2.2.1
  refine ⟨vs, rf.1, hl, ?_⟩
  rcases M_row rm hl x with ⟨c, e2⟩ | ⟨c, e2⟩
  · exact Or.inl ⟨c, _, _, F_row rf hl c, e2, rfl, Inv_of (InvP_th h 0)⟩
  · exact Or.inr ⟨c, _, e2, rfl, Inv_of (InvP_th2 h 0 1)⟩
end THROWS
