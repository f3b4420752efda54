/-! wall, person, walk -/
def up (f : Nat → Nat) (k v : Nat) : Nat → Nat := fun i => if i = k then v else f i
theorem up_s (f : Nat → Nat) (k v : Nat) : up f k v k = v := if_pos rfl
theorem up_n {f : Nat → Nat} {k v i : Nat} (h : i ≠ k) : up f k v i = f i := if_neg h
section PEOPLE
variable {m : jx_Mem} {T P : Nat} {D : Nat → Nat → Nat} {W A U L : Nat → Nat}
theorem F_wall (h : mineF m T P D W A U L) (x v : Int32) : ∃ m', f_F_wall x v m = some (if (0 ≤ x.toInt ∧ x.toInt < 10) ∧ 0 ≤ v.toInt ∧ v.toInt ≤ 20 then nI (W (jn x)) else -1, m') ∧
    mineF m' T P D (if (0 ≤ x.toInt ∧ x.toInt < 10) ∧ 0 ≤ v.toInt ∧ v.toInt ≤ 20 then up W (jn x) (jn v) else W) A U L ∧ sm (fun q _ => q = 5) m m' := by
  rw [s_F_wall]
  by_cases c : (0 ≤ x.toInt ∧ x.toInt < 10) ∧ 0 ≤ v.toInt ∧ v.toInt ≤ 20
  · rw [if_pos c, if_pos c, if_pos c]
    obtain ⟨a, ha, rfl⟩ := nI_get c.1.1 (show x.toInt < ((10 : Nat) : Int) from c.1.2)
    obtain ⟨w, hw, rfl⟩ := nI_get c.2.1 (show v.toInt < ((21 : Nat) : Int) by have := c.2.2; omega)
    rw [jn_nI (by omega), jn_nI (by omega), nI_cl (by omega), h.2.2.2.1 a ha]
    refine ⟨_, rfl, ⟨h.1, h.2.1, h.2.2.1, fun i hi => ?_, h.2.2.2.2⟩, sm_w1 rfl⟩
    rw [w1_rd]
    unfold up
    by_cases q : i = a
    · rw [if_pos ⟨rfl, q⟩, if_pos q]
    · rw [if_neg (fun z => q z.2), if_neg q]; exact h.2.2.2.1 i hi
  · rw [if_neg c, if_neg c, if_neg c]
    exact ⟨m, rfl, h, sm.rf⟩
theorem M_wall (h : mineM m T P D W A U L) (x v : Int32) : ∃ m', f_M_wall x v m = some (if (0 ≤ x.toInt ∧ x.toInt < 10) ∧ 0 ≤ v.toInt ∧ v.toInt ≤ 20 then nI (W (jn x)) else -1, m') ∧
    mineM m' T P D (if (0 ≤ x.toInt ∧ x.toInt < 10) ∧ 0 ≤ v.toInt ∧ v.toInt ≤ 20 then up W (jn x) (jn v) else W) A U L ∧ sm (fun q k => q = 66 ∨ (q = 63 ∧ k = 0)) m m' := by
  have h1 := mineM_th h (v := 0)
  rw [e_M_wall]
  dsimp only
  by_cases hx : 0 ≤ x.toInt ∧ x.toInt < 10
  · by_cases hv : 0 ≤ v.toInt ∧ v.toInt ≤ 20
    · rw [if_pos ⟨hx, hv⟩, if_pos ⟨hx, hv⟩]
      obtain ⟨a, ha, rfl⟩ := nI_get hx.1 (show x.toInt < ((10 : Nat) : Int) from hx.2)
      obtain ⟨w, hw, rfl⟩ := nI_get hv.1 (show v.toInt < ((21 : Nat) : Int) by have := hv.2; omega)
      rw [jn_nI (show a < 2 ^ 31 by omega), jn_nI (show w < 2 ^ 31 by omega)]
      refine ⟨jx_w1 (jx_w1 m 63 0 0) 66 a (nI w), ?_, ⟨h1.1, h1.2.1, h1.2.2.1, fun i hi => ?_, h1.2.2.2.2⟩, (sm_w1 (Or.inr ⟨rfl, rfl⟩)).w1 (Or.inl rfl)⟩
      · simp [s_mpl_t hx, s_in_t (lo := 0) (hi := 20) hv, in_nI ha (by omega), nI_cl (show a < 2 ^ 31 by omega), h1.2.2.2.1 a ha]
      · rw [w1_rd]
        unfold up
        by_cases q : i = a
        · rw [if_pos ⟨rfl, q⟩, if_pos q]
        · rw [if_neg (fun z => q z.2), if_neg q]; exact h1.2.2.2.1 i hi
    · rw [if_neg (fun q => hv q.2), if_neg (fun q => hv q.2)]
      exact ⟨_, by simp [s_mpl_t hx, s_in_f (lo := 0) (hi := 20) hv, e_M_wall_24], h1, sm_w1 (Or.inr ⟨rfl, rfl⟩)⟩
  · rw [if_neg (fun q => hx q.1), if_neg (fun q => hx q.1)]
    exact ⟨_, by simp [s_mpl_f hx, e_M_wall_24], h1, sm_w1 (Or.inr ⟨rfl, rfl⟩)⟩
/-- what a person may be -/
def cPer (x y z : Int32) (P : Nat) : Prop := (0 ≤ x.toInt ∧ x.toInt < 10) ∧ (0 ≤ y.toInt ∧ y.toInt ≤ 999) ∧ (0 ≤ z.toInt ∧ z.toInt ≤ 9) ∧ P < 8
theorem mineF_per (h : mineF m T P D W A U L) {a u l : Nat} : mineF (jx_w1 (jx_w1 (jx_w1 (jx_w1 m 6 P (nI a)) 7 P (nI u)) 8 P (nI l)) 3 6 (nI (P + 1))) T (P + 1) D W (up A P a) (up U P u) (up L P l) := by
  refine ⟨?_, w1_same _ _ _ _, h.2.2.1, h.2.2.2.1, fun p hp => ?_⟩
  · rw [w1_idx (by omega)]; exact h.1
  · by_cases q : p = P
    · subst q
      rw [up_s, up_s, up_s]
      refine ⟨?_, ?_, ?_⟩ <;> simp [w1_rd]
    · rw [up_n q, up_n q, up_n q]
      have := h.2.2.2.2 p (by omega)
      simp [w1_rd, q, this]
theorem mineM_per (h : mineM m T P D W A U L) {a u l : Nat} : mineM (jx_w1 (jx_w1 (jx_w1 (jx_w1 m 67 P (nI a)) 68 P (nI u)) 69 P (nI l)) 63 6 (nI (P + 1))) T (P + 1) D W (up A P a) (up U P u) (up L P l) := by
  refine ⟨?_, w1_same _ _ _ _, h.2.2.1, h.2.2.2.1, fun p hp => ?_⟩
  · rw [w1_idx (by omega)]; exact h.1
  · by_cases q : p = P
    · subst q
      rw [up_s, up_s, up_s]
      refine ⟨?_, ?_, ?_⟩ <;> simp [w1_rd]
    · rw [up_n q, up_n q, up_n q]
      have := h.2.2.2.2 p (by omega)
      simp [w1_rd, q, this]
theorem F_person (h : mineF m T P D W A U L) (g : gMine T P D W A U L) (x y z : Int32) : ∃ m', sm (fun q k => q = 6 ∨ q = 7 ∨ q = 8 ∨ (q = 3 ∧ k = 6)) m m' ∧
    ((cPer x y z P ∧ f_F_person x y z m = some (nI P, m') ∧ mineF m' T (P + 1) D W (up A P (jn x)) (up U P (jn y)) (up L P (jn z))) ∨ (¬ cPer x y z P ∧ f_F_person x y z m = some (-1, m') ∧ m' = m)) := by
  rw [e_F_person, e_Mine_addPerson]
  by_cases hx : 0 ≤ x.toInt ∧ x.toInt < 10
  · by_cases hy : 0 ≤ y.toInt ∧ y.toInt ≤ 999
    · by_cases hz : 0 ≤ z.toInt ∧ z.toInt ≤ 9
      · by_cases hP : P < 8
        · obtain ⟨a, ha, rfl⟩ := nI_get hx.1 (show x.toInt < ((10 : Nat) : Int) from hx.2)
          obtain ⟨u, hu, rfl⟩ := nI_get hy.1 (show y.toInt < ((1000 : Nat) : Int) by omega)
          obtain ⟨l, hl, rfl⟩ := nI_get hz.1 (show z.toInt < ((10 : Nat) : Int) by omega)
          rw [jn_nI (show a < 2 ^ 31 by omega), jn_nI (show u < 2 ^ 31 by omega), jn_nI (show l < 2 ^ 31 by omega)]
          refine ⟨_, ?_, Or.inl ⟨⟨hx, hy, hz, hP⟩, ?_, mineF_per h⟩⟩
          · exact (((sm_w1 (by omega)).w1 (by omega)).w1 (by omega)).w1 (by omega)
          · have q1 : nI P < 8 := nI_lt (b := 8) hP (by omega)
            simp [s_pl_t hx, s_wi_t (lo := 0) (hi := 999) hy, s_wi_t (lo := 0) (hi := 9) hz, h.2.1, q1, in_nI hP (by omega), nI_cl (show P < 2 ^ 31 by omega), w1_rd, nI_1, nI_pred]
        · refine ⟨m, sm.rf, Or.inr ⟨fun q => hP q.2.2.2, ?_, rfl⟩⟩
          have q1 : ¬ nI P < 8 := nI_nlt (b := 8) (by omega) (by have := g.2.1; omega)
          simp [s_pl_t hx, s_wi_t (lo := 0) (hi := 999) hy, s_wi_t (lo := 0) (hi := 9) hz, h.2.1, q1]
      · refine ⟨m, sm.rf, Or.inr ⟨fun q => hz q.2.2.1, ?_, rfl⟩⟩
        simp [s_pl_t hx, s_wi_t (lo := 0) (hi := 999) hy, s_wi_f (lo := 0) (hi := 9) hz, e_Mine_addPerson_29]
    · refine ⟨m, sm.rf, Or.inr ⟨fun q => hy q.2.1, ?_, rfl⟩⟩
      simp [s_pl_t hx, s_wi_f (lo := 0) (hi := 999) hy, e_Mine_addPerson_29]
  · refine ⟨m, sm.rf, Or.inr ⟨fun q => hx q.1, ?_, rfl⟩⟩
    simp [s_pl_f hx, e_Mine_addPerson_29]
theorem M_person (h : mineM m T P D W A U L) (g : gMine T P D W A U L) (x y z : Int32) : ∃ m', sm (fun q k => q = 67 ∨ q = 68 ∨ q = 69 ∨ (q = 63 ∧ (k = 0 ∨ k = 6))) m m' ∧
    ((cPer x y z P ∧ f_M_person x y z m = some (nI P, m') ∧ mineM m' T (P + 1) D W (up A P (jn x)) (up U P (jn y)) (up L P (jn z))) ∨ (¬ cPer x y z P ∧ f_M_person x y z m = some (-1, m') ∧ mineM m' T P D W A U L)) := by
  have h1 := mineM_th h (v := 0)
  have s1 : sm (fun q k => q = 67 ∨ q = 68 ∨ q = 69 ∨ (q = 63 ∧ (k = 0 ∨ k = 6))) m (jx_w1 m 63 0 0) := sm_w1 (by omega)
  rw [e_M_person]
  dsimp only
  by_cases hx : 0 ≤ x.toInt ∧ x.toInt < 10
  · by_cases hy : 0 ≤ y.toInt ∧ y.toInt ≤ 999
    · by_cases hz : 0 ≤ z.toInt ∧ z.toInt ≤ 9
      · by_cases hP : P < 8
        · obtain ⟨a, ha, rfl⟩ := nI_get hx.1 (show x.toInt < ((10 : Nat) : Int) from hx.2)
          obtain ⟨u, hu, rfl⟩ := nI_get hy.1 (show y.toInt < ((1000 : Nat) : Int) by omega)
          obtain ⟨l, hl, rfl⟩ := nI_get hz.1 (show z.toInt < ((10 : Nat) : Int) by omega)
          rw [jn_nI (show a < 2 ^ 31 by omega), jn_nI (show u < 2 ^ 31 by omega), jn_nI (show l < 2 ^ 31 by omega)]
          refine ⟨_, ?_, Or.inl ⟨⟨hx, hy, hz, hP⟩, ?_, mineM_per h1⟩⟩
          · exact (((s1.w1 (by omega)).w1 (by omega)).w1 (by omega)).w1 (by omega)
          · have q1 : ¬ nI P = 8 := fun z => by have := (nI_eq (b := 8) (by omega) (by omega)).mp z; omega
            simp [s_mpl_t hx, s_in_t (lo := 0) (hi := 999) hy, s_in_t (lo := 0) (hi := 9) hz, h1.2.1, q1, in_nI hP (by omega), nI_cl (show P < 2 ^ 31 by omega), w1_rd, nI_1, nI_pred, h.2.1]
        · refine ⟨_, s1, Or.inr ⟨fun q => hP q.2.2.2, ?_, h1⟩⟩
          have q1 : nI P = 8 := by have := g.2.1; rw [show P = 8 by omega]; rfl
          simp [s_mpl_t hx, s_in_t (lo := 0) (hi := 999) hy, s_in_t (lo := 0) (hi := 9) hz, h1.2.1, q1, e_M_person_45]
      · refine ⟨_, s1, Or.inr ⟨fun q => hz q.2.2.1, ?_, h1⟩⟩
        simp [s_mpl_t hx, s_in_t (lo := 0) (hi := 999) hy, s_in_f (lo := 0) (hi := 9) hz, e_M_person_45]
    · refine ⟨_, s1, Or.inr ⟨fun q => hy q.2.1, ?_, h1⟩⟩
      simp [s_mpl_t hx, s_in_f (lo := 0) (hi := 999) hy, e_M_person_45]
  · refine ⟨_, s1, Or.inr ⟨fun q => hx q.1, ?_, h1⟩⟩
    simp [s_mpl_f hx, e_M_person_45]
def cWalk (x y : Int32) (P : Nat) : Prop := (0 ≤ x.toInt ∧ x.toInt < (P : Int)) ∧ (0 ≤ y.toInt ∧ y.toInt < 10)
theorem F_walk (h : mineF m T P D W A U L) (g : gMine T P D W A U L) (x y : Int32) : ∃ m', sm (fun q _ => q = 6) m m' ∧
    ((cWalk x y P ∧ D (A (jn x)) (jn y) < 999 ∧ f_F_walk x y m = some (nI (D (A (jn x)) (jn y)), m') ∧ mineF m' T P D W (up A (jn x) (jn y)) U L) ∨ (cWalk x y P ∧ ¬ D (A (jn x)) (jn y) < 999 ∧ f_F_walk x y m = some (-2, m') ∧ m' = m) ∨ (¬ cWalk x y P ∧ f_F_walk x y m = some (-1, m') ∧ m' = m)) := by
  rw [e_F_walk, e_Mine_move]
  by_cases hx : 0 ≤ x.toInt ∧ x.toInt < (P : Int)
  · by_cases hy : 0 ≤ y.toInt ∧ y.toInt < 10
    · obtain ⟨p, hp, rfl⟩ := nI_get hx.1 hx.2
      obtain ⟨a, ha, rfl⟩ := nI_get hy.1 (show y.toInt < ((10 : Nat) : Int) from hy.2)
      have hP := g.2.1
      have hA := (g.2.2.2.2.2 p hp).1
      have hD := (g.2.2.1.2 (A p) a hA ha).1
      rw [jn_nI (show a < 2 ^ 31 by omega), jn_nI (show p < 2 ^ 31 by omega)]
      by_cases q : D (A p) a < 999
      · refine ⟨jx_w1 m 6 p (nI a), sm_w1 rfl, Or.inl ⟨⟨hx, hy⟩, q, ?_, ⟨h.1, h.2.1, h.2.2.1, h.2.2.2.1, fun i hi => ⟨?_, (h.2.2.2.2 i hi).2⟩⟩⟩⟩
        · have q1 : nI (D (A p) a) < 999 := nI_lt (b := 999) q (by omega)
          simp [s_pers h g, jb_t hx, s_pl_t hy, in_nI (show p < 8 by omega) (by omega), nI_cl (show p < 2 ^ 31 by omega), (h.2.2.2.2 p hp).1, s_dist h hA ha, q1]
        · rw [w1_rd]
          unfold up
          by_cases e : i = p
          · rw [if_pos ⟨rfl, e⟩, if_pos e]
          · rw [if_neg (fun z => e z.2), if_neg e]; exact (h.2.2.2.2 i hi).1
      · refine ⟨m, sm.rf, Or.inr (Or.inl ⟨⟨hx, hy⟩, q, ?_, rfl⟩)⟩
        have q1 : ¬ nI (D (A p) a) < 999 := nI_nlt (b := 999) (by omega) (by omega)
        simp [s_pers h g, jb_t hx, s_pl_t hy, in_nI (show p < 8 by omega) (by omega), nI_cl (show p < 2 ^ 31 by omega), (h.2.2.2.2 p hp).1, s_dist h hA ha, q1]
    · refine ⟨m, sm.rf, Or.inr (Or.inr ⟨fun q => hy q.2, ?_, rfl⟩)⟩
      simp [s_pers h g, jb_t hx, s_pl_f hy, e_Mine_move_16]
  · refine ⟨m, sm.rf, Or.inr (Or.inr ⟨fun q => hx q.1, ?_, rfl⟩)⟩
    simp [s_pers h g, jb_f hx, e_Mine_move_16]
theorem M_walk (h : mineM m T P D W A U L) (g : gMine T P D W A U L) (x y : Int32) : ∃ m', sm (fun q k => q = 67 ∨ (q = 63 ∧ k = 0)) m m' ∧
    ((cWalk x y P ∧ D (A (jn x)) (jn y) < 999 ∧ f_M_walk x y m = some (nI (D (A (jn x)) (jn y)), m') ∧ mineM m' T P D W (up A (jn x) (jn y)) U L) ∨ (cWalk x y P ∧ ¬ D (A (jn x)) (jn y) < 999 ∧ f_M_walk x y m = some (-2, m') ∧ mineM m' T P D W A U L) ∨ (¬ cWalk x y P ∧ f_M_walk x y m = some (-1, m') ∧ mineM m' T P D W A U L)) := by
  have h1 := mineM_th h (v := 0)
  have s1 : sm (fun q k => q = 67 ∨ (q = 63 ∧ k = 0)) m (jx_w1 m 63 0 0) := sm_w1 (by omega)
  rw [e_M_walk]
  dsimp only
  by_cases hx : 0 ≤ x.toInt ∧ x.toInt < (P : Int)
  · by_cases hy : 0 ≤ y.toInt ∧ y.toInt < 10
    · obtain ⟨p, hp, rfl⟩ := nI_get hx.1 hx.2
      obtain ⟨a, ha, rfl⟩ := nI_get hy.1 (show y.toInt < ((10 : Nat) : Int) from hy.2)
      have hP := g.2.1
      have hA := (g.2.2.2.2.2 p hp).1
      have hD := (g.2.2.1.2 (A p) a hA ha).1
      rw [jn_nI (show a < 2 ^ 31 by omega), jn_nI (show p < 2 ^ 31 by omega)]
      by_cases q : D (A p) a < 999
      · refine ⟨jx_w1 (jx_w1 m 63 0 0) 67 p (nI a), s1.w1 (by omega), Or.inl ⟨⟨hx, hy⟩, q, ?_, ⟨h1.1, h1.2.1, h1.2.2.1, h1.2.2.2.1, fun i hi => ⟨?_, (h1.2.2.2.2 i hi).2⟩⟩⟩⟩
        · have q1 : ¬ nI (D (A p) a) = 999 := fun z => by have := (nI_eq (b := 999) (by omega) (by omega)).mp z; omega
          simp [s_mpers h1 g, jb_t hx, s_mpl_t hy, in_nI (show p < 8 by omega) (by omega), nI_cl (show p < 2 ^ 31 by omega), (h1.2.2.2.2 p hp).1, s_far h1 g.2.2.1 hA ha, q1]
        · rw [w1_rd]
          unfold up
          by_cases e : i = p
          · rw [if_pos ⟨rfl, e⟩, if_pos e]
          · rw [if_neg (fun z => e z.2), if_neg e]; exact (h1.2.2.2.2 i hi).1
      · refine ⟨_, s1, Or.inr (Or.inl ⟨⟨hx, hy⟩, q, ?_, h1⟩)⟩
        have q1 : nI (D (A p) a) = 999 := by rw [show D (A p) a = 999 by omega]; rfl
        simp [s_mpers h1 g, jb_t hx, s_mpl_t hy, in_nI (show p < 8 by omega) (by omega), nI_cl (show p < 2 ^ 31 by omega), (h1.2.2.2.2 p hp).1, s_far h1 g.2.2.1 hA ha, q1]
    · refine ⟨_, s1, Or.inr (Or.inr ⟨fun q => hy q.2, ?_, h1⟩)⟩
      simp [s_mpers h1 g, jb_t hx, s_mpl_f hy, e_M_walk_20]
  · refine ⟨_, s1, Or.inr (Or.inr ⟨fun q => hx q.1, ?_, h1⟩)⟩
    simp [s_mpers h1 g, jb_f hx, e_M_walk_20]
end PEOPLE
