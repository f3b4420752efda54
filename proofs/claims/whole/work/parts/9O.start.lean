/-! the first memory holds what holds between two calls -/
def D0 (i j : Nat) : Nat := if i = j then 0 else 999
theorem Inv_start {m : jx_Mem} (fs_mF : m.1 3 5 = 0 ∧ m.1 3 6 = 0 ∧ (∀ i, i < 10 → ∀ j, j < 10 → m.1 4 (10 * i + j) = nI (D0 i j)) ∧ (∀ i, i < 10 → m.1 5 i = 0)) (fs_mM : m.1 63 3 = 0 ∧ m.1 63 6 = 0 ∧ (∀ i, i < 10 → ∀ j, j < 10 → m.1 65 (10 * i + j) = 0) ∧ (∀ i, i < 10 → m.1 66 i = 0)) (fs_go : m.1 9 4 = 0 ∧ m.1 9 5 = 0 ∧ m.1 63 10 = 0 ∧ m.1 63 12 = 0 ∧ (∀ g, g < 10 → ∀ t, t < 6 → m.1 12 (6 * g + t) = 0 ∧ m.1 72 (6 * g + t) = 0) ∧ (∀ t, t < 6 → ∀ v, v < 10 → m.1 13 (10 * t + v) = 0)) (fs_no : m.1 52 3 = 0 ∧ m.1 63 59 = 0) (fs_ai : ∀ i, i < 4 → m.1 59 (1 + i) = nI (jn (m.1 59 (1 + i))) ∧ m.1 63 (63 + i) = nI (jn (m.1 59 (1 + i)))) (fs_ag : jn (m.1 59 (1 + 0)) ≤ 9999 ∧ (1 ≤ jn (m.1 59 (1 + 1)) ∧ jn (m.1 59 (1 + 1)) ≤ 99) ∧ (1 ≤ jn (m.1 59 (1 + 2)) ∧ jn (m.1 59 (1 + 2)) ≤ 9999) ∧ (1 ≤ jn (m.1 59 (1 + 3)) ∧ jn (m.1 59 (1 + 3)) ≤ 9999)) (fs_ea : ∀ i, i < 4 → jn (m.1 61 i) ≤ 9 ∧ m.1 61 i = nI (jn (m.1 61 i)) ∧ m.1 108 i = nI (jn (m.1 61 i))) (fs_it : m.1 26 3 = 0 ∧ m.1 26 4 = 0 ∧ m.1 26 9 = 0 ∧ m.1 63 28 = 0 ∧ m.1 63 36 = 0) (fs_as : (1 ≤ jn (m.1 33 3) ∧ jn (m.1 33 3) ≤ 20) ∧ m.1 33 3 = nI (jn (m.1 33 3)) ∧ m.1 63 34 = nI (jn (m.1 33 3)) ∧ (∀ p, p < 8 → ∀ g, g < 10 → m.1 34 (10 * p + g) = 0 ∧ m.1 81 (10 * p + g) = 0)) (fs_sm : (m.1 18 2 = 0 ∧ m.1 63 23 = 0) ∧ (m.1 38 4 = 0 ∧ m.1 63 38 = 0) ∧ (m.1 38 9 = 0 ∧ m.1 63 42 = 0) ∧ (m.1 38 13 = 0 ∧ m.1 63 52 = 0) ∧ (m.1 18 4 = 0 ∧ m.1 78 0 = 0) ∧ (m.1 1 1 = 0 ∧ m.1 63 1 = 0) ∧ (∀ k, k < 64 → m.1 50 k = 0) ∧ (∀ k, k < 8 → m.1 104 k = 0)) : Inv m := by
  have nz : ∀ {α : Prop} {i : Nat}, i < 0 → α := fun h => absurd h (Nat.not_lt_zero _)
  obtain ⟨t1, t2, t3, t4, t5, t6, t7, t8⟩ := fs_sm
  obtain ⟨g1, g2, g3, g4, g5, g6⟩ := fs_go
  refine ⟨0, ⟨0, D0, fun _ => 0, fun _ => 0, fun _ => 0, fun _ => 0, ?_, ?_, ?_⟩, ⟨0, 0, fun _ => 0, fun _ => 0, fun _ => false, fun _ _ => 0, fun _ _ => 0, jn (m.1 33 3), fun _ _ => 0, ?_, ?_, ?_, ?_, ?_, ?_⟩, ⟨0, fun _ _ => 0, ⟨by omega, fun k hk => nz hk⟩, ⟨t3.1, fun k hk => nz hk⟩, ⟨t3.2, fun k hk => nz hk⟩⟩, ⟨0, 0, fun _ => 0, fun _ => 0, fun _ _ => 0, ?_, ?_, ?_⟩, ⟨0, fun _ => 0, fun _ => 0, ⟨by omega, fun k hk => nz hk⟩, ⟨fs_no.1, fun k hk => nz hk⟩, ⟨fs_no.2, fun k hk => nz hk⟩⟩, ⟨fun i => jn (m.1 59 (1 + i)), fs_ag, fun i hi => (fs_ai i hi).1, fun i hi => (fs_ai i hi).2⟩, ⟨fun i => jn (m.1 61 i), fun i hi => (fs_ea i hi).1, fun i hi => (fs_ea i hi).2.1, fun i hi => (fs_ea i hi).2.2⟩, ⟨0, fun _ => 0, ⟨by omega, fun _ => (show 0 < 256 by omega)⟩, ⟨t1.1, fun i hi => nz hi⟩, ⟨t1.2, fun i hi => nz hi⟩⟩, ⟨[], ⟨by simp, fun x hx => by cases hx⟩, ⟨t2.1, fun k hk => nz hk⟩, ⟨t2.2, fun k hk => nz hk⟩⟩, ⟨0, fun _ _ => 0, ⟨by omega, fun k hk => nz hk⟩, ⟨t4.1, fun k hk => nz hk⟩, ⟨t4.2, fun k hk => nz hk⟩⟩, ⟨[], ⟨by simp, Or.inl rfl⟩, ⟨t5.1, fun k hk => nz hk⟩, ⟨t5.2, fun k hk => nz hk⟩⟩, ⟨[], by simp, ⟨t6.1, fun k hk => nz hk⟩, ⟨t6.2, fun k hk => nz hk⟩⟩, fun k _ hk => t7 k hk, fun k hk => t8 k hk⟩
  · refine ⟨by omega, by omega, ⟨fun i _ => if_pos rfl, fun i j _ _ => ?_⟩, fun i j k _ _ _ => ?_, fun i _ => Nat.zero_le _, fun p hp => nz hp⟩
    · unfold D0
      by_cases c : i = j
      · rw [if_pos c, if_pos c.symm]; exact ⟨by omega, rfl, fun z => absurd c z⟩
      · rw [if_neg c, if_neg (fun z => c z.symm)]; exact ⟨by omega, rfl, fun _ => by omega⟩
    · unfold D0
      by_cases c : i = k
      · rw [if_pos c]; omega
      · rw [if_neg c]
        by_cases d : i = j
        · rw [if_neg (show ¬ j = k by omega)]; omega
        · rw [if_neg d]; omega
  · exact ⟨fs_mF.1, fs_mF.2.1, fun i j hi hj => fs_mF.2.2.1 i hi j hj, fs_mF.2.2.2, fun p hp => nz hp⟩
  · refine ⟨fs_mM.1, fs_mM.2.1, fun i j hi hj hij => ?_, fs_mM.2.2.2, fun p hp => nz hp⟩
    rw [fs_mM.2.2.1 i hi j hj]
    unfold D0
    rw [if_neg hij]
    rfl
  · exact ⟨by omega, by omega, fun i hi => nz hi, fun k hk => nz hk, fun j k _ hk => nz hk⟩
  · exact ⟨fs_it.1, fs_it.2.1, fs_it.2.2.1, fun i hi => nz hi, fun k hk => nz hk⟩
  · exact ⟨fs_it.2.2.2.1, fs_it.2.2.2.2, fun i hi => nz hi, fun k hk => nz hk⟩
  · exact ⟨fun p g _ _ => Nat.zero_le _, fs_as.1.1, fs_as.1.2, fun b i _ hi => nz hi⟩
  · exact ⟨fs_as.2.1, fun p g hp hg => (fs_as.2.2.2 p hp g hg).1, fun r i _ hi => nz hi⟩
  · exact ⟨fs_as.2.2.1, fun p g hp hg => (fs_as.2.2.2 p hp g hg).2, fun r i _ hi => nz hi⟩
  · exact ⟨by omega, by omega, fun g hg => nz hg, fun t ht => nz ht, fun g t => Nat.zero_le _, fun g t _ => rfl⟩
  · exact ⟨g1, g2, fun g hg => nz hg, fun t ht => nz ht, fun g t hg ht => (g5 g hg t ht).1, fun t v ht hv => g6 t ht v hv⟩
  · exact ⟨g3, g4, fun g hg => nz hg, fun t ht => nz ht, fun g t hg ht => (g5 g hg t ht).2⟩
theorem fs_mF : jx_first.1 3 5 = 0 ∧ jx_first.1 3 6 = 0 ∧ (∀ i, i < 10 → ∀ j, j < 10 → jx_first.1 4 (10 * i + j) = nI (D0 i j)) ∧ (∀ i, i < 10 → jx_first.1 5 i = 0) := by decide +kernel
theorem fs_mM : jx_first.1 63 3 = 0 ∧ jx_first.1 63 6 = 0 ∧ (∀ i, i < 10 → ∀ j, j < 10 → jx_first.1 65 (10 * i + j) = 0) ∧ (∀ i, i < 10 → jx_first.1 66 i = 0) := by decide +kernel
theorem fs_go : jx_first.1 9 4 = 0 ∧ jx_first.1 9 5 = 0 ∧ jx_first.1 63 10 = 0 ∧ jx_first.1 63 12 = 0 ∧ (∀ g, g < 10 → ∀ t, t < 6 → jx_first.1 12 (6 * g + t) = 0 ∧ jx_first.1 72 (6 * g + t) = 0) ∧ (∀ t, t < 6 → ∀ v, v < 10 → jx_first.1 13 (10 * t + v) = 0) := by decide +kernel
theorem fs_no : jx_first.1 52 3 = 0 ∧ jx_first.1 63 59 = 0 := by decide +kernel
theorem fs_ai : ∀ i, i < 4 → jx_first.1 59 (1 + i) = nI (jn (jx_first.1 59 (1 + i))) ∧ jx_first.1 63 (63 + i) = nI (jn (jx_first.1 59 (1 + i))) := by decide +kernel
theorem fs_ag : jn (jx_first.1 59 (1 + 0)) ≤ 9999 ∧ (1 ≤ jn (jx_first.1 59 (1 + 1)) ∧ jn (jx_first.1 59 (1 + 1)) ≤ 99) ∧ (1 ≤ jn (jx_first.1 59 (1 + 2)) ∧ jn (jx_first.1 59 (1 + 2)) ≤ 9999) ∧ (1 ≤ jn (jx_first.1 59 (1 + 3)) ∧ jn (jx_first.1 59 (1 + 3)) ≤ 9999) := by decide +kernel
theorem fs_ea : ∀ i, i < 4 → jn (jx_first.1 61 i) ≤ 9 ∧ jx_first.1 61 i = nI (jn (jx_first.1 61 i)) ∧ jx_first.1 108 i = nI (jn (jx_first.1 61 i)) := by decide +kernel
theorem fs_it : jx_first.1 26 3 = 0 ∧ jx_first.1 26 4 = 0 ∧ jx_first.1 26 9 = 0 ∧ jx_first.1 63 28 = 0 ∧ jx_first.1 63 36 = 0 := by decide +kernel
theorem fs_as : (1 ≤ jn (jx_first.1 33 3) ∧ jn (jx_first.1 33 3) ≤ 20) ∧ jx_first.1 33 3 = nI (jn (jx_first.1 33 3)) ∧ jx_first.1 63 34 = nI (jn (jx_first.1 33 3)) ∧ (∀ p, p < 8 → ∀ g, g < 10 → jx_first.1 34 (10 * p + g) = 0 ∧ jx_first.1 81 (10 * p + g) = 0) := by decide +kernel
theorem fs_sm : (jx_first.1 18 2 = 0 ∧ jx_first.1 63 23 = 0) ∧ (jx_first.1 38 4 = 0 ∧ jx_first.1 63 38 = 0) ∧ (jx_first.1 38 9 = 0 ∧ jx_first.1 63 42 = 0) ∧ (jx_first.1 38 13 = 0 ∧ jx_first.1 63 52 = 0) ∧ (jx_first.1 18 4 = 0 ∧ jx_first.1 78 0 = 0) ∧ (jx_first.1 1 1 = 0 ∧ jx_first.1 63 1 = 0) ∧ (∀ k, k < 64 → jx_first.1 50 k = 0) ∧ (∀ k, k < 8 → jx_first.1 104 k = 0) := by decide +kernel
theorem Inv_first : Inv jx_first := Inv_start fs_mF fs_mM fs_go fs_no fs_ai fs_ag fs_ea fs_it fs_as fs_sm
