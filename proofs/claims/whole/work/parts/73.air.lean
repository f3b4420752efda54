/-! gas (the model), lasts -/
def mG (m : jx_Mem) (a b c d : Int32) : jx_Mem := jx_w1 (jx_w1 (jx_w1 (jx_w1 m 63 63 a) 63 64 b) 63 65 c) 63 66 d
section AIR
variable {m m' : jx_Mem} {Q : Nat → Nat}
theorem airM_th (h : airM m Q) {v : Int32} : airM (jx_w1 m 63 0 v) Q := airM_sm (Z := fun a k => a = 63 ∧ k = 0) h (sm_w1 ⟨rfl, rfl⟩) (by intro a k; unfold dAM; omega)
theorem gas_89 (x v y : Int32) (m : jx_Mem) : f_M_gas_89 x v y m = some (y, mG m (if x = 0 then v else m.1 63 63) (if x = 1 then v else m.1 63 64) (if x = 2 then v else m.1 63 65) (if x = 3 then v else m.1 63 66)) := by
  unfold mG
  have e154 : ∀ y z m, f_M_gas_154 y z m = some (y, jx_w1 m 63 66 z) := fun y z m => by rw [e_M_gas_154]
  have e137 : ∀ y z m, f_M_gas_137 x v y z m = some (y, jx_w1 (jx_w1 m 63 65 z) 63 66 (if x = 3 then v else m.1 63 66)) := fun y z m => by
    rw [e_M_gas_137]
    by_cases c : x = 3
    · dsimp only
      rw [if_pos c]
      refine (ifnp c).trans ?_
      rw [e154]
    · dsimp only
      rw [if_neg c]
      refine (ifnn c).trans ?_
      rw [e154, w1_idx (by omega)]
  have e120 : ∀ y z m, f_M_gas_120 x v y z m = some (y, jx_w1 (jx_w1 (jx_w1 m 63 64 z) 63 65 (if x = 2 then v else m.1 63 65)) 63 66 (if x = 3 then v else m.1 63 66)) := fun y z m => by
    rw [e_M_gas_120]
    by_cases c : x = 2
    · dsimp only
      rw [if_pos c]
      refine (ifnp c).trans ?_
      rw [e137, w1_idx (by omega)]
    · dsimp only
      rw [if_neg c]
      refine (ifnn c).trans ?_
      rw [e137, w1_idx (by omega), w1_idx (by omega)]
  have e103 : ∀ y z m, f_M_gas_103 x v y z m = some (y, jx_w1 (jx_w1 (jx_w1 (jx_w1 m 63 63 z) 63 64 (if x = 1 then v else m.1 63 64)) 63 65 (if x = 2 then v else m.1 63 65)) 63 66 (if x = 3 then v else m.1 63 66)) := fun y z m => by
    rw [e_M_gas_103]
    by_cases c : x = 1
    · dsimp only
      rw [if_pos c]
      refine (ifnp c).trans ?_
      rw [e120, w1_idx (by omega), w1_idx (by omega)]
    · dsimp only
      rw [if_neg c]
      refine (ifnn c).trans ?_
      rw [e120, w1_idx (by omega), w1_idx (by omega), w1_idx (by omega)]
  rw [e_M_gas_89]
  by_cases c : x = 0
  · rw [if_pos c]
    refine (ifnp c).trans ?_
    rw [e103]
  · rw [if_neg c]
    refine (ifnn c).trans ?_
    rw [e103]
theorem airM_mG {x v : Int32} (h : airM m Q) (hx : x = 0 ∨ x = 1 ∨ x = 2 ∨ x = 3) (hv : v = nI (jn v)) : airM (mG m (if x = 0 then v else m.1 63 63) (if x = 1 then v else m.1 63 64) (if x = 2 then v else m.1 63 65) (if x = 3 then v else m.1 63 66)) (up Q (jn x) (jn v)) := by
  intro i hi
  have h0 := h 0 (by omega)
  have h1 := h 1 (by omega)
  have h2 := h 2 (by omega)
  have h3 := h 3 (by omega)
  have hi2 : i = 0 ∨ i = 1 ∨ i = 2 ∨ i = 3 := by omega
  unfold mG up
  rw [w1_rd, w1_rd, w1_rd, w1_rd]
  rcases hi2 with rfl | rfl | rfl | rfl <;> rcases hx with rfl | rfl | rfl | rfl <;> first | exact hv | exact h0 | exact h1 | exact h2 | exact h3
theorem sm_mG (m : jx_Mem) (a b c d : Int32) : sm (fun q k => q = 63 ∧ 63 ≤ k ∧ k ≤ 66) m (mG m a b c d) := (((sm_w1 (by omega)).w1 (by omega)).w1 (by omega)).w1 (by omega)
theorem M_gas (h : airM m Q) (x v : Int32) : ∃ m', sm (fun q k => q = 63 ∧ (k = 0 ∨ (63 ≤ k ∧ k ≤ 66))) m m' ∧
    ((cGas x v ∧ f_M_gas x v m = some (nI (Q (jn x)), m') ∧ airM m' (up Q (jn x) (jn v))) ∨ (¬ cGas x v ∧ f_M_gas x v m = some (-1, m') ∧ airM m' Q)) := by
  have h1 := airM_th h (v := 0)
  have s1 : sm (fun q k => q = 63 ∧ (k = 0 ∨ (63 ≤ k ∧ k ≤ 66))) m (jx_w1 m 63 0 0) := sm_w1 (by omega)
  have h42 : ∀ (lo hi : Int64) (k : Nat), k < 4 → x = nI k → (lo.toInt ≤ v.toInt ∧ v.toInt ≤ hi.toInt) → f_M_gas_42 x v hi lo v.toInt64 (jx_w1 m 63 0 0) = some (nI (Q k), mG (jx_w1 m 63 0 0) (if x = 0 then v else (jx_w1 m 63 0 0).1 63 63) (if x = 1 then v else (jx_w1 m 63 0 0).1 63 64) (if x = 2 then v else (jx_w1 m 63 0 0).1 63 65) (if x = 3 then v else (jx_w1 m 63 0 0).1 63 66)) := by
    intro lo hi k hk hx hv
    have hk2 : k = 0 ∨ k = 1 ∨ k = 2 ∨ k = 3 := by omega
    rw [e_M_gas_42, s_in_t hv, Option.bind_some]
    refine (ifnn ne10).trans ?_
    rcases hk2 with rfl | rfl | rfl | rfl
    · refine (ifnp hx).trans ?_
      rw [gas_89, h1 0 (by omega)]
    · rw [hx]
      refine (ifnn (by decide)).trans ((ifnp rfl).trans ?_)
      rw [gas_89, h1 1 (by omega)]
    · rw [hx]
      refine (ifnn (by decide)).trans ((ifnn (by decide)).trans ((ifnp rfl).trans ?_))
      rw [gas_89, h1 2 (by omega)]
    · rw [hx]
      refine (ifnn (by decide)).trans ((ifnn (by decide)).trans ((ifnn (by decide)).trans ?_))
      rw [gas_89, h1 3 (by omega)]
  have h42f : ∀ (lo hi : Int64), ¬ (lo.toInt ≤ v.toInt ∧ v.toInt ≤ hi.toInt) → f_M_gas_42 x v hi lo v.toInt64 (jx_w1 m 63 0 0) = some (-1, jx_w1 m 63 0 0) := by
    intro lo hi hv
    rw [e_M_gas_42, s_in_f hv, Option.bind_some]
    refine (ifnp eq00).trans ?_
    rw [e_M_gas_48]
  rw [e_M_gas]
  dsimp only
  by_cases hx : 0 ≤ x.toInt ∧ x.toInt ≤ 3
  · obtain ⟨k, hk, rfl⟩ := nI_get hx.1 (show x.toInt < ((4 : Nat) : Int) by omega)
    have hk2 : k = 0 ∨ k = 1 ∨ k = 2 ∨ k = 3 := by omega
    have hxx : nI k = 0 ∨ nI k = 1 ∨ nI k = 2 ∨ nI k = 3 := by
      rcases hk2 with rfl | rfl | rfl | rfl
      · exact Or.inl rfl
      · exact Or.inr (Or.inl rfl)
      · exact Or.inr (Or.inr (Or.inl rfl))
      · exact Or.inr (Or.inr (Or.inr rfl))
    have hto : (nI k).toInt = (k : Int) := nI_toInt (by omega)
    rw [s_in_t (lo := 0) (hi := 3) hx, Option.bind_some]
    -- the bounds
    have hb : ∃ lo hi : Int64, (if decide ((1 : Int32) = 0) = true then f_M_gas_48 (jx_w1 m 63 0 0) else (if decide (¬ nI k = 0) = true then (f_M_gas_28 (nI k) v 1 v.toInt64 (jx_w1 m 63 0 0)) else (f_M_gas_28 (nI k) v 0 v.toInt64 (jx_w1 m 63 0 0)))) = f_M_gas_42 (nI k) v hi lo v.toInt64 (jx_w1 m 63 0 0) ∧ (cGas (nI k) v ↔ (lo.toInt ≤ v.toInt ∧ v.toInt ≤ hi.toInt)) ∧ 0 ≤ lo.toInt ∧ hi.toInt ≤ 9999 := by
      rcases hk2 with rfl | rfl | rfl | rfl
      · refine ⟨0, 9999, ?_, ?_, by decide, by decide⟩
        · refine (ifn ne10).trans ((ifnp rfl).trans ?_)
          rw [e_M_gas_28]
          exact ifnn (by decide)
        · constructor
          · rintro (q | q | q | q)
            · exact q.2
            · exact absurd q.1 (by decide)
            · exact absurd q.1 (by decide)
            · exact absurd q.1 (by decide)
          · intro q; exact Or.inl ⟨rfl, q⟩
      · refine ⟨1, 99, ?_, ?_, by decide, by decide⟩
        · refine (ifn ne10).trans ((ifnn (by decide)).trans ?_)
          rw [e_M_gas_28]
          exact ifnp rfl
        · constructor
          · rintro (q | q | q | q)
            · exact absurd q.1 (by decide)
            · exact q.2
            · exact absurd q.1 (by decide)
            · exact absurd q.1 (by decide)
          · intro q; exact Or.inr (Or.inl ⟨rfl, q⟩)
      · refine ⟨1, 9999, ?_, ?_, by decide, by decide⟩
        · refine (ifn ne10).trans ((ifnn (by decide)).trans ?_)
          rw [e_M_gas_28]
          exact ifnn (by decide)
        · constructor
          · rintro (q | q | q | q)
            · exact absurd q.1 (by decide)
            · exact absurd q.1 (by decide)
            · exact q.2
            · exact absurd q.1 (by decide)
          · intro q; exact Or.inr (Or.inr (Or.inl ⟨rfl, q⟩))
      · refine ⟨1, 9999, ?_, ?_, by decide, by decide⟩
        · refine (ifn ne10).trans ((ifnn (by decide)).trans ?_)
          rw [e_M_gas_28]
          exact ifnn (by decide)
        · constructor
          · rintro (q | q | q | q)
            · exact absurd q.1 (by decide)
            · exact absurd q.1 (by decide)
            · exact absurd q.1 (by decide)
            · exact q.2
          · intro q; exact Or.inr (Or.inr (Or.inr ⟨rfl, q⟩))
    obtain ⟨lo, hi, e1, e2, e3, e4⟩ := hb
    have e1' : ∀ z, (if decide (((1 : Int32), jx_w1 m 63 0 0).1 = 0) = true then f_M_gas_48 ((1 : Int32), jx_w1 m 63 0 0).2 else (if decide (¬ nI k = 0) = true then (f_M_gas_28 (nI k) v 1 v.toInt64 ((1 : Int32), jx_w1 m 63 0 0).2) else (f_M_gas_28 (nI k) v 0 v.toInt64 ((1 : Int32), jx_w1 m 63 0 0).2))) = some z ↔ f_M_gas_42 (nI k) v hi lo v.toInt64 (jx_w1 m 63 0 0) = some z := fun z => by rw [← e1]
    by_cases c : cGas (nI k) v
    · have hv := e2.mp c
      have hvn : v = nI (jn v) := lim_nI (k := 9999) ⟨by omega, by show v.toInt ≤ (9999 : Int); omega⟩
      refine ⟨_, s1.tr ((sm_mG _ _ _ _ _).mono (by omega)), Or.inl ⟨c, (e1' _).mpr ?_, airM_mG h1 hxx hvn⟩⟩
      rw [jn_nI (show k < 2 ^ 31 by omega)]
      exact h42 lo hi k hk rfl hv
    · exact ⟨_, s1, Or.inr ⟨c, (e1' _).mpr (h42f lo hi (fun q => c (e2.mpr q))), h1⟩⟩
  · refine ⟨_, s1, Or.inr ⟨fun q => hx ?_, ?_, h1⟩⟩
    · rcases q with q | q | q | q <;> rw [q.1] <;> decide
    · rw [s_in_f (lo := 0) (hi := 3) hx, Option.bind_some]
      refine (ifp eq00).trans ?_
      rw [e_M_gas_48]
end AIR
