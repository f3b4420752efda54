/-! behind a call, where cells were made before -/
section AFT
variable {p : Program} {l : Launch} {e : Env} {R : Room} {s : State} {m : MethodId} {args : Array Value} {below : List Frame} {meth : Method} {c : Code} {Q : State → Prop} {ad : Nat → Nat} {D : va_G} {cs : ClassId × ClassId × ClassId} {A : Nat → Prop} {X : Heap → State → Prop} {H0 : Heap} {μ μ' : jx_Mem} {n k : Nat}
theorem jx_after2 {Qc : Array Value → State → Outcome → State → Prop} {a : Array Value} {v : Option Value} {H : Heap} {locs : List Loc} {pc : Nat} {ls : Array Slot} {st0 rest : List Value} (hXK : jx_XK A X) (hr : va_Run p l e R s m args below meth c H locs n k 0 0 (F0 m pc ls st0) rest (Qc a) A) (hQ : ∀ st oc t, Qc a st oc t → oc = .returned v ∧ jx_P ad D cs A X μ' t.heap t ∧ va_F A st t) (hW : jx_P ad D cs A X μ H s) (hS : va_S A H0 H locs)
    (kk : ∀ (H1 : Heap) (locs1 : List Loc), jx_P ad D cs A X μ' H1 s → va_S A H0 H1 locs1 → W p l e R s m args below meth c H1 locs1 n k Q (F0 m (pc + 3) ls (v.toList ++ rest))) : W p l e R s m args below meth c H locs n k Q (F0 m pc ls st0) := by
  intro T hT XT
  obtain ⟨v', st₀, t, T', L, h0, X', hL, e1, e2, hq, st⟩ := hr T hT XT
  obtain ⟨hv, hP, hz, hk⟩ := hQ _ _ _ hq
  cases hv
  rw [h0] at hz hk
  have hX1 : X T'.heap s := hXK.2.2 H T'.heap s (fun q h1 h2 => by rw [e1]; exact hk q h1 h2) hW.2.2.2.2
  obtain ⟨t2, a1, b1⟩ := kk T'.heap (locs ++ L) ⟨by rw [e1]; exact hP.1, hP.2.1, hW.2.2.1, hW.2.2.2.1, hX1⟩
    ⟨Nat.le_trans hS.1 (by rw [e1]; exact hz), fun q h1 h2 => by rw [e1, hk q (Nat.lt_of_lt_of_le h1 hS.1) h2]; exact hS.2.1 q h1 h2, fun q hq => by
      rcases List.mem_append.mp hq with h | h
      · exact hS.2.2 q h
      · exact hL q h⟩ T' rfl X'
  exact ⟨t2, st t2 a1, b1⟩
end AFT
