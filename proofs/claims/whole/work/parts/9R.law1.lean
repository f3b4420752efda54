/-! a call of the law: what was written lies in cells of its own -/
section LAW1
variable {p : Program} {l : Launch} {e : Env} {R : Room} {s : State} {m : MethodId} {args : Array Value} {below : List Frame} {meth : Method} {c : Code} {Q : State → Prop} {ad : Nat → Nat} {D : va_G} {cs : ClassId × ClassId × ClassId} {A : Nat → Prop} {X : Heap → State → Prop} {μ μ' : jx_Mem} {n k : Nat}
theorem jx_after3 {Qc : Array Value → State → Outcome → State → Prop} {a : Array Value} {v : Option Value} {H : Heap} {pc : Nat} {ls : Array Slot} {st0 rest : List Value} (hA : ∀ q, A q → s.heap.size ≤ q) (hXK : jx_XK A X) (hr : va_Run p l e R s m args below meth c H [] n k 0 0 (F0 m pc ls st0) rest (Qc a) A) (hQ : ∀ st oc t, Qc a st oc t → oc = .returned v ∧ jx_P ad D cs A X μ' t.heap t ∧ va_F A st t) (hW : jx_P ad D cs A X μ H s)
    (kk : ∀ H1 : Heap, jx_P ad D cs A X μ' H1 s → H.size ≤ H1.size → (∀ q : Nat, q < H.size → ¬ A q → H1[q]? = H[q]?) → W p l e R s m args below meth c H1 [] n k Q (F0 m (pc + 3) ls (v.toList ++ rest))) : W p l e R s m args below meth c H [] n k Q (F0 m pc ls st0) :=
  jx_after2 (H0 := H) hXK hr hQ hW ⟨Nat.le_refl _, fun _ _ _ => rfl, fun q hq => by cases hq⟩ (fun H1 locs1 hP hS => W.forget (locs := []) (L := locs1) (fun q hq => hA _ (hS.2.2 q hq)) (kk H1 hP hS.1 hS.2.1))
end LAW1
