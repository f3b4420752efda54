/-! an answer in numbers is an outcome of the machine -/
theorem kI_ev {j lev pc : Nat} {lv : jx_Lv} {st : List Value} {m m' : jx_Mem} {v : Int32} (h : jx_K jx_kI j lev pc lv st m = some (v, m')) : jx_ev j lev pc lv st m = some (some (.int v), m') := by
  unfold jx_K at h
  cases e : jx_ev j lev pc lv st m with
  | none => rw [e] at h; cases h
  | some r =>
    obtain ⟨o, μ⟩ := r
    rw [e] at h
    cases o with
    | none => cases h
    | some w => cases w <;> first | (cases h; rfl) | cases h
theorem kL_ev {j lev pc : Nat} {lv : jx_Lv} {st : List Value} {m m' : jx_Mem} {v : Int64} (h : jx_K jx_kL j lev pc lv st m = some (v, m')) : jx_ev j lev pc lv st m = some (some (.long v), m') := by
  unfold jx_K at h
  cases e : jx_ev j lev pc lv st m with
  | none => rw [e] at h; cases h
  | some r =>
    obtain ⟨o, μ⟩ := r
    rw [e] at h
    cases o with
    | none => cases h
    | some w => cases w <;> first | (cases h; rfl) | cases h
theorem ev_F_tunnel {x y z v : Int32} {m m' : jx_Mem} (h : f_F_tunnel x y z m = some (v, m')) : jx_ev 161 0 0 (lv_args 0 [.ref 0, .int x, .int y, .int z]) [] m = some (some (.int v), m') := kI_ev h
