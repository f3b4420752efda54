/-! words that many calls use -/
theorem jx_w_nat : Cond.native arraycopyName ∈ jx_tbl := by decide +kernel
theorem jx_w_stc : Cond.static arraycopyName ∈ jx_tbl := by decide +kernel
theorem jx_w_sys : Cond.initialized "java/lang/System" ∈ jx_tbl := by decide +kernel
theorem jx_w_math : Cond.initialized "java/lang/Math" ∈ jx_tbl := by decide +kernel
theorem jx_w_abs : Cond.static Lib.Math.abs.name ∈ jx_tbl := by decide +kernel
theorem jx_w_max : Cond.static Lib.Math.max.name ∈ jx_tbl := by decide +kernel
theorem jx_w_min : Cond.static Lib.Math.min.name ∈ jx_tbl := by decide +kernel
theorem jx_w_absC : Cond.code Lib.Math.abs.name Lib.Math.abs.code 1 (some .int) ∈ jx_tbl := by decide +kernel
theorem jx_w_maxC : Cond.code Lib.Math.max.name Lib.Math.max.code 2 (some .int) ∈ jx_tbl := by decide +kernel
theorem jx_w_minC : Cond.code Lib.Math.min.name Lib.Math.min.code 2 (some .int) ∈ jx_tbl := by decide +kernel
/-! a step that goes on -/
abbrev jx_Cx (p : Program) (s : State) (m : MethodId) (args : Array Value) (c : Code) (M : jx_M) : Prop := p.tables.exec = Jvm.exec ∧ c.code = M.2.1 ∧ c.maxLocals = M.2.2.1 ∧ s.vm.findClass M.1.cls = some m.cls ∧ ∀ w ∈ jx_tbl, w.before args s = true
abbrev jx_Go (p : Program) (l : Launch) (e : Env) (R : Room) (s : State) (m : MethodId) (args : Array Value) (below : List Frame) (meth : Method) (c : Code) (Q : State → Prop) (ad : Nat → Nat) (D : va_G) (cs : ClassId × ClassId × ClassId) (A : Nat → Prop) (X : Heap → State → Prop) (M : jx_M) (H0 : Heap) (pc : Nat) (lv : jx_Lv) (st : List Value) (μ : jx_Mem) : Prop :=
  ∀ (H1 : Heap) (locs1 : List Loc) (ls1 : Array Slot), lv_has ls1 M.2.2.1 (jx_mv ad lv) → jx_P ad D cs A X μ H1 s → va_S A H0 H1 locs1 → W p l e R s m args below meth c H1 locs1 0 0 Q (F0 m pc ls1 (st.map (jx_cv ad)))
section JXG
variable {p : Program} {l : Launch} {e : Env} {R : Room} {s : State} {m : MethodId} {args : Array Value} {below : List Frame} {meth : Method} {c : Code} {Q : State → Prop} {ad : Nat → Nat} {D : va_G} {cs : ClassId × ClassId × ClassId} {A : Nat → Prop} {X : Heap → State → Prop} {M : jx_M} {H0 : Heap} {el : jx_El} {h : Nat} {lv lv' : jx_Lv} {st st' : List Value} {μ μ' : jx_Mem}
theorem jx_X_kept (hXK : jx_XK A X) (hA : ∀ q, H0.size ≤ q → A q) {H H1 : Heap} {locs locs1 : List Loc} (hX : X H s) (hS : va_S A H0 H locs) (hS1 : va_S A H0 H1 locs1) : X H1 s := by
  refine hXK.2.2 H H1 s (fun q _ hn => ?_) hX
  have hq : q < H0.size := Nat.not_le.mp (fun z => hn (hA q z))
  rw [hS1.2.1 q hq hn, hS.2.1 q hq hn]
theorem jx_ok_dec (hok : jx_ok M el h = true) (hr : jx_raw el = false) : decode M.2.1 (jx_pc el) = .ok (jx_ins el, jx_len el) ∧ jx_okx M el h = true := by
  unfold jx_ok at hok
  rw [hr] at hok
  simp only [Bool.false_or, Bool.and_eq_true, decide_eq_true_eq] at hok
  exact hok
theorem jx_ixOk_inv {i n k : Nat} (hk : jx_ixOk el i n = true) (hi : jx_inf el = [k]) : k = i ∧ jx_len el = n := by
  unfold jx_ixOk at hk
  rw [hi] at hk
  simp only [Bool.and_eq_true] at hk
  exact ⟨Nat.eq_of_beq_eq_true hk.1, Nat.eq_of_beq_eq_true hk.2⟩
theorem jx_loc_inv {i n mx w k : Nat} (hk : jx_loc el i n mx w = true) (hi : jx_inf el = [k]) : k = i ∧ jx_len el = n ∧ i + w ≤ mx := by
  unfold jx_loc at hk
  rw [hi] at hk
  simp only [Bool.and_eq_true] at hk
  exact ⟨Nat.eq_of_beq_eq_true hk.1, Nat.eq_of_beq_eq_true hk.2.1, Nat.le_of_ble_eq_true hk.2.2⟩
theorem jx_cst_inv {v w : Value} {n : Nat} (hk : jx_cst el w n = true) (hv : jx_vals el = [v]) : v = w ∧ jx_len el = n := by
  unfold jx_cst at hk
  rw [hv] at hk
  simp only [Bool.and_eq_true, decide_eq_true_eq] at hk
  exact ⟨hk.1, Nat.eq_of_beq_eq_true hk.2⟩
theorem jx_fld_inv {own : String} {idx k ci : Nat} {r : List Nat} (hk : jx_fld own el idx h = true) (hi : jx_inf el = k :: ci :: r) : ∃ (C : String) (T : u_T) (N : Nat), jx_cl[ci]? = some (C, T, N) ∧ k < N ∧ (T k).1 = C ∧ Cond.fieldLink own idx C (T k).2.1 (T k).2.2.1 ∈ jx_tbl := by
  unfold jx_fld at hk
  rw [hi] at hk
  dsimp only at hk
  split at hk
  next C T N hc =>
    simp only [Bool.and_eq_true, decide_eq_true_eq] at hk
    exact ⟨C, T, N, hc, Nat.le_of_ble_eq_true hk.1, hk.2.1, jx_at_mem hk.2.2⟩
  next => cases hk
theorem jx_pfl_inv {k ci z : Nat} {C : String} {T : u_T} {N : Nat} (hk : jx_pfl el = true) (hi : jx_inf el = [k, ci, z]) (hc : jx_cl[ci]? = some (C, T, N)) : (T k).2.2.2 = false ∧ parseFieldDescriptor (T k).2.2.1 = some (bif Nat.beq z 0 then .int else .boolean) := by
  unfold jx_pfl at hk
  rw [hi] at hk
  dsimp only at hk
  rw [hc] at hk
  simp only [Bool.and_eq_true, decide_eq_true_eq] at hk
  exact hk
/-- what the calls of the JDK's own text need: two contracts -/
def jx_SOK (p : Program) (l : Launch) (e : Env) (R : Room) (s : State) (m : MethodId) (args : Array Value) (below : List Frame) (meth : Method) (c : Code) (Q : State → Prop) (ad : Nat → Nat) (A : Nat → Prop) (X : Heap → State → Prop) (M : jx_M) (H0 : Heap) : Prop :=
  (∀ (q : Nat) (t : List Int32) (idx pc : Nat) (H : Heap) (locs : List Loc) (ls : Array Slot) (rest : List Value), 900 ≤ q → jx_str[q - 900]? = some t → 5 ≤ R.frames ∧ 300 ≤ R.locals → X H s → va_S A H0 H locs → ls.size = M.2.2.1 → (rest.map fun v => v.category).sum ≤ 8 → Cond.methodLink M.1.cls idx ⟨"java/lang/String", "length", "()I"⟩ ∈ jx_tbl → decode M.2.1 pc = .ok (.invokevirtual idx, 3) →
    W p l e R s m args below meth c H locs 0 0 Q (F0 m (pc + 3) ls (.int (Int32.ofNat t.length) :: rest)) → W p l e R s m args below meth c H locs 0 0 Q (F0 m pc ls (.ref (ad q) :: rest))) ∧
  (∀ (q : Nat) (t : List Int32) (x : Int32) (idx pc : Nat) (H : Heap) (locs : List Loc) (ls : Array Slot) (rest : List Value), 900 ≤ q → jx_str[q - 900]? = some t → jx_in x t.length = true → 5 ≤ R.frames ∧ 300 ≤ R.locals → X H s → va_S A H0 H locs → ls.size = M.2.2.1 → (rest.map fun v => v.category).sum ≤ 8 → Cond.methodLink M.1.cls idx ⟨"java/lang/String", "charAt", "(I)C"⟩ ∈ jx_tbl → decode M.2.1 pc = .ok (.invokevirtual idx, 3) →
    W p l e R s m args below meth c H locs 0 0 Q (F0 m (pc + 3) ls (.int (t.getD x.toNatClampNeg 0) :: rest)) → W p l e R s m args below meth c H locs 0 0 Q (F0 m pc ls (.int x :: .ref (ad q) :: rest))) ∧
  ∀ (q : Nat) (t : Nat × String) (idx pc : Nat) (H : Heap) (locs : List Loc) (ls : Array Slot) (rest : List Value), 900 ≤ q → jx_stx[q - 900]? = some t → t.1 = idx → M.1.cls = "FairByEarModel" → X H s → decode M.2.1 pc = .ok (.ldc idx, 2) →
    W p l e R s m args below meth c H locs 0 0 Q (F0 m (pc + 2) ls (.ref (ad q) :: rest)) → W p l e R s m args below meth c H locs 0 0 Q (F0 m pc ls rest)
set_option maxHeartbeats 4000000 in
theorem jx_go_ok (hXK : jx_XK A X) (hA : ∀ q, H0.size ≤ q → A q) (C0 : jx_Cx p s m args c M) (hR : 1 ≤ R.frames ∧ 60 ≤ R.locals) (hR4 : 4 ≤ M.2.2.2.2.2.1 → 5 ≤ R.frames ∧ 300 ≤ R.locals) (hstr : jx_SOK p l e R s m args below meth c Q ad A X M H0) (hok : jx_ok M el h = true) (hact : jx_act el lv st μ = some (.inl (true, lv', st', μ')))
    (kk : jx_Go p l e R s m args below meth c Q ad D cs A X M H0 (jx_pc el + jx_len el) lv' st' μ') : jx_Go p l e R s m args below meth c Q ad D cs A X M H0 (jx_pc el) lv st μ := by
  obtain ⟨hx, hb, hml, hown, hts⟩ := C0
  intro H locs ls hl hW hS
  have hraw : jx_raw el = false := by
    cases hr : jx_raw el with
    | false => rfl
    | true =>
      unfold jx_raw at hr
      unfold jx_act at hact
      cases hins : jx_ins el <;> rw [hins] at hr hact <;> first | (cases hr; done) | (cases hact; done)
  obtain ⟨hdec, hok⟩ := jx_ok_dec hok hraw
  have hP := hW.1
  have hD := hW.2.1
  have hK := hW.2.2.1
  have hN := hW.2.2.2.1
  have hX := hW.2.2.2.2
  unfold jx_act at hact
  unfold jx_okx at hok
  cases hins : jx_ins el with
  | iconst n =>
    rw [hins] at hact hok hdec
    dsimp only at hact hok
    obtain ⟨v, hv, rfl, rfl, rfl⟩ := jx_push_inv hact
    obtain ⟨rfl, hlen⟩ := jx_cst_inv hok hv
    rw [hlen] at hdec kk
    exact lv_iconst hx hb hdec rfl (kk H locs ls hl hW hS)
  | bipush n =>
    rw [hins] at hact hok hdec
    dsimp only at hact hok
    obtain ⟨v, hv, rfl, rfl, rfl⟩ := jx_push_inv hact
    obtain ⟨rfl, hlen⟩ := jx_cst_inv hok hv
    rw [hlen] at hdec kk
    exact lv_bipush hx hb hdec rfl (kk H locs ls hl hW hS)
  | sipush n =>
    rw [hins] at hact hok hdec
    dsimp only at hact hok
    obtain ⟨v, hv, rfl, rfl, rfl⟩ := jx_push_inv hact
    obtain ⟨rfl, hlen⟩ := jx_cst_inv hok hv
    rw [hlen] at hdec kk
    exact lv_sipush hx hb hdec rfl (kk H locs ls hl hW hS)
  | lconst n =>
    rw [hins] at hact hok hdec
    dsimp only at hact hok
    obtain ⟨v, hv, rfl, rfl, rfl⟩ := jx_push_inv hact
    obtain ⟨rfl, hlen⟩ := jx_cst_inv hok hv
    rw [hlen] at hdec kk
    exact lv_lconst hx hb hdec rfl (kk H locs ls hl hW hS)
  | ldc idx =>
    rw [hins] at hact hok hdec
    dsimp only at hact hok
    obtain ⟨v, hv, rfl, rfl, rfl⟩ := jx_push_inv hact
    unfold jx_ldcOk at hok
    rw [hv, Bool.and_eq_true] at hok
    obtain ⟨hlen, hok⟩ := hok
    have hlen := Nat.eq_of_beq_eq_true hlen
    rw [hlen] at hdec kk
    cases v with
    | int x => exact lv_ldc hx hb hown (hts _ (jx_at_mem hok)) hdec (kk H locs ls hl hW hS)
    | ref q =>
      simp only [Bool.and_eq_true] at hok
      obtain ⟨-, h9, hok⟩ := hok
      split at hok
      next t ht =>
        simp only [Bool.and_eq_true, decide_eq_true_eq] at hok
        exact hstr.2.2 q t idx (jx_pc el) H locs ls _ (Nat.le_of_ble_eq_true h9) ht (Nat.eq_of_beq_eq_true hok.1) hok.2 hX hdec (kk H locs ls hl hW hS)
      next => cases hok
    | _ => cases hok
  | ldc_w idx =>
    rw [hins] at hact hok hdec
    dsimp only at hact hok
    obtain ⟨v, hv, rfl, rfl, rfl⟩ := jx_push_inv hact
    unfold jx_ldcOk at hok
    rw [hv, Bool.and_eq_true] at hok
    obtain ⟨hlen, hok⟩ := hok
    have hlen := Nat.eq_of_beq_eq_true hlen
    rw [hlen] at hdec kk
    cases v with
    | int x => exact lv_ldcw hx hb hown (hts _ (jx_at_mem hok)) hdec (kk H locs ls hl hW hS)
    | ref q => simp [Nat.beq] at hok
    | _ => cases hok
  | ldc2_w idx =>
    rw [hins] at hact hok hdec
    dsimp only at hact hok
    obtain ⟨v, hv, rfl, rfl, rfl⟩ := jx_push_inv hact
    rw [hv, Bool.and_eq_true] at hok
    obtain ⟨hlen, hok⟩ := hok
    have hlen : jx_len el = 3 := Nat.eq_of_beq_eq_true hlen
    rw [hlen] at hdec kk
    cases v with
    | long x => exact lv_ldc2 hx hb hown (hts _ (jx_at_mem hok)) hdec (kk H locs ls hl hW hS)
    | _ => cases hok
  | iload i =>
    rw [hins] at hact hok hdec
    dsimp only at hact hok
    obtain ⟨i0, x, hi, hg, rfl, rfl, rfl⟩ := jx_ldI_inv hact
    obtain ⟨rfl, hlen⟩ := jx_ixOk_inv hok hi
    rw [hlen] at hdec kk
    exact lv_iload hx hb hdec (jx_get_has hl hg) (kk H locs ls hl hW hS)
  | iload_n i =>
    rw [hins] at hact hok hdec
    dsimp only at hact hok
    obtain ⟨i0, x, hi, hg, rfl, rfl, rfl⟩ := jx_ldI_inv hact
    obtain ⟨hi0, hlen⟩ := jx_ixOk_inv hok hi
    rw [hlen] at hdec kk
    exact lv_iload_n hx hb hdec hi0.symm (jx_get_has hl hg) (kk H locs ls hl hW hS)
  | istore i =>
    rw [hins] at hact hok hdec
    dsimp only at hact hok
    obtain ⟨i0, x, hi, rfl, rfl, rfl⟩ := jx_stI_inv hact
    obtain ⟨rfl, hlen, hlt⟩ := jx_loc_inv hok hi
    rw [hlen] at hdec kk
    exact lv_istore hx hb hdec hl (by omega) (jx_mv_set1 ad lv i0 (.int x)) (fun ls1 hl1 => kk H locs ls1 hl1 hW hS)
  | istore_n i =>
    rw [hins] at hact hok hdec
    dsimp only at hact hok
    obtain ⟨i0, x, hi, rfl, rfl, rfl⟩ := jx_stI_inv hact
    obtain ⟨hi0, hlen, hlt⟩ := jx_loc_inv hok hi
    rw [hlen] at hdec kk
    exact lv_istore_n hx hb hdec hi0.symm hl (by omega) (jx_mv_set1 ad lv i0 (.int x)) (fun ls1 hl1 => kk H locs ls1 hl1 hW hS)
  | lload i =>
    rw [hins] at hact hok hdec
    dsimp only at hact hok
    obtain ⟨i0, x, hi, hg, rfl, rfl, rfl⟩ := jx_ldL_inv hact
    obtain ⟨rfl, hlen⟩ := jx_ixOk_inv hok hi
    rw [hlen] at hdec kk
    exact lv_lload hx hb hdec (jx_get_has hl hg) (kk H locs ls hl hW hS)
  | lload_n i =>
    rw [hins] at hact hok hdec
    dsimp only at hact hok
    obtain ⟨i0, x, hi, hg, rfl, rfl, rfl⟩ := jx_ldL_inv hact
    obtain ⟨hi0, hlen⟩ := jx_ixOk_inv hok hi
    rw [hlen] at hdec kk
    exact lv_lload_n hx hb hdec hi0.symm (jx_get_has hl hg) (kk H locs ls hl hW hS)
  | lstore i =>
    rw [hins] at hact hok hdec
    dsimp only at hact hok
    obtain ⟨i0, x, hi, rfl, rfl, rfl⟩ := jx_stL_inv hact
    obtain ⟨rfl, hlen, hlt⟩ := jx_loc_inv hok hi
    rw [hlen] at hdec kk
    exact lv_lstore hx hb hdec hl (by omega) (jx_mv_set2 ad lv i0 (.long x)) (fun ls1 hl1 => kk H locs ls1 hl1 hW hS)
  | lstore_n i =>
    rw [hins] at hact hok hdec
    dsimp only at hact hok
    obtain ⟨i0, x, hi, rfl, rfl, rfl⟩ := jx_stL_inv hact
    obtain ⟨hi0, hlen, hlt⟩ := jx_loc_inv hok hi
    rw [hlen] at hdec kk
    exact lv_lstore_n hx hb hdec hi0.symm hl (by omega) (jx_mv_set2 ad lv i0 (.long x)) (fun ls1 hl1 => kk H locs ls1 hl1 hW hS)
  | aload i =>
    rw [hins] at hact hok hdec
    dsimp only at hact hok
    obtain ⟨i0, x, hi, hg, rfl, rfl, rfl⟩ := jx_ldA_inv hact
    obtain ⟨rfl, hlen⟩ := jx_ixOk_inv hok hi
    rw [hlen] at hdec kk
    exact lv_aload hx hb hdec (jx_get_has hl hg) (kk H locs ls hl hW hS)
  | aload_n i =>
    rw [hins] at hact hok hdec
    dsimp only at hact hok
    obtain ⟨i0, x, hi, hg, rfl, rfl, rfl⟩ := jx_ldA_inv hact
    obtain ⟨hi0, hlen⟩ := jx_ixOk_inv hok hi
    rw [hlen] at hdec kk
    exact lv_aload_n hx hb hdec hi0.symm (jx_get_has hl hg) (kk H locs ls hl hW hS)
  | astore i =>
    rw [hins] at hact hok hdec
    dsimp only at hact hok
    obtain ⟨i0, x, hi, rfl, rfl, rfl⟩ := jx_stA_inv hact
    obtain ⟨rfl, hlen, hlt⟩ := jx_loc_inv hok hi
    rw [hlen] at hdec kk
    exact lv_astore hx hb hdec hl (by omega) (jx_mv_set1 ad lv i0 (.ref x)) (fun ls1 hl1 => kk H locs ls1 hl1 hW hS)
  | astore_n i =>
    rw [hins] at hact hok hdec
    dsimp only at hact hok
    obtain ⟨i0, x, hi, rfl, rfl, rfl⟩ := jx_stA_inv hact
    obtain ⟨hi0, hlen, hlt⟩ := jx_loc_inv hok hi
    rw [hlen] at hdec kk
    exact lv_astore_n hx hb hdec hi0.symm hl (by omega) (jx_mv_set1 ad lv i0 (.ref x)) (fun ls1 hl1 => kk H locs ls1 hl1 hW hS)
  | iinc i n =>
    rw [hins] at hact hok hdec
    dsimp only at hact hok
    obtain ⟨i0, x, c0, hi, hv, hg, rfl, rfl, rfl⟩ := jx_iinc_inv hact
    rw [hv, Bool.and_eq_true] at hok
    obtain ⟨rfl, hlen, hlt⟩ := jx_loc_inv hok.1 hi
    have hc0 : Int32.ofInt n = c0 := of_decide_eq_true hok.2
    rw [hlen] at hdec kk
    obtain ⟨k0, hk0⟩ := jx_get_place (ad := ad) hg
    exact lv_iinc hx hb hdec hl hk0 (by rw [hc0]) (by omega) (jx_mv_set1 ad lv i0 (.int (x + c0))) (fun ls1 hl1 => kk H locs ls1 hl1 hW hS)
  | iadd =>
    rw [hins] at hact hok hdec
    dsimp only at hact hok
    obtain ⟨x, y, r, rfl, -, rfl, rfl, rfl⟩ := jx_bin_inv hact
    have hlen : jx_len el = 1 := Nat.eq_of_beq_eq_true hok
    rw [hlen] at hdec kk
    exact lv_iadd hx hb hdec (kk H locs ls hl hW hS)
  | isub =>
    rw [hins] at hact hok hdec
    dsimp only at hact hok
    obtain ⟨x, y, r, rfl, -, rfl, rfl, rfl⟩ := jx_bin_inv hact
    have hlen : jx_len el = 1 := Nat.eq_of_beq_eq_true hok
    rw [hlen] at hdec kk
    exact lv_isub hx hb hdec (kk H locs ls hl hW hS)
  | imul =>
    rw [hins] at hact hok hdec
    dsimp only at hact hok
    obtain ⟨x, y, r, rfl, -, rfl, rfl, rfl⟩ := jx_bin_inv hact
    have hlen : jx_len el = 1 := Nat.eq_of_beq_eq_true hok
    rw [hlen] at hdec kk
    exact lv_imul hx hb hdec (kk H locs ls hl hW hS)
  | iand =>
    rw [hins] at hact hok hdec
    dsimp only at hact hok
    obtain ⟨x, y, r, rfl, -, rfl, rfl, rfl⟩ := jx_bin_inv hact
    have hlen : jx_len el = 1 := Nat.eq_of_beq_eq_true hok
    rw [hlen] at hdec kk
    exact lv_iand hx hb hdec (kk H locs ls hl hW hS)
  | ior =>
    rw [hins] at hact hok hdec
    dsimp only at hact hok
    obtain ⟨x, y, r, rfl, -, rfl, rfl, rfl⟩ := jx_bin_inv hact
    have hlen : jx_len el = 1 := Nat.eq_of_beq_eq_true hok
    rw [hlen] at hdec kk
    exact lv_ior hx hb hdec (kk H locs ls hl hW hS)
  | ixor =>
    rw [hins] at hact hok hdec
    dsimp only at hact hok
    obtain ⟨x, y, r, rfl, -, rfl, rfl, rfl⟩ := jx_bin_inv hact
    have hlen : jx_len el = 1 := Nat.eq_of_beq_eq_true hok
    rw [hlen] at hdec kk
    exact lv_ixor hx hb hdec (kk H locs ls hl hW hS)
  | ishl =>
    rw [hins] at hact hok hdec
    dsimp only at hact hok
    obtain ⟨x, y, r, rfl, -, rfl, rfl, rfl⟩ := jx_bin_inv hact
    have hlen : jx_len el = 1 := Nat.eq_of_beq_eq_true hok
    rw [hlen] at hdec kk
    exact lv_ishl hx hb hdec (kk H locs ls hl hW hS)
  | ishr =>
    rw [hins] at hact hok hdec
    dsimp only at hact hok
    obtain ⟨x, y, r, rfl, -, rfl, rfl, rfl⟩ := jx_bin_inv hact
    have hlen : jx_len el = 1 := Nat.eq_of_beq_eq_true hok
    rw [hlen] at hdec kk
    exact lv_ishr hx hb hdec (kk H locs ls hl hW hS)
  | iushr =>
    rw [hins] at hact hok hdec
    dsimp only at hact hok
    obtain ⟨x, y, r, rfl, -, rfl, rfl, rfl⟩ := jx_bin_inv hact
    have hlen : jx_len el = 1 := Nat.eq_of_beq_eq_true hok
    rw [hlen] at hdec kk
    exact lv_iushr hx hb hdec rfl (kk H locs ls hl hW hS)
  | idiv =>
    rw [hins] at hact hok hdec
    dsimp only at hact hok
    obtain ⟨x, y, r, rfl, hg, rfl, rfl, rfl⟩ := jx_bin_inv hact
    have hlen : jx_len el = 1 := Nat.eq_of_beq_eq_true hok
    rw [hlen] at hdec kk
    exact lv_idiv hx hb hdec (by simpa using hg) (kk H locs ls hl hW hS)
  | irem =>
    rw [hins] at hact hok hdec
    dsimp only at hact hok
    obtain ⟨x, y, r, rfl, hg, rfl, rfl, rfl⟩ := jx_bin_inv hact
    have hlen : jx_len el = 1 := Nat.eq_of_beq_eq_true hok
    rw [hlen] at hdec kk
    exact lv_irem hx hb hdec (by simpa using hg) (kk H locs ls hl hW hS)
  | ineg =>
    rw [hins] at hact hok hdec
    dsimp only at hact hok
    obtain ⟨x, r, rfl, rfl, rfl, rfl⟩ := jx_un_inv hact
    have hlen : jx_len el = 1 := Nat.eq_of_beq_eq_true hok
    rw [hlen] at hdec kk
    exact lv_ineg hx hb hdec (kk H locs ls hl hW hS)
  | i2b =>
    rw [hins] at hact hok hdec
    dsimp only at hact hok
    obtain ⟨x, r, rfl, rfl, rfl, rfl⟩ := jx_un_inv hact
    have hlen : jx_len el = 1 := Nat.eq_of_beq_eq_true hok
    rw [hlen] at hdec kk
    exact lv_i2b hx hb hdec rfl (kk H locs ls hl hW hS)
  | i2s =>
    rw [hins] at hact hok hdec
    dsimp only at hact hok
    obtain ⟨x, r, rfl, rfl, rfl, rfl⟩ := jx_un_inv hact
    have hlen : jx_len el = 1 := Nat.eq_of_beq_eq_true hok
    rw [hlen] at hdec kk
    exact lv_i2s hx hb hdec rfl (kk H locs ls hl hW hS)
  | i2l =>
    rw [hins] at hact hok hdec
    dsimp only at hact hok
    split at hact
    next x r =>
      obtain ⟨-, rfl, rfl, rfl⟩ := jx_go_inv hact
      have hlen : jx_len el = 1 := Nat.eq_of_beq_eq_true hok
      rw [hlen] at hdec kk
      exact lv_i2l hx hb hdec rfl (kk H locs ls hl hW hS)
    next => cases hact
  | land =>
    rw [hins] at hact hok hdec
    dsimp only at hact hok
    obtain ⟨x, y, r, rfl, -, rfl, rfl, rfl⟩ := jx_binL_inv hact
    have hlen : jx_len el = 1 := Nat.eq_of_beq_eq_true hok
    rw [hlen] at hdec kk
    exact lv_land hx hb hdec (kk H locs ls hl hW hS)
  | lor =>
    rw [hins] at hact hok hdec
    dsimp only at hact hok
    obtain ⟨x, y, r, rfl, -, rfl, rfl, rfl⟩ := jx_binL_inv hact
    have hlen : jx_len el = 1 := Nat.eq_of_beq_eq_true hok
    rw [hlen] at hdec kk
    exact lv_lor hx hb hdec (kk H locs ls hl hW hS)
  | ldiv =>
    rw [hins] at hact hok hdec
    dsimp only at hact hok
    obtain ⟨x, y, r, rfl, hg, rfl, rfl, rfl⟩ := jx_binL_inv hact
    have hlen : jx_len el = 1 := Nat.eq_of_beq_eq_true hok
    rw [hlen] at hdec kk
    exact lv_ldiv hx hb hdec (by simpa using hg) (kk H locs ls hl hW hS)
  | lrem =>
    rw [hins] at hact hok hdec
    dsimp only at hact hok
    obtain ⟨x, y, r, rfl, hg, rfl, rfl, rfl⟩ := jx_binL_inv hact
    have hlen : jx_len el = 1 := Nat.eq_of_beq_eq_true hok
    rw [hlen] at hdec kk
    exact lv_lrem hx hb hdec (by simpa using hg) (kk H locs ls hl hW hS)
  | lshl =>
    rw [hins] at hact hok hdec
    dsimp only at hact hok
    obtain ⟨x, y, r, rfl, rfl, rfl, rfl⟩ := jx_shL_inv hact
    have hlen : jx_len el = 1 := Nat.eq_of_beq_eq_true hok
    rw [hlen] at hdec kk
    exact lv_lshl hx hb hdec rfl (kk H locs ls hl hW hS)
  | lushr =>
    rw [hins] at hact hok hdec
    dsimp only at hact hok
    obtain ⟨x, y, r, rfl, rfl, rfl, rfl⟩ := jx_shL_inv hact
    have hlen : jx_len el = 1 := Nat.eq_of_beq_eq_true hok
    rw [hlen] at hdec kk
    exact lv_lushr hx hb hdec rfl (kk H locs ls hl hW hS)
  | lcmp =>
    rw [hins] at hact hok hdec
    dsimp only at hact hok
    split at hact
    next y x r =>
      obtain ⟨-, rfl, rfl, rfl⟩ := jx_go_inv hact
      have hlen : jx_len el = 1 := Nat.eq_of_beq_eq_true hok
      rw [hlen] at hdec kk
      exact W.lcmp hx hb hdec (kk H locs ls hl hW hS)
    next => cases hact
  | dup =>
    rw [hins] at hact hok hdec
    dsimp only at hact hok
    split at hact
    next v r =>
      cases hv : Nat.beq v.category 1 with
      | false => rw [hv] at hact; cases hact
      | true =>
        rw [hv] at hact
        obtain ⟨-, rfl, rfl, rfl⟩ := jx_go_inv hact
        have hlen : jx_len el = 1 := Nat.eq_of_beq_eq_true hok
        rw [hlen] at hdec kk
        exact lv_dup hx hb hdec (by rw [jx_cat_cv]; exact Nat.eq_of_beq_eq_true hv) (kk H locs ls hl hW hS)
    next => cases hact
  | pop =>
    rw [hins] at hact hok hdec
    dsimp only at hact hok
    split at hact
    next v r =>
      cases hv : Nat.beq v.category 1 with
      | false => rw [hv] at hact; cases hact
      | true =>
        rw [hv] at hact
        obtain ⟨-, rfl, rfl, rfl⟩ := jx_go_inv hact
        have hlen : jx_len el = 1 := Nat.eq_of_beq_eq_true hok
        rw [hlen] at hdec kk
        exact lv_pop hx hb hdec (by rw [jx_cat_cv]; exact Nat.eq_of_beq_eq_true hv) (kk H locs ls hl hW hS)
    next => cases hact
  | dup2 =>
    rw [hins] at hact hok hdec
    dsimp only at hact hok
    split at hact
    next v w r =>
      cases hv : (Nat.beq v.category 1 && Nat.beq w.category 1) with
      | false => rw [hv] at hact; cases hact
      | true =>
        rw [hv] at hact
        rw [Bool.and_eq_true] at hv
        obtain ⟨-, rfl, rfl, rfl⟩ := jx_go_inv hact
        have hlen : jx_len el = 1 := Nat.eq_of_beq_eq_true hok
        rw [hlen] at hdec kk
        exact lv_dup2_11 hx hb hdec (by rw [jx_cat_cv]; exact Nat.eq_of_beq_eq_true hv.1) (by rw [jx_cat_cv]; exact Nat.eq_of_beq_eq_true hv.2) (kk H locs ls hl hW hS)
    next => cases hact
  | getfield idx =>
    rw [hins] at hact hok hdec
    dsimp only at hact hok
    obtain ⟨k, ci, i, r, fs, x, hi, rfl, hs, hf, rfl, rfl, rfl⟩ := jx_getf_inv hact
    rw [Bool.and_eq_true] at hok
    have hlen : jx_len el = 3 := Nat.eq_of_beq_eq_true hok.1
    obtain ⟨C, T, N, hc, hk, hT, hlink⟩ := jx_fld_inv hok.2 hi
    rw [hlen] at hdec kk
    cases x with
    | none =>
      have hv : (fs.mapIdx (fun k x => jx_fv ad μ' i k x))[k]? = some (.int (μ'.1 i k)) := by rw [List.getElem?_mapIdx, hf]; rfl
      exact va_get hx hb hts (jx_inT ci C T N hc) hown hK hP i (jx_wd_get hs) hc k hk (hts _ hlink) (fun z hz => by rw [hT] at hz; exact hz) hv hdec (kk H locs ls hl hW hS)
    | some a =>
      have hv : (fs.mapIdx (fun k x => jx_fv ad μ' i k x))[k]? = some (.ref (ad a)) := by rw [List.getElem?_mapIdx, hf]; rfl
      exact va_get hx hb hts (jx_inT ci C T N hc) hown hK hP i (jx_wd_get hs) hc k hk (hts _ hlink) (fun z hz => by rw [hT] at hz; exact hz) hv hdec (kk H locs ls hl hW hS)
  | putfield idx =>
    rw [hins] at hact hok hdec
    dsimp only at hact hok
    obtain ⟨k, ci, z, i, v, r, fs, hi, rfl, hs, hf, hz, rfl, rfl, rfl⟩ := jx_putf_inv hact
    simp only [Bool.and_eq_true] at hok
    have hlen : jx_len el = 3 := Nat.eq_of_beq_eq_true hok.1
    obtain ⟨C, T, N, hc, hk, hT, hlink⟩ := jx_fld_inv hok.2.1 hi
    obtain ⟨hfin, hty⟩ := jx_pfl_inv hok.2.2 hi hc
    obtain ⟨ty0, hty0, hnm⟩ := jx_clok ci C T N hc
    rw [hlen] at hdec kk
    have hfit : narrow (bif Nat.beq z 0 then .int else .boolean) (.int v) = .int v ∧ fits (bif Nat.beq z 0 then FieldType.int else .boolean) (.int v) = true := by
      cases hb0 : Nat.beq z 0 with
      | true => exact ⟨rfl, rfl⟩
      | false =>
        rw [hb0] at hz
        exact ⟨(jx_01_nar hz).1, (jx_01_nar hz).2.1⟩
    have hset := jx_wd_set (ad := ad) (cs := cs) (μ := μ) (μ' := (jx_up μ.1 i k v, μ.2)) (i := i) hs (x := .inr (ci, (fs.mapIdx (fun k x => jx_fv ad μ i k x)).set k (.int v))) (by
      show Sum.inr (ci, fs.mapIdx (fun k2 x => jx_fv ad (jx_up μ.1 i k v, μ.2) i k2 x)) = _
      congr 2
      apply List.ext_getElem?
      intro q
      rw [List.getElem?_set, List.getElem?_mapIdx, List.getElem?_mapIdx, List.length_mapIdx]
      by_cases hq : k = q
      · subst hq
        rw [if_pos rfl, if_pos (List.getElem?_eq_some_iff.mp hf).1, hf]
        show some (Value.int (jx_up μ.1 i k v i k)) = _
        unfold jx_up
        rw [if_pos ⟨rfl, rfl⟩]
      · rw [if_neg hq]
        cases fs[q]? with
        | none => rfl
        | some x =>
          cases x with
          | none =>
            show some (Value.int (jx_up μ.1 i k v i q)) = some (Value.int (μ.1 i q))
            unfold jx_up
            rw [if_neg (fun e => hq e.2.symm)]
          | some a => rfl) (fun q hq => jx_up_row μ.1 i k v hq) (fun q hq => rfl)
    refine va_put hx hb hts (jx_inT ci C T N hc) ty0 hty0 hnm hown hK hP hD hS i (jx_wd_get hs) hc k hk (hts _ hlink) (fun z hz => by rw [hT] at hz; exact hz) hfin hty hfit.1 hfit.2 (by rw [List.length_mapIdx]; exact (List.getElem?_eq_some_iff.mp hf).1) hdec (fun H1 locs1 hP1 hD1 hS1 => ?_)
    have e0 : jx_cv ad (Value.int v) = Value.int v := rfl
    rw [e0, hset] at hP1 hD1
    exact kk H1 locs1 ls hl ⟨hP1, hD1, hK, hN, jx_X_kept hXK hA hX hS hS1⟩ hS1
  | iaload =>
    rw [hins] at hact hok hdec
    dsimp only at hact hok
    obtain ⟨i, n, x, r, rfl, hs, hin, rfl, rfl, rfl⟩ := jx_ald_inv hact
    have hlen : jx_len el = 1 := Nat.eq_of_beq_eq_true hok
    rw [hlen] at hdec kk
    exact va_iald hx hb hK hP i 0 (jx_wd_get hs) rfl (jx_in_vp hin) hdec (kk H locs ls hl hW hS)
  | baload =>
    rw [hins] at hact hok hdec
    dsimp only at hact hok
    obtain ⟨i, n, x, r, rfl, hs, hin, rfl, rfl, rfl⟩ := jx_ald_inv hact
    have hlen : jx_len el = 1 := Nat.eq_of_beq_eq_true hok
    rw [hlen] at hdec kk
    exact va_zald hx hb hK hP i 2 (jx_wd_get hs) rfl (jx_in_vp hin) hdec (kk H locs ls hl hW hS)
  | laload =>
    rw [hins] at hact hok hdec
    dsimp only at hact hok
    obtain ⟨i, n, x, r, rfl, hs, hin, rfl, rfl, rfl⟩ := jx_aldL_inv hact
    have hlen : jx_len el = 1 := Nat.eq_of_beq_eq_true hok
    rw [hlen] at hdec kk
    exact va_lald hx hb hK hP i 1 (jx_wd_get hs) rfl (jx_in_vp hin) hdec (kk H locs ls hl hW hS)
  | iastore =>
    rw [hins] at hact hok hdec
    dsimp only at hact hok
    obtain ⟨i, n, x, v, r, rfl, hs, hin, hz, rfl, rfl, rfl⟩ := jx_ast_inv hact
    have hlen : jx_len el = 1 := Nat.eq_of_beq_eq_true hok
    rw [hlen] at hdec kk
    have hset := jx_wd_set (ad := ad) (cs := cs) (μ := μ) (μ' := (jx_up μ.1 i x.toNatClampNeg v, μ.2)) (i := i) hs (x := .inl (cs.1, n, .inl (upd (μ.1 i) x.toNatClampNeg v))) (by
      show Sum.inl (cs.1, n, Sum.inl (jx_up μ.1 i x.toNatClampNeg v i)) = _
      rw [jx_up_self]) (fun q hq => jx_up_row μ.1 i x.toNatClampNeg v hq) (fun q hq => rfl)
    refine va_iast hx hb hK hP hD hS i 0 (jx_wd_get hs) rfl (jx_in_vp hin) hdec (fun H1 locs1 hP1 hD1 hS1 => ?_)
    rw [hset] at hP1 hD1
    exact kk H1 locs1 ls hl ⟨hP1, hD1, hK, hN, jx_X_kept hXK hA hX hS hS1⟩ hS1
  | bastore =>
    rw [hins] at hact hok hdec
    dsimp only at hact hok
    obtain ⟨i, n, x, v, r, rfl, hs, hin, hz, rfl, rfl, rfl⟩ := jx_ast_inv hact
    have hlen : jx_len el = 1 := Nat.eq_of_beq_eq_true hok
    rw [hlen] at hdec kk
    have hset := jx_wd_set (ad := ad) (cs := cs) (μ := μ) (μ' := (jx_up μ.1 i x.toNatClampNeg v, μ.2)) (i := i) hs (x := .inl (cs.2.2, n, .inl (upd (μ.1 i) x.toNatClampNeg v))) (by
      show Sum.inl (cs.2.2, n, Sum.inl (jx_up μ.1 i x.toNatClampNeg v i)) = _
      rw [jx_up_self]) (fun q hq => jx_up_row μ.1 i x.toNatClampNeg v hq) (fun q hq => rfl)
    refine va_zast hx hb hK hP hD hS i 2 (jx_wd_get hs) rfl (jx_in_vp hin) hdec (fun H1 locs1 hP1 hD1 hS1 => ?_)
    rw [(jx_01_nar hz).2.2] at hP1 hD1
    rw [hset] at hP1 hD1
    exact kk H1 locs1 ls hl ⟨hP1, hD1, hK, hN, jx_X_kept hXK hA hX hS hS1⟩ hS1
  | lastore =>
    rw [hins] at hact hok hdec
    dsimp only at hact hok
    obtain ⟨i, n, x, v, r, rfl, hs, hin, rfl, rfl, rfl⟩ := jx_astL_inv hact
    have hlen : jx_len el = 1 := Nat.eq_of_beq_eq_true hok
    rw [hlen] at hdec kk
    have hset := jx_wd_set (ad := ad) (cs := cs) (μ := μ) (μ' := (μ.1, jx_up μ.2 i x.toNatClampNeg v)) (i := i) hs (x := .inl (cs.2.1, n, .inr (.inl (vp_updL (μ.2 i) x.toNatClampNeg v)))) (by
      show Sum.inl (cs.2.1, n, Sum.inr (Sum.inl (jx_up μ.2 i x.toNatClampNeg v i))) = _
      rw [jx_up_selfL]) (fun q hq => rfl) (fun q hq => jx_up_row μ.2 i x.toNatClampNeg v hq)
    refine va_last hx hb hK hP hD hS i 1 (jx_wd_get hs) rfl (jx_in_vp hin) hdec (fun H1 locs1 hP1 hD1 hS1 => ?_)
    rw [hset] at hP1 hD1
    exact kk H1 locs1 ls hl ⟨hP1, hD1, hK, hN, jx_X_kept hXK hA hX hS hS1⟩ hS1
  | arraylength =>
    rw [hins] at hact hok hdec
    dsimp only at hact hok
    obtain ⟨i, kd, n, r, rfl, hs, rfl, rfl, rfl⟩ := jx_alen_inv hact
    have hlen : jx_len el = 1 := Nat.eq_of_beq_eq_true hok
    rw [hlen] at hdec kk
    match kd with
    | 0 => exact va_alen hx hb hK hP i 0 (jx_wd_get hs) rfl rfl hdec (kk H locs ls hl hW hS)
    | 1 => exact va_alen hx hb hK hP i 1 (jx_wd_get hs) rfl rfl hdec (kk H locs ls hl hW hS)
    | _ + 2 => exact va_alen hx hb hK hP i 2 (jx_wd_get hs) rfl rfl hdec (kk H locs ls hl hW hS)
  | invokevirtual idx =>
    rw [hins] at hact hok hdec
    dsimp only at hact hok
    rw [Bool.and_eq_true] at hok
    have hlen : jx_len el = 3 := Nat.eq_of_beq_eq_true hok.1
    have hok := hok.2
    rw [hlen] at hdec kk
    unfold jx_callV at hact
    unfold jx_cllV at hok
    split at hact
    next j mode rk na ci ml hi =>
      exfalso
      split at hact
      next =>
        split at hact
        next =>
          cases hq : (Nat.beq _ ci && _) <;> rw [hq] at hact <;> cases hact
        next => cases hact
      next => cases hact
    next hi =>
      rw [hi] at hok
      simp only [Bool.and_eq_true] at hok
      unfold jx_slen at hact
      split at hact
      next q r =>
        cases hq : (Nat.ble 900 q && Nat.ble (jx_cat r) 8) with
        | false => rw [hq] at hact; cases hact
        | true =>
          rw [hq] at hact
          rw [Bool.and_eq_true] at hq
          dsimp only [cond_true] at hact
          split at hact
          next t ht =>
            obtain ⟨-, rfl, rfl, rfl⟩ := jx_go_inv hact
            exact hstr.1 q t idx (jx_pc el) H locs ls _ (Nat.le_of_ble_eq_true hq.1) ht (hR4 (Nat.le_of_ble_eq_true hok.2)) hX hS hl.1 (by rw [jx_cat_sum]; exact Nat.le_of_ble_eq_true hq.2) (jx_at_mem hok.1) hdec (kk H locs ls hl hW hS)
          next => cases hact
      next => cases hact
    next hi =>
      rw [hi] at hok
      simp only [Bool.and_eq_true] at hok
      unfold jx_schar at hact
      split at hact
      next x q r =>
        cases hq : (Nat.ble 900 q && Nat.ble (jx_cat r) 8) with
        | false => rw [hq] at hact; cases hact
        | true =>
          rw [hq] at hact
          rw [Bool.and_eq_true] at hq
          dsimp only [cond_true] at hact
          split at hact
          next t ht =>
            obtain ⟨hin, rfl, rfl, rfl⟩ := jx_go_inv hact
            exact hstr.2.1 q t x idx (jx_pc el) H locs ls _ (Nat.le_of_ble_eq_true hq.1) ht hin (hR4 (Nat.le_of_ble_eq_true hok.2)) hX hS hl.1 (by rw [jx_cat_sum]; exact Nat.le_of_ble_eq_true hq.2) (jx_at_mem hok.1) hdec (kk H locs ls hl hW hS)
          next => cases hact
      next => cases hact
    next => cases hact
  | invokestatic idx =>
    rw [hins] at hact hok hdec
    dsimp only at hact hok
    rw [Bool.and_eq_true] at hok
    have hlen : jx_len el = 3 := Nat.eq_of_beq_eq_true hok.1
    have hok := hok.2
    rw [hlen] at hdec kk
    unfold jx_callS at hact
    unfold jx_cllS at hok
    have hls : c.maxLocals = ls.size := by rw [hml]; exact hl.1.symm
    split at hact
    next j mode rk na ml hi =>
      exfalso
      split at hact
      next =>
        cases hq : (Nat.ble _ 8 && _) <;> rw [hq] at hact <;> cases hact
      next => cases hact
    next hi =>
      rw [hi] at hok
      (try dsimp only at hok)
      obtain ⟨n, dp, sp, d, q, nd, ns, r, rfl, hs1, hs2, hcat, h1, h2, h3, h4, h5, rfl, rfl, rfl⟩ := jx_copy_inv hact
      have hset := jx_wd_set (ad := ad) (cs := cs) (μ := μ) (μ' := (jx_cpy μ.1 q sp.toNatClampNeg d dp.toNatClampNeg n.toNatClampNeg, μ.2)) (i := d) hs2 (x := .inl (cs.1, nd, .inl (va_cpy (μ.1 q) (μ.1 d) sp.toNatClampNeg dp.toNatClampNeg n.toNatClampNeg))) (by
        show Sum.inl (cs.1, nd, Sum.inl (jx_cpy μ.1 q sp.toNatClampNeg d dp.toNatClampNeg n.toNatClampNeg d)) = _
        rw [jx_cpy_self]) (fun z hz => jx_cpy_row μ.1 q _ d _ _ hz) (fun z hz => rfl)
      refine va_copyi hx hb hls hown (hts _ (jx_at_mem hok)) (hts _ jx_w_nat) (hts _ jx_w_stc) (hts _ jx_w_sys) hK hP hD hS q d 0 0 (ty := .int) (jx_wd_get hs1) (jx_wd_get hs2) rfl rfl rfl h1 h2 h3 h4 h5 (fun _ _ => rfl) hR.1 (by rw [jx_cat_sum]; exact Nat.le_trans (Nat.add_le_add_right hcat _) (Nat.le_trans (by decide) hR.2)) hdec (fun H1 locs1 hP1 hD1 hS1 => ?_)
      rw [hset] at hP1 hD1
      exact kk H1 locs1 ls hl ⟨hP1, hD1, hK, hN, jx_X_kept hXK hA hX hS hS1⟩ hS1
    next hi =>
      rw [hi] at hok
      (try dsimp only at hok)
      obtain ⟨x, r, rfl, hcat, rfl, rfl, rfl⟩ := jx_mth1_inv hact
      exact va_mabs hx hb hls hown (hts _ (jx_at_mem hok)) (hts _ jx_w_abs) (hts _ jx_w_math) (hts _ jx_w_absC) hR.1 (by rw [jx_cat_sum]; omega) (Nat.zero_le _) (Nat.zero_le _) hdec (kk H locs ls hl hW hS)
    next hi =>
      rw [hi] at hok
      (try dsimp only at hok)
      obtain ⟨x, y, r, rfl, hcat, rfl, rfl, rfl⟩ := jx_mth2_inv hact
      exact va_mmax hx hb hls hown (hts _ (jx_at_mem hok)) (hts _ jx_w_max) (hts _ jx_w_math) (hts _ jx_w_maxC) hR.1 (by rw [jx_cat_sum]; omega) (Nat.zero_le _) (Nat.zero_le _) hdec (kk H locs ls hl hW hS)
    next hi =>
      rw [hi] at hok
      (try dsimp only at hok)
      obtain ⟨x, y, r, rfl, hcat, rfl, rfl, rfl⟩ := jx_mth2_inv hact
      exact va_mmin hx hb hls hown (hts _ (jx_at_mem hok)) (hts _ jx_w_min) (hts _ jx_w_math) (hts _ jx_w_minC) hR.1 (by rw [jx_cat_sum]; omega) (Nat.zero_le _) (Nat.zero_le _) hdec (kk H locs ls hl hW hS)
    next => cases hact
  | ifCond cd off =>
    rw [hins] at hact hok hdec
    dsimp only at hact hok
    exfalso
    cases cd <;> dsimp only at hact <;> unfold jx_if1 at hact <;> (split at hact <;> (first | (cases hact; done) | (split at hact <;> cases hact)))
  | if_icmp cd off =>
    rw [hins] at hact hok hdec
    dsimp only at hact hok
    exfalso
    cases cd <;> dsimp only at hact <;> unfold jx_if2 at hact <;> (split at hact <;> (first | (cases hact; done) | (split at hact <;> cases hact)))
  | goto off =>
    rw [hins] at hact hok hdec
    dsimp only at hact hok
    exfalso
    unfold jx_goto at hact
    split at hact <;> cases hact
  | lookupswitch d ps =>
    rw [hins] at hact hok hdec
    dsimp only at hact hok
    exfalso
    unfold jx_switch at hact
    split at hact
    next => split at hact <;> cases hact
    next => cases hact
  | tableswitch d lo hi offs =>
    rw [hins] at hact hok hdec
    dsimp only at hact hok
    exfalso
    unfold jx_switch at hact
    split at hact
    next => split at hact <;> cases hact
    next => cases hact
  | ireturn =>
    rw [hins] at hact hok hdec
    dsimp only at hact hok
    exfalso
    split at hact <;> cases hact
  | lreturn =>
    rw [hins] at hact hok hdec
    dsimp only at hact hok
    exfalso
    split at hact <;> cases hact
  | return_ =>
    rw [hins] at hact hok hdec
    dsimp only at hact hok
    exfalso
    split at hact <;> cases hact
  | _ => rw [hins] at hact; cases hact
end JXG
