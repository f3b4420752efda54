/-! of, thing, row: where they throw -/
section XW
variable {l : Launch} {ad adV : Nat → Nat} {D : va_G} {cs : ClassId × ClassId × ClassId} {A : Nat → Prop} {μ : jx_Mem}
theorem nI12 {n : Nat} (h : n ≤ 12) : (nI n).toInt = (n : Int) := nI_toInt (by omega)
theorem xd_of : decode prog_1_method_7_code 5 = .ok (.invokevirtual 113, 3) ∧ decode prog_1_method_7_code 14 = .ok (.invokestatic 116, 3) ∧ decode prog_1_method_7_code 20 = .ok (.new 120, 3) ∧ decode prog_1_method_7_code 23 = .ok (.dup, 1) ∧ decode prog_1_method_7_code 24 = .ok (.invokespecial 122, 3) ∧ decode prog_1_method_7_code 27 = .ok (.athrow, 1) := by decide +kernel
theorem xd_thing : decode prog_1_method_26_code 5 = .ok (.invokevirtual 231, 3) ∧ decode prog_1_method_26_code 14 = .ok (.invokestatic 116, 3) ∧ decode prog_1_method_26_code 20 = .ok (.new 120, 3) ∧ decode prog_1_method_26_code 23 = .ok (.dup, 1) ∧ decode prog_1_method_26_code 24 = .ok (.invokespecial 122, 3) ∧ decode prog_1_method_26_code 27 = .ok (.athrow, 1) := by decide +kernel
theorem xd_row : decode prog_1_method_52_code 5 = .ok (.invokevirtual 369, 3) ∧ decode prog_1_method_52_code 11 = .ok (.new 120, 3) ∧ decode prog_1_method_52_code 14 = .ok (.dup, 1) ∧ decode prog_1_method_52_code 15 = .ok (.invokespecial 122, 3) ∧ decode prog_1_method_52_code 18 = .ok (.athrow, 1) := by decide +kernel
theorem xk_of : Cond.methodLink "FairByEar" 113 jx_M13.1 ∈ jx_tbl := List.mem_filter.mpr (by decide +kernel)
theorem xk_thing : Cond.methodLink "FairByEar" 231 jx_M96.1 ∈ jx_tbl := List.mem_filter.mpr (by decide +kernel)
theorem xk_row : Cond.methodLink "FairByEar" 369 jx_M9.1 ∈ jx_tbl := List.mem_filter.mpr (by decide +kernel)
theorem xk_within : Cond.methodLink "FairByEar" 116 jx_M212.1 ∈ jx_tbl := List.mem_filter.mpr (by decide +kernel)
theorem x_wi {y : Int32} (hi : Int32) (h : ¬ (0 ≤ y ∧ y ≤ hi)) : jx_ev 212 0 0 (lv_args 0 [.int y, .int 0, .int hi]) [] μ = some (some (.int 0), μ) := by
  have e : f_F_within y 0 hi μ = some (0, μ) := by rw [s_F_within, jb_f h]
  exact kI_ev e
set_option maxHeartbeats 4000000 in
theorem x_of (hl : l.stackTraces = false) (hup : ∀ a b : Nat, a ≤ b → A a → A b) {x y : Int32} {P : Nat} (hP : P ≤ 8) (hm : μ.1 3 6 = nI P) (hc : ¬ cOf x y P) :
    vx_Met l jx_M166.1 (jx_ws jx_M166) xR (va_Pc [.ref (ad 0), .int x, .int y] (fun U => jx_P ad D cs A (jx_X2 ad adV A) μ U.heap U)) (fun _ _ _ _ => False) (xXC ad D cs A μ) 1 6 A := by
  have hXK := jx_X2_XK ad adV A
  have hStr := jx_str_ok2 l ad adV A
  obtain ⟨d5, d14, d20, d23, d24, d27⟩ := xd_of
  refine x_met_of (M := jx_M166) (j := 166) (as := [.ref 0, .int x, .int y]) hup rfl (Nat.le_of_ble_eq_true rfl) ?_
  intro p e s m args below meth c C0 hlocks hA hout hX0
  have hend : ∀ lv, jx_Go p l e xR s m args below meth c (vx_MQ below (fun _ _ _ _ => False) (xXC ad D cs A μ) args s 1 6 A) ad D cs A (jx_X2 ad adV A) jx_M166 s.heap 20 lv [] μ := fun lv H locs ls hls hW hS => x_throw (M := jx_M166) hl C0.1 C0.2.1 C0.2.2.2.1 C0.2.2.2.2 hX0 hlocks hout d20 d23 d24 d27 (hls.1.trans C0.2.2.1.symm) hW.1 hS
  refine x_go (el := (0, 1, .aload_n 0, [0], [], none)) (lv' := lv_args 0 [.ref 0, .int x, .int y]) (st' := [.ref 0]) (μ' := μ) hXK hStr hA C0 (j := 166) rfl (k := 0) rfl rfl ?_
  refine x_go (el := (1, 3, .getfield 19, [1, 11], [], none)) (lv' := lv_args 0 [.ref 0, .int x, .int y]) (st' := [.ref 3]) (μ' := μ) hXK hStr hA C0 (j := 166) rfl (k := 1) rfl rfl ?_
  refine x_go (el := (4, 1, .iload_n 1, [1], [], none)) (lv' := lv_args 0 [.ref 0, .int x, .int y]) (st' := [.int x, .ref 3]) (μ' := μ) hXK hStr hA C0 (j := 166) rfl (k := 2) rfl rfl ?_
  by_cases h1 : 0 ≤ x.toInt ∧ x.toInt < (P : Int)
  · have e1 : f_Mine_isPerson x μ = some (1, μ) := by rw [s_Mine_isPerson, hm, nI12 (by omega), jb_t h1]
    refine x_callV (pc := 5) (st := []) (v := some (.int 1)) (μ' := μ) (as0 := [.int x]) (i := 3) (ci := 5) (j := 13) (M' := jx_M13) hXK hStr hup C0 rfl rfl (Nat.le_of_ble_eq_true rfl) (kI_ev e1) xk_of (show (parseMethodDescriptor jx_M13.1.desc).map (fun d => d.parameters.length) = some 1 by decide +kernel) ⟨Nat.le_of_ble_eq_true rfl, Nat.le_of_ble_eq_true rfl⟩ rfl rfl d5 (Nat.le_of_ble_eq_true rfl) ?_
    refine x_next (el := (8, 3, .ifCond .eq 12, [20], [], none)) (lv' := lv_args 0 [.ref 0, .int x, .int y]) (st' := []) (sw := [(false, 20)]) (d := none) C0 (j := 166) rfl (k := 4) rfl rfl rfl ?_
    refine x_go (el := (11, 1, .iload_n 2, [2], [], none)) (lv' := lv_args 0 [.ref 0, .int x, .int y]) (st' := [.int y]) (μ' := μ) hXK hStr hA C0 (j := 166) rfl (k := 5) rfl rfl ?_
    refine x_go (el := (12, 1, .iconst 0, [], [.int 0], none)) (lv' := lv_args 0 [.ref 0, .int x, .int y]) (st' := [.int 0, .int y]) (μ' := μ) hXK hStr hA C0 (j := 166) rfl (k := 6) rfl rfl ?_
    refine x_go (el := (13, 1, .iconst 2, [], [.int 2], none)) (lv' := lv_args 0 [.ref 0, .int x, .int y]) (st' := [.int 2, .int 0, .int y]) (μ' := μ) hXK hStr hA C0 (j := 166) rfl (k := 7) rfl rfl ?_
    have h2 : ¬ (0 ≤ y ∧ y ≤ 2) := fun q => hc ⟨h1, Int32.le_iff_toInt_le.mp q.1, Int32.le_iff_toInt_le.mp q.2⟩
    refine x_callS (pc := 14) (st := []) (v := some (.int 0)) (μ' := μ) (as := [.int y, .int 0, .int 2]) (j := 212) (M' := jx_M212) hXK hStr hup C0 rfl rfl (Nat.le_of_ble_eq_true rfl) (x_wi 2 h2) xk_within (show (parseMethodDescriptor jx_M212.1.desc).map (fun d => d.parameters.length) = some 3 by decide +kernel) ⟨Nat.le_of_ble_eq_true rfl, Nat.le_of_ble_eq_true rfl⟩ d14 (Nat.le_of_ble_eq_true rfl) ?_
    exact x_next (el := (17, 3, .ifCond .ne 11, [28], [], none)) (lv' := lv_args 0 [.ref 0, .int x, .int y]) (st' := []) (sw := [(false, 28)]) (d := none) C0 (j := 166) rfl (k := 9) rfl rfl rfl (hend _)
  · have e1 : f_Mine_isPerson x μ = some (0, μ) := by rw [s_Mine_isPerson, hm, nI12 (by omega), jb_f h1]
    refine x_callV (pc := 5) (st := []) (v := some (.int 0)) (μ' := μ) (as0 := [.int x]) (i := 3) (ci := 5) (j := 13) (M' := jx_M13) hXK hStr hup C0 rfl rfl (Nat.le_of_ble_eq_true rfl) (kI_ev e1) xk_of (show (parseMethodDescriptor jx_M13.1.desc).map (fun d => d.parameters.length) = some 1 by decide +kernel) ⟨Nat.le_of_ble_eq_true rfl, Nat.le_of_ble_eq_true rfl⟩ rfl rfl d5 (Nat.le_of_ble_eq_true rfl) ?_
    exact x_jump (el := (8, 3, .ifCond .eq 12, [20], [], none)) (lv' := lv_args 0 [.ref 0, .int x, .int y]) (st' := []) (sw := [(true, 20)]) (d := none) (t := 20) C0 (j := 166) rfl (k := 4) rfl rfl rfl (hend _)
set_option maxHeartbeats 4000000 in
theorem x_thing (hl : l.stackTraces = false) (hup : ∀ a b : Nat, a ≤ b → A a → A b) {x y : Int32} {P : Nat} (hP : P ≤ 12) (hm : μ.1 26 3 = nI P) (hc : ¬ cThing x y P) :
    vx_Met l jx_M185.1 (jx_ws jx_M185) xR (va_Pc [.ref (ad 0), .int x, .int y] (fun U => jx_P ad D cs A (jx_X2 ad adV A) μ U.heap U)) (fun _ _ _ _ => False) (xXC ad D cs A μ) 1 6 A := by
  have hXK := jx_X2_XK ad adV A
  have hStr := jx_str_ok2 l ad adV A
  obtain ⟨d5, d14, d20, d23, d24, d27⟩ := xd_thing
  refine x_met_of (M := jx_M185) (j := 185) (as := [.ref 0, .int x, .int y]) hup rfl (Nat.le_of_ble_eq_true rfl) ?_
  intro p e s m args below meth c C0 hlocks hA hout hX0
  have hend : ∀ lv, jx_Go p l e xR s m args below meth c (vx_MQ below (fun _ _ _ _ => False) (xXC ad D cs A μ) args s 1 6 A) ad D cs A (jx_X2 ad adV A) jx_M185 s.heap 20 lv [] μ := fun lv H locs ls hls hW hS => x_throw (M := jx_M185) hl C0.1 C0.2.1 C0.2.2.2.1 C0.2.2.2.2 hX0 hlocks hout d20 d23 d24 d27 (hls.1.trans C0.2.2.1.symm) hW.1 hS
  refine x_go (el := (0, 1, .aload_n 0, [0], [], none)) (lv' := lv_args 0 [.ref 0, .int x, .int y]) (st' := [.ref 0]) (μ' := μ) hXK hStr hA C0 (j := 185) rfl (k := 0) rfl rfl ?_
  refine x_go (el := (1, 3, .getfield 51, [5, 11], [], none)) (lv' := lv_args 0 [.ref 0, .int x, .int y]) (st' := [.ref 26]) (μ' := μ) hXK hStr hA C0 (j := 185) rfl (k := 1) rfl rfl ?_
  refine x_go (el := (4, 1, .iload_n 1, [1], [], none)) (lv' := lv_args 0 [.ref 0, .int x, .int y]) (st' := [.int x, .ref 26]) (μ' := μ) hXK hStr hA C0 (j := 185) rfl (k := 2) rfl rfl ?_
  by_cases h1 : 0 ≤ x.toInt ∧ x.toInt < (P : Int)
  · have e1 : f_Items_isItem x μ = some (1, μ) := by rw [t_isItem, hm, nI12 hP, jb_t h1]
    refine x_callV (pc := 5) (st := []) (v := some (.int 1)) (μ' := μ) (as0 := [.int x]) (i := 26) (ci := 4) (j := 96) (M' := jx_M96) hXK hStr hup C0 rfl rfl (Nat.le_of_ble_eq_true rfl) (kI_ev e1) xk_thing (show (parseMethodDescriptor jx_M96.1.desc).map (fun d => d.parameters.length) = some 1 by decide +kernel) ⟨Nat.le_of_ble_eq_true rfl, Nat.le_of_ble_eq_true rfl⟩ rfl rfl d5 (Nat.le_of_ble_eq_true rfl) ?_
    refine x_next (el := (8, 3, .ifCond .eq 12, [20], [], none)) (lv' := lv_args 0 [.ref 0, .int x, .int y]) (st' := []) (sw := [(false, 20)]) (d := none) C0 (j := 185) rfl (k := 4) rfl rfl rfl ?_
    refine x_go (el := (11, 1, .iload_n 2, [2], [], none)) (lv' := lv_args 0 [.ref 0, .int x, .int y]) (st' := [.int y]) (μ' := μ) hXK hStr hA C0 (j := 185) rfl (k := 5) rfl rfl ?_
    refine x_go (el := (12, 1, .iconst 0, [], [.int 0], none)) (lv' := lv_args 0 [.ref 0, .int x, .int y]) (st' := [.int 0, .int y]) (μ' := μ) hXK hStr hA C0 (j := 185) rfl (k := 6) rfl rfl ?_
    refine x_go (el := (13, 1, .iconst 3, [], [.int 3], none)) (lv' := lv_args 0 [.ref 0, .int x, .int y]) (st' := [.int 3, .int 0, .int y]) (μ' := μ) hXK hStr hA C0 (j := 185) rfl (k := 7) rfl rfl ?_
    have h2 : ¬ (0 ≤ y ∧ y ≤ 3) := fun q => hc ⟨h1, Int32.le_iff_toInt_le.mp q.1, Int32.le_iff_toInt_le.mp q.2⟩
    refine x_callS (pc := 14) (st := []) (v := some (.int 0)) (μ' := μ) (as := [.int y, .int 0, .int 3]) (j := 212) (M' := jx_M212) hXK hStr hup C0 rfl rfl (Nat.le_of_ble_eq_true rfl) (x_wi 3 h2) xk_within (show (parseMethodDescriptor jx_M212.1.desc).map (fun d => d.parameters.length) = some 3 by decide +kernel) ⟨Nat.le_of_ble_eq_true rfl, Nat.le_of_ble_eq_true rfl⟩ d14 (Nat.le_of_ble_eq_true rfl) ?_
    exact x_next (el := (17, 3, .ifCond .ne 11, [28], [], none)) (lv' := lv_args 0 [.ref 0, .int x, .int y]) (st' := []) (sw := [(false, 28)]) (d := none) C0 (j := 185) rfl (k := 9) rfl rfl rfl (hend _)
  · have e1 : f_Items_isItem x μ = some (0, μ) := by rw [t_isItem, hm, nI12 hP, jb_f h1]
    refine x_callV (pc := 5) (st := []) (v := some (.int 0)) (μ' := μ) (as0 := [.int x]) (i := 26) (ci := 4) (j := 96) (M' := jx_M96) hXK hStr hup C0 rfl rfl (Nat.le_of_ble_eq_true rfl) (kI_ev e1) xk_thing (show (parseMethodDescriptor jx_M96.1.desc).map (fun d => d.parameters.length) = some 1 by decide +kernel) ⟨Nat.le_of_ble_eq_true rfl, Nat.le_of_ble_eq_true rfl⟩ rfl rfl d5 (Nat.le_of_ble_eq_true rfl) ?_
    exact x_jump (el := (8, 3, .ifCond .eq 12, [20], [], none)) (lv' := lv_args 0 [.ref 0, .int x, .int y]) (st' := []) (sw := [(true, 20)]) (d := none) (t := 20) C0 (j := 185) rfl (k := 4) rfl rfl rfl (hend _)
set_option maxHeartbeats 4000000 in
theorem x_row (hl : l.stackTraces = false) (hup : ∀ a b : Nat, a ≤ b → A a → A b) {x : Int32} {vs : List Int64} (hP : vs.length ≤ 12) (hm : μ.1 1 1 = nI vs.length) (hc : ¬ cRow x vs) :
    vx_Met l jx_M211.1 (jx_ws jx_M211) xR (va_Pc [.ref (ad 0), .int x] (fun U => jx_P ad D cs A (jx_X2 ad adV A) μ U.heap U)) (fun _ _ _ _ => False) (xXC ad D cs A μ) 1 6 A := by
  have hXK := jx_X2_XK ad adV A
  have hStr := jx_str_ok2 l ad adV A
  obtain ⟨d5, d11, d14, d15, d18⟩ := xd_row
  refine x_met_of (M := jx_M211) (j := 211) (as := [.ref 0, .int x]) hup rfl (Nat.le_of_ble_eq_true rfl) ?_
  intro p e s m args below meth c C0 hlocks hA hout hX0
  have hend : ∀ lv, jx_Go p l e xR s m args below meth c (vx_MQ below (fun _ _ _ _ => False) (xXC ad D cs A μ) args s 1 6 A) ad D cs A (jx_X2 ad adV A) jx_M211 s.heap 11 lv [] μ := fun lv H locs ls hls hW hS => x_throw (M := jx_M211) hl C0.1 C0.2.1 C0.2.2.2.1 C0.2.2.2.2 hX0 hlocks hout d11 d14 d15 d18 (hls.1.trans C0.2.2.1.symm) hW.1 hS
  refine x_go (el := (0, 1, .aload_n 0, [0], [], none)) (lv' := lv_args 0 [.ref 0, .int x]) (st' := [.ref 0]) (μ' := μ) hXK hStr hA C0 (j := 211) rfl (k := 0) rfl rfl ?_
  refine x_go (el := (1, 3, .getfield 10, [0, 11], [], none)) (lv' := lv_args 0 [.ref 0, .int x]) (st' := [.ref 1]) (μ' := μ) hXK hStr hA C0 (j := 211) rfl (k := 1) rfl rfl ?_
  refine x_go (el := (4, 1, .iload_n 1, [1], [], none)) (lv' := lv_args 0 [.ref 0, .int x]) (st' := [.int x, .ref 1]) (μ' := μ) hXK hStr hA C0 (j := 211) rfl (k := 2) rfl rfl ?_
  have e1 : f_Row_holds x μ = some (0, μ) := by rw [t_holds, hm, nI12 hP, jb_f (p := 0 ≤ x.toInt ∧ x.toInt < (vs.length : Int)) hc]
  refine x_callV (pc := 5) (st := []) (v := some (.int 0)) (μ' := μ) (as0 := [.int x]) (i := 1) (ci := 7) (j := 9) (M' := jx_M9) hXK hStr hup C0 rfl rfl (Nat.le_of_ble_eq_true rfl) (kI_ev e1) xk_row (show (parseMethodDescriptor jx_M9.1.desc).map (fun d => d.parameters.length) = some 1 by decide +kernel) ⟨Nat.le_of_ble_eq_true rfl, Nat.le_of_ble_eq_true rfl⟩ rfl rfl d5 (Nat.le_of_ble_eq_true rfl) ?_
  exact x_next (el := (8, 3, .ifCond .ne 11, [19], [], none)) (lv' := lv_args 0 [.ref 0, .int x]) (st' := []) (sw := [(false, 19)]) (d := none) C0 (j := 211) rfl (k := 4) rfl rfl rfl (hend _)
end XW
