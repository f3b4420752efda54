/-! the law's cases that catch, walked -/
theorem lk_of1 : Cond.codeWith yL_of method_3_code 5 (some .int) [(0, 10, 13, 13)] ∈ jx_tbl := List.mem_filter.mpr (by decide +kernel)
theorem lk_of2 : Cond.static yL_of ∈ jx_tbl := List.mem_filter.mpr (by decide +kernel)
theorem lk_of3 : Cond.methodLink "FairByEarLaw" 47 yL_of ∈ jx_tbl := List.mem_filter.mpr (by decide +kernel)
theorem lk_thing1 : Cond.codeWith yL_thing method_4_code 5 (some .int) [(0, 10, 13, 13)] ∈ jx_tbl := List.mem_filter.mpr (by decide +kernel)
theorem lk_thing2 : Cond.static yL_thing ∈ jx_tbl := List.mem_filter.mpr (by decide +kernel)
theorem lk_thing3 : Cond.methodLink "FairByEarLaw" 132 yL_thing ∈ jx_tbl := List.mem_filter.mpr (by decide +kernel)
theorem lk_row1 : Cond.codeWith yL_row method_5_code 4 (some .int) [(0, 8, 11, 13)] ∈ jx_tbl := List.mem_filter.mpr (by decide +kernel)
theorem lk_row2 : Cond.static yL_row ∈ jx_tbl := List.mem_filter.mpr (by decide +kernel)
theorem lk_row3 : Cond.methodLink "FairByEarLaw" 236 yL_row ∈ jx_tbl := List.mem_filter.mpr (by decide +kernel)
theorem lk_ini : Cond.initialized "FairByEarLaw" ∈ jx_tbl := List.mem_filter.mpr (by decide +kernel)
theorem lk_m2 : Cond.methodLink "FairByEarLaw" 52 jx_M231.1 ∈ jx_tbl := List.mem_filter.mpr (by decide +kernel)
theorem lk_m3 : Cond.methodLink "FairByEarLaw" 134 jx_M275.1 ∈ jx_tbl := List.mem_filter.mpr (by decide +kernel)
theorem lk_m4 : Cond.methodLink "FairByEarLaw" 239 jx_M322.1 ∈ jx_tbl := List.mem_filter.mpr (by decide +kernel)
theorem lk_m5 : Cond.methodLink "FairByEarLaw" 53 jx_M214.1 ∈ jx_tbl := List.mem_filter.mpr (by decide +kernel)
theorem lk_r : rmOk 231 = true ∧ rmOk 275 = true ∧ rmOk 322 = true ∧ rmOk 214 = true := by decide +kernel
def ldC (pc idxS idx2 : Nat) : Prop := decode code pc = .ok (.aload_n 1, 1) ∧ laOk (pc + 1) 1 2 = true ∧ decode code (pc + 13) = .ok (.aload_n 3, 1) ∧ decode code (pc + 14) = .ok (.invokestatic idxS, 3) ∧ decode code (pc + 17) = .ok (.istore 5, 2) ∧ decode code (pc + 19) = .ok (.aload_n 2, 1) ∧ laOk (pc + 20) 1 2 = true ∧ decode code (pc + 32) = .ok (.invokevirtual idx2, 3) ∧ decode code (pc + 35) = .ok (.istore 6, 2) ∧ decode code (pc + 37) = .ok (.aload_n 2, 1) ∧ decode code (pc + 38) = .ok (.invokevirtual 53, 3) ∧ decode code (pc + 41) = .ok (.iload 5, 2) ∧ decode code (pc + 43) = .ok (.if_icmp .eq 5, 3) ∧ decode code (pc + 48) = .ok (.iload 5, 2) ∧ decode code (pc + 50) = .ok (.ifCond .ne 15, 3) ∧ decode code (pc + 53) = .ok (.aload_n 3, 1) ∧ decode code (pc + 54) = .ok (.iconst 0, 1) ∧ decode code (pc + 55) = .ok (.laload, 1) ∧ decode code (pc + 56) = .ok (.iload 6, 2) ∧ decode code (pc + 58) = .ok (.i2l, 1) ∧ decode code (pc + 59) = .ok (.lcmp, 1) ∧ decode code (pc + 60) = .ok (.ifCond .eq 5, 3) ∧ decode code (pc + 65) = .ok (.goto (2035 - ((pc + 65 : Nat) : Int)), 3)
theorem ld_of : ldC 469 47 52 := by
  unfold ldC
  repeat' apply And.intro
  all_goals decide +kernel
theorem ld_thing : ldC 1155 132 134 := by
  unfold ldC
  repeat' apply And.intro
  all_goals decide +kernel
theorem ld_row : decode code 1980 = .ok (.aload_n 1, 1) ∧ laOk 1981 1 1 = true ∧ decode code 1987 = .ok (.aload_n 3, 1) ∧ decode code 1988 = .ok (.invokestatic 236, 3) ∧ decode code 1991 = .ok (.istore 5, 2) ∧ decode code 1993 = .ok (.aload_n 2, 1) ∧ laOk 1994 1 1 = true ∧ decode code 2000 = .ok (.invokevirtual 239, 3) ∧ decode code 2003 = .ok (.lstore 6, 2) ∧ decode code 2005 = .ok (.aload_n 2, 1) ∧ decode code 2006 = .ok (.invokevirtual 53, 3) ∧ decode code 2009 = .ok (.iload 5, 2) ∧ decode code 2011 = .ok (.if_icmp .eq 5, 3) ∧ decode code 2016 = .ok (.iload 5, 2) ∧ decode code 2018 = .ok (.ifCond .ne 14, 3) ∧ decode code 2021 = .ok (.aload_n 3, 1) ∧ decode code 2022 = .ok (.iconst 0, 1) ∧ decode code 2023 = .ok (.laload, 1) ∧ decode code 2024 = .ok (.lload 6, 2) ∧ decode code 2026 = .ok (.lcmp, 1) ∧ decode code 2027 = .ok (.ifCond .eq 5, 3) ∧ decode code 2032 = .ok (.goto 3, 3) := by
  repeat' apply And.intro
  all_goals decide +kernel
section LX
variable {p : Program} {l : Launch} {e : Env} {s : State} {m : MethodId} {below : List Frame} {meth : Method} {c : Code} {Q : State → Prop} {b L : Nat} {xs : Nat → Int32} {ad adV : Nat → Nat} {D : va_G} {cs : ClassId × ClassId × ClassId} {A : Nat → Prop} {μ μ1 μ2 : jx_Mem} {H : Heap} {ls : Array Slot} {k cells slots pc : Nat}
set_option maxHeartbeats 4000000 in
theorem l_catch (C : lC p s m c b L xs A) {idxS idx2 j2 : Nat} {y : MethodName} {bs : ByteArray} {M2 : jx_M} {r w : Int32} (hd : ldC pc idxS idx2) (hk : k + 6 ≤ L) (hl : lv_has ls 8 (lv5 b ad k)) (hf : cells + 1 ≤ room_1.cells ∧ slots + 6 ≤ room_1.slots)
    (hM : Met l y (wws y bs 5 [(0, 10, 13, 13)]) wR (va_Pc [.ref (ad 0), .int (xs (k + 1)), .int (xs (k + 1 + 1)), .ref (ad 109)] (fun U => jx_P ad D cs A (jx_X2 ad adV A) μ U.heap U)) (jx_Q ad D cs A (jx_X2 ad adV A) (some (.int r)) μ1) 1 6 A)
    (hcw : Cond.codeWith y bs 5 (some .int) [(0, 10, 13, 13)] ∈ jx_tbl) (hst : Cond.static y ∈ jx_tbl) (hyc : y.cls = "FairByEarLaw") (hlk : Cond.methodLink "FairByEarLaw" idxS y ∈ jx_tbl) (hn : (parseMethodDescriptor y.desc).map (fun d => d.parameters.length) = some 4)
    (hM2 : jx_ms[j2]? = some M2) (hst2 : M2.2.2.2.2.1 = false) (hmc : M2.1.cls = "FairByEarModel") (hcat2 : 3 ≤ M2.2.2.1) (hlk2 : Cond.methodLink "FairByEarLaw" idx2 M2.1 ∈ jx_tbl) (hn2 : (parseMethodDescriptor M2.1.desc).map (fun d => d.parameters.length) = some 2) (hro2 : rmOk j2 = true)
    (hev2 : jx_ev j2 0 0 (lv_args 0 [.ref 63, .int (xs (k + 1)), .int (xs (k + 1 + 1))]) [] μ1 = some (some (.int w), μ2)) (ht : μ2.1 63 0 = r) (ho : r = 0 → μ2.2 109 0 = w.toInt64)
    (hW : jx_P ad D cs A (jx_X2 ad adV A) μ H s) (hS : va_S A s.heap H [])
    (kk : ∀ (H1 : Heap) (ls1 : Array Slot), jx_P ad D cs A (jx_X2 ad adV A) μ2 H1 s → va_S A s.heap H1 [] → lv_has ls1 8 (lv5 b ad k) → W p l e room_1 s m #[Value.ref b] below meth c H1 [] (cells + 1) (slots + 6) Q (F0 m 2035 ls1 [])) : W p l e room_1 s m #[Value.ref b] below meth c H [] cells slots Q (F0 m pc ls []) := by
  obtain ⟨d0, a1, d13, d14, d17, d19, a20, d32, d35, d37, d38, d41, d43, d48, d50, d53, d54, d55, d56, d58, d59, d60, d65⟩ := hd
  have hx := C.1
  have hb := C.2.1
  refine lv_aload_n hx hb d0 rfl (lv_at hl 1 rfl) ?_
  refine la_args C hS (lv_at hl 0 rfl) (lv_at hl 4 rfl) 2 1 (pc + 1) _ a1 (by omega) ?_
  refine lv_aload_n hx hb d13 rfl (lv_at hl 3 rfl) ?_
  refine l_callS (rest := []) C hM hcw hst (by rw [hyc]; exact lk_ini) hlk (by rw [hyc]; decide) hn (by decide) d14 hl.1 (by decide) hf hW hS (fun H1 hW1 hS1 => ?_)
  refine lv_istore (lv' := (5, .int r) :: lv5 b ad k) hx hb d17 hl (by decide) rfl (fun ls1 hl1 => ?_)
  refine lv_aload_n hx hb d19 rfl (lv_at hl1 3 rfl) ?_
  refine la_args C hS1 (lv_at hl1 1 rfl) (lv_at hl1 5 rfl) 2 1 (pc + 20) _ a20 (by omega) ?_
  refine l_callV (rest := []) C (i := 63) (ci := 12) (idx := idx2) (T := jx_T12) (N := 68) (as0 := [.int (xs (k + 1)), .int (xs (k + 1 + 1))]) hM2 hst2 hcat2 hev2 hlk2 hn2 hro2 (by rw [hmc]; rfl) rfl d32 hl1.1 (by decide) hf hW1 hS1 (fun H2 hW2 hS2 => ?_)
  refine lv_istore (lv' := (6, .int w) :: (5, .int r) :: lv5 b ad k) hx hb d35 hl1 (by decide) rfl (fun ls2 hl2 => ?_)
  refine lv_aload_n hx hb d37 rfl (lv_at hl2 4 rfl) ?_
  have hev3 : jx_ev 214 0 0 (lv_args 0 [.ref 63]) [] μ2 = some (some (.int r), μ2) := by
    have e3 : f_M_thrown μ2 = some (r, μ2) := by rw [e_M_thrown, ht]
    exact kI_ev e3
  refine l_callV (rest := []) C (i := 63) (ci := 12) (idx := 53) (T := jx_T12) (N := 68) (as0 := []) (j := 214) (M := jx_M214) rfl rfl (Nat.le_of_ble_eq_true rfl) hev3 lk_m5 (by decide +kernel) lk_r.2.2.2 rfl rfl d38 hl2.1 (by decide) hf hW2 hS2 (fun H3 hW3 hS3 => ?_)
  refine lv_iload hx hb d41 (lv_at hl2 1 rfl) ?_
  refine lv_icmp_eq hx hb d43 (tgt := pc + 48) (by omega) (fun _ => ?_) (fun q => absurd rfl q)
  refine lv_iload hx hb d48 (lv_at hl2 1 rfl) ?_
  have hfin : W p l e room_1 s m #[Value.ref b] below meth c H3 [] (cells + 1) (slots + 6) Q (F0 m (pc + 65) ls2 []) := lv_goto hx hb d65 (tgt := 2035) (by omega) (kk H3 ls2 hW3 hS3 (lv_sub hl2 [2, 3, 4, 5, 6] rfl))
  refine lv_if_ne hx hb d50 (tgt := pc + 65) (by omega) (fun _ => hfin) (fun q => ?_)
  refine lv_aload_n hx hb d53 rfl (lv_at hl2 5 rfl) ?_
  refine lv_iconst hx hb d54 rfl ?_
  refine va_lald hx hb hW3.2.2.1 hW3.1 109 1 (jx_wd_get (i := 109) (sh := .inr (1, 1)) rfl) rfl (jx_in_vp rfl) d55 ?_
  refine lv_iload hx hb d56 (lv_at hl2 0 rfl) ?_
  refine lv_i2l hx hb d58 rfl ?_
  refine W.lcmp hx hb d59 ?_
  have e9 : lg_cmp (μ2.2 109 (Int32.ofInt 0).toNatClampNeg) w.toInt64 = 0 := by
    rw [show (Int32.ofInt 0).toNatClampNeg = 0 from rfl, ho q, lg_cmp_self]
  rw [e9]
  exact lv_if_eq hx hb d60 (tgt := pc + 65) (by omega) (fun _ => hfin) (fun q => absurd rfl q)
set_option maxHeartbeats 4000000 in
theorem l_catchr (C : lC p s m c b L xs A) {r : Int32} {w : Int64} (hk : k + 6 ≤ L) (hl : lv_has ls 8 (lv5 b ad k)) (hf : cells + 1 ≤ room_1.cells ∧ slots + 6 ≤ room_1.slots)
    (hM : Met l yL_row (wws yL_row method_5_code 4 [(0, 8, 11, 13)]) wR (va_Pc [.ref (ad 0), .int (xs (k + 1)), .ref (ad 109)] (fun U => jx_P ad D cs A (jx_X2 ad adV A) μ U.heap U)) (jx_Q ad D cs A (jx_X2 ad adV A) (some (.int r)) μ1) 1 6 A)
    (hev2 : jx_ev 322 0 0 (lv_args 0 [.ref 63, .int (xs (k + 1))]) [] μ1 = some (some (.long w), μ2)) (ht : μ2.1 63 0 = r) (ho : r = 0 → μ2.2 109 0 = w)
    (hW : jx_P ad D cs A (jx_X2 ad adV A) μ H s) (hS : va_S A s.heap H [])
    (kk : ∀ (H1 : Heap) (ls1 : Array Slot), jx_P ad D cs A (jx_X2 ad adV A) μ2 H1 s → va_S A s.heap H1 [] → lv_has ls1 8 (lv5 b ad k) → W p l e room_1 s m #[Value.ref b] below meth c H1 [] (cells + 1) (slots + 6) Q (F0 m 2035 ls1 [])) : W p l e room_1 s m #[Value.ref b] below meth c H [] cells slots Q (F0 m 1980 ls []) := by
  obtain ⟨d0, a1, d13, d14, d17, d19, a20, d32, d35, d37, d38, d41, d43, d48, d50, d53, d54, d55, d56, d59, d60, d65⟩ := ld_row
  have hx := C.1
  have hb := C.2.1
  refine lv_aload_n hx hb d0 rfl (lv_at hl 1 rfl) ?_
  refine la_args C hS (lv_at hl 0 rfl) (lv_at hl 4 rfl) 1 1 1981 _ a1 (by omega) ?_
  refine lv_aload_n hx hb d13 rfl (lv_at hl 3 rfl) ?_
  refine l_callS (rest := []) C hM lk_row1 lk_row2 lk_ini lk_row3 (by decide) (by show _ = some 3; decide +kernel) (by decide) d14 hl.1 (by decide) hf hW hS (fun H1 hW1 hS1 => ?_)
  refine lv_istore (lv' := (5, .int r) :: lv5 b ad k) hx hb d17 hl (by decide) rfl (fun ls1 hl1 => ?_)
  refine lv_aload_n hx hb d19 rfl (lv_at hl1 3 rfl) ?_
  refine la_args C hS1 (lv_at hl1 1 rfl) (lv_at hl1 5 rfl) 1 1 1994 _ a20 (by omega) ?_
  refine l_callV (rest := []) C (i := 63) (ci := 12) (idx := 239) (T := jx_T12) (N := 68) (as0 := [.int (xs (k + 1))]) (M := jx_M322) (j := 322) rfl rfl (Nat.le_of_ble_eq_true rfl) hev2 lk_m4 (by show _ = some 1; decide +kernel) lk_r.2.2.1 rfl rfl d32 hl1.1 (by decide) hf hW1 hS1 (fun H2 hW2 hS2 => ?_)
  refine lv_lstore (lv' := (6, .long w) :: (5, .int r) :: lv5 b ad k) hx hb d35 hl1 (by decide) rfl (fun ls2 hl2 => ?_)
  refine lv_aload_n hx hb d37 rfl (lv_at hl2 4 rfl) ?_
  have hev3 : jx_ev 214 0 0 (lv_args 0 [.ref 63]) [] μ2 = some (some (.int r), μ2) := by
    have e3 : f_M_thrown μ2 = some (r, μ2) := by rw [e_M_thrown, ht]
    exact kI_ev e3
  refine l_callV (rest := []) C (i := 63) (ci := 12) (idx := 53) (T := jx_T12) (N := 68) (as0 := []) (j := 214) (M := jx_M214) rfl rfl (Nat.le_of_ble_eq_true rfl) hev3 lk_m5 (by decide +kernel) lk_r.2.2.2 rfl rfl d38 hl2.1 (by decide) hf hW2 hS2 (fun H3 hW3 hS3 => ?_)
  refine lv_iload hx hb d41 (lv_at hl2 1 rfl) ?_
  refine lv_icmp_eq hx hb d43 (tgt := 2016) (by omega) (fun _ => ?_) (fun q => absurd rfl q)
  refine lv_iload hx hb d48 (lv_at hl2 1 rfl) ?_
  have hfin : W p l e room_1 s m #[Value.ref b] below meth c H3 [] (cells + 1) (slots + 6) Q (F0 m 2032 ls2 []) := lv_goto hx hb d65 (tgt := 2035) (by omega) (kk H3 ls2 hW3 hS3 (lv_sub hl2 [2, 3, 4, 5, 6] rfl))
  refine lv_if_ne hx hb d50 (tgt := 2032) (by omega) (fun _ => hfin) (fun q => ?_)
  refine lv_aload_n hx hb d53 rfl (lv_at hl2 5 rfl) ?_
  refine lv_iconst hx hb d54 rfl ?_
  refine va_lald hx hb hW3.2.2.1 hW3.1 109 1 (jx_wd_get (i := 109) (sh := .inr (1, 1)) rfl) rfl (jx_in_vp rfl) d55 ?_
  refine lv_lload hx hb d56 (lv_at hl2 0 rfl) ?_
  refine W.lcmp hx hb d59 ?_
  have e9 : lg_cmp (μ2.2 109 (Int32.ofInt 0).toNatClampNeg) w = 0 := by
    rw [show (Int32.ofInt 0).toNatClampNeg = 0 from rfl, ho q, lg_cmp_self]
  rw [e9]
  exact lv_if_eq hx hb d60 (tgt := 2032) (by omega) (fun _ => hfin) (fun q => absurd rfl q)
end LX
