/-! the law's three wrappers -/
def wR : Room := { frames := 12, cells := 1, slots := 6, locals := 900 }
def wws (y : MethodName) (b : ByteArray) (n : Nat) (hh : List (Nat × Nat × Nat × Nat)) : List Cond := .codeWith y b n (some .int) hh :: jx_tbl
def yL_of : MethodName := ⟨"FairByEarLaw", "of", "(LFairByEar;II[J)I"⟩
def yL_thing : MethodName := ⟨"FairByEarLaw", "thing", "(LFairByEar;II[J)I"⟩
def yL_row : MethodName := ⟨"FairByEarLaw", "row", "(LFairByEar;I[J)I"⟩
def wD (b : ByteArray) (idx : Nat) : Prop := decode b 0 = .ok (.aload_n 3, 1) ∧ decode b 1 = .ok (.iconst 0, 1) ∧ decode b 2 = .ok (.aload_n 0, 1) ∧ decode b 3 = .ok (.iload_n 1, 1) ∧ decode b 4 = .ok (.iload_n 2, 1) ∧ decode b 5 = .ok (.invokevirtual idx, 3) ∧ decode b 8 = .ok (.i2l, 1) ∧ decode b 9 = .ok (.lastore, 1) ∧ decode b 10 = .ok (.goto 7, 3) ∧ decode b 13 = .ok (.astore 4, 2) ∧ decode b 15 = .ok (.iconst 1, 1) ∧ decode b 16 = .ok (.ireturn, 1) ∧ decode b 17 = .ok (.iconst 0, 1) ∧ decode b 18 = .ok (.ireturn, 1)
theorem wd_of : wD method_3_code 7 := by unfold wD; decide +kernel
theorem wd_thing : wD method_4_code 15 := by unfold wD; decide +kernel
theorem wd_row : decode method_5_code 0 = .ok (.aload_n 2, 1) ∧ decode method_5_code 1 = .ok (.iconst 0, 1) ∧ decode method_5_code 2 = .ok (.aload_n 0, 1) ∧ decode method_5_code 3 = .ok (.iload_n 1, 1) ∧ decode method_5_code 4 = .ok (.invokevirtual 18, 3) ∧ decode method_5_code 7 = .ok (.lastore, 1) ∧ decode method_5_code 8 = .ok (.goto 6, 3) ∧ decode method_5_code 11 = .ok (.astore_n 3, 1) ∧ decode method_5_code 12 = .ok (.iconst 1, 1) ∧ decode method_5_code 13 = .ok (.ireturn, 1) ∧ decode method_5_code 14 = .ok (.iconst 0, 1) ∧ decode method_5_code 15 = .ok (.ireturn, 1) := by decide +kernel
theorem wk_of : Cond.methodLink "FairByEarLaw" 7 jx_M166.1 ∈ jx_tbl := List.mem_filter.mpr (by decide +kernel)
theorem wk_thing : Cond.methodLink "FairByEarLaw" 15 jx_M185.1 ∈ jx_tbl := List.mem_filter.mpr (by decide +kernel)
theorem wk_row : Cond.methodLink "FairByEarLaw" 18 jx_M211.1 ∈ jx_tbl := List.mem_filter.mpr (by decide +kernel)
theorem wk_cl : Cond.classLink "FairByEarLaw" 13 "java/util/NoSuchElementException" ∈ jx_tbl := List.mem_filter.mpr (by decide +kernel)
section WR
variable {l : Launch} {ad adV : Nat → Nat} {D : va_G} {cs : ClassId × ClassId × ClassId} {A : Nat → Prop} {μ : jx_Mem}
theorem w_set (v : Int64) : (jx_wd ad cs μ).set 109 (ad 109, .inl (cs.2.1, 1, .inr (.inl (vp_updL (μ.2 109) (0 : Int32).toNatClampNeg v)))) = jx_wd ad cs (jx_w2 μ 109 0 v) :=
  jx_wd_set (ad := ad) (cs := cs) (μ := μ) (μ' := (μ.1, jx_up μ.2 109 0 v)) (i := 109) (sh := .inr (1, 1)) rfl (by
    show Sum.inl (cs.2.1, 1, Sum.inr (Sum.inl (jx_up μ.2 109 0 v 109))) = _
    rw [jx_up_selfL]; rfl) (fun q hq => rfl) (fun q hq => jx_up_row μ.2 109 0 v hq)
theorem w_callW {s : State} {args : Array Value} {j idx n : Nat} {M : jx_M} {rm : Room} {mc ms : Nat} (hts : ∀ w ∈ jx_tbl, w.before args s = true) (hM : jx_ms[j]? = some M) (hst : M.2.2.2.2.1 = false) (hlk : Cond.methodLink "FairByEarLaw" idx M.1 ∈ jx_tbl) (hn : (parseMethodDescriptor M.1.desc).map (fun d => d.parameters.length) = some n) (hrc : rm.cells = mc) (hrs : rm.slots = ms) {R : Room} (hro : rm.frames + 1 ≤ R.frames ∧ 8 + (M.2.2.1 + 11) + rm.locals ≤ R.locals) : CallW R s args "FairByEarLaw" M.1.cls idx M.1 M.2.1 M.2.2.1 M.2.2.2.1 (jx_ws M) rm mc ms n := by
  obtain ⟨⟨y1, y2⟩, w1, w2, -, w3⟩ := (jx_allGd M (List.mem_of_getElem? hM)).2
  obtain ⟨w3, w4⟩ := w3 hst
  unfold jx_yOk at y1
  simp only [Bool.and_eq_true, decide_eq_true_eq] at y1
  exact ⟨callB_of n hts (jx_good w1) rfl hrc hrs (hts _ w2) (hts _ hlk) ⟨y1.1, y1.2.1, hn⟩ hro, hts _ w3, hts _ w4⟩
set_option maxHeartbeats 4000000 in
theorem w_ok {y : MethodName} {b : ByteArray} {idx j : Nat} {M : jx_M} {x z v : Int32} (hup : ∀ a b : Nat, a ≤ b → A a → A b) (hcls : y.cls = "FairByEarLaw") (hd : wD b idx) (hM : jx_ms[j]? = some M) (hMc : M.1.cls = "FairByEar") (hst : M.2.2.2.2.1 = false) (hlk : Cond.methodLink "FairByEarLaw" idx M.1 ∈ jx_tbl) (hn : (parseMethodDescriptor M.1.desc).map (fun d => d.parameters.length) = some 2) (hcat : 3 ≤ M.2.2.1) (hro : M.2.2.2.2.2.1 + 0 + 1 + 1 ≤ wR.frames ∧ 8 + (M.2.2.1 + 11) + 60 * (M.2.2.2.2.2.1 + 0 + 1) ≤ wR.locals)
    (hev : jx_ev j 0 0 (lv_args 0 [.ref 0, .int x, .int z]) [] μ = some (some (.int v), μ)) :
    Met l y (wws y b 5 [(0, 10, 13, 13)]) wR (va_Pc [.ref (ad 0), .int x, .int z, .ref (ad 109)] (fun U => jx_P ad D cs A (jx_X2 ad adV A) μ U.heap U)) (jx_Q ad D cs A (jx_X2 ad adV A) (some (.int 0)) (jx_w2 μ 109 0 v.toInt64)) 1 6 A := by
  have hXK := jx_X2_XK ad adV A
  have hStr := jx_str_ok2 l ad adV A
  obtain ⟨d0, d1, d2, d3, d4, d5, d8, d9, d10, d13, d15, d16, d17, d18⟩ := hd
  refine va_MetW (cc := b) (maxL := 5) (ret := some .int) (hh := [(0, 10, 13, 13)]) (by rw [hcls]; decide +kernel) rfl ?_
  intro p e s m args below meth c s₁ B hml hv
  obtain ⟨rfl, hW⟩ := hv
  have hx := B.exec
  have hb := B.bytes
  have hr := B.returns
  have hlocks := B.notSynchronized
  have hts0 := atoms_spec (ws := wws y b 5 [(0, 10, 13, 13)]) B.pre
  have hts : ∀ w ∈ jx_tbl, w.before _ s = true := fun w hw => hts0 w (List.mem_cons_of_mem _ hw)
  have hown : s.vm.findClass "FairByEarLaw" = some m.cls := by
    have h9 := findClass_of_methodNamed B.named
    rw [hcls] at h9
    exact h9
  have hA : ∀ q, s.heap.size ≤ q → A q := jx_up_size hup hW
  have hl := lv_entry ([.ref (ad 0), .int x, .int z, .ref (ad 109)]) (n := 5) (Nat.le_of_ble_eq_true rfl)
  rw [lg_entry_eq]
  generalize (lg_sl ([.ref (ad 0), .int x, .int z, .ref (ad 109)]) ++ List.replicate (5 - (lg_sl ([.ref (ad 0), .int x, .int z, .ref (ad 109)])).length) Slot.unset).toArray = ls at hl ⊢
  have hl : lv_has ls 5 [(0, .ref (ad 0)), (1, .int x), (2, .int z), (3, .ref (ad 109))] := hl
  refine lv_aload_n hx hb d0 rfl (lv_at hl 3 rfl) ?_
  refine lv_iconst hx hb d1 rfl ?_
  refine lv_aload_n hx hb d2 rfl (lv_at hl 0 rfl) ?_
  refine lv_iload_n hx hb d3 rfl (lv_at hl 1 rfl) ?_
  refine lv_iload_n hx hb d4 rfl (lv_at hl 2 rfl) ?_
  have hcl : jx_cl[11]? = some (M.1.cls, jx_T11, 11) := by rw [hMc]; rfl
  refine jx_after2 (v := some (.int v)) hXK (va_runV (b := ad 0) (As := [.int x, .int z]) (rest := [.int 0, .ref (ad 109)]) ⟨hx, hb, hml, hown, hts⟩ (jx_met (as := [.ref 0, .int x, .int z]) hXK hStr hup hM hcat hev) (w_callW hts hM hst hlk hn rfl rfl hro) ⟨jx_blind hXK _, va_recv hW.2.2.1 hW.1 hcl (jx_wd_get (i := 0) (sh := .inl (11, [some 1, some 3, some 9, some 14, some 18, some 26, some 33, some 38, some 52, some 59, some 60])) rfl), fun U hU hw => ⟨rfl, jx_P_end hXK hW hU hw⟩⟩ rfl rfl hl.1 rfl (lv_room (Nat.le_of_ble_eq_true rfl)) d5 ⟨Nat.zero_le _, Nat.zero_le _⟩) (fun st oc t q => q) hW va_S.rf (fun H1 locs1 hW1 hS1 => ?_)
  refine lv_i2l hx hb d8 rfl ?_
  refine va_last hx hb hW1.2.2.1 hW1.1 hW1.2.1 hS1 109 1 (jx_wd_get (i := 109) (sh := .inr (1, 1)) rfl) rfl (jx_in_vp rfl) d9 (fun H2 locs2 hP2 hD2 hS2 => ?_)
  rw [w_set] at hP2 hD2
  refine lv_goto hx hb d10 (tgt := 17) rfl ?_
  refine lv_iconst hx hb d17 rfl ?_
  refine W.widen (k := 1) (n := 6) (by decide) (by decide) ?_
  exact W.iret hx hb hr (fun t ht hw => ⟨rfl, jx_P_end hXK ⟨hP2, hD2, hW1.2.2.1, hW1.2.2.2.1, jx_X_kept hXK hA hW1.2.2.2.2 hS1 hS2⟩ ht hw, hS2.F ht⟩) hS2.2.2 d18 hlocks
set_option maxHeartbeats 4000000 in
theorem w_no {y : MethodName} {b : ByteArray} {idx j : Nat} {M : jx_M} {x z : Int32} (hup : ∀ a b : Nat, a ≤ b → A a → A b) (hcls : y.cls = "FairByEarLaw") (hd : wD b idx) (hM : jx_ms[j]? = some M) (hMc : M.1.cls = "FairByEar") (hst : M.2.2.2.2.1 = false) (hlk : Cond.methodLink "FairByEarLaw" idx M.1 ∈ jx_tbl) (hn : (parseMethodDescriptor M.1.desc).map (fun d => d.parameters.length) = some 2) (hro : xR.frames + 1 ≤ wR.frames ∧ 8 + (M.2.2.1 + 11) + xR.locals ≤ wR.locals)
    (hx9 : vx_Met l M.1 (jx_ws M) xR (va_Pc [.ref (ad 0), .int x, .int z] (fun U => jx_P ad D cs A (jx_X2 ad adV A) μ U.heap U)) (fun _ _ _ _ => False) (xXC ad D cs A μ) 1 6 A) :
    Met l y (wws y b 5 [(0, 10, 13, 13)]) wR (va_Pc [.ref (ad 0), .int x, .int z, .ref (ad 109)] (fun U => jx_P ad D cs A (jx_X2 ad adV A) μ U.heap U)) (jx_Q ad D cs A (jx_X2 ad adV A) (some (.int 1)) μ) 1 6 A := by
  have hXK := jx_X2_XK ad adV A
  obtain ⟨d0, d1, d2, d3, d4, d5, d8, d9, d10, d13, d15, d16, d17, d18⟩ := hd
  refine va_MetW (cc := b) (maxL := 5) (ret := some .int) (hh := [(0, 10, 13, 13)]) (by rw [hcls]; decide +kernel) rfl ?_
  intro p e s m args below meth c s₁ B hml hv
  obtain ⟨rfl, hW⟩ := hv
  have hx := B.exec
  have hb := B.bytes
  have hr := B.returns
  have hlocks := B.notSynchronized
  have hts0 := atoms_spec (ws := wws y b 5 [(0, 10, 13, 13)]) B.pre
  have hts : ∀ w ∈ jx_tbl, w.before _ s = true := fun w hw => hts0 w (List.mem_cons_of_mem _ hw)
  have htab := vx_table (x := y) B (hts0 _ List.mem_cons_self)
  have hown : s.vm.findClass "FairByEarLaw" = some m.cls := by
    have h9 := findClass_of_methodNamed B.named
    rw [hcls] at h9
    exact h9
  have hl := lv_entry ([.ref (ad 0), .int x, .int z, .ref (ad 109)]) (n := 5) (Nat.le_of_ble_eq_true rfl)
  rw [lg_entry_eq]
  generalize (lg_sl ([.ref (ad 0), .int x, .int z, .ref (ad 109)]) ++ List.replicate (5 - (lg_sl ([.ref (ad 0), .int x, .int z, .ref (ad 109)])).length) Slot.unset).toArray = ls at hl ⊢
  have hl : lv_has ls 5 [(0, .ref (ad 0)), (1, .int x), (2, .int z), (3, .ref (ad 109))] := hl
  refine lv_aload_n hx hb d0 rfl (lv_at hl 3 rfl) ?_
  refine lv_iconst hx hb d1 rfl ?_
  refine lv_aload_n hx hb d2 rfl (lv_at hl 0 rfl) ?_
  refine lv_iload_n hx hb d3 rfl (lv_at hl 1 rfl) ?_
  refine lv_iload_n hx hb d4 rfl (lv_at hl 2 rfl) ?_
  have hcl : jx_cl[11]? = some (M.1.cls, jx_T11, 11) := by rw [hMc]; rfl
  have hrun := vx_runV (p := p) (e := e) (R := wR) (m := m) (below := below) (meth := meth) (locs := []) (cells := 0) (slots := 0) (g := F0 m 5 ls [.int z, .int x, .ref (ad 0), .int 0, .ref (ad 109)]) (b := ad 0) (As := [.int x, .int z]) (rest := [.int 0, .ref (ad 109)]) ⟨hx, hb, hml, hown, hts⟩ hx9 (w_callW hts hM hst hlk hn rfl rfl hro) ⟨jx_blind hXK _, va_recv hW.2.2.1 hW.1 hcl (jx_wd_get (i := 0) (sh := .inl (11, [some 1, some 3, some 9, some 14, some 18, some 26, some 33, some 38, some 52, some 59, some 60])) rfl), fun U hU hw => ⟨rfl, jx_P_end hXK hW hU hw⟩⟩ rfl rfl hl.1 rfl (lv_room (Nat.le_of_ble_eq_true rfl)) d5 ⟨by decide, by decide⟩
  intro T hT XT
  rcases hrun T hT XT with ⟨v', st₀, t, T', L, h0, X', hL, e1, e2, hq, st⟩ | ⟨q, st₀, t, T', L, E, ce, h0, X', hL, e1, e2, ⟨rfl, hPt, hz, hk⟩, hce, hcv, hcl2, st⟩
  · exact hq.elim
  · rw [h0] at hz hk
    have hW2 : jx_P ad D cs A (jx_X2 ad adV A) μ T'.heap s := ⟨by rw [e1]; exact hPt, hW.2.1, hW.2.2.1, hW.2.2.2.1, hXK.2.2 s.heap T'.heap s (fun q h1 h2 => by rw [e1]; exact hk q h1 h2) hW.2.2.2.2⟩
    have kk : vx_W p l e wR s m [Value.ref (ad 0), .int x, .int z, .ref (ad 109)].toArray below meth c T'.heap ([] ++ L) (0 + 1) (0 + 6) (MQ below (jx_Q ad D cs A (jx_X2 ad adV A) (some (.int 1)) μ) [Value.ref (ad 0), .int x, .int z, .ref (ad 109)].toArray s 1 6 A) (F0 m 5 ls [.int 0, .ref (ad 109)]) q := by
      refine vx_catch (own := "FairByEarLaw") (name := "java/util/NoSuchElementException") (E := "java/util/NoSuchElementException") (ce := ce) hown [] ⟨0, 10, 13, 13⟩ [] htab (fun z hz => nomatch hz) rfl (by decide) (hts _ wk_cl) (va_Nw.use rfl hW.2.2.2.2.2.2.2.2.2.2) (by rw [e1]; exact hce) hcv hcl2 ?_
      refine lv_astore hx hb d13 hl (by decide) rfl (fun ls' hl' => ?_)
      refine lv_iconst hx hb d15 rfl ?_
      exact W.iret hx hb hr (fun t ht hw => ⟨rfl, jx_P_end hXK hW2 ht hw, by rw [ht, e1]; exact hz, fun q h1 h2 => by rw [ht, e1]; exact hk q h1 h2⟩) (fun z hz => hL z (by simpa using hz)) d16 hlocks
    obtain ⟨t2, a1, b1⟩ := kk T' rfl X'
    exact ⟨t2, st.trans a1, b1⟩
set_option maxHeartbeats 4000000 in
theorem w_okr {x : Int32} {v : Int64} (hup : ∀ a b : Nat, a ≤ b → A a → A b) (hev : jx_ev 211 0 0 (lv_args 0 [.ref 0, .int x]) [] μ = some (some (.long v), μ)) :
    Met l yL_row (wws yL_row method_5_code 4 [(0, 8, 11, 13)]) wR (va_Pc [.ref (ad 0), .int x, .ref (ad 109)] (fun U => jx_P ad D cs A (jx_X2 ad adV A) μ U.heap U)) (jx_Q ad D cs A (jx_X2 ad adV A) (some (.int 0)) (jx_w2 μ 109 0 v)) 1 6 A := by
  have hXK := jx_X2_XK ad adV A
  have hStr := jx_str_ok2 l ad adV A
  obtain ⟨d0, d1, d2, d3, d4, d7, d8, d11, d12, d13, d14, d15⟩ := wd_row
  refine va_MetW (cc := method_5_code) (maxL := 4) (ret := some .int) (hh := [(0, 8, 11, 13)]) (by decide +kernel) rfl ?_
  intro p e s m args below meth c s₁ B hml hv
  obtain ⟨rfl, hW⟩ := hv
  have hx := B.exec
  have hb := B.bytes
  have hr := B.returns
  have hlocks := B.notSynchronized
  have hts0 := atoms_spec (ws := wws yL_row method_5_code 4 [(0, 8, 11, 13)]) B.pre
  have hts : ∀ w ∈ jx_tbl, w.before _ s = true := fun w hw => hts0 w (List.mem_cons_of_mem _ hw)
  have hown : s.vm.findClass "FairByEarLaw" = some m.cls := findClass_of_methodNamed B.named
  have hA : ∀ q, s.heap.size ≤ q → A q := jx_up_size hup hW
  have hl := lv_entry ([.ref (ad 0), .int x, .ref (ad 109)]) (n := 4) (Nat.le_of_ble_eq_true rfl)
  rw [lg_entry_eq]
  generalize (lg_sl ([.ref (ad 0), .int x, .ref (ad 109)]) ++ List.replicate (4 - (lg_sl ([.ref (ad 0), .int x, .ref (ad 109)])).length) Slot.unset).toArray = ls at hl ⊢
  have hl : lv_has ls 4 [(0, .ref (ad 0)), (1, .int x), (2, .ref (ad 109))] := hl
  refine lv_aload_n hx hb d0 rfl (lv_at hl 2 rfl) ?_
  refine lv_iconst hx hb d1 rfl ?_
  refine lv_aload_n hx hb d2 rfl (lv_at hl 0 rfl) ?_
  refine lv_iload_n hx hb d3 rfl (lv_at hl 1 rfl) ?_
  have hcl : jx_cl[11]? = some (jx_M211.1.cls, jx_T11, 11) := rfl
  refine jx_after2 (v := some (.long v)) hXK (va_runV (b := ad 0) (As := [.int x]) (rest := [.int 0, .ref (ad 109)]) ⟨hx, hb, hml, hown, hts⟩ (jx_met (as := [.ref 0, .int x]) (M := jx_M211) hXK hStr hup rfl (Nat.le_of_ble_eq_true rfl) hev) (w_callW (j := 211) (n := 1) hts rfl rfl wk_row (by decide +kernel) rfl rfl ⟨Nat.le_of_ble_eq_true rfl, Nat.le_of_ble_eq_true rfl⟩) ⟨jx_blind hXK _, va_recv hW.2.2.1 hW.1 hcl (jx_wd_get (i := 0) (sh := .inl (11, [some 1, some 3, some 9, some 14, some 18, some 26, some 33, some 38, some 52, some 59, some 60])) rfl), fun U hU hw => ⟨rfl, jx_P_end hXK hW hU hw⟩⟩ rfl rfl hl.1 rfl (lv_room (Nat.le_of_ble_eq_true rfl)) d4 ⟨Nat.zero_le _, Nat.zero_le _⟩) (fun st oc t q => q) hW va_S.rf (fun H1 locs1 hW1 hS1 => ?_)
  refine va_last hx hb hW1.2.2.1 hW1.1 hW1.2.1 hS1 109 1 (jx_wd_get (i := 109) (sh := .inr (1, 1)) rfl) rfl (jx_in_vp rfl) d7 (fun H2 locs2 hP2 hD2 hS2 => ?_)
  rw [w_set] at hP2 hD2
  refine lv_goto hx hb d8 (tgt := 14) rfl ?_
  refine lv_iconst hx hb d14 rfl ?_
  refine W.widen (k := 1) (n := 6) (by decide) (by decide) ?_
  exact W.iret hx hb hr (fun t ht hw => ⟨rfl, jx_P_end hXK ⟨hP2, hD2, hW1.2.2.1, hW1.2.2.2.1, jx_X_kept hXK hA hW1.2.2.2.2 hS1 hS2⟩ ht hw, hS2.F ht⟩) hS2.2.2 d15 hlocks
set_option maxHeartbeats 4000000 in
theorem w_nor {x : Int32} (hup : ∀ a b : Nat, a ≤ b → A a → A b)
    (hx9 : vx_Met l jx_M211.1 (jx_ws jx_M211) xR (va_Pc [.ref (ad 0), .int x] (fun U => jx_P ad D cs A (jx_X2 ad adV A) μ U.heap U)) (fun _ _ _ _ => False) (xXC ad D cs A μ) 1 6 A) :
    Met l yL_row (wws yL_row method_5_code 4 [(0, 8, 11, 13)]) wR (va_Pc [.ref (ad 0), .int x, .ref (ad 109)] (fun U => jx_P ad D cs A (jx_X2 ad adV A) μ U.heap U)) (jx_Q ad D cs A (jx_X2 ad adV A) (some (.int 1)) μ) 1 6 A := by
  have hXK := jx_X2_XK ad adV A
  obtain ⟨d0, d1, d2, d3, d4, d7, d8, d11, d12, d13, d14, d15⟩ := wd_row
  refine va_MetW (cc := method_5_code) (maxL := 4) (ret := some .int) (hh := [(0, 8, 11, 13)]) (by decide +kernel) rfl ?_
  intro p e s m args below meth c s₁ B hml hv
  obtain ⟨rfl, hW⟩ := hv
  have hx := B.exec
  have hb := B.bytes
  have hr := B.returns
  have hlocks := B.notSynchronized
  have hts0 := atoms_spec (ws := wws yL_row method_5_code 4 [(0, 8, 11, 13)]) B.pre
  have hts : ∀ w ∈ jx_tbl, w.before _ s = true := fun w hw => hts0 w (List.mem_cons_of_mem _ hw)
  have htab := vx_table (x := yL_row) B (hts0 _ List.mem_cons_self)
  have hown : s.vm.findClass "FairByEarLaw" = some m.cls := findClass_of_methodNamed B.named
  have hl := lv_entry ([.ref (ad 0), .int x, .ref (ad 109)]) (n := 4) (Nat.le_of_ble_eq_true rfl)
  rw [lg_entry_eq]
  generalize (lg_sl ([.ref (ad 0), .int x, .ref (ad 109)]) ++ List.replicate (4 - (lg_sl ([.ref (ad 0), .int x, .ref (ad 109)])).length) Slot.unset).toArray = ls at hl ⊢
  have hl : lv_has ls 4 [(0, .ref (ad 0)), (1, .int x), (2, .ref (ad 109))] := hl
  refine lv_aload_n hx hb d0 rfl (lv_at hl 2 rfl) ?_
  refine lv_iconst hx hb d1 rfl ?_
  refine lv_aload_n hx hb d2 rfl (lv_at hl 0 rfl) ?_
  refine lv_iload_n hx hb d3 rfl (lv_at hl 1 rfl) ?_
  have hcl : jx_cl[11]? = some (jx_M211.1.cls, jx_T11, 11) := rfl
  have hrun := vx_runV (p := p) (e := e) (R := wR) (m := m) (below := below) (meth := meth) (locs := []) (cells := 0) (slots := 0) (g := F0 m 4 ls [.int x, .ref (ad 0), .int 0, .ref (ad 109)]) (b := ad 0) (As := [.int x]) (rest := [.int 0, .ref (ad 109)]) ⟨hx, hb, hml, hown, hts⟩ hx9 (w_callW (j := 211) (n := 1) hts rfl rfl wk_row (by decide +kernel) rfl rfl ⟨Nat.le_of_ble_eq_true rfl, Nat.le_of_ble_eq_true rfl⟩) ⟨jx_blind hXK _, va_recv hW.2.2.1 hW.1 hcl (jx_wd_get (i := 0) (sh := .inl (11, [some 1, some 3, some 9, some 14, some 18, some 26, some 33, some 38, some 52, some 59, some 60])) rfl), fun U hU hw => ⟨rfl, jx_P_end hXK hW hU hw⟩⟩ rfl rfl hl.1 rfl (lv_room (Nat.le_of_ble_eq_true rfl)) d4 ⟨by decide, by decide⟩
  intro T hT XT
  rcases hrun T hT XT with ⟨v', st₀, t, T', L, h0, X', hL, e1, e2, hq, st⟩ | ⟨q, st₀, t, T', L, E, ce, h0, X', hL, e1, e2, ⟨rfl, hPt, hz, hk⟩, hce, hcv, hcl2, st⟩
  · exact hq.elim
  · rw [h0] at hz hk
    have hW2 : jx_P ad D cs A (jx_X2 ad adV A) μ T'.heap s := ⟨by rw [e1]; exact hPt, hW.2.1, hW.2.2.1, hW.2.2.2.1, hXK.2.2 s.heap T'.heap s (fun q h1 h2 => by rw [e1]; exact hk q h1 h2) hW.2.2.2.2⟩
    have kk : vx_W p l e wR s m [Value.ref (ad 0), .int x, .ref (ad 109)].toArray below meth c T'.heap ([] ++ L) (0 + 1) (0 + 6) (MQ below (jx_Q ad D cs A (jx_X2 ad adV A) (some (.int 1)) μ) [Value.ref (ad 0), .int x, .ref (ad 109)].toArray s 1 6 A) (F0 m 4 ls [.int 0, .ref (ad 109)]) q := by
      refine vx_catch (own := "FairByEarLaw") (name := "java/util/NoSuchElementException") (E := "java/util/NoSuchElementException") (ce := ce) hown [] ⟨0, 8, 11, 13⟩ [] htab (fun z hz => nomatch hz) rfl (by decide) (hts _ wk_cl) (va_Nw.use rfl hW.2.2.2.2.2.2.2.2.2.2) (by rw [e1]; exact hce) hcv hcl2 ?_
      refine lv_astore_n hx hb d11 rfl hl (by decide) rfl (fun ls' hl' => ?_)
      refine lv_iconst hx hb d12 rfl ?_
      exact W.iret hx hb hr (fun t ht hw => ⟨rfl, jx_P_end hXK hW2 ht hw, by rw [ht, e1]; exact hz, fun q h1 h2 => by rw [ht, e1]; exact hk q h1 h2⟩) (fun z hz => hL z (by simpa using hz)) d13 hlocks
    obtain ⟨t2, a1, b1⟩ := kk T' rfl X'
    exact ⟨t2, st.trans a1, b1⟩
end WR
