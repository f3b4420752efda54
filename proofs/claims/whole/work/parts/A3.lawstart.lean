/-! the law's beginning: the two sides are made -/
theorem l_dp : decode code 0 = .ok (.new 8, 3) ∧ decode code 3 = .ok (.dup, 1) ∧ decode code 4 = .ok (.invokespecial 22, 3) ∧ decode code 7 = .ok (.astore_n 1, 1) ∧ decode code 8 = .ok (.new 23, 3) ∧ decode code 11 = .ok (.dup, 1) ∧ decode code 12 = .ok (.invokespecial 25, 3) ∧ decode code 15 = .ok (.astore_n 2, 1) ∧ decode code 16 = .ok (.iconst 1, 1) ∧ decode code 17 = .ok (.newarray .long, 2) ∧ decode code 19 = .ok (.astore_n 3, 1) ∧ decode code 20 = .ok (.iconst 0, 1) ∧ decode code 21 = .ok (.istore 4, 2) := by
  repeat' apply And.intro
  all_goals decide +kernel
theorem l_w1 : Cond.classLink "FairByEarLaw" 8 "FairByEar" ∈ jx_tbl := List.mem_filter.mpr (by decide +kernel)
theorem l_w2 : Cond.instantiable "FairByEar" 11 ∈ jx_tbl := List.mem_filter.mpr (by decide +kernel)
theorem l_w3 : Cond.initialized "FairByEar" ∈ jx_tbl := List.mem_filter.mpr (by decide +kernel)
theorem l_w4 : Cond.classLink "FairByEarLaw" 23 "FairByEarModel" ∈ jx_tbl := List.mem_filter.mpr (by decide +kernel)
theorem l_w5 : Cond.instantiable "FairByEarModel" 68 ∈ jx_tbl := List.mem_filter.mpr (by decide +kernel)
theorem l_w6 : Cond.initialized "FairByEarModel" ∈ jx_tbl := List.mem_filter.mpr (by decide +kernel)
theorem l_w7 : Cond.methodLink "FairByEarLaw" 22 jc_M12.1 ∈ jx_tbl := List.mem_filter.mpr (by decide +kernel)
theorem l_w8 : Cond.methodLink "FairByEarLaw" 25 jc_M13.1 ∈ jx_tbl := List.mem_filter.mpr (by decide +kernel)
theorem l_w9 : Cond.arrayClass .long ∈ jx_tbl ∧ Cond.arrayClass .int ∈ jx_tbl ∧ Cond.arrayClass .boolean ∈ jx_tbl := ⟨List.mem_filter.mpr (by decide +kernel), List.mem_filter.mpr (by decide +kernel), List.mem_filter.mpr (by decide +kernel)⟩
section LN
variable {p : Program} {l : Launch} {e : Env} {s : State} {m : MethodId} {below : List Frame} {meth : Method} {c : Code} {Q : State → Prop} {b L : Nat} {xs : Nat → Int32} {ad adV : Nat → Nat} {D : va_G} {cs : ClassId × ClassId × ClassId} {A : Nat → Prop} {X : Heap → State → Prop} {H : Heap} {ls : Array Slot} {cells slots pc : Nat} {st : List Value} {hs hs' : List jc_C}
theorem l_new (C : lC p s m c b L xs A) (hXK : jx_XK A X) (had : ∀ i, i < 900 → ad i = s.heap.size + i) {ci idx N : Nat} {Cn : String} {T : u_T} (hlt : hs.length < 900) (hW : jc_P ad D cs A X s.heap.size hs H s) (hsz : H.size = s.heap.size + hs.length) (hS : va_S A s.heap H []) (hc : jx_cl[ci]? = some (Cn, T, N)) (w1 : Cond.classLink "FairByEarLaw" idx Cn ∈ jx_tbl) (w2 : Cond.instantiable Cn N ∈ jx_tbl) (w3 : Cond.initialized Cn ∈ jx_tbl) (hdec : decode code pc = .ok (.new idx, 3)) (hf : cells + 1 ≤ room_1.cells ∧ slots + N ≤ room_1.slots)
    (kk : ∀ H1 : Heap, jc_P ad D cs A X s.heap.size (hs ++ [.inl (ci, jc_df ci)]) H1 s → H1.size = s.heap.size + (hs.length + 1) → va_S A s.heap H1 [] → W p l e room_1 s m #[Value.ref b] below meth c H1 [] (cells + 1) (slots + N) Q (F0 m (pc + 3) ls (.ref (ad hs.length) :: st))) : W p l e room_1 s m #[Value.ref b] below meth c H [] cells slots Q (F0 m pc ls st) := by
  obtain ⟨hx, hb, hml, hown, hts, hXs, hbl, hL, hA⟩ := C
  obtain ⟨hty0, hnm⟩ := jc_tyok ci Cn T N hc
  have hKn := hW.2.2.1.1 ci _ hc
  have hdf : jc_df ci = (List.range N).map (fun k => defaultValue (jc_ty ci k)) := by unfold jc_df; rw [hc]
  refine W.newcK hx hb hown (hts _ w1) (hts _ w2) (hts _ w3) (g := F0 m pc ls st) rfl hdec hf.1 hf.2 hKn.2.1 rfl (fun H1 kC hkC e1 z1 o1 => ?_)
  have hcell : va_at D jx_cl (H.size, jc_ce ad cs (.inl (ci, jc_df ci))) H1 := by
    refine ⟨_, hc, ?_⟩
    refine (u_born (jc_ty ci) hts (jx_inT ci Cn T N hc) hKn hkC e1 hty0).to (fun j hj => ?_)
    show defaultValue (jc_ty ci j) = vp_V ((jc_df ci).map (jx_cv ad)) j
    rw [jc_df_cv, hdf]
    unfold vp_V
    rw [List.getD_eq_getElem?_getD, List.getElem?_map, List.getElem?_range hj]
    rfl
  obtain ⟨hW1, hS1, hadr⟩ := jc_new_row hXK (fun q h => (hA q).mpr h) had hlt hW hsz hS z1 o1 hcell
  have h9 := kk H1 hW1 (by rw [z1, hsz]; omega) hS1
  rw [hadr] at h9
  exact h9
theorem l_arr (C : lC p s m c b L xs A) (hXK : jx_XK A X) (had : ∀ i, i < 900 → ad i = s.heap.size + i) (hlt : hs.length < 900) (hW : jc_P ad D cs A X s.heap.size hs H s) (hsz : H.size = s.heap.size + hs.length) (hS : va_S A s.heap H []) (hdec : decode code pc = .ok (.newarray .long, 2)) (hf : cells + 1 ≤ room_1.cells ∧ slots + 1 ≤ room_1.slots)
    (kk : ∀ H1 : Heap, jc_P ad D cs A X s.heap.size (hs ++ [.inr (1, 1, fun _ => 0)]) H1 s → va_S A s.heap H1 [] → W p l e room_1 s m #[Value.ref b] below meth c H1 [] (cells + 1) (slots + 1) Q (F0 m (pc + 2) ls (.ref (ad hs.length) :: st))) : W p l e room_1 s m #[Value.ref b] below meth c H [] cells slots Q (F0 m pc ls (.int 1 :: st)) := by
  obtain ⟨hx, hb, hml, hown, hts, hXs, hbl, hL, hA⟩ := C
  refine va_newaK (N := 1) (atype := .long) hx hb (hts _ l_w9.1) (g := F0 m pc ls (.int 1 :: st)) rfl hdec rfl (by decide) rfl (by decide) hf.1 hf.2 rfl (fun H1 cA e1 z1 o1 hAr hNm => ?_)
  have hcell : va_at D jx_cl (H.size, jc_ce ad cs (.inr (1, 1, fun _ => 0))) H1 := by
    have h2 : cA = cs.2.1 := Option.some.inj (hNm.symm.trans (hW.2.2.1.2 1 _ rfl).2)
    subst h2
    exact e1
  obtain ⟨hW1, hS1, hadr⟩ := jc_new_row hXK (fun q h => (hA q).mpr h) had hlt hW hsz hS z1 o1 hcell
  have h9 := kk H1 hW1 hS1
  rw [hadr] at h9
  exact h9
theorem l_init (C : lC p s m c b L xs A) (hXK : jx_XK A X) (had : ∀ i, i < 900 → ad i = s.heap.size + i) {j i idx nn : Nat} {M : jc_M} (hM : jc_ms[j]? = some M) (hst : M.2.2.2.2.2.1 = false) (hlt : hs.length < 800) (hs0 : hs'.length < 900) (hpos : 0 < hs'.length) (hW : jc_P ad D cs A X s.heap.size hs H s) (hsz : H.size = s.heap.size + hs.length) (hS : va_S A s.heap H []) (hrun : jc_run nn j 0 (lv_args 0 [.ref i]) [] hs 0 0 = some hs') (hcat : 1 ≤ M.2.2.1) (hlk : Cond.methodLink "FairByEarLaw" idx M.1 ∈ jx_tbl) (hn : (parseMethodDescriptor M.1.desc).map (fun d => d.parameters.length) = some 0) (hro : M.2.2.2.2.1 + 1 + 1 ≤ room_1.frames ∧ 8 + (M.2.2.1 + 11) + 60 * (M.2.2.2.2.1 + 1) ≤ room_1.locals) (hdec : decode code pc = .ok (.invokespecial idx, 3)) (hsize : ls.size = 8) (hrest : (st.map fun v => v.category).sum ≤ 8) (hcl : cells + M.2.2.2.1.1 = hs'.length) (hf : cells + M.2.2.2.1.1 ≤ room_1.cells ∧ slots + M.2.2.2.1.2 ≤ room_1.slots)
    (kk : ∀ H1 : Heap, jc_P ad D cs A X s.heap.size hs' H1 s → H1.size = s.heap.size + hs'.length → va_S A s.heap H1 [] → W p l e room_1 s m #[Value.ref b] below meth c H1 [] (cells + M.2.2.2.1.1) (slots + M.2.2.2.1.2) Q (F0 m (pc + 3) ls st)) : W p l e room_1 s m #[Value.ref b] below meth c H [] cells slots Q (F0 m pc ls (.ref (ad i) :: st)) := by
  obtain ⟨hx, hb, hml, hown, hts, hXs, hbl, hL, hA⟩ := C
  have hgd := jc_allGd M (List.mem_of_getElem? hM)
  have hmo := hgd.2
  unfold jc_mOk jx_yOk at hmo
  simp only [Bool.and_eq_true, decide_eq_true_eq] at hmo
  obtain ⟨⟨⟨y1, y2, y3⟩, y4⟩, w1, w2, w3⟩ := hmo
  rw [hst] at w3
  have w3 := of_decide_eq_true w3
  have hname := jc_isInit M (List.mem_of_getElem? hM) hst
  have hbase : ∀ q, s.heap.size ≤ q → A q := fun q h => (hA q).mpr h
  have hMet := jc_met_of (l := l) (D := D) (cs := cs) (X := X) (ad := ad) (base := s.heap.size) (hs := hs) (hs' := hs') (as := [.ref i]) hbase hM hcat (fun p e s1 m args below meth c C0 hr hlk hin hA1 hcnt => jc_sound hXK had hbase nn j 0 (lv_args 0 [.ref i]) [] hs 0 0 hs' M hM hrun p e s1 m args below meth c C0 hr hlk (fun q => hin q hname) hA1 hcnt)
  refine jc_after (H0 := s.heap) hXK (va_runI (b := ad i) (As := []) (rest := st) ⟨hx, hb, hml, hown, hts⟩ hMet ⟨callB_of 0 hts (jc_good w1) rfl rfl rfl (hts _ w2) (hts _ hlk) ⟨y1, y2, hn⟩ hro, hname, hts _ w3⟩ ⟨jc_blind hXK _, fun U hU hw => ⟨rfl, by
    show jc_P ad D cs A X s.heap.size hs U.heap U ∧ U.heap.size = s.heap.size + hs.length
    rw [hU]
    exact ⟨⟨hW.1, hW.2.1, va_K.moved hw.alike hW.2.2.1, jx_nest_warm hw hW.2.2.2.1, hXK.1 H s U hw hW.2.2.2.2⟩, hsz⟩⟩⟩ rfl rfl hsize rfl (lv_room hrest) hdec hf) (fun _ _ _ q => q) hW hS (fun H1 locs1 hW1 hS1 => ?_)
  refine jc_size (fun hle => ?_)
  have hsz1 := jc_full had hpos hs0 hW1 (k := cells + M.2.2.2.1.1) (by omega) hle
  exact W.forget (locs := []) (L := locs1) (fun q hq => (hA _).mp (hS1.2.2 q hq)) (kk H1 hW1 hsz1 ⟨hS1.1, hS1.2.1, fun q hq => by cases hq⟩)
/-- from the entry to the loop's head -/
theorem l_prelude (ht : l.stackTraces = false) (C : lC p s m c b L xs A) (hr : meth.sig.returnType = ret) (hlocks : meth.locks = false) (had : ∀ i, i < 900 → ad i = s.heap.size + i) (hK : va_K D jx_cl (jx_tys cs) s) (hN : ∀ w ∈ jx_nest, va_Nw w s) (hX : jx_X2 ad adV A s.heap s) (hl : lv_has ls 8 [(0, .ref b)]) :
    W p l e room_1 s m #[Value.ref b] below meth c s.heap [] 0 0 (lw_Z below #[Value.ref b] s) (F0 m 0 ls []) := by
  have hXK := jx_X2_XK ad adV A
  obtain ⟨d0, d3, d4, d7, d8, d11, d12, d15, d16, d17, d19, d20, d21⟩ := l_dp
  have hx := C.1
  have hb := C.2.1
  have hW0 : jc_P ad D cs A (jx_X2 ad adV A) s.heap.size [] s.heap s := ⟨(fun k q hq => by cases hq), ⟨(fun i j p q h => by cases h), (fun k q h => by cases h)⟩, hK, hN, hX⟩
  have hS0 : va_S A s.heap s.heap [] := ⟨Nat.le_refl _, fun _ _ _ => rfl, fun q hq => by cases hq⟩
  refine l_new (hs := []) C hXK had (by decide) hW0 rfl hS0 (ci := 11) rfl l_w1 l_w2 l_w3 d0 ⟨by decide, by decide⟩ (fun H1 hW1 hz1 hS1 => ?_)
  refine lv_dup hx hb d3 rfl ?_
  refine l_init (i := 0) (hs' := jc_h1) C hXK had (j := 12) (M := jc_M12) rfl rfl (by decide) (by rw [jc_n1]; decide) (by rw [jc_n1]; decide) hW1 hz1 hS1 jc_r1 (by decide) l_w7 (by decide +kernel) ⟨by decide, by decide⟩ d4 hl.1 (Nat.le_of_ble_eq_true rfl) (by rw [jc_n1]; rfl) ⟨by decide, by decide⟩ (fun H2 hW2 hz2 hS2 => ?_)
  refine lv_astore_n (lv' := [(1, .ref (ad 0)), (0, .ref b)]) hx hb d7 rfl hl (by decide) rfl (fun ls1 hl1 => ?_)
  refine l_new (hs := jc_h1) C hXK had (by rw [jc_n1]; decide) hW2 hz2 hS2 (ci := 12) rfl l_w4 l_w5 l_w6 d8 ⟨by decide, by decide⟩ (fun H3 hW3 hz3 hS3 => ?_)
  rw [jc_n1] at hz3 ⊢
  refine lv_dup hx hb d11 rfl ?_
  refine l_init (i := 63) (hs' := jc_h2) C hXK had (j := 13) (M := jc_M13) rfl rfl (by rw [List.length_append, jc_n1]; decide) (by rw [jc_n2]; decide) (by rw [jc_n2]; decide) hW3 (by rw [List.length_append, jc_n1]; exact hz3) hS3 jc_r2 (by decide) l_w8 (by decide +kernel) ⟨by decide, by decide⟩ d12 hl1.1 (Nat.le_of_ble_eq_true rfl) (by rw [jc_n2]; rfl) ⟨by decide, by decide⟩ (fun H4 hW4 hz4 hS4 => ?_)
  refine lv_astore_n (lv' := [(2, .ref (ad 63)), (1, .ref (ad 0)), (0, .ref b)]) hx hb d15 rfl hl1 (by decide) rfl (fun ls2 hl2 => ?_)
  refine lv_iconst (v := 1) hx hb d16 rfl ?_
  refine l_arr (hs := jc_h2) C hXK had (by rw [jc_n2]; decide) hW4 hz4 hS4 d17 ⟨by decide, by decide⟩ (fun H5 hW5 hS5 => ?_)
  rw [jc_n2]
  refine lv_astore_n (lv' := [(3, .ref (ad 109)), (2, .ref (ad 63)), (1, .ref (ad 0)), (0, .ref b)]) hx hb d19 rfl hl2 (by decide) rfl (fun ls3 hl3 => ?_)
  refine lv_iconst (v := nI 0) hx hb d20 rfl ?_
  refine lv_istore (lv' := [(4, .int (nI 0)), (3, .ref (ad 109)), (2, .ref (ad 63)), (1, .ref (ad 0)), (0, .ref b)]) hx hb d21 hl3 (by decide) rfl (fun ls4 hl4 => ?_)
  have hP5 : jx_P ad D cs A (jx_X2 ad adV A) jx_first H5 s := by
    obtain ⟨h1, h2, h3, h4, h5⟩ := hW5
    have e9 : jc_wd ad cs (jc_h2 ++ [.inr (1, 1, fun _ => 0)]) = jx_wd ad cs jx_first := jc_first ad cs
    rw [e9] at h1 h2
    exact ⟨h1, h2, h3, h4, h5⟩
  have hL := C.2.2.2.2.2.2.2.1
  exact l_loop ht C hr hlocks 512 0 _ _ H5 jx_first ls4 (by omega) (by decide) (by decide) (by decide) Inv_first hP5 hS5 (lv_sub hl4 [4, 3, 2, 1, 0] rfl)
end LN
