/-! a method that throws: what it needs lies in the world, too -/
def jx_X2 (ad adV : Nat → Nat) (A : Nat → Prop) (H : Heap) (U : State) : Prop :=
  jx_X ad adV A H U ∧ vx_Zq Bundle.tN "UNASSIGNED_STACK" Bundle.steD A U H ∧ vx_Zq Bundle.tN "SUPPRESSED_SENTINEL" Bundle.listD A U H ∧ va_Nw (.declares (Bundle.init0 "java/lang/RuntimeException")) U ∧ va_Nw (.declares (Bundle.init0 "java/lang/Exception")) U ∧ va_Nw (.declares (Bundle.init0 Bundle.tN)) U ∧ va_Nw (.castable "java/util/NoSuchElementException" "java/util/NoSuchElementException") U
theorem jx_X2_XK (ad adV : Nat → Nat) (A : Nat → Prop) : jx_XK A (jx_X2 ad adV A) := by
  have h0 := jx_X_XK ad adV A
  refine ⟨fun H s U hW h => ⟨h0.1 H s U hW h.1, vx_Zq.moved hW.alike h.2.1, vx_Zq.moved hW.alike h.2.2.1, va_Nw.warmD hW h.2.2.2.1, va_Nw.warmD hW h.2.2.2.2.1, va_Nw.warmD hW h.2.2.2.2.2.1, va_Nw.warmC hW h.2.2.2.2.2.2⟩, fun H u U hv h => ?_, fun H H1 U hq h => ⟨h0.2.2 H H1 U hq h.1, h.2.1.kept hq, h.2.2.1.kept hq, h.2.2.2⟩⟩
  have hal : u.vm.Alike U.vm := by rw [hv]; exact Vm.Alike.refl _
  exact ⟨h0.2.1 H u U hv h.1, vx_Zq.moved hal h.2.1, vx_Zq.moved hal h.2.2.1, va_Nw.same rfl hv h.2.2.2.1, va_Nw.same rfl hv h.2.2.2.2.1, va_Nw.same rfl hv h.2.2.2.2.2.1, va_Nw.same rfl hv h.2.2.2.2.2.2⟩
theorem jx_str_ok2 (l : Launch) (ad adV : Nat → Nat) (A : Nat → Prop) : jx_StrOK l ad A (jx_X2 ad adV A) := by
  intro p e R s m args below meth c Q M C0 hA
  obtain ⟨h1, h2, h3⟩ := jx_str_ok l ad adV A p e R s m args below meth c Q M C0 hA
  exact ⟨fun q t idx pc H locs ls rest a1 a2 a3 a4 => h1 q t idx pc H locs ls rest a1 a2 a3 a4.1, fun q t x idx pc H locs ls rest a1 a2 a3 a4 a5 => h2 q t x idx pc H locs ls rest a1 a2 a3 a4 a5.1, fun q t idx pc H locs ls rest a1 a2 a3 a4 a5 => h3 q t idx pc H locs ls rest a1 a2 a3 a4 a5.1⟩
def xR : Room := { frames := 8, cells := 1, slots := 6, locals := 600 }
/-- where it has thrown: the world as it was -/
def xXC (ad : Nat → Nat) (D : va_G) (cs : ClassId × ClassId × ClassId) (A : Nat → Prop) (μ : jx_Mem) : String → State → State → Prop := fun E st t => E = "java/util/NoSuchElementException" ∧ va_P D jx_cl (jx_wd ad cs μ) t.heap ∧ va_F A st t
def xBad : List Cond := [Cond.declares (Bundle.init0 "java/lang/RuntimeException"), Cond.declares (Bundle.init0 "java/lang/Exception"), Cond.declares (Bundle.init0 Bundle.tN), Cond.castable "java/util/NoSuchElementException" "java/util/NoSuchElementException"]
def xAt : List Cond := vx_at0 "FairByEar" 122 "java/util/NoSuchElementException" ["java/lang/RuntimeException", "java/lang/Exception"]
theorem x_bad : ∀ w ∈ xAt.filter (fun w => !goodWord w), w ∈ xBad := by decide +kernel
theorem x_good0 : ∀ w ∈ xAt.filter goodWord, w ∈ lw_tbl := by decide +kernel
theorem x_good : ∀ w ∈ xAt.filter goodWord, w ∈ jx_tbl := fun w hw => List.mem_filter.mpr ⟨x_good0 w hw, (List.mem_filter.mp hw).2⟩
theorem x_ot : ∀ w ∈ Cond.classLink "FairByEar" 120 "java/util/NoSuchElementException" :: Cond.initialized "java/util/NoSuchElementException" :: xAt, vx_ot w = true := by decide +kernel
theorem x_m1 : Cond.classLink "FairByEar" 120 "java/util/NoSuchElementException" ∈ jx_tbl := List.mem_filter.mpr (by decide +kernel)
theorem x_m2 : Cond.initialized "java/util/NoSuchElementException" ∈ jx_tbl := List.mem_filter.mpr (by decide +kernel)
section XT
variable {p : Program} {l : Launch} {e : Env} {R : Room} {s : State} {m : MethodId} {args : Array Value} {below : List Frame} {meth : Method} {c : Code} {Q : State → Prop} {ad adV : Nat → Nat} {D : va_G} {cs : ClassId × ClassId × ClassId} {A : Nat → Prop} {X : Heap → State → Prop} {M : jx_M} {lv lv' : jx_Lv} {st st' : List Value} {μ μ' : jx_Mem} {pc : Nat}
theorem x_throw (hl : l.stackTraces = false) (hx : p.tables.exec = Jvm.exec) (hb : c.code = M.2.1) (hown : s.vm.findClass "FairByEar" = some m.cls) (hts : ∀ w ∈ jx_tbl, w.before args s = true) (hX0 : jx_X2 ad adV A s.heap s) (hlocks : meth.locks = false) (hout : ∀ x ∈ c.exceptionTable.toList, False)
    (d0 : decode M.2.1 pc = .ok (.new 120, 3)) (d3 : decode M.2.1 (pc + 3) = .ok (.dup, 1)) (d4 : decode M.2.1 (pc + 4) = .ok (.invokespecial 122, 3)) (d7 : decode M.2.1 (pc + 7) = .ok (.athrow, 1))
    {H : Heap} {locs : List Loc} {ls : Array Slot} (hsize : ls.size = c.maxLocals) (hP : va_P D jx_cl (jx_wd ad cs μ) H) (hS : va_S A s.heap H locs) :
    W p l e xR s m args below meth c H locs 0 0 (vx_MQ below (fun _ _ _ _ => False) (xXC ad D cs A μ) args s 1 6 A) (F0 m pc ls []) :=
  vx_throw0 hx hb hl (own := "FairByEar") (cls := "java/util/NoSuchElementException") (names := ["java/lang/RuntimeException", "java/lang/Exception"]) (ik := 120) (ic := 122) (A := A) hown (by decide +kernel) (by decide +kernel) (hts _ x_m1) (hts _ x_m2)
    (vx_hat (B := xBad) (fun w hw => hts w (x_good w hw)) x_bad (fun w hw => by
      obtain ⟨-, -, -, h1, h2, h3, h4⟩ := hX0
      rcases List.mem_cons.mp hw with rfl | hw
      · exact va_Nw.use rfl h1
      rcases List.mem_cons.mp hw with rfl | hw
      · exact va_Nw.use rfl h2
      rcases List.mem_cons.mp hw with rfl | hw
      · exact va_Nw.use rfl h3
      rcases List.mem_cons.mp hw with rfl | hw
      · exact va_Nw.use rfl h4
      cases hw)) x_ot hX0.2.1 hX0.2.2.1 hS hsize d0 d3 d4 d7 (fun x h => (hout x h).elim) (by decide) (by decide) (by decide) (by decide) hlocks
    (fun t _ hz hk => ⟨rfl, hP.kept (fun k x hx => hk x.1 ((hP k x hx).lt)), Nat.le_trans hS.1 hz, fun q h1 h2 => (hk q (Nat.lt_of_lt_of_le h1 hS.1)).trans (hS.2.1 q h1 h2)⟩) hS.2.2 (by decide) (by decide)
theorem x_met_of {j : Nat} {as : List Value} (hup : ∀ a b : Nat, a ≤ b → A a → A b) (hM : jx_ms[j]? = some M) (hcat : jx_cat as ≤ M.2.2.1)
    (ih : ∀ (p : Program) (e : Env) (s : State) (m : MethodId) (args : Array Value) (below : List Frame) (meth : Method) (c : Code), jx_Cx p s m args c M → meth.locks = false → (∀ q, s.heap.size ≤ q → A q) → (∀ x ∈ c.exceptionTable.toList, False) → X s.heap s → jx_Go p l e xR s m args below meth c (vx_MQ below (fun _ _ _ _ => False) (xXC ad D cs A μ) args s 1 6 A) ad D cs A X M s.heap 0 (lv_args 0 as) [] μ) :
    vx_Met l M.1 (jx_ws M) xR (va_Pc (as.map (jx_cv ad)) (fun U => jx_P ad D cs A X μ U.heap U)) (fun _ _ _ _ => False) (xXC ad D cs A μ) 1 6 A := by
  have hy := (jx_allGd M (List.mem_of_getElem? hM)).2.1.1
  unfold jx_yOk at hy
  simp only [Bool.and_eq_true] at hy
  refine vx_ofW (cc := M.2.1) (maxL := M.2.2.1) (ret := M.2.2.2.1) hy.2.2 rfl ?_
  intro p e s m args below meth c s₁ B hml hex hv
  obtain ⟨rfl, hW⟩ := hv
  have hts := atoms_spec (ws := jx_ws M) B.pre
  have hown : s.vm.findClass M.1.cls = some m.cls := findClass_of_methodNamed B.named
  have hl := lv_entry (as.map (jx_cv ad)) (n := M.2.2.1) (by rw [jx_cat_sl]; exact hcat)
  rw [jx_mapArgs] at hl
  rw [lg_entry_eq]
  exact ih p e s m _ below meth c ⟨B.exec, B.bytes, hml, hown, fun w hw => hts w (List.mem_cons_of_mem _ hw)⟩ B.notSynchronized (jx_up_size hup hW) hex hW.2.2.2.2 s.heap [] _ hl hW va_S.rf
theorem x_go (hXK : jx_XK A X) (hStr : jx_StrOK l ad A X) (hA : ∀ q, s.heap.size ≤ q → A q) (C0 : jx_Cx p s m args c M) {j : Nat} (hM : jx_ms[j]? = some M) {k : Nat} {el : jx_El} (hel : M.2.2.2.2.2.2[k]? = some el) (hact : jx_act el lv st μ = some (.inl (true, lv', st', μ')))
    (kk : jx_Go p l e xR s m args below meth c Q ad D cs A X M s.heap (jx_pc el + jx_len el) lv' st' μ') : jx_Go p l e xR s m args below meth c Q ad D cs A X M s.heap (jx_pc el) lv st μ := by
  obtain ⟨h, hok⟩ := (jx_allGd M (List.mem_of_getElem? hM)).1 el (List.mem_of_getElem? hel)
  exact jx_go_ok hXK hA C0 ⟨by decide, by decide⟩ (fun _ => ⟨by decide, by decide⟩) (hStr p e xR s m args below meth c Q M C0 hA) hok hact kk
theorem x_jump (C0 : jx_Cx p s m args c M) {j : Nat} (hM : jx_ms[j]? = some M) {k : Nat} {el : jx_El} (hel : M.2.2.2.2.2.2[k]? = some el) {sw : List (Bool × Nat)} {d : Option Nat} (hact : jx_act el lv st μ = some (.inr (.inl (sw, d, lv', st')))) {t : Nat} (hp : jx_pick sw d = some t)
    (kk : jx_Go p l e R s m args below meth c Q ad D cs A X M s.heap t lv' st' μ) : jx_Go p l e R s m args below meth c Q ad D cs A X M s.heap (jx_pc el) lv st μ := by
  obtain ⟨h, hok⟩ := (jx_allGd M (List.mem_of_getElem? hM)).1 el (List.mem_of_getElem? hel)
  exact jx_jump_ok C0 hok hact (fun t2 h2 => by cases hp.symm.trans h2; exact kk) (fun h2 => by rw [hp] at h2; cases h2)
theorem x_next (C0 : jx_Cx p s m args c M) {j : Nat} (hM : jx_ms[j]? = some M) {k : Nat} {el : jx_El} (hel : M.2.2.2.2.2.2[k]? = some el) {sw : List (Bool × Nat)} {d : Option Nat} (hact : jx_act el lv st μ = some (.inr (.inl (sw, d, lv', st')))) (hp : jx_pick sw d = none)
    (kk : jx_Go p l e R s m args below meth c Q ad D cs A X M s.heap (jx_pc el + jx_len el) lv' st' μ) : jx_Go p l e R s m args below meth c Q ad D cs A X M s.heap (jx_pc el) lv st μ := by
  obtain ⟨h, hok⟩ := (jx_allGd M (List.mem_of_getElem? hM)).1 el (List.mem_of_getElem? hel)
  exact jx_jump_ok C0 hok hact (fun t2 h2 => by rw [hp] at h2; cases h2) (fun _ => kk)
theorem x_callV {H0 : Heap} (hXK : jx_XK A X) (hStr : jx_StrOK l ad A X) (hup : ∀ a b : Nat, a ≤ b → A a → A b) (C0 : jx_Cx p s m args c M) {j i ci idx N : Nat} {T : u_T} {fs : List (Option Nat)} {as0 : List Value} {M' : jx_M} {v : Option Value} (hj : jx_ms[j]? = some M') (hst : M'.2.2.2.2.1 = false) (hcat : jx_cat (.ref i :: as0) ≤ M'.2.2.1) (hev : jx_ev j 0 0 (lv_args 0 (.ref i :: as0)) [] μ = some (v, μ'))
    (hlk : Cond.methodLink M.1.cls idx M'.1 ∈ jx_tbl) (hn : (parseMethodDescriptor M'.1.desc).map (fun d => d.parameters.length) = some as0.length) (hro : M'.2.2.2.2.2.1 + 1 + 1 ≤ R.frames ∧ 8 + (M'.2.2.1 + 11) + 60 * (M'.2.2.2.2.2.1 + 1) ≤ R.locals) (hc : jx_cl[ci]? = some (M'.1.cls, T, N)) (hs : jx_shape i = some (.inl (ci, fs))) (hdec : decode M.2.1 pc = .ok (.invokevirtual idx, 3)) (hrest : jx_cat st ≤ 8)
    (kk : jx_Go p l e R s m args below meth c Q ad D cs A X M H0 (pc + 3) lv (v.toList ++ st) μ') : jx_Go p l e R s m args below meth c Q ad D cs A X M H0 pc lv (as0.reverse ++ .ref i :: st) μ := by
  obtain ⟨⟨y1, y2⟩, w1, w2, -, w3⟩ := (jx_allGd M' (List.mem_of_getElem? hj)).2
  obtain ⟨w3, w4⟩ := w3 hst
  unfold jx_yOk at y1
  simp only [Bool.and_eq_true, decide_eq_true_eq] at y1
  have hts := C0.2.2.2.2
  intro H locs ls hl hW hS
  have hcw : CallW R s args M.1.cls M'.1.cls idx M'.1 M'.2.1 M'.2.2.1 M'.2.2.2.1 (jx_ws M') (jx_rm (M'.2.2.2.2.2.1 + 0)) 0 0 as0.length := ⟨callB_of as0.length hts (jx_good w1) rfl rfl rfl (hts _ w2) (hts _ hlk) ⟨y1.1, y1.2.1, hn⟩ hro, hts _ w3, hts _ w4⟩
  have hstk : (as0.reverse ++ .ref i :: st).map (jx_cv ad) = (as0.map (jx_cv ad)).reverse ++ .ref (ad i) :: st.map (jx_cv ad) := by simp [jx_cv]
  rw [hstk]
  refine jx_after2 (v := v.map (jx_cv ad)) hXK (va_runV (b := ad i) (As := as0.map (jx_cv ad)) (rest := st.map (jx_cv ad)) C0 (jx_met hXK hStr hup hj hcat hev) hcw ⟨jx_blind hXK _, va_recv hW.2.2.1 hW.1 hc (jx_wd_get hs), fun U hU hw => ⟨rfl, jx_P_end hXK hW hU hw⟩⟩ rfl (by rw [List.length_map]) hl.1 rfl (lv_room (by rw [jx_cat_sum]; exact hrest)) hdec ⟨Nat.zero_le _, Nat.zero_le _⟩) (fun st oc t q => q) hW hS (fun H1 locs1 hW1 hS1 => ?_)
  have := kk H1 locs1 ls hl hW1 hS1
  rw [List.map_append] at this
  cases v with
  | none => exact this
  | some w => exact this
theorem x_callS {H0 : Heap} (hXK : jx_XK A X) (hStr : jx_StrOK l ad A X) (hup : ∀ a b : Nat, a ≤ b → A a → A b) (C0 : jx_Cx p s m args c M) {j idx : Nat} {as : List Value} {M' : jx_M} {v : Option Value} (hj : jx_ms[j]? = some M') (hst : M'.2.2.2.2.1 = true) (hcat : jx_cat as ≤ M'.2.2.1) (hev : jx_ev j 0 0 (lv_args 0 as) [] μ = some (v, μ'))
    (hlk : Cond.methodLink M.1.cls idx M'.1 ∈ jx_tbl) (hn : (parseMethodDescriptor M'.1.desc).map (fun d => d.parameters.length) = some as.length) (hro : M'.2.2.2.2.2.1 + 1 + 1 ≤ R.frames ∧ 8 + (M'.2.2.1 + 11) + 60 * (M'.2.2.2.2.2.1 + 1) ≤ R.locals) (hdec : decode M.2.1 pc = .ok (.invokestatic idx, 3)) (hrest : jx_cat st ≤ 8)
    (kk : jx_Go p l e R s m args below meth c Q ad D cs A X M H0 (pc + 3) lv (v.toList ++ st) μ') : jx_Go p l e R s m args below meth c Q ad D cs A X M H0 pc lv (as.reverse ++ st) μ := by
  obtain ⟨⟨y1, y2⟩, w1, w2, w3, -⟩ := (jx_allGd M' (List.mem_of_getElem? hj)).2
  have w3 := w3 hst
  unfold jx_yOk at y1
  simp only [Bool.and_eq_true, decide_eq_true_eq] at y1
  have hts := C0.2.2.2.2
  intro H locs ls hl hW hS
  have hstk : (as.reverse ++ st).map (jx_cv ad) = (as.map (jx_cv ad)).reverse ++ st.map (jx_cv ad) := by simp
  rw [hstk]
  refine jx_after2 (v := v.map (jx_cv ad)) hXK (va_runS (As := as.map (jx_cv ad)) (rest := st.map (jx_cv ad)) C0 (jx_met hXK hStr hup hj hcat hev) ⟨callB_of as.length hts (jx_good w1) rfl rfl rfl (hts _ w2) (hts _ hlk) ⟨y1.1, y1.2.1, hn⟩ hro, hts _ w3⟩ ⟨jx_blind hXK _, fun U hU hw => ⟨rfl, jx_P_end hXK hW hU hw⟩⟩ rfl (by rw [List.length_map]) hl.1 rfl (lv_room (by rw [jx_cat_sum]; exact hrest)) hdec ⟨Nat.zero_le _, Nat.zero_le _⟩) (fun st oc t q => q) hW hS (fun H1 locs1 hW1 hS1 => ?_)
  have := kk H1 locs1 ls hl hW1 hS1
  rw [List.map_append] at this
  cases v with
  | none => exact this
  | some w => exact this
end XT
