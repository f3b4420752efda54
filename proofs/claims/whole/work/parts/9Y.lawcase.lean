/-! the law: what stands at its entry and at its end (the skeleton's rows) -/
def R_law : String := "FairByEarLaw"
def lw_P (b : Addr) (xs : List Int32) (args : Array Value) (s : State) : Prop := args = #[.ref b] ∧ s.IntsAt b xs ∧ xs.length ≤ 3072 ∧ (Jvm.Cond.and given_1 narrow_1).before args s = true
def lw_Q (_ : Array Value) (s : State) (o : Outcome) (t : State) : Prop := o = .returned (some (.int 1)) ∧ Framed s o t [] 601024 7293034
def lw_Z (below : List Frame) (a : Array Value) (s : State) : State → Prop := fun t => ∃ o, t.status = .running ∧ Ended t below o ∧ lw_Q a s o t
theorem lw_ret {p : Program} {l : Launch} {e : Env} {s : State} {m : MethodId} {below : List Frame} {meth : Method} {c : Code} {b : Nat} (hx : p.tables.exec = Jvm.exec) (hb : c.code = code) (hr : meth.sig.returnType = ret) (hlocks : meth.locks = false) {pc : Nat} {H : Heap} {ls : Array Slot} (hdg : decode code pc = .ok (.ireturn, 1)) : W p l e room_1 s m #[Value.ref b] below meth c H [] 601024 7293034 (lw_Z below #[Value.ref b] s) (F0 m pc ls [.int 1]) := by
  intro T hT X
  obtain ⟨fs, hret, hrun, hended, hW, hframe⟩ := X.leave (v := some (.int 1)) (hlocks := hlocks) (fun h => by rw [hr] at h; cases h)
  have hmeth' : T.vm.method? m = some meth := X.method'
  refine ⟨T.setFrames fs, ?_, .returned (some (.int 1)), hrun, hended, rfl, ⟨_, rfl⟩, hW, hframe⟩
  jvm_step X.here [X.here.top, hx, hb, hdg, hmeth', hr, ret, narrow_b1]
  (try refine ⟨rfl, ?_⟩); (try refine ⟨rfl, ?_⟩)
  first | (intro acts; rw [hret _ acts rfl rfl rfl]) | rw [hret _ _ rfl rfl rfl]
  exact Steps.refl _
def lw_At (p : Program) (s : State) (m : MethodId) (meth : Method) (c : Code) (b L : Nat) (xs : Nat → Int32) : Prop :=
  p.tables.exec = Jvm.exec ∧ c.code = code ∧ meth.sig.returnType = ret ∧ c.maxLocals = 8 ∧ s.vm.findClass R_law = some m.cls ∧ (∀ w ∈ lw_tbl, w.before #[Value.ref b] s = true) ∧ va_X b L xs s s.heap ∧ b < s.heap.size ∧ meth.locks = false ∧ (Jvm.Cond.and given_1 narrow_1).before #[Value.ref b] s = true
/-! the loop's pieces -/
def laV (xs : Nat → Int32) : Nat → Nat → List Value
  | _, 0 => []
  | a, n + 1 => .int (xs a) :: laV xs (a + 1) n
def laOk : Nat → Nat → Nat → Bool
  | _, _, 0 => true
  | pc, j, n + 1 => (decide (decode code pc = .ok (.aload_n 0, 1)) && (decide (decode code (pc + 1) = .ok (.iload 4, 2)) && (decide (decode code (pc + 3) = .ok (.iconst (j : Int), 1)) && (decide (decode code (pc + 4) = .ok (.iadd, 1)) && decide (decode code (pc + 5) = .ok (.iaload, 1)))))) && laOk (pc + 6) (j + 1) n
theorem laV_cv (ad : Nat → Nat) (xs : Nat → Int32) : ∀ n a, (laV xs a n).map (jx_cv ad) = laV xs a n := by
  intro n
  induction n with
  | zero => intro a; rfl
  | succ n ih => intro a; show jx_cv ad (.int (xs a)) :: (laV xs (a + 1) n).map (jx_cv ad) = _; rw [ih]; rfl
theorem laV_len (xs : Nat → Int32) : ∀ n a, (laV xs a n).length = n := by
  intro n
  induction n with
  | zero => intro a; rfl
  | succ n ih => intro a; show (laV xs (a + 1) n).length + 1 = n + 1; rw [ih]
theorem laV_cat (xs : Nat → Int32) : ∀ n a, jx_cat (laV xs a n) = n := by
  intro n
  induction n with
  | zero => intro a; rfl
  | succ n ih => intro a; show 1 + jx_cat (laV xs (a + 1) n) = n + 1; rw [ih]; omega
def lC (p : Program) (s : State) (m : MethodId) (c : Code) (b L : Nat) (xs : Nat → Int32) (A : Nat → Prop) : Prop :=
  p.tables.exec = Jvm.exec ∧ c.code = code ∧ c.maxLocals = 8 ∧ s.vm.findClass "FairByEarLaw" = some m.cls ∧ (∀ w ∈ jx_tbl, w.before #[Value.ref b] s = true) ∧ va_X b L xs s s.heap ∧ b < s.heap.size ∧ L ≤ 3072 ∧ (∀ q, A q ↔ s.heap.size ≤ q)
def lv5 (b : Nat) (ad : Nat → Nat) (k : Nat) : List (Nat × Value) := [(0, .ref b), (1, .ref (ad 0)), (2, .ref (ad 63)), (3, .ref (ad 109)), (4, .int (nI k))]
section LP
variable {p : Program} {l : Launch} {e : Env} {s : State} {m : MethodId} {below : List Frame} {meth : Method} {c : Code} {b L : Nat} {xs : Nat → Int32} {ad adV : Nat → Nat} {D : va_G} {cs : ClassId × ClassId × ClassId} {A : Nat → Prop} {μ μ' μ1 μ2 : jx_Mem} {H : Heap} {ls : Array Slot} {k n cells slots pc : Nat} {st rest : List Value} {Q : State → Prop}
theorem lC_up (C : lC p s m c b L xs A) : ∀ a b : Nat, a ≤ b → A a → A b := fun a b h1 h2 => (C.2.2.2.2.2.2.2.2 b).mpr (Nat.le_trans ((C.2.2.2.2.2.2.2.2 a).mp h2) h1)
theorem la_one (C : lC p s m c b L xs A) (hS : va_S A s.heap H []) (h0 : ls[0]? = some (.val (.ref b))) (h4 : ls[4]? = some (.val (.int (nI k)))) {j : Nat} (hj : k + j < L) (d0 : decode code pc = .ok (.aload_n 0, 1)) (d1 : decode code (pc + 1) = .ok (.iload 4, 2)) (d3 : decode code (pc + 3) = .ok (.iconst (j : Int), 1)) (d4 : decode code (pc + 4) = .ok (.iadd, 1)) (d5 : decode code (pc + 5) = .ok (.iaload, 1))
    (kk : W p l e room_1 s m #[Value.ref b] below meth c H [] cells slots Q (F0 m (pc + 6) ls (.int (xs (k + j)) :: st))) : W p l e room_1 s m #[Value.ref b] below meth c H [] cells slots Q (F0 m pc ls st) := by
  obtain ⟨hx, hb, hml, hown, hts, hXs, hbl, hL, hA⟩ := C
  have hbA : ¬ A b := fun q => absurd ((hA b).mp q) (Nat.not_le.mpr hbl)
  refine lv_aload_n hx hb d0 rfl h0 (lv_iload hx hb d1 h4 (lv_iconst (v := nI j) hx hb d3 rfl (lv_iadd hx hb d4 ?_)))
  rw [nI_add]
  have h9 : (nI (k + j)).toNatClampNeg = k + j := nI_clamp (by omega)
  refine va_sld hx hb hXs hbl hbA hS (jx_in_vp (jx_in_t (by rw [nI_toInt (by omega)]; omega) (by rw [nI_toInt (by omega)]; omega))) d5 ?_
  rw [h9]
  exact kk
theorem la_args (C : lC p s m c b L xs A) (hS : va_S A s.heap H []) (h0 : ls[0]? = some (.val (.ref b))) (h4 : ls[4]? = some (.val (.int (nI k)))) : ∀ (n j pc : Nat) (st : List Value), laOk pc j n = true → k + j + n ≤ L →
    W p l e room_1 s m #[Value.ref b] below meth c H [] cells slots Q (F0 m (pc + 6 * n) ls ((laV xs (k + j) n).reverse ++ st)) → W p l e room_1 s m #[Value.ref b] below meth c H [] cells slots Q (F0 m pc ls st) := by
  intro n
  induction n with
  | zero => intro j pc st _ _ kk; exact kk
  | succ n ih =>
    intro j pc st hok hle kk
    simp only [laOk, Bool.and_eq_true, decide_eq_true_eq] at hok
    obtain ⟨⟨d0, d1, d3, d4, d5⟩, hok⟩ := hok
    refine la_one C hS h0 h4 (by omega) d0 d1 d3 d4 d5 (ih (j + 1) (pc + 6) _ hok (by omega) ?_)
    have e1 : (laV xs (k + j) (n + 1)).reverse ++ st = (laV xs (k + (j + 1)) n).reverse ++ (.int (xs (k + j)) :: st) := by
      show (Value.int (xs (k + j)) :: laV xs (k + j + 1) n).reverse ++ st = _
      rw [List.reverse_cons, List.append_assoc]
      rfl
    rw [← e1, show pc + 6 + 6 * n = pc + 6 * (n + 1) by omega]
    exact kk
theorem l_callV (C : lC p s m c b L xs A) {j i ci idx N : Nat} {T : u_T} {fs : List (Option Nat)} {as0 : List Value} {M : jx_M} {v : Option Value} (hj : jx_ms[j]? = some M) (hst : M.2.2.2.2.1 = false) (hcat : jx_cat (.ref i :: as0) ≤ M.2.2.1) (hev : jx_ev j 0 0 (lv_args 0 (.ref i :: as0)) [] μ = some (v, μ'))
    (hlk : Cond.methodLink "FairByEarLaw" idx M.1 ∈ jx_tbl) (hn : (parseMethodDescriptor M.1.desc).map (fun d => d.parameters.length) = some as0.length) (hro : rmOk j = true) (hc : jx_cl[ci]? = some (M.1.cls, T, N)) (hs : jx_shape i = some (.inl (ci, fs))) (hdec : decode code pc = .ok (.invokevirtual idx, 3)) (hsize : ls.size = 8) (hrest : (rest.map fun v => v.category).sum ≤ 8) (hf : cells ≤ room_1.cells ∧ slots ≤ room_1.slots)
    (hW : jx_P ad D cs A (jx_X2 ad adV A) μ H s) (hS : va_S A s.heap H [])
    (kk : ∀ H1 : Heap, jx_P ad D cs A (jx_X2 ad adV A) μ' H1 s → va_S A s.heap H1 [] → W p l e room_1 s m #[Value.ref b] below meth c H1 [] cells slots Q (F0 m (pc + 3) ls ((v.map (jx_cv ad)).toList ++ rest))) : W p l e room_1 s m #[Value.ref b] below meth c H [] cells slots Q (F0 m pc ls ((as0.map (jx_cv ad)).reverse ++ .ref (ad i) :: rest)) := by
  have hXK := jx_X2_XK ad adV A
  have hup := lC_up C
  obtain ⟨hx, hb, hml, hown, hts, hXs, hbl, hL, hA⟩ := C
  have hr : M.2.2.2.2.2.1 + 1 + 1 ≤ room_1.frames ∧ 8 + (M.2.2.1 + 11) + 60 * (M.2.2.2.2.2.1 + 1) ≤ room_1.locals := by
    unfold rmOk at hro
    rw [hj] at hro
    simp only [Bool.and_eq_true] at hro
    exact ⟨Nat.le_of_ble_eq_true hro.1, Nat.le_of_ble_eq_true hro.2⟩
  exact lw_callV (fun q h => (hA q).mp h) hXK (jx_str_ok2 l ad adV A) hup hj hcat hev ⟨hx, hb, hml, hown, hts⟩ (w_callW hts hj hst hlk hn rfl rfl hr) ⟨jx_blind hXK _, va_recv hW.2.2.1 hW.1 hc (jx_wd_get hs), fun U hU hw => ⟨rfl, jx_P_end hXK hW hU hw⟩⟩ hsize (lv_room hrest) hdec hf hW
    (fun H1 hP h1 h2 => kk H1 hP ⟨Nat.le_trans hS.1 h1, fun q q1 q2 => (h2 q (Nat.lt_of_lt_of_le q1 hS.1) q2).trans (hS.2.1 q q1 q2), fun q hq => by cases hq⟩)
/-- what is checked of a plain case -/
def lcOk (pc n idx1 h1 idx2 h2 j1 j2 : Nat) : Bool :=
  (decide (decode code pc = .ok (.aload_n 1, 1)) && (laOk (pc + 1) 1 n && (decide (decode code (pc + 1 + 6 * n) = .ok (.invokevirtual idx1, 3)) && (decide (decode code (pc + 1 + 6 * n + 3) = .ok (.aload_n 2, 1)) && (laOk (pc + 1 + 6 * n + 3 + 1) 1 n && (decide (decode code (pc + 1 + 6 * n + 3 + 1 + 6 * n) = .ok (.invokevirtual idx2, 3)) && decide (decode code (pc + 1 + 6 * n + 3 + 1 + 6 * n + 3) = .ok (.if_icmp .eq (2035 - ((pc + 1 + 6 * n + 3 + 1 + 6 * n + 3 : Nat) : Int)), 3)))))))) &&
  (Nat.ble n 5 && (rmOk j1 && (rmOk j2 && (match jx_ms[j1]?, jx_ms[j2]? with
    | some M1, some M2 => (jx_at h1 (Cond.methodLink "FairByEarLaw" idx1 M1.1) && (jx_at h2 (Cond.methodLink "FairByEarLaw" idx2 M2.1) && (decide (M1.1.cls = "FairByEar") && (decide (M2.1.cls = "FairByEarModel") && (decide (M1.2.2.2.2.1 = false) && (decide (M2.2.2.2.2.1 = false) && (Nat.ble (1 + n) M1.2.2.1 && (Nat.ble (1 + n) M2.2.2.1 && (decide ((parseMethodDescriptor M1.1.desc).map (fun d => d.parameters.length) = some n) && decide ((parseMethodDescriptor M2.1.desc).map (fun d => d.parameters.length) = some n))))))))))
    | _, _ => false))))
theorem l_case (C : lC p s m c b L xs A) {idx1 h1 idx2 h2 j1 j2 : Nat} {v : Int32} (hok : lcOk pc n idx1 h1 idx2 h2 j1 j2 = true) (hk : k + 6 ≤ L) (hl : lv_has ls 8 (lv5 b ad k)) (hf : cells ≤ room_1.cells ∧ slots ≤ room_1.slots)
    (hev1 : jx_ev j1 0 0 (lv_args 0 (.ref 0 :: laV xs (k + 1) n)) [] μ = some (some (.int v), μ1)) (hev2 : jx_ev j2 0 0 (lv_args 0 (.ref 63 :: laV xs (k + 1) n)) [] μ1 = some (some (.int v), μ2))
    (hW : jx_P ad D cs A (jx_X2 ad adV A) μ H s) (hS : va_S A s.heap H [])
    (kk : ∀ H1 : Heap, jx_P ad D cs A (jx_X2 ad adV A) μ2 H1 s → va_S A s.heap H1 [] → W p l e room_1 s m #[Value.ref b] below meth c H1 [] cells slots Q (F0 m 2035 ls [])) : W p l e room_1 s m #[Value.ref b] below meth c H [] cells slots Q (F0 m pc ls []) := by
  unfold lcOk at hok
  rw [Bool.and_eq_true] at hok
  obtain ⟨hd, hok⟩ := hok
  simp only [Bool.and_eq_true, decide_eq_true_eq] at hd
  obtain ⟨d0, a1, d1, d2, a2, d3, d4⟩ := hd
  rw [Bool.and_eq_true, Bool.and_eq_true, Bool.and_eq_true] at hok
  obtain ⟨hn, hr1, hr2, hok⟩ := hok
  have hn := Nat.le_of_ble_eq_true hn
  cases hM1 : jx_ms[j1]? with
  | none => rw [hM1] at hok; cases hok
  | some M1 =>
  cases hM2 : jx_ms[j2]? with
  | none => rw [hM1, hM2] at hok; cases hok
  | some M2 =>
  rw [hM1, hM2] at hok
  simp only [Bool.and_eq_true, decide_eq_true_eq] at hok
  obtain ⟨w1, w2, c1, c2, s1, s2, m1, m2, p1, p2⟩ := hok
  have m1 := Nat.le_of_ble_eq_true m1
  have m2 := Nat.le_of_ble_eq_true m2
  have hx := C.1
  have hb := C.2.1
  have h0 := lv_at hl 0 rfl
  have h4 := lv_at hl 4 rfl
  refine lv_aload_n hx hb d0 rfl (lv_at hl 1 rfl) ?_
  refine la_args C hS h0 h4 n 1 (pc + 1) _ a1 (by omega) ?_
  have q1 := l_callV (p := p) (l := l) (e := e) (below := below) (meth := meth) (Q := Q) (ls := ls) (rest := []) (cells := cells) (slots := slots) (H := H) (pc := pc + 1 + 6 * n) C (i := 0) (ci := 11) (idx := idx1) (T := jx_T11) (N := 11) (as0 := laV xs (k + 1) n) hM1 s1 (by show 1 + jx_cat (laV xs (k + 1) n) ≤ _; rw [laV_cat]; exact m1) hev1 (jx_at_mem w1) (by rw [laV_len]; exact p1) hr1 (by rw [c1]; rfl) rfl d1 hl.1 (by decide) hf hW hS (fun H1 hW1 hS1 => ?_)
  · rw [laV_cv] at q1
    exact q1
  refine lv_aload_n hx hb d2 rfl (lv_at hl 2 rfl) ?_
  refine la_args C hS1 h0 h4 n 1 (pc + 1 + 6 * n + 3 + 1) _ a2 (by omega) ?_
  have q2 := l_callV (p := p) (l := l) (e := e) (below := below) (meth := meth) (Q := Q) (ls := ls) (rest := [.int v]) (cells := cells) (slots := slots) (H := H1) (pc := pc + 1 + 6 * n + 3 + 1 + 6 * n) C (i := 63) (ci := 12) (idx := idx2) (T := jx_T12) (N := 68) (as0 := laV xs (k + 1) n) hM2 s2 (by show 1 + jx_cat (laV xs (k + 1) n) ≤ _; rw [laV_cat]; exact m2) hev2 (jx_at_mem w2) (by rw [laV_len]; exact p2) hr2 (by rw [c2]; rfl) rfl d3 hl.1 (Nat.le_of_ble_eq_true rfl) hf hW1 hS1 (fun H2 hW2 hS2 => ?_)
  · rw [laV_cv] at q2
    exact q2
  exact lv_icmp_eq hx hb d4 (tgt := 2035) (by omega) (fun _ => kk H2 hW2 hS2) (fun q => absurd rfl q)
end LP
