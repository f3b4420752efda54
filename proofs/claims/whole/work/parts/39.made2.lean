/-! the constructors: jumps, ends, calls; the whole -/
section JCS
variable {p : Program} {l : Launch} {e : Env} {R : Room} {s : State} {m : MethodId} {args : Array Value} {below : List Frame} {meth : Method} {c : Code} {Q : State → Prop} {ad : Nat → Nat} {D : va_G} {cs : ClassId × ClassId × ClassId} {A : Nat → Prop} {X : Heap → State → Prop} {base : Nat} {M : jc_M} {H0 : Heap} {el : jx_El} {h : Nat} {lv lv' : jx_Lv} {st st' : List Value} {hs hs' : List jc_C} {k sl dc ds : Nat}
theorem jc_jump_ok (C0 : jc_Cx p s m args c M) (hok : jc_ok M el h = true) {t : Option Nat} (hact : jc_act el lv st hs = some (.inr (.inl (t, lv', st'))))
    (kt : ∀ t1, t = some t1 → jc_Go p l e R s m args below meth c Q ad D cs A X base M H0 t1 lv' st' hs k sl) (kf : t = none → jc_Go p l e R s m args below meth c Q ad D cs A X base M H0 (jx_pc el + jx_len el) lv' st' hs k sl) : jc_Go p l e R s m args below meth c Q ad D cs A X base M H0 (jx_pc el) lv st hs k sl := by
  obtain ⟨hx, hb, hml, hown, hts⟩ := C0
  intro H locs ls hl hW hS
  unfold jc_ok at hok
  rw [Bool.and_eq_true] at hok
  obtain ⟨hdec, hok⟩ := hok
  have hdec := of_decide_eq_true hdec
  unfold jc_okx at hok
  unfold jc_act at hact
  cases hins : jx_ins el with
  | if_icmp cd off =>
    rw [hins] at hact hok hdec
    cases cd with
    | ge =>
      dsimp only at hact hok
      split at hact
      next t0 y x r hi =>
        simp only [Option.some.injEq, Sum.inr.injEq, Sum.inl.injEq, Prod.mk.injEq] at hact
        obtain ⟨ht, rfl, rfl⟩ := hact
        obtain ⟨hlen, htg⟩ := jx_tgt_inv hok hi
        rw [hlen] at hdec kf
        exact lv_icmp_ge hx hb hdec htg (fun hc => kt t0 (by rw [← ht, if_pos hc]) H locs ls hl hW hS) (fun hc => kf (by rw [← ht, if_neg hc]) H locs ls hl hW hS)
      next => cases hact
    | _ => dsimp only at hact; cases hact
  | goto off =>
    rw [hins] at hact hok hdec
    dsimp only at hact hok
    split at hact
    next t0 hi =>
      simp only [Option.some.injEq, Sum.inr.injEq, Sum.inl.injEq, Prod.mk.injEq] at hact
      obtain ⟨ht, rfl, rfl⟩ := hact
      obtain ⟨hlen, htg⟩ := jx_tgt_inv hok hi
      rw [hlen] at hdec
      exact lv_goto hx hb hdec htg (kt t0 ht.symm H locs ls hl hW hS)
    next => cases hact
  | _ =>
    exfalso
    rw [hins] at hact
    (try dsimp only at hact)
    repeat' (split at hact)
    all_goals (first | (cases hact; done))
theorem jc_ret_ok (hXK : jx_XK A X) (C0 : jc_Cx p s m args c M) (hr : meth.sig.returnType = none) (hlocks : meth.locks = false) (hok : jc_ok M el h = true) (hact : jc_act el lv st hs = some (.inr (.inr (.inl ())))) (hk : k ≤ M.2.2.2.1.1) (hsl : sl ≤ M.2.2.2.1.2) :
    jc_Go p l e R s m args below meth c (MQ below (jc_Q ad D cs A X base hs) args s M.2.2.2.1.1 M.2.2.2.1.2 A) ad D cs A X base M s.heap (jx_pc el) lv st hs k sl := by
  obtain ⟨hx, hb, hml, hown, hts⟩ := C0
  intro H locs ls hl hW hS
  unfold jc_ok at hok
  rw [Bool.and_eq_true] at hok
  obtain ⟨hdec, hok⟩ := hok
  have hdec := of_decide_eq_true hdec
  unfold jc_okx at hok
  unfold jc_act at hact
  cases hins : jx_ins el with
  | return_ =>
    rw [hins] at hact hok hdec
    dsimp only at hact hok
    split at hact
    next =>
      have hlen : jx_len el = 1 := Nat.eq_of_beq_eq_true hok
      rw [hlen] at hdec
      refine W.widen hk hsl ?_
      exact W.vret hx hb hr (fun t ht hw => ⟨rfl, by rw [ht]; exact ⟨hW.1, hW.2.1, va_K.moved hw.alike hW.2.2.1, jx_nest_warm hw hW.2.2.2.1, hXK.1 H s t hw hW.2.2.2.2⟩, hS.F ht⟩) hS.2.2 hdec hlocks
    next => cases hact
  | if_icmp cd off =>
    exfalso
    rw [hins] at hact
    cases cd
    all_goals (try dsimp only at hact)
    all_goals (repeat' (split at hact))
    all_goals (first | (cases hact; done))
  | _ =>
    exfalso
    rw [hins] at hact
    (try dsimp only at hact)
    repeat' (split at hact)
    all_goals (first | (cases hact; done))
theorem jc_after {Qc : Array Value → State → Outcome → State → Prop} {a : Array Value} {H : Heap} {locs : List Loc} {pc : Nat} {ls : Array Slot} {st0 rest : List Value} {mc ms : Nat} (hXK : jx_XK A X) (hr : va_Run p l e R s m args below meth c H locs k sl mc ms (F0 m pc ls st0) rest (Qc a) A) (hQ : ∀ st oc t, Qc a st oc t → oc = .returned none ∧ jc_P ad D cs A X base hs' t.heap t ∧ va_F A st t) (hW : jc_P ad D cs A X base hs H s) (hS : va_S A H0 H locs)
    (kk : ∀ (H1 : Heap) (locs1 : List Loc), jc_P ad D cs A X base hs' H1 s → va_S A H0 H1 locs1 → W p l e R s m args below meth c H1 locs1 (k + mc) (sl + ms) Q (F0 m (pc + 3) ls rest)) : W p l e R s m args below meth c H locs k sl Q (F0 m pc ls st0) := by
  intro T hT XT
  obtain ⟨v', st₀, t, T', L, h0, X', hL, e1, e2, hq, st⟩ := hr T hT XT
  obtain ⟨hv, hP, hz, hk⟩ := hQ _ _ _ hq
  cases hv
  rw [h0] at hz hk
  have hX1 : X T'.heap s := hXK.2.2 H T'.heap s (fun q h1 h2 => by rw [e1]; exact hk q h1 h2) hW.2.2.2.2
  obtain ⟨t2, a1, b1⟩ := kk T'.heap (locs ++ L) ⟨by rw [e1]; exact hP.1, hP.2.1, hW.2.2.1, hW.2.2.2.1, hX1⟩
    ⟨Nat.le_trans hS.1 (by rw [e1]; exact hz), fun q h1 h2 => by rw [e1, hk q (Nat.lt_of_lt_of_le h1 hS.1) h2]; exact hS.2.1 q h1 h2, fun q hq => by
      rcases List.mem_append.mp hq with h | h
      · exact hS.2.2 q h
      · exact hL q h⟩ T' rfl X'
  exact ⟨t2, st t2 a1, b1⟩
end JCS
def jc_gd (M : jc_M) : Prop := (∀ el ∈ M.2.2.2.2.2.2, ∃ h, jc_ok M el h = true) ∧ jc_mOk M = true
theorem jc_g0 : jc_gd jc_M0 := ⟨jc_okL_all jc_C0 _ jc_k0, List.all_eq_true.mp jc_mo jc_M0 (List.mem_of_getElem? (i := 0) rfl)⟩
theorem jc_g1 : jc_gd jc_M1 := ⟨jc_okL_all jc_C1 _ jc_k1, List.all_eq_true.mp jc_mo jc_M1 (List.mem_of_getElem? (i := 1) rfl)⟩
theorem jc_g2 : jc_gd jc_M2 := ⟨jc_okL_all jc_C2 _ jc_k2, List.all_eq_true.mp jc_mo jc_M2 (List.mem_of_getElem? (i := 2) rfl)⟩
theorem jc_g3 : jc_gd jc_M3 := ⟨jc_okL_all jc_C3 _ jc_k3, List.all_eq_true.mp jc_mo jc_M3 (List.mem_of_getElem? (i := 3) rfl)⟩
theorem jc_g4 : jc_gd jc_M4 := ⟨jc_okL_all jc_C4 _ jc_k4, List.all_eq_true.mp jc_mo jc_M4 (List.mem_of_getElem? (i := 4) rfl)⟩
theorem jc_g5 : jc_gd jc_M5 := ⟨jc_okL_all jc_C5 _ jc_k5, List.all_eq_true.mp jc_mo jc_M5 (List.mem_of_getElem? (i := 5) rfl)⟩
theorem jc_g6 : jc_gd jc_M6 := ⟨jc_okL_all jc_C6 _ jc_k6, List.all_eq_true.mp jc_mo jc_M6 (List.mem_of_getElem? (i := 6) rfl)⟩
theorem jc_g7 : jc_gd jc_M7 := ⟨jc_okL_all jc_C7 _ jc_k7, List.all_eq_true.mp jc_mo jc_M7 (List.mem_of_getElem? (i := 7) rfl)⟩
theorem jc_g8 : jc_gd jc_M8 := ⟨jc_okL_all jc_C8 _ jc_k8, List.all_eq_true.mp jc_mo jc_M8 (List.mem_of_getElem? (i := 8) rfl)⟩
theorem jc_g9 : jc_gd jc_M9 := ⟨jc_okL_all jc_C9 _ jc_k9, List.all_eq_true.mp jc_mo jc_M9 (List.mem_of_getElem? (i := 9) rfl)⟩
theorem jc_g10 : jc_gd jc_M10 := ⟨jc_okL_all jc_C10 _ jc_k10, List.all_eq_true.mp jc_mo jc_M10 (List.mem_of_getElem? (i := 10) rfl)⟩
theorem jc_g11 : jc_gd jc_M11 := ⟨jc_okL_all jc_C11 _ jc_k11, List.all_eq_true.mp jc_mo jc_M11 (List.mem_of_getElem? (i := 11) rfl)⟩
theorem jc_g12 : jc_gd jc_M12 := ⟨jc_okL_all jc_C12 _ jc_k12, List.all_eq_true.mp jc_mo jc_M12 (List.mem_of_getElem? (i := 12) rfl)⟩
theorem jc_g13 : jc_gd jc_M13 := ⟨jc_okL_all jc_C13 _ jc_k13, List.all_eq_true.mp jc_mo jc_M13 (List.mem_of_getElem? (i := 13) rfl)⟩
theorem jc_allGd : ∀ M ∈ jc_ms, jc_gd M := List.forall_mem_cons.mpr ⟨jc_g0, List.forall_mem_cons.mpr ⟨jc_g1, List.forall_mem_cons.mpr ⟨jc_g2, List.forall_mem_cons.mpr ⟨jc_g3, List.forall_mem_cons.mpr ⟨jc_g4, List.forall_mem_cons.mpr ⟨jc_g5, List.forall_mem_cons.mpr ⟨jc_g6, List.forall_mem_cons.mpr ⟨jc_g7, List.forall_mem_cons.mpr ⟨jc_g8, List.forall_mem_cons.mpr ⟨jc_g9, List.forall_mem_cons.mpr ⟨jc_g10, List.forall_mem_cons.mpr ⟨jc_g11, List.forall_mem_cons.mpr ⟨jc_g12, List.forall_mem_cons.mpr ⟨jc_g13, fun _ h => absurd h List.not_mem_nil⟩⟩⟩⟩⟩⟩⟩⟩⟩⟩⟩⟩⟩⟩
theorem jc_noPut : ∀ M ∈ jc_ms, M.2.2.2.2.2.1 = true → ∀ el ∈ M.2.2.2.2.2.2, ∀ i, jx_ins el ≠ .putfield i := by
  have key : jc_ms.all (fun M => !M.2.2.2.2.2.1 || M.2.2.2.2.2.2.all (fun el => match jx_ins el with | .putfield _ => false | _ => true)) = true := by decide +kernel
  intro M hM hst el hel i hi
  have h1 := List.all_eq_true.mp key M hM
  rw [hst] at h1
  have h2 := List.all_eq_true.mp h1 el hel
  rw [hi] at h2
  cases h2
section JCM
variable {l : Launch} {ad : Nat → Nat} {D : va_G} {cs : ClassId × ClassId × ClassId} {A : Nat → Prop} {X : Heap → State → Prop} {base : Nat}
theorem jc_met_of {j : Nat} {as : List Value} {hs hs' : List jc_C} {M : jc_M} (hbase : ∀ q, base ≤ q → A q) (hM : jc_ms[j]? = some M) (hcat : jx_cat as ≤ M.2.2.1)
    (ih : ∀ (p : Program) (e : Env) (s : State) (m : MethodId) (args : Array Value) (below : List Frame) (meth : Method) (c : Code), jc_Cx p s m args c M → meth.sig.returnType = none → meth.locks = false → (M.2.2.2.2.2.1 = false → M.1.name = "<init>" → meth.name = "<init>") → (∀ q, s.heap.size ≤ q → A q) → base + hs.length = s.heap.size + 0 → jc_Go p l e (jc_rm M) s m args below meth c (MQ below (jc_Q ad D cs A X base hs') args s M.2.2.2.1.1 M.2.2.2.1.2 A) ad D cs A X base M s.heap 0 (lv_args 0 as) [] hs 0 0) :
    Met l M.1 (jc_ws M) (jc_rm M) (va_Pc (as.map (jx_cv ad)) (fun U => jc_P ad D cs A X base hs U.heap U ∧ U.heap.size = base + hs.length)) (jc_Q ad D cs A X base hs') M.2.2.2.1.1 M.2.2.2.1.2 A := by
  have hy := (jc_allGd M (List.mem_of_getElem? hM)).2
  unfold jc_mOk jx_yOk at hy
  simp only [Bool.and_eq_true] at hy
  refine Met.ofW (cc := M.2.1) (maxL := M.2.2.1) (ret := none) hy.1.1.2.2 rfl ?_
  intro p e s m args below meth c s₁ B hml hv
  obtain ⟨rfl, hW, hsz⟩ := hv
  have hts := atoms_spec (ws := jc_ws M) B.pre
  have hown : s.vm.findClass M.1.cls = some m.cls := findClass_of_methodNamed B.named
  have hl := lv_entry (as.map (jx_cv ad)) (n := M.2.2.1) (by rw [jx_cat_sl]; exact hcat)
  rw [jx_mapArgs] at hl
  rw [lg_entry_eq]
  exact ih p e s m _ below meth c ⟨B.exec, B.bytes, hml, hown, fun w hw => hts w (List.mem_cons_of_mem _ hw)⟩ B.returns B.notSynchronized (fun _ hn => ((name_of_methodNamed B.named B.method).1).trans hn) (fun q hq => hbase q (by omega)) (by omega) s.heap [] _ hl hW va_S.rf
end JCM
