/-! the end of a method, and calls -/
def jx_ws (M : jx_M) : List Cond := .code M.1 M.2.1 M.2.2.1 M.2.2.2.1 :: jx_tbl
def jx_rm (r : Nat) : Room := { frames := r + 1, cells := 0, slots := 0, locals := 60 * (r + 1) }
def jx_Q (ad : Nat → Nat) (D : va_G) (cs : ClassId × ClassId × ClassId) (A : Nat → Prop) (X : Heap → State → Prop) (v : Option Value) (μ : jx_Mem) : Array Value → State → Outcome → State → Prop := fun _ st oc t => oc = .returned (v.map (jx_cv ad)) ∧ jx_P ad D cs A X μ t.heap t ∧ va_F A st t
theorem jx_nest_warm {s U : State} (hW : s.WarmedH U.vm) (h : ∀ w ∈ jx_nest, va_Nw w s) : ∀ w ∈ jx_nest, va_Nw w U := by
  intro w hw
  have h1 := h w hw
  have h2 := (List.mem_filter.mp hw).2
  cases w <;> first | (cases h2; done) | exact va_Nw.warmM hW h1
theorem jx_nest_same {s U : State} (hv : s.vm = U.vm) (h : ∀ w ∈ jx_nest, va_Nw w s) : ∀ w ∈ jx_nest, va_Nw w U := by
  intro w hw
  have h1 := h w hw
  have h2 := (List.mem_filter.mp hw).2
  cases w <;> first | (cases h2; done) | exact va_Nw.same rfl hv h1
section JXC
variable {p : Program} {l : Launch} {e : Env} {R : Room} {s : State} {m : MethodId} {args : Array Value} {below : List Frame} {meth : Method} {c : Code} {Q : State → Prop} {ad : Nat → Nat} {D : va_G} {cs : ClassId × ClassId × ClassId} {A : Nat → Prop} {X : Heap → State → Prop} {M : jx_M} {H0 : Heap} {el : jx_El} {h : Nat} {lv lv' : jx_Lv} {st st' : List Value} {μ μ' : jx_Mem}
theorem jx_P_end (hXK : jx_XK A X) {H : Heap} (hW : jx_P ad D cs A X μ H s) {t : State} (ht : t.heap = H) (hw : s.WarmedH t.vm) : jx_P ad D cs A X μ t.heap t := by
  rw [ht]
  exact ⟨hW.1, hW.2.1, va_K.moved hw.alike hW.2.2.1, jx_nest_warm hw hW.2.2.2.1, hXK.1 H s t hw hW.2.2.2.2⟩
theorem jx_ret_ok (hXK : jx_XK A X) (C0 : jx_Cx p s m args c M) (hr : meth.sig.returnType = M.2.2.2.1) (hlocks : meth.locks = false) (hok : jx_ok M el h = true) {v : Option Value} (hact : jx_act el lv st μ = some (.inr (.inr (.inl (true, v))))) :
    jx_Go p l e R s m args below meth c (MQ below (jx_Q ad D cs A X v μ) args s 0 0 A) ad D cs A X M s.heap (jx_pc el) lv st μ := by
  obtain ⟨hx, hb, hml, hown, hts⟩ := C0
  intro H locs ls hl hW hS
  have hact0 := hact
  have hq : ∀ t : State, t.heap = H → s.WarmedH t.vm → jx_Q ad D cs A X v μ args s (.returned (v.map (jx_cv ad))) t := fun t ht hw => ⟨rfl, jx_P_end hXK hW ht hw, hS.F ht⟩
  have hraw : jx_raw el = false := by
    cases hr : jx_raw el with
    | false => rfl
    | true =>
      unfold jx_raw at hr
      unfold jx_act at hact
      cases hins : jx_ins el <;> rw [hins] at hr hact <;> first | (cases hr; done) | (cases hact; done)
  obtain ⟨hdec, hok⟩ := jx_ok_dec hok hraw
  unfold jx_act at hact
  unfold jx_okx at hok
  cases hins : jx_ins el with
  | ireturn =>
    rw [hins] at hact hok hdec
    dsimp only at hact hok
    split at hact
    next x =>
      simp only [Option.some.injEq, Sum.inr.injEq, Sum.inl.injEq, Prod.mk.injEq] at hact
      obtain ⟨hg, rfl⟩ := hact
      split at hok
      next hi =>
        simp only [Bool.and_eq_true, decide_eq_true_eq] at hok
        have hlen : jx_len el = 1 := Nat.eq_of_beq_eq_true hok.2
        rw [hlen] at hdec
        rw [hi] at hg
        exact W.zret hx hb (hr.trans hok.1) (jx_01_nar hg).1 hq hS.2.2 hdec hlocks
      next =>
        simp only [Bool.and_eq_true, decide_eq_true_eq] at hok
        have hlen : jx_len el = 1 := Nat.eq_of_beq_eq_true hok.2
        rw [hlen] at hdec
        exact W.iret hx hb (hr.trans hok.1) hq hS.2.2 hdec hlocks
    next => cases hact
  | lreturn =>
    rw [hins] at hact hok hdec
    dsimp only at hact hok
    split at hact
    next x =>
      simp only [Option.some.injEq, Sum.inr.injEq, Sum.inl.injEq, Prod.mk.injEq] at hact
      obtain ⟨-, rfl⟩ := hact
      simp only [Bool.and_eq_true, decide_eq_true_eq] at hok
      have hlen : jx_len el = 1 := Nat.eq_of_beq_eq_true hok.2
      rw [hlen] at hdec
      exact W.lret hx hb (hr.trans hok.1) hq hS.2.2 hdec hlocks
    next => cases hact
  | return_ =>
    rw [hins] at hact hok hdec
    dsimp only at hact hok
    split at hact
    next =>
      simp only [Option.some.injEq, Sum.inr.injEq, Sum.inl.injEq, Prod.mk.injEq] at hact
      obtain ⟨-, rfl⟩ := hact
      simp only [Bool.and_eq_true, decide_eq_true_eq] at hok
      have hlen : jx_len el = 1 := Nat.eq_of_beq_eq_true hok.2
      rw [hlen] at hdec
      exact W.vret hx hb (hr.trans hok.1) hq hS.2.2 hdec hlocks
    next => cases hact
  | ifCond cd off =>
    exfalso
    rw [hins] at hact
    cases cd <;> dsimp only at hact <;> unfold jx_if1 at hact <;> (split at hact <;> (first | (cases hact; done) | (split at hact <;> cases hact)))
  | if_icmp cd off =>
    exfalso
    rw [hins] at hact
    cases cd <;> dsimp only at hact <;> unfold jx_if2 at hact <;> (split at hact <;> (first | (cases hact; done) | (split at hact <;> cases hact)))
  | goto off => exfalso; rw [hins] at hact; dsimp only at hact; unfold jx_goto at hact; split at hact <;> cases hact
  | lookupswitch a b => exfalso; rw [hins] at hact; dsimp only at hact; unfold jx_switch at hact; (split at hact <;> (first | (cases hact; done) | (split at hact <;> cases hact)))
  | tableswitch a b c d => exfalso; rw [hins] at hact; dsimp only at hact; unfold jx_switch at hact; (split at hact <;> (first | (cases hact; done) | (split at hact <;> cases hact)))
  | invokevirtual i => exfalso; rw [hins] at hact; dsimp only at hact; obtain ⟨z, hz⟩ := jx_callV_inr hact; cases hz
  | invokestatic i => exfalso; rw [hins] at hact; dsimp only at hact; obtain ⟨z, hz⟩ := jx_callS_inr hact; cases hz
  | _ => exfalso; have hz := jx_act_inr hact0; rw [hins] at hz; cases hz
/-- behind a call -/
theorem jx_after {Qc : Array Value → State → Outcome → State → Prop} {a : Array Value} {v : Option Value} {H : Heap} {locs : List Loc} {pc : Nat} {ls : Array Slot} {st0 rest : List Value} (hXK : jx_XK A X) (hr : va_Run p l e R s m args below meth c H locs 0 0 0 0 (F0 m pc ls st0) rest (Qc a) A) (hQ : ∀ st oc t, Qc a st oc t → oc = .returned v ∧ jx_P ad D cs A X μ' t.heap t ∧ va_F A st t) (hW : jx_P ad D cs A X μ H s) (hS : va_S A H0 H locs)
    (kk : ∀ (H1 : Heap) (locs1 : List Loc), jx_P ad D cs A X μ' H1 s → va_S A H0 H1 locs1 → W p l e R s m args below meth c H1 locs1 0 0 Q (F0 m (pc + 3) ls (v.toList ++ rest))) : W p l e R s m args below meth c H locs 0 0 Q (F0 m pc ls st0) := by
  intro T hT XT
  obtain ⟨v', st₀, t, T', L, h0, X', hL, e1, e2, hq, st⟩ := hr T hT XT
  obtain ⟨hv, hP, hz, hk⟩ := hQ _ _ _ hq
  cases hv
  rw [h0] at hz hk
  have hX1 : X T'.heap s := hXK.2.2 H T'.heap s (fun q h1 h2 => by rw [e1]; exact hk q h1 h2) hW.2.2.2.2
  obtain ⟨t2, a1, b1⟩ := kk T'.heap (locs ++ L) ⟨by rw [e1]; exact hP.1, hP.2.1, hW.2.2.1, hW.2.2.2.1, hX1⟩
    ⟨Nat.le_trans hS.1 (by rw [e1]; exact hz), fun q h1 h2 => by rw [e1, hk q (Nat.lt_of_lt_of_le h1 hS.1) h2]; exact hS.2.1 q h1 h2, fun q hq => by
      rcases List.mem_append.mp hq with h | h
      · exact hS.2.2 q h
      · exact hL q h⟩ T' rfl X'
  exact ⟨t2, st t2 a1, b1⟩
theorem jx_blind (hXK : jx_XK A X) (av : List Value) : FrameBlind (va_Pc av (fun U => jx_P ad D cs A X μ U.heap U)) := by
  intro a U g mk q
  obtain ⟨q0, h1, h2, h3, h4, h5⟩ := q
  exact ⟨q0, h1, h2, va_K.moved (u := U) (U := U.calling g mk a) (Vm.Alike.refl U.vm) h3, jx_nest_same (s := U) (U := U.calling g mk a) rfl h4, hXK.2.1 U.heap U (U.calling g mk a) rfl h5⟩
theorem jx_good {M' : jx_M} (hc : Cond.code M'.1 M'.2.1 M'.2.2.1 M'.2.2.2.1 ∈ jx_tbl) : GoodIn jx_tbl (jx_ws M') := by
  intro w hw
  rcases List.mem_cons.mp hw with rfl | hw
  · exact ⟨hc, good_of_word (List.mem_filter.mp hc).2⟩
  · exact ⟨hw, good_of_word (List.mem_filter.mp hw).2⟩
def jx_mWords (M : jx_M) : Prop := (jx_yOk M.1 = true ∧ M.2.2.1 ≤ 40) ∧ Cond.code M.1 M.2.1 M.2.2.1 M.2.2.2.1 ∈ jx_tbl ∧ Cond.initialized M.1.cls ∈ jx_tbl ∧ (M.2.2.2.2.1 = true → Cond.static M.1 ∈ jx_tbl) ∧ (M.2.2.2.2.1 = false → Cond.instanceMethod M.1 ∈ jx_tbl ∧ Cond.selects M.1.cls M.1 M.1 ∈ jx_tbl)
theorem jx_mOk_words {hs : List Nat} (hm : jx_mOk M hs = true) : jx_mWords M := by
  unfold jx_mOk at hm
  split at hm
  next h1 h2 h3 h4 =>
    simp only [Bool.and_eq_true] at hm
    obtain ⟨⟨e1, e2⟩, e3, e4, e5⟩ := hm
    refine ⟨⟨e1, Nat.le_of_ble_eq_true e2⟩, jx_at_mem e3, jx_at_mem e4, fun q => ?_, fun q => ?_⟩
    · rw [q] at e5; exact jx_at_mem e5
    · rw [q] at e5
      simp only [cond_false, Bool.and_eq_true] at e5
      exact ⟨jx_at_mem e5.1, jx_at_mem e5.2⟩
  next => cases hm
theorem jx_rk_room {M' : jx_M} {mode lev lev' : Nat} (hk : jx_rkOk M M' mode = true) (hl : jx_lev mode lev = some lev') : M'.2.2.2.2.2.1 + lev' + 1 ≤ M.2.2.2.2.2.1 + lev := by
  match mode with
  | 0 =>
    have := Nat.le_of_ble_eq_true hk
    cases hl
    omega
  | 1 =>
    have := Nat.le_of_ble_eq_true hk
    cases hl
    omega
  | k + 2 =>
    have := Nat.le_of_ble_eq_true hk
    match lev with
    | 0 => cases hl
    | n + 1 => cases hl; omega
set_option maxHeartbeats 4000000 in
theorem jx_call_ok (hXK : jx_XK A X) (C0 : jx_Cx p s m args c M) {lev : Nat} (hRm : R = jx_rm (M.2.2.2.2.2.1 + lev)) (hok : jx_ok M el h = true) {j mode rk : Nat} {as rest : List Value} (hact : jx_act el lv st μ = some (.inr (.inr (.inr (j, mode, rk, as, rest))))) {lev' : Nat} (hlev : jx_lev mode lev = some lev')
    (hwords : ∀ M', jx_ms[j]? = some M' → jx_mWords M') {v : Option Value} (hM : ∀ M', jx_ms[j]? = some M' → jx_cat as ≤ M'.2.2.1 → Met l M'.1 (jx_ws M') (jx_rm (M'.2.2.2.2.2.1 + lev')) (va_Pc (as.map (jx_cv ad)) (fun U => jx_P ad D cs A X μ U.heap U)) (jx_Q ad D cs A X v μ') 0 0 A) {st2 : List Value} (hst2 : jx_ret rk v rest = some st2)
    (kk : jx_Go p l e R s m args below meth c Q ad D cs A X M H0 (jx_pc el + jx_len el) lv st2 μ') : jx_Go p l e R s m args below meth c Q ad D cs A X M H0 (jx_pc el) lv st μ := by
  have C1 := C0
  obtain ⟨hx, hb, hml, hown, hts⟩ := C0
  intro H locs ls hl hW hS
  have hact0 := hact
  have hP := hW.1
  have hK := hW.2.2.1
  have hN := hW.2.2.2.1
  have hv2 : st2.map (jx_cv ad) = (v.map (jx_cv ad)).toList ++ rest.map (jx_cv ad) := by
    unfold jx_ret at hst2
    split at hst2
    next => cases hst2; rfl
    next => cases hst2; rfl
    next => cases hst2; rfl
    next => cases hst2
  have hraw : jx_raw el = false := by
    cases hr : jx_raw el with
    | false => rfl
    | true =>
      unfold jx_raw at hr
      unfold jx_act at hact
      cases hins : jx_ins el <;> rw [hins] at hr hact <;> first | (cases hr; done) | (cases hact; done)
  obtain ⟨hdec, hok⟩ := jx_ok_dec hok hraw
  unfold jx_act at hact
  unfold jx_okx at hok
  have hpre : ∀ U : State, U.heap = H → s.WarmedH U.vm → va_Pc (as.map (jx_cv ad)) (fun U => jx_P ad D cs A X μ U.heap U) (as.map (jx_cv ad)).toArray U := fun U hU hw => ⟨rfl, jx_P_end hXK hW hU hw⟩
  have hQ : ∀ (a : Array Value) st oc t, jx_Q ad D cs A X v μ' a st oc t → oc = .returned (v.map (jx_cv ad)) ∧ jx_P ad D cs A X μ' t.heap t ∧ va_F A st t := fun _ _ _ _ q => q
  cases hins : jx_ins el with
  | invokevirtual idx =>
    rw [hins] at hact hok hdec
    dsimp only at hact hok
    rw [Bool.and_eq_true] at hok
    have hlen : jx_len el = 3 := Nat.eq_of_beq_eq_true hok.1
    have hok := hok.2
    rw [hlen] at hdec kk
    unfold jx_callV at hact
    unfold jx_cllV at hok
    split at hact
    next j0 mode0 rk0 na ci ml hi =>
      rw [hi] at hok
      dsimp only at hok
      split at hact
      next i as0 r hpop =>
        split at hact
        next c0 fs0 hs =>
          cases hq : (Nat.beq c0 ci && (Nat.ble (jx_cat r) 8 && Nat.ble (jx_cat (.ref i :: as0)) ml)) with
          | false => rw [hq] at hact; cases hact
          | true =>
            rw [hq] at hact
            simp only [Bool.and_eq_true] at hq
            obtain ⟨q1, q2, q3⟩ := hq
            have q1 := Nat.eq_of_beq_eq_true q1
            subst q1
            cases hact
            split at hok
            next M' C T N hj hc =>
              simp only [Bool.and_eq_true, decide_eq_true_eq] at hok
              obtain ⟨o1, o2, o3, o4, o5, o6, o7⟩ := hok
              obtain ⟨⟨y1, y2⟩, w1, w2, -, w3⟩ := hwords M' hj
              obtain ⟨w3, w4⟩ := w3 o2
              unfold jx_yOk at y1
              simp only [Bool.and_eq_true, decide_eq_true_eq] at y1
              have o3 := Nat.eq_of_beq_eq_true o3
              have hroom := jx_rk_room o6 hlev
              obtain ⟨hna, hst⟩ := jx_pop_spec hpop
              have hcat : jx_cat (.ref i :: as0) ≤ M'.2.2.1 := by rw [o3]; exact Nat.le_of_ble_eq_true q3
              have hcell := va_recv hK hP hc (jx_wd_get (ad := ad) (cs := cs) (μ := μ) hs)
              have hstk : st.map (jx_cv ad) = (as0.map (jx_cv ad)).reverse ++ .ref (ad i) :: rest.map (jx_cv ad) := by
                rw [hst]
                simp [jx_cv]
              have hcw : CallW R s args M.1.cls C idx M'.1 M'.2.1 M'.2.2.1 M'.2.2.2.1 (jx_ws M') (jx_rm (M'.2.2.2.2.2.1 + lev')) 0 0 (na - 1) := by
                refine ⟨callB_of (na - 1) hts (jx_good w1) rfl rfl rfl (hts _ w2) (hts _ (jx_at_mem o7)) ⟨y1.1, y1.2.1, o4⟩ ?_, hts _ w3, ?_⟩
                · rw [hRm]
                  constructor
                  · show M'.2.2.2.2.2.1 + lev' + 1 + 1 ≤ M.2.2.2.2.2.1 + lev + 1
                    omega
                  · show 8 + (M'.2.2.1 + 11) + 60 * (M'.2.2.2.2.2.1 + lev' + 1) ≤ 60 * (M.2.2.2.2.2.1 + lev + 1)
                    omega
                · rw [← o1]; exact hts _ w4
              rw [hstk]
              refine jx_after hXK (va_runV (b := ad i) (As := as0.map (jx_cv ad)) (rest := rest.map (jx_cv ad)) C1 (hM M' hj hcat) hcw ⟨jx_blind hXK _, hcell, hpre⟩ rfl ?_ hl.1 rfl (lv_room (by rw [jx_cat_sum]; exact Nat.le_of_ble_eq_true q2)) hdec ⟨Nat.zero_le _, Nat.zero_le _⟩) (hQ _) hW hS (fun H1 locs1 hW1 hS1 => ?_)
              · rw [List.length_map]
                rw [List.length_cons] at hna
                omega
              · rw [← hv2]
                exact kk H1 locs1 ls hl hW1 hS1
            next => cases hok
        next => cases hact
      next => cases hact
    next hi => exact absurd hact (fun q => jx_slen_nr (el := el) q)
    next hi => exact absurd hact (fun q => jx_schar_nr (el := el) q)
    next => cases hact
  | invokestatic idx =>
    rw [hins] at hact hok hdec
    dsimp only at hact hok
    rw [Bool.and_eq_true] at hok
    have hlen : jx_len el = 3 := Nat.eq_of_beq_eq_true hok.1
    have hok := hok.2
    rw [hlen] at hdec kk
    unfold jx_callS at hact
    unfold jx_cllS at hok
    split at hact
    next j0 mode0 rk0 na ml hi =>
      rw [hi] at hok
      dsimp only at hok
      split at hact
      next as0 r hpop =>
        cases hq : (Nat.ble (jx_cat r) 8 && Nat.ble (jx_cat as0) ml) with
        | false => rw [hq] at hact; cases hact
        | true =>
          rw [hq] at hact
          simp only [Bool.and_eq_true] at hq
          obtain ⟨q2, q3⟩ := hq
          cases hact
          split at hok
          next M' hj =>
            simp only [Bool.and_eq_true, decide_eq_true_eq, Bool.or_eq_true] at hok
            obtain ⟨o2, o3, o4, o6, o7⟩ := hok
            obtain ⟨⟨y1, y2⟩, w1, w2, w3, -⟩ := hwords M' hj
            have w3 := w3 o2
            unfold jx_yOk at y1
            simp only [Bool.and_eq_true, decide_eq_true_eq] at y1
            have o3 := Nat.eq_of_beq_eq_true o3
            have hroom := jx_rk_room o6 hlev
            obtain ⟨hna, hst⟩ := jx_pop_spec hpop
            have hcat : jx_cat as ≤ M'.2.2.1 := by rw [o3]; exact Nat.le_of_ble_eq_true q3
            have hstk : st.map (jx_cv ad) = (as.map (jx_cv ad)).reverse ++ rest.map (jx_cv ad) := by
              rw [hst]
              simp
            have hRR : (jx_rm (M'.2.2.2.2.2.1 + lev')).frames + 1 ≤ R.frames ∧ 8 + (M'.2.2.1 + 11) + (jx_rm (M'.2.2.2.2.2.1 + lev')).locals ≤ R.locals := by
              rw [hRm]
              constructor
              · show M'.2.2.2.2.2.1 + lev' + 1 + 1 ≤ M.2.2.2.2.2.1 + lev + 1
                omega
              · show 8 + (M'.2.2.1 + 11) + 60 * (M'.2.2.2.2.2.1 + lev' + 1) ≤ 60 * (M.2.2.2.2.2.1 + lev + 1)
                omega
            rw [hstk]
            have hlenA : (as.map (jx_cv ad)).length = na := by rw [List.length_map]; exact hna
            have hroom8 := lv_room (m := m) (pc := jx_pc el) (ls := ls) (rest := (as.map (jx_cv ad)).reverse ++ rest.map (jx_cv ad)) (st := rest.map (jx_cv ad)) (by rw [jx_cat_sum]; exact Nat.le_of_ble_eq_true q2)
            have hkk : ∀ (H1 : Heap) (locs1 : List Loc), jx_P ad D cs A X μ' H1 s → va_S A H0 H1 locs1 → W p l e R s m args below meth c H1 locs1 0 0 Q (F0 m (jx_pc el + 3) ls ((v.map (jx_cv ad)).toList ++ rest.map (jx_cv ad))) := fun H1 locs1 hW1 hS1 => by
              rw [← hv2]
              exact kk H1 locs1 ls hl hW1 hS1
            rcases o7 with o7 | o7
            · refine jx_after hXK (va_runS (As := as.map (jx_cv ad)) (rest := rest.map (jx_cv ad)) C1 (hM M' hj hcat) ⟨callB_of na hts (jx_good w1) rfl rfl rfl (hts _ w2) (hts _ (jx_at_mem o7)) ⟨y1.1, y1.2.1, o4⟩ hRR, hts _ w3⟩ ⟨jx_blind hXK _, hpre⟩ rfl hlenA hl.1 rfl hroom8 hdec ⟨Nat.zero_le _, Nat.zero_le _⟩) (hQ _) hW hS hkk
            · refine jx_after hXK (va_runSN (As := as.map (jx_cv ad)) (rest := rest.map (jx_cv ad)) C1 (hM M' hj hcat) ⟨va_cnB na hts (jx_good w1) rfl rfl rfl (hN _ (jx_nestAt_mem o7)) (hts _ w2) ⟨y1.1, y1.2.1, o4⟩ hRR, hts _ w3, trivial⟩ ⟨jx_blind hXK _, hpre⟩ rfl hlenA hl.1 rfl hroom8 hdec ⟨Nat.zero_le _, Nat.zero_le _⟩) (hQ _) hW hS hkk
          next => cases hok
      next => cases hact
    next hi => exact absurd hact (fun q => jx_copy_nr (el := el) q)
    next hi => exact absurd hact (fun q => jx_mth1_nr (el := el) q)
    next hi => exact absurd hact (fun q => jx_mth2_nr (el := el) q)
    next hi => exact absurd hact (fun q => jx_mth2_nr (el := el) q)
    next => cases hact
  | ireturn => exfalso; rw [hins] at hact; dsimp only at hact; split at hact <;> cases hact
  | lreturn => exfalso; rw [hins] at hact; dsimp only at hact; split at hact <;> cases hact
  | return_ => exfalso; rw [hins] at hact; dsimp only at hact; split at hact <;> cases hact
  | ifCond cd off =>
    exfalso
    rw [hins] at hact
    cases cd <;> dsimp only at hact <;> unfold jx_if1 at hact <;> (split at hact <;> (first | (cases hact; done) | (split at hact <;> cases hact)))
  | if_icmp cd off =>
    exfalso
    rw [hins] at hact
    cases cd <;> dsimp only at hact <;> unfold jx_if2 at hact <;> (split at hact <;> (first | (cases hact; done) | (split at hact <;> cases hact)))
  | goto off => exfalso; rw [hins] at hact; dsimp only at hact; unfold jx_goto at hact; split at hact <;> cases hact
  | lookupswitch a b => exfalso; rw [hins] at hact; dsimp only at hact; unfold jx_switch at hact; (split at hact <;> (first | (cases hact; done) | (split at hact <;> cases hact)))
  | tableswitch a b c d => exfalso; rw [hins] at hact; dsimp only at hact; unfold jx_switch at hact; (split at hact <;> (first | (cases hact; done) | (split at hact <;> cases hact)))
  | _ => exfalso; have hz := jx_act_inr hact0; rw [hins] at hz; cases hz
end JXC
