/-! the constructors: calls; every run of their machine is a run of the JVM -/
theorem jc_good {M' : jc_M} (hc : Cond.code M'.1 M'.2.1 M'.2.2.1 none ∈ jx_tbl) : GoodIn jx_tbl (jc_ws M') := by
  intro w hw
  rcases List.mem_cons.mp hw with rfl | hw
  · exact ⟨hc, good_of_word (List.mem_filter.mp hc).2⟩
  · exact ⟨hw, good_of_word (List.mem_filter.mp hw).2⟩
theorem jc_isInit : ∀ M ∈ jc_ms, M.2.2.2.2.2.1 = false → M.1.name = "<init>" := by decide +kernel
section JCC
variable {p : Program} {l : Launch} {e : Env} {R : Room} {s : State} {m : MethodId} {args : Array Value} {below : List Frame} {meth : Method} {c : Code} {Q : State → Prop} {ad : Nat → Nat} {D : va_G} {cs : ClassId × ClassId × ClassId} {A : Nat → Prop} {X : Heap → State → Prop} {base : Nat} {M M' : jc_M} {H0 : Heap} {el : jx_El} {h : Nat} {lv lv' : jx_Lv} {st st' : List Value} {hs hs' : List jc_C} {k sl dc ds : Nat}
theorem jc_blind (hXK : jx_XK A X) (av : List Value) : FrameBlind (va_Pc av (fun U => jc_P ad D cs A X base hs U.heap U ∧ U.heap.size = base + hs.length)) := by
  intro a U g mk q
  obtain ⟨q0, ⟨h1, h2, h3, h4, h5⟩, h6⟩ := q
  exact ⟨q0, ⟨h1, h2, va_K.moved (u := U) (U := U.calling g mk a) (Vm.Alike.refl U.vm) h3, jx_nest_same (s := U) (U := U.calling g mk a) rfl h4, hXK.2.1 U.heap U (U.calling g mk a) rfl h5⟩, h6⟩
set_option maxHeartbeats 4000000 in
theorem jc_call_ok (hXK : jx_XK A X) (had : ∀ i, i < 900 → ad i = base + i) (C0 : jc_Cx p s m args c M) (hRm : R = jc_rm M) (hok : jc_ok M el h = true) {j : Nat} {as rest : List Value} (hact : jc_act el lv st hs = some (.inr (.inr (.inr (j, as, rest))))) (hj : jc_ms[j]? = some M') (hgd : jc_gd M') (hrk : M'.2.2.2.2.1 + 1 ≤ M.2.2.2.2.1) (hb1 : k + M'.2.2.2.1.1 ≤ M.2.2.2.1.1) (hb2 : sl + M'.2.2.2.1.2 ≤ M.2.2.2.1.2) (h0 : 0 < hs.length) (hlt : hs.length < 800) (hcnt : base + hs.length = s.heap.size + k)
    (hM : Met l M'.1 (jc_ws M') (jc_rm M') (va_Pc (as.map (jx_cv ad)) (fun U => jc_P ad D cs A X base hs U.heap U ∧ U.heap.size = base + hs.length)) (jc_Q ad D cs A X base hs') M'.2.2.2.1.1 M'.2.2.2.1.2 A)
    (kk : jc_Go p l e R s m args below meth c Q ad D cs A X base M H0 (jx_pc el + jx_len el) lv rest hs' (k + M'.2.2.2.1.1) (sl + M'.2.2.2.1.2)) : jc_Go p l e R s m args below meth c Q ad D cs A X base M H0 (jx_pc el) lv st hs k sl := by
  have C1 := C0
  obtain ⟨hx, hb, hml, hown, hts⟩ := C0
  intro H locs ls hl hW hS
  refine jc_size (fun hle => ?_)
  have hsz := jc_full had h0 (by omega) hW hcnt hle
  unfold jc_ok at hok
  rw [Bool.and_eq_true] at hok
  obtain ⟨hdec, hok⟩ := hok
  have hdec := of_decide_eq_true hdec
  have hmo := hgd.2
  unfold jc_mOk jx_yOk at hmo
  simp only [Bool.and_eq_true, decide_eq_true_eq] at hmo
  obtain ⟨⟨⟨y1, y2, y3⟩, y4⟩, w1, w2, w3⟩ := hmo
  have y4 := Nat.le_of_ble_eq_true y4
  have hpre : ∀ U : State, U.heap = H → s.WarmedH U.vm → va_Pc (as.map (jx_cv ad)) (fun U => jc_P ad D cs A X base hs U.heap U ∧ U.heap.size = base + hs.length) (as.map (jx_cv ad)).toArray U := fun U hU hw => ⟨rfl, by
    show jc_P ad D cs A X base hs U.heap U ∧ U.heap.size = base + hs.length
    rw [hU]
    exact ⟨⟨hW.1, hW.2.1, va_K.moved hw.alike hW.2.2.1, jx_nest_warm hw hW.2.2.2.1, hXK.1 H s U hw hW.2.2.2.2⟩, hsz⟩⟩
  have hRR : (jc_rm M').frames + 1 ≤ R.frames ∧ 8 + (M'.2.2.1 + 11) + (jc_rm M').locals ≤ R.locals := by
    rw [hRm]
    constructor
    · show M'.2.2.2.2.1 + 1 + 1 ≤ M.2.2.2.2.1 + 1
      omega
    · show 8 + (M'.2.2.1 + 11) + 60 * (M'.2.2.2.2.1 + 1) ≤ 60 * (M.2.2.2.2.1 + 1)
      omega
  have hf : k + M'.2.2.2.1.1 ≤ R.cells ∧ sl + M'.2.2.2.1.2 ≤ R.slots := by
    rw [hRm]
    exact ⟨hb1, hb2⟩
  have hQ : ∀ (a : Array Value) st oc t, jc_Q ad D cs A X base hs' a st oc t → oc = .returned none ∧ jc_P ad D cs A X base hs' t.heap t ∧ va_F A st t := fun _ _ _ _ q => q
  unfold jc_okx at hok
  unfold jc_act at hact
  cases hins : jx_ins el with
  | invokespecial idx =>
    rw [hins] at hact hok hdec
    (try dsimp only at hact hok)
    rw [Bool.and_eq_true] at hok
    have hlen : jx_len el = 3 := Nat.eq_of_beq_eq_true hok.1
    have hok := hok.2
    rw [hlen] at hdec kk
    split at hact
    next hi =>
      exfalso
      split at hact
      next => split at hact <;> cases hact
      next => cases hact
    next j0 na hi =>
      rw [hi] at hok
      dsimp only at hok
      split at hact
      next i as0 r hpop =>
        split at hact
        next hcat =>
          cases hact
          rw [hj] at hok
          simp only [Bool.and_eq_true, decide_eq_true_eq] at hok
          obtain ⟨o1, o2, o3, o4, o5⟩ := hok
          rw [o2] at w3
          have w3 := of_decide_eq_true w3
          obtain ⟨hna, hst⟩ := jx_pop_spec hpop
          have hstk : st.map (jx_cv ad) = (as0.map (jx_cv ad)).reverse ++ .ref (ad i) :: rest.map (jx_cv ad) := by
            rw [hst]
            simp [jx_cv]
          rw [hstk]
          have hlenA : (as0.map (jx_cv ad)).length = na - 1 := by
            rw [List.length_map]
            rw [List.length_cons] at hna
            omega
          have hroom8 := lv_room (m := m) (pc := jx_pc el) (ls := ls) (rest := (as0.map (jx_cv ad)).reverse ++ .ref (ad i) :: rest.map (jx_cv ad)) (st := rest.map (jx_cv ad)) (by rw [jx_cat_sum]; exact hcat)
          unfold jc_lk at o5
          rw [Bool.or_eq_true] at o5
          rcases o5 with o5 | o5
          · exact jc_after hXK (va_runI (b := ad i) (As := as0.map (jx_cv ad)) (rest := rest.map (jx_cv ad)) C1 hM ⟨callB_of (na - 1) hts (jc_good w1) rfl rfl rfl (hts _ w2) (hts _ (jx_at_mem o5)) ⟨y1, y2, o3⟩ hRR, o1, hts _ w3⟩ ⟨jc_blind hXK _, hpre⟩ rfl hlenA hl.1 rfl hroom8 hdec hf) (hQ _) hW hS (fun H1 locs1 hW1 hS1 => kk H1 locs1 ls hl hW1 hS1)
          · exact jc_after hXK (va_runIN (b := ad i) (As := as0.map (jx_cv ad)) (rest := rest.map (jx_cv ad)) C1 hM ⟨va_cnB (na - 1) hts (jc_good w1) rfl rfl rfl (hW.2.2.2.1 _ (jx_nestAt_mem o5)) (hts _ w2) ⟨y1, y2, o3⟩ hRR, o1, hts _ w3⟩ ⟨jc_blind hXK _, hpre⟩ rfl hlenA hl.1 rfl hroom8 hdec hf) (hQ _) hW hS (fun H1 locs1 hW1 hS1 => kk H1 locs1 ls hl hW1 hS1)
        next => cases hact
      next => cases hact
    next => cases hact
  | invokestatic idx =>
    rw [hins] at hact hok hdec
    (try dsimp only at hact hok)
    rw [Bool.and_eq_true] at hok
    have hlen : jx_len el = 3 := Nat.eq_of_beq_eq_true hok.1
    have hok := hok.2
    rw [hlen] at hdec kk
    split at hact
    next j0 na hi =>
      rw [hi] at hok
      dsimp only at hok
      split at hact
      next as0 r hpop =>
        split at hact
        next hcat =>
          cases hact
          rw [hj] at hok
          simp only [Bool.and_eq_true, decide_eq_true_eq] at hok
          obtain ⟨o2, o3, o5⟩ := hok
          rw [o2] at w3
          have w3 := of_decide_eq_true w3
          obtain ⟨hna, hst⟩ := jx_pop_spec hpop
          have hstk : st.map (jx_cv ad) = (as.map (jx_cv ad)).reverse ++ rest.map (jx_cv ad) := by
            rw [hst]
            simp
          rw [hstk]
          have hlenA : (as.map (jx_cv ad)).length = na := by rw [List.length_map]; exact hna
          have hroom8 := lv_room (m := m) (pc := jx_pc el) (ls := ls) (rest := (as.map (jx_cv ad)).reverse ++ rest.map (jx_cv ad)) (st := rest.map (jx_cv ad)) (by rw [jx_cat_sum]; exact hcat)
          exact jc_after hXK (va_runS (As := as.map (jx_cv ad)) (rest := rest.map (jx_cv ad)) C1 hM ⟨callB_of na hts (jc_good w1) rfl rfl rfl (hts _ w2) (hts _ (jx_at_mem o5)) ⟨y1, y2, o3⟩ hRR, hts _ w3⟩ ⟨jc_blind hXK _, hpre⟩ rfl hlenA hl.1 rfl hroom8 hdec hf) (hQ _) hW hS (fun H1 locs1 hW1 hS1 => kk H1 locs1 ls hl hW1 hS1)
        next => cases hact
      next => cases hact
    next => cases hact
  | if_icmp cd off =>
    exfalso
    rw [hins] at hact
    cases cd
    all_goals (try dsimp only at hact)
    all_goals (repeat' (split at hact))
    all_goals (first | (cases hact; done))
  | _ =>
    exfalso
    rw [hins] at hact
    (try dsimp only at hact)
    repeat' (split at hact)
    all_goals (first | (cases hact; done))
end JCC
section JCN
variable {l : Launch} {ad : Nat → Nat} {D : va_G} {cs : ClassId × ClassId × ClassId} {A : Nat → Prop} {X : Heap → State → Prop} {base : Nat}
set_option maxHeartbeats 4000000 in
theorem jc_sound (hXK : jx_XK A X) (had : ∀ i, i < 900 → ad i = base + i) (hbase : ∀ q, base ≤ q → A q) : ∀ (n j pc : Nat) (lv : jx_Lv) (st : List Value) (hs : List jc_C) (k sl : Nat) (hs' : List jc_C) (M : jc_M), jc_ms[j]? = some M → jc_run n j pc lv st hs k sl = some hs' →
    ∀ (p : Program) (e : Env) (s : State) (m : MethodId) (args : Array Value) (below : List Frame) (meth : Method) (c : Code), jc_Cx p s m args c M → meth.sig.returnType = none → meth.locks = false → (M.2.2.2.2.2.1 = false → meth.name = "<init>") → (∀ q, s.heap.size ≤ q → A q) → base + hs.length = s.heap.size + k → jc_Go p l e (jc_rm M) s m args below meth c (MQ below (jc_Q ad D cs A X base hs') args s M.2.2.2.1.1 M.2.2.2.1.2 A) ad D cs A X base M s.heap pc lv st hs k sl := by
  intro n
  induction n with
  | zero => intro j pc lv st hs k sl hs' M hM h; cases h
  | succ n ih =>
    intro j pc lv st hs k sl hs' M hM h p e s m args below meth c C0 hr hlocks hin hA hcnt
    have hgd := jc_allGd M (List.mem_of_getElem? hM)
    unfold jc_run at h
    rw [hM] at h
    dsimp only at h
    cases hsk : jx_seek pc M.2.2.2.2.2.2 with
    | nil => rw [hsk] at h; cases h
    | cons el kr =>
      rw [hsk] at h
      dsimp only at h
      have hpc : jx_pc el = pc := jx_seek_pc _ hsk
      subst hpc
      have hel := jx_seek_mem _ hsk
      obtain ⟨hh, hok⟩ := hgd.1 el hel
      have hR : 1 ≤ (jc_rm M).frames ∧ 60 ≤ (jc_rm M).locals := by
        constructor
        · show 1 ≤ M.2.2.2.2.1 + 1
          omega
        · show 60 ≤ 60 * (M.2.2.2.2.1 + 1)
          omega
      cases ha : jc_act el lv st hs with
      | none => rw [ha] at h; cases h
      | some a =>
        rw [ha] at h
        rcases a with ⟨lv', st', hs1, dc, ds⟩ | ⟨t, lv', st'⟩ | ⟨⟩ | ⟨j', as, rest⟩
        · dsimp only at h
          split at h
          next hc =>
            obtain ⟨⟨c1, c2⟩, c3, c4⟩ := hc
            exact jc_go_ok hXK hA had C0 hR hin (fun hst => jc_noPut M (List.mem_of_getElem? hM) hst el hel) hok ha c3 hcnt c1 c2 (ih j _ lv' st' hs1 _ _ hs' M hM h p e s m args below meth c C0 hr hlocks hin hA (by omega))
          next => cases h
        · cases t with
          | none => exact jc_jump_ok C0 hok ha (fun _ q => by cases q) (fun _ => ih j _ lv' st' hs _ _ hs' M hM h p e s m args below meth c C0 hr hlocks hin hA hcnt)
          | some t => exact jc_jump_ok C0 hok ha (fun t1 q => by cases q; exact ih j _ lv' st' hs _ _ hs' M hM h p e s m args below meth c C0 hr hlocks hin hA hcnt) (fun q => by cases q)
        · dsimp only at h
          split at h
          next hc =>
            cases h
            exact jc_ret_ok hXK C0 hr hlocks hok ha hc.1 hc.2
          next => cases h
        · dsimp only at h
          cases hj : jc_ms[j']? with
          | none => rw [hj] at h; cases h
          | some M' =>
            rw [hj] at h
            dsimp only at h
            split at h
            next hc =>
              obtain ⟨c1, c2, c3, c4⟩ := hc
              cases hrun : jc_run n j' 0 (lv_args 0 as) [] hs 0 0 with
              | none => rw [hrun] at h; cases h
              | some hs1 =>
                rw [hrun] at h
                dsimp only at h
                split at h
                next hd =>
                  obtain ⟨d1, d2, d3⟩ := hd
                  have hgd' := jc_allGd M' (List.mem_of_getElem? hj)
                  exact jc_call_ok hXK had C0 rfl hok ha hj hgd' c3 c1 c2 d2 d3 hcnt (jc_met_of hbase hj c4 (fun p e s m args below meth c C1 hr1 hl1 hn1 hA1 hc1 => ih j' 0 (lv_args 0 as) [] hs 0 0 hs1 M' hj hrun p e s m args below meth c C1 hr1 hl1 (fun q => hn1 q (jc_isInit M' (List.mem_of_getElem? hj) q)) hA1 hc1)) (ih j _ lv rest hs1 _ _ hs' M hM h p e s m args below meth c C0 hr hlocks hin hA (by omega))
                next => cases h
            next => cases h
end JCN
