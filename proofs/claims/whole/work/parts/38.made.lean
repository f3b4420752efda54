theorem jc_w_oi : Cond.instanceMethod objectInit ∈ jx_tbl := by decide +kernel
theorem jc_w_oc : Cond.code objectInit ⟨#[0xb1]⟩ 1 none ∈ jx_tbl := by decide +kernel
section JCP
variable {p : Program} {l : Launch} {e : Env} {R : Room} {s : State} {m : MethodId} {args : Array Value} {below : List Frame} {meth : Method} {c : Code} {H : Heap} {locs : List Loc} {cells slots : Nat} {Q : State → Prop}
/-- no more cells than were counted -/
theorem jc_size {g : JFrame} (kk : H.size ≤ s.heap.size + cells → W p l e R s m args below meth c H locs cells slots Q g) : W p l e R s m args below meth c H locs cells slots Q g := by
  intro T hT X
  have h1 : (T.setVm s.vm).heap.size ≤ s.heap.size + cells := X.same.2.2.1
  have h2 : (T.setVm s.vm).heap = H := hT
  rw [h2] at h1
  exact kk h1 T hT X
end JCP
/-! the constructors' machine is the JVM's -/
def jc_ce (ad : Nat → Nat) (cs : ClassId × ClassId × ClassId) : jc_C → va_E
  | .inl (ci, fs) => .inr (ci, fs.map (jx_cv ad))
  | .inr (0, n, f) => .inl (cs.1, n, .inl f)
  | .inr (1, n, _) => .inl (cs.2.1, n, .inr (.inl (fun _ => 0)))
  | .inr (_ + 2, n, f) => .inl (cs.2.2, n, .inl f)
def jc_wd (ad : Nat → Nat) (cs : ClassId × ClassId × ClassId) (hs : List jc_C) : va_W := hs.mapIdx (fun i c => (ad i, jc_ce ad cs c))
def jc_P (ad : Nat → Nat) (D : va_G) (cs : ClassId × ClassId × ClassId) (A : Nat → Prop) (X : Heap → State → Prop) (base : Nat) (hs : List jc_C) (H : Heap) (U : State) : Prop :=
  va_P D jx_cl (jc_wd ad cs hs) H ∧ va_D A (jc_wd ad cs hs) ∧ va_K D jx_cl (jx_tys cs) U ∧ (∀ w ∈ jx_nest, va_Nw w U) ∧ X H U
def jc_rm (M : jc_M) : Room := { frames := M.2.2.2.2.1 + 1, cells := M.2.2.2.1.1, slots := M.2.2.2.1.2, locals := 60 * (M.2.2.2.2.1 + 1) }
def jc_ws (M : jc_M) : List Cond := .code M.1 M.2.1 M.2.2.1 none :: jx_tbl
def jc_Q (ad : Nat → Nat) (D : va_G) (cs : ClassId × ClassId × ClassId) (A : Nat → Prop) (X : Heap → State → Prop) (base : Nat) (hs : List jc_C) : Array Value → State → Outcome → State → Prop := fun _ st oc t => oc = .returned none ∧ jc_P ad D cs A X base hs t.heap t ∧ va_F A st t
theorem jc_wd_get {ad : Nat → Nat} {cs : ClassId × ClassId × ClassId} {hs : List jc_C} {i : Nat} {c : jc_C} (h : hs[i]? = some c) : (jc_wd ad cs hs)[i]? = some (ad i, jc_ce ad cs c) := by
  unfold jc_wd
  rw [List.getElem?_mapIdx, h]
  rfl
theorem jc_wd_set {ad : Nat → Nat} {cs : ClassId × ClassId × ClassId} {hs : List jc_C} {i : Nat} {c0 c : jc_C} {x : va_E} (h : hs[i]? = some c0) (hx : jc_ce ad cs c = x) : (jc_wd ad cs hs).set i (ad i, x) = jc_wd ad cs (hs.set i c) := by
  subst hx
  have hi : i < hs.length := (List.getElem?_eq_some_iff.mp h).1
  apply List.ext_getElem?
  intro q
  unfold jc_wd
  rw [List.getElem?_set, List.getElem?_mapIdx, List.getElem?_mapIdx, List.getElem?_set, List.length_mapIdx]
  by_cases hq : i = q
  · subst hq
    rw [if_pos rfl, if_pos rfl, if_pos hi, if_pos hi]
    rfl
  · rw [if_neg hq, if_neg hq]
theorem jc_wd_app (ad : Nat → Nat) (cs : ClassId × ClassId × ClassId) (hs : List jc_C) (c : jc_C) : jc_wd ad cs (hs ++ [c]) = jc_wd ad cs hs ++ [(ad hs.length, jc_ce ad cs c)] := by
  unfold jc_wd
  rw [List.mapIdx_append]
  simp
theorem jc_tyok : ∀ (ci : Nat) (C : String) (T : u_T) (N : Nat), jx_cl[ci]? = some (C, T, N) → (∀ k, k < N → parseFieldDescriptor (T k).2.2.1 = some (jc_ty ci k)) ∧ ∀ a, a < N → ∀ b, b < N → a ≠ b → (T a).2.1 ≠ (T b).2.1 := by
  intro ci C T N h
  match ci with
  | 0 => cases h; exact ⟨jx_ok0, jx_nm0⟩
  | 1 => cases h; exact ⟨jx_ok1, jx_nm1⟩
  | 2 => cases h; exact ⟨jx_ok2, jx_nm2⟩
  | 3 => cases h; exact ⟨jx_ok3, jx_nm3⟩
  | 4 => cases h; exact ⟨jx_ok4, jx_nm4⟩
  | 5 => cases h; exact ⟨jx_ok5, jx_nm5⟩
  | 6 => cases h; exact ⟨jx_ok6, jx_nm6⟩
  | 7 => cases h; exact ⟨jx_ok7, jx_nm7⟩
  | 8 => cases h; exact ⟨jx_ok8, jx_nm8⟩
  | 9 => cases h; exact ⟨jx_ok9, jx_nm9⟩
  | 10 => cases h; exact ⟨jx_ok10, jx_nm10⟩
  | 11 => cases h; exact ⟨jx_ok11, jx_nm11⟩
  | 12 => cases h; exact ⟨jx_ok12, jx_nm12⟩
  | n + 13 => exact absurd h (by simp [jx_cl])
theorem jc_fit_ok {ad : Nat → Nat} {t : FieldType} {v : Value} (h : jc_fit t v = true) : narrow t (jx_cv ad v) = jx_cv ad v ∧ fits t (jx_cv ad v) = true := by
  cases t <;> cases v <;> first | (cases h; done) | exact ⟨rfl, rfl⟩ | exact ⟨(jx_01_nar h).1, (jx_01_nar h).2.1⟩
theorem jc_df_cv (ad : Nat → Nat) (ci : Nat) : (jc_df ci).map (jx_cv ad) = jc_df ci := by
  unfold jc_df
  split
  · rw [List.map_map]
    apply List.map_congr_left
    intro k _
    show jx_cv ad (defaultValue (jc_ty ci k)) = _
    cases jc_ty ci k <;> rfl
  · rfl
abbrev jc_Cx (p : Program) (s : State) (m : MethodId) (args : Array Value) (c : Code) (M : jc_M) : Prop := p.tables.exec = Jvm.exec ∧ c.code = M.2.1 ∧ c.maxLocals = M.2.2.1 ∧ s.vm.findClass M.1.cls = some m.cls ∧ ∀ w ∈ jx_tbl, w.before args s = true
abbrev jc_Go (p : Program) (l : Launch) (e : Env) (R : Room) (s : State) (m : MethodId) (args : Array Value) (below : List Frame) (meth : Method) (c : Code) (Q : State → Prop) (ad : Nat → Nat) (D : va_G) (cs : ClassId × ClassId × ClassId) (A : Nat → Prop) (X : Heap → State → Prop) (base : Nat) (M : jc_M) (H0 : Heap) (pc : Nat) (lv : jx_Lv) (st : List Value) (hs : List jc_C) (k sl : Nat) : Prop :=
  ∀ (H1 : Heap) (locs1 : List Loc) (ls1 : Array Slot), lv_has ls1 M.2.2.1 (jx_mv ad lv) → jc_P ad D cs A X base hs H1 s → va_S A H0 H1 locs1 → W p l e R s m args below meth c H1 locs1 k sl Q (F0 m pc ls1 (st.map (jx_cv ad)))
section JCG
variable {p : Program} {l : Launch} {e : Env} {R : Room} {s : State} {m : MethodId} {args : Array Value} {below : List Frame} {meth : Method} {c : Code} {Q : State → Prop} {ad : Nat → Nat} {D : va_G} {cs : ClassId × ClassId × ClassId} {A : Nat → Prop} {X : Heap → State → Prop} {base : Nat} {M : jc_M} {H0 : Heap} {el : jx_El} {h : Nat} {lv lv' : jx_Lv} {st st' : List Value} {hs hs' : List jc_C} {k sl dc ds : Nat}
theorem jc_full (had : ∀ i, i < 900 → ad i = base + i) (h0 : 0 < hs.length) (hlt : hs.length < 900) {H : Heap} (hW : jc_P ad D cs A X base hs H s) (hcnt : base + hs.length = s.heap.size + k) (hle : H.size ≤ s.heap.size + k) : H.size = base + hs.length := by
  have hi : hs.length - 1 < hs.length := by omega
  have h1 := (hW.1 (hs.length - 1) _ (jc_wd_get (List.getElem?_eq_getElem hi))).lt
  dsimp only at h1
  rw [had _ (by omega)] at h1
  omega
theorem jc_new_row (hXK : jx_XK A X) (hA : ∀ q, H0.size ≤ q → A q) (had : ∀ i, i < 900 → ad i = base + i) (hlt : hs.length < 900) {H H1 : Heap} {locs : List Loc} {cn : jc_C} (hW : jc_P ad D cs A X base hs H s) (hsz : H.size = base + hs.length) (hS : va_S A H0 H locs) (z1 : H1.size = H.size + 1) (o1 : ∀ q : Nat, q < H.size → H1[q]? = H[q]?) (hcell : va_at D jx_cl (H.size, jc_ce ad cs cn) H1) : jc_P ad D cs A X base (hs ++ [cn]) H1 s ∧ va_S A H0 H1 locs ∧ ad hs.length = H.size := by
  obtain ⟨hP, hD, hK, hN, hX⟩ := hW
  have hadr : ad hs.length = H.size := by rw [had _ hlt, hsz]
  have hk : ∀ (k : Nat) (x : Nat × va_E), (jc_wd ad cs hs)[k]? = some x → H1[x.1]? = H[x.1]? := fun k x hx => o1 x.1 ((hP k x hx).lt)
  have hS1 : va_S A H0 H1 locs := ⟨Nat.le_trans hS.1 (by omega), fun x h1 h2 => (o1 x (Nat.lt_of_lt_of_le h1 hS.1)).trans (hS.2.1 x h1 h2), hS.2.2⟩
  refine ⟨⟨?_, ?_, hK, hN, ?_⟩, hS1, hadr⟩
  · rw [jc_wd_app, hadr]
    refine (hP.kept hk).app (fun k x hx => ?_)
    have hz : k < 1 := (List.getElem?_eq_some_iff.mp hx).1
    rw [show k = 0 by omega] at hx
    cases hx
    exact hcell
  · rw [jc_wd_app, hadr]
    exact hD.push hP rfl (hA _ hS.1)
  · exact hXK.2.2 H H1 s (fun q hq _ => o1 q hq) hX
set_option maxHeartbeats 8000000 in
theorem jc_go_ok (hXK : jx_XK A X) (hA : ∀ q, H0.size ≤ q → A q) (had : ∀ i, i < 900 → ad i = base + i) (C0 : jc_Cx p s m args c M) (hR : 1 ≤ R.frames ∧ 60 ≤ R.locals) (hin0 : M.2.2.2.2.2.1 = false → meth.name = "<init>") (hst0 : M.2.2.2.2.2.1 = true → ∀ i, jx_ins el ≠ .putfield i) (hok : jc_ok M el h = true) (hact : jc_act el lv st hs = some (.inl (lv', st', hs', dc, ds))) (h0 : 0 < hs.length) (hcnt : base + hs.length = s.heap.size + k) (hRc : k + dc ≤ R.cells) (hRs : sl + ds ≤ R.slots)
    (kk : jc_Go p l e R s m args below meth c Q ad D cs A X base M H0 (jx_pc el + jx_len el) lv' st' hs' (k + dc) (sl + ds)) : jc_Go p l e R s m args below meth c Q ad D cs A X base M H0 (jx_pc el) lv st hs k sl := by
  obtain ⟨hx, hb, hml, hown, hts⟩ := C0
  intro H locs ls hl hW hS
  unfold jc_ok at hok
  rw [Bool.and_eq_true] at hok
  obtain ⟨hdec, hok⟩ := hok
  have hdec := of_decide_eq_true hdec
  have hP := hW.1
  have hD := hW.2.1
  have hK := hW.2.2.1
  have hN := hW.2.2.2.1
  have hX := hW.2.2.2.2
  unfold jc_act at hact
  unfold jc_okx at hok
  cases hins : jx_ins el with
  | iconst n =>
    rw [hins] at hact hok hdec
    (try dsimp only at hact hok)
    split at hact
    next v hv =>
      simp only [Option.some.injEq, Sum.inl.injEq, Prod.mk.injEq] at hact
      obtain ⟨rfl, rfl, rfl, rfl, rfl⟩ := hact
      obtain ⟨rfl, hlen⟩ := jx_cst_inv hok hv
      rw [hlen] at hdec kk
      exact lv_iconst hx hb hdec rfl (kk H locs ls hl hW hS)
    next => cases hact
  | bipush n =>
    rw [hins] at hact hok hdec
    (try dsimp only at hact hok)
    split at hact
    next v hv =>
      simp only [Option.some.injEq, Sum.inl.injEq, Prod.mk.injEq] at hact
      obtain ⟨rfl, rfl, rfl, rfl, rfl⟩ := hact
      obtain ⟨rfl, hlen⟩ := jx_cst_inv hok hv
      rw [hlen] at hdec kk
      exact lv_bipush hx hb hdec rfl (kk H locs ls hl hW hS)
    next => cases hact
  | sipush n =>
    rw [hins] at hact hok hdec
    (try dsimp only at hact hok)
    split at hact
    next v hv =>
      simp only [Option.some.injEq, Sum.inl.injEq, Prod.mk.injEq] at hact
      obtain ⟨rfl, rfl, rfl, rfl, rfl⟩ := hact
      obtain ⟨rfl, hlen⟩ := jx_cst_inv hok hv
      rw [hlen] at hdec kk
      exact lv_sipush hx hb hdec rfl (kk H locs ls hl hW hS)
    next => cases hact
  | ldc_w idx =>
    rw [hins] at hact hok hdec
    (try dsimp only at hact hok)
    split at hact
    next v hv =>
      simp only [Option.some.injEq, Sum.inl.injEq, Prod.mk.injEq] at hact
      obtain ⟨rfl, rfl, rfl, rfl, rfl⟩ := hact
      unfold jx_ldcOk at hok
      rw [hv, Bool.and_eq_true] at hok
      obtain ⟨hlen, hok⟩ := hok
      have hlen := Nat.eq_of_beq_eq_true hlen
      rw [hlen] at hdec kk
      exact lv_ldcw hx hb hown (hts _ (jx_at_mem hok)) hdec (kk H locs ls hl hW hS)
    next => cases hact
  | iload_n i =>
    rw [hins] at hact hok hdec
    (try dsimp only at hact hok)
    split at hact
    next i0 hi =>
      split at hact
      next x hg =>
        simp only [Option.some.injEq, Sum.inl.injEq, Prod.mk.injEq] at hact
        obtain ⟨rfl, rfl, rfl, rfl, rfl⟩ := hact
        obtain ⟨hi0, hlen⟩ := jx_ixOk_inv hok hi
        rw [hlen] at hdec kk
        exact lv_iload_n hx hb hdec hi0.symm (jx_get_has hl hg) (kk H locs ls hl hW hS)
      next => cases hact
    next => cases hact
  | aload_n i =>
    rw [hins] at hact hok hdec
    (try dsimp only at hact hok)
    split at hact
    next i0 hi =>
      split at hact
      next x hg =>
        simp only [Option.some.injEq, Sum.inl.injEq, Prod.mk.injEq] at hact
        obtain ⟨rfl, rfl, rfl, rfl, rfl⟩ := hact
        obtain ⟨hi0, hlen⟩ := jx_ixOk_inv hok hi
        rw [hlen] at hdec kk
        exact lv_aload_n hx hb hdec hi0.symm (jx_get_has hl hg) (kk H locs ls hl hW hS)
      next => cases hact
    next => cases hact
  | istore_n i =>
    rw [hins] at hact hok hdec
    (try dsimp only at hact hok)
    split at hact
    next i0 x r hi =>
      simp only [Option.some.injEq, Sum.inl.injEq, Prod.mk.injEq] at hact
      obtain ⟨rfl, rfl, rfl, rfl, rfl⟩ := hact
      obtain ⟨hi0, hlen, hlt⟩ := jx_loc_inv hok hi
      rw [hlen] at hdec kk
      exact lv_istore_n hx hb hdec hi0.symm hl (by omega) (jx_mv_set1 ad lv i0 (.int x)) (fun ls1 hl1 => kk H locs ls1 hl1 hW hS)
    next => cases hact
  | iinc i n =>
    rw [hins] at hact hok hdec
    (try dsimp only at hact hok)
    split at hact
    next i0 c0 hi hv =>
      split at hact
      next x hg =>
        simp only [Option.some.injEq, Sum.inl.injEq, Prod.mk.injEq] at hact
        obtain ⟨rfl, rfl, rfl, rfl, rfl⟩ := hact
        rw [hv, Bool.and_eq_true] at hok
        obtain ⟨rfl, hlen, hlt⟩ := jx_loc_inv hok.1 hi
        have hc0 : Int32.ofInt n = c0 := of_decide_eq_true hok.2
        rw [hlen] at hdec kk
        obtain ⟨k0, hk0⟩ := jx_get_place (ad := ad) hg
        exact lv_iinc hx hb hdec hl hk0 (by rw [hc0]) (by omega) (jx_mv_set1 ad lv i0 (.int (x + c0))) (fun ls1 hl1 => kk H locs ls1 hl1 hW hS)
      next => cases hact
    next => cases hact
  | iadd =>
    rw [hins] at hact hok hdec
    (try dsimp only at hact hok)
    split at hact
    next y x r =>
      simp only [Option.some.injEq, Sum.inl.injEq, Prod.mk.injEq] at hact
      obtain ⟨rfl, rfl, rfl, rfl, rfl⟩ := hact
      have hlen : jx_len el = 1 := Nat.eq_of_beq_eq_true hok
      rw [hlen] at hdec kk
      exact lv_iadd hx hb hdec (kk H locs ls hl hW hS)
    next => cases hact
  | imul =>
    rw [hins] at hact hok hdec
    (try dsimp only at hact hok)
    split at hact
    next y x r =>
      simp only [Option.some.injEq, Sum.inl.injEq, Prod.mk.injEq] at hact
      obtain ⟨rfl, rfl, rfl, rfl, rfl⟩ := hact
      have hlen : jx_len el = 1 := Nat.eq_of_beq_eq_true hok
      rw [hlen] at hdec kk
      exact lv_imul hx hb hdec (kk H locs ls hl hW hS)
    next => cases hact
  | dup =>
    rw [hins] at hact hok hdec
    (try dsimp only at hact hok)
    split at hact
    next x r =>
      simp only [Option.some.injEq, Sum.inl.injEq, Prod.mk.injEq] at hact
      obtain ⟨rfl, rfl, rfl, rfl, rfl⟩ := hact
      have hlen : jx_len el = 1 := Nat.eq_of_beq_eq_true hok
      rw [hlen] at hdec kk
      exact lv_dup hx hb hdec rfl (kk H locs ls hl hW hS)
    next => cases hact
  | getfield idx =>
    rw [hins] at hact hok hdec
    (try dsimp only at hact hok)
    split at hact
    next k0 ci i r hi =>
      split at hact
      next c1 fs hcell =>
        split at hact
        next hci =>
          subst hci
          split at hact
          next v hv0 =>
            simp only [Option.some.injEq, Sum.inl.injEq, Prod.mk.injEq] at hact
            obtain ⟨rfl, rfl, rfl, rfl, rfl⟩ := hact
            rw [Bool.and_eq_true] at hok
            have hlen : jx_len el = 3 := Nat.eq_of_beq_eq_true hok.1
            obtain ⟨C, T, N, hc, hk, hT, hlink⟩ := jx_fld_inv hok.2 hi
            rw [hlen] at hdec kk
            have hv : (fs.map (jx_cv ad))[k0]? = some (jx_cv ad v) := by rw [List.getElem?_map, hv0]; rfl
            exact va_get hx hb hts (jx_inT c1 C T N hc) hown hK hP i (jc_wd_get hcell) hc k0 hk (hts _ hlink) (fun z hz => by rw [hT] at hz; exact hz) hv hdec (kk H locs ls hl hW hS)
          next => cases hact
        next => cases hact
      next => cases hact
    next => cases hact
  | putfield idx =>
    rw [hins] at hact hok hdec
    (try dsimp only at hact hok)
    split at hact
    next k0 ci z v i r hi =>
      split at hact
      next c1 fs hcell =>
        split at hact
        next hci =>
          obtain ⟨hci, hklt, hfit⟩ := hci
          subst hci
          simp only [Option.some.injEq, Sum.inl.injEq, Prod.mk.injEq] at hact
          obtain ⟨rfl, rfl, rfl, rfl, rfl⟩ := hact
          simp only [Bool.and_eq_true] at hok
          have hlen : jx_len el = 3 := Nat.eq_of_beq_eq_true hok.1
          obtain ⟨C, T, N, hc, hk, hT, hlink⟩ := jx_fld_inv hok.2.1 hi
          have hC : C = M.1.cls := by
            have h3 := hok.2.2
            rw [hi] at h3
            dsimp only at h3
            rw [hc] at h3
            exact of_decide_eq_true h3
          obtain ⟨hty0, hnm⟩ := jc_tyok c1 C T N hc
          obtain ⟨f1, f2⟩ := jc_fit_ok (ad := ad) hfit
          rw [hlen] at hdec kk
          have hmeth : meth.name = "<init>" := by
            cases hM : M.2.2.2.2.2.1 with
            | false => exact hin0 hM
            | true => exact absurd hins (hst0 hM idx)
          have hset := jc_wd_set (ad := ad) (cs := cs) (c := .inl (c1, fs.set k0 v)) (x := .inr (c1, (fs.map (jx_cv ad)).set k0 (jx_cv ad v))) hcell (by
            show Sum.inr (c1, (fs.set k0 v).map (jx_cv ad)) = _
            rw [List.map_set])
          have hgo : ∀ (H1 : Heap) (locs1 : List Loc), va_P D jx_cl ((jc_wd ad cs hs).set i (ad i, .inr (c1, (fs.map (jx_cv ad)).set k0 (jx_cv ad v)))) H1 → va_D A ((jc_wd ad cs hs).set i (ad i, .inr (c1, (fs.map (jx_cv ad)).set k0 (jx_cv ad v)))) → va_S A H0 H1 locs1 → W p l e R s m args below meth c H1 locs1 k sl Q (F0 m (jx_pc el + 3) ls (r.map (jx_cv ad))) := by
            intro H1 locs1 hP1 hD1 hS1
            rw [hset] at hP1 hD1
            exact kk H1 locs1 ls hl ⟨hP1, hD1, hK, hN, jx_X_kept hXK hA hX hS hS1⟩ hS1
          cases hfin : (T k0).2.2.2 with
          | true => exact va_putF hx hb hts (jx_inT c1 C T N hc) (jc_ty c1) hty0 hnm hown hK hP hD hS i (jc_wd_get hcell) hc k0 hk (hts _ hlink) (fun z hz => by rw [hT] at hz; exact hz) hfin hmeth (hT.trans hC) (hty0 k0 hk) f1 f2 (by rw [List.length_map]; exact hklt) hdec hgo
          | false => exact va_put hx hb hts (jx_inT c1 C T N hc) (jc_ty c1) hty0 hnm hown hK hP hD hS i (jc_wd_get hcell) hc k0 hk (hts _ hlink) (fun z hz => by rw [hT] at hz; exact hz) hfin (hty0 k0 hk) f1 f2 (by rw [List.length_map]; exact hklt) hdec hgo
        next => cases hact
      next => cases hact
    next => cases hact
  | iastore =>
    rw [hins] at hact hok hdec
    (try dsimp only at hact hok)
    split at hact
    next v x i r =>
      split at hact
      next n f hcell =>
        split at hact
        next hin =>
          simp only [Option.some.injEq, Sum.inl.injEq, Prod.mk.injEq] at hact
          obtain ⟨rfl, rfl, rfl, rfl, rfl⟩ := hact
          have hlen : jx_len el = 1 := Nat.eq_of_beq_eq_true hok
          rw [hlen] at hdec kk
          have hset := jc_wd_set (ad := ad) (cs := cs) (c := .inr (0, n, upd f x.toNatClampNeg v)) (x := .inl (cs.1, n, .inl (upd f x.toNatClampNeg v))) hcell rfl
          refine va_iast hx hb hK hP hD hS i 0 (jc_wd_get hcell) rfl (jx_in_vp hin) hdec (fun H1 locs1 hP1 hD1 hS1 => ?_)
          rw [hset] at hP1 hD1
          exact kk H1 locs1 ls hl ⟨hP1, hD1, hK, hN, jx_X_kept hXK hA hX hS hS1⟩ hS1
        next => cases hact
      next => cases hact
    next => cases hact
  | arraylength =>
    rw [hins] at hact hok hdec
    (try dsimp only at hact hok)
    split at hact
    next i r =>
      split at hact
      next n f hcell =>
        simp only [Option.some.injEq, Sum.inl.injEq, Prod.mk.injEq] at hact
        obtain ⟨rfl, rfl, rfl, rfl, rfl⟩ := hact
        have hlen : jx_len el = 1 := Nat.eq_of_beq_eq_true hok
        rw [hlen] at hdec kk
        exact va_alen hx hb hK hP i 0 (jc_wd_get hcell) rfl rfl hdec (kk H locs ls hl hW hS)
      next => cases hact
    next => cases hact
  | newarray a =>
    rw [hins] at hact hok hdec
    (try dsimp only at hact hok)
    split at hact
    next kd n r hi =>
      split at hact
      next hn =>
        simp only [Option.some.injEq, Sum.inl.injEq, Prod.mk.injEq] at hact
        obtain ⟨rfl, rfl, rfl, rfl, rfl⟩ := hact
        rw [hi] at hok
        simp only [Bool.and_eq_true, decide_eq_true_eq] at hok
        obtain ⟨hlen, hkd, harr⟩ := hok
        have hlen : jx_len el = 2 := Nat.eq_of_beq_eq_true hlen
        rw [hlen] at hdec kk
        have hbytes : n.toNatClampNeg * componentBytes (newarray.typeOf a) ≤ 536870912 := by
          have h8 : componentBytes (newarray.typeOf a) ≤ 8 := by cases a <;> decide
          have := Nat.mul_le_mul hn.2.1 h8
          omega
        refine jc_size (fun hle => ?_)
        have hsz := jc_full had h0 (by omega) hW hcnt hle
        refine va_newaK hx hb (hts _ harr) (g := F0 m (jx_pc el) ls (.int n :: r.map (jx_cv ad))) rfl hdec rfl hn.1 rfl hbytes hRc hRs rfl (fun H1 cA e1 z1 o1 hAr hNm => ?_)
        have hcell : va_at D jx_cl (H.size, jc_ce ad cs (.inr (kd, n.toNatClampNeg, fun _ => 0))) H1 := by
          cases a <;> first | (cases hkd; done) | skip
          · cases hkd
            have h2 : cA = cs.2.2 := Option.some.inj (hNm.symm.trans (hK.2 2 _ rfl).2)
            subst h2
            exact e1
          · cases hkd
            have h2 : cA = cs.1 := Option.some.inj (hNm.symm.trans (hK.2 0 _ rfl).2)
            subst h2
            exact e1
          · cases hkd
            have h2 : cA = cs.2.1 := Option.some.inj (hNm.symm.trans (hK.2 1 _ rfl).2)
            subst h2
            exact e1
        obtain ⟨hW1, hS1, hadr⟩ := jc_new_row hXK hA had (by omega) hW hsz hS z1 o1 hcell
        have h9 := kk H1 locs ls hl hW1 hS1
        rw [List.map_cons, show jx_cv ad (.ref hs.length) = .ref (ad hs.length) from rfl, hadr] at h9
        exact h9
      next => cases hact
    next => cases hact
  | new idx =>
    rw [hins] at hact hok hdec
    (try dsimp only at hact hok)
    split at hact
    next ci hi =>
      split at hact
      next hlt =>
        simp only [Option.some.injEq, Sum.inl.injEq, Prod.mk.injEq] at hact
        obtain ⟨rfl, rfl, rfl, rfl, rfl⟩ := hact
        rw [hi] at hok
        rw [Bool.and_eq_true] at hok
        obtain ⟨hlen, hok⟩ := hok
        have hlen : jx_len el = 3 := Nat.eq_of_beq_eq_true hlen
        rw [hlen] at hdec kk
        (try dsimp only at hok)
        cases hc : jx_cl[ci]? with
        | none => rw [hc] at hok; cases hok
        | some q0 =>
          obtain ⟨C, T, N⟩ := q0
          rw [hc] at hok
          simp only [Bool.and_eq_true, decide_eq_true_eq] at hok
          obtain ⟨hty0, hnm⟩ := jc_tyok ci C T N hc
          have hKn := hK.1 ci _ hc
          have hdf : jc_df ci = (List.range N).map (fun k => defaultValue (jc_ty ci k)) := by unfold jc_df; rw [hc]
          have hlenN : (jc_df ci).length = N := by rw [hdf]; simp
          rw [hlenN] at hRs kk
          refine jc_size (fun hle => ?_)
          have hsz := jc_full had h0 (by omega) hW hcnt hle
          refine W.newcK hx hb hown (hts _ (jx_at_mem hok.1)) (hts _ hok.2.1) (hts _ hok.2.2) (g := F0 m (jx_pc el) ls (st.map (jx_cv ad))) rfl hdec hRc hRs hKn.2.1 rfl (fun H1 kC hkC e1 z1 o1 => ?_)
          have hcell : va_at D jx_cl (H.size, jc_ce ad cs (.inl (ci, jc_df ci))) H1 := by
            refine ⟨_, hc, ?_⟩
            refine (u_born (jc_ty ci) hts (jx_inT ci C T N hc) hKn hkC e1 hty0).to (fun j hj => ?_)
            show defaultValue (jc_ty ci j) = vp_V ((jc_df ci).map (jx_cv ad)) j
            rw [jc_df_cv, hdf]
            unfold vp_V
            rw [List.getD_eq_getElem?_getD, List.getElem?_map, List.getElem?_range hj]
            rfl
          obtain ⟨hW1, hS1, hadr⟩ := jc_new_row hXK hA had (by omega) hW hsz hS z1 o1 hcell
          have h9 := kk H1 locs ls hl hW1 hS1
          rw [List.map_cons, show jx_cv ad (.ref hs.length) = .ref (ad hs.length) from rfl, hadr] at h9
          exact h9
      next => cases hact
    next => cases hact
  | invokespecial idx =>
    rw [hins] at hact hok hdec
    (try dsimp only at hact hok)
    split at hact
    next hi =>
      split at hact
      next q r =>
        split at hact
        next hcat =>
          simp only [Option.some.injEq, Sum.inl.injEq, Prod.mk.injEq] at hact
          obtain ⟨rfl, rfl, rfl, rfl, rfl⟩ := hact
          rw [hi] at hok
          simp only [Bool.and_eq_true] at hok
          have hlen : jx_len el = 3 := Nat.eq_of_beq_eq_true hok.1
          rw [hlen] at hdec kk
          refine W.objInit hx hb hown (hts _ (jx_at_mem hok.2)) (hts _ jc_w_oi) (hts _ jc_w_oc) (g := F0 m (jx_pc el) ls (.ref (ad q) :: r.map (jx_cv ad))) rfl (by rw [hml]; exact hl.1) rfl hdec hR.1 ?_ (kk H locs ls hl hW hS)
          show 2 * 0 + ((r.map (jx_cv ad)).map fun v => v.category).sum + 12 ≤ R.locals
          rw [jx_cat_sum]
          omega
        next => cases hact
      next => cases hact
    next =>
      exfalso
      split at hact
      next => split at hact <;> cases hact
      next => cases hact
    next => cases hact
  | invokestatic idx =>
    rw [hins] at hact hok hdec
    (try dsimp only at hact hok)
    exfalso
    split at hact
    next =>
      split at hact
      next => split at hact <;> cases hact
      next => cases hact
    next => cases hact
  | if_icmp cd off =>
    rw [hins] at hact hok hdec
    (try dsimp only at hact hok)
    exfalso
    cases cd <;> (try dsimp only at hact) <;> first | (cases hact; done) | (split at hact <;> cases hact)
  | goto off =>
    rw [hins] at hact hok hdec
    (try dsimp only at hact hok)
    exfalso
    split at hact <;> cases hact
  | return_ =>
    rw [hins] at hact hok hdec
    (try dsimp only at hact hok)
    exfalso
    split at hact <;> cases hact
  | _ => rw [hins] at hact; cases hact
end JCG
