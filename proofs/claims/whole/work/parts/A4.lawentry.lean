/-! the law's start: what the statement gives -/
def lTm (i : Nat) : Term := .string "FairByEarModel" (jx_stx.getD i (0, "")).1
theorem l_s0 : ∀ i, i < 9 → (jx_str.map List.length).getD i 0 < 2 ^ 31 := by decide +kernel
theorem l_s1 : ∀ i, i < 9 → Cond.exactly (lTm i) "java/lang/String" ∈ flatC (Jvm.Cond.and given_1 narrow_1) := by decide +kernel
theorem l_s2 : ∀ i, i < 9 → Cond.eq (.field (lTm i) "java/lang/String" "coder" "B") (.int 0) ∈ flatC (Jvm.Cond.and given_1 narrow_1) := by decide +kernel
theorem l_s3 : ∀ i, i < 9 → Cond.arrayOf (.field (lTm i) "java/lang/String" "value" "[B") .byte ∈ flatC (Jvm.Cond.and given_1 narrow_1) := by decide +kernel
theorem l_s4 : ∀ i, i < 9 → Cond.eq (.length (.field (lTm i) "java/lang/String" "value" "[B")) (.int (Int32.ofNat ((jx_str.map List.length).getD i 0))) ∈ flatC (Jvm.Cond.and given_1 narrow_1) := by decide +kernel
theorem l_s5 : ∀ i, i < 9 → ∀ j, j < (jx_str.map List.length).getD i 0 → Cond.eq (.elem (.field (lTm i) "java/lang/String" "value" "[B") (.int (Int32.ofNat j))) (.int ((jx_str.getD i []).getD j 0)) ∈ flatC (Jvm.Cond.and given_1 narrow_1) := by decide +kernel
theorem l_s6 : ∀ i, i < 9 → ∀ j, j < 9 → i ≠ j → (Cond.not (Cond.eq (lTm i) (lTm j)) ∈ flatC (Jvm.Cond.and given_1 narrow_1) ∨ Cond.not (Cond.eq (lTm j) (lTm i)) ∈ flatC (Jvm.Cond.and given_1 narrow_1)) := by decide +kernel
theorem l_s7 : ∀ i, i < 9 → Cond.stringRef "FairByEarModel" (jx_stx.getD i (0, "")).1 (jx_stx.getD i (0, "")).2 ∈ lw_tbl := by decide +kernel
theorem l_s8 : Cond.laysStatic "java/lang/String" "COMPACT_STRINGS" "Z" ∈ lw_tbl ∧ Cond.initialized "java/lang/String" ∈ lw_tbl ∧ Cond.laysStatic "jdk/internal/util/Preconditions" "SIOOBE_FORMATTER" "Ljava/util/function/BiFunction;" ∈ lw_tbl ∧ Cond.initialized "jdk/internal/util/Preconditions" ∈ lw_tbl := by decide +kernel
theorem l_s9 : Cond.eq (.static "java/lang/String" "COMPACT_STRINGS" "Z") (.int 1) ∈ flatC (Jvm.Cond.and given_1 narrow_1) ∧ Cond.isRef (.static "jdk/internal/util/Preconditions" "SIOOBE_FORMATTER" "Ljava/util/function/BiFunction;") ∈ flatC (Jvm.Cond.and given_1 narrow_1) ∧ Cond.isRef (.static Bundle.tN "UNASSIGNED_STACK" Bundle.steD) ∈ flatC (Jvm.Cond.and given_1 narrow_1) ∧ Cond.isRef (.static Bundle.tN "SUPPRESSED_SENTINEL" Bundle.listD) ∈ flatC (Jvm.Cond.and given_1 narrow_1) := by decide +kernel
theorem l_s10 : Cond.laysStatic Bundle.tN "UNASSIGNED_STACK" Bundle.steD ∈ lw_tbl ∧ Cond.laysStatic Bundle.tN "SUPPRESSED_SENTINEL" Bundle.listD ∈ lw_tbl ∧ Cond.initialized Bundle.tN ∈ lw_tbl := by decide +kernel
theorem l_s11 : ∀ w ∈ xBad, w ∈ lw_tbl := by decide +kernel
theorem l_s12 : ∀ q ∈ jx_cl, Cond.instantiable q.1 q.2.2 ∈ lw_tbl := by decide +kernel
theorem l_nestT {w : Cond} (h : w ∈ jx_nest) : w.onTables = true := by
  have h2 := (List.mem_filter.mp h).2
  cases w <;> first | (cases h2; done) | rfl
theorem l_arrc {args : Array Value} {s : State} {ty : FieldType} (h : (Cond.arrayClass ty).before args s = true) : ∃ c : ClassId, ArrOfT s c ty ∧ s.vm.findClass ("[" ++ ty.toString) = some c := by
  obtain ⟨c, k, comp, h1, h2, h3⟩ := Cond.arrayClass_spec h
  exact ⟨c, fun n z => ⟨fun k h => (by cases h), k, h2, comp, h3⟩, h1⟩
set_option maxHeartbeats 4000000 in
theorem whole_start {p : Program} {e : Env} {s : State} {m : MethodId} {below : List Frame} {meth : Method} {c : Code} (l : Launch) (ht : l.stackTraces = false) {b L : Nat} {xs : Nat → Int32} (hL : L ≤ 3072) (C0 : lw_At p s m meth c b L xs) : W p l e room_1 s m #[Value.ref b] below meth c s.heap [] 0 0 (lw_Z below #[Value.ref b] s) (entryFrame m ([Value.ref b] : List Value).toArray 8) := by
  obtain ⟨hx, hb, hr, hml, hown, hts0, hXs, hbl, hlocks, hgv⟩ := C0
  have hfl := flat_of_before _ hgv
  have hts : ∀ w ∈ jx_tbl, w.before #[Value.ref b] s = true := fun w hw => hts0 w (List.mem_filter.mp hw).1
  obtain ⟨A, hA⟩ : ∃ A : Nat → Prop, ∀ q, A q ↔ s.heap.size ≤ q := ⟨fun q => s.heap.size ≤ q, fun q => Iff.rfl⟩
  have hnA : ∀ a : Nat, a < s.heap.size → ¬ A a := fun a h1 h2 => absurd ((hA a).mp h2) (Nat.not_le.mpr h1)
  obtain ⟨adK, adV, hSt, hEv⟩ := vk_Sof (args := #[Value.ref b]) (s := s) (N := 9) (tm := lTm) (len := jx_str.map List.length) (byt := jx_str) (A := A) l_s0 (fun i hi => hfl _ (l_s1 i hi)) (fun i hi => hfl _ (l_s2 i hi)) (fun i hi => hfl _ (l_s3 i hi)) (fun i hi => hfl _ (l_s4 i hi)) (fun i hi j hj => hfl _ (l_s5 i hi j hj)) (fun i j hi hj hn => (l_s6 i hi j hj hn).elim (fun q => Or.inl (hfl _ q)) (fun q => Or.inr (hfl _ q))) hnA
  have hD1 : ∀ ci : Nat, ∃ (cC : ClassId) (iS : Nat → Nat), ∀ q : vw_C, jx_cl[ci]? = some q → u_Kn s q.1 q.2.1 q.2.2 cC iS := by
    intro ci
    cases hc : jx_cl[ci]? with
    | none => exact ⟨m.cls, fun _ => 0, fun q h => by cases h⟩
    | some q =>
      obtain ⟨C, T, N⟩ := q
      obtain ⟨cC, iS, h⟩ := u_known hts (jx_inT ci C T N hc) (hts0 _ (l_s12 _ (List.mem_of_getElem? hc)))
      exact ⟨cC, iS, fun q h9 => by cases h9; exact h⟩
  obtain ⟨dC, h1⟩ := Classical.skolem.mp hD1
  obtain ⟨dI, h2⟩ := Classical.skolem.mp h1
  obtain ⟨c1, a1, b1⟩ := l_arrc (hts _ l_w9.2.1)
  obtain ⟨c2, a2, b2⟩ := l_arrc (hts _ l_w9.1)
  obtain ⟨c3, a3, b3⟩ := l_arrc (hts _ l_w9.2.2)
  have hK : va_K (dC, dI) jx_cl (jx_tys (c1, c2, c3)) s := by
    refine ⟨fun ci q hq => h2 ci q hq, fun k q hq => ?_⟩
    match k, hq with
    | 0, hq => cases hq; exact ⟨a1, b1⟩
    | 1, hq => cases hq; exact ⟨a2, b2⟩
    | 2, hq => cases hq; exact ⟨a3, b3⟩
    | n + 3, hq => cases hq
  have hN : ∀ w ∈ jx_nest, va_Nw w s := fun w hw => va_Nw.of (l_nestT hw) (hts0 w (List.mem_filter.mp hw).1)
  obtain ⟨ad, had1, had2⟩ : ∃ ad : Nat → Nat, (∀ i, i < 900 → ad i = s.heap.size + i) ∧ ∀ k, ad (900 + k) = adK k := ⟨fun i => if i < 900 then s.heap.size + i else adK (i - 900), fun i hi => if_pos hi, fun k => by
    show (if 900 + k < 900 then s.heap.size + (900 + k) else adK (900 + k - 900)) = adK k
    rw [if_neg (by omega), show 900 + k - 900 = k by omega]⟩
  have e9 : (fun k => ad (900 + k)) = adK := funext had2
  have hX : jx_X2 ad adV A s.heap s := by
    refine ⟨⟨fun k t hk => ?_, by rw [e9]; exact hSt, va_Zof (hts0 _ l_s8.1) (hts0 _ l_s8.2.1) (va_eqi (hfl _ l_s9.1)) hnA, va_Zqof (hts0 _ l_s8.2.2.1) (hts0 _ l_s8.2.2.2) (hfl _ l_s9.2.1) hnA⟩, vx_Zqof (hts0 _ l_s10.1) (hts0 _ l_s10.2.2) (hfl _ l_s9.2.2.1) hnA, vx_Zqof (hts0 _ l_s10.2.1) (hts0 _ l_s10.2.2) (hfl _ l_s9.2.2.2) hnA, va_Nw.of rfl (hts0 _ (l_s11 _ (List.mem_of_getElem? (i := 0) rfl))), va_Nw.of rfl (hts0 _ (l_s11 _ (List.mem_of_getElem? (i := 1) rfl))), va_Nw.of rfl (hts0 _ (l_s11 _ (List.mem_of_getElem? (i := 2) rfl))), va_Nw.of rfl (hts0 _ (l_s11 _ (List.mem_of_getElem? (i := 3) rfl)))⟩
    have hk9 : k < 9 := (List.getElem?_eq_some_iff.mp hk).1
    have et : jx_stx.getD k (0, "") = t := by rw [List.getD_eq_getElem?_getD, hk]; rfl
    have q1 := l_s7 k hk9
    have q2 := hEv k hk9
    unfold lTm at q2
    rw [et] at q1 q2
    rw [had2]
    exact vk_R.of (hts0 _ q1) q2
  have hl := lv_entry ([.ref b]) (n := 8) (Nat.le_of_ble_eq_true rfl)
  rw [lg_entry_eq]
  generalize (lg_sl ([.ref b]) ++ List.replicate (8 - (lg_sl ([.ref b])).length) Slot.unset).toArray = ls at hl ⊢
  have hl : lv_has ls 8 [(0, .ref b)] := hl
  exact l_prelude ht ⟨hx, hb, hml, hown, hts, hXs, hbl, hL, hA⟩ hr hlocks had1 hK hN hX hl
