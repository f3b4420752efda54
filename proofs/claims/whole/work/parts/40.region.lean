/-! a run over references of one region changes that region alone -/
def jx_okv (G : Nat → Bool) : Value → Bool
  | .ref i => G i || Nat.ble 900 i
  | _ => true
def jx_okS (G : Nat → Bool) (st : List Value) : Prop := ∀ v ∈ st, jx_okv G v = true
def jx_okL2 (G : Nat → Bool) (lv : jx_Lv) : Prop := ∀ q ∈ lv, jx_okv G q.2 = true
def jx_clo (G : Nat → Bool) : Prop := ∀ (i ci : Nat) (fs : List (Option Nat)), G i = true → jx_shape i = some (.inl (ci, fs)) → ∀ (k a : Nat), fs[k]? = some (some a) → G a = true
def jx_same (G : Nat → Bool) (μ μ' : jx_Mem) : Prop := ∀ a, G a = false → μ'.1 a = μ.1 a ∧ μ'.2 a = μ.2 a
theorem jx_same.rf {G : Nat → Bool} {μ : jx_Mem} : jx_same G μ μ := fun _ _ => ⟨rfl, rfl⟩
theorem jx_same.tr {G : Nat → Bool} {a b c : jx_Mem} (h1 : jx_same G a b) (h2 : jx_same G b c) : jx_same G a c := fun q hq => ⟨(h2 q hq).1.trans (h1 q hq).1, (h2 q hq).2.trans (h1 q hq).2⟩
theorem jx_shape_lt {i : Nat} {sh : jx_Sh} (h : jx_shape i = some sh) : i < 900 := by
  have h1 := (List.getElem?_eq_some_iff.mp h).1
  have h2 : jx_sh.length = 110 := rfl
  omega
theorem jx_okv_ref {G : Nat → Bool} {i : Nat} {sh : jx_Sh} (hv : jx_okv G (.ref i) = true) (h : jx_shape i = some sh) : G i = true := by
  unfold jx_okv at hv
  rw [Bool.or_eq_true] at hv
  rcases hv with h1 | h1
  · exact h1
  · have := Nat.le_of_ble_eq_true h1
    have := jx_shape_lt h
    omega
theorem jx_okS_cons {G : Nat → Bool} {v : Value} {st : List Value} : jx_okS G (v :: st) ↔ jx_okv G v = true ∧ jx_okS G st := by
  unfold jx_okS
  simp
theorem jx_ok_get {G : Nat → Bool} {lv : jx_Lv} {i : Nat} {v : Value} (h : jx_okL2 G lv) (hg : jx_get lv i = some v) : jx_okv G v = true := by
  induction lv with
  | nil => cases hg
  | cons q r ih =>
    unfold jx_get at hg
    cases hb : Nat.beq q.1 i with
    | true =>
      rw [hb] at hg
      have h2 : q.2 = v := Option.some.inj hg
      rw [← h2]
      exact h q List.mem_cons_self
    | false => rw [hb] at hg; exact ih (fun z hz => h z (List.mem_cons_of_mem _ hz)) hg
theorem jx_ok_set1 {G : Nat → Bool} {lv : jx_Lv} {i : Nat} {v : Value} (h : jx_okL2 G lv) (hv : jx_okv G v = true) : jx_okL2 G (jx_set1 lv i v) := by
  intro q hq
  rcases List.mem_cons.mp hq with rfl | hq
  · exact hv
  · exact h q (List.mem_filter.mp hq).1
theorem jx_ok_set2 {G : Nat → Bool} {lv : jx_Lv} {i : Nat} {v : Value} (h : jx_okL2 G lv) (hv : jx_okv G v = true) : jx_okL2 G (jx_set2 lv i v) := by
  intro q hq
  rcases List.mem_cons.mp hq with rfl | hq
  · exact hv
  · exact h q (List.mem_filter.mp hq).1
theorem jx_ok_trim {G : Nat → Bool} {lv : jx_Lv} (ks : List Nat) (h : jx_okL2 G lv) : jx_okL2 G (jx_trim ks lv) := by
  intro q hq
  obtain ⟨i, -, hi⟩ := List.mem_filterMap.mp hq
  cases hg : jx_get lv i with
  | none => rw [hg] at hi; cases hi
  | some v =>
    rw [hg] at hi
    cases hi
    exact jx_ok_get h hg
theorem jx_ok_arr {G : Nat → Bool} {lv : jx_Lv} (el : jx_El) (h : jx_okL2 G lv) : jx_okL2 G (jx_arr el lv) := by
  unfold jx_arr
  cases jx_keep el with
  | none => exact h
  | some ks => exact jx_ok_trim ks h
theorem jx_ok_args {G : Nat → Bool} : ∀ (vs : List Value) (i : Nat), jx_okS G vs → jx_okL2 G (lv_args i vs) := by
  intro vs
  induction vs with
  | nil => intro i _ q hq; cases hq
  | cons v r ih =>
    intro i h q hq
    rw [jx_okS_cons] at h
    rcases List.mem_cons.mp hq with rfl | hq
    · exact h.1
    · exact ih _ h.2 q hq
theorem jx_ok_pop {G : Nat → Bool} {n : Nat} {st as r : List Value} (h : jx_okS G st) (hp : jx_pop n st [] = some (as, r)) : jx_okS G as ∧ jx_okS G r := by
  obtain ⟨-, hst⟩ := jx_pop_spec hp
  rw [hst] at h
  exact ⟨fun v hv => h v (List.mem_append_left _ (List.mem_reverse.mpr hv)), fun v hv => h v (List.mem_append_right _ hv)⟩
theorem jx_same_up {G : Nat → Bool} {μ : jx_Mem} {i k : Nat} {v : Int32} (hG : G i = true) : jx_same G μ (jx_up μ.1 i k v, μ.2) := fun a ha => ⟨(jx_up_row μ.1 i k v (fun e => by rw [e, hG] at ha; cases ha)).symm, rfl⟩
theorem jx_same_upL {G : Nat → Bool} {μ : jx_Mem} {i k : Nat} {v : Int64} (hG : G i = true) : jx_same G μ (μ.1, jx_up μ.2 i k v) := fun a ha => ⟨rfl, (jx_up_row μ.2 i k v (fun e => by rw [e, hG] at ha; cases ha)).symm⟩
theorem jx_same_cpy {G : Nat → Bool} {μ : jx_Mem} {s sp d dp n : Nat} (hG : G d = true) : jx_same G μ (jx_cpy μ.1 s sp d dp n, μ.2) := fun a ha => ⟨(jx_cpy_row μ.1 s sp d dp n (fun e => by rw [e, hG] at ha; cases ha)).symm, rfl⟩
section JXR
variable {G : Nat → Bool} {el : jx_El} {lv lv' : jx_Lv} {st st' : List Value} {μ μ' : jx_Mem}
set_option maxHeartbeats 4000000 in
theorem jx_go_frame (hclo : jx_clo G) (hvals : ∀ v ∈ jx_vals el, jx_okv G v = true) (hact : jx_act el lv st μ = some (.inl (true, lv', st', μ'))) (hl : jx_okL2 G lv) (hs : jx_okS G st) : jx_okL2 G lv' ∧ jx_okS G st' ∧ jx_same G μ μ' := by
  unfold jx_act at hact
  cases hins : jx_ins el with
  | iconst n =>
    rw [hins] at hact
    (try dsimp only at hact)
    obtain ⟨v, hv, rfl, rfl, rfl⟩ := jx_push_inv hact
    exact ⟨hl, jx_okS_cons.mpr ⟨hvals v (by rw [hv]; exact List.mem_singleton.mpr rfl), hs⟩, jx_same.rf⟩
  | bipush n =>
    rw [hins] at hact
    (try dsimp only at hact)
    obtain ⟨v, hv, rfl, rfl, rfl⟩ := jx_push_inv hact
    exact ⟨hl, jx_okS_cons.mpr ⟨hvals v (by rw [hv]; exact List.mem_singleton.mpr rfl), hs⟩, jx_same.rf⟩
  | sipush n =>
    rw [hins] at hact
    (try dsimp only at hact)
    obtain ⟨v, hv, rfl, rfl, rfl⟩ := jx_push_inv hact
    exact ⟨hl, jx_okS_cons.mpr ⟨hvals v (by rw [hv]; exact List.mem_singleton.mpr rfl), hs⟩, jx_same.rf⟩
  | lconst n =>
    rw [hins] at hact
    (try dsimp only at hact)
    obtain ⟨v, hv, rfl, rfl, rfl⟩ := jx_push_inv hact
    exact ⟨hl, jx_okS_cons.mpr ⟨hvals v (by rw [hv]; exact List.mem_singleton.mpr rfl), hs⟩, jx_same.rf⟩
  | ldc n =>
    rw [hins] at hact
    (try dsimp only at hact)
    obtain ⟨v, hv, rfl, rfl, rfl⟩ := jx_push_inv hact
    exact ⟨hl, jx_okS_cons.mpr ⟨hvals v (by rw [hv]; exact List.mem_singleton.mpr rfl), hs⟩, jx_same.rf⟩
  | ldc_w n =>
    rw [hins] at hact
    (try dsimp only at hact)
    obtain ⟨v, hv, rfl, rfl, rfl⟩ := jx_push_inv hact
    exact ⟨hl, jx_okS_cons.mpr ⟨hvals v (by rw [hv]; exact List.mem_singleton.mpr rfl), hs⟩, jx_same.rf⟩
  | ldc2_w n =>
    rw [hins] at hact
    (try dsimp only at hact)
    obtain ⟨v, hv, rfl, rfl, rfl⟩ := jx_push_inv hact
    exact ⟨hl, jx_okS_cons.mpr ⟨hvals v (by rw [hv]; exact List.mem_singleton.mpr rfl), hs⟩, jx_same.rf⟩
  | iload i =>
    rw [hins] at hact
    (try dsimp only at hact)
    obtain ⟨i0, x, hi, hg, rfl, rfl, rfl⟩ := jx_ldI_inv hact
    exact ⟨hl, jx_okS_cons.mpr ⟨jx_ok_get hl hg, hs⟩, jx_same.rf⟩
  | iload_n i =>
    rw [hins] at hact
    (try dsimp only at hact)
    obtain ⟨i0, x, hi, hg, rfl, rfl, rfl⟩ := jx_ldI_inv hact
    exact ⟨hl, jx_okS_cons.mpr ⟨jx_ok_get hl hg, hs⟩, jx_same.rf⟩
  | istore i =>
    rw [hins] at hact
    (try dsimp only at hact)
    obtain ⟨i0, x, hi, rfl, rfl, rfl⟩ := jx_stI_inv hact
    have hs := jx_okS_cons.mp hs
    exact ⟨jx_ok_set1 hl hs.1, hs.2, jx_same.rf⟩
  | istore_n i =>
    rw [hins] at hact
    (try dsimp only at hact)
    obtain ⟨i0, x, hi, rfl, rfl, rfl⟩ := jx_stI_inv hact
    have hs := jx_okS_cons.mp hs
    exact ⟨jx_ok_set1 hl hs.1, hs.2, jx_same.rf⟩
  | lload i =>
    rw [hins] at hact
    (try dsimp only at hact)
    obtain ⟨i0, x, hi, hg, rfl, rfl, rfl⟩ := jx_ldL_inv hact
    exact ⟨hl, jx_okS_cons.mpr ⟨jx_ok_get hl hg, hs⟩, jx_same.rf⟩
  | lload_n i =>
    rw [hins] at hact
    (try dsimp only at hact)
    obtain ⟨i0, x, hi, hg, rfl, rfl, rfl⟩ := jx_ldL_inv hact
    exact ⟨hl, jx_okS_cons.mpr ⟨jx_ok_get hl hg, hs⟩, jx_same.rf⟩
  | lstore i =>
    rw [hins] at hact
    (try dsimp only at hact)
    obtain ⟨i0, x, hi, rfl, rfl, rfl⟩ := jx_stL_inv hact
    have hs := jx_okS_cons.mp hs
    exact ⟨jx_ok_set2 hl hs.1, hs.2, jx_same.rf⟩
  | lstore_n i =>
    rw [hins] at hact
    (try dsimp only at hact)
    obtain ⟨i0, x, hi, rfl, rfl, rfl⟩ := jx_stL_inv hact
    have hs := jx_okS_cons.mp hs
    exact ⟨jx_ok_set2 hl hs.1, hs.2, jx_same.rf⟩
  | aload i =>
    rw [hins] at hact
    (try dsimp only at hact)
    obtain ⟨i0, x, hi, hg, rfl, rfl, rfl⟩ := jx_ldA_inv hact
    exact ⟨hl, jx_okS_cons.mpr ⟨jx_ok_get hl hg, hs⟩, jx_same.rf⟩
  | aload_n i =>
    rw [hins] at hact
    (try dsimp only at hact)
    obtain ⟨i0, x, hi, hg, rfl, rfl, rfl⟩ := jx_ldA_inv hact
    exact ⟨hl, jx_okS_cons.mpr ⟨jx_ok_get hl hg, hs⟩, jx_same.rf⟩
  | astore i =>
    rw [hins] at hact
    (try dsimp only at hact)
    obtain ⟨i0, x, hi, rfl, rfl, rfl⟩ := jx_stA_inv hact
    have hs := jx_okS_cons.mp hs
    exact ⟨jx_ok_set1 hl hs.1, hs.2, jx_same.rf⟩
  | astore_n i =>
    rw [hins] at hact
    (try dsimp only at hact)
    obtain ⟨i0, x, hi, rfl, rfl, rfl⟩ := jx_stA_inv hact
    have hs := jx_okS_cons.mp hs
    exact ⟨jx_ok_set1 hl hs.1, hs.2, jx_same.rf⟩
  | iinc i n =>
    rw [hins] at hact
    (try dsimp only at hact)
    obtain ⟨i0, x, c0, hi, hv, hg, rfl, rfl, rfl⟩ := jx_iinc_inv hact
    exact ⟨jx_ok_set1 hl rfl, hs, jx_same.rf⟩
  | iadd =>
    rw [hins] at hact
    (try dsimp only at hact)
    obtain ⟨x, y, r, rfl, -, rfl, rfl, rfl⟩ := jx_bin_inv hact
    exact ⟨hl, jx_okS_cons.mpr ⟨rfl, (jx_okS_cons.mp (jx_okS_cons.mp hs).2).2⟩, jx_same.rf⟩
  | isub =>
    rw [hins] at hact
    (try dsimp only at hact)
    obtain ⟨x, y, r, rfl, -, rfl, rfl, rfl⟩ := jx_bin_inv hact
    exact ⟨hl, jx_okS_cons.mpr ⟨rfl, (jx_okS_cons.mp (jx_okS_cons.mp hs).2).2⟩, jx_same.rf⟩
  | imul =>
    rw [hins] at hact
    (try dsimp only at hact)
    obtain ⟨x, y, r, rfl, -, rfl, rfl, rfl⟩ := jx_bin_inv hact
    exact ⟨hl, jx_okS_cons.mpr ⟨rfl, (jx_okS_cons.mp (jx_okS_cons.mp hs).2).2⟩, jx_same.rf⟩
  | iand =>
    rw [hins] at hact
    (try dsimp only at hact)
    obtain ⟨x, y, r, rfl, -, rfl, rfl, rfl⟩ := jx_bin_inv hact
    exact ⟨hl, jx_okS_cons.mpr ⟨rfl, (jx_okS_cons.mp (jx_okS_cons.mp hs).2).2⟩, jx_same.rf⟩
  | ior =>
    rw [hins] at hact
    (try dsimp only at hact)
    obtain ⟨x, y, r, rfl, -, rfl, rfl, rfl⟩ := jx_bin_inv hact
    exact ⟨hl, jx_okS_cons.mpr ⟨rfl, (jx_okS_cons.mp (jx_okS_cons.mp hs).2).2⟩, jx_same.rf⟩
  | ixor =>
    rw [hins] at hact
    (try dsimp only at hact)
    obtain ⟨x, y, r, rfl, -, rfl, rfl, rfl⟩ := jx_bin_inv hact
    exact ⟨hl, jx_okS_cons.mpr ⟨rfl, (jx_okS_cons.mp (jx_okS_cons.mp hs).2).2⟩, jx_same.rf⟩
  | ishl =>
    rw [hins] at hact
    (try dsimp only at hact)
    obtain ⟨x, y, r, rfl, -, rfl, rfl, rfl⟩ := jx_bin_inv hact
    exact ⟨hl, jx_okS_cons.mpr ⟨rfl, (jx_okS_cons.mp (jx_okS_cons.mp hs).2).2⟩, jx_same.rf⟩
  | ishr =>
    rw [hins] at hact
    (try dsimp only at hact)
    obtain ⟨x, y, r, rfl, -, rfl, rfl, rfl⟩ := jx_bin_inv hact
    exact ⟨hl, jx_okS_cons.mpr ⟨rfl, (jx_okS_cons.mp (jx_okS_cons.mp hs).2).2⟩, jx_same.rf⟩
  | iushr =>
    rw [hins] at hact
    (try dsimp only at hact)
    obtain ⟨x, y, r, rfl, -, rfl, rfl, rfl⟩ := jx_bin_inv hact
    exact ⟨hl, jx_okS_cons.mpr ⟨rfl, (jx_okS_cons.mp (jx_okS_cons.mp hs).2).2⟩, jx_same.rf⟩
  | idiv =>
    rw [hins] at hact
    (try dsimp only at hact)
    obtain ⟨x, y, r, rfl, -, rfl, rfl, rfl⟩ := jx_bin_inv hact
    exact ⟨hl, jx_okS_cons.mpr ⟨rfl, (jx_okS_cons.mp (jx_okS_cons.mp hs).2).2⟩, jx_same.rf⟩
  | irem =>
    rw [hins] at hact
    (try dsimp only at hact)
    obtain ⟨x, y, r, rfl, -, rfl, rfl, rfl⟩ := jx_bin_inv hact
    exact ⟨hl, jx_okS_cons.mpr ⟨rfl, (jx_okS_cons.mp (jx_okS_cons.mp hs).2).2⟩, jx_same.rf⟩
  | ineg =>
    rw [hins] at hact
    (try dsimp only at hact)
    obtain ⟨x, r, rfl, rfl, rfl, rfl⟩ := jx_un_inv hact
    exact ⟨hl, jx_okS_cons.mpr ⟨rfl, (jx_okS_cons.mp hs).2⟩, jx_same.rf⟩
  | i2b =>
    rw [hins] at hact
    (try dsimp only at hact)
    obtain ⟨x, r, rfl, rfl, rfl, rfl⟩ := jx_un_inv hact
    exact ⟨hl, jx_okS_cons.mpr ⟨rfl, (jx_okS_cons.mp hs).2⟩, jx_same.rf⟩
  | i2s =>
    rw [hins] at hact
    (try dsimp only at hact)
    obtain ⟨x, r, rfl, rfl, rfl, rfl⟩ := jx_un_inv hact
    exact ⟨hl, jx_okS_cons.mpr ⟨rfl, (jx_okS_cons.mp hs).2⟩, jx_same.rf⟩
  | i2l =>
    rw [hins] at hact
    (try dsimp only at hact)
    split at hact
    next x r =>
      obtain ⟨-, rfl, rfl, rfl⟩ := jx_go_inv hact
      exact ⟨hl, jx_okS_cons.mpr ⟨rfl, (jx_okS_cons.mp hs).2⟩, jx_same.rf⟩
    next => cases hact
  | land =>
    rw [hins] at hact
    (try dsimp only at hact)
    obtain ⟨x, y, r, rfl, -, rfl, rfl, rfl⟩ := jx_binL_inv hact
    exact ⟨hl, jx_okS_cons.mpr ⟨rfl, (jx_okS_cons.mp (jx_okS_cons.mp hs).2).2⟩, jx_same.rf⟩
  | lor =>
    rw [hins] at hact
    (try dsimp only at hact)
    obtain ⟨x, y, r, rfl, -, rfl, rfl, rfl⟩ := jx_binL_inv hact
    exact ⟨hl, jx_okS_cons.mpr ⟨rfl, (jx_okS_cons.mp (jx_okS_cons.mp hs).2).2⟩, jx_same.rf⟩
  | ldiv =>
    rw [hins] at hact
    (try dsimp only at hact)
    obtain ⟨x, y, r, rfl, -, rfl, rfl, rfl⟩ := jx_binL_inv hact
    exact ⟨hl, jx_okS_cons.mpr ⟨rfl, (jx_okS_cons.mp (jx_okS_cons.mp hs).2).2⟩, jx_same.rf⟩
  | lrem =>
    rw [hins] at hact
    (try dsimp only at hact)
    obtain ⟨x, y, r, rfl, -, rfl, rfl, rfl⟩ := jx_binL_inv hact
    exact ⟨hl, jx_okS_cons.mpr ⟨rfl, (jx_okS_cons.mp (jx_okS_cons.mp hs).2).2⟩, jx_same.rf⟩
  | lshl =>
    rw [hins] at hact
    (try dsimp only at hact)
    obtain ⟨x, y, r, rfl, rfl, rfl, rfl⟩ := jx_shL_inv hact
    exact ⟨hl, jx_okS_cons.mpr ⟨rfl, (jx_okS_cons.mp (jx_okS_cons.mp hs).2).2⟩, jx_same.rf⟩
  | lushr =>
    rw [hins] at hact
    (try dsimp only at hact)
    obtain ⟨x, y, r, rfl, rfl, rfl, rfl⟩ := jx_shL_inv hact
    exact ⟨hl, jx_okS_cons.mpr ⟨rfl, (jx_okS_cons.mp (jx_okS_cons.mp hs).2).2⟩, jx_same.rf⟩
  | lcmp =>
    rw [hins] at hact
    (try dsimp only at hact)
    split at hact
    next y x r =>
      obtain ⟨-, rfl, rfl, rfl⟩ := jx_go_inv hact
      exact ⟨hl, jx_okS_cons.mpr ⟨rfl, (jx_okS_cons.mp (jx_okS_cons.mp hs).2).2⟩, jx_same.rf⟩
    next => cases hact
  | dup =>
    rw [hins] at hact
    (try dsimp only at hact)
    split at hact
    next v r =>
      cases hv : Nat.beq v.category 1 with
      | false => rw [hv] at hact; cases hact
      | true =>
        rw [hv] at hact
        obtain ⟨-, rfl, rfl, rfl⟩ := jx_go_inv hact
        exact ⟨hl, jx_okS_cons.mpr ⟨(jx_okS_cons.mp hs).1, hs⟩, jx_same.rf⟩
    next => cases hact
  | pop =>
    rw [hins] at hact
    (try dsimp only at hact)
    split at hact
    next v r =>
      cases hv : Nat.beq v.category 1 with
      | false => rw [hv] at hact; cases hact
      | true =>
        rw [hv] at hact
        obtain ⟨-, rfl, rfl, rfl⟩ := jx_go_inv hact
        exact ⟨hl, (jx_okS_cons.mp hs).2, jx_same.rf⟩
    next => cases hact
  | dup2 =>
    rw [hins] at hact
    (try dsimp only at hact)
    split at hact
    next v w r =>
      cases hv : (Nat.beq v.category 1 && Nat.beq w.category 1) with
      | false => rw [hv] at hact; cases hact
      | true =>
        rw [hv] at hact
        obtain ⟨-, rfl, rfl, rfl⟩ := jx_go_inv hact
        exact ⟨hl, jx_okS_cons.mpr ⟨(jx_okS_cons.mp hs).1, jx_okS_cons.mpr ⟨(jx_okS_cons.mp (jx_okS_cons.mp hs).2).1, hs⟩⟩, jx_same.rf⟩
    next => cases hact
  | getfield idx =>
    rw [hins] at hact
    (try dsimp only at hact)
    obtain ⟨k, ci, i, r, fs, x, hi, rfl, hsh, hf, rfl, rfl, rfl⟩ := jx_getf_inv hact
    have hs := jx_okS_cons.mp hs
    refine ⟨hl, jx_okS_cons.mpr ⟨?_, hs.2⟩, jx_same.rf⟩
    cases x with
    | none => rfl
    | some a =>
      show (G a || Nat.ble 900 a) = true
      rw [hclo i ci fs (jx_okv_ref hs.1 hsh) hsh k a hf]
      rfl
  | putfield idx =>
    rw [hins] at hact
    (try dsimp only at hact)
    obtain ⟨k, ci, z, i, v, r, fs, hi, rfl, hsh, hf, hz, rfl, rfl, rfl⟩ := jx_putf_inv hact
    have hs := jx_okS_cons.mp (jx_okS_cons.mp hs).2
    exact ⟨hl, hs.2, jx_same_up (jx_okv_ref hs.1 hsh)⟩
  | iaload =>
    rw [hins] at hact
    (try dsimp only at hact)
    obtain ⟨i, n, x, r, rfl, hsh, hin, rfl, rfl, rfl⟩ := jx_ald_inv hact
    exact ⟨hl, jx_okS_cons.mpr ⟨rfl, (jx_okS_cons.mp (jx_okS_cons.mp hs).2).2⟩, jx_same.rf⟩
  | baload =>
    rw [hins] at hact
    (try dsimp only at hact)
    obtain ⟨i, n, x, r, rfl, hsh, hin, rfl, rfl, rfl⟩ := jx_ald_inv hact
    exact ⟨hl, jx_okS_cons.mpr ⟨rfl, (jx_okS_cons.mp (jx_okS_cons.mp hs).2).2⟩, jx_same.rf⟩
  | laload =>
    rw [hins] at hact
    (try dsimp only at hact)
    obtain ⟨i, n, x, r, rfl, hsh, hin, rfl, rfl, rfl⟩ := jx_aldL_inv hact
    exact ⟨hl, jx_okS_cons.mpr ⟨rfl, (jx_okS_cons.mp (jx_okS_cons.mp hs).2).2⟩, jx_same.rf⟩
  | iastore =>
    rw [hins] at hact
    (try dsimp only at hact)
    obtain ⟨i, n, x, v, r, rfl, hsh, hin, hz, rfl, rfl, rfl⟩ := jx_ast_inv hact
    have hs := jx_okS_cons.mp (jx_okS_cons.mp (jx_okS_cons.mp hs).2).2
    exact ⟨hl, hs.2, jx_same_up (jx_okv_ref hs.1 hsh)⟩
  | bastore =>
    rw [hins] at hact
    (try dsimp only at hact)
    obtain ⟨i, n, x, v, r, rfl, hsh, hin, hz, rfl, rfl, rfl⟩ := jx_ast_inv hact
    have hs := jx_okS_cons.mp (jx_okS_cons.mp (jx_okS_cons.mp hs).2).2
    exact ⟨hl, hs.2, jx_same_up (jx_okv_ref hs.1 hsh)⟩
  | lastore =>
    rw [hins] at hact
    (try dsimp only at hact)
    obtain ⟨i, n, x, v, r, rfl, hsh, hin, rfl, rfl, rfl⟩ := jx_astL_inv hact
    have hs := jx_okS_cons.mp (jx_okS_cons.mp (jx_okS_cons.mp hs).2).2
    exact ⟨hl, hs.2, jx_same_upL (jx_okv_ref hs.1 hsh)⟩
  | arraylength =>
    rw [hins] at hact
    (try dsimp only at hact)
    obtain ⟨i, kd, n, r, rfl, hsh, rfl, rfl, rfl⟩ := jx_alen_inv hact
    exact ⟨hl, jx_okS_cons.mpr ⟨rfl, (jx_okS_cons.mp hs).2⟩, jx_same.rf⟩
  | invokevirtual idx =>
    rw [hins] at hact
    (try dsimp only at hact)
    unfold jx_callV at hact
    split at hact
    next j mode rk na ci ml hi =>
      exfalso
      split at hact
      next =>
        split at hact
        next =>
          cases hq : (Nat.beq _ ci && _) <;> rw [hq] at hact <;> cases hact
        next => cases hact
      next => cases hact
    next hi =>
      unfold jx_slen at hact
      split at hact
      next q r =>
        cases hq : (Nat.ble 900 q && Nat.ble (jx_cat r) 8) with
        | false => rw [hq] at hact; cases hact
        | true =>
          rw [hq] at hact
          dsimp only [cond_true] at hact
          split at hact
          next t ht =>
            obtain ⟨-, rfl, rfl, rfl⟩ := jx_go_inv hact
            exact ⟨hl, jx_okS_cons.mpr ⟨rfl, (jx_okS_cons.mp hs).2⟩, jx_same.rf⟩
          next => cases hact
      next => cases hact
    next hi =>
      unfold jx_schar at hact
      split at hact
      next x q r =>
        cases hq : (Nat.ble 900 q && Nat.ble (jx_cat r) 8) with
        | false => rw [hq] at hact; cases hact
        | true =>
          rw [hq] at hact
          dsimp only [cond_true] at hact
          split at hact
          next t ht =>
            obtain ⟨-, rfl, rfl, rfl⟩ := jx_go_inv hact
            exact ⟨hl, jx_okS_cons.mpr ⟨rfl, (jx_okS_cons.mp (jx_okS_cons.mp hs).2).2⟩, jx_same.rf⟩
          next => cases hact
      next => cases hact
    next => cases hact
  | invokestatic idx =>
    rw [hins] at hact
    (try dsimp only at hact)
    unfold jx_callS at hact
    split at hact
    next j mode rk na ml hi =>
      exfalso
      split at hact
      next =>
        cases hq : (Nat.ble _ 8 && _) <;> rw [hq] at hact <;> cases hact
      next => cases hact
    next hi =>
      obtain ⟨n, dp, sp, d, q, nd, ns, r, rfl, hs1, hs2, hcat, h1, h2, h3, h4, h5, rfl, rfl, rfl⟩ := jx_copy_inv hact
      have hs := jx_okS_cons.mp (jx_okS_cons.mp (jx_okS_cons.mp hs).2).2
      exact ⟨hl, (jx_okS_cons.mp (jx_okS_cons.mp hs.2).2).2, jx_same_cpy (jx_okv_ref hs.1 hs2)⟩
    next hi =>
      obtain ⟨x, r, rfl, hcat, rfl, rfl, rfl⟩ := jx_mth1_inv hact
      exact ⟨hl, jx_okS_cons.mpr ⟨rfl, (jx_okS_cons.mp hs).2⟩, jx_same.rf⟩
    next hi =>
      obtain ⟨x, y, r, rfl, hcat, rfl, rfl, rfl⟩ := jx_mth2_inv hact
      exact ⟨hl, jx_okS_cons.mpr ⟨rfl, (jx_okS_cons.mp (jx_okS_cons.mp hs).2).2⟩, jx_same.rf⟩
    next hi =>
      obtain ⟨x, y, r, rfl, hcat, rfl, rfl, rfl⟩ := jx_mth2_inv hact
      exact ⟨hl, jx_okS_cons.mpr ⟨rfl, (jx_okS_cons.mp (jx_okS_cons.mp hs).2).2⟩, jx_same.rf⟩
    next => cases hact
  | ifCond cd off =>
    rw [hins] at hact
    (try dsimp only at hact)
    exfalso
    cases cd <;> dsimp only at hact <;> unfold jx_if1 at hact <;> (split at hact <;> (first | (cases hact; done) | (split at hact <;> cases hact)))
  | if_icmp cd off =>
    rw [hins] at hact
    (try dsimp only at hact)
    exfalso
    cases cd <;> dsimp only at hact <;> unfold jx_if2 at hact <;> (split at hact <;> (first | (cases hact; done) | (split at hact <;> cases hact)))
  | goto off =>
    rw [hins] at hact
    (try dsimp only at hact)
    exfalso
    unfold jx_goto at hact
    split at hact <;> cases hact
  | lookupswitch d ps =>
    rw [hins] at hact
    (try dsimp only at hact)
    exfalso
    unfold jx_switch at hact
    split at hact
    next => split at hact <;> cases hact
    next => cases hact
  | tableswitch d lo hi offs =>
    rw [hins] at hact
    (try dsimp only at hact)
    exfalso
    unfold jx_switch at hact
    split at hact
    next => split at hact <;> cases hact
    next => cases hact
  | ireturn =>
    rw [hins] at hact
    (try dsimp only at hact)
    exfalso
    split at hact <;> cases hact
  | lreturn =>
    rw [hins] at hact
    (try dsimp only at hact)
    exfalso
    split at hact <;> cases hact
  | return_ =>
    rw [hins] at hact
    (try dsimp only at hact)
    exfalso
    split at hact <;> cases hact
  | _ => rw [hins] at hact; cases hact
set_option maxHeartbeats 4000000 in
theorem jx_jump_frame {sw : List (Bool × Nat)} {d : Option Nat} (hact : jx_act el lv st μ = some (.inr (.inl (sw, d, lv', st')))) (hl : jx_okL2 G lv) (hs : jx_okS G st) : jx_okL2 G lv' ∧ jx_okS G st' := by
  have hact0 := hact
  unfold jx_act at hact
  cases hins : jx_ins el with
  | ifCond cd off =>
    rw [hins] at hact
    cases cd <;> dsimp only at hact <;> (obtain ⟨t, x, hi, rfl, -, -, rfl⟩ := jx_if1_inv hact; exact ⟨hl, (jx_okS_cons.mp hs).2⟩)
  | if_icmp cd off =>
    rw [hins] at hact
    cases cd <;> dsimp only at hact <;> (obtain ⟨t, x, y, hi, rfl, -, -, rfl⟩ := jx_if2_inv hact; exact ⟨hl, (jx_okS_cons.mp (jx_okS_cons.mp hs).2).2⟩)
  | goto off => rw [hins] at hact; dsimp only at hact; obtain ⟨t, hi, rfl, -, -, rfl⟩ := jx_goto_inv hact; exact ⟨hl, hs⟩
  | lookupswitch a b => rw [hins] at hact; dsimp only at hact; obtain ⟨dt, ts, x, hi, rfl, -, -, rfl⟩ := jx_switch_inv hact; exact ⟨hl, (jx_okS_cons.mp hs).2⟩
  | tableswitch a b c d => rw [hins] at hact; dsimp only at hact; obtain ⟨dt, ts, x, hi, rfl, -, -, rfl⟩ := jx_switch_inv hact; exact ⟨hl, (jx_okS_cons.mp hs).2⟩
  | ireturn => exfalso; rw [hins] at hact; dsimp only at hact; split at hact <;> cases hact
  | lreturn => exfalso; rw [hins] at hact; dsimp only at hact; split at hact <;> cases hact
  | return_ => exfalso; rw [hins] at hact; dsimp only at hact; split at hact <;> cases hact
  | invokevirtual i => exfalso; rw [hins] at hact; dsimp only at hact; obtain ⟨z, hz⟩ := jx_callV_inr hact; cases hz
  | invokestatic i => exfalso; rw [hins] at hact; dsimp only at hact; obtain ⟨z, hz⟩ := jx_callS_inr hact; cases hz
  | _ => exfalso; have hz := jx_act_inr hact0; rw [hins] at hz; cases hz
set_option maxHeartbeats 4000000 in
theorem jx_call_frame {j mode rk : Nat} {as rest : List Value} (hact : jx_act el lv st μ = some (.inr (.inr (.inr (j, mode, rk, as, rest))))) (hs : jx_okS G st) : jx_okS G as ∧ jx_okS G rest := by
  have hact0 := hact
  unfold jx_act at hact
  cases hins : jx_ins el with
  | invokevirtual idx =>
    rw [hins] at hact
    dsimp only at hact
    unfold jx_callV at hact
    split at hact
    next j0 mode0 rk0 na ci ml hi =>
      split at hact
      next i as0 r hpop =>
        split at hact
        next c0 fs0 hsh =>
          cases hq : (Nat.beq c0 ci && (Nat.ble (jx_cat r) 8 && Nat.ble (jx_cat (.ref i :: as0)) ml)) with
          | false => rw [hq] at hact; cases hact
          | true => rw [hq] at hact; cases hact; exact jx_ok_pop hs hpop
        next => cases hact
      next => cases hact
    next hi => exact absurd hact (fun q => jx_slen_nr (el := el) q)
    next hi => exact absurd hact (fun q => jx_schar_nr (el := el) q)
    next => cases hact
  | invokestatic idx =>
    rw [hins] at hact
    dsimp only at hact
    unfold jx_callS at hact
    split at hact
    next j0 mode0 rk0 na ml hi =>
      split at hact
      next as0 r hpop =>
        cases hq : (Nat.ble (jx_cat r) 8 && Nat.ble (jx_cat as0) ml) with
        | false => rw [hq] at hact; cases hact
        | true => rw [hq] at hact; cases hact; exact jx_ok_pop hs hpop
      next => cases hact
    next hi => exact absurd hact (fun q => jx_copy_nr (el := el) q)
    next hi => exact absurd hact (fun q => jx_mth1_nr (el := el) q)
    next hi => exact absurd hact (fun q => jx_mth2_nr (el := el) q)
    next hi => exact absurd hact (fun q => jx_mth2_nr (el := el) q)
    next => cases hact
  | ireturn => exfalso; rw [hins] at hact; dsimp only at hact; split at hact <;> cases hact
  | lreturn => exfalso; rw [hins] at hact; dsimp only at hact; split at hact <;> cases hact
  | return_ => exfalso; rw [hins] at hact; dsimp only at hact; split at hact <;> cases hact
  | ifCond cd off =>
    exfalso
    rw [hins] at hact
    cases cd <;> dsimp only at hact <;> unfold jx_if1 at hact <;> (split at hact <;> (first | (cases hact; done) | (split at hact <;> cases hact)))
  | if_icmp cd off =>
    exfalso
    rw [hins] at hact
    cases cd <;> dsimp only at hact <;> unfold jx_if2 at hact <;> (split at hact <;> (first | (cases hact; done) | (split at hact <;> cases hact)))
  | goto off => exfalso; rw [hins] at hact; dsimp only at hact; unfold jx_goto at hact; split at hact <;> cases hact
  | lookupswitch a b => exfalso; rw [hins] at hact; dsimp only at hact; unfold jx_switch at hact; (split at hact <;> (first | (cases hact; done) | (split at hact <;> cases hact)))
  | tableswitch a b c d => exfalso; rw [hins] at hact; dsimp only at hact; unfold jx_switch at hact; (split at hact <;> (first | (cases hact; done) | (split at hact <;> cases hact)))
  | _ => exfalso; have hz := jx_act_inr hact0; rw [hins] at hz; cases hz
end JXR
theorem jx_valsOk : ∀ M ∈ jx_ms, ∀ el ∈ M.2.2.2.2.2.2, ∀ v ∈ jx_vals el, jx_okv (fun _ => false) v = true := by
  have key : jx_ms.all (fun M => M.2.2.2.2.2.2.all (fun el => (jx_vals el).all (jx_okv (fun _ => false)))) = true := by decide +kernel
  intro M hM el hel v hv
  exact List.all_eq_true.mp (List.all_eq_true.mp (List.all_eq_true.mp key M hM) el hel) v hv
theorem jx_run_frame {G : Nat → Bool} (hclo : jx_clo G) : ∀ (n j lev pc : Nat) (lv : jx_Lv) (st : List Value) (μ : jx_Mem) (v : Option Value) (μ' : jx_Mem), jx_run n j lev pc lv st μ = some (v, μ') → jx_okL2 G lv → jx_okS G st → jx_same G μ μ' := by
  intro n
  induction n with
  | zero => intro j lev pc lv st μ v μ' h; cases h
  | succ n ih =>
    intro j lev pc lv st μ v μ' h hl hs
    unfold jx_run at h
    cases hsk : jx_seek pc (jx_cd j) with
    | nil => rw [hsk] at h; cases h
    | cons el k =>
      rw [hsk] at h
      dsimp only at h
      have hvals : ∀ v ∈ jx_vals el, jx_okv G v = true := by
        intro w hw
        cases hM : jx_ms[j]? with
        | none => unfold jx_cd at hsk; rw [hM] at hsk; cases hsk
        | some M =>
          have hcd : jx_cd j = M.2.2.2.2.2.2 := by unfold jx_cd; rw [hM]
          rw [hcd] at hsk
          have h0 := jx_valsOk M (List.mem_of_getElem? hM) el (jx_seek_mem _ hsk) w hw
          cases w <;> first | rfl | (show (G _ || Nat.ble 900 _) = true; rw [Bool.or_eq_true]; right; simpa [jx_okv] using h0)
      cases ha : jx_act el (jx_arr el lv) st μ with
      | none => rw [ha] at h; cases h
      | some a =>
        rw [ha] at h
        rcases a with ⟨b, lv', st', μ1⟩ | ⟨sw, d, lv', st'⟩ | ⟨b, v1⟩ | ⟨j', mode, rk, as, rest⟩
        · dsimp only at h
          cases b with
          | false => cases h
          | true =>
            obtain ⟨h1, h2, h3⟩ := jx_go_frame hclo hvals ha (jx_ok_arr el hl) hs
            exact h3.tr (ih _ _ _ _ _ _ _ _ h h1 h2)
        · dsimp only at h
          obtain ⟨h1, h2⟩ := jx_jump_frame ha (jx_ok_arr el hl) hs
          cases hp : jx_pick sw d with
          | none => rw [hp] at h; exact ih _ _ _ _ _ _ _ _ h h1 h2
          | some t => rw [hp] at h; exact ih _ _ _ _ _ _ _ _ h h1 h2
        · dsimp only at h
          cases b with
          | false => cases h
          | true => cases h; exact jx_same.rf
        · dsimp only at h
          obtain ⟨h1, h2⟩ := jx_call_frame ha hs
          cases hlv : jx_lev mode lev with
          | none => rw [hlv] at h; cases h
          | some lev' =>
            rw [hlv] at h
            dsimp only at h
            cases hc : jx_run n j' lev' 0 (lv_args 0 as) [] μ with
            | none => rw [hc] at h; cases h
            | some r1 =>
              rw [hc] at h
              dsimp only at h
              cases hq : jx_ret rk r1.1 rest with
              | none => rw [hq] at h; cases h
              | some st2 =>
                rw [hq] at h
                dsimp only at h
                have e1 := ih _ _ _ _ _ _ _ _ hc (jx_ok_args as 0 h1) (fun _ hz => by cases hz)
                have e2 : jx_okS G st2 := by
                  unfold jx_ret at hq
                  split at hq
                  next => cases hq; exact h2
                  next => cases hq; exact jx_okS_cons.mpr ⟨rfl, h2⟩
                  next => cases hq; exact jx_okS_cons.mpr ⟨rfl, h2⟩
                  next => cases hq
                exact e1.tr (ih _ _ _ _ _ _ _ _ h (jx_ok_arr el hl) e2)
/-- the fair's own cells; the reference's own -/
def jx_GF (a : Nat) : Bool := Nat.ble a 62
def jx_GM (a : Nat) : Bool := Nat.ble 63 a && Nat.ble a 108
theorem jx_cloF : jx_clo jx_GF := by
  intro i ci fs hG hs k a hf
  have key : jx_sh.zipIdx.all (fun q => !(jx_GF q.2) || (match q.1 with | .inl (_, f) => f.all (fun x => match x with | some a => jx_GF a | none => true) | _ => true)) = true := by decide +kernel
  have h1 := List.all_eq_true.mp key (.inl (ci, fs), i) (List.mem_zipIdx_iff_getElem?.mpr hs)
  dsimp only at h1
  rw [hG] at h1
  simp only [Bool.not_true, Bool.false_or] at h1
  exact List.all_eq_true.mp h1 (some a) (List.mem_of_getElem? hf)
theorem jx_cloM : jx_clo jx_GM := by
  intro i ci fs hG hs k a hf
  have key : jx_sh.zipIdx.all (fun q => !(jx_GM q.2) || (match q.1 with | .inl (_, f) => f.all (fun x => match x with | some a => jx_GM a | none => true) | _ => true)) = true := by decide +kernel
  have h1 := List.all_eq_true.mp key (.inl (ci, fs), i) (List.mem_zipIdx_iff_getElem?.mpr hs)
  dsimp only at h1
  rw [hG] at h1
  simp only [Bool.not_true, Bool.false_or] at h1
  exact List.all_eq_true.mp h1 (some a) (List.mem_of_getElem? hf)
theorem jx_ev_frame {G : Nat → Bool} (hclo : jx_clo G) {j lev pc : Nat} {lv : jx_Lv} {st : List Value} {μ μ' : jx_Mem} {v : Option Value} (h : jx_ev j lev pc lv st μ = some (v, μ')) (hl : jx_okL2 G lv) (hs : jx_okS G st) : jx_same G μ μ' := by
  obtain ⟨n, hn⟩ := jx_ev_iff.mp h
  exact jx_run_frame hclo n j lev pc lv st μ v μ' hn hl hs
theorem jx_KI_frame {G : Nat → Bool} (hclo : jx_clo G) {j lev pc : Nat} {lv : jx_Lv} {st : List Value} {μ μ' : jx_Mem} {v : Int32} (h : jx_K jx_kI j lev pc lv st μ = some (v, μ')) (hl : jx_okL2 G lv) (hs : jx_okS G st) : jx_ev j lev pc lv st μ = some (some (.int v), μ') ∧ jx_same G μ μ' := by
  unfold jx_K at h
  cases he : jx_ev j lev pc lv st μ with
  | none => rw [he] at h; cases h
  | some r =>
    rw [he] at h
    obtain ⟨w, m2⟩ := r
    cases w with
    | none => cases h
    | some w =>
      cases w <;> first | (cases h; exact ⟨rfl, jx_ev_frame hclo he hl hs⟩) | cases h
