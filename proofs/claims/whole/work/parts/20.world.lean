/-! our machine's steps are the JVM's: a row an instruction -/
def jx_cv (ad : Nat → Nat) : Value → Value
  | .ref i => .ref (ad i)
  | v => v
def jx_mv (ad : Nat → Nat) (lv : jx_Lv) : List (Nat × Value) := lv.map (fun q => (q.1, jx_cv ad q.2))
def jx_fv (ad : Nat → Nat) (μ : jx_Mem) (i k : Nat) (x : Option Nat) : Value := match x with
  | none => .int (μ.1 i k)
  | some a => .ref (ad a)
def jx_ce (ad : Nat → Nat) (cs : ClassId × ClassId × ClassId) (μ : jx_Mem) (i : Nat) (sh : jx_Sh) : va_E := match sh with
  | .inl (ci, fs) => .inr (ci, fs.mapIdx (fun k x => jx_fv ad μ i k x))
  | .inr (0, n) => .inl (cs.1, n, .inl (μ.1 i))
  | .inr (1, n) => .inl (cs.2.1, n, .inr (.inl (μ.2 i)))
  | .inr (_ + 2, n) => .inl (cs.2.2, n, .inl (μ.1 i))
def jx_wd (ad : Nat → Nat) (cs : ClassId × ClassId × ClassId) (μ : jx_Mem) : va_W := jx_sh.mapIdx (fun i sh => (ad i, jx_ce ad cs μ i sh))
def jx_tys (cs : ClassId × ClassId × ClassId) : List (ClassId × FieldType) := [(cs.1, .int), (cs.2.1, .long), (cs.2.2, .boolean)]
/-- the world: the cells, the tables, what never changes -/
def jx_P (ad : Nat → Nat) (D : va_G) (cs : ClassId × ClassId × ClassId) (A : Nat → Prop) (X : Heap → State → Prop) (μ : jx_Mem) (H : Heap) (U : State) : Prop :=
  va_P D jx_cl (jx_wd ad cs μ) H ∧ va_D A (jx_wd ad cs μ) ∧ va_K D jx_cl (jx_tys cs) U ∧ (∀ w ∈ jx_nest, va_Nw w U) ∧ X H U
/-- what lies outside: it stays -/
def jx_XK (A : Nat → Prop) (X : Heap → State → Prop) : Prop := (∀ (H : Heap) (s U : State), s.WarmedH U.vm → X H s → X H U) ∧ (∀ (H : Heap) (u U : State), u.vm = U.vm → X H u → X H U) ∧ ∀ (H H1 : Heap) (U : State), (∀ q : Nat, q < H.size → ¬ A q → H1[q]? = H[q]?) → X H U → X H1 U
theorem jx_cat_cv (ad : Nat → Nat) (v : Value) : (jx_cv ad v).category = v.category := by cases v <;> rfl
theorem jx_get_has {ad : Nat → Nat} {ls : Array Slot} {n i : Nat} {v : Value} : ∀ {lv : jx_Lv}, lv_has ls n (jx_mv ad lv) → jx_get lv i = some v → ls[i]? = some (.val (jx_cv ad v)) := by
  intro lv h hg
  have hm : (i, v) ∈ lv := by
    clear h
    induction lv with
    | nil => cases hg
    | cons q r ih =>
      unfold jx_get at hg
      cases hb : Nat.beq q.1 i with
      | true =>
        rw [hb] at hg
        have h1 : q.1 = i := Nat.eq_of_beq_eq_true hb
        have h2 : q.2 = v := Option.some.inj hg
        rw [show (i, v) = q from by rw [← h1, ← h2]]
        exact List.mem_cons_self
      | false => rw [hb] at hg; exact List.mem_cons_of_mem _ (ih hg)
  exact h.2.2 (i, jx_cv ad v) (List.mem_map.mpr ⟨(i, v), hm, rfl⟩)
theorem jx_get_place {ad : Nat → Nat} {i : Nat} {v : Value} : ∀ {lv : jx_Lv}, jx_get lv i = some v → ∃ k : Nat, (jx_mv ad lv)[k]? = some (i, jx_cv ad v) := by
  intro lv hg
  induction lv with
  | nil => cases hg
  | cons q r ih =>
    unfold jx_get at hg
    cases hb : Nat.beq q.1 i with
    | true =>
      rw [hb] at hg
      have h1 : q.1 = i := Nat.eq_of_beq_eq_true hb
      have h2 : q.2 = v := Option.some.inj hg
      exact ⟨0, by rw [← h1, ← h2]; rfl⟩
    | false =>
      rw [hb] at hg
      obtain ⟨k, hk⟩ := ih hg
      exact ⟨k + 1, hk⟩
theorem jx_mv_set1 (ad : Nat → Nat) (lv : jx_Lv) (i : Nat) (v : Value) : (i, jx_cv ad v) :: (jx_mv ad lv).filter (fun q => !(q.1 == i) && !(q.1 + 1 == i && q.2.category == 2)) = jx_mv ad (jx_set1 lv i v) := by
  unfold jx_mv jx_set1
  rw [List.map_cons, List.filter_map]
  congr 2
  apply List.filter_congr
  intro q _
  simp only [Function.comp, jx_cat_cv]
theorem jx_mv_set2 (ad : Nat → Nat) (lv : jx_Lv) (i : Nat) (v : Value) : (i, jx_cv ad v) :: (jx_mv ad lv).filter (fun q => !(q.1 == i) && (!(q.1 == i + 1) && !(q.1 + 1 == i && q.2.category == 2))) = jx_mv ad (jx_set2 lv i v) := by
  unfold jx_mv jx_set2
  rw [List.map_cons, List.filter_map]
  congr 2
  apply List.filter_congr
  intro q _
  simp only [Function.comp, jx_cat_cv]
theorem jx_has_trim {ad : Nat → Nat} {ls : Array Slot} {n : Nat} {lv : jx_Lv} (ks : List Nat) (h : lv_has ls n (jx_mv ad lv)) : lv_has ls n (jx_mv ad (jx_trim ks lv)) := by
  refine ⟨h.1, h.2.1, fun q hq => ?_⟩
  obtain ⟨a, ha, rfl⟩ := List.mem_map.mp hq
  obtain ⟨i, -, hi⟩ := List.mem_filterMap.mp ha
  cases hg : jx_get lv i with
  | none => rw [hg] at hi; cases hi
  | some v =>
    rw [hg] at hi
    cases hi
    exact jx_get_has h hg
theorem jx_has_arr {ad : Nat → Nat} {ls : Array Slot} {n : Nat} {lv : jx_Lv} (el : jx_El) (h : lv_has ls n (jx_mv ad lv)) : lv_has ls n (jx_mv ad (jx_arr el lv)) := by
  unfold jx_arr
  cases jx_keep el with
  | none => exact h
  | some ks => exact jx_has_trim ks h
theorem jx_cat_sum (ad : Nat → Nat) (st : List Value) : ((st.map (jx_cv ad)).map fun v => v.category).sum = jx_cat st := by
  induction st with
  | nil => rfl
  | cons v r ih =>
    rw [List.map_cons, List.map_cons, List.sum_cons, ih, jx_cat_cv]
    rfl
theorem jx_cat_sl (ad : Nat → Nat) (st : List Value) : (lg_sl (st.map (jx_cv ad))).length = jx_cat st := by
  induction st with
  | nil => rfl
  | cons v r ih =>
    have h0 : lg_sl ((v :: r).map (jx_cv ad)) = (if (jx_cv ad v).category = 2 then [Slot.val (jx_cv ad v), Slot.second] else [Slot.val (jx_cv ad v)]) ++ lg_sl (r.map (jx_cv ad)) := rfl
    rw [h0, List.length_append, ih]
    show _ = v.category + jx_cat r
    rw [jx_cat_cv]
    rcases lv_cat v with h | h <;> simp [h]
theorem jx_pop_app : ∀ (n : Nat) (st acc as r : List Value), jx_pop n st acc = some (as, r) → ∃ xs : List Value, xs.length = n ∧ st = xs ++ r ∧ as = xs.reverse ++ acc := by
  intro n
  induction n with
  | zero =>
    intro st acc as r h
    cases h
    exact ⟨[], rfl, rfl, rfl⟩
  | succ n ih =>
    intro st acc as r h
    cases st with
    | nil => cases h
    | cons v st =>
      obtain ⟨xs, h1, h2, h3⟩ := ih st (v :: acc) as r h
      exact ⟨v :: xs, by rw [List.length_cons, h1], by rw [h2]; rfl, by rw [h3]; simp⟩
theorem jx_pop_spec {n : Nat} {st as r : List Value} (h : jx_pop n st [] = some (as, r)) : as.length = n ∧ st = as.reverse ++ r := by
  obtain ⟨xs, h1, h2, h3⟩ := jx_pop_app n st [] as r h
  rw [List.append_nil] at h3
  exact ⟨by rw [h3, List.length_reverse, h1], by rw [h3, List.reverse_reverse]; exact h2⟩
theorem jx_mapArgs (ad : Nat → Nat) : ∀ (vs : List Value) (i : Nat), lv_args i (vs.map (jx_cv ad)) = jx_mv ad (lv_args i vs) := by
  intro vs
  induction vs with
  | nil => intro i; rfl
  | cons v r ih =>
    intro i
    show (i, jx_cv ad v) :: lv_args (if (jx_cv ad v).category = 2 then i + 2 else i + 1) (r.map (jx_cv ad)) = (i, jx_cv ad v) :: jx_mv ad (lv_args (if v.category = 2 then i + 2 else i + 1) r)
    rw [jx_cat_cv, ih]
theorem jx_wd_get {ad : Nat → Nat} {cs : ClassId × ClassId × ClassId} {μ : jx_Mem} {i : Nat} {sh : jx_Sh} (h : jx_shape i = some sh) : (jx_wd ad cs μ)[i]? = some (ad i, jx_ce ad cs μ i sh) := by
  unfold jx_shape at h
  unfold jx_wd
  rw [List.getElem?_mapIdx, h]
  rfl
theorem jx_ce_congr {ad : Nat → Nat} {cs : ClassId × ClassId × ClassId} {μ μ' : jx_Mem} {i : Nat} (h1 : μ.1 i = μ'.1 i) (h2 : μ.2 i = μ'.2 i) (sh : jx_Sh) : jx_ce ad cs μ i sh = jx_ce ad cs μ' i sh := by
  unfold jx_ce
  rcases sh with ⟨ci, fs⟩ | ⟨kd, n⟩
  · have e1 : (fun (k : Nat) (x : Option Nat) => jx_fv ad μ i k x) = (fun k x => jx_fv ad μ' i k x) := by
      funext k x
      unfold jx_fv
      rw [h1]
    dsimp only
    rw [e1]
  · match kd with
    | 0 => dsimp only; rw [h1]
    | 1 => dsimp only; rw [h2]
    | _ + 2 => dsimp only; rw [h1]
theorem jx_wd_set {ad : Nat → Nat} {cs : ClassId × ClassId × ClassId} {μ μ' : jx_Mem} {i : Nat} {sh : jx_Sh} {x : va_E} (h : jx_shape i = some sh) (hx : jx_ce ad cs μ' i sh = x) (h1 : ∀ q, q ≠ i → μ.1 q = μ'.1 q) (h2 : ∀ q, q ≠ i → μ.2 q = μ'.2 q) : (jx_wd ad cs μ).set i (ad i, x) = jx_wd ad cs μ' := by
  subst hx
  have hi : i < jx_sh.length := (List.getElem?_eq_some_iff.mp h).1
  apply List.ext_getElem?
  intro q
  rw [List.getElem?_set]
  by_cases hq : i = q
  · subst hq
    rw [if_pos rfl, jx_wd_get h, if_pos (by unfold jx_wd; rw [List.length_mapIdx]; exact hi)]
  · rw [if_neg hq]
    unfold jx_wd
    rw [List.getElem?_mapIdx, List.getElem?_mapIdx]
    cases hs : jx_sh[q]? with
    | none => rfl
    | some s2 =>
      show some (ad q, _) = some (ad q, _)
      rw [jx_ce_congr (h1 q (fun e => hq e.symm)) (h2 q (fun e => hq e.symm))]
theorem jx_up_row {α : Type} (f : Nat → Nat → α) (a k : Nat) (v : α) {q : Nat} (h : q ≠ a) : f q = jx_up f a k v q := by
  funext j
  unfold jx_up
  rw [if_neg (fun e => h e.1)]
theorem jx_up_self (f : Nat → Nat → Int32) (a k : Nat) (v : Int32) : jx_up f a k v a = upd (f a) k v := by
  funext j
  unfold jx_up upd
  by_cases h : j = k
  · rw [if_pos ⟨rfl, h⟩, if_pos h]
  · rw [if_neg (fun e => h e.2), if_neg h]
theorem jx_up_selfL (f : Nat → Nat → Int64) (a k : Nat) (v : Int64) : jx_up f a k v a = vp_updL (f a) k v := by
  funext j
  unfold jx_up vp_updL
  by_cases h : j = k
  · rw [if_pos ⟨rfl, h⟩, if_pos h]
  · rw [if_neg (fun e => h e.2), if_neg h]
theorem jx_in_vp {x : Int32} {n : Nat} (h : jx_in x n = true) : vp_in x n := by
  unfold jx_in at h
  simp only [Bool.and_eq_true, Bool.not_eq_true', decide_eq_false_iff_not, decide_eq_true_eq] at h
  rintro (h1 | h1)
  · exact h.1 h1
  · omega
theorem jx_01_nar {v : Int32} (h : jx_01 v = true) : narrow .boolean (.int v) = .int v ∧ fits .boolean (.int v) = true ∧ vp_nar .boolean v = v := by
  unfold jx_01 at h
  simp only [Bool.or_eq_true, decide_eq_true_eq] at h
  rcases h with rfl | rfl
  · exact ⟨by decide, by decide, by decide⟩
  · exact ⟨by decide, by decide, by decide⟩
