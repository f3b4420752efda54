/-! the first memory: what the constructors make, as the world of our machine -/
def jc_h1 : List jc_C := (jc_run 3000 12 0 (lv_args 0 [.ref 0]) [] [.inl (11, jc_df 11)] 0 0).getD []
def jc_h2 : List jc_C := (jc_run 3000 13 0 (lv_args 0 [.ref 63]) [] (jc_h1 ++ [.inl (12, jc_df 12)]) 0 0).getD []
def jc_h3 : List jc_C := jc_h2 ++ [.inr (1, 1, fun _ => 0)]
theorem jc_getD {o : Option (List jc_C)} (h : o.isSome = true) : o = some (o.getD []) := by
  cases o with
  | none => cases h
  | some x => rfl
theorem jc_r1 : jc_run 3000 12 0 (lv_args 0 [.ref 0]) [] [.inl (11, jc_df 11)] 0 0 = some jc_h1 := jc_getD (by decide +kernel)
theorem jc_r2 : jc_run 3000 13 0 (lv_args 0 [.ref 63]) [] (jc_h1 ++ [.inl (12, jc_df 12)]) 0 0 = some jc_h2 := jc_getD (by decide +kernel)
theorem jc_n1 : jc_h1.length = 63 := by decide +kernel
theorem jc_n2 : jc_h2.length = 109 := by decide +kernel
def jc_fm : List Value → List (Option Nat) → Bool
  | [], [] => true
  | .int _ :: vs, none :: xs => jc_fm vs xs
  | .ref a :: vs, some b :: xs => Nat.beq a b && jc_fm vs xs
  | _, _ => false
def jc_mt : jc_C → jx_Sh → Bool
  | .inl (ci, vs), .inl (cj, xs) => Nat.beq ci cj && jc_fm vs xs
  | .inr (kd, n, _), .inr (kj, nj) => Nat.beq kd kj && Nat.beq n nj
  | _, _ => false
def jc_mtL : List jc_C → List jx_Sh → Bool
  | [], [] => true
  | c :: cs, x :: xs => jc_mt c x && jc_mtL cs xs
  | _, _ => false
theorem jc_shapes : jc_mtL jc_h3 jx_sh = true := by decide +kernel
/-- a value of a cell -/
def jc_val (c : jc_C) (k : Nat) : Int32 := match c with
  | .inl (_, fs) => (match fs[k]? with | some (.int v) => v | _ => 0)
  | .inr (_, _, f) => f k
def jc_mem (hs : List jc_C) : jx_Mem := (fun i k => match hs[i]? with | some c => jc_val c k | none => 0, fun _ _ => 0)
theorem jc_fm_get {ad : Nat → Nat} {μ : jx_Mem} {i : Nat} : ∀ (vs : List Value) (xs : List (Option Nat)) (k0 : Nat), jc_fm vs xs = true → (∀ k v, vs[k]? = some (.int v) → μ.1 i (k0 + k) = v) → vs.map (jx_cv ad) = xs.mapIdx (fun k x => jx_fv ad μ i (k0 + k) x) := by
  intro vs
  induction vs with
  | nil =>
    intro xs k0 h _
    cases xs with
    | nil => rfl
    | cons x xs => cases h
  | cons v vs ih =>
    intro xs k0 h hv
    cases xs with
    | nil => cases v <;> cases h
    | cons x xs =>
      have hrec : jc_fm vs xs = true → vs.map (jx_cv ad) = xs.mapIdx (fun k x => jx_fv ad μ i (k0 + 1 + k) x) := fun h2 => ih xs (k0 + 1) h2 (fun k w hw => by
        have := hv (k + 1) w hw
        rw [show k0 + 1 + k = k0 + (k + 1) by omega]
        exact this)
      rw [List.map_cons, List.mapIdx_cons]
      have e0 : (fun k x => jx_fv ad μ i (k0 + (k + 1)) x) = (fun k x => jx_fv ad μ i (k0 + 1 + k) x) := by
        funext k x
        rw [show k0 + (k + 1) = k0 + 1 + k by omega]
      rw [e0]
      cases v with
      | int z =>
        cases x with
        | none =>
          rw [← hrec h]
          show Value.int z :: _ = Value.int (μ.1 i (k0 + 0)) :: _
          rw [hv 0 z rfl]
        | some b => cases h
      | ref a =>
        cases x with
        | none => cases h
        | some b =>
          simp only [jc_fm, Bool.and_eq_true] at h
          have hab := Nat.eq_of_beq_eq_true h.1
          subst hab
          rw [← hrec h.2]
          rfl
      | _ => cases x <;> cases h
theorem jc_world {ad : Nat → Nat} {cs : ClassId × ClassId × ClassId} {μ : jx_Mem} : ∀ (hs : List jc_C) (xs : List jx_Sh) (i0 : Nat), jc_mtL hs xs = true → (∀ i c, hs[i]? = some c → (∀ k, μ.1 (i0 + i) k = jc_val c k) ∧ ∀ k, μ.2 (i0 + i) k = 0) → hs.mapIdx (fun i c => (ad (i0 + i), jc_ce ad cs c)) = xs.mapIdx (fun i sh => (ad (i0 + i), jx_ce ad cs μ (i0 + i) sh)) := by
  intro hs
  induction hs with
  | nil =>
    intro xs i0 h _
    cases xs with
    | nil => rfl
    | cons x xs => cases h
  | cons c hs ih =>
    intro xs i0 h hv
    cases xs with
    | nil => cases h
    | cons x xs =>
      simp only [jc_mtL, Bool.and_eq_true] at h
      have hrec := ih xs (i0 + 1) h.2 (fun i c2 hc2 => by
        have := hv (i + 1) c2 hc2
        rw [show i0 + 1 + i = i0 + (i + 1) by omega]
        exact this)
      rw [List.mapIdx_cons, List.mapIdx_cons]
      have e0 : (fun (i : Nat) (c : jc_C) => (ad (i0 + (i + 1)), jc_ce ad cs c)) = (fun i c => (ad (i0 + 1 + i), jc_ce ad cs c)) := by
        funext i c
        rw [show i0 + (i + 1) = i0 + 1 + i by omega]
      have e1 : (fun (i : Nat) (sh : jx_Sh) => (ad (i0 + (i + 1)), jx_ce ad cs μ (i0 + (i + 1)) sh)) = (fun i sh => (ad (i0 + 1 + i), jx_ce ad cs μ (i0 + 1 + i) sh)) := by
        funext i sh
        rw [show i0 + (i + 1) = i0 + 1 + i by omega]
      rw [e0, e1, hrec]
      have h0 := hv 0 c rfl
      have hcell : jc_ce ad cs c = jx_ce ad cs μ (i0 + 0) x := by
        have h1 := h.1
        rcases c with ⟨ci, vs⟩ | ⟨kd, n, f⟩ <;> rcases x with ⟨cj, xs2⟩ | ⟨kj, nj⟩
        · simp only [jc_mt, Bool.and_eq_true] at h1
          have hci := Nat.eq_of_beq_eq_true h1.1
          subst hci
          show Sum.inr (ci, vs.map (jx_cv ad)) = Sum.inr (ci, xs2.mapIdx (fun k x => jx_fv ad μ (i0 + 0) k x))
          have := jc_fm_get (ad := ad) (μ := μ) (i := i0 + 0) vs xs2 0 h1.2 (fun k v hk => by
            rw [Nat.zero_add, h0.1 k]
            show (match vs[k]? with | some (.int v) => v | _ => 0) = v
            rw [hk])
          rw [this]
          simp only [Nat.zero_add]
        · cases h1
        · cases h1
        · simp only [jc_mt, Bool.and_eq_true] at h1
          have hkd := Nat.eq_of_beq_eq_true h1.1
          have hn := Nat.eq_of_beq_eq_true h1.2
          subst hkd
          subst hn
          have hf : μ.1 (i0 + 0) = f := funext h0.1
          have hg : μ.2 (i0 + 0) = fun _ => 0 := funext h0.2
          match kd with
          | 0 => show Sum.inl (cs.1, n, Sum.inl f) = Sum.inl (cs.1, n, Sum.inl (μ.1 (i0 + 0))); rw [hf]
          | 1 => show Sum.inl (cs.2.1, n, Sum.inr (Sum.inl (fun _ => 0))) = Sum.inl (cs.2.1, n, Sum.inr (Sum.inl (μ.2 (i0 + 0)))); rw [hg]
          | _ + 2 => show Sum.inl (cs.2.2, n, Sum.inl f) = Sum.inl (cs.2.2, n, Sum.inl (μ.1 (i0 + 0))); rw [hf]
      rw [hcell]
theorem jc_mem_get {hs : List jc_C} {i : Nat} {c : jc_C} (h : hs[i]? = some c) (k : Nat) : (jc_mem hs).1 i k = jc_val c k := by
  unfold jc_mem
  dsimp only
  rw [h]
theorem jc_mem_two (hs : List jc_C) (i k : Nat) : (jc_mem hs).2 i k = 0 := rfl
/-- the memory with which the loop begins -/
def jx_first : jx_Mem := jc_mem jc_h3
theorem jc_first (ad : Nat → Nat) (cs : ClassId × ClassId × ClassId) : jc_wd ad cs jc_h3 = jx_wd ad cs jx_first := by
  have h := jc_world (ad := ad) (cs := cs) (μ := jx_first) jc_h3 jx_sh 0 jc_shapes (fun i c hc => by
    rw [Nat.zero_add]
    unfold jx_first
    exact ⟨fun k => jc_mem_get hc k, fun k => jc_mem_two jc_h3 i k⟩)
  simp only [Nat.zero_add] at h
  exact h
