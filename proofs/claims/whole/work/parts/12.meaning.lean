/-! what a method means: the limit of its runs; it keeps the step's equation; unrolled between the places where roads meet -/
theorem jx_run_mono : ∀ (n j lev pc : Nat) (lv : jx_Lv) (st : List Value) (μ : jx_Mem) (r : Option Value × jx_Mem), jx_run n j lev pc lv st μ = some r → jx_run (n + 1) j lev pc lv st μ = some r := by
  intro n
  induction n with
  | zero => intro j lev pc lv st μ r h; simp [jx_run] at h
  | succ n ih =>
    intro j lev pc lv st μ r h
    unfold jx_run at h ⊢
    cases hs : jx_seek pc (jx_cd j) with
    | nil => rw [hs] at h; exact absurd h (by simp)
    | cons el k =>
      rw [hs] at h
      dsimp only at h ⊢
      cases ha : jx_act el (jx_arr el lv) st μ with
      | none => rw [ha] at h; exact absurd h (by simp)
      | some a =>
        rw [ha] at h
        rcases a with ⟨b, lv', st', μ'⟩ | ⟨sw, d, lv', st'⟩ | ⟨b, v⟩ | ⟨j', mode, rk, args, rest⟩
        · dsimp only at h ⊢
          cases b with
          | false => exact absurd h (by simp)
          | true => exact ih _ _ _ _ _ _ _ h
        · dsimp only at h ⊢
          cases hp : jx_pick sw d with
          | none => rw [hp] at h; exact ih _ _ _ _ _ _ _ h
          | some t => rw [hp] at h; exact ih _ _ _ _ _ _ _ h
        · exact h
        · dsimp only at h ⊢
          cases hl : jx_lev mode lev with
          | none => rw [hl] at h; exact absurd h (by simp)
          | some lev' =>
            rw [hl] at h
            dsimp only at h ⊢
            cases hr : jx_run n j' lev' 0 (lv_args 0 args) [] μ with
            | none => rw [hr] at h; exact absurd h (by simp)
            | some r1 =>
              rw [hr] at h
              rw [ih _ _ _ _ _ _ _ hr]
              dsimp only at h ⊢
              cases hq : jx_ret rk r1.1 rest with
              | none => rw [hq] at h; exact absurd h (by simp)
              | some st' => rw [hq] at h; exact ih _ _ _ _ _ _ _ h
theorem jx_run_le {n m : Nat} (hnm : n ≤ m) {j lev pc : Nat} {lv : jx_Lv} {st : List Value} {μ : jx_Mem} {r : Option Value × jx_Mem} (h : jx_run n j lev pc lv st μ = some r) : jx_run m j lev pc lv st μ = some r := by
  induction hnm with
  | refl => exact h
  | step _ ih => exact jx_run_mono _ _ _ _ _ _ _ _ ih
noncomputable def jx_ev (j lev pc : Nat) (lv : jx_Lv) (st : List Value) (μ : jx_Mem) : Option (Option Value × jx_Mem) :=
  @dite _ (∃ r, ∃ n, jx_run n j lev pc lv st μ = some r) (Classical.propDecidable _) (fun h => some h.choose) (fun _ => none)
theorem jx_ev_iff {j lev pc : Nat} {lv : jx_Lv} {st : List Value} {μ : jx_Mem} {r : Option Value × jx_Mem} : jx_ev j lev pc lv st μ = some r ↔ ∃ n, jx_run n j lev pc lv st μ = some r := by
  unfold jx_ev
  constructor
  · intro h
    split at h
    next hx =>
      obtain ⟨n, hn⟩ := hx.choose_spec
      rw [Option.some.inj h] at hn
      exact ⟨n, hn⟩
    next => exact absurd h (by simp)
  · intro ⟨n, hn⟩
    have hx : ∃ r, ∃ n, jx_run n j lev pc lv st μ = some r := ⟨r, n, hn⟩
    rw [dif_pos hx]
    obtain ⟨m, hm⟩ := hx.choose_spec
    have h1 := jx_run_le (Nat.le_max_left n m) hn
    have h2 := jx_run_le (Nat.le_max_right n m) hm
    rw [h1] at h2
    exact congrArg some (Option.some.inj h2).symm
/-- one step, over a meaning of what comes behind it -/
def jx_step (ev : Nat → Nat → Nat → jx_Lv → List Value → jx_Mem → Option (Option Value × jx_Mem)) (j lev pc : Nat) (lv : jx_Lv) (st : List Value) (μ : jx_Mem) : Option (Option Value × jx_Mem) :=
    match jx_seek pc (jx_cd j) with
    | [] => none
    | el :: _ => match jx_act el (jx_arr el lv) st μ with
      | none => none
      | some (.inl (b, lv', st', μ')) => bif b then ev j lev (pc + jx_len el) lv' st' μ' else none
      | some (.inr (.inl (sw, d, lv', st'))) => match jx_pick sw d with
        | some t => ev j lev t lv' st' μ
        | none => ev j lev (pc + jx_len el) lv' st' μ
      | some (.inr (.inr (.inl (b, v)))) => bif b then some (v, μ) else none
      | some (.inr (.inr (.inr (j', mode, rk, args, rest)))) => match jx_lev mode lev with
        | none => none
        | some lev' => match ev j' lev' 0 (lv_args 0 args) [] μ with
          | none => none
          | some r => match jx_ret rk r.1 rest with
            | none => none
            | some st' => ev j lev (pc + jx_len el) (jx_arr el lv) st' r.2
theorem jx_run_step (n j lev pc : Nat) (lv : jx_Lv) (st : List Value) (μ : jx_Mem) : jx_run (n + 1) j lev pc lv st μ = jx_step (jx_run n) j lev pc lv st μ := rfl
theorem jx_ev_fix (j lev pc : Nat) (lv : jx_Lv) (st : List Value) (μ : jx_Mem) : jx_ev j lev pc lv st μ = jx_step jx_ev j lev pc lv st μ := by
  apply Option.ext
  intro r
  rw [jx_ev_iff]
  have hsucc : (∃ n, jx_run n j lev pc lv st μ = some r) ↔ ∃ n, jx_step (jx_run n) j lev pc lv st μ = some r := by
    constructor
    · rintro ⟨n, hn⟩
      exact ⟨n, by rw [← jx_run_step]; exact jx_run_mono _ _ _ _ _ _ _ _ hn⟩
    · rintro ⟨n, hn⟩
      exact ⟨n + 1, by rw [jx_run_step]; exact hn⟩
  rw [hsucc]
  unfold jx_step
  cases hs : jx_seek pc (jx_cd j) with
  | nil => simp
  | cons el k =>
    dsimp only
    cases ha : jx_act el (jx_arr el lv) st μ with
    | none => simp
    | some a =>
      rcases a with ⟨b, lv', st', μ'⟩ | ⟨sw, d, lv', st'⟩ | ⟨b, v⟩ | ⟨j', mode, rk, args, rest⟩
      · dsimp only
        cases b with
        | false => simp
        | true => exact jx_ev_iff.symm
      · dsimp only
        cases hp : jx_pick sw d with
        | none => exact jx_ev_iff.symm
        | some t => exact jx_ev_iff.symm
      · dsimp only
        exact ⟨fun ⟨_, h⟩ => h, fun h => ⟨0, h⟩⟩
      · dsimp only
        cases hl : jx_lev mode lev with
        | none => simp
        | some lev' =>
          dsimp only
          cases he : jx_ev j' lev' 0 (lv_args 0 args) [] μ with
          | none =>
            constructor
            · rintro ⟨n, hn⟩
              cases hr : jx_run n j' lev' 0 (lv_args 0 args) [] μ with
              | none => rw [hr] at hn; exact absurd hn (by simp)
              | some r1 => rw [jx_ev_iff.mpr ⟨n, hr⟩] at he; exact absurd he (by simp)
            · intro h; exact absurd h (by simp)
          | some r1 =>
            dsimp only
            obtain ⟨n1, h1⟩ := jx_ev_iff.mp he
            cases hq : jx_ret rk r1.1 rest with
            | none =>
              constructor
              · rintro ⟨n, hn⟩
                cases hr : jx_run n j' lev' 0 (lv_args 0 args) [] μ with
                | none => rw [hr] at hn; exact absurd hn (by simp)
                | some r2 =>
                  have : r2 = r1 := by
                    have h3 := jx_ev_iff.mpr ⟨n, hr⟩
                    rw [he] at h3
                    exact (Option.some.inj h3).symm
                  subst this
                  rw [hr] at hn
                  dsimp only at hn
                  rw [hq] at hn
                  exact absurd hn (by simp)
              · intro h; exact absurd h (by simp)
            | some st' =>
              dsimp only
              rw [jx_ev_iff]
              constructor
              · rintro ⟨n, hn⟩
                cases hr : jx_run n j' lev' 0 (lv_args 0 args) [] μ with
                | none => rw [hr] at hn; exact absurd hn (by simp)
                | some r2 =>
                  have : r2 = r1 := by
                    have h3 := jx_ev_iff.mpr ⟨n, hr⟩
                    rw [he] at h3
                    exact (Option.some.inj h3).symm
                  subst this
                  rw [hr] at hn
                  dsimp only at hn
                  rw [hq] at hn
                  exact ⟨n, hn⟩
              · rintro ⟨n, hn⟩
                refine ⟨max n n1, ?_⟩
                rw [jx_run_le (Nat.le_max_right n n1) h1]
                dsimp only
                rw [hq]
                exact jx_run_le (Nat.le_max_left n n1) hn
/-- the meaning, with what is done with the answer -/
noncomputable def jx_K {β : Type} (κ : Option Value → jx_Mem → Option β) (j lev pc : Nat) (lv : jx_Lv) (st : List Value) (μ : jx_Mem) : Option β := (jx_ev j lev pc lv st μ).bind (fun r => κ r.1 r.2)
def jx_kI : Option Value → jx_Mem → Option (Int32 × jx_Mem) := fun v μ => match v with
  | some (.int x) => some (x, μ)
  | _ => none
def jx_kL : Option Value → jx_Mem → Option (Int64 × jx_Mem) := fun v μ => match v with
  | some (.long x) => some (x, μ)
  | _ => none
def jx_kV : Option Value → jx_Mem → Option jx_Mem := fun v μ => match v with
  | none => some μ
  | _ => none
/-- the first case that holds -/
def jx_D {β : Type} (f : Option Nat → Option β) (d : Option Nat) : List (Bool × Nat) → Option β
  | [] => f d
  | q :: r => if q.1 = true then f (some q.2) else jx_D f d r
theorem jx_D_pick {β : Type} (f : Option Nat → Option β) (d : Option Nat) (sw : List (Bool × Nat)) : jx_D f d sw = f (jx_pick sw d) := by
  induction sw with
  | nil => rfl
  | cons q r ih =>
    unfold jx_D jx_pick
    cases hq : q.1 with
    | true => simp
    | false => simpa using ih
/-- arriving at an element: where roads meet we stop -/
noncomputable def jx_U {β : Type} (κ : Option Value → jx_Mem → Option β) (C : List jx_El) (j lev : Nat) : Nat → List jx_El → jx_Lv → List Value → jx_Mem → Option β
  | _, [], _, _, _ => none
  | 0, el :: _, lv, st, μ => jx_K κ j lev el.1 lv st μ
  | n + 1, el :: k, lv, st, μ => match jx_act el lv st μ with
    | none => none
    | some (.inl (b, lv', st', μ')) => bif b then (match k with
      | [] => none
      | e2 :: k2 => match jx_keep e2 with
        | none => jx_U κ C j lev n (e2 :: k2) lv' st' μ'
        | some ks => jx_K κ j lev e2.1 (jx_trim ks lv') st' μ') else none
    | some (.inr (.inl (sw, d, lv', st'))) =>
      jx_D (fun t => match t with
        | some t => (match jx_seek t C with
          | [] => none
          | e2 :: k2 => match jx_keep e2 with
            | none => jx_U κ C j lev n (e2 :: k2) lv' st' μ
            | some ks => jx_K κ j lev e2.1 (jx_trim ks lv') st' μ)
        | none => (match k with
          | [] => none
          | e2 :: k2 => match jx_keep e2 with
            | none => jx_U κ C j lev n (e2 :: k2) lv' st' μ
            | some ks => jx_K κ j lev e2.1 (jx_trim ks lv') st' μ)) d sw
    | some (.inr (.inr (.inl (b, v)))) => bif b then κ v μ else none
    | some (.inr (.inr (.inr (j', mode, rk, args, rest)))) => match jx_lev mode lev with
      | none => none
      | some lev' => match rk with
        | 0 => (jx_K jx_kV j' lev' 0 (lv_args 0 args) [] μ).bind (fun m => match k with
          | [] => none
          | e2 :: k2 => match jx_keep e2 with
            | none => jx_U κ C j lev n (e2 :: k2) lv rest m
            | some ks => jx_K κ j lev e2.1 (jx_trim ks lv) rest m)
        | 1 => (jx_K jx_kI j' lev' 0 (lv_args 0 args) [] μ).bind (fun p => match k with
          | [] => none
          | e2 :: k2 => match jx_keep e2 with
            | none => jx_U κ C j lev n (e2 :: k2) lv (.int p.1 :: rest) p.2
            | some ks => jx_K κ j lev e2.1 (jx_trim ks lv) (.int p.1 :: rest) p.2)
        | 2 => (jx_K jx_kL j' lev' 0 (lv_args 0 args) [] μ).bind (fun p => match k with
          | [] => none
          | e2 :: k2 => match jx_keep e2 with
            | none => jx_U κ C j lev n (e2 :: k2) lv (.long p.1 :: rest) p.2
            | some ks => jx_K κ j lev e2.1 (jx_trim ks lv) (.long p.1 :: rest) p.2)
        | _ => none
