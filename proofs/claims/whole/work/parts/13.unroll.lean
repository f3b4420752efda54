/-! the unrolled text means what the method means -/
def jx_wf : List jx_El → Bool
  | [] => true
  | e :: k => match k with
    | [] => Nat.ble 1 e.2.1
    | e2 :: _ => Nat.ble 1 e.2.1 && (Nat.beq (e.1 + e.2.1) e2.1 && jx_wf k)
theorem jx_wf_tail {e : jx_El} {k : List jx_El} (h : jx_wf (e :: k) = true) : jx_wf k = true := by
  cases k with
  | nil => rfl
  | cons e2 r => simp only [jx_wf, Bool.and_eq_true] at h ⊢; exact h.2.2
theorem jx_wf_pos {e : jx_El} {k : List jx_El} (h : jx_wf (e :: k) = true) : 1 ≤ e.2.1 := by
  cases k with
  | nil => exact Nat.le_of_ble_eq_true h
  | cons e2 r => simp only [jx_wf, Bool.and_eq_true] at h; exact Nat.le_of_ble_eq_true h.1
theorem jx_wf_next {e e2 : jx_El} {r : List jx_El} (h : jx_wf (e :: e2 :: r) = true) : e.1 + e.2.1 = e2.1 := by
  simp only [jx_wf, Bool.and_eq_true] at h
  exact Nat.eq_of_beq_eq_true h.2.1
theorem jx_wf_gt : ∀ (k : List jx_El) (e : jx_El), jx_wf (e :: k) = true → ∀ x ∈ k, e.1 < x.1 := by
  intro k
  induction k with
  | nil => intro e _ x hx; cases hx
  | cons e2 r ih =>
    intro e h x hx
    have h1 := jx_wf_next h
    have h2 := jx_wf_pos h
    rcases List.mem_cons.mp hx with rfl | hx
    · omega
    · have := ih e2 (jx_wf_tail h) x hx
      omega
theorem jx_seek_none {t : Nat} : ∀ (C : List jx_El), (∀ x ∈ C, x.1 ≠ t) → jx_seek t C = [] := by
  intro C
  induction C with
  | nil => intro _; rfl
  | cons e k ih =>
    intro h
    have h1 : Nat.beq e.1 t = false := by
      cases hb : Nat.beq e.1 t with
      | false => rfl
      | true => exact absurd (Nat.eq_of_beq_eq_true hb) (h e List.mem_cons_self)
    unfold jx_seek
    rw [h1]
    exact ih (fun x hx => h x (List.mem_cons_of_mem _ hx))
theorem jx_seek_pc {t : Nat} {e : jx_El} {k : List jx_El} : ∀ (C : List jx_El), jx_seek t C = e :: k → e.1 = t := by
  intro C
  induction C with
  | nil => intro h; cases h
  | cons e1 r ih =>
    intro h
    unfold jx_seek at h
    cases hb : Nat.beq e1.1 t with
    | false => rw [hb] at h; exact ih h
    | true =>
      rw [hb] at h
      cases h
      exact Nat.eq_of_beq_eq_true hb
theorem jx_seek_next {t : Nat} {e : jx_El} {k : List jx_El} : ∀ (C : List jx_El), jx_wf C = true → jx_seek t C = e :: k → jx_seek (t + e.2.1) C = k := by
  intro C
  induction C with
  | nil => intro _ h; cases h
  | cons e1 r ih =>
    intro hw h
    have hpc := jx_seek_pc _ h
    unfold jx_seek at h
    cases hb : Nat.beq e1.1 t with
    | true =>
      rw [hb] at h
      cases h
      have hp := jx_wf_pos hw
      have hb2 : Nat.beq e.1 (t + e.2.1) = false := by
        cases hq : Nat.beq e.1 (t + e.2.1) with
        | false => rfl
        | true => have := Nat.eq_of_beq_eq_true hq; omega
      unfold jx_seek
      rw [hb2]
      show jx_seek (t + e.2.1) k = k
      cases k with
      | nil => rfl
      | cons e2 r2 =>
        have h3 := jx_wf_next hw
        unfold jx_seek
        rw [show Nat.beq e2.1 (t + e.2.1) = true from by rw [← h3, hpc]; exact Nat.beq_refl _]
        rfl
    | false =>
      rw [hb] at h
      have h4 := ih (jx_wf_tail hw) h
      have hmem : e ∈ r := by
        have : ∀ (C : List jx_El), jx_seek t C = e :: k → e ∈ C := by
          intro C
          induction C with
          | nil => intro h; cases h
          | cons e3 r3 ih3 =>
            intro h
            unfold jx_seek at h
            cases hb3 : Nat.beq e3.1 t with
            | true => rw [hb3] at h; cases h; exact List.mem_cons_self
            | false => rw [hb3] at h; exact List.mem_cons_of_mem _ (ih3 h)
        exact this r h
      have hlt := jx_wf_gt r e1 hw e hmem
      have hb2 : Nat.beq e1.1 (t + e.2.1) = false := by
        cases hq : Nat.beq e1.1 (t + e.2.1) with
        | false => rfl
        | true => have := Nat.eq_of_beq_eq_true hq; omega
      unfold jx_seek
      rw [hb2]
      exact h4
theorem jx_get_trim (lv : jx_Lv) (i : Nat) : ∀ ks : List Nat, i ∈ ks → jx_get (jx_trim ks lv) i = jx_get lv i := by
  intro ks
  induction ks with
  | nil => intro h; cases h
  | cons k r ih =>
    intro h
    by_cases hk : k = i
    · subst hk
      cases hg : jx_get lv k with
      | none =>
        have h0 : jx_trim (k :: r) lv = jx_trim r lv := by simp [jx_trim, hg]
        rw [h0]
        by_cases hr : k ∈ r
        · rw [ih hr, hg]
        · have : ∀ ks : List Nat, k ∉ ks → jx_get (jx_trim ks lv) k = none := by
            intro ks
            induction ks with
            | nil => intro _; rfl
            | cons k2 r2 ih2 =>
              intro hn
              have hne : k2 ≠ k := fun e => hn (e ▸ List.mem_cons_self)
              have hn2 : k ∉ r2 := fun e => hn (List.mem_cons_of_mem _ e)
              cases hg2 : jx_get lv k2 with
              | none => rw [show jx_trim (k2 :: r2) lv = jx_trim r2 lv from by simp [jx_trim, hg2]]; exact ih2 hn2
              | some v =>
                rw [show jx_trim (k2 :: r2) lv = (k2, v) :: jx_trim r2 lv from by simp [jx_trim, hg2]]
                unfold jx_get
                rw [show Nat.beq k2 k = false from by
                  cases hq : Nat.beq k2 k with
                  | false => rfl
                  | true => exact absurd (Nat.eq_of_beq_eq_true hq) hne]
                exact ih2 hn2
          exact this r hr
      | some v =>
        rw [show jx_trim (k :: r) lv = (k, v) :: jx_trim r lv from by simp [jx_trim, hg]]
        unfold jx_get
        rw [show Nat.beq k k = true from Nat.beq_refl k]
        rfl
    · have hr : i ∈ r := by
        rcases List.mem_cons.mp h with h | h
        · exact absurd h.symm hk
        · exact h
      cases hg : jx_get lv k with
      | none => rw [show jx_trim (k :: r) lv = jx_trim r lv from by simp [jx_trim, hg]]; exact ih hr
      | some v =>
        rw [show jx_trim (k :: r) lv = (k, v) :: jx_trim r lv from by simp [jx_trim, hg]]
        show (bif Nat.beq k i then some v else jx_get (jx_trim r lv) i) = _
        rw [show Nat.beq k i = false from by
          cases hq : Nat.beq k i with
          | false => rfl
          | true => exact absurd (Nat.eq_of_beq_eq_true hq) hk]
        exact ih hr
theorem jx_trim_congr (a b : jx_Lv) : ∀ ks : List Nat, (∀ i ∈ ks, jx_get a i = jx_get b i) → jx_trim ks a = jx_trim ks b := by
  intro ks
  induction ks with
  | nil => intro _; rfl
  | cons k r ih =>
    intro h
    have h1 := ih (fun i hi => h i (List.mem_cons_of_mem _ hi))
    have h2 := h k List.mem_cons_self
    unfold jx_trim at h1 ⊢
    rw [List.filterMap_cons, List.filterMap_cons, h2, h1]
theorem jx_trim_trim (ks : List Nat) (lv : jx_Lv) : jx_trim ks (jx_trim ks lv) = jx_trim ks lv := jx_trim_congr _ _ ks (fun i hi => jx_get_trim lv i ks hi)
theorem jx_ev_arr {j lev pc : Nat} {el : jx_El} {k : List jx_El} (hs : jx_seek pc (jx_cd j) = el :: k) (lv : jx_Lv) (st : List Value) (μ : jx_Mem) : jx_ev j lev pc (jx_arr el lv) st μ = jx_ev j lev pc lv st μ := by
  have h : jx_arr el (jx_arr el lv) = jx_arr el lv := by
    unfold jx_arr
    cases jx_keep el with
    | none => rfl
    | some ks => exact jx_trim_trim ks lv
  rw [jx_ev_fix j lev pc (jx_arr el lv), jx_ev_fix j lev pc lv]
  unfold jx_step
  rw [hs]
  dsimp only
  rw [h]
theorem jx_K_arr {β : Type} (κ : Option Value → jx_Mem → Option β) {j lev pc : Nat} {el : jx_El} {k : List jx_El} (hs : jx_seek pc (jx_cd j) = el :: k) (lv : jx_Lv) (st : List Value) (μ : jx_Mem) : jx_K κ j lev pc (jx_arr el lv) st μ = jx_K κ j lev pc lv st μ := by
  unfold jx_K
  rw [jx_ev_arr hs]
theorem jx_K_out {β : Type} (κ : Option Value → jx_Mem → Option β) {j lev pc : Nat} (hs : jx_seek pc (jx_cd j) = []) (lv : jx_Lv) (st : List Value) (μ : jx_Mem) : jx_K κ j lev pc lv st μ = none := by
  unfold jx_K
  rw [jx_ev_fix]
  unfold jx_step
  rw [hs]
  rfl
/-- arriving -/
theorem jx_arrive {β : Type} (κ : Option Value → jx_Mem → Option β) {C : List jx_El} {j lev n pc : Nat} (hC : jx_cd j = C) (ih : ∀ (e : jx_El) (k : List jx_El) (lv : jx_Lv) (st : List Value) (μ : jx_Mem), jx_seek e.1 C = e :: k → jx_U κ C j lev n (e :: k) (jx_arr e lv) st μ = jx_K κ j lev e.1 lv st μ) (s : List jx_El) (lv : jx_Lv) (st : List Value) (μ : jx_Mem) : jx_seek pc C = s →
    (match s with
      | [] => none
      | e2 :: k2 => match jx_keep e2 with
        | none => jx_U κ C j lev n (e2 :: k2) lv st μ
        | some ks => jx_K κ j lev e2.1 (jx_trim ks lv) st μ) = jx_K κ j lev pc lv st μ := by
  intro hs
  cases s with
  | nil => exact (jx_K_out κ (by rw [hC]; exact hs) lv st μ).symm
  | cons e2 k2 =>
    have hp := jx_seek_pc _ hs
    subst hp
    have h1 := ih e2 k2 lv st μ hs
    dsimp only
    unfold jx_arr at h1
    cases hk : jx_keep e2 with
    | none => rw [hk] at h1; exact h1
    | some ks =>
      have h2 := jx_K_arr κ (lev := lev) (show jx_seek e2.1 (jx_cd j) = e2 :: k2 by rw [hC]; exact hs) lv st μ
      unfold jx_arr at h2
      rw [hk] at h2
      exact h2
theorem jx_K_call {β : Type} (κ : Option Value → jx_Mem → Option β) (j' lev' j lev pc rk : Nat) (args rest : List Value) (lv : jx_Lv) (μ : jx_Mem) : ((match jx_ev j' lev' 0 (lv_args 0 args) [] μ with
          | none => none
          | some r => match jx_ret rk r.1 rest with
            | none => none
            | some st' => jx_ev j lev pc lv st' r.2).bind (fun r => κ r.1 r.2)) =
    (match rk with
        | 0 => (jx_K jx_kV j' lev' 0 (lv_args 0 args) [] μ).bind (fun m => jx_K κ j lev pc lv rest m)
        | 1 => (jx_K jx_kI j' lev' 0 (lv_args 0 args) [] μ).bind (fun p => jx_K κ j lev pc lv (.int p.1 :: rest) p.2)
        | 2 => (jx_K jx_kL j' lev' 0 (lv_args 0 args) [] μ).bind (fun p => jx_K κ j lev pc lv (.long p.1 :: rest) p.2)
        | _ => none) := by
  unfold jx_K
  cases jx_ev j' lev' 0 (lv_args 0 args) [] μ with
  | none =>
    match rk with
    | 0 => rfl
    | 1 => rfl
    | 2 => rfl
    | _ + 3 => rfl
  | some r =>
    obtain ⟨v, m⟩ := r
    match rk with
    | 0 => cases v <;> rfl
    | 1 => cases v with
      | none => rfl
      | some v => cases v <;> rfl
    | 2 => cases v with
      | none => rfl
      | some v => cases v <;> rfl
    | _ + 3 => cases v <;> rfl
theorem jx_U_K {β : Type} (κ : Option Value → jx_Mem → Option β) {C : List jx_El} {j lev : Nat} (hC : jx_cd j = C) (hw : jx_wf C = true) : ∀ (n : Nat) (e : jx_El) (k : List jx_El) (lv : jx_Lv) (st : List Value) (μ : jx_Mem), jx_seek e.1 C = e :: k → jx_U κ C j lev n (e :: k) (jx_arr e lv) st μ = jx_K κ j lev e.1 lv st μ := by
  intro n
  induction n with
  | zero =>
    intro e k lv st μ hs
    show jx_K κ j lev e.1 (jx_arr e lv) st μ = _
    exact jx_K_arr κ (by rw [hC]; exact hs) lv st μ
  | succ n ih =>
    intro e k lv st μ hs
    have hnx := jx_seek_next C hw hs
    unfold jx_K
    rw [jx_ev_fix]
    unfold jx_step jx_U
    rw [hC, hs]
    dsimp only
    cases ha : jx_act e (jx_arr e lv) st μ with
    | none => rfl
    | some a =>
      rcases a with ⟨b, lv', st', μ'⟩ | ⟨sw, d, lv', st'⟩ | ⟨b, v⟩ | ⟨j', mode, rk, args, rest⟩
      · cases b with
        | false => rfl
        | true => exact jx_arrive κ hC ih k lv' st' μ' hnx
      · dsimp only
        rw [jx_D_pick]
        cases hp : jx_pick sw d with
        | none => exact jx_arrive κ hC ih k lv' st' μ hnx
        | some t => exact jx_arrive κ hC ih (jx_seek t C) lv' st' μ rfl
      · cases b <;> rfl
      · dsimp only
        cases hl : jx_lev mode lev with
        | none => rfl
        | some lev' =>
          dsimp only
          refine Eq.trans ?_ (jx_K_call κ j' lev' j lev (e.1 + jx_len e) rk args rest (jx_arr e lv) μ).symm
          match rk with
          | 0 =>
            exact congrArg (Option.bind (jx_K jx_kV j' lev' 0 (lv_args 0 args) [] μ)) (funext fun m => jx_arrive κ hC ih k (jx_arr e lv) rest m hnx)
          | 1 =>
            exact congrArg (Option.bind (jx_K jx_kI j' lev' 0 (lv_args 0 args) [] μ)) (funext fun p => jx_arrive κ hC ih k (jx_arr e lv) (.int p.1 :: rest) p.2 hnx)
          | 2 =>
            exact congrArg (Option.bind (jx_K jx_kL j' lev' 0 (lv_args 0 args) [] μ)) (funext fun p => jx_arrive κ hC ih k (jx_arr e lv) (.long p.1 :: rest) p.2 hnx)
          | _ + 3 => rfl
noncomputable def jx_V {β : Type} (κ : Option Value → jx_Mem → Option β) (C : List jx_El) (j lev n : Nat) (s : List jx_El) (lv : jx_Lv) (st : List Value) (μ : jx_Mem) : Option β := match s with
  | [] => none
  | e :: k => jx_U κ C j lev n (e :: k) (jx_arr e lv) st μ
theorem jx_V_K {β : Type} (κ : Option Value → jx_Mem → Option β) {C : List jx_El} {j lev : Nat} (hC : jx_cd j = C) (hw : jx_wf C = true) (n pc : Nat) (lv : jx_Lv) (st : List Value) (μ : jx_Mem) : jx_K κ j lev pc lv st μ = jx_V κ C j lev n (jx_seek pc C) lv st μ := by
  cases hs : jx_seek pc C with
  | nil => exact jx_K_out κ (by rw [hC]; exact hs) lv st μ
  | cons e k =>
    have hp := jx_seek_pc _ hs
    subst hp
    exact (jx_U_K κ hC hw n e k lv st μ hs).symm
