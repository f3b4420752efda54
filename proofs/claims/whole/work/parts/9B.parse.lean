/-! the rule's text read: the class's stack, the model's descent, in numbers -/
def lvW (c : Nat) : Nat := if c = 33 ∨ c = 126 then 6 else lvB c
def sgX (c : Nat) : Nat := if c = 108 then 0 else if c = 117 then 1 else if c = 110 then 2 else if c = 102 then 3 else if c = 119 then 4 else if c = 107 then 5 else 6
def mk2 (w : List Nat) : List Nat := w.map (fun c => 2000 + c)
def FS : Type := List Nat × List Nat × Nat × (Nat → Bool) × Nat × Bool
def FS.out (s : FS) : List Nat := s.1
def FS.ws (s : FS) : List Nat := s.2.1
def FS.op (s : FS) : Nat := s.2.2.1
def FS.cm (s : FS) : Nat → Bool := s.2.2.2.1
def FS.dg (s : FS) : Nat := s.2.2.2.2.1
def FS.wt (s : FS) : Bool := s.2.2.2.2.2
def mkS (out ws : List Nat) (op : Nat) (cm : Nat → Bool) (dg : Nat) (wt : Bool) : FS := (out, ws, op, cm, dg, wt)
def rel (l : Nat) : List Nat → List Nat → List Nat × List Nat
  | out, [] => (out, [])
  | out, c :: ws => if lvW c < l then (out, c :: ws) else rel l (out ++ [2000 + c]) ws
def stTh (s : FS) (c : Nat) : Option FS :=
  if c = 33 then some (mkS s.out (33 :: s.ws) s.op s.cm s.dg s.wt) else if c = 45 then some (mkS s.out (126 :: s.ws) s.op s.cm s.dg s.wt)
  else if c = 40 then (if s.op < 5 then some (mkS s.out (40 :: s.ws) (s.op + 1) (upB s.cm (s.op + 1) false) s.dg s.wt) else none)
  else if (48 ≤ c ∧ c ≤ 57) then some (mkS (s.out ++ [c - 48]) s.ws s.op s.cm (1) (false))
  else if sgX c < 6 then some (mkS (s.out ++ [1000 + sgX c]) s.ws s.op s.cm s.dg (false)) else none
def stBe (s : FS) (c : Nat) : Option FS :=
  if (48 ≤ c ∧ c ≤ 57) then (if s.dg = 0 ∨ 3 ≤ s.dg ∨ s.out = [] then none else some (mkS (s.out.dropLast ++ [s.out.getLastD 0 * 10 + (c - 48)]) s.ws s.op s.cm (s.dg + 1) s.wt))
  else if c = 41 then (if s.op = 0 then none else some (mkS ((rel 1 s.out s.ws).1) ((rel 1 s.out s.ws).2.tail) (s.op - 1) s.cm (0) s.wt))
  else if lvB c = 0 ∨ (lvB c = 3 ∧ s.cm s.op = true) then none
  else some (mkS ((rel (lvB c) s.out s.ws).1) (c :: (rel (lvB c) s.out s.ws).2) s.op ((if lvB c ≤ 3 then upB s.cm s.op (decide (lvB c = 3)) else s.cm)) (0) (true))
def stF (s : FS) (c : Nat) : Option FS := if s.wt = true then stTh s c else stBe s c
def goF (t : Nat → Nat) : Nat → Nat → FS → Nat ⊕ FS
  | 0, _, s => .inr s
  | n + 1, p, s => match stF s (t p) with | none => .inl p | some s' => goF t n (p + 1) s'
def fnF (e : Nat) : Nat ⊕ FS → Nat ⊕ List Nat
  | .inl p => .inl p
  | .inr s => if s.wt = true ∨ 0 < s.op then .inl e else .inr (rel 1 s.out s.ws).1
theorem goF_s {t : Nat → Nat} {e p : Nat} {s s' : FS} (hp : p < e) (h : stF s (t p) = some s') : goF t (e - p) p s = goF t (e - (p + 1)) (p + 1) s' := by
  rw [show e - p = (e - (p + 1)) + 1 by omega]
  show (match stF s (t p) with | none => _ | some s' => _) = _
  rw [h]
theorem goF_n {t : Nat → Nat} {e p : Nat} {s : FS} (hp : p < e) (h : stF s (t p) = none) : goF t (e - p) p s = .inl p := by
  rw [show e - p = (e - (p + 1)) + 1 by omega]
  show (match stF s (t p) with | none => _ | some s' => _) = _
  rw [h]
theorem rel_app {l : Nat} : ∀ (pend out w : List Nat), (∀ c, c ∈ pend → l ≤ lvW c) → (∀ c w', w = c :: w' → lvW c < l) → rel l out (pend ++ w) = (out ++ mk2 pend, w) := by
  intro pend
  induction pend with
  | nil =>
    intro out w _ hw
    cases w with
    | nil => simp [rel, mk2]
    | cons c w => simp [rel, mk2, hw c w rfl]
  | cons c pend ih =>
    intro out w hp hw
    have h1 := hp c (List.mem_cons_self)
    show (if lvW c < l then _ else _) = _
    rw [if_neg (by omega), show (pend.append w) = pend ++ w from rfl, ih _ w (fun c' h' => hp c' (List.mem_cons_of_mem _ h')) hw]
    simp [mk2]
def nv (t : Nat → Nat) (p : Nat) : Nat → Nat
  | 0 => 0
  | d + 1 => nv t p d * 10 + (t (p + d) - 48)
def Clo (t : Nat → Nat) (e : Nat) (Q : Nat → Option Bool → Nat → Nat → List Nat → Bool → Nat → Nat → List Nat → Prop) : Prop :=
  (∀ p k o p' k' o', p < e → (t p = 33 ∨ t p = 45) → Q 5 none (p + 1) k o true p' k' o' → Q 5 none p k o true p' k' (o' ++ [2000 + (if t p = 33 then 33 else 126)])) ∧
  (∀ p k o p' k' o', p < e → (t p = 33 ∨ t p = 45) → Q 5 none (p + 1) k o false p' k' o' → Q 5 none p k o false p' k' o') ∧
  (∀ p k o d, 1 ≤ d → d ≤ 3 → (∀ i, i < d → p + i < e ∧ (48 ≤ t (p + i) ∧ t (p + i) ≤ 57)) → (d = 3 ∨ ¬ (p + d < e ∧ (48 ≤ t (p + d) ∧ t (p + d) ≤ 57))) → Q 5 none p k o true (p + d) k (o ++ [nv t p d])) ∧
  (∀ p k o, p < e → sgX (t p) < 6 → Q 5 none p k o true (p + 1) k (o ++ [1000 + sgX (t p)])) ∧
  (∀ p k o p' k' o', p < e → t p = 40 → k ≠ 5 → Q 0 none (p + 1) (k + 1) o true p' k' o' → p' < e → t p' = 41 → Q 5 none p k o true (p' + 1) (k' - 1) o') ∧
  (∀ p k o p' k' o', p < e → t p = 40 → k ≠ 5 → Q 0 none (p + 1) (k + 1) o false p' k' o' → Q 5 none p k o false p' k' o') ∧
  (∀ p k o p' k' o', p < e → t p = 40 → k ≠ 5 → Q 0 none (p + 1) (k + 1) o true p' k' o' → ¬ (p' < e ∧ t p' = 41) → Q 5 none p k o false p' k' o') ∧
  (∀ p k o, ¬ (p < e ∧ (t p = 33 ∨ t p = 45 ∨ (48 ≤ t p ∧ t p ≤ 57) ∨ sgX (t p) < 6 ∨ (t p = 40 ∧ k ≠ 5))) → Q 5 none p k o false p k o) ∧
  (∀ r p k o p1 k1 o1 b p' k' o', r < 5 → Q (r + 1) none p k o true p1 k1 o1 → Q r (some true) p1 k1 o1 b p' k' o' → Q r none p k o b p' k' o') ∧
  (∀ r p k o p' k' o', r < 5 → Q (r + 1) none p k o false p' k' o' → Q r none p k o false p' k' o') ∧
  (∀ r b p k o, (b = false ∨ ¬ (p < e ∧ lvB (t p) = r + 1)) → Q r (some b) p k o true p k o) ∧
  (∀ r p k o p1 k1 o1 b p' k' o', p < e → lvB (t p) = r + 1 → Q (r + 1) none (p + 1) k o true p1 k1 o1 → Q r (some (decide (r ≠ 2))) p1 k1 (o1 ++ [2000 + t p]) b p' k' o' → Q r (some true) p k o b p' k' o') ∧
  (∀ r p k o p' k' o', p < e → lvB (t p) = r + 1 → Q (r + 1) none (p + 1) k o false p' k' o' → Q r (some true) p k o false p' k' o')
def Pr (t : Nat → Nat) (e r : Nat) (c : Option Bool) (p k : Nat) (o : List Nat) (b : Bool) (p' k' : Nat) (o' : List Nat) : Prop := ∀ Q, Clo t e Q → Q r c p k o b p' k' o'
/-- what a state must be where a piece ends -/
def exF (t : Nat → Nat) (e r k : Nat) (w : List Nat) (cm : Nat → Bool) (p' k' : Nat) (o' : List Nat) (s : FS) : Prop :=
  p' ≤ e ∧ k' = k ∧ s.wt = false ∧ s.op = k ∧ (∃ pend, s.ws = pend ++ w ∧ (∀ c, c ∈ pend → r + 1 ≤ lvW c) ∧ s.out ++ mk2 pend = o') ∧
  (p' < e → lvB (t p') ≤ r ∨ (lvB (t p') = 3 ∧ s.cm k = true)) ∧ (p' < e → (48 ≤ t p' ∧ t p' ≤ 57) → s.dg = 0 ∨ 3 ≤ s.dg) ∧ (∀ j, j < k → s.cm j = cm j) ∧ (3 ≤ r → s.cm k = cm k)
def enR (r k : Nat) (o : List Nat) (s : FS) : Prop :=
  s.wt = true ∧ s.dg = 0 ∧ s.op = k ∧ s.out = o ∧ (r = 5 ∨ ∀ c w', s.ws = c :: w' → lvW c ≤ r) ∧ (r ≤ 2 → s.cm k = false)
def enL (t : Nat → Nat) (e r : Nat) (b : Bool) (p k : Nat) (o w : List Nat) (s : FS) : Prop :=
  r < 5 ∧ s.wt = false ∧ s.op = k ∧ (∃ pend, s.ws = pend ++ w ∧ (∀ c, c ∈ pend → r + 1 ≤ lvW c) ∧ s.out ++ mk2 pend = o) ∧ (∀ c w', w = c :: w' → lvW c ≤ r) ∧
  (p < e → lvB (t p) ≤ r + 1 ∨ (lvB (t p) = 3 ∧ s.cm k = true)) ∧ (p < e → (48 ≤ t p ∧ t p ≤ 57) → s.dg = 0 ∨ 3 ≤ s.dg) ∧ (r = 2 → s.cm k = !b) ∧ (b = false → r = 2)
def goal (t : Nat → Nat) (e r k : Nat) (w : List Nat) (cm : Nat → Bool) (p : Nat) (s : FS) (b : Bool) (p' k' : Nat) (o' : List Nat) : Prop :=
  (b = true → ∃ s', goF t (e - p) p s = goF t (e - p') p' s' ∧ exF t e r k w cm p' k' o' s') ∧ (b = false → p' ≤ e ∧ fnF e (goF t (e - p) p s) = .inl p')
def sim (t : Nat → Nat) (e r : Nat) (c : Option Bool) (p k : Nat) (o : List Nat) (b : Bool) (p' k' : Nat) (o' : List Nat) : Prop :=
  p ≤ e → k ≤ 5 → match c with
    | none => ∀ s, enR r k o s → goal t e r k s.ws s.cm p s b p' k' o'
    | some c => ∀ s w, enL t e r c p k o w s → goal t e r k w s.cm p s b p' k' o'
theorem lvB_dig {c : Nat} (h : 0 < lvB c) : ¬ (48 ≤ c ∧ c ≤ 57) ∧ c ≠ 41 ∧ c ≠ 33 ∧ c ≠ 126 := by
  have : isBin c := by
    unfold isBin
    unfold lvB at h
    repeat' split at h
    all_goals omega
  unfold isBin at this
  omega
theorem sgX_ne {c : Nat} (h : sgX c < 6) : ¬ (48 ≤ c ∧ c ≤ 57) ∧ c ≠ 33 ∧ c ≠ 45 ∧ c ≠ 40 := by
  unfold sgX at h
  repeat' split at h
  all_goals omega
/-- behind a thing, what cannot go on ends the reading there -/
theorem stuck {t : Nat → Nat} {e k p : Nat} {s : FS} (hw : s.wt = false) (ho : s.op = k) (hp : p < e) (hb : lvB (t p) ≤ 0 ∨ (lvB (t p) = 3 ∧ s.cm k = true)) (hd : (48 ≤ t p ∧ t p ≤ 57) → s.dg = 0 ∨ 3 ≤ s.dg) (h41 : t p ≠ 41 ∨ k = 0) : fnF e (goF t (e - p) p s) = .inl p := by
  rw [goF_n hp]
  · rfl
  · unfold stF stBe
    rw [if_neg (by rw [hw]; decide)]
    by_cases c : (48 ≤ t p ∧ t p ≤ 57)
    · rw [if_pos c, if_pos]
      rcases hd c with h | h
      · exact Or.inl h
      · exact Or.inr (Or.inl h)
    · rw [if_neg c]
      by_cases c2 : t p = 41
      · rw [if_pos c2, if_pos (by omega)]
      · rw [if_neg c2, if_pos]
        rw [ho]
        rcases hb with h | h
        · exact Or.inl (by omega)
        · exact Or.inr h
theorem sim_clo (t : Nat → Nat) (e : Nat) : Clo t e (sim t e) := by
  refine ⟨?_, ?_, ?_, ?_, ?_, ?_, ?_, ?_, ?_, ?_, ?_, ?_, ?_⟩
  · intro p k o p' k' o' hp hc ih
    intro hpe hk s hs
    obtain ⟨a1, a2, a3, a4, a5, a6⟩ := hs
    have hst : stF s (t p) = some (mkS s.out ((if t p = 33 then 33 else 126) :: s.ws) s.op s.cm s.dg s.wt) := by
      unfold stF stTh
      rw [if_pos a1]
      rcases hc with c | c
      · rw [if_pos c, if_pos c]
      · rw [if_neg (by omega), if_pos c, if_neg (by omega)]
    have hu : lvW (if t p = 33 then 33 else 126) = 6 := by split <;> rfl
    have h1 := ih (by omega) hk (mkS s.out ((if t p = 33 then 33 else 126) :: s.ws) s.op s.cm s.dg s.wt) ⟨a1, a2, a3, a4, Or.inl rfl, fun z => by omega⟩
    refine ⟨fun _ => ?_, fun z => by cases z⟩
    obtain ⟨s', g1, b1, b2, b3, b4, ⟨pend, d1, d2, d3⟩, b5⟩ := h1.1 rfl
    refine ⟨s', (goF_s hp hst).trans g1, b1, b2, b3, b4, ⟨pend ++ [if t p = 33 then 33 else 126], ?_, ?_, ?_⟩, b5⟩
    · rw [d1]; simp [mkS, FS.ws]
    · intro c hc'
      rcases List.mem_append.mp hc' with z | z
      · exact d2 c z
      · rw [List.mem_singleton.mp z, hu]; omega
    · rw [← d3]; simp [mk2]
  · intro p k o p' k' o' hp hc ih
    intro hpe hk s hs
    obtain ⟨a1, a2, a3, a4, a5, a6⟩ := hs
    have hst : stF s (t p) = some (mkS s.out ((if t p = 33 then 33 else 126) :: s.ws) s.op s.cm s.dg s.wt) := by
      unfold stF stTh
      rw [if_pos a1]
      rcases hc with c | c
      · rw [if_pos c, if_pos c]
      · rw [if_neg (by omega), if_pos c, if_neg (by omega)]
    have h1 := ih (by omega) hk (mkS s.out ((if t p = 33 then 33 else 126) :: s.ws) s.op s.cm s.dg s.wt) ⟨a1, a2, a3, a4, Or.inl rfl, fun z => by omega⟩
    refine ⟨(fun z => by cases z), fun _ => ?_⟩
    rw [goF_s hp hst]
    exact h1.2 rfl
  · intro p k o d h1 h3 hd hn
    intro hpe hk s hs
    obtain ⟨a1, a2, a3, a4, a5, a6⟩ := hs
    refine ⟨fun _ => ?_, fun z => by cases z⟩
    have st : ∀ i, i < d → goF t (e - p) p s = goF t (e - (p + (i + 1))) (p + (i + 1)) (mkS (o ++ [nv t p (i + 1)]) s.ws s.op s.cm (i + 1) (false)) := by
      intro i
      induction i with
      | zero =>
        intro _
        have h0 := hd 0 (by omega)
        rw [Nat.add_zero] at h0
        have q := h0.2
        rw [goF_s (s' := (mkS (o ++ [nv t p 1]) s.ws s.op s.cm (1) (false))) h0.1]
        unfold stF stTh
        rw [if_pos a1, if_neg (by omega), if_neg (by omega), if_neg (by omega), if_pos h0.2, a4]
        unfold nv nv
        rw [Nat.zero_mul, Nat.zero_add, Nat.add_zero]
      | succ i ihn =>
        intro hi
        have h0 := hd (i + 1) hi
        rw [ihn (by omega), goF_s (s' := (mkS (o ++ [nv t p (i + 2)]) s.ws s.op s.cm (i + 2) (false))) h0.1]
        · rfl
        · unfold stF stBe
          rw [if_neg (by simp [mkS, FS.wt]), if_pos h0.2, if_neg (by simp [mkS, FS.dg, FS.out]; omega)]
          simp [nv, mkS, FS.out, FS.ws, FS.op, FS.cm, FS.dg, FS.wt]
    have hl := hd (d - 1) (by omega)
    obtain ⟨d', rfl⟩ : ∃ d', d = d' + 1 := ⟨d - 1, by omega⟩
    refine ⟨_, st d' (by omega), by omega, rfl, rfl, a3, ⟨[], rfl, (fun c hc => by cases hc), by rw [show mk2 [] = [] from rfl, List.append_nil]; rfl⟩, fun _ => Or.inl (lvB_le _), fun q1 q2 => ?_, fun _ _ => rfl, fun _ => rfl⟩
    rcases hn with z | z
    · exact Or.inr (by show 3 ≤ d' + 1; omega)
    · exact absurd ⟨q1, q2⟩ z
  · intro p k o hp hg
    intro hpe hk s hs
    obtain ⟨a1, a2, a3, a4, a5, a6⟩ := hs
    have q := sgX_ne hg
    refine ⟨fun _ => ?_, fun z => by cases z⟩
    refine ⟨(mkS (s.out ++ [1000 + sgX (t p)]) s.ws s.op s.cm s.dg (false)), goF_s hp ?_, by omega, rfl, rfl, a3, ⟨[], rfl, (fun c hc => by cases hc), by rw [show mk2 [] = [] from rfl, List.append_nil, ← a4]; rfl⟩, fun _ => Or.inl (lvB_le _), fun _ _ => Or.inl a2, fun _ _ => rfl, fun _ => rfl⟩
    unfold stF stTh
    rw [if_pos a1, if_neg q.2.1, if_neg q.2.2.1, if_neg q.2.2.2, if_neg q.1, if_pos hg]
  · intro p k o p' k' o' hp hc hk5 ih hp' hc'
    intro hpe hk s hs
    obtain ⟨a1, a2, a3, a4, a5, a6⟩ := hs
    have hst : stF s (t p) = some (mkS s.out (40 :: s.ws) (s.op + 1) (upB s.cm (s.op + 1) false) s.dg s.wt) := by
      unfold stF stTh
      rw [if_pos a1, hc, if_neg (by decide), if_neg (by decide), if_pos rfl, if_pos (by omega)]
    have h1 := ih (by omega) (by omega) (mkS s.out (40 :: s.ws) (s.op + 1) (upB s.cm (s.op + 1) false) s.dg s.wt) ⟨a1, a2, by show s.op + 1 = k + 1; rw [a3], a4, Or.inr (fun c w' z => by cases z; exact Nat.le_refl _), fun _ => by rw [a3]; exact upB_s _ _ _⟩
    refine ⟨fun _ => ?_, fun z => by cases z⟩
    obtain ⟨s', g1, b1, b2, b3, b4, ⟨pend, d1, d2, d3⟩, b5, b6, b7, b8⟩ := h1.1 rfl
    have hr : rel 1 s'.out s'.ws = (o', 40 :: s.ws) := by
      rw [d1, rel_app pend _ _ (fun c z => by have := d2 c z; omega) (fun c w' z => by cases z; decide), d3]
      rfl
    refine ⟨(mkS (o') (s.ws) (s'.op - 1) s'.cm (0) s'.wt), ((goF_s hp hst).trans g1).trans (goF_s hp' ?_), by omega, by omega, b3, by show s'.op - 1 = k; omega, ⟨[], rfl, (fun c hc => by cases hc), by rw [show mk2 [] = [] from rfl, List.append_nil]; rfl⟩, fun _ => Or.inl (lvB_le _), fun _ _ => Or.inl rfl, fun j hj => ?_, fun _ => ?_⟩
    · unfold stF stBe
      rw [if_neg (by rw [b3]; decide), hc', if_neg (by decide), if_pos rfl, if_neg (by omega), hr]
      rfl
    · show s'.cm j = s.cm j
      rw [b7 j (by omega)]
      exact upB_n (by omega)
    · show s'.cm k = s.cm k
      rw [b7 k (by omega)]
      exact upB_n (by omega)
  · intro p k o p' k' o' hp hc hk5 ih
    intro hpe hk s hs
    obtain ⟨a1, a2, a3, a4, a5, a6⟩ := hs
    have hst : stF s (t p) = some (mkS s.out (40 :: s.ws) (s.op + 1) (upB s.cm (s.op + 1) false) s.dg s.wt) := by
      unfold stF stTh
      rw [if_pos a1, hc, if_neg (by decide), if_neg (by decide), if_pos rfl, if_pos (by omega)]
    have h1 := ih (by omega) (by omega) (mkS s.out (40 :: s.ws) (s.op + 1) (upB s.cm (s.op + 1) false) s.dg s.wt) ⟨a1, a2, by show s.op + 1 = k + 1; rw [a3], a4, Or.inr (fun c w' z => by cases z; exact Nat.le_refl _), fun _ => by rw [a3]; exact upB_s _ _ _⟩
    refine ⟨(fun z => by cases z), fun _ => ?_⟩
    rw [goF_s hp hst]
    exact h1.2 rfl
  · intro p k o p' k' o' hp hc hk5 ih hn
    intro hpe hk s hs
    obtain ⟨a1, a2, a3, a4, a5, a6⟩ := hs
    have hst : stF s (t p) = some (mkS s.out (40 :: s.ws) (s.op + 1) (upB s.cm (s.op + 1) false) s.dg s.wt) := by
      unfold stF stTh
      rw [if_pos a1, hc, if_neg (by decide), if_neg (by decide), if_pos rfl, if_pos (by omega)]
    have h1 := ih (by omega) (by omega) (mkS s.out (40 :: s.ws) (s.op + 1) (upB s.cm (s.op + 1) false) s.dg s.wt) ⟨a1, a2, by show s.op + 1 = k + 1; rw [a3], a4, Or.inr (fun c w' z => by cases z; exact Nat.le_refl _), fun _ => by rw [a3]; exact upB_s _ _ _⟩
    refine ⟨(fun z => by cases z), fun _ => ?_⟩
    obtain ⟨s', g1, b1, b2, b3, b4, _, b5, b6, b7, b8⟩ := h1.1 rfl
    refine ⟨b1, ?_⟩
    rw [goF_s hp hst, g1]
    by_cases c : p' < e
    · exact stuck b3 b4 c (b5 c) (b6 c) (Or.inl (fun z => hn ⟨c, z⟩))
    · have : p' = e := by omega
      subst this
      rw [Nat.sub_self]
      show (if s'.wt = true ∨ 0 < s'.op then _ else _) = _
      rw [if_pos (Or.inr (by omega))]
  · intro p k o hn
    intro hpe hk s hs
    obtain ⟨a1, a2, a3, a4, a5, a6⟩ := hs
    refine ⟨(fun z => by cases z), fun _ => ⟨hpe, ?_⟩⟩
    by_cases c : p < e
    · rw [goF_n c]
      · rfl
      · have q := fun z => hn ⟨c, z⟩
        unfold stF stTh
        rw [if_pos a1, if_neg (fun z => q (Or.inl z)), if_neg (fun z => q (Or.inr (Or.inl z)))]
        by_cases c4 : t p = 40
        · rw [if_pos c4, if_neg]
          intro z
          exact q (Or.inr (Or.inr (Or.inr (Or.inr ⟨c4, by omega⟩))))
        · rw [if_neg c4, if_neg (fun z => q (Or.inr (Or.inr (Or.inl z)))), if_neg (fun z => q (Or.inr (Or.inr (Or.inr (Or.inl z)))))]
    · have : p = e := by omega
      subst this
      rw [Nat.sub_self]
      show (if s.wt = true ∨ 0 < s.op then _ else _) = _
      rw [if_pos (Or.inl a1)]
  · intro r p k o p1 k1 o1 b p' k' o' hr ih1 ih2
    intro hpe hk s hs
    obtain ⟨a1, a2, a3, a4, a5, a6⟩ := hs
    have h1 := ih1 hpe hk s ⟨a1, a2, a3, a4, (by
      rcases a5 with z | z
      · omega
      · exact Or.inr (fun c w' q => by have := z c w' q; omega)), fun z => a6 (by omega)⟩
    obtain ⟨s1, g1, b1, b2, b3, b4, ⟨pend, d1, d2, d3⟩, b5, b6, b7, b8⟩ := h1.1 rfl
    subst b2
    have h2 := ih2 b1 hk s1 s.ws ⟨hr, b3, b4, ⟨pend, d1, fun c z => by have := d2 c z; omega, d3⟩, (by
      rcases a5 with z | z
      · omega
      · exact z), b5, b6, fun z => by rw [b8 (by omega)]; exact a6 (by omega), fun z => by cases z⟩
    refine ⟨fun hb => ?_, fun hb => ?_⟩
    · obtain ⟨s', g2, c1, c2, c3, c4, c5, c6, c7, c8, c9⟩ := h2.1 hb
      exact ⟨s', g1.trans g2, c1, c2, c3, c4, c5, c6, c7, fun j hj => (c8 j hj).trans (b7 j hj), fun z => (c9 z).trans (b8 (by omega))⟩
    · rw [g1]
      exact h2.2 hb
  · intro r p k o p' k' o' hr ih
    intro hpe hk s hs
    obtain ⟨a1, a2, a3, a4, a5, a6⟩ := hs
    have h1 := ih hpe hk s ⟨a1, a2, a3, a4, (by
      rcases a5 with z | z
      · omega
      · exact Or.inr (fun c w' q => by have := z c w' q; omega)), fun z => a6 (by omega)⟩
    exact ⟨(fun z => by cases z), fun _ => h1.2 rfl⟩
  · intro r b p k o hn
    intro hpe hk s w hs
    obtain ⟨hr, a1, a2, ⟨pend, d1, d2, d3⟩, a3, a4, a5, a6, a7⟩ := hs
    refine ⟨fun _ => ⟨s, rfl, hpe, rfl, a1, a2, ⟨pend, d1, d2, d3⟩, fun hp => ?_, a5, fun _ _ => rfl, fun _ => rfl⟩, fun z => by cases z⟩
    have q := a4 hp
    rcases hn with z | z
    · have e2 := a7 z
      have cm := a6 e2
      rw [z] at cm
      rcases q with q | q
      · by_cases q3 : lvB (t p) = 3
        · exact Or.inr ⟨q3, by simpa using cm⟩
        · exact Or.inl (by omega)
      · exact Or.inr q
    · rcases q with q | q
      · by_cases q3 : lvB (t p) = r + 1
        · exact absurd ⟨hp, q3⟩ z
        · exact Or.inl (by omega)
      · exact Or.inr q
  · intro r p k o p1 k1 o1 b p' k' o' hp hl ih1 ih2
    intro hpe hk s w hs
    obtain ⟨hr, a1, a2, ⟨pend, d1, d2, d3⟩, a3, a4, a5, a6, a7⟩ := hs
    have nd := lvB_dig (c := t p) (by omega)
    have hrel : rel (lvB (t p)) s.out s.ws = (o, w) := by
      rw [d1, hl, rel_app pend _ _ d2 (fun c w' z => by have := a3 c w' z; omega), d3]
    have hst : stF s (t p) = some (mkS (o) (t p :: w) s.op ((if lvB (t p) ≤ 3 then upB s.cm s.op (decide (lvB (t p) = 3)) else s.cm)) (0) (true)) := by
      unfold stF stBe
      rw [if_neg (by rw [a1]; decide), if_neg nd.1, if_neg nd.2.1, hrel, if_neg]
      rintro (z | z)
      · omega
      · have := a6 (by omega)
        rw [a2] at z
        rw [this] at z
        exact absurd z.2 (by decide)
    have lw : lvW (t p) = r + 1 := by unfold lvW; rw [if_neg (by omega), hl]
    have h1 := ih1 (by omega) hk (mkS (o) (t p :: w) s.op ((if lvB (t p) ≤ 3 then upB s.cm s.op (decide (lvB (t p) = 3)) else s.cm)) (0) (true)) ⟨rfl, rfl, a2, rfl, Or.inr (fun c w' z => by cases z; omega), fun z => by
      show (if lvB (t p) ≤ 3 then upB s.cm s.op (decide (lvB (t p) = 3)) else s.cm) k = false
      rw [if_pos (by omega), a2, upB_s]
      exact decide_eq_false (by omega)⟩
    obtain ⟨s1, g1, b1, b2, b3, b4, ⟨pend1, f1, f2, f3⟩, b5, b6, b7, b8⟩ := h1.1 rfl
    subst b2
    have cmj : ∀ j, j < k1 → s1.cm j = s.cm j := fun j hj => by
      rw [b7 j hj]
      show (if lvB (t p) ≤ 3 then upB s.cm s.op (decide (lvB (t p) = 3)) else s.cm) j = s.cm j
      split
      · exact upB_n (by omega)
      · rfl
    have h2 := ih2 b1 hk s1 w ⟨hr, b3, b4, ⟨pend1 ++ [t p], by rw [f1]; simp; rfl, fun c z => (by
      rcases List.mem_append.mp z with z | z
      · have := f2 c z; omega
      · rw [List.mem_singleton.mp z, lw]; exact Nat.le_refl _), by rw [← f3]; simp [mk2]⟩, a3, b5, b6, fun z => by
        rw [b8 (by omega)]
        show (if lvB (t p) ≤ 3 then upB s.cm s.op (decide (lvB (t p) = 3)) else s.cm) k1 = _
        rw [if_pos (by omega), a2, upB_s, decide_eq_true (by omega)]
        subst z
        rfl, fun z => by
        have := of_decide_eq_false z
        omega⟩
    refine ⟨fun hb => ?_, fun hb => ?_⟩
    · obtain ⟨s', g2, c1, c2, c3, c4, c5, c6, c7, c8, c9⟩ := h2.1 hb
      refine ⟨s', ((goF_s hp hst).trans g1).trans g2, c1, c2, c3, c4, c5, c6, c7, fun j hj => (c8 j hj).trans (cmj j hj), fun z => (c9 z).trans ((b8 (by omega)).trans ?_)⟩
      show (if lvB (t p) ≤ 3 then upB s.cm s.op (decide (lvB (t p) = 3)) else s.cm) k1 = s.cm k1
      rw [if_neg (by omega)]
    · rw [goF_s hp hst, g1]
      exact h2.2 hb
  · intro r p k o p' k' o' hp hl ih
    intro hpe hk s w hs
    obtain ⟨hr, a1, a2, ⟨pend, d1, d2, d3⟩, a3, a4, a5, a6, a7⟩ := hs
    have nd := lvB_dig (c := t p) (by omega)
    have hrel : rel (lvB (t p)) s.out s.ws = (o, w) := by
      rw [d1, hl, rel_app pend _ _ d2 (fun c w' z => by have := a3 c w' z; omega), d3]
    have hst : stF s (t p) = some (mkS (o) (t p :: w) s.op ((if lvB (t p) ≤ 3 then upB s.cm s.op (decide (lvB (t p) = 3)) else s.cm)) (0) (true)) := by
      unfold stF stBe
      rw [if_neg (by rw [a1]; decide), if_neg nd.1, if_neg nd.2.1, hrel, if_neg]
      rintro (z | z)
      · omega
      · have := a6 (by omega)
        rw [a2] at z
        rw [this] at z
        exact absurd z.2 (by decide)
    have lw : lvW (t p) = r + 1 := by unfold lvW; rw [if_neg (by omega), hl]
    have h1 := ih (by omega) hk (mkS (o) (t p :: w) s.op ((if lvB (t p) ≤ 3 then upB s.cm s.op (decide (lvB (t p) = 3)) else s.cm)) (0) (true)) ⟨rfl, rfl, a2, rfl, Or.inr (fun c w' z => by cases z; omega), fun z => by
      show (if lvB (t p) ≤ 3 then upB s.cm s.op (decide (lvB (t p) = 3)) else s.cm) k = false
      rw [if_pos (by omega), a2, upB_s]
      exact decide_eq_false (by omega)⟩
    refine ⟨(fun z => by cases z), fun _ => ?_⟩
    rw [goF_s hp hst]
    exact h1.2 rfl
theorem Pr_sim {t : Nat → Nat} {e r : Nat} {c : Option Bool} {p k : Nat} {o : List Nat} {b : Bool} {p' k' : Nat} {o' : List Nat} (h : Pr t e r c p k o b p' k' o') : sim t e r c p k o b p' k' o' := h _ (sim_clo t e)
theorem okL_x (h c : Nat) (r : List Nat) : okL h (c :: r) = if c < 1006 then okL (h + 1) r else if (c = 2033 ∨ c = 2126) ∧ 1 ≤ h then okL h r else if 2000 ≤ c ∧ (c - 2000 = 124 ∨ c - 2000 = 38 ∨ c - 2000 = 60 ∨ c - 2000 = 62 ∨ c - 2000 = 61 ∨ c - 2000 = 43 ∨ c - 2000 = 45 ∨ c - 2000 = 42) ∧ 2 ≤ h then okL (h - 1) r else none := rfl
theorem okL_u {h c : Nat} {r : List Nat} (hc : c = 2033 ∨ c = 2126) (hh : 1 ≤ h) : okL h (c :: r) = okL h r := by
  rw [okL_x, if_neg (by omega), if_pos ⟨hc, hh⟩]
theorem okL_b {h c : Nat} {r : List Nat} (hb : isBin c) (hh : 2 ≤ h) : okL h ((2000 + c) :: r) = okL (h - 1) r := by
  unfold isBin at hb
  have e : 2000 + c - 2000 = c := by omega
  show (if 2000 + c < 1006 then _ else if (2000 + c = 2033 ∨ 2000 + c = 2126) ∧ 1 ≤ h then _ else if 2000 ≤ 2000 + c ∧ (_ ∨ _) ∧ 2 ≤ h then okL (h - 1) r else none) = _
  rw [if_neg (by omega), if_neg (by omega), if_pos (by rw [e]; exact ⟨by omega, by omega, hh⟩)]
theorem okL_n {h c : Nat} {r : List Nat} (hc : c < 1006) : okL h (c :: r) = okL (h + 1) r := by
  show (if c < 1006 then _ else _) = _
  rw [if_pos hc]
theorem okL_app : ∀ (a b : List Nat) (h : Nat), okL h (a ++ b) = (okL h a).bind (fun h' => okL h' b) := by
  intro a
  induction a with
  | nil => intro b h; rfl
  | cons c a ih =>
    intro b h
    show okL h (c :: (a ++ b)) = _
    rw [okL_x, okL_x]
    split
    · exact ih b _
    · split
      · exact ih b _
      · split
        · exact ih b _
        · rfl
theorem lvB_bin {c : Nat} (h : 0 < lvB c) : isBin c := by
  unfold isBin
  unfold lvB at h
  repeat' split at h
  all_goals omega
def wfQ (e r : Nat) (c : Option Bool) (p k : Nat) (o : List Nat) (b : Bool) (p' k' : Nat) (o' : List Nat) : Prop :=
  p ≤ e → p ≤ p' ∧ p' ≤ e ∧ o'.length + p ≤ o.length + p' ∧ (b = true → k' = k ∧ ∃ x, o' = o ++ x ∧ match c with | none => ∀ h, okL h x = some (h + 1) | some _ => ∀ h, 1 ≤ h → okL h x = some h)
theorem nv_lt {t : Nat → Nat} {p d : Nat} (h3 : d ≤ 3) (hd : ∀ i, i < d → 48 ≤ t (p + i) ∧ t (p + i) ≤ 57) : nv t p d < 1000 := by
  have b : ∀ i, i ≤ d → nv t p i < 10 ^ i := by
    intro i
    induction i with
    | zero => intro _; exact Nat.one_pos
    | succ i ih =>
      intro hi
      have h1 := ih (by omega)
      have h2 := hd i (by omega)
      show nv t p i * 10 + (t (p + i) - 48) < 10 ^ (i + 1)
      rw [Nat.pow_succ]
      omega
  exact Nat.lt_of_lt_of_le (b d (Nat.le_refl _)) (Nat.pow_le_pow_right (by omega) h3)
theorem wf_clo (t : Nat → Nat) (e : Nat) : Clo t e (wfQ e) := by
  refine ⟨?_, ?_, ?_, ?_, ?_, ?_, ?_, ?_, ?_, ?_, ?_, ?_, ?_⟩
  · intro p k o p' k' o' hp hc ih hpe
    obtain ⟨a1, a2, a3, a4⟩ := ih (by omega)
    obtain ⟨a5, x, a6, a7⟩ := a4 rfl
    refine ⟨by omega, a2, by rw [List.length_append]; simp; omega, fun _ => ⟨a5, x ++ [2000 + (if t p = 33 then 33 else 126)], by rw [a6, List.append_assoc], fun h => ?_⟩⟩
    rw [okL_app, a7 h, Option.bind_some, okL_u (by split <;> omega) (by omega)]
    rfl
  · intro p k o p' k' o' hp hc ih hpe
    obtain ⟨a1, a2, a3, a4⟩ := ih (by omega)
    exact ⟨by omega, a2, by omega, fun z => by cases z⟩
  · intro p k o d h1 h3 hd hn hpe
    have := hd (d - 1) (by omega)
    refine ⟨by omega, by omega, by rw [List.length_append]; simp; omega, fun _ => ⟨rfl, [nv t p d], rfl, fun h => ?_⟩⟩
    rw [okL_n (by have := nv_lt h3 (fun i hi => (hd i hi).2); omega)]
    rfl
  · intro p k o hp hg hpe
    refine ⟨by omega, by omega, by rw [List.length_append]; simp; omega, fun _ => ⟨rfl, [1000 + sgX (t p)], rfl, fun h => ?_⟩⟩
    rw [okL_n (by omega)]
    rfl
  · intro p k o p' k' o' hp hc hk5 ih hp' hc' hpe
    obtain ⟨a1, a2, a3, a4⟩ := ih (by omega)
    obtain ⟨a5, x, a6, a7⟩ := a4 rfl
    exact ⟨by omega, by omega, by omega, fun _ => ⟨by omega, x, a6, a7⟩⟩
  · intro p k o p' k' o' hp hc hk5 ih hpe
    obtain ⟨a1, a2, a3, a4⟩ := ih (by omega)
    exact ⟨by omega, a2, by omega, fun z => by cases z⟩
  · intro p k o p' k' o' hp hc hk5 ih hn hpe
    obtain ⟨a1, a2, a3, a4⟩ := ih (by omega)
    exact ⟨by omega, a2, by omega, fun z => by cases z⟩
  · intro p k o hn hpe
    exact ⟨Nat.le_refl _, hpe, Nat.le_refl _, fun z => by cases z⟩
  · intro r p k o p1 k1 o1 b p' k' o' hr ih1 ih2 hpe
    obtain ⟨a1, a2, a3, a4⟩ := ih1 hpe
    obtain ⟨a5, x, a6, a7⟩ := a4 rfl
    obtain ⟨b1, b2, b3, b4⟩ := ih2 a2
    refine ⟨by omega, b2, by omega, fun hb => ?_⟩
    obtain ⟨b5, y, b6, b7⟩ := b4 hb
    refine ⟨b5.trans a5, x ++ y, by rw [b6, a6, List.append_assoc], fun h => ?_⟩
    rw [okL_app, a7 h, Option.bind_some]
    exact b7 (h + 1) (by omega)
  · intro r p k o p' k' o' hr ih hpe
    obtain ⟨a1, a2, a3, a4⟩ := ih hpe
    exact ⟨a1, a2, a3, fun z => by cases z⟩
  · intro r b p k o hn hpe
    exact ⟨Nat.le_refl _, hpe, Nat.le_refl _, fun _ => ⟨rfl, [], (List.append_nil o).symm, fun h _ => rfl⟩⟩
  · intro r p k o p1 k1 o1 b p' k' o' hp hl ih1 ih2 hpe
    obtain ⟨a1, a2, a3, a4⟩ := ih1 (by omega)
    obtain ⟨a5, x, a6, a7⟩ := a4 rfl
    obtain ⟨b1, b2, b3, b4⟩ := ih2 a2
    rw [List.length_append] at b3
    simp at b3
    refine ⟨by omega, b2, by omega, fun hb => ?_⟩
    obtain ⟨b5, y, b6, b7⟩ := b4 hb
    refine ⟨b5.trans a5, x ++ ([2000 + t p] ++ y), by rw [b6, a6]; simp, fun h hh => ?_⟩
    rw [okL_app, a7 h, Option.bind_some]
    show okL (h + 1) ((2000 + t p) :: y) = _
    rw [okL_b (lvB_bin (by omega)) (by omega)]
    exact b7 h hh
  · intro r p k o p' k' o' hp hl ih hpe
    obtain ⟨a1, a2, a3, a4⟩ := ih (by omega)
    exact ⟨by omega, a2, by omega, fun z => by cases z⟩
def iS : FS := mkS [] [] 0 (fun _ => false) 0 true
/-- both readings of a text agree -/
theorem Pr_top {t : Nat → Nat} {e : Nat} {b : Bool} {p' k' : Nat} {o' : List Nat} {s : FS} (hs : s.wt = true ∧ s.dg = 0 ∧ s.op = 0 ∧ s.out = [] ∧ s.ws = [] ∧ s.cm 0 = false) (h : Pr t e 0 none 0 0 [] b p' k' o') : p' ≤ e ∧ o'.length ≤ p' ∧ ((b = true ∧ p' = e ∧ fnF e (goF t e 0 s) = .inr o' ∧ okL 0 o' = some 1) ∨ (¬ (b = true ∧ p' = e) ∧ fnF e (goF t e 0 s) = .inl p')) := by
  obtain ⟨w1, w2, w3, w4⟩ := (h _ (wf_clo t e)) (Nat.zero_le _)
  obtain ⟨q1, q2, q3, q4, q5, q6⟩ := hs
  have hl : o'.length ≤ p' := by simpa using w3
  refine ⟨w2, hl, ?_⟩
  have g := Pr_sim h (Nat.zero_le _) (by omega) s ⟨q1, q2, q3, q4, Or.inr (fun c w' z => by rw [q5] at z; cases z), fun _ => q6⟩
  cases b with
  | false => exact Or.inr ⟨(fun z => by cases z.1), (g.2 rfl).2⟩
  | true =>
    obtain ⟨s', g1, b1, b2, b3, b4, ⟨pend, d1, d2, d3⟩, b5, b6, b7, b8⟩ := g.1 rfl
    rw [Nat.sub_zero] at g1
    by_cases c : p' = e
    · refine Or.inl ⟨rfl, c, ?_, ?_⟩
      · rw [g1, c, Nat.sub_self]
        show (if s'.wt = true ∨ 0 < s'.op then _ else _) = _
        rw [if_neg (by rw [b3, b4]; simp), d1, q5, rel_app pend _ [] (fun c z => by have := d2 c z; omega) (fun c w' z => by cases z), d3]
      · obtain ⟨_, x, e1, e2⟩ := w4 rfl
        rw [e1]
        exact e2 0
    · refine Or.inr ⟨fun z => c z.2, ?_⟩
      rw [g1]
      exact stuck b3 b4 (by omega) (b5 (by omega)) (b6 (by omega)) (Or.inr rfl)
