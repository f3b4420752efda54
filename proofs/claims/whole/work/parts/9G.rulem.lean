/-! the model reads a rule -/
section RULEM
variable {m m' : jx_Mem} {tl : Nat} {tx : Nat → Nat} {cs : List Nat}
def wRuM (a k : Nat) : Prop := (a = 63 ∧ (k = 0 ∨ k = 23 ∨ k = 24 ∨ k = 25 ∨ k = 26)) ∨ a = 77 ∨ a = 78
theorem mr_129 : ∀ (j i : Nat) (m1 : jx_Mem), i + j = 48 → sm (fun a k => a = 77 ∧ k < 48) m m1 → (∀ q, q < i → m1.1 77 q = m.1 77 (48 + q)) → ∃ m2, f_M_rule_129 (nI i) m1 = some (0, m2) ∧ sm (fun a k => a = 77 ∧ k < 48) m m2 ∧ ∀ q, q < 48 → m2.1 77 q = m.1 77 (48 + q) := by
  intro j
  induction j with
  | zero =>
    intro i m1 hi hs h
    have : i = 48 := by omega
    subst this
    exact ⟨m1, (e_M_rule_129 _ _).trans (ifp (by decide)), hs, h⟩
  | succ j ih =>
    intro i m1 hi hs h
    obtain ⟨m2, r1, r2⟩ := ih (i + 1) (jx_w1 m1 77 i (m1.1 77 (48 + i))) (by omega) (hs.w1 (by omega)) (by
      intro q hq
      rw [w1_rd]
      by_cases c : q = i
      · rw [if_pos ⟨rfl, c⟩, c, (hs 77 (48 + i) (by omega)).1]
      · rw [if_neg (fun z => c z.2)]
        exact h q (by omega))
    refine ⟨m2, ?_, r2⟩
    rw [← r1, e_M_rule_129]
    refine (ifn (nI_ge (a := i) (b := 48) (by omega) (by omega))).trans ?_
    rw [show (48 : Int32) + nI i = nI (48 + i) from nI_add 48 i, in_nI (show 48 + i < 96 by omega) (by omega), in_nI (show i < 96 by omega) (by omega), Bool.true_and, cond_true, cond_true, nI_cl (by omega), nI_cl (by omega), nI_1]
theorem mr_103t {p k e : Nat} {o : List Nat} (h : qM tl tx e m p k o) (hl : o.length ≤ 40) : ∃ m', f_M_rule_103 1 m = some (0, m') ∧ codeM m' o ∧ sm (fun a k => (a = 77 ∧ k < 48) ∨ (a = 78 ∧ k = 0)) m m' := by
  obtain ⟨m2, r1, r2, r3⟩ := mr_129 (m := jx_w1 m 78 0 (nI o.length)) 48 0 (jx_w1 m 78 0 (nI o.length)) (by omega) sm.rf (fun q hq => absurd hq (Nat.not_lt_zero q))
  refine ⟨m2, ?_, ⟨(r2 78 0 (by omega)).1, fun i hi => ?_⟩, (sm_w1 (by omega)).tr (r2.mono (fun _ _ z => Or.inl z))⟩
  · rw [e_M_rule_103]
    refine (ifnn ne10).trans ?_
    show f_M_rule_129 0 (jx_w1 m 78 0 (m.1 78 1)) = _
    rw [h.2.2.2.1.1]
    exact r1
  · rw [r3 i (by omega)]
    exact h.2.2.2.1.2 i hi
theorem mr_103f {p : Nat} (h : m.1 63 24 = nI p) : f_M_rule_103 0 m = some (-1 - nI p, m) := by
  rw [e_M_rule_103, h]
  exact ifnp eq00
theorem M_rule (h : textM m tl tx) (g : gText tl tx) (hc : codeM m cs) (hl : cs.length ≤ 40) : ∃ m', sm wRuM m m' ∧ textM m' 0 tx ∧
    ((tl = 0 ∧ f_M_rule m = some (0, m') ∧ codeM m' []) ∨
     (0 < tl ∧ ∃ b p' k' o', Pr tx (min tl 40) 0 none 0 0 [] b p' k' o' ∧
       ((b = true ∧ p' = min tl 40 ∧ tl ≤ 40 ∧ f_M_rule m = some (0, m') ∧ codeM m' o') ∨ (b = true ∧ p' = min tl 40 ∧ 40 < tl ∧ f_M_rule m = some (-41, m') ∧ codeM m' cs) ∨ (¬ (b = true ∧ p' = min tl 40) ∧ f_M_rule m = some (-1 - nI p', m') ∧ codeM m' cs)))) := by
  have g1 := g.1
  have em : jx_mn (nI tl) 40 = nI (min tl 40) := by
    unfold jx_mn
    by_cases c : 40 < tl
    · rw [show min tl 40 = 40 by omega]
      exact if_pos (nI_lt (a := 40) c (by omega))
    · rw [show min tl 40 = tl by omega]
      exact if_neg (fun z => c ((nI_ltI (a := 40) (by omega) (by omega)).mp z))
  have e0 : f_M_rule m = if decide (m.1 63 23 = 0) = true then (f_M_rule_54 (m.1 63 23) (jx_w1 (jx_w1 (jx_w1 (jx_w1 (jx_w1 (jx_w1 m 63 0 0) 63 23 0) 63 24 0) 63 26 0) 63 25 (jx_mn (m.1 63 23) 40)) 78 1 0)) else ((f_M_ranked 120 0 (jx_w1 (jx_w1 (jx_w1 (jx_w1 (jx_w1 (jx_w1 m 63 0 0) 63 23 0) 63 24 0) 63 26 0) 63 25 (jx_mn (m.1 63 23) 40)) 78 1 0)).bind (fun p1 => if decide (p1.1 = 0) = true then (f_M_rule_59 (m.1 63 23) 0 p1.2) else (f_M_rule_54 (m.1 63 23) p1.2))) := e_M_rule m
  rw [h.1, em] at e0
  generalize hm0 : jx_w1 (jx_w1 (jx_w1 (jx_w1 (jx_w1 (jx_w1 m 63 0 0) 63 23 0) 63 24 0) 63 26 0) 63 25 (nI (min tl 40))) 78 1 0 = m0 at e0
  have s0 : sm wRuM m m0 := by
    rw [← hm0]
    exact (((((sm_w1 (by unfold wRuM; omega)).w1 (by unfold wRuM; omega)).w1 (by unfold wRuM; omega)).w1 (by unfold wRuM; omega)).w1 (by unfold wRuM; omega)).w1 (by unfold wRuM; omega)
  have q0 : qM tl tx (min tl 40) m0 0 0 [] := by
    rw [← hm0]
    exact ⟨rfl, rfl, rfl, ⟨rfl, fun i hi => absurd hi (Nat.not_lt_zero i)⟩, h.2, by omega, g1, by omega, g.2⟩
  have l0 : m0.1 63 23 = 0 := by rw [← hm0]; rfl
  have hc0 : codeM m0 cs := by rw [← hm0]; exact ⟨hc.1, hc.2⟩
  have hcS : ∀ m', sm wMu m0 m' → codeM m' cs := fun m' hs => codeM_sm hc0 hl hs (by intro a k; unfold dCM wMu; omega)
  have htS : ∀ m', sm (fun a k => wMu a k ∨ a = 77 ∨ a = 78) m0 m' → textM m' 0 tx := fun m' hs => ⟨(hs 63 23 (by unfold wMu; omega)).1.trans l0, fun i hi => absurd hi (Nat.not_lt_zero i)⟩
  have sS : ∀ m', sm (fun a k => wMu a k ∨ a = 77 ∨ a = 78) m0 m' → sm wRuM m m' := fun m' hs => s0.tr (hs.mono (by intro a k; unfold wMu wRuM; omega))
  by_cases c0 : tl = 0
  · have e1 := e0.trans (ifp (by rw [c0]; rfl))
    obtain ⟨m1, t1, t2, t3⟩ := mr_103t q0 (Nat.zero_le _)
    have t3' : sm (fun a k => wMu a k ∨ a = 77 ∨ a = 78) m0 m1 := t3.mono (by intro a k; omega)
    refine ⟨m1, sS _ t3', htS _ t3', Or.inl ⟨c0, e1.trans ?_, t2⟩⟩
    rw [e_M_rule_54, e_M_rule_59]
    refine (ifn ne10).trans ?_
    rw [q0.1, q0.2.2.1]
    refine (ifnp (by rw [c0]; rfl)).trans ?_
    rw [e_M_rule_80]
    refine (ifp (nI_le (b := 40) (by omega) (by omega))).trans t1
  · have e1 := e0.trans (ifn (fun z => c0 ((nI_eq (b := 0) (by omega) (by omega)).mp z)))
    obtain ⟨b, p', k', o', m1, r1, r2, r3, r4⟩ := (parse_ok (tl := tl) (tx := tx) (e := min tl 40) 120).1 0 m0 0 0 [] (by omega) q0 (Nat.zero_le _) (by omega) (Nat.zero_le _) (by omega)
    have w := Pr_wf r3 (Nat.zero_le _)
    have r4' : sm (fun a k => wMu a k ∨ a = 77 ∨ a = 78) m0 m1 := r4.mono (fun _ _ z => Or.inl z)
    rw [show f_M_ranked 120 0 m0 = some (jb (b = true), m1) from r1, Option.bind_some] at e1
    have no : f_M_rule_80 (nI tl) 0 m1 = some (-1 - nI p', m1) := by
      rw [e_M_rule_80]
      by_cases c40 : tl ≤ 40
      · exact (ifp (nI_le (b := 40) c40 (by omega))).trans (mr_103f r2.1)
      · refine (ifn (nI_ge (a := 40) (b := tl) (by omega) (by omega))).trans ((ifnp eq00).trans ?_)
        rw [r2.1]
        by_cases c : p' < 40
        · exact (ifp (nI_lt (b := 40) c (by omega))).trans (mr_103f r2.1)
        · have : p' = 40 := by omega
          subst this
          exact (ifn (by decide)).trans (e_M_rule_100 _)
    by_cases hb : b = true ∧ p' = min tl 40
    · have e2 : f_M_rule m = f_M_rule_80 (nI tl) 1 m1 := by
        rw [e1, hb.1]
        refine (ifn ne10).trans ?_
        show f_M_rule_54 (nI tl) m1 = _
        rw [e_M_rule_54, e_M_rule_59, r2.1, r2.2.2.1, hb.2]
        exact (ifn ne10).trans (ifnp rfl)
      have ol : o'.length ≤ 40 := by
        have := w.2.2.1
        simp at this
        omega
      by_cases c40 : tl ≤ 40
      · obtain ⟨m2, t1, t2, t3⟩ := mr_103t r2 ol
        have t3' : sm (fun a k => wMu a k ∨ a = 77 ∨ a = 78) m0 m2 := r4'.tr (t3.mono (by intro a k; omega))
        refine ⟨m2, sS _ t3', htS _ t3', Or.inr ⟨by omega, b, p', k', o', r3, Or.inl ⟨hb.1, hb.2, c40, e2.trans ?_, t2⟩⟩⟩
        rw [e_M_rule_80]
        exact (ifp (nI_le (b := 40) c40 (by omega))).trans t1
      · refine ⟨m1, sS _ r4', htS _ r4', Or.inr ⟨by omega, b, p', k', o', r3, Or.inr (Or.inl ⟨hb.1, hb.2, by omega, e2.trans ?_, hcS _ r4⟩)⟩⟩
        rw [e_M_rule_80]
        exact (ifn (nI_ge (a := 40) (b := tl) (by omega) (by omega))).trans ((ifnn ne10).trans (e_M_rule_100 _))
    · refine ⟨m1, sS _ r4', htS _ r4', Or.inr ⟨by omega, b, p', k', o', r3, Or.inr (Or.inr ⟨hb, e1.trans ?_, hcS _ r4⟩)⟩⟩
      have f79 : f_M_rule_79 (nI tl) m1 = some (-1 - nI p', m1) := (e_M_rule_79 _ _).trans no
      cases hbb : b with
      | false =>
        refine (ifp rfl).trans ?_
        show f_M_rule_59 (nI tl) 0 m1 = _
        rw [e_M_rule_59]
        exact (ifp eq00).trans f79
      | true =>
        refine (ifn ne10).trans ?_
        show f_M_rule_54 (nI tl) m1 = _
        rw [e_M_rule_54, e_M_rule_59, r2.1, r2.2.2.1]
        refine (ifn ne10).trans ((ifnn (fun z => ?_)).trans f79)
        exact hb ⟨hbb, (nI_eq (by omega) (by omega)).mp z⟩
/-- a rule is read alike on both sides -/
theorem rule_both {m1 : jx_Mem} (hF : textF m tl tx) (hM : textM m1 tl tx) (g : gText tl tx) (hcF : codeF m cs) (hcM : codeM m1 cs) (gc : gCode cs) : ∃ v m' m2 cs', gCode cs' ∧ f_F_rule m = some (v, m') ∧ f_M_rule m1 = some (v, m2) ∧ sm wRuF m m' ∧ sm wRuM m1 m2 ∧ textF m' 0 tx ∧ textM m2 0 tx ∧ codeF m' cs' ∧ codeM m2 cs' := by
  obtain ⟨m', a1, a2, a3⟩ := F_rule hF g hcF
  obtain ⟨m2, b1, b2, b3⟩ := M_rule hM g hcM gc.1
  rcases b3 with ⟨c0, b4, b5⟩ | ⟨c0, b, p', k', o', b4, b5⟩
  · rcases a3 with ⟨_, a4, a5⟩ | ⟨z, _⟩ | ⟨z, _⟩ | ⟨z, _⟩
    · exact ⟨0, m', m2, [], ⟨Nat.zero_le _, Or.inl rfl⟩, a4, b4, a1, b1, a2, b2, a5, b5⟩
    · omega
    · omega
    · omega
  · obtain ⟨t1, t2, t3⟩ := Pr_top (s := rs0 m) ⟨rfl, rfl, rfl, rfl, rfl, rfl⟩ b4
    rcases t3 with ⟨t4, t5, t6, t7⟩ | ⟨t4, t5⟩
    · have go : gCode o' := ⟨by omega, Or.inr t7⟩
      rcases b5 with ⟨_, _, c40, b6, b7⟩ | ⟨_, _, c40, b6, b7⟩ | ⟨z, _⟩
      · rcases a3 with ⟨z, _⟩ | ⟨_, q, a4, _⟩ | ⟨_, _, o, a4, a5, a6⟩ | ⟨z, _⟩
        · omega
        · rw [t6] at a4; cases a4
        · rw [t6] at a4
          cases a4
          exact ⟨0, m', m2, o', go, a5, b6, a1, b1, a2, b2, a6, b7⟩
        · omega
      · rcases a3 with ⟨z, _⟩ | ⟨_, q, a4, _⟩ | ⟨_, z, _⟩ | ⟨_, o, a4, a5, a6⟩
        · omega
        · rw [t6] at a4; cases a4
        · omega
        · exact ⟨-41, m', m2, cs, gc, a5, b6, a1, b1, a2, b2, a6, b7⟩
      · exact absurd ⟨t4, t5⟩ z
    · rcases b5 with ⟨y1, y2, _⟩ | ⟨y1, y2, _⟩ | ⟨_, b6, b7⟩
      · exact absurd ⟨y1, y2⟩ t4
      · exact absurd ⟨y1, y2⟩ t4
      · rcases a3 with ⟨z, _⟩ | ⟨_, q, a4, a5, a6⟩ | ⟨_, _, o, a4, _⟩ | ⟨_, o, a4, _⟩
        · omega
        · rw [t5] at a4
          cases a4
          exact ⟨-1 - nI p', m', m2, cs, gc, a5, b6, a1, b1, a2, b2, a6, b7⟩
        · rw [t5] at a4; cases a4
        · rw [t5] at a4; cases a4
end RULEM
