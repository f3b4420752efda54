/-! the class reads what stands behind a thing, and the whole rule -/
section RULEF
variable {m m' : jx_Mem}
theorem dl_snoc (l : List Nat) (x : Nat) : (l ++ [x]).dropLast = l ∧ (l ++ [x]).getLastD 0 = x := by
  constructor
  · simp
  · simp
theorem tail_mem {ws : List Nat} {c : Nat} (h : c ∈ ws.tail) : c ∈ ws := List.mem_of_mem_tail h
theorem oF_tail {out ws : List Nat} {m1 : jx_Mem} (h : oF m1 out ws) (hl : ws.length ≤ 40) : jx_mx 0 (m1.1 18 8 - 1) = nI ws.tail.length ∧ ∀ i, i < ws.tail.length → m1.1 22 i = nI (ws.tail.getD (ws.tail.length - 1 - i) 0) := by
  rw [h.2.1]
  cases ws with
  | nil => exact ⟨by decide, fun i hi => absurd hi (Nat.not_lt_zero i)⟩
  | cons c ws =>
    have el : (c :: ws).length = ws.length + 1 := List.length_cons
    rw [el] at hl
    refine ⟨?_, fun i hi => ?_⟩
    · rw [el, nI_pred]
      show (if (0 : Int32) < nI ws.length then nI ws.length else 0) = nI ws.length
      by_cases z : ws.length = 0
      · rw [z]; rfl
      · exact if_pos (nI_lt (a := 0) (b := ws.length) (by omega) (by omega))
    · have hi2 : i < ws.length := hi
      rw [h.2.2 i (by rw [el]; omega), el, show ws.length + 1 - 1 - i = (ws.length - 1 - i) + 1 by omega, List.getD_cons_succ]
      rfl
theorem s_beh {s : FS} {c : Nat} (h : pF m s) (hw : s.wt = false) (hl : s.out.length + s.ws.length < 40) (hc : c < 256) : ∃ m', f_Rule_takesBehind (nI c) m = some (jb ((stBe s c).isSome = true), m') ∧ sm wRu m m' ∧ ∀ s', stBe s c = some s' → pF m' s' := by
  have ho := pF_o h
  obtain ⟨h1, h2, h3, h4, h5, h6, h7, h8⟩ := h
  rw [e_Rule_takesBehind, s_dig (by omega), Option.bind_some]
  unfold stBe
  have ne : ∀ q, q < 2 ^ 31 → c ≠ q → ¬ nI c = nI q := fun q hq e z => e ((nI_eq (by omega) hq).mp z)
  have pre1 : ∀ {P1 : Bool} {Q : jx_Mem → Prop} {Y X : Option (Int32 × jx_Mem)}, X = Y → (∃ m', Y = some (jb (P1 = true), m') ∧ Q m') → ∃ m', X = some (jb (P1 = true), m') ∧ Q m' := by
    intro P1 Q Y X e h; rw [e]; exact h
  by_cases cd : 48 ≤ c ∧ c ≤ 57
  · rw [jb_t cd, if_pos cd]
    refine pre1 (ifn ne10) ?_
    show ∃ m', (f_Rule_goesOn (nI c - 48) m).bind _ = _ ∧ _
    rw [e_Rule_goesOn, h4]
    have f22 : f_Rule_goesOn_22 m = some (0, m) := e_Rule_goesOn_22 m
    by_cases z0 : s.dg = 0
    · rw [if_pos (Or.inl z0)]
      refine ⟨m, ?_, sm.rf, fun s' hs' => by cases hs'⟩
      have e0 : ∀ X : Option (Int32 × jx_Mem), (if decide (nI s.dg = 0) = true then (f_Rule_goesOn_22 m) else X) = some (0, m) := fun X => (ifp (by rw [z0]; rfl)).trans f22
      rw [e0, Option.bind_some]
      rfl
    · obtain ⟨d3, l, x, e1, e2⟩ := h8 z0
      have e0 : ∀ X Y : Option (Int32 × jx_Mem), (if decide (nI s.dg = 0) = true then Y else X) = X := fun X Y => ifn (fun z => z0 ((nI_eq (b := 0) (by omega) (by omega)).mp z))
      rw [e0]
      by_cases z3 : 3 ≤ s.dg
      · rw [if_pos (Or.inr (Or.inl z3))]
        refine ⟨m, ?_, sm.rf, fun s' hs' => by cases hs'⟩
        have e3 : ∀ X : Option (Int32 × jx_Mem), (if decide (3 ≤ nI s.dg) = true then (f_Rule_goesOn_22 m) else X) = some (0, m) := fun X => (ifp (nI_le (a := 3) z3 (by omega))).trans f22
        rw [e3, Option.bind_some]
        rfl
      · have hne : ¬ s.out = [] := by rw [e1]; simp
        have hno : ¬ (s.dg = 0 ∨ 3 ≤ s.dg ∨ s.out = []) := fun z => z.elim z0 (fun z => z.elim z3 hne)
        rw [if_neg hno]
        have el : s.out.length = l.length + 1 := by rw [e1, List.length_append]; rfl
        have e3 : ∀ X Y : Option (Int32 × jx_Mem), (if decide (3 ≤ nI s.dg) = true then Y else X) = X := fun X Y => ifn (nI_ge (a := s.dg) (b := 3) (by omega) (by omega))
        have e6 : ∀ X Y : Option (Int32 × jx_Mem), (if decide (¬ nI s.out.length = 0) = true then X else Y) = X := fun X Y => ifnn (fun z => by have := (nI_eq (b := 0) (by omega) (by omega)).mp z; omega)
        have x100 : x < 100 := by
          have : s.dg = 1 ∨ s.dg = 2 := by omega
          rcases this with q | q
          · rw [q] at e2; omega
          · rw [q] at e2; omega
        have ev : m.1 21 l.length = encF x := by
          rw [h1.2 l.length (by omega), e1, getD_snoc _ _ _ (by omega), if_pos rfl]
        have en : encF x * 10 + (nI c - 48) = encF (x * 10 + (c - 48)) := by
          unfold encF
          rw [if_pos (by omega), if_pos (by omega), show nI c - 48 = nI (c - 48) from pk_sub cd.1]
          exact nI_ix 10 x (c - 48) |>.trans (by rw [Nat.mul_comm])
        have f : (if decide (¬ nI s.out.length = 0) = true then (bif jx_in (nI s.out.length - 1) 40 then bif (jx_in (nI s.out.length - 1) 40 && true) then (let m1 := jx_w1 m 21 (nI s.out.length - 1).toNatClampNeg (((m.1 21 (nI s.out.length - 1).toNatClampNeg) * 10) + (nI c - 48)); let m2 := jx_w1 m1 18 11 ((m1.1 18 11) + 1); some ((1 : Int32), m2)) else none else none) else (f_Rule_goesOn_22 m)) = some (1, jx_w1 (jx_w1 m 21 l.length (encF (x * 10 + (c - 48)))) 18 11 (nI (s.dg + 1))) := by
          rw [e6, el, nI_pred, in_nI (show l.length < 40 by omega) (by omega), Bool.true_and, cond_true, cond_true, nI_cl (by omega), ev, en]
          show some ((1 : Int32), jx_w1 (jx_w1 m 21 l.length (encF (x * 10 + (c - 48)))) 18 11 (m.1 18 11 + 1)) = _
          rw [h4, nI_1]
        refine ⟨jx_w1 (jx_w1 m 21 l.length (encF (x * 10 + (c - 48)))) 18 11 (nI (s.dg + 1)), ?_, (sm_w1 (by unfold wRu; omega)).w1 (by unfold wRu; omega), fun s' hs' => ?_⟩
        · rw [e3, h1.1, f, Option.bind_some]
          rfl
        · cases hs'
          have dl := dl_snoc l x
          rw [← e1] at dl
          rw [dl.1, dl.2]
          have el2 : (l ++ [x * 10 + (c - 48)]).length = l.length + 1 := by rw [List.length_append]; rfl
          refine pF_mk ⟨⟨?_, fun i hi => ?_⟩, h2⟩ h3 rfl h5 h6 (fun z => by rw [hw] at z; cases z) (fun _ => ⟨by omega, l, _, rfl, ?_⟩)
          · rw [el2, ← el]
            exact h1.1
          · rw [el2] at hi
            rw [getD_snoc _ _ _ hi, w1_rd, if_neg (by omega), w1_rd]
            by_cases e : i = l.length
            · rw [if_pos ⟨rfl, e⟩, if_pos e]
            · rw [if_neg (fun z => e z.2), if_neg e, h1.2 i (by omega), e1, getD_snoc _ _ _ (by omega), if_neg e]
          · rw [Nat.pow_succ]
            omega
  · rw [jb_f cd, if_neg cd]
    refine pre1 (ifp eq00) ?_
    have ho1 : oF (jx_w1 m 18 11 0) s.out s.ws := ⟨h1, h2⟩
    by_cases c41 : c = 41
    · rw [if_pos c41]
      refine pre1 (ifnp (by rw [c41]; rfl)) ?_
      show ∃ m', (f_Rule_closes (jx_w1 m 18 11 0)).bind _ = _ ∧ _
      rw [e_Rule_closes, show (jx_w1 m 18 11 0).1 18 10 = nI s.op from h3.1]
      by_cases z0 : s.op = 0
      · rw [if_pos z0]
        refine ⟨jx_w1 m 18 11 0, ?_, sm_w1 (by unfold wRu; omega), fun s' hs' => by cases hs'⟩
        have e0 : ∀ X : Option (Int32 × jx_Mem), (if decide (¬ nI s.op = 0) = true then X else (some ((0 : Int32), jx_w1 m 18 11 0))) = some (0, jx_w1 m 18 11 0) := fun X => ifnp (by rw [z0]; rfl)
        rw [e0, Option.bind_some]
        rfl
      · rw [if_neg z0]
        obtain ⟨m1, r1, r2, r3⟩ := s_release (l := 1) (by omega) s.ws s.out (jx_w1 m 18 11 0) ho1 (by omega) h6
        have hln := rel_len 1 s.ws s.out
        have ot := oF_tail (m1 := m1) (out := (rel 1 s.out s.ws).1) (ws := (rel 1 s.out s.ws).2) r2 (by omega)
        refine ⟨jx_w1 (jx_w1 m1 18 10 (nI (s.op - 1))) 18 8 (nI (rel 1 s.out s.ws).2.tail.length), ?_, (((sm_w1 (by unfold wRu; omega)).tr (r3.mono (by intro a k; unfold wRu; omega))).w1 (by unfold wRu; omega)).w1 (by unfold wRu; omega), fun s' hs' => ?_⟩
        · have e0 : ∀ X Y : Option (Int32 × jx_Mem), (if decide (¬ nI s.op = 0) = true then X else Y) = X := fun X Y => ifnn (fun z => z0 ((nI_eq (b := 0) (by omega) (by omega)).mp z))
          rw [e0, show f_Rule_release 1 (jx_w1 m 18 11 0) = some m1 from r1, Option.bind_some, Option.bind_some]
          show (bif jx_01 1 then some ((1 : Int32), jx_w1 (jx_w1 m1 18 10 (m1.1 18 10 - 1)) 18 8 (jx_mx 0 (m1.1 18 8 - 1))) else none) = _
          rw [ot.1, (r3 18 10 (by omega)).1, show (jx_w1 m 18 11 0).1 18 10 = nI s.op from h3.1, nIp (by omega)]
          rfl
        · cases hs'
          refine pF_mk ⟨r2.1, ⟨rfl, ot.2⟩⟩ ⟨rfl, by omega, fun j hj => ?_⟩ ?_ ?_ (fun x hx => h6 x (rel_mem 1 _ _ x (tail_mem hx))) (fun _ => rfl) (fun z => absurd rfl z)
          · rw [w1_rd, if_neg (by omega), w1_rd, if_neg (by omega), (r3 23 j (by omega)).1]
            exact h3.2.2 j hj
          · exact (r3 18 11 (by omega)).1
          · exact (r3 18 12 (by omega)).1.trans h5
    · rw [if_neg c41]
      refine pre1 (ifnn (ne 41 (by omega) c41)) ?_
      show ∃ m', (f_Rule_levelBetween (nI c) (jx_w1 m 18 11 0)).bind _ = _ ∧ _
      rw [s_lvB (by omega), Option.bind_some]
      have l5 := lvB_le c
      have f58 : ∀ m, f_Rule_takesBehind_58 m = some (0, m) := e_Rule_takesBehind_58
      by_cases z0 : lvB c = 0
      · rw [if_pos (Or.inl z0)]
        exact ⟨jx_w1 m 18 11 0, (ifp (by rw [z0]; rfl)).trans (f58 _), sm_w1 (by unfold wRu; omega), fun s' hs' => by cases hs'⟩
      · refine pre1 (ifn (fun z => z0 ((nI_eq (b := 0) (by omega) (by omega)).mp z))) ?_
        have eo : (jx_w1 m 18 11 0).1 18 10 = nI s.op := h3.1
        by_cases zc : lvB c = 3 ∧ s.cm s.op = true
        · rw [if_pos (Or.inr zc)]
          refine ⟨jx_w1 m 18 11 0, ?_, sm_w1 (by unfold wRu; omega), fun s' hs' => by cases hs'⟩
          refine (ifnp (by rw [zc.1]; rfl)).trans ?_
          show (bif jx_in ((jx_w1 m 18 11 0).1 18 10) 6 then (if decide ((jx_w1 m 18 11 0).1 23 ((jx_w1 m 18 11 0).1 18 10).toNatClampNeg = 0) = true then _ else _) else none) = _
          rw [eo, in_nI (show s.op < 6 by omega) (by omega), cond_true, nI_cl (by omega)]
          refine (ifn (fun z => ?_)).trans (f58 _)
          have := (h3.2.2 s.op (by omega)).mp z
          rw [zc.2] at this
          cases this
        · have hno : ¬ (lvB c = 0 ∨ (lvB c = 3 ∧ s.cm s.op = true)) := fun z => z.elim z0 zc
          rw [if_neg hno]
          have to60 : ∀ {P1 : Bool} {Q : jx_Mem → Prop}, (∃ m', f_Rule_takesBehind_60 (nI c) (nI (lvB c)) (jx_w1 m 18 11 0) = some (jb (P1 = true), m') ∧ Q m') → ∃ m', (if decide (¬ nI (lvB c) = 3) = true then (f_Rule_takesBehind_60 (nI c) (nI (lvB c)) (jx_w1 m 18 11 0)) else (bif jx_in ((jx_w1 m 18 11 0).1 18 10) 6 then if decide (((jx_w1 m 18 11 0).1 23 ((jx_w1 m 18 11 0).1 18 10).toNatClampNeg) = 0) = true then (f_Rule_takesBehind_60 (nI c) (nI (lvB c)) (jx_w1 m 18 11 0)) else (f_Rule_takesBehind_58 (jx_w1 m 18 11 0)) else none)) = some (jb (P1 = true), m') ∧ Q m' := by
            intro P1 Q hh
            by_cases z3 : lvB c = 3
            · refine pre1 (ifnp (by rw [z3]; rfl)) ?_
              rw [eo, in_nI (show s.op < 6 by omega) (by omega), cond_true, nI_cl (by omega)]
              refine pre1 (ifp ?_) hh
              refine (h3.2.2 s.op (by omega)).mpr ?_
              cases q : s.cm s.op with
              | false => rfl
              | true => exact absurd ⟨z3, q⟩ zc
            · exact pre1 (ifnn (fun z => z3 ((nI_eq (b := 3) (by omega) (by omega)).mp z))) hh
          refine to60 ?_
          rw [e_Rule_takesBehind_60]
          have f84 : ∀ m0, sm wRu m m0 → oF m0 s.out s.ws → m0.1 18 10 = nI s.op → m0.1 18 11 = 0 → (∀ j, j < 6 → (m0.1 23 j = 0 ↔ (if lvB c ≤ 3 then upB s.cm s.op (decide (lvB c = 3)) else s.cm) j = false)) →
              ∃ m', f_Rule_takesBehind_84 (nI c) (nI (lvB c)) m0 = some (1, m') ∧ sm wRu m m' ∧ pF m' (mkS (rel (lvB c) s.out s.ws).1 (c :: (rel (lvB c) s.out s.ws).2) s.op (if lvB c ≤ 3 then upB s.cm s.op (decide (lvB c = 3)) else s.cm) 0 true) := by
            intro m0 q1 q2 q3 q4 q5
            obtain ⟨m1, r1, r2, r3⟩ := s_release (l := lvB c) (by omega) s.ws s.out m0 q2 (by omega) h6
            have hln := rel_len (lvB c) s.ws s.out
            obtain ⟨m2, t1, t2, t3, t4⟩ := s_await (c := c) r2 (by omega)
            refine ⟨jx_w1 m2 18 12 1, ?_, ((q1.tr (r3.mono (by intro a k; unfold wRu; omega))).tr t2).w1 (by unfold wRu; omega), ?_⟩
            · rw [e_Rule_takesBehind_84, r1, Option.bind_some, t1]
              rfl
            · refine pF_mk ⟨t3.1, t3.2⟩ ⟨?_, h3.2.1, fun j hj => ?_⟩ ?_ rfl (fun x hx => ?_) (fun _ => rfl) (fun z => absurd rfl z)
              · exact (t4 18 10 (by omega)).trans ((r3 18 10 (by omega)).1.trans q3)
              · rw [w1_rd, if_neg (by omega), t4 23 j (by omega), (r3 23 j (by omega)).1]
                exact q5 j hj
              · exact (t4 18 11 (by omega)).trans ((r3 18 11 (by omega)).1.trans q4)
              · rcases List.mem_cons.mp hx with e | e
                · omega
                · exact h6 x (rel_mem _ _ _ x e)
          have fin : ∀ m0, (∃ m', f_Rule_takesBehind_84 (nI c) (nI (lvB c)) m0 = some (1, m') ∧ sm wRu m m' ∧ pF m' (mkS (rel (lvB c) s.out s.ws).1 (c :: (rel (lvB c) s.out s.ws).2) s.op (if lvB c ≤ 3 then upB s.cm s.op (decide (lvB c = 3)) else s.cm) 0 true)) → ∃ m', f_Rule_takesBehind_84 (nI c) (nI (lvB c)) m0 = some (jb ((some (mkS (rel (lvB c) s.out s.ws).1 (c :: (rel (lvB c) s.out s.ws).2) s.op (if lvB c ≤ 3 then upB s.cm s.op (decide (lvB c = 3)) else s.cm) 0 true)).isSome = true), m') ∧ sm wRu m m' ∧ ∀ s', some (mkS (rel (lvB c) s.out s.ws).1 (c :: (rel (lvB c) s.out s.ws).2) s.op (if lvB c ≤ 3 then upB s.cm s.op (decide (lvB c = 3)) else s.cm) 0 true) = some s' → pF m' s' := by
            rintro m0 ⟨m', a1, a2, a3⟩
            exact ⟨m', a1, a2, fun s' hs' => by cases hs'; exact a3⟩
          by_cases z3 : 3 < lvB c
          · refine pre1 (ifp (nI_lt (a := 3) z3 (by omega))) ?_
            refine fin _ (f84 _ (sm_w1 (by unfold wRu; omega)) ho1 eo rfl (fun j hj => ?_))
            rw [if_neg (by omega)]
            exact h3.2.2 j hj
          · refine pre1 (ifn (fun z => z3 ((nI_ltI (a := 3) (by omega) (by omega)).mp z))) ?_
            have f83 : ∀ (y : Int32) (b : Bool), (y = 0 ∨ y = 1) → (y = 0 ↔ b = false) → b = decide (lvB c = 3) → ∃ m', f_Rule_takesBehind_83 (nI c) (nI (lvB c)) y ((jx_w1 m 18 11 0).1 18 10) (jx_w1 m 18 11 0) = some (1, m') ∧ sm wRu m m' ∧ pF m' (mkS (rel (lvB c) s.out s.ws).1 (c :: (rel (lvB c) s.out s.ws).2) s.op (if lvB c ≤ 3 then upB s.cm s.op (decide (lvB c = 3)) else s.cm) 0 true) := by
              intro y b hy hyb hb
              rw [e_Rule_takesBehind_83, eo, in_nI (show s.op < 6 by omega) (by omega), nI_cl (by omega), show jx_01 y = true by rcases hy with rfl | rfl <;> rfl, Bool.true_and, cond_true]
              refine f84 (jx_w1 (jx_w1 m 18 11 0) 23 s.op y) ((sm_w1 (by unfold wRu; omega)).w1 (by unfold wRu; omega)) ⟨h1, h2⟩ h3.1 rfl (fun j hj => ?_)
              rw [if_pos (by omega), w1_rd]
              by_cases e : j = s.op
              · rw [if_pos ⟨rfl, e⟩, e, upB_s, ← hb]
                exact hyb
              · rw [if_neg (fun z => e z.2), upB_n e]
                exact h3.2.2 j hj
            have fin3 : ∀ (y : Int32), (∃ m', f_Rule_takesBehind_83 (nI c) (nI (lvB c)) y ((jx_w1 m 18 11 0).1 18 10) (jx_w1 m 18 11 0) = some (1, m') ∧ sm wRu m m' ∧ pF m' (mkS (rel (lvB c) s.out s.ws).1 (c :: (rel (lvB c) s.out s.ws).2) s.op (if lvB c ≤ 3 then upB s.cm s.op (decide (lvB c = 3)) else s.cm) 0 true)) → ∃ m', f_Rule_takesBehind_83 (nI c) (nI (lvB c)) y ((jx_w1 m 18 11 0).1 18 10) (jx_w1 m 18 11 0) = some (jb ((some (mkS (rel (lvB c) s.out s.ws).1 (c :: (rel (lvB c) s.out s.ws).2) s.op (if lvB c ≤ 3 then upB s.cm s.op (decide (lvB c = 3)) else s.cm) 0 true)).isSome = true), m') ∧ sm wRu m m' ∧ ∀ s', some (mkS (rel (lvB c) s.out s.ws).1 (c :: (rel (lvB c) s.out s.ws).2) s.op (if lvB c ≤ 3 then upB s.cm s.op (decide (lvB c = 3)) else s.cm) 0 true) = some s' → pF m' s' := by
              rintro y ⟨m', a1, a2, a3⟩
              exact ⟨m', a1, a2, fun s' hs' => by cases hs'; exact a3⟩
            by_cases z4 : lvB c = 3
            · refine pre1 (ifnp (by rw [z4]; rfl)) ?_
              exact fin3 1 (f83 1 true (Or.inr rfl) ⟨fun z => absurd z ne10, fun z => by cases z⟩ (decide_eq_true z4).symm)
            · refine pre1 (ifnn (fun z => z4 ((nI_eq (b := 3) (by omega) (by omega)).mp z))) ?_
              exact fin3 0 (f83 0 false (Or.inl rfl) ⟨fun _ => rfl, fun _ => rfl⟩ (decide_eq_false z4).symm)
theorem stF_len {s s' : FS} {c : Nat} (h : stF s c = some s') : s'.out.length + s'.ws.length ≤ s.out.length + s.ws.length + 1 := by
  unfold stF at h
  by_cases hw : s.wt = true
  · rw [if_pos hw] at h
    unfold stTh at h
    repeat' split at h
    all_goals first | cases h | skip
    all_goals simp [mkS, FS.out, FS.ws] <;> omega
  · rw [if_neg hw] at h
    unfold stBe at h
    have r1 := rel_len 1 s.ws s.out
    have r2 := rel_len (lvB c) s.ws s.out
    split at h
    · split at h
      · cases h
      · cases h
        show (s.out.dropLast ++ [_]).length + s.ws.length ≤ _
        rw [List.length_append, List.length_dropLast]
        simp
        omega
    · split at h
      · split at h
        · cases h
        · cases h
          show (rel 1 s.out s.ws).1.length + (rel 1 s.out s.ws).2.tail.length ≤ _
          rw [List.length_tail]
          omega
      · split at h
        · cases h
        · cases h
          show (rel (lvB c) s.out s.ws).1.length + (c :: (rel (lvB c) s.out s.ws).2).length ≤ _
          rw [List.length_cons]
          omega
theorem s_read {tl : Nat} {tx : Nat → Nat} (ht : ∀ i, i < tl → m.1 19 i = nI (tx i)) (g : gText tl tx) : ∀ (n p : Nat) (m1 : jx_Mem) (s : FS), p + n = min tl 40 → pF m1 s → s.out.length + s.ws.length ≤ p → sm wRu m m1 →
    (∀ q, goF tx n p s = .inl q → ∃ m', f_Rule_read_27 (nI tl) (nI p) m1 = some (-1 - nI q, m') ∧ sm wRu m m') ∧
    (∀ s', goF tx n p s = .inr s' → ∃ m', f_Rule_read_27 (nI tl) (nI p) m1 = f_Rule_read_83 (nI tl) m' ∧ sm wRu m m' ∧ pF m' s' ∧ s'.out.length + s'.ws.length ≤ 40) := by
  have g1 := g.1
  intro n
  induction n with
  | zero =>
    intro p m1 s hp h hl hs
    have e40 : p = tl ∨ p = 40 := by omega
    refine ⟨(fun q hq => by cases hq), fun s' hs' => ?_⟩
    cases hs'
    refine ⟨m1, ?_, hs, h, by omega⟩
    rw [e_Rule_read_27]
    by_cases c : tl ≤ p
    · exact ifp (nI_le c (by omega))
    · refine (ifn (nI_ge (a := p) (b := tl) (by omega) (by omega))).trans ?_
      exact ifp (nI_le (a := 40) (by omega) (by omega))
  | succ n ih =>
    intro p m1 s hp h hl hs
    have hp1 : p < tl ∧ p < 40 := by omega
    have hc : m1.1 19 p = nI (tx p) := (hs 19 p (by unfold wRu; omega)).1.trans (ht p hp1.1)
    have h12 := h.2.2.2.2.1
    have key : ∃ m', f_Rule_read_27 (nI tl) (nI p) m1 = f_Rule_read_68 (nI tl) (nI p) (jb ((stF s (tx p)).isSome = true)) m' ∧ sm wRu m1 m' ∧ ∀ s', stF s (tx p) = some s' → pF m' s' := by
      rw [e_Rule_read_27]
      have e1 : ∀ X Y : Option (Int32 × jx_Mem), (if decide (nI tl ≤ nI p) = true then X else Y) = Y := fun X Y => ifn (nI_ge (a := p) (b := tl) hp1.1 (by omega))
      have e2 : ∀ X Y : Option (Int32 × jx_Mem), (if decide (40 ≤ nI p) = true then X else Y) = Y := fun X Y => ifn (nI_ge (a := p) (b := 40) hp1.2 (by omega))
      rw [e1, e2, h12, in_nI (show p < 60 by omega) (by omega), cond_true, cond_true, nI_cl (by omega), hc]
      unfold stF
      by_cases hw : s.wt = true
      · rw [if_pos hw, jb_t hw]
        obtain ⟨m2, r1, r2, r3⟩ := s_thing h hw (by omega) (g.2 p)
        refine ⟨m2, (ifn ne10).trans ?_, r2, r3⟩
        rw [r1]
        rfl
      · rw [if_neg hw, jb_f hw]
        obtain ⟨m2, r1, r2, r3⟩ := s_beh h (by simpa using hw) (by omega) (g.2 p)
        refine ⟨m2, (ifp eq00).trans ?_, r2, r3⟩
        rw [r1]
        rfl
    obtain ⟨m2, k1, k2, k3⟩ := key
    have eg : goF tx (n + 1) p s = match stF s (tx p) with | none => .inl p | some s' => goF tx n (p + 1) s' := rfl
    rw [k1, e_Rule_read_68, eg]
    cases e : stF s (tx p) with
    | none =>
      refine ⟨fun q hq => ?_, fun s' hs' => by cases hs'⟩
      cases hq
      exact ⟨m2, ifnp rfl, hs.tr k2⟩
    | some s1 =>
      have hl1 := stF_len e
      have := ih (p + 1) m2 s1 (by omega) (k3 s1 e) (by omega) (hs.tr k2)
      have e3 : (if decide (¬ jb ((some s1).isSome = true) = 0) = true then (f_Rule_read_27 (nI tl) (nI p + 1) m2) else (some ((-1) - nI p, m2))) = f_Rule_read_27 (nI tl) (nI (p + 1)) m2 := (ifnn ne10).trans (by rw [nI_1])
      rw [e3]
      exact this
def wRuF (a k : Nat) : Prop := wRu a k ∨ (a = 18 ∧ (k = 2 ∨ k = 4)) ∨ a = 20
def rs0 (m : jx_Mem) : FS := mkS [] [] 0 (fun j => if j = 0 then false else decide (¬ m.1 23 j = 0)) 0 true
theorem F_rule {tl : Nat} {tx : Nat → Nat} {cs : List Nat} (h : textF m tl tx) (g : gText tl tx) (hc : codeF m cs) : ∃ m', sm wRuF m m' ∧ textF m' 0 tx ∧
    ((tl = 0 ∧ f_F_rule m = some (0, m') ∧ codeF m' []) ∨
     (0 < tl ∧ ∃ q, fnF (min tl 40) (goF tx (min tl 40) 0 (rs0 m)) = .inl q ∧ f_F_rule m = some (-1 - nI q, m') ∧ codeF m' cs) ∨
     (0 < tl ∧ tl ≤ 40 ∧ ∃ o, fnF (min tl 40) (goF tx (min tl 40) 0 (rs0 m)) = .inr o ∧ f_F_rule m = some (0, m') ∧ codeF m' o) ∨
     (40 < tl ∧ ∃ o, fnF (min tl 40) (goF tx (min tl 40) 0 (rs0 m)) = .inr o ∧ f_F_rule m = some (-41, m') ∧ codeF m' cs)) := by
  have g1 := g.1
  have tx0 : ∀ m' : jx_Mem, m'.1 18 2 = 0 → textF m' 0 tx := fun m' e => ⟨e, fun i hi => absurd hi (Nat.not_lt_zero i)⟩
  have outer : ∀ {v : Int32} {m' : jx_Mem}, f_Rule_read m = some (v, m') → f_F_rule m = some (v, m') := by
    intro v m' e
    rw [e_F_rule, e]
    rfl
  have e0 : f_Rule_read m = (if decide (¬ m.1 18 2 = 0) = true then ((f_Rule_startDraft (jx_w1 m 18 2 0)).bind (fun p1 => f_Rule_read_27 (m.1 18 2) 0 p1)) else (some ((0 : Int32), jx_w1 (jx_w1 m 18 2 0) 18 4 0))) := e_Rule_read m
  rw [h.1] at e0
  by_cases c0 : tl = 0
  · refine ⟨jx_w1 (jx_w1 m 18 2 0) 18 4 0, (sm_w1 (by unfold wRuF; omega)).w1 (by unfold wRuF; omega), tx0 _ rfl, Or.inl ⟨c0, outer (e0.trans (ifnp (by rw [c0]; rfl))), rfl, fun k hk => absurd hk (Nat.not_lt_zero k)⟩⟩
  · have e1 := e0.trans (ifnn (fun z => c0 ((nI_eq (b := 0) (by omega) (by omega)).mp z)))
    have sd : f_Rule_startDraft (jx_w1 m 18 2 0) = some (jx_w1 (jx_w1 (jx_w1 (jx_w1 (jx_w1 (jx_w1 (jx_w1 m 18 2 0) 18 6 0) 18 8 0) 18 10 0) 23 0 0) 18 11 0) 18 12 1) := by
      rw [e_Rule_startDraft]
      rfl
    rw [sd, Option.bind_some] at e1
    generalize hm0 : jx_w1 (jx_w1 (jx_w1 (jx_w1 (jx_w1 (jx_w1 (jx_w1 m 18 2 0) 18 6 0) 18 8 0) 18 10 0) 23 0 0) 18 11 0) 18 12 1 = m0 at e1
    have s0 : sm wRuF m m0 := by
      rw [← hm0]
      exact ((((((sm_w1 (by unfold wRuF wRu; omega)).w1 (by unfold wRuF wRu; omega)).w1 (by unfold wRuF wRu; omega)).w1 (by unfold wRuF wRu; omega)).w1 (by unfold wRuF wRu; omega)).w1 (by unfold wRuF wRu; omega)).w1 (by unfold wRuF wRu; omega)
    have p0 : pF m0 (rs0 m) := by
      rw [← hm0]
      refine pF_mk ⟨⟨rfl, fun i hi => absurd hi (Nat.not_lt_zero i)⟩, ⟨rfl, fun i hi => absurd hi (Nat.not_lt_zero i)⟩⟩ ⟨rfl, by omega, fun j hj => ?_⟩ rfl rfl (fun c hc => by cases hc) (fun _ => rfl) (fun z => absurd rfl z)
      rw [w1_rd, if_neg (by omega), w1_rd, if_neg (by omega), w1_rd]
      by_cases e : j = 0
      · rw [if_pos ⟨rfl, e⟩, if_pos e]
        exact ⟨fun _ => rfl, fun _ => rfl⟩
      · rw [if_neg (fun z => e z.2), if_neg e, w1_rd, if_neg (by omega), w1_rd, if_neg (by omega), w1_rd, if_neg (by omega), w1_rd, if_neg (by omega)]
        constructor
        · intro z; exact decide_eq_false (fun q => q z)
        · intro z; exact Classical.byContradiction (fun q => by rw [decide_eq_true q] at z; cases z)
    have ht0 : ∀ i, i < tl → m0.1 19 i = nI (tx i) := by
      intro i hi
      rw [← hm0, ← h.2 i hi, w1_rd, if_neg (by omega), w1_rd, if_neg (by omega), w1_rd, if_neg (by omega), w1_rd, if_neg (by omega), w1_rd, if_neg (by omega), w1_rd, if_neg (by omega), w1_rd, if_neg (by omega)]
    have l0 : m0.1 18 2 = 0 := by rw [← hm0]; rfl
    have hc0 : codeF m0 cs := by
      refine ⟨?_, fun k hk => ?_⟩
      · rw [← hm0]; exact hc.1
      · rw [← hm0, ← hc.2 k hk, w1_rd, if_neg (by omega), w1_rd, if_neg (by omega), w1_rd, if_neg (by omega), w1_rd, if_neg (by omega), w1_rd, if_neg (by omega), w1_rd, if_neg (by omega), w1_rd, if_neg (by omega)]
    have hcS : ∀ m', sm wRu m0 m' → codeF m' cs := fun m' hs => codeF_sm hc0 hs (by intro a k; unfold dCF wRu; omega)
    have htS : ∀ m', sm wRu m0 m' → textF m' 0 tx := fun m' hs => tx0 m' ((hs 18 2 (by unfold wRu; omega)).1.trans l0)
    have rd := s_read ht0 g (min tl 40) 0 m0 (rs0 m) (by omega) p0 (by show 0 ≤ 0; omega) sm.rf
    have fin : ∀ {v : Int32} {m' : jx_Mem}, f_Rule_read_27 (nI tl) (nI 0) m0 = some (v, m') → f_F_rule m = some (v, m') := fun e => outer (e1.trans e)
    cases eg : goF tx (min tl 40) 0 (rs0 m) with
    | inl q =>
      obtain ⟨m', r1, r2⟩ := rd.1 q eg
      exact ⟨m', s0.tr (r2.mono (fun _ _ z => Or.inl z)), htS m' r2, Or.inr (Or.inl ⟨by omega, q, rfl, fin r1, hcS m' r2⟩)⟩
    | inr s' =>
      obtain ⟨m', r1, r2, r3, r4⟩ := rd.2 s' eg
      rw [e_Rule_read_83] at r1
      obtain ⟨a1, a2, a3, a4, a5, a6, a7, a8⟩ := r3
      have efn : fnF (min tl 40) (.inr s') = if s'.wt = true ∨ 0 < s'.op then .inl (min tl 40) else .inr (rel 1 s'.out s'.ws).1 := rfl
      rw [efn]
      by_cases c40 : tl ≤ 40
      · have em : min tl 40 = tl := by omega
        have r5 := r1.trans (ifp (nI_le (b := 40) c40 (by omega)))
        rw [a5, a3.1] at r5
        rw [em]
        by_cases hw : s'.wt = true
        · rw [jb_t hw] at r5
          exact ⟨m', s0.tr (r2.mono (fun _ _ z => Or.inl z)), htS m' r2, Or.inr (Or.inl ⟨by omega, tl, by rw [if_pos (Or.inl hw)], fin ((r5.trans (ifnn ne10)).trans (e_Rule_read_106 _ _)), hcS m' r2⟩)⟩
        · rw [jb_f hw] at r5
          have r6 := r5.trans (ifnp eq00)
          by_cases hop : 0 < s'.op
          · exact ⟨m', s0.tr (r2.mono (fun _ _ z => Or.inl z)), htS m' r2, Or.inr (Or.inl ⟨by omega, tl, by rw [if_pos (Or.inr hop)], fin ((r6.trans (ifn (nI_ge (a := 0) hop (by omega)))).trans (e_Rule_read_106 _ _)), hcS m' r2⟩)⟩
          · have hln := rel_len 1 s'.ws s'.out
            obtain ⟨m2, t1, t2, t3⟩ := s_release (l := 1) (by omega) s'.ws s'.out m' ⟨a1, a2⟩ r4 a6
            have r7 := r6.trans (ifp (by rw [show s'.op = 0 by omega]; decide))
            rw [show f_Rule_release 1 m' = some m2 from t1, Option.bind_some, t2.1.1] at r7
            have nn : ¬ nI (rel 1 s'.out s'.ws).1.length < 0 := fun z => absurd ((nI_ltI (b := 0) (by omega) (by omega)).mp z) (by omega)
            rw [nI_cl (show (rel 1 s'.out s'.ws).1.length < 2 ^ 31 by omega), show (0 : Int32).toNatClampNeg = 0 from rfl, decide_eq_false nn, decide_eq_true (show 0 + (rel 1 s'.out s'.ws).1.length ≤ 40 by omega)] at r7
            have r8 : f_Rule_read_27 (nI tl) (nI 0) m0 = some (0, jx_w1 (jx_wc m2 21 0 20 0 (rel 1 s'.out s'.ws).1.length) 18 4 ((jx_wc m2 21 0 20 0 (rel 1 s'.out s'.ws).1.length).1 18 6)) := r7
            have e6 : (jx_wc m2 21 0 20 0 (rel 1 s'.out s'.ws).1.length).1 18 6 = nI (rel 1 s'.out s'.ws).1.length := by
              rw [wc_rd, if_neg (by omega)]
              exact t2.1.1
            rw [e6] at r8
            have sw : sm wRuF m2 (jx_w1 (jx_wc m2 21 0 20 0 (rel 1 s'.out s'.ws).1.length) 18 4 (nI (rel 1 s'.out s'.ws).1.length)) := by
              intro a k hk
              unfold wRuF at hk
              refine ⟨?_, rfl⟩
              rw [w1_rd, if_neg (by omega), wc_rd, if_neg (by omega)]
            have st : sm wRu m0 m2 := r2.tr (t3.mono (by intro a k; unfold wRu; omega))
            refine ⟨_, (s0.tr (st.mono (fun _ _ z => Or.inl z))).tr sw, tx0 _ ?_, Or.inr (Or.inr (Or.inl ⟨by omega, c40, (rel 1 s'.out s'.ws).1, by rw [if_neg (fun z => z.elim hw hop)], fin r8, rfl, fun k hk => ?_⟩))⟩
            · rw [w1_rd, if_neg (by omega), wc_rd, if_neg (by omega)]
              exact (st 18 2 (by unfold wRu; omega)).1.trans l0
            · rw [w1_rd, if_neg (by omega), wc_rd, if_pos ⟨rfl, by omega, by omega⟩, show 0 + (k - 0) = k by omega]
              exact t2.1.2 k hk
      · have em : min tl 40 = 40 := by omega
        have r5 := r1.trans (ifn (nI_ge (a := 40) (b := tl) (by omega) (by omega)))
        rw [em]
        by_cases hz : s'.wt = true ∨ 0 < s'.op
        · exact ⟨m', s0.tr (r2.mono (fun _ _ z => Or.inl z)), htS m' r2, Or.inr (Or.inl ⟨by omega, 40, by rw [if_pos hz], fin r5, hcS m' r2⟩)⟩
        · exact ⟨m', s0.tr (r2.mono (fun _ _ z => Or.inl z)), htS m' r2, Or.inr (Or.inr (Or.inr ⟨by omega, (rel 1 s'.out s'.ws).1, by rw [if_neg hz], fin r5, hcS m' r2⟩))⟩
end RULEF
