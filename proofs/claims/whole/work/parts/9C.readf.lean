/-! the class reads the rule's text -/
def pF (m : jx_Mem) (s : FS) : Prop :=
  (m.1 18 6 = nI s.out.length ∧ ∀ i, i < s.out.length → m.1 21 i = encF (s.out.getD i 0)) ∧
  (m.1 18 8 = nI s.ws.length ∧ ∀ i, i < s.ws.length → m.1 22 i = nI (s.ws.getD (s.ws.length - 1 - i) 0)) ∧
  (m.1 18 10 = nI s.op ∧ s.op ≤ 5 ∧ ∀ j, j < 6 → (m.1 23 j = 0 ↔ s.cm j = false)) ∧ m.1 18 11 = nI s.dg ∧ m.1 18 12 = jb (s.wt = true) ∧
  (∀ c, c ∈ s.ws → c < 256) ∧ (s.wt = true → s.dg = 0) ∧ (s.dg ≠ 0 → s.dg ≤ 3 ∧ ∃ l x, s.out = l ++ [x] ∧ x < 10 ^ s.dg)
def oF (m : jx_Mem) (out ws : List Nat) : Prop :=
  (m.1 18 6 = nI out.length ∧ ∀ i, i < out.length → m.1 21 i = encF (out.getD i 0)) ∧ (m.1 18 8 = nI ws.length ∧ ∀ i, i < ws.length → m.1 22 i = nI (ws.getD (ws.length - 1 - i) 0))
def wRu (a k : Nat) : Prop := (a = 18 ∧ (k = 6 ∨ k = 8 ∨ k = 10 ∨ k = 11 ∨ k = 12)) ∨ a = 21 ∨ a = 22 ∨ a = 23
theorem getD_snoc (l : List Nat) (c i : Nat) (hi : i < l.length + 1) : (l ++ [c]).getD i 0 = if i = l.length then c else l.getD i 0 := by
  rw [List.getD_eq_getElem?_getD]
  by_cases h : i = l.length
  · rw [if_pos h, h, List.getElem?_append_right (Nat.le_refl _), Nat.sub_self]
    rfl
  · rw [if_neg h, List.getElem?_append_left (by omega), ← List.getD_eq_getElem?_getD]
section READF
variable {m m' : jx_Mem}
theorem s_lvW {c : Nat} (hc : c < 2 ^ 31) : f_Rule_levelWaiting (nI c) m = some (nI (lvW c), m) := by
  rw [e_Rule_levelWaiting, e_Rule_levelWaiting_12, s_lvB hc, Option.bind_some, e_Rule_levelWaiting_21, e_Rule_levelWaiting_21]
  unfold lvW
  by_cases h : c = 33
  · rw [if_pos (Or.inl h), h]
    exact ifp rfl
  · refine (ifn (fun z => h ((nI_eq (b := 33) hc (by omega)).mp z))).trans ?_
    by_cases h2 : c = 126
    · rw [if_pos (Or.inr h2), h2]
      exact ifnp rfl
    · refine (ifnn (fun z => h2 ((nI_eq (b := 126) hc (by omega)).mp z))).trans ?_
      rw [if_neg (fun z => z.elim h h2)]
theorem s_dig {c : Nat} (hc : c < 2 ^ 31) : f_Rule_isDigit (nI c) m = some (jb (48 ≤ c ∧ c ≤ 57), m) := by
  rw [e_Rule_isDigit, e_Rule_isDigit_16]
  by_cases h : c < 48
  · rw [jb_f (by omega)]
    refine (ifp (nI_lt (b := 48) h (by omega))).trans ?_
    rw [e_Rule_isDigit_17]
    rfl
  · refine (ifn (fun z => h ((nI_ltI (b := 48) hc (by omega)).mp z))).trans ?_
    by_cases h2 : 57 < c
    · rw [jb_f (by omega)]
      refine (ifp (nI_lt (a := 57) h2 hc)).trans ?_
      rw [e_Rule_isDigit_17]
      rfl
    · rw [jb_t (by omega)]
      refine (ifn (fun z => h2 ((nI_ltI (a := 57) (by omega) hc).mp z))).trans ?_
      rw [e_Rule_isDigit_17]
      rfl
theorem s_sgX {c : Nat} (hc : c < 2 ^ 31) : f_Rule_isSign (nI c) m = some (jb (sgX c < 6), m) := by
  have f36 : f_Rule_isSign_36 m = some (1, m) := by rw [e_Rule_isSign_36, e_Rule_isSign_41]; rfl
  have f41 : f_Rule_isSign_41 0 m = some (0, m) := by rw [e_Rule_isSign_41]; rfl
  rw [e_Rule_isSign, f36, f41]
  have st : ∀ (q : Nat) (x y : Option (Int32 × jx_Mem)), q < 2 ^ 31 → (if decide (nI c = nI q) = true then x else y) = if c = q then x else y := by
    intro q x y hq
    by_cases e : c = q
    · rw [if_pos e]; exact ifp (by rw [e])
    · rw [if_neg e]; exact ifn (fun z => e ((nI_eq hc hq).mp z))
  have st2 : ∀ (q : Nat) (x y : Option (Int32 × jx_Mem)), q < 2 ^ 31 → (if decide (¬ nI c = nI q) = true then x else y) = if c = q then y else x := by
    intro q x y hq
    by_cases e : c = q
    · rw [if_pos e]; exact ifnp (by rw [e])
    · rw [if_neg e]; exact ifnn (fun z => e ((nI_eq hc hq).mp z))
  show (if decide (nI c = nI 108) = true then _ else if decide (nI c = nI 117) = true then _ else if decide (nI c = nI 110) = true then _ else if decide (nI c = nI 102) = true then _ else if decide (nI c = nI 119) = true then _ else if decide (¬ nI c = nI 107) = true then _ else _) = _
  rw [st 108 _ _ (by omega), st 117 _ _ (by omega), st 110 _ _ (by omega), st 102 _ _ (by omega), st 119 _ _ (by omega), st2 107 _ _ (by omega)]
  unfold sgX
  repeat' split
  all_goals first | rw [jb_t (by omega)] | rw [jb_f (by omega)]
theorem sgn_sgX {c : Nat} (h : sgX c < 6) : sgn (sgX c) = c := by
  unfold sgX at h ⊢
  unfold sgn
  repeat' split at h
  all_goals simp_all
theorem s_emit {out ws : List Nat} {c : Nat} (h : oF m out ws) (hl : out.length < 40) : ∃ m', f_Rule_emit (encF c) m = some m' ∧ sm wRu m m' ∧ oF m' (out ++ [c]) ws ∧ (∀ a k, ¬ ((a = 18 ∧ k = 6) ∨ a = 21) → m'.1 a k = m.1 a k) := by
  have el : (out ++ [c]).length = out.length + 1 := by rw [List.length_append]; rfl
  refine ⟨jx_w1 (jx_w1 m 21 out.length (encF c)) 18 6 (nI (out.length + 1)), ?_, (sm_w1 (by unfold wRu; omega)).w1 (by unfold wRu; omega), ⟨⟨by rw [el]; rfl, fun i hi => ?_⟩, h.2⟩, fun a k hk => ?_⟩
  · rw [e_Rule_emit, h.1.1]
    refine (ifn (nI_ge (a := out.length) (b := 40) hl (by omega))).trans ?_
    rw [in_nI hl (by omega), Bool.true_and, cond_true, nI_cl (by omega)]
    show f_Rule_emit_32 (jx_w1 (jx_w1 m 21 out.length (encF c)) 18 6 (m.1 18 6 + 1)) = _
    rw [e_Rule_emit_32, h.1.1, nI_1]
  · rw [el] at hi
    rw [getD_snoc _ _ _ hi, w1_rd, if_neg (by omega), w1_rd]
    by_cases e : i = out.length
    · rw [if_pos ⟨rfl, e⟩, if_pos e]
    · rw [if_neg (fun z => e z.2), if_neg e]
      exact h.1.2 i (by omega)
  · rw [w1_rd, if_neg (by omega), w1_rd, if_neg (by omega)]
theorem s_await {out ws : List Nat} {c : Nat} (h : oF m out ws) (hl : ws.length < 40) : ∃ m', f_Rule_await (nI c) m = some m' ∧ sm wRu m m' ∧ oF m' out (c :: ws) ∧ (∀ a k, ¬ ((a = 18 ∧ k = 8) ∨ a = 22) → m'.1 a k = m.1 a k) := by
  have el : (c :: ws).length = ws.length + 1 := List.length_cons
  refine ⟨jx_w1 (jx_w1 m 22 ws.length (nI c)) 18 8 (nI (ws.length + 1)), ?_, (sm_w1 (by unfold wRu; omega)).w1 (by unfold wRu; omega), ⟨h.1, ⟨by rw [el]; rfl, fun i hi => ?_⟩⟩, fun a k hk => ?_⟩
  · rw [e_Rule_await, h.2.1]
    refine (ifn (nI_ge (a := ws.length) (b := 40) hl (by omega))).trans ?_
    rw [in_nI hl (by omega), Bool.true_and, cond_true, nI_cl (by omega)]
    show f_Rule_await_32 (jx_w1 (jx_w1 m 22 ws.length (nI c)) 18 8 (m.1 18 8 + 1)) = _
    rw [e_Rule_await_32, h.2.1, nI_1]
  · rw [el] at hi ⊢
    rw [w1_rd, if_neg (by omega), w1_rd]
    by_cases e : i = ws.length
    · rw [if_pos ⟨rfl, e⟩, e, show ws.length + 1 - 1 - ws.length = 0 by omega]
      rfl
    · rw [if_neg (fun z => e z.2), show ws.length + 1 - 1 - i = (ws.length - 1 - i) + 1 by omega, List.getD_cons_succ]
      exact h.2.2 i (by omega)
  · rw [w1_rd, if_neg (by omega), w1_rd, if_neg (by omega)]
theorem rel_len (l : Nat) : ∀ (ws out : List Nat), (rel l out ws).1.length + (rel l out ws).2.length = out.length + ws.length := by
  intro ws
  induction ws with
  | nil => intro out; rfl
  | cons c ws ih =>
    intro out
    show (if lvW c < l then (out, c :: ws) else rel l (out ++ [2000 + c]) ws).1.length + (if lvW c < l then (out, c :: ws) else rel l (out ++ [2000 + c]) ws).2.length = _
    by_cases h : lvW c < l
    · rw [if_pos h]
    · rw [if_neg h, ih, List.length_append, List.length_cons]
      simp
      omega
theorem rel_mem (l : Nat) : ∀ (ws out : List Nat), ∀ c, c ∈ (rel l out ws).2 → c ∈ ws := by
  intro ws
  induction ws with
  | nil => intro out c h; exact h
  | cons c ws ih =>
    intro out x h
    change x ∈ (if lvW c < l then (out, c :: ws) else rel l (out ++ [2000 + c]) ws).2 at h
    by_cases q : lvW c < l
    · rw [if_pos q] at h; exact h
    · rw [if_neg q] at h; exact List.mem_cons_of_mem _ (ih _ x h)
theorem s_release {l : Nat} (hl : l ≤ 6) : ∀ (ws out : List Nat) (m1 : jx_Mem), oF m1 out ws → out.length + ws.length ≤ 40 → (∀ c, c ∈ ws → c < 256) →
    ∃ m2, f_Rule_release (nI l) m1 = some m2 ∧ oF m2 (rel l out ws).1 (rel l out ws).2 ∧ sm (fun a k => (a = 18 ∧ (k = 6 ∨ k = 8)) ∨ a = 21) m1 m2 := by
  intro ws
  induction ws with
  | nil =>
    intro out m1 h _ _
    refine ⟨m1, ?_, h, sm.rf⟩
    rw [e_Rule_release, h.2.1]
    exact (ifp (by decide)).trans (e_Rule_release_54 _)
  | cons c ws ih =>
    intro out m1 h hle hc
    have el : (c :: ws).length = ws.length + 1 := List.length_cons
    have c256 := hc c List.mem_cons_self
    rw [el] at hle
    have e22 : m1.1 22 ws.length = nI c := by
      have := h.2.2 ws.length (by rw [el]; omega)
      rw [el, show ws.length + 1 - 1 - ws.length = 0 by omega] at this
      exact this
    have lw6 : lvW c ≤ 6 := by unfold lvW; have := lvB_le c; split <;> omega
    have ex : rel l out (c :: ws) = if lvW c < l then (out, c :: ws) else rel l (out ++ [2000 + c]) ws := rfl
    have e8 := h.2.1
    rw [el] at e8
    rw [ex, e_Rule_release, e8]
    have e0 : ∀ X Y : Option jx_Mem, (if decide (nI (ws.length + 1) ≤ 0) = true then X else Y) = Y := fun X Y => ifn (nI_ge (a := 0) (b := ws.length + 1) (by omega) (by omega))
    rw [e0, nI_pred, in_nI (show ws.length < 40 by omega) (by omega), cond_true, nI_cl (by omega), e22, s_lvW (by omega), Option.bind_some]
    by_cases q : lvW c < l
    · rw [if_pos q]
      refine ⟨m1, (ifp (nI_lt q (by omega))).trans (e_Rule_release_54 _), h, sm.rf⟩
    · rw [if_neg q]
      have eo : (out ++ [2000 + c]).length = out.length + 1 := by rw [List.length_append]; rfl
      have e1 : encF (2000 + c) = -(nI c) := by
        unfold encF
        rw [if_neg (by omega), if_neg (by omega), show 2000 + c - 2000 = c by omega]
      have em : f_Rule_emit (-(nI c)) m1 = some (jx_w1 (jx_w1 m1 21 out.length (-(nI c))) 18 6 (nI (out.length + 1))) := by
        rw [e_Rule_emit, h.1.1]
        refine (ifn (nI_ge (a := out.length) (b := 40) (by omega) (by omega))).trans ?_
        rw [in_nI (show out.length < 40 by omega) (by omega), Bool.true_and, cond_true, nI_cl (by omega)]
        show f_Rule_emit_32 (jx_w1 (jx_w1 m1 21 out.length (-(nI c))) 18 6 (m1.1 18 6 + 1)) = _
        rw [e_Rule_emit_32, h.1.1, nI_1]
      obtain ⟨m2, r1, r2, r3⟩ := ih (out ++ [2000 + c]) (jx_w1 (jx_w1 (jx_w1 m1 21 out.length (-(nI c))) 18 6 (nI (out.length + 1))) 18 8 (nI ws.length)) ⟨⟨by rw [eo]; rfl, fun i hi => by
          rw [eo] at hi
          rw [getD_snoc _ _ _ hi, w1_rd, if_neg (by omega), w1_rd, if_neg (by omega), w1_rd]
          by_cases e : i = out.length
          · rw [if_pos ⟨rfl, e⟩, if_pos e, e1]
          · rw [if_neg (fun z => e z.2), if_neg e]
            exact h.1.2 i (by omega)⟩, ⟨rfl, fun i hi => by
          rw [w1_rd, if_neg (by omega), w1_rd, if_neg (by omega), w1_rd, if_neg (by omega), h.2.2 i (by rw [el]; omega), el, show ws.length + 1 - 1 - i = (ws.length - 1 - i) + 1 by omega, List.getD_cons_succ]⟩⟩ (by rw [eo]; omega) (fun c' h' => hc c' (List.mem_cons_of_mem _ h'))
      refine ⟨m2, (ifn (fun z => q ((nI_ltI (by omega) (by omega)).mp z))).trans ?_, r2, (((sm_w1 (by omega)).w1 (by omega)).w1 (by omega)).tr r3⟩
      show (bif jx_in (m1.1 18 8 - 1) 40 then (f_Rule_emit (-(m1.1 22 (m1.1 18 8 - 1).toNatClampNeg)) m1).bind _ else none) = _
      rw [e8, nI_pred, in_nI (show ws.length < 40 by omega) (by omega), cond_true, nI_cl (by omega), e22, em, Option.bind_some, ← r1]
      show f_Rule_release (nI l) (jx_w1 _ 18 8 (m1.1 18 8 - 1)) = _
      rw [e8, nI_pred]
theorem pF_o {s : FS} (h : pF m s) : oF m s.out s.ws := ⟨h.1, h.2.1⟩
theorem pF_mk {out ws : List Nat} {op : Nat} {cm : Nat → Bool} {dg : Nat} {wt : Bool} (h1 : oF m out ws) (h3 : m.1 18 10 = nI op ∧ op ≤ 5 ∧ ∀ j, j < 6 → (m.1 23 j = 0 ↔ cm j = false)) (h4 : m.1 18 11 = nI dg) (h5 : m.1 18 12 = jb (wt = true)) (h6 : ∀ c, c ∈ ws → c < 256) (h7 : wt = true → dg = 0) (h8 : dg ≠ 0 → dg ≤ 3 ∧ ∃ l x, out = l ++ [x] ∧ x < 10 ^ dg) : pF m (mkS out ws op cm dg wt) :=
  ⟨h1.1, h1.2, h3, h4, h5, h6, h7, h8⟩
theorem s_thing {s : FS} {c : Nat} (h : pF m s) (hw : s.wt = true) (hl : s.out.length + s.ws.length < 40) (hc : c < 256) : ∃ m', f_Rule_takesThing (nI c) m = some (jb ((stTh s c).isSome = true), m') ∧ sm wRu m m' ∧ ∀ s', stTh s c = some s' → pF m' s' := by
  have ho := pF_o h
  obtain ⟨h1, h2, h3, h4, h5, h6, h7, h8⟩ := h
  have d0 := h7 hw
  rw [e_Rule_takesThing]
  unfold stTh
  have ne : ∀ q, q < 2 ^ 31 → c ≠ q → ¬ nI c = nI q := fun q hq e z => e ((nI_eq (by omega) hq).mp z)
  have pre1 : ∀ {P1 : Bool} {Q : jx_Mem → Prop} {Y X : Option (Int32 × jx_Mem)}, X = Y → (∃ m', Y = some (jb (P1 = true), m') ∧ Q m') → ∃ m', X = some (jb (P1 = true), m') ∧ Q m' := by
    intro P1 Q Y X e h; rw [e]; exact h
  by_cases c33 : c = 33
  · rw [if_pos c33]
    obtain ⟨m1, r1, r2, r3, r4⟩ := s_await (c := 33) ho (by omega)
    refine ⟨m1, ?_, r2, fun s' hs' => ?_⟩
    · refine (ifnp (by rw [c33]; rfl)).trans ?_
      rw [show (33 : Int32) = nI 33 from rfl, r1, Option.bind_some, e_Rule_takesThing_92]
      rfl
    · cases hs'
      refine pF_mk r3 ?_ ?_ ?_ ?_ h7 h8
      · rw [r4 18 10 (by omega)]
        exact ⟨h3.1, h3.2.1, fun j hj => by rw [r4 23 j (by omega)]; exact h3.2.2 j hj⟩
      · rw [r4 18 11 (by omega)]; exact h4
      · rw [r4 18 12 (by omega)]; exact h5
      · intro x hx
        rcases List.mem_cons.mp hx with e | e
        · omega
        · exact h6 x e
  · rw [if_neg c33]
    refine pre1 (ifnn (ne 33 (by omega) c33)) ?_
    by_cases c45 : c = 45
    · rw [if_pos c45]
      obtain ⟨m1, r1, r2, r3, r4⟩ := s_await (c := 126) ho (by omega)
      refine ⟨m1, ?_, r2, fun s' hs' => ?_⟩
      · refine (ifnp (by rw [c45]; rfl)).trans ?_
        rw [show (126 : Int32) = nI 126 from rfl, r1, Option.bind_some, e_Rule_takesThing_92]
        rfl
      · cases hs'
        refine pF_mk r3 ?_ ?_ ?_ ?_ h7 h8
        · rw [r4 18 10 (by omega)]
          exact ⟨h3.1, h3.2.1, fun j hj => by rw [r4 23 j (by omega)]; exact h3.2.2 j hj⟩
        · rw [r4 18 11 (by omega)]; exact h4
        · rw [r4 18 12 (by omega)]; exact h5
        · intro x hx
          rcases List.mem_cons.mp hx with e | e
          · omega
          · exact h6 x e
    · rw [if_neg c45]
      refine pre1 (ifnn (ne 45 (by omega) c45)) ?_
      by_cases c40 : c = 40
      · rw [if_pos c40]
        refine pre1 (ifnp (by rw [c40]; rfl)) ?_
        rw [e_Rule_opens, h3.1]
        by_cases o5 : s.op < 5
        · rw [if_pos o5]
          have ho2 : oF (jx_w1 (jx_w1 m 18 10 (nI (s.op + 1))) 23 (s.op + 1) 0) s.out s.ws := ⟨⟨h1.1, h1.2⟩, h2.1, h2.2⟩
          obtain ⟨m1, r1, r2, r3, r4⟩ := s_await (c := 40) ho2 (by omega)
          refine ⟨m1, ?_, ((sm_w1 (by unfold wRu; omega)).w1 (by unfold wRu; omega)).tr r2, fun s' hs' => ?_⟩
          · rw [show (40 : Int32) = nI 40 from rfl]
            have ei : (if decide (nI s.op < 5) = true then (let m1 := jx_w1 m 18 10 (nI s.op + 1); bif (jx_in (m1.1 18 10) 6 && jx_01 0) then (let m2 := jx_w1 m1 23 (m1.1 18 10).toNatClampNeg 0; (f_Rule_await (nI 40) m2).bind (fun p1 => some ((1 : Int32), p1))) else none) else (some ((0 : Int32), m))) = some (1, m1) := by
              refine (ifp (nI_lt (b := 5) o5 (by omega))).trans ?_
              show (bif (jx_in (nI s.op + 1) 6 && jx_01 0) then ((f_Rule_await (nI 40) (jx_w1 (jx_w1 m 18 10 (nI s.op + 1)) 23 (nI s.op + 1).toNatClampNeg 0)).bind (fun p1 => some ((1 : Int32), p1))) else none) = _
              rw [nI_1, in_nI (show s.op + 1 < 6 by omega) (by omega), nI_cl (by omega), show jx_01 0 = true from rfl, Bool.true_and, cond_true, r1]
              rfl
            rw [ei, Option.bind_some]
            rfl
          · cases hs'
            refine pF_mk r3 ?_ ?_ ?_ ?_ h7 h8
            · rw [r4 18 10 (by omega)]
              refine ⟨rfl, by omega, fun j hj => ?_⟩
              rw [r4 23 j (by omega), w1_rd]
              by_cases e : j = s.op + 1
              · rw [if_pos ⟨rfl, e⟩, e, upB_s]
                exact ⟨fun _ => rfl, fun _ => rfl⟩
              · rw [if_neg (fun z => e z.2), upB_n e, w1_rd, if_neg (by omega)]
                exact h3.2.2 j hj
            · rw [r4 18 11 (by omega)]; exact h4
            · rw [r4 18 12 (by omega)]; exact h5
            · intro x hx
              rcases List.mem_cons.mp hx with e | e
              · omega
              · exact h6 x e
        · rw [if_neg o5]
          refine ⟨m, ?_, sm.rf, fun s' hs' => by cases hs'⟩
          have ei : ∀ X : Option (Int32 × jx_Mem), (if decide (nI s.op < 5) = true then X else (some ((0 : Int32), m))) = some (0, m) := fun X => ifn (fun z => o5 ((nI_ltI (b := 5) (by omega) (by omega)).mp z))
          rw [ei, Option.bind_some]
          rfl
      · rw [if_neg c40]
        refine pre1 (ifnn (ne 40 (by omega) c40)) ?_
        rw [s_dig (by omega), Option.bind_some]
        by_cases cd : 48 ≤ c ∧ c ≤ 57
        · rw [jb_t cd, if_pos cd]
          refine pre1 (ifn ne10) ?_
          obtain ⟨m1, r1, r2, r3, r4⟩ := s_emit (c := c - 48) ho (by omega)
          have ee : nI c - 48 = encF (c - 48) := by
            unfold encF
            rw [if_pos (by omega)]
            exact pk_sub cd.1
          refine ⟨jx_w1 (jx_w1 m1 18 11 1) 18 12 0, ?_, (r2.w1 (by unfold wRu; omega)).w1 (by unfold wRu; omega), fun s' hs' => ?_⟩
          · rw [ee, r1, Option.bind_some, e_Rule_takesThing_92]
            rfl
          · cases hs'
            refine pF_mk ⟨r3.1, r3.2⟩ ?_ rfl rfl h6 (fun z => by cases z) (fun _ => ⟨by omega, s.out, c - 48, rfl, by omega⟩)
            refine ⟨(r4 18 10 (by omega)).trans h3.1, h3.2.1, fun j hj => ?_⟩
            rw [w1_rd, if_neg (by omega), w1_rd, if_neg (by omega), r4 23 j (by omega)]
            exact h3.2.2 j hj
        · rw [jb_f cd, if_neg cd]
          refine pre1 (ifp eq00) ?_
          rw [s_sgX (by omega), Option.bind_some]
          by_cases cs : sgX c < 6
          · rw [jb_t cs, if_pos cs]
            refine pre1 (ifn ne10) ?_
            obtain ⟨m1, r1, r2, r3, r4⟩ := s_emit (c := 1000 + sgX c) ho (by omega)
            have ee : -(nI c) = encF (1000 + sgX c) := by
              unfold encF
              rw [if_neg (by omega), if_pos (by omega), show 1000 + sgX c - 1000 = sgX c by omega, sgn_sgX cs]
            refine ⟨jx_w1 m1 18 12 0, ?_, r2.w1 (by unfold wRu; omega), fun s' hs' => ?_⟩
            · rw [ee, r1, Option.bind_some, e_Rule_takesThing_92]
              rfl
            · cases hs'
              refine pF_mk ⟨r3.1, r3.2⟩ ?_ ((r4 18 11 (by omega)).trans h4) rfl h6 (fun z => by cases z) (fun z => absurd d0 z)
              refine ⟨(r4 18 10 (by omega)).trans h3.1, h3.2.1, fun j hj => ?_⟩
              rw [w1_rd, if_neg (by omega), r4 23 j (by omega)]
              exact h3.2.2 j hj
          · rw [jb_f cs, if_neg cs]
            exact ⟨m, ifp eq00, sm.rf, fun s' hs' => by cases hs'⟩
end READF
