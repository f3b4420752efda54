/-! the values of a rule for a person, on both sides -/
def w24 (a _ : Nat) : Prop := a = 24
def w79 (a _ : Nat) : Prop := a = 79
theorem nIp {n : Nat} (h : 0 < n) : nI n - 1 = nI (n - 1) := by
  have := nI_pred (n - 1)
  rw [show n - 1 + 1 = n by omega] at this
  exact this
theorem nIq {n : Nat} (h : 0 < n) : nI n + (-1) = nI (n - 1) := by
  have := pk_m1 (n - 1)
  rw [show n - 1 + 1 = n by omega] at this
  exact this
theorem getD_app (pre r : List Nat) (c : Nat) : (pre ++ c :: r).getD pre.length 0 = c := by
  rw [List.getD_eq_getElem?_getD, List.getElem?_append_right (Nat.le_refl _), Nat.sub_self]
  rfl
theorem stk_up {f : Nat → Int32} {m1 : jx_Mem} {q n k : Nat} {x : Int32} (h : ∀ i, i < n → m1.1 q i = f i) : ∀ i, (i < n ∨ i = k) → (jx_w1 m1 q k x).1 q i = upI f k x i := by
  intro i hi
  rw [w1_rd]
  unfold upI
  by_cases c : i = k
  · rw [if_pos ⟨rfl, c⟩, if_pos c]
  · rw [if_neg (fun z => c z.2), if_neg c]
    exact h i (by omega)
theorem stp_n {v : Nat → Int32} {c h : Nat} {sf : Nat → Int32} (c1 : c < 1000) : stp1 v c (h, sf) = (h + 1, upI sf h (nI c)) := by unfold stp1; rw [if_pos c1]
theorem stp_s {v : Nat → Int32} {c h : Nat} {sf : Nat → Int32} (c1 : 1000 ≤ c) (c2 : c < 1006) : stp1 v c (h, sf) = (h + 1, upI sf h (v (c - 1000))) := by unfold stp1; rw [if_neg (by omega), if_pos c2]
theorem stp_not {v : Nat → Int32} {c h : Nat} {sf : Nat → Int32} (c1 : c = 2033) : stp1 v c (h, sf) = (h, upI sf (h - 1) (if sf (h - 1) = 0 then 1 else 0)) := by unfold stp1; rw [if_neg (by omega), if_neg (by omega), if_pos c1]
theorem stp_neg {v : Nat → Int32} {c h : Nat} {sf : Nat → Int32} (c1 : c = 2126) : stp1 v c (h, sf) = (h, upI sf (h - 1) (-(sf (h - 1)))) := by unfold stp1; rw [if_neg (by omega), if_neg (by omega), if_neg (by omega), if_pos c1]
theorem stp_b {v : Nat → Int32} {c h : Nat} {sf : Nat → Int32} (c1 : 2000 ≤ c) (hb : isBin (c - 2000)) : stp1 v c (h, sf) = (h - 1, upI sf (h - 2) (act (c - 2000) (sf (h - 2)) (sf (h - 1)))) := by
  unfold isBin at hb
  unfold stp1
  rw [if_neg (by omega), if_neg (by omega), if_neg (by omega), if_neg (by omega)]
theorem rnL_c (v : Nat → Int32) (c : Nat) (r : List Nat) (s : Nat × (Nat → Int32)) : rnL v (c :: r) s = rnL v r (stp1 v c s) := rfl
section RIGHT
variable {m m' : jx_Mem} {T P : Nat} {D : Nat → Nat → Nat} {W A U L : Nat → Nat} {cs : List Nat}
theorem vF_put {h : Nat} (hh : h < 40) (x : Int32) (x1 x3 : Int32) : f_Rule_valueFor_54 x1 x3 x (nI h) m = f_Rule_valueFor_4 x1 (nI (h + 1)) (x3 + 1) (jx_w1 m 24 h x) := by
  rw [e_Rule_valueFor_54, e_Rule_put]
  have e0 : ∀ X Y : Option (Int32 × jx_Mem), (if decide (nI h < 0) = true then X else Y) = Y := fun X Y => ifn (fun z => absurd ((nI_ltI (b := 0) (by omega) (by omega)).mp z) (by omega))
  have e1 : ∀ X Y : Option (Int32 × jx_Mem), (if decide (nI h < 40) = true then X else Y) = X := fun X Y => ifp (nI_lt (b := 40) hh (by omega))
  rw [e0, e1, in_nI hh (by omega), Bool.true_and, cond_true, nI_cl (by omega)]
  show (some (nI h + 1, jx_w1 m 24 h x)).bind _ = _
  rw [Option.bind_some, e_Rule_valueFor_160, nI_1]
theorem bin_lv {ch : Nat} (hc : isBin ch) : ¬ nI (lvB ch) = 6 := by
  intro z
  have := (nI_eq (b := 6) (by have := lvB_le ch; omega) (by omega)).mp z
  have := lvB_le ch
  omega
theorem vF_4 (h : mineF m T P D W A U L) (g : gMine T P D W A U L) {p : Nat} (hp : p < P) (hc : codeF m cs) (hl : cs.length ≤ 40) : ∀ (l pre : List Nat) (hh : Nat) (sf : Nat → Int32) (m1 : jx_Mem) (hf : Nat), cs = pre ++ l → okL hh l = some hf → hh ≤ pre.length → sm w24 m m1 → (∀ i, i < hh → m1.1 24 i = sf i) →
    ∃ m2, f_Rule_valueFor_4 (nI p) (nI hh) (nI pre.length) m1 = some (if hf = 0 then 0 else (rnL (fun k => nI (sgV D W A U L P p k)) l (hh, sf)).2 0, m2) ∧ sm w24 m m2 := by
  intro l
  induction l with
  | nil =>
    intro pre hh sf m1 hf e ho hle hs h24
    have hc1 := codeF_sm hc hs (by intro a k; unfold dCF w24; omega)
    have el : cs.length = pre.length := by rw [e, List.append_nil]
    cases ho
    refine ⟨m1, ?_, hs⟩
    rw [e_Rule_valueFor_4, hc1.1, el]
    refine (ifp (nI_le (Nat.le_refl _) (by omega))).trans ?_
    by_cases c : hh = 0
    · rw [if_pos c, c]
      exact (ifp (by decide)).trans (e_Rule_valueFor_180 _ _)
    · rw [if_neg c]
      refine (ifn (nI_ge (a := 0) (b := hh) (by omega) (by omega))).trans ?_
      show f_Rule_valueFor_180 (m1.1 24 0) m1 = _
      rw [e_Rule_valueFor_180, h24 0 (by omega)]
      rfl
  | cons c r ih =>
    intro pre hh sf m1 hf e ho hle hs h24
    have hc1 := codeF_sm hc hs (by intro a k; unfold dCF w24; omega)
    have h1 : mineF m1 T P D W A U L := mineF_sm h hs (by intro a k; unfold dMF w24; omega)
    have el : cs.length = pre.length + (r.length + 1) := by rw [e, List.length_append, List.length_cons]
    have eg : m1.1 20 pre.length = encF c := by rw [hc1.2 pre.length (by omega), e, getD_app]
    have ep : (pre ++ [c]).length = pre.length + 1 := by rw [List.length_append, List.length_singleton]
    have e' : cs = (pre ++ [c]) ++ r := by rw [e, List.append_assoc]; rfl
    have nx := fun h' sf' m1' ho' hle' hs' h24' => ih (pre ++ [c]) h' sf' m1' hf e' ho' (by rw [ep]; exact hle') hs' h24'
    rw [ep] at nx
    rw [e_Rule_valueFor_4, hc1.1]
    have e0 : ∀ X Y : Option (Int32 × jx_Mem), (if decide (nI cs.length ≤ nI pre.length) = true then X else Y) = Y := fun X Y => ifn (nI_ge (a := pre.length) (b := cs.length) (by omega) (by omega))
    rw [e0, in_nI (show pre.length < 40 by omega) (by omega), cond_true, nI_cl (show pre.length < 2 ^ 31 by omega), eg]
    rcases okL_c ho with ⟨c1, ho'⟩ | ⟨c1, c2, ho'⟩ | ⟨c1, hq, ho'⟩ | ⟨c1, hb, hq, ho'⟩
    · have ec : encF c = nI c := by unfold encF; rw [if_pos c1]
      obtain ⟨m2, r1, r2⟩ := nx (hh + 1) (upI sf hh (nI c)) (jx_w1 m1 24 hh (nI c)) ho' (by omega) (hs.w1 rfl) (fun i hi => stk_up h24 i (by omega))
      refine ⟨m2, ?_, r2⟩
      rw [ec]
      refine (ifp (nI_le (a := 0) (b := c) (by omega) (by omega))).trans ?_
      rw [e_Rule_valueFor_34]
      refine (ifn (fun z => absurd ((nI_ltI (b := 0) (by omega) (by omega)).mp z) (by omega))).trans ?_
      rw [vF_put (by omega), nI_1, r1]
      rw [rnL_c, stp_n c1]
    · have hs6 : c - 1000 < 6 := by omega
      have ec : encF c = -(nI (sgn (c - 1000))) := by unfold encF; rw [if_neg (by omega), if_pos (by omega)]
      have ng := ng_neg (sgn_lt (c - 1000)).2 (by have := (sgn_lt (c - 1000)).1; omega)
      obtain ⟨m2, r1, r2⟩ := nx (hh + 1) (upI sf hh (nI (sgV D W A U L P p (c - 1000)))) (jx_w1 m1 24 hh (nI (sgV D W A U L P p (c - 1000)))) ho' (by omega) (hs.w1 rfl) (fun i hi => stk_up h24 i (by omega))
      refine ⟨m2, ?_, r2⟩
      rw [ec]
      refine (ifn ng.1).trans ?_
      rw [Int32.neg_neg, s_isSign_t hs6, Option.bind_some]
      try dsimp only
      refine (ifn ne10).trans ?_
      rw [e_Rule_valueFor_34]
      refine (ifp ng.2).trans ?_
      rw [Int32.neg_neg, s_signFor h1 g hp hs6, Option.bind_some]
      try dsimp only
      rw [vF_put (by omega), nI_1, r1]
      rw [rnL_c, stp_s c1 c2]
    · have hu : c - 2000 = 33 ∨ c - 2000 = 126 := by omega
      have ec : encF c = -(nI (c - 2000)) := by unfold encF; rw [if_neg (by omega), if_neg (by omega)]
      have ng := ng_neg (n := c - 2000) (by omega) (by omega)
      have en : nI hh - 1 = nI (hh - 1) := nIp (by omega)
      rw [ec]
      have st : ∀ x, (f_Rule_valueFor_120 (nI p) (nI hh) (nI pre.length) x (nI (hh - 1)) m1) = f_Rule_valueFor_4 (nI p) (nI hh) (nI (pre.length + 1)) (jx_w1 m1 24 (hh - 1) x) := by
        intro x
        rw [e_Rule_valueFor_120, in_nI (show hh - 1 < 40 by omega) (by omega), Bool.true_and, cond_true, nI_cl (by omega)]
        show f_Rule_valueFor_160 (nI p) (nI hh) (nI pre.length) (jx_w1 m1 24 (hh - 1) x) = _
        rw [e_Rule_valueFor_160, nI_1]
      have key : ∀ x, x = (stp1 (fun k => nI (sgV D W A U L P p k)) c (hh, sf)).2 (hh - 1) → stp1 (fun k => nI (sgV D W A U L P p k)) c (hh, sf) = (hh, upI sf (hh - 1) x) → f_Rule_valueFor_120 (nI p) (nI hh) (nI pre.length) x (nI (hh - 1)) m1 = f_Rule_valueFor_120 (nI p) (nI hh) (nI pre.length) x (nI (hh - 1)) m1 ∧ ∃ m2, f_Rule_valueFor_120 (nI p) (nI hh) (nI pre.length) x (nI (hh - 1)) m1 = some (if hf = 0 then 0 else (rnL (fun k => nI (sgV D W A U L P p k)) (c :: r) (hh, sf)).2 0, m2) ∧ sm w24 m m2 := by
        intro x _ hx
        refine ⟨rfl, ?_⟩
        obtain ⟨m2, r1, r2⟩ := nx hh (upI sf (hh - 1) x) (jx_w1 m1 24 (hh - 1) x) ho' (by omega) (hs.w1 rfl) (fun i hi => stk_up h24 i (by omega))
        refine ⟨m2, ?_, r2⟩
        rw [st, r1]
        show _ = some (if hf = 0 then 0 else (rnL _ r (stp1 _ c (hh, sf))).2 0, m2)
        rw [hx]
      have up_at : ∀ x, (upI sf (hh - 1) x) (hh - 1) = x := fun x => if_pos rfl
      have pre1 : ∀ {Y : Option (Int32 × jx_Mem)} {X : Option (Int32 × jx_Mem)}, X = Y → (∃ m2, Y = some (if hf = 0 then 0 else (rnL (fun k => nI (sgV D W A U L P p k)) (c :: r) (hh, sf)).2 0, m2) ∧ sm w24 m m2) → ∃ m2, X = some (if hf = 0 then 0 else (rnL (fun k => nI (sgV D W A U L P p k)) (c :: r) (hh, sf)).2 0, m2) ∧ sm w24 m m2 := by
        intro Y X e h; rw [e]; exact h
      refine pre1 (ifn ng.1) ?_
      rw [Int32.neg_neg, s_isSign_f (Or.inr hu), Option.bind_some]
      refine pre1 (ifp eq00) ?_
      refine pre1 (ifn (fun z => absurd ((nI_ltI (b := 1) (by omega) (by omega)).mp z) (by omega))) ?_
      rw [s_lvW_u hu, Option.bind_some]
      refine pre1 (ifnp rfl) ?_
      rw [en, in_nI (show hh - 1 < 40 by omega) (by omega), cond_true, nI_cl (by omega)]
      show ∃ m2, (if decide (¬ -(nI (c - 2000)) = -126) = true then (if decide (¬ m1.1 24 (hh - 1) = 0) = true then _ else _) else _) = _ ∧ _
      rw [h24 (hh - 1) (by omega)]
      rcases hu with hu | hu
      · have c33 : c = 2033 := by omega
        rw [hu]
        refine pre1 (ifnn (by decide)) ?_
        have hx : stp1 (fun k => nI (sgV D W A U L P p k)) c (hh, sf) = (hh, upI sf (hh - 1) (if sf (hh - 1) = 0 then 1 else 0)) := stp_not c33
        by_cases d : sf (hh - 1) = 0
        · refine pre1 (ifnp d) ?_
          rw [e_Rule_valueFor_117, s_bit 1 _ (Or.inr rfl), Option.bind_some]
          rw [if_pos d] at hx
          exact (key 1 (by rw [hx]; exact (up_at 1).symm) hx).2
        · refine pre1 (ifnn d) ?_
          rw [e_Rule_valueFor_117, s_bit 0 _ (Or.inl rfl), Option.bind_some]
          rw [if_neg d] at hx
          exact (key 0 (by rw [hx]; exact (up_at 0).symm) hx).2
      · have c126 : c = 2126 := by omega
        rw [hu]
        refine pre1 (ifnp (by decide)) ?_
        have hx : stp1 (fun k => nI (sgV D W A U L P p k)) c (hh, sf) = (hh, upI sf (hh - 1) (-(sf (hh - 1)))) := stp_neg c126
        exact (key _ (by rw [hx]; exact (up_at _).symm) hx).2
    · have hch : c - 2000 < 200 ∧ 0 < c - 2000 := by unfold isBin at hb; omega
      have ec : encF c = -(nI (c - 2000)) := by unfold encF; rw [if_neg (by omega), if_neg (by omega)]
      have ng := ng_neg (n := c - 2000) (by omega) (by omega)
      obtain ⟨m2, r1, r2⟩ := nx (hh - 1) (upI sf (hh - 2) (act (c - 2000) (sf (hh - 2)) (sf (hh - 1)))) (jx_w1 m1 24 (hh - 2) (act (c - 2000) (sf (hh - 2)) (sf (hh - 1)))) ho' (by omega) (hs.w1 rfl) (fun i hi => stk_up h24 i (by omega))
      refine ⟨m2, ?_, r2⟩
      rw [ec]
      refine (ifn ng.1).trans ?_
      rw [Int32.neg_neg, s_isSign_f (Or.inl hb), Option.bind_some]
      refine (ifp eq00).trans ?_
      refine (ifn (fun z => absurd ((nI_ltI (b := 1) (by omega) (by omega)).mp z) (by omega))).trans ?_
      rw [s_lvW_b hb, Option.bind_some]
      refine (ifnn (bin_lv hb)).trans ?_
      rw [e_Rule_valueFor_124]
      refine (ifn (fun z => absurd ((nI_ltI (b := 2) (by omega) (by omega)).mp z) (by omega))).trans ?_
      rw [nIq (by omega), e_Rule_valueFor_132, nIp (show 0 < hh - 1 by omega), show hh - 1 - 1 = hh - 2 by omega, in_nI (show hh - 2 < 40 by omega) (by omega), in_nI (show hh - 1 < 40 by omega) (by omega), cond_true, cond_true, nI_cl (by omega), nI_cl (by omega), Int32.neg_neg, h24 (hh - 2) (by omega), h24 (hh - 1) (by omega), s_between hb, Option.bind_some, Bool.true_and, cond_true]
      show f_Rule_valueFor_160 (nI p) (nI (hh - 1)) (nI pre.length) (jx_w1 m1 24 (hh - 2) _) = _
      rw [e_Rule_valueFor_160, nI_1, r1]
      rw [rnL_c, stp_b c1 hb]
theorem s_valueFor (h : mineF m T P D W A U L) (g : gMine T P D W A U L) {p : Nat} (hp : p < P) (hc : codeF m cs) (gc : gCode cs) : ∃ m2, f_Rule_valueFor (nI p) m = some (rV D W A U L P cs p, m2) ∧ sm w24 m m2 := by
  rw [e_Rule_valueFor]
  rcases gc.2 with e | ho
  · obtain ⟨m2, r1, r2⟩ := vF_4 h g hp hc gc.1 cs [] 0 (fun _ => 0) m 0 rfl (by rw [e]; rfl) (Nat.le_refl _) sm.rf (fun i hi => absurd hi (Nat.not_lt_zero i))
    refine ⟨m2, r1.trans ?_, r2⟩
    unfold rV rvl
    rw [if_pos rfl, e]
    rfl
  · obtain ⟨m2, r1, r2⟩ := vF_4 h g hp hc gc.1 cs [] 0 (fun _ => 0) m 1 rfl ho (Nat.le_refl _) sm.rf (fun i hi => absurd hi (Nat.not_lt_zero i))
    refine ⟨m2, r1.trans ?_, r2⟩
    unfold rV rvl
    rw [if_neg (by omega), if_neg]
    intro z
    have := List.eq_nil_of_length_eq_zero z
    subst this
    cases ho
theorem rM_4 (h : mineM m T P D W A U L) (g : gMine T P D W A U L) {p : Nat} (hp : p < P) (hc : codeM m cs) (hl : cs.length ≤ 40) : ∀ (l pre : List Nat) (hh : Nat) (sf : Nat → Int32) (m1 : jx_Mem), cs = pre ++ l → okL hh l = some 1 → hh ≤ pre.length → sm w79 m m1 → (∀ i, i < hh → m1.1 79 i = sf i) →
    ∃ m2, f_M_right_15 (nI p) (nI hh) (nI pre.length) m1 = some ((rnL (fun k => nI (sgV D W A U L P p k)) l (hh, sf)).2 0, m2) ∧ sm w79 m m2 := by
  intro l
  induction l with
  | nil =>
    intro pre hh sf m1 e ho hle hs h24
    have hc1 := codeM_sm hc hl hs (by intro a k; unfold dCM w79; omega)
    have el : cs.length = pre.length := by rw [e, List.append_nil]
    cases ho
    refine ⟨m1, ?_, hs⟩
    rw [e_M_right_15]
    show (if decide (m1.1 78 0 ≤ nI pre.length) = true then (some (m1.1 79 0, m1)) else _) = _
    rw [hc1.1, el]
    refine (ifp (nI_le (Nat.le_refl _) (by omega))).trans ?_
    rw [h24 0 (by omega)]
    rfl
  | cons c r ih =>
    intro pre hh sf m1 e ho hle hs h24
    have hc1 := codeM_sm hc hl hs (by intro a k; unfold dCM w79; omega)
    have h1 : mineM m1 T P D W A U L := mineM_sm h hs (by intro a k; unfold dMM w79; omega)
    have el : cs.length = pre.length + (r.length + 1) := by rw [e, List.length_append, List.length_cons]
    have eg : m1.1 77 pre.length = nI c := by rw [hc1.2 pre.length (by omega), e, getD_app]
    have ep : (pre ++ [c]).length = pre.length + 1 := by rw [List.length_append, List.length_singleton]
    have e' : cs = (pre ++ [c]) ++ r := by rw [e, List.append_assoc]; rfl
    have nx := fun h' sf' m1' ho' hle' hs' h24' => ih (pre ++ [c]) h' sf' m1' e' ho' (by rw [ep]; exact hle') hs' h24'
    rw [ep] at nx
    have e0 : ∀ X Y : Option (Int32 × jx_Mem), (if decide (nI cs.length ≤ nI pre.length) = true then X else Y) = Y := fun X Y => ifn (nI_ge (a := pre.length) (b := cs.length) (by omega) (by omega))
    rw [e_M_right_15, show jx_in (0 : Int32) 2 = true from rfl, cond_true, show (0 : Int32).toNatClampNeg = 0 from rfl, hc1.1, e0, in_nI (show pre.length < 96 by omega) (by omega), cond_true, nI_cl (show pre.length < 2 ^ 31 by omega), eg]
    have st : ∀ (h' : Nat) (x2 : Int32) (x : Int32), h' < 48 → f_M_right_177 (nI p) x2 (nI pre.length) (jx_w1 m1 79 h' x) = f_M_right_15 (nI p) x2 (nI (pre.length + 1)) (jx_w1 m1 79 h' x) := by
      intro h' x2 x _
      rw [e_M_right_177, nI_1]
    have pu : ∀ x, f_M_right_70 (nI p) (nI hh) (nI pre.length) x (nI hh) m1 = f_M_right_15 (nI p) (nI (hh + 1)) (nI (pre.length + 1)) (jx_w1 m1 79 hh x) := by
      intro x
      rw [e_M_right_70, in_nI (show hh < 48 by omega) (by omega), Bool.true_and, cond_true, nI_cl (by omega), nI_1]
      exact st hh _ x (by omega)
    rcases okL_c ho with ⟨c1, ho'⟩ | ⟨c1, c2, ho'⟩ | ⟨c1, hq, ho'⟩ | ⟨c1, hb, hq, ho'⟩
    · obtain ⟨m2, r1, r2⟩ := nx (hh + 1) (upI sf hh (nI c)) (jx_w1 m1 79 hh (nI c)) ho' (by omega) (hs.w1 rfl) (fun i hi => stk_up h24 i (by omega))
      refine ⟨m2, ?_, r2⟩
      refine (ifn (nI_ge (a := c) (b := 2000) (by omega) (by omega))).trans ((ifn (nI_ge (a := c) (b := 1000) (by omega) (by omega))).trans ?_)
      rw [pu, r1, rnL_c, stp_n c1]
    · obtain ⟨m2, r1, r2⟩ := nx (hh + 1) (upI sf hh (nI (sgV D W A U L P p (c - 1000)))) (jx_w1 m1 79 hh (nI (sgV D W A U L P p (c - 1000)))) ho' (by omega) (hs.w1 rfl) (fun i hi => stk_up h24 i (by omega))
      refine ⟨m2, ?_, r2⟩
      refine (ifn (nI_ge (a := c) (b := 2000) (by omega) (by omega))).trans ((ifp (nI_le (a := 1000) (b := c) (by omega) (by omega))).trans ?_)
      rw [show nI c - 1000 = nI (c - 1000) from pk_sub c1, s_valueOf h1 g hp (by omega), Option.bind_some]
      try dsimp only
      rw [pu, r1, rnL_c, stp_s c1 c2]
    · have en : nI hh - 1 = nI (hh - 1) := nIp (by omega)
      have hin : jx_in (nI (hh - 1)) 48 = true := in_nI (show hh - 1 < 48 by omega) (by omega)
      have hcl : (nI (hh - 1)).toNatClampNeg = hh - 1 := nI_cl (by omega)
      have fin : ∀ x, stp1 (fun k => nI (sgV D W A U L P p k)) c (hh, sf) = (hh, upI sf (hh - 1) x) → ∃ m2, f_M_right_177 (nI p) (nI hh) (nI pre.length) (jx_w1 m1 79 (hh - 1) x) = some ((rnL (fun k => nI (sgV D W A U L P p k)) (c :: r) (hh, sf)).2 0, m2) ∧ sm w79 m m2 := by
        intro x hx
        obtain ⟨m2, r1, r2⟩ := nx hh (upI sf (hh - 1) x) (jx_w1 m1 79 (hh - 1) x) ho' (by omega) (hs.w1 rfl) (fun i hi => stk_up h24 i (by omega))
        refine ⟨m2, ?_, r2⟩
        rw [st _ _ _ (by omega), r1, rnL_c, hx]
      have pre1 : ∀ {Y : Option (Int32 × jx_Mem)} {X : Option (Int32 × jx_Mem)}, X = Y → (∃ m2, Y = some ((rnL (fun k => nI (sgV D W A U L P p k)) (c :: r) (hh, sf)).2 0, m2) ∧ sm w79 m m2) → ∃ m2, X = some ((rnL (fun k => nI (sgV D W A U L P p k)) (c :: r) (hh, sf)).2 0, m2) ∧ sm w79 m m2 := by
        intro Y X e h; rw [e]; exact h
      refine pre1 (ifp (nI_le (a := 2000) (b := c) (by omega) (by omega))) ?_
      rw [en, hin, cond_true, hcl, h24 (hh - 1) (by omega), Bool.true_and, cond_true]
      rcases c1 with d | d
      · refine pre1 (ifnp (by rw [d]; rfl)) ?_
        have hx := stp_not (v := fun k => nI (sgV D W A U L P p k)) (h := hh) (sf := sf) d
        by_cases d0 : sf (hh - 1) = 0
        · refine pre1 (ifnp d0) ?_
          rw [e_M_right_108, s_flag 1 _ (Or.inr rfl), Option.bind_some]
          try dsimp only
          rw [hin, Bool.true_and, cond_true, hcl]
          rw [if_pos d0] at hx
          exact fin 1 hx
        · refine pre1 (ifnn d0) ?_
          rw [e_M_right_108, s_flag 0 _ (Or.inl rfl), Option.bind_some]
          try dsimp only
          rw [hin, Bool.true_and, cond_true, hcl]
          rw [if_neg d0] at hx
          exact fin 0 hx
      · refine pre1 (ifnn (fun z => absurd ((nI_eq (b := 2033) (by omega) (by omega)).mp z) (by omega))) ?_
        refine pre1 (ifnp (by rw [d]; rfl)) ?_
        exact fin _ (stp_neg d)
    · have hch : c - 2000 < 200 ∧ 0 < c - 2000 ∧ c ≠ 2033 ∧ c ≠ 2126 := by unfold isBin at hb; omega
      obtain ⟨m2, r1, r2⟩ := nx (hh - 1) (upI sf (hh - 2) (act (c - 2000) (sf (hh - 2)) (sf (hh - 1)))) (jx_w1 m1 79 (hh - 2) (act (c - 2000) (sf (hh - 2)) (sf (hh - 1)))) ho' (by omega) (hs.w1 rfl) (fun i hi => stk_up h24 i (by omega))
      refine ⟨m2, ?_, r2⟩
      refine (ifp (nI_le (a := 2000) (b := c) (by omega) (by omega))).trans ?_
      refine (ifnn (fun z => absurd ((nI_eq (b := 2033) (by omega) (by omega)).mp z) (by omega))).trans ?_
      refine (ifnn (fun z => absurd ((nI_eq (b := 2126) (by omega) (by omega)).mp z) (by omega))).trans ?_
      rw [nIq (by omega), e_M_right_146, nIp (show 0 < hh - 1 by omega), show hh - 1 - 1 = hh - 2 by omega, in_nI (show hh - 2 < 48 by omega) (by omega), in_nI (show hh - 1 < 48 by omega) (by omega), cond_true, cond_true, nI_cl (by omega), nI_cl (by omega), h24 (hh - 2) (by omega), h24 (hh - 1) (by omega), show nI c - 2000 = nI (c - 2000) from pk_sub c1, s_acted hb, Option.bind_some, Bool.true_and, cond_true]
      show f_M_right_177 (nI p) (nI (hh - 1)) (nI pre.length) (jx_w1 m1 79 (hh - 2) _) = _
      rw [st _ _ _ (by omega), r1, rnL_c, stp_b c1 hb]
theorem s_right (h : mineM m T P D W A U L) (g : gMine T P D W A U L) {p : Nat} (hp : p < P) (hc : codeM m cs) (gc : gCode cs) : ∃ m2, f_M_right (nI p) m = some (rV D W A U L P cs p, m2) ∧ sm w79 m m2 := by
  have g1 := gc.1
  rw [e_M_right]
  show ∃ m2, (if decide (¬ m.1 78 0 = 0) = true then _ else _) = _ ∧ _
  rw [hc.1]
  by_cases e : cs.length = 0
  · refine ⟨m, (ifnp (by rw [e]; rfl)).trans ?_, sm.rf⟩
    unfold rV rvl
    rw [if_pos e]
  · have ho : okL 0 cs = some 1 := by
      rcases gc.2 with z | z
      · rw [z] at e; exact absurd rfl e
      · exact z
    obtain ⟨m2, r1, r2⟩ := rM_4 h g hp hc gc.1 cs [] 0 (fun _ => 0) m rfl ho (Nat.le_refl _) sm.rf (fun i hi => absurd hi (Nat.not_lt_zero i))
    refine ⟨m2, (ifnn (fun z => e ((nI_eq (b := 0) (by omega) (by omega)).mp z))).trans (r1.trans ?_), r2⟩
    unfold rV rvl
    rw [if_neg e]
end RIGHT
