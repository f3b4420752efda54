/-! rounds, settles: the class -/
theorem wc_rd (m : jx_Mem) (s sp d dp n a k : Nat) : (jx_wc m s sp d dp n).1 a k = if a = d ∧ dp ≤ k ∧ k < dp + n then m.1 s (sp + (k - dp)) else m.1 a k := rfl
theorem wc_two (m : jx_Mem) (s sp d dp n : Nat) : (jx_wc m s sp d dp n).2 = m.2 := rfl
def wRd (a _ : Nat) : Prop := a = 35 ∨ a = 36 ∨ a = 37
def rowA (e : eTy) (V : Nat → Nat → Nat) (n k : Nat) : List Int64 := (List.range k).map (fun i => pI (lastA e V i n))
theorem rowA_s (e : eTy) (V : Nat → Nat → Nat) (n k : Nat) : rowA e V n (k + 1) = rowA e V n k ++ [pI (lastA e V k n)] := by
  unfold rowA
  rw [List.range_succ, List.map_append]
  rfl
theorem rowA_len (e : eTy) (V : Nat → Nat → Nat) (n k : Nat) : (rowA e V n k).length = k := by
  unfold rowA
  rw [List.length_map, List.length_range]
def srch (s : Nat → Bool) (n : Nat) : Nat → Option Int32
  | 0 => none
  | k + 1 => if s k = true then some (if k + 1 = n then nI k else (-1) - (nI n - nI k)) else srch s n k
def tot (s : Nat → Nat → Bool) : Nat → Nat → Int32
  | 0, _ => -999
  | f + 1, n => match srch (fun k => s k n) n n with
    | some v => v
    | none => tot s f (n + 1)
def sTHk (e : eTy) (V : Nat → Nat → Nat) (I a n k : Nat) : Bool := decide (∀ b, b < k → ∀ i, i < I → TH e V (a + b) i = TH e V (n + b) i)
def sTH (e : eTy) (V : Nat → Nat → Nat) (I a n : Nat) : Bool := sTHk e V I a n 10
section ROUNDS
variable {m m' : jx_Mem} {T P : Nat} {D : Nat → Nat → Nat} {W A U L : Nat → Nat}
variable {I S : Nat} {Gd Ow : Nat → Nat} {Sd : Nat → Bool} {Y : Nat → Nat → Nat} {Wn : Nat → Nat → Nat} {wd : Nat} {Pr : Nat → Nat → Nat} {e : eTy}
theorem askF_tab {t : Nat} (hs : sm wRd m m') (ha : askF m I Wn wd Pr) (hT : tabF m' e Pr I t) : askF m' I Wn wd Pr := by
  refine ⟨(hs 33 3 (by unfold wRd; omega)).1.trans ha.1, fun p g hp hg => (hs 34 _ (by unfold wRd; omega)).1.trans (ha.2.1 p g hp hg), fun r i hr hi => ?_⟩
  rw [hT r i (by omega) hi]
  unfold TH
  by_cases c : r < 9
  · rw [if_pos c]
  · have : r = 9 := by omega
    subst this
    rw [if_neg (by omega)]
    rfl
theorem tab_0 (ha : askF m I Wn wd Pr) : tabF m e Pr I 0 := by
  intro r i hr hi
  rw [ha.2.2 r i (by omega) hi]
  unfold TH
  by_cases c : r < 9
  · rw [if_pos c]
  · have : r = 9 := by omega
    subst this
    rw [if_neg (by omega)]
    rfl
theorem ask_29 (h : mineF m T P D W A U L) (g : gMine T P D W A U L) (hi : itemsF m I S Gd Ow Sd Y) (gi : gItems P I S Gd Ow Sd Y) (ha : askF m I Wn wd Pr) (ga : gAsk I Wn wd Pr) {n : Nat} (hn : n ≤ 200) (he : e = mkE D A wd Ow Sd Gd Wn U P I) :
    ∀ (k t : Nat), t + k = n → ∀ m1, sm wRd m m1 → (∀ p' i', p' < P → i' < I → m1.1 36 (12 * p' + i') = oI (lat D A wd Ow Sd p' i')) → tabF m1 e Pr I t → (∀ i, i < I → m1.1 37 i = nI (lastA e Pr i t)) →
    ∃ m2, f_Asking_askOn_29 (nI n) (nI (lastC e Pr t)) (nI t) m1 = some (nI (lastC e Pr n), m2) ∧ sm wRd m m2 ∧ (∀ i, i < I → m2.1 37 i = nI (lastA e Pr i n)) ∧ askF m2 I Wn wd (rdW e Pr n) := by
  have hI := gi.1
  subst he
  intro k
  induction k with
  | zero =>
    intro t hk m1 hs hl hT h37
    have : t = n := by omega
    subst this
    refine ⟨jx_wc m1 35 (t * 12) 35 0 120, ?_, ?_, ?_, ?_, ?_, ?_⟩
    · rw [e_Asking_askOn_29]
      refine (ifp (nI_le (Nat.le_refl _) (by omega))).trans ?_
      rw [show nI t * 12 = nI (t * 12) from pk_mul t 12, decide_eq_false (nI_pos (show t * 12 < 2 ^ 31 by omega)), nI_cl (show t * 12 < 2 ^ 31 by omega), show (120 : Int32).toNatClampNeg = 120 from rfl, show (0 : Int32).toNatClampNeg = 0 from rfl, decide_eq_true (show t * 12 + 120 ≤ 2520 by omega)]
      rfl
    · refine hs.tr ?_
      intro a k hq
      refine ⟨?_, rfl⟩
      rw [wc_rd, if_neg]
      intro z
      exact hq (Or.inl z.1)
    · intro i hi'
      rw [wc_rd, if_neg (by omega)]
      exact h37 i hi'
    · rw [wc_rd, if_neg (by omega)]
      exact (hs 33 3 (by unfold wRd; omega)).1.trans ha.1
    · intro p g hp hg
      rw [wc_rd, if_neg (by omega)]
      exact (hs 34 _ (by unfold wRd; omega)).1.trans (ha.2.1 p g hp hg)
    · intro r i hr hi'
      rw [wc_rd, if_pos (by omega), show t * 12 + (12 * r + i - 0) = 12 * (t + r) + i by omega, hT (t + r) i (by omega) hi', TH_win _ _ t (9 - r) i (by omega), show 9 + t - (9 - r) = t + r by omega]
  | succ k ih =>
    intro t hk m1 hs hl hT h37
    have h1 : mineF m1 T P D W A U L := mineF_sm h hs (by intro a k; unfold dMF wRd; omega)
    have hi1 : itemsF m1 I S Gd Ow Sd Y := itemsF_sm hi hs (by intro a k; unfold dIF wRd; omega)
    have ha1 := askF_tab hs ha hT
    obtain ⟨m2, r1, r2, r3, r4⟩ := s_askOnce h1 g hi1 gi ha1 ga hl (show t < 200 by omega) hT
    obtain ⟨m3, t1, t2⟩ := ih (t + 1) (by omega) m2 (hs.tr (r2.mono (by unfold wAo wRd; omega))) (fun p' i' q1 q2 => (r2 36 _ (by unfold wAo; omega)).1.trans (hl p' i' q1 q2)) r4 r3
    refine ⟨m3, ?_, t2⟩
    rw [← t1, e_Asking_askOn_29]
    refine (ifn (nI_ge (a := t) (b := n) (by omega) (by omega))).trans ?_
    rw [show (9 : Int32) + nI t = nI (9 + t) from nI_add 9 t, r1, Option.bind_some, nI_1]
    rfl
theorem ta_6 (hi : itemsF m I S Gd Ow Sd Y) (hI : I ≤ 12) {n : Nat} (h37 : ∀ i, i < I → m.1 37 i = nI (lastA e Pr i n)) : ∀ (k i : Nat), i + k = I → ∀ m1, sm wRF m m1 → rF m1 (rowA e Pr n i) →
    ∃ m2, f_Asking_tellAskers_6 (nI i) m1 = some m2 ∧ sm wRF m m2 ∧ rF m2 (rowA e Pr n I) := by
  intro k
  induction k with
  | zero =>
    intro i hk m1 hs hr
    have : i = I := by omega
    subst this
    have hi1 : itemsF m1 i S Gd Ow Sd Y := itemsF_sm hi hs (by intro a k; unfold dIF wRF; omega)
    refine ⟨m1, ?_, hs, hr⟩
    rw [e_Asking_tellAskers_6, e_Items_size, Option.bind_some, hi1.1]
    exact ifp (nI_le (Nat.le_refl _) (by omega))
  | succ k ih =>
    intro i hk m1 hs hr
    have hi1 : itemsF m1 I S Gd Ow Sd Y := itemsF_sm hi hs (by intro a k; unfold dIF wRF; omega)
    obtain ⟨m2, q1, q2, q3⟩ := s_Row_add (pI (lastA e Pr i n)) hr (by rw [rowA_len]; omega)
    rw [← rowA_s] at q2
    obtain ⟨m3, t1, t2⟩ := ih (i + 1) (by omega) m2 (hs.tr q3) q2
    refine ⟨m3, ?_, t2⟩
    rw [← t1, e_Asking_tellAskers_6, e_Items_size, Option.bind_some, hi1.1]
    refine (ifn (nI_ge (a := i) (b := I) (by omega) (by omega))).trans ?_
    try dsimp only
    rw [in_nI (show i < 12 by omega) (by omega), nI_cl (show i < 2 ^ 31 by omega), cond_true, (hs 37 i (by unfold wRF; omega)).1, h37 i (by omega)]
    show (f_Row_add (pI (lastA e Pr i n)) m1).bind _ = _
    rw [q1, Option.bind_some, nI_1]
def cRnd (x : Int32) : Prop := 0 ≤ x.toInt ∧ x.toInt ≤ 200
def wRdF (a k : Nat) : Prop := wRd a k ∨ wRF a k
theorem F_rounds (h : mineF m T P D W A U L) (g : gMine T P D W A U L) (hi : itemsF m I S Gd Ow Sd Y) (gi : gItems P I S Gd Ow Sd Y) (ha : askF m I Wn wd Pr) (ga : gAsk I Wn wd Pr) (x : Int32) : ∃ m', sm wRdF m m' ∧
    ((cRnd x ∧ f_F_rounds x m = some (nI (lastC (mkE D A wd Ow Sd Gd Wn U P I) Pr (jn x)), m') ∧ askF m' I Wn wd (rdW (mkE D A wd Ow Sd Gd Wn U P I) Pr (jn x)) ∧ rF m' (rowA (mkE D A wd Ow Sd Gd Wn U P I) Pr (jn x) I)) ∨ (¬ cRnd x ∧ f_F_rounds x m = some (-1, m') ∧ m' = m)) := by
  have hI := gi.1
  rw [e_F_rounds]
  by_cases hx : 0 ≤ x.toInt ∧ x.toInt ≤ 200
  · obtain ⟨n, hn, rfl⟩ := nI_get hx.1 (show x.toInt < ((201 : Nat) : Int) by omega)
    rw [jn_nI (show n < 2 ^ 31 by omega)]
    obtain ⟨m1, a1, a2, a3⟩ := s_findLates h g hi gi ha ga
    obtain ⟨m2, b1, b2, b3⟩ := s_fill37 0 m1
    have s1 : sm wRd m m1 := a2.mono (by unfold w36 wRd; omega)
    have s2 : sm wRd m m2 := s1.tr (b3.mono (by unfold wRd; omega))
    have ha2 : askF m2 I Wn wd Pr := askF_sm ha hI (Z := fun a k => a = 36 ∨ a = 37) ((a2.mono (by unfold w36; omega)).tr (b3.mono (by omega))) (by intro a k; unfold dKF; omega)
    obtain ⟨m3, c1, c2, c3, c4⟩ := ask_29 h g hi gi ha ga (show n ≤ 200 by omega) rfl n 0 (by omega) m2 s2 (fun p' i' q1 q2 => (b3 36 _ (by omega)).1.trans (a3 p' i' q1 q2)) (tab_0 ha2) (fun i hi' => b2 i (by omega))
    have hi3 : itemsF m3 I S Gd Ow Sd Y := itemsF_sm hi c2 (by intro a k; unfold dIF wRd; omega)
    obtain ⟨m4, d1, d2, d3⟩ := s_Row_clear m3
    have hi4 : itemsF m4 I S Gd Ow Sd Y := itemsF_sm hi3 d3 (by intro a k; unfold dIF wRF; omega)
    obtain ⟨m5, f1, f2, f3⟩ := ta_6 hi4 hI (fun i hi' => (d3 37 i (by unfold wRF; omega)).1.trans (c3 i hi')) I 0 (by omega) m4 sm.rf d2
    refine ⟨m5, (c2.mono (fun _ _ z => Or.inl z)).tr ((d3.tr f2).mono (fun _ _ z => Or.inr z)), Or.inl ⟨hx, ?_, ?_, f3⟩⟩
    · have e1 : f_Asking_askOn (nI n) m = some (nI (lastC (mkE D A wd Ow Sd Gd Wn U P I) Pr n), m3) := by
        rw [e_Asking_askOn, s_wi_t (lo := 0) (hi := 200) hx, Option.bind_some]
        refine (ifnn ne10).trans ?_
        try dsimp only
        rw [a1, Option.bind_some, b1, Option.bind_some]
        exact c1
      have e2 : f_Asking_tellAskers m3 = some m5 := by
        rw [e_Asking_tellAskers, d1, Option.bind_some]
        exact f1
      simp [s_wi_t (lo := 0) (hi := 200) hx, e1, e2]
    · exact askF_sm c4 hI (d3.tr f2) (by intro a k; unfold dKF wRF; omega)
  · refine ⟨m, sm.rf, Or.inr ⟨hx, ?_, rfl⟩⟩
    simp [s_wi_f (lo := 0) (hi := 200) hx]
/-! settles: the class -/
theorem neg1 (x : Int32) : x + (-1) = x - 1 := (Int32.sub_eq_add_neg x 1).symm
theorem sb_3 (hi : itemsF m I S Gd Ow Sd Y) (hI : I ≤ 12) {a n : Nat} (han : a ≤ n) (hn : n ≤ 200) {t : Nat} (hT : tabF m e Pr I t) (hnt : n ≤ t) (hv : vOK Pr I) : ∀ k, k ≤ 10 → f_Asking_sameBehind_3 (nI a) (nI n) (nI k - 1) m = some (bi (decide (∀ b, b < k → ∀ i, i < I → TH e Pr (a + b) i = TH e Pr (n + b) i)), m) := by
  intro k
  induction k with
  | zero =>
    intro _
    rw [e_Asking_sameBehind_3]
    refine (ifp (by decide)).trans ?_
    rw [decide_eq_true (fun b hb => absurd hb (Nat.not_lt_zero b))]
    rfl
  | succ k ih =>
    intro hk
    have h0 := ih (by omega)
    have inner := lp_any (fun i => f_Asking_sameBehind_26 (nI a) (nI n) (nI k) (nI (12 * (a + k))) (nI (12 * (n + k))) i m) (fun i => !decide (TH e Pr (a + k) i = TH e Pr (n + k) i)) (some ((0 : Int32), m)) (f_Asking_sameBehind_3 (nI a) (nI n) (nI k - 1) m) I (by
      try dsimp only
      rw [e_Asking_sameBehind_26, e_Items_size, Option.bind_some, hi.1]
      refine (ifp (nI_le (Nat.le_refl _) (by omega))).trans ?_
      rw [neg1]) (by
      intro i hi'
      try dsimp only
      rw [e_Asking_sameBehind_26, e_Items_size, Option.bind_some, hi.1]
      refine (ifn (nI_ge (a := i) (b := I) hi' (by omega))).trans ?_
      try dsimp only
      rw [nI_add, nI_add, in_nI (show 12 * (a + k) + i < 2520 by omega) (by omega), in_nI (show 12 * (n + k) + i < 2520 by omega) (by omega), nI_cl (show 12 * (a + k) + i < 2 ^ 31 by omega), nI_cl (show 12 * (n + k) + i < 2 ^ 31 by omega), cond_true, cond_true, hT (a + k) i (by omega) hi', hT (n + k) i (by omega) hi']
      have b1 := TH_ok (e := e) hv (r := a + k) hi'
      have b2 := TH_ok (e := e) hv (r := n + k) hi'
      by_cases c : TH e Pr (a + k) i = TH e Pr (n + k) i
      · refine (ifp (by rw [c])).trans ?_
        rw [nI_1, decide_eq_true c]
        rfl
      · refine (ifn (fun z => c ((nI_eq (by omega) (by omega)).mp z))).trans ?_
        rw [decide_eq_false c]
        rfl) I 0 (by omega)
    have e0 : f_Asking_sameBehind_3 (nI a) (nI n) (nI (k + 1) - 1) m = f_Asking_sameBehind_26 (nI a) (nI n) (nI k) (nI (12 * (a + k))) (nI (12 * (n + k))) (nI 0) m := by
      rw [nI_pred, e_Asking_sameBehind_3]
      refine (ifn (nI_pos (by omega))).trans ?_
      rw [nI_add, nI_add, show nI (a + k) * 12 = nI (12 * (a + k)) from (pk_mul (a + k) 12).trans (by rw [Nat.mul_comm]), show nI (n + k) * 12 = nI (12 * (n + k)) from (pk_mul (n + k) 12).trans (by rw [Nat.mul_comm])]
      rfl
    rw [e0]
    refine Eq.trans inner ?_
    by_cases c : ∀ i, i < I → TH e Pr (a + k) i = TH e Pr (n + k) i
    · have ha : ¬ anyF (fun i => !decide (TH e Pr (a + k) i = TH e Pr (n + k) i)) 0 I = true := by
        rw [anyF_iff]
        rintro ⟨o, _, o2, o3⟩
        rw [decide_eq_true (c o (by omega))] at o3
        cases o3
      rw [if_neg ha, h0]
      congr 3
      apply decide_eq_decide.mpr
      constructor
      · intro z b hb i hi'
        by_cases q : b = k
        · rw [q]; exact c i hi'
        · exact z b (by omega) i hi'
      · intro z b hb i hi'
        exact z b (by omega) i hi'
    · have ha : anyF (fun i => !decide (TH e Pr (a + k) i = TH e Pr (n + k) i)) 0 I = true := by
        rw [anyF_iff]
        apply Classical.byContradiction
        intro z
        apply c
        intro i hi'
        apply Classical.byContradiction
        intro y
        exact z ⟨i, Nat.zero_le _, by omega, by rw [decide_eq_false y]; rfl⟩
      rw [if_pos ha, decide_eq_false (fun z => c (fun i hi' => z k (by omega) i hi'))]
      rfl
theorem fo_28 (hi : itemsF m I S Gd Ow Sd Y) (hI : I ≤ 12) {n : Nat} (hn0 : 1 ≤ n) (hn : n ≤ 200) (hT : tabF m e Pr I n) (hv : vOK Pr I) : ∀ k, k ≤ n → f_Asking_foresee_28 (nI n) (nI k - 1) m = match srch (fun a => sTH e Pr I a n) n k with | some v => some (v, m) | none => f_Asking_foresee_6 (nI (n + 1)) m := by
  intro k
  induction k with
  | zero =>
    intro _
    rw [e_Asking_foresee_28]
    refine (ifp (by decide)).trans ?_
    rw [nI_1]
    rfl
  | succ k ih =>
    intro hk
    have hs := sb_3 hi hI (show k ≤ n by omega) hn hT (Nat.le_refl n) hv 10 (Nat.le_refl _)
    have hs2 : f_Asking_sameBehind (nI k) (nI n) m = some (bi (sTH e Pr I k n), m) := (e_Asking_sameBehind _ _ _).trans hs
    rw [nI_pred, e_Asking_foresee_28]
    refine (ifn (nI_pos (by omega))).trans ?_
    rw [hs2, Option.bind_some]
    unfold srch
    cases hc : sTH e Pr I k n with
    | false =>
      refine (ifp (show bi false = 0 from rfl)).trans ?_
      rw [neg1, ih (by omega)]
      rfl
    | true =>
      refine (ifn (show ¬ bi true = 0 from ne10)).trans ?_
      have e1 : nI n - 1 = nI (n - 1) := by
        have := nI_pred (n - 1)
        rw [show n - 1 + 1 = n by omega] at this
        exact this
      by_cases c : k + 1 = n
      · refine (ifnp (by rw [e1, show k = n - 1 by omega])).trans ?_
        rw [e_Asking_foresee_57]
        simp only [if_true]
        rw [if_pos c]
      · refine (ifnn (fun z => by rw [e1] at z; have := (nI_eq (by omega) (by omega)).mp z; omega)).trans ?_
        rw [e_Asking_foresee_57]
        simp only [if_true]
        rw [if_neg c]
def wSe (a k : Nat) : Prop := a = 36 ∨ a = 37 ∨ (a = 35 ∧ 120 ≤ k)
theorem fo_6 (h : mineF m T P D W A U L) (g : gMine T P D W A U L) (hi : itemsF m I S Gd Ow Sd Y) (gi : gItems P I S Gd Ow Sd Y) (ha : askF m I Wn wd Pr) (ga : gAsk I Wn wd Pr) (he : e = mkE D A wd Ow Sd Gd Wn U P I) :
    ∀ (k n : Nat), n + k = 201 → 1 ≤ n → ∀ m1, sm wSe m m1 → (∀ p' i', p' < P → i' < I → m1.1 36 (12 * p' + i') = oI (lat D A wd Ow Sd p' i')) → tabF m1 e Pr I (n - 1) →
    ∃ m2, f_Asking_foresee_6 (nI n) m1 = some (tot (sTH e Pr I) k n, m2) ∧ sm wSe m m2 := by
  have hI := gi.1
  have hv : vOK Pr I := fun l i q1 q2 => ga.2.2.2 l i q1 q2
  subst he
  intro k
  induction k with
  | zero =>
    intro n hk _ m1 hs hl hT
    have : n = 201 := by omega
    subst this
    refine ⟨m1, ?_, hs⟩
    rw [e_Asking_foresee_6]
    exact ifp (by decide)
  | succ k ih =>
    intro n hk hn m1 hs hl hT
    have h1 : mineF m1 T P D W A U L := mineF_sm h hs (by intro a k; unfold dMF wSe; omega)
    have hi1 : itemsF m1 I S Gd Ow Sd Y := itemsF_sm hi hs (by intro a k; unfold dIF wSe; omega)
    have ha1 : askF m1 I Wn wd Pr := askF_sm ha hI hs (by intro a k; unfold dKF wSe; omega)
    obtain ⟨m2, r1, r2, _, r4⟩ := s_askOnce h1 g hi1 gi ha1 ga hl (show n - 1 < 200 by omega) hT
    rw [show n - 1 + 1 = n by omega] at r4
    have hs2 : sm wSe m m2 := hs.tr (r2.mono (by unfold wAo wSe; intro a k; omega))
    have hi2 : itemsF m2 I S Gd Ow Sd Y := itemsF_sm hi hs2 (by intro a k; unfold dIF wSe; omega)
    have f28 := fo_28 hi2 hI hn (show n ≤ 200 by omega) r4 hv n (Nat.le_refl n)
    have e0 : f_Asking_foresee_6 (nI n) m1 = f_Asking_foresee_28 (nI n) (nI n - 1) m2 := by
      rw [e_Asking_foresee_6]
      refine (ifn (nI_nlt (a := 200) (b := n) (by omega) (by omega))).trans ?_
      rw [show (9 : Int32) + nI n = nI (9 + n) from nI_add 9 n, show (9 + n) = (9 + (n - 1)) + 1 by omega, nI_pred, r1, Option.bind_some]
    rw [e0, f28]
    cases hc : srch (fun a => sTH (mkE D A wd Ow Sd Gd Wn U P I) Pr I a n) n n with
    | some v =>
      refine ⟨m2, ?_, hs2⟩
      unfold tot
      rw [hc]
    | none =>
      obtain ⟨m3, t1, t2⟩ := ih (n + 1) (by omega) (by omega) m2 hs2 (fun p' i' q1 q2 => (r2 36 _ (by unfold wAo; omega)).1.trans (hl p' i' q1 q2)) (by rw [show n + 1 - 1 = n by omega]; exact r4)
      refine ⟨m3, ?_, t2⟩
      unfold tot
      rw [hc]
      exact t1
theorem F_settles (h : mineF m T P D W A U L) (g : gMine T P D W A U L) (hi : itemsF m I S Gd Ow Sd Y) (gi : gItems P I S Gd Ow Sd Y) (ha : askF m I Wn wd Pr) (ga : gAsk I Wn wd Pr) : ∃ m', sm wSe m m' ∧ f_F_settles m = some (tot (sTH (mkE D A wd Ow Sd Gd Wn U P I) Pr I) 200 1, m') := by
  have hI := gi.1
  obtain ⟨m1, a1, a2, a3⟩ := s_findLates h g hi gi ha ga
  have s1 : sm wSe m m1 := a2.mono (by unfold w36 wSe; omega)
  have ha1 : askF m1 I Wn wd Pr := askF_sm ha hI s1 (by intro a k; unfold dKF wSe; omega)
  obtain ⟨m2, b1, b2⟩ := fo_6 h g hi gi ha ga rfl 200 1 (by omega) (by omega) m1 s1 a3 (tab_0 ha1)
  refine ⟨m2, b2, ?_⟩
  rw [e_F_settles, e_Asking_foresee, a1, Option.bind_some]
  show (f_Asking_foresee_6 (nI 1) m1).bind _ = _
  rw [b1]
  rfl
end ROUNDS
