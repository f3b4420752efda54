/-! rounds, settles: the model -/
section ROUNDSM
variable {m m' : jx_Mem} {T P : Nat} {D : Nat → Nat → Nat} {W A U L : Nat → Nat}
variable {I S : Nat} {Gd Ow : Nat → Nat} {Sd : Nat → Bool} {Y : Nat → Nat → Nat} {Wn : Nat → Nat → Nat} {wd : Nat} {V Pr : Nat → Nat → Nat} {e : eTy}
theorem gAsk_rd (ga : gAsk I Wn wd Pr) (e : eTy) (t : Nat) : gAsk I Wn wd (rdW e Pr t) :=
  ⟨ga.1, ga.2.1, ga.2.2.1, fun b i hb hi => rdW_ok (fun l j q1 q2 => ga.2.2.2 l j q1 q2) t b i hb hi⟩
theorem rm_23 (hI : I ≤ 12) (x c : Int32) : ∀ (k n : Nat), n + k = I → ∀ m1, m1.1 63 28 = nI I → (∀ i, i < n → m1.1 86 i = 0) → ∃ m2, f_M_rounds_23 x c (nI n) m1 = f_M_rounds_46 x c 0 m2 ∧ sm w86 m1 m2 ∧ ∀ i, i < I → m2.1 86 i = 0 := by
  intro k
  induction k with
  | zero =>
    intro n hk m1 h0 hz
    refine ⟨m1, ?_, sm.rf, fun i hi => hz i (by omega)⟩
    rw [e_M_rounds_23, h0]
    exact ifp (nI_le (by omega) (by omega))
  | succ k ih =>
    intro n hk m1 h0 hz
    obtain ⟨m2, r1, r2, r3⟩ := ih (n + 1) (by omega) (jx_w1 m1 86 n 0) (by rw [w1_cell (by omega)]; exact h0) (by
      intro i hi
      rw [w1_rd]
      by_cases c : i = n
      · rw [if_pos ⟨rfl, c⟩]
      · rw [if_neg (fun z => c z.2)]; exact hz i (by omega))
    refine ⟨m2, ?_, r2.pre rfl, r3⟩
    rw [← r1, e_M_rounds_23, h0]
    refine (ifn (nI_ge (a := n) (b := I) (by omega) (by omega))).trans ?_
    rw [in_nI (show n < 12 by omega) (by omega), nI_cl (by omega), nI_1]
    rfl
theorem rm_46 (h : mineM m T P D W A U L) (g : gMine T P D W A U L) (hi : itemsM m I S Gd Ow Sd Y) (gi : gItems P I S Gd Ow Sd Y) (ga : gAsk I Wn wd Pr) (he : e = mkE D A wd Ow Sd Gd Wn U P I) {n : Nat} (hn : n ≤ 200) :
    ∀ (k t : Nat), t + k = n → ∀ m1, sm w856 m m1 → askM m1 I Wn wd (rdW e Pr t) → (∀ i, i < I → m1.1 86 i = nI (lastA e Pr i t)) →
    ∃ m2, f_M_rounds_46 (nI n) (nI (lastC e Pr t)) (nI t) m1 = f_M_rounds_69 (nI (lastC e Pr n)) 0 (jx_w1 m2 63 1 0) ∧ sm w856 m m2 ∧ askM m2 I Wn wd (rdW e Pr n) ∧ (∀ i, i < I → m2.1 86 i = nI (lastA e Pr i n)) := by
  intro k
  induction k with
  | zero =>
    intro t hk m1 hs ha h86
    have : t = n := by omega
    subst this
    refine ⟨m1, ?_, hs, ha, h86⟩
    rw [e_M_rounds_46]
    exact ifp (nI_le (Nat.le_refl _) (by omega))
  | succ k ih =>
    intro t hk m1 hs ha h86
    have h1 : mineM m1 T P D W A U L := mineM_sm h hs (by intro a k; unfold dMM w856; omega)
    have hi1 : itemsM m1 I S Gd Ow Sd Y := itemsM_sm hi hs (by intro a k; unfold dIM w856; omega)
    obtain ⟨m2, r1, r2, r3, r4⟩ := s_goesRound h1 g hi1 gi ha (gAsk_rd ga e t) he
    obtain ⟨m3, t1, t2⟩ := ih (t + 1) (by omega) m2 (hs.tr r2) r4 (fun i hi' => by rw [r3 i hi', he]; rfl)
    refine ⟨m3, ?_, t2⟩
    rw [← t1, e_M_rounds_46]
    refine (ifn (nI_ge (a := t) (b := n) (by omega) (by omega))).trans ?_
    rw [r1, Option.bind_some, nI_1]
    rfl
theorem rm_69 (hi : itemsM m I S Gd Ow Sd Y) (hI : I ≤ 12) {n : Nat} (h86 : ∀ i, i < I → m.1 86 i = nI (lastA e Pr i n)) (c : Int32) : ∀ (k i : Nat), i + k = I → ∀ m1, sm wRM m m1 → rM m1 (rowA e Pr n i) →
    ∃ m2, f_M_rounds_69 c (nI i) m1 = some (c, m2) ∧ sm wRM m m2 ∧ rM m2 (rowA e Pr n I) := by
  intro k
  induction k with
  | zero =>
    intro i hk m1 hs hr
    have : i = I := by omega
    subst this
    have hi1 : itemsM m1 i S Gd Ow Sd Y := itemsM_sm hi hs (by intro a k; unfold dIM wRM; omega)
    refine ⟨m1, ?_, hs, hr⟩
    rw [e_M_rounds_69, hi1.1]
    exact ifp (nI_le (Nat.le_refl _) (by omega))
  | succ k ih =>
    intro i hk m1 hs hr
    have hi1 : itemsM m1 I S Gd Ow Sd Y := itemsM_sm hi hs (by intro a k; unfold dIM wRM; omega)
    obtain ⟨m2, q1, q2, q3⟩ := s_enters (pI (lastA e Pr i n)) hr (by rw [rowA_len]; omega)
    rw [← rowA_s] at q2
    obtain ⟨m3, t1, t2⟩ := ih (i + 1) (by omega) m2 (hs.tr q3) q2
    refine ⟨m3, ?_, t2⟩
    rw [← t1, e_M_rounds_69, hi1.1]
    refine (ifn (nI_ge (a := i) (b := I) (by omega) (by omega))).trans ?_
    rw [in_nI (show i < 12 by omega) (by omega), nI_cl (show i < 2 ^ 31 by omega), cond_true, (hs 86 i (by unfold wRM; omega)).1, h86 i (by omega)]
    show (f_M_enters (pI (lastA e Pr i n)) m1).bind _ = _
    rw [q1, Option.bind_some, nI_1]
def wRdM (a k : Nat) : Prop := w856 a k ∨ wTM a k
theorem M_rounds (h : mineM m T P D W A U L) (g : gMine T P D W A U L) (hi : itemsM m I S Gd Ow Sd Y) (gi : gItems P I S Gd Ow Sd Y) (ha : askM m I Wn wd Pr) (ga : gAsk I Wn wd Pr) (x : Int32) : ∃ m', sm wRdM m m' ∧
    ((cRnd x ∧ f_M_rounds x m = some (nI (lastC (mkE D A wd Ow Sd Gd Wn U P I) Pr (jn x)), m') ∧ askM m' I Wn wd (rdW (mkE D A wd Ow Sd Gd Wn U P I) Pr (jn x)) ∧ rM m' (rowA (mkE D A wd Ow Sd Gd Wn U P I) Pr (jn x) I)) ∨ (¬ cRnd x ∧ f_M_rounds x m = some (-1, m') ∧ m' = jx_w1 m 63 0 0)) := by
  have hI := gi.1
  have h1 := mineM_th h (v := 0)
  have hi1 := itemsM_th hi (v := 0)
  have ha1 := askM_th ha (v := 0)
  have s1 : sm wRdM m (jx_w1 m 63 0 0) := sm_w1 (Or.inr (by unfold wTM; omega))
  rw [e_M_rounds]
  try dsimp only
  by_cases hx : 0 ≤ x.toInt ∧ x.toInt ≤ 200
  · obtain ⟨n, hn, rfl⟩ := nI_get hx.1 (show x.toInt < ((201 : Nat) : Int) by omega)
    rw [jn_nI (show n < 2 ^ 31 by omega)]
    obtain ⟨m2, b1, b2, b3⟩ := rm_23 hI (nI n) 0 I 0 (by omega) (jx_w1 m 63 0 0) hi1.1 (fun i hi' => absurd hi' (Nat.not_lt_zero i))
    have ha2 : askM m2 I Wn wd Pr := askM_sm ha1 b2 (by intro a k; unfold dKM w86; omega)
    obtain ⟨m3, c1, c2, c3, c4⟩ := rm_46 h1 g hi1 gi ga rfl (show n ≤ 200 by omega) n 0 (by omega) m2 (b2.mono (by unfold w86 w856; omega)) ha2 (fun i hi' => b3 i hi')
    have hi3 : itemsM m3 I S Gd Ow Sd Y := itemsM_sm hi1 c2 (by intro a k; unfold dIM w856; omega)
    have hi4 : itemsM (jx_w1 m3 63 1 0) I S Gd Ow Sd Y := itemsM_sm (Z := fun a k => a = 63 ∧ k = 1) hi3 (sm_w1 ⟨rfl, rfl⟩) (by intro a k; unfold dIM; omega)
    obtain ⟨m5, f1, f2, f3⟩ := rm_69 hi4 hI (fun i hi' => (w1_cell (by omega)).trans (c4 i hi')) (nI (lastC (mkE D A wd Ow Sd Gd Wn U P I) Pr n)) I 0 (by omega) (jx_w1 m3 63 1 0) sm.rf (rM_0 m3)
    have s5 : sm wTM m3 m5 := (sm_w1 (by unfold wTM; omega)).tr (f2.mono (by unfold wRM wTM; omega))
    refine ⟨m5, s1.tr ((c2.mono (fun _ _ z => Or.inl z)).tr (s5.mono (fun _ _ z => Or.inr z))), Or.inl ⟨hx, ?_, ?_, f3⟩⟩
    · rw [s_in_t (lo := 0) (hi := 200) hx, Option.bind_some]
      refine (ifnn ne10).trans ?_
      refine Eq.trans (b := f_M_rounds_46 (nI n) 0 0 m2) b1 ?_
      exact Eq.trans c1 f1
    · exact askM_sm c3 s5 (by intro a k; unfold dKM wTM; omega)
  · refine ⟨_, s1, Or.inr ⟨hx, ?_, rfl⟩⟩
    rw [s_in_f (lo := 0) (hi := 200) hx, Option.bind_some]
    exact ifnp eq00
/-! settles: the model -/
def w87 (a _ : Nat) : Prop := a = 87
theorem ly_2 {k : Nat} (hk : k ≤ 200) : ∀ (c j : Nat), j + c = 120 → ∀ m1, ∃ m2, f_M_lays_2 (nI k) (nI j) m1 = some m2 ∧ sm w87 m1 m2 ∧ (∀ i, m2.1 87 i = if 120 * k + j ≤ i ∧ i < 120 * k + 120 then m1.1 85 (i - 120 * k) else m1.1 87 i) := by
  intro c
  induction c with
  | zero =>
    intro j hj m1
    have : j = 120 := by omega
    subst this
    refine ⟨m1, ?_, sm.rf, fun i => by rw [if_neg (by omega)]⟩
    rw [e_M_lays_2]
    exact ifp (by decide)
  | succ c ih =>
    intro j hj m1
    obtain ⟨m2, r1, r2, r3⟩ := ih (j + 1) (by omega) (jx_w1 m1 87 (120 * k + j) (m1.1 85 j))
    refine ⟨m2, ?_, r2.pre rfl, fun i => ?_⟩
    · rw [← r1, e_M_lays_2]
      refine (ifn (nI_ge (a := j) (b := 120) (by omega) (by omega))).trans ?_
      rw [show (120 : Int32) * nI k + nI j = nI (120 * k + j) from nI_xi 120 k j, in_nI (show j < 120 by omega) (by omega), in_nI (show 120 * k + j < 24120 by omega) (by omega), nI_cl (show j < 2 ^ 31 by omega), nI_cl (show 120 * k + j < 2 ^ 31 by omega), nI_1]
      rfl
    · rw [r3 i, w1_cell (show 85 ≠ 87 by omega), w1_rd]
      by_cases q : 120 * k + (j + 1) ≤ i ∧ i < 120 * k + 120
      · rw [if_pos q, if_pos (by omega)]
      · rw [if_neg q]
        by_cases z : i = 120 * k + j
        · rw [if_pos ⟨rfl, z⟩, if_pos (by omega), show i - 120 * k = j by omega]
        · rw [if_neg (fun y => z y.2), if_neg (by omega)]
/-- the model's states of the first n rounds -/
def stsM (m : jx_Mem) (e : eTy) (V : Nat → Nat → Nat) (I n : Nat) : Prop := ∀ k l i, k < n → l < 10 → i < I → m.1 87 (120 * k + (12 * l + i)) = nI (rdW e V k l i)
theorem s_lays (hI : I ≤ 12) {k : Nat} (hk : k ≤ 200) (hs : stsM m e Pr I k) (ha : askM m I Wn wd (rdW e Pr k)) : ∃ m2, f_M_lays (nI k) m = some m2 ∧ sm w87 m m2 ∧ stsM m2 e Pr I (k + 1) := by
  obtain ⟨m2, r1, r2, r3⟩ := ly_2 hk 120 0 (by omega) m
  refine ⟨m2, by rw [e_M_lays]; exact r1, r2, fun k' l i hk' hl hi => ?_⟩
  rw [r3]
  by_cases c : k' = k
  · rw [if_pos (by omega), c, show 120 * k + (12 * l + i) - 120 * k = 12 * l + i by omega]
    exact ha.2.2 l i hl hi
  · rw [if_neg (by omega)]
    exact hs k' l i (by omega) hl hi
theorem s_isAs (hI : I ≤ 12) (h0 : m.1 63 28 = nI I) (hv : vOK Pr I) {k n : Nat} (hkn : k < n) (hn : n ≤ 200) (hs : stsM m e Pr I n) (ha : askM m I Wn wd (rdW e Pr n)) : f_M_isAs (nI k) m = some (bi (sTH e Pr I k n), m) := by
  have inner := lp_any (fun j => f_M_isAs_2 (nI k) j m) (fun j => decide (j % 12 < I) && !decide (rdW e Pr k (j / 12) (j % 12) = rdW e Pr n (j / 12) (j % 12))) (some ((0 : Int32), m)) (some ((1 : Int32), m)) 120 (by
    rw [e_M_isAs_2]
    exact ifp (by decide)) (by
    intro j hj
    have hd := Nat.div_add_mod j 12
    have hm : j % 12 < 12 := Nat.mod_lt _ (by omega)
    rw [e_M_isAs_2]
    refine (ifn (nI_ge (a := j) (b := 120) hj (by omega))).trans ?_
    rw [show nI j - nI j / 12 * 12 = nI (j % 12) from pk_rem (d := 12) (by omega) (by omega) (by omega), h0]
    rw [show (!(decide ((12 : Nat) = 0))) = true from by decide, cond_true]
    by_cases c : j % 12 < I
    · refine (ifn (nI_ge c (by omega))).trans ?_
      have e1 := hs k (j / 12) (j % 12) hkn (by omega) c
      have e2 := ha.2.2 (j / 12) (j % 12) (by omega) c
      rw [hd] at e1 e2
      have b1 := rdW_ok (e := e) hv k (j / 12) (j % 12) (by omega) c
      have b2 := rdW_ok (e := e) hv n (j / 12) (j % 12) (by omega) c
      rw [show (120 : Int32) * nI k + nI j = nI (120 * k + j) from nI_xi 120 k j, in_nI (show j < 120 by omega) (by omega), in_nI (show 120 * k + j < 24120 by omega) (by omega), nI_cl (show j < 2 ^ 31 by omega), nI_cl (show 120 * k + j < 2 ^ 31 by omega), cond_true, cond_true, e1, e2, decide_eq_true c]
      by_cases d : rdW e Pr k (j / 12) (j % 12) = rdW e Pr n (j / 12) (j % 12)
      · refine (ifp (by rw [d])).trans ?_
        rw [e_M_isAs_41, nI_1, decide_eq_true d]
        rfl
      · refine (ifn (fun z => d ((nI_eq (by omega) (by omega)).mp z))).trans ?_
        rw [decide_eq_false d]
        rfl
    · refine (ifp (nI_le (by omega) (by omega))).trans ?_
      rw [e_M_isAs_41, nI_1, decide_eq_false c]
      rfl) 120 0 (by omega)
  rw [e_M_isAs]
  refine Eq.trans inner ?_
  unfold sTH sTHk
  by_cases c : ∀ b, b < 10 → ∀ i, i < I → TH e Pr (k + b) i = TH e Pr (n + b) i
  · have hA : ¬ anyF (fun j => decide (j % 12 < I) && !decide (rdW e Pr k (j / 12) (j % 12) = rdW e Pr n (j / 12) (j % 12))) 0 120 = true := by
      rw [anyF_iff]
      rintro ⟨o, _, o2, o3⟩
      simp only [Bool.and_eq_true, decide_eq_true_eq, Bool.not_eq_true', decide_eq_false_iff_not] at o3
      apply o3.2
      rw [TH_win _ _ k (o / 12) _ (by omega), TH_win _ _ n (o / 12) _ (by omega)]
      have := c (9 - o / 12) (by omega) (o % 12) o3.1
      rw [show 9 + k - o / 12 = k + (9 - o / 12) by omega, show 9 + n - o / 12 = n + (9 - o / 12) by omega]
      exact this
    rw [if_neg hA, decide_eq_true c]
    rfl
  · have hA : anyF (fun j => decide (j % 12 < I) && !decide (rdW e Pr k (j / 12) (j % 12) = rdW e Pr n (j / 12) (j % 12))) 0 120 = true := by
      rw [anyF_iff]
      apply Classical.byContradiction
      intro z
      apply c
      intro b hb i hi
      apply Classical.byContradiction
      intro y
      refine z ⟨12 * (9 - b) + i, Nat.zero_le _, by omega, ?_⟩
      have q1 : (12 * (9 - b) + i) / 12 = 9 - b := by omega
      have q2 : (12 * (9 - b) + i) % 12 = i := by omega
      rw [q1, q2, decide_eq_true hi, decide_eq_false]
      · rfl
      · rw [TH_win _ _ k (9 - b) _ (by omega), TH_win _ _ n (9 - b) _ (by omega), show 9 + k - (9 - b) = k + b by omega, show 9 + n - (9 - b) = n + b by omega]
        exact y
    rw [if_pos hA, decide_eq_false c]
    rfl
theorem se_23 (hI : I ≤ 12) (h0 : m.1 63 28 = nI I) (hv : vOK Pr I) {n : Nat} (hn0 : 1 ≤ n) (hn : n ≤ 200) (hs : stsM m e Pr I n) (ha : askM m I Wn wd (rdW e Pr n)) : ∀ k, k ≤ n → f_M_settling_23 (nI n) (nI k - 1) m = match srch (fun a => sTH e Pr I a n) n k with | some v => some (v, m) | none => (f_M_lays (nI n) m).bind (fun p1 => f_M_settling_7 (nI (n + 1)) p1) := by
  intro k
  induction k with
  | zero =>
    intro _
    rw [e_M_settling_23]
    refine (ifp (by decide)).trans ?_
    rw [nI_1]
    rfl
  | succ k ih =>
    intro hk
    have hs2 := s_isAs hI h0 hv (show k < n by omega) hn hs ha
    rw [nI_pred, e_M_settling_23]
    refine (ifn (nI_pos (by omega))).trans ?_
    rw [hs2, Option.bind_some]
    unfold srch
    cases hc : sTH e Pr I k n with
    | false =>
      refine (ifp (show bi false = 0 from rfl)).trans ?_
      rw [neg1, ih (by omega)]
      rfl
    | true =>
      refine (ifn (show ¬ bi true = 0 from ne10)).trans ?_
      have e1 : nI n - 1 = nI (n - 1) := by
        have := nI_pred (n - 1)
        rw [show n - 1 + 1 = n by omega] at this
        exact this
      by_cases c : k + 1 = n
      · refine (ifnp (by rw [e1, show k = n - 1 by omega])).trans ?_
        rw [e_M_settling_51]
        simp only [if_true]
        rw [if_pos c]
      · refine (ifnn (fun z => by rw [e1] at z; have := (nI_eq (by omega) (by omega)).mp z; omega)).trans ?_
        rw [e_M_settling_51]
        simp only [if_true]
        rw [if_neg c]
def wSt (a _ : Nat) : Prop := a = 85 ∨ a = 86 ∨ a = 87
theorem se_7 (h : mineM m T P D W A U L) (g : gMine T P D W A U L) (hi : itemsM m I S Gd Ow Sd Y) (gi : gItems P I S Gd Ow Sd Y) (ga : gAsk I Wn wd Pr) (he : e = mkE D A wd Ow Sd Gd Wn U P I) :
    ∀ (k n : Nat), n + k = 201 → 1 ≤ n → ∀ m1, sm wSt m m1 → askM m1 I Wn wd (rdW e Pr (n - 1)) → stsM m1 e Pr I n → (∀ j, j < 120 → m1.1 87 j = m.1 85 j) →
    ∃ m2, f_M_settling_7 (nI n) m1 = some (tot (sTH e Pr I) k n, m2) ∧ sm wSt m m2 ∧ (∀ j, j < 120 → m2.1 87 j = m.1 85 j) := by
  have hI := gi.1
  have hv : vOK Pr I := fun l i q1 q2 => ga.2.2.2 l i q1 q2
  intro k
  induction k with
  | zero =>
    intro n hk _ m1 hs ha hT hz
    have : n = 201 := by omega
    subst this
    refine ⟨m1, ?_, hs, hz⟩
    rw [e_M_settling_7]
    exact ifp (by decide)
  | succ k ih =>
    intro n hk hn m1 hs ha hT hz
    have h1 : mineM m1 T P D W A U L := mineM_sm h hs (by intro a k; unfold dMM wSt; omega)
    have hi1 : itemsM m1 I S Gd Ow Sd Y := itemsM_sm hi hs (by intro a k; unfold dIM wSt; omega)
    obtain ⟨m2, r1, r2, _, r4⟩ := s_goesRound h1 g hi1 gi ha (gAsk_rd ga e (n - 1)) he
    have r4' : askM m2 I Wn wd (rdW e Pr n) := by
      have q : rdW e Pr n = shW e (rdW e Pr (n - 1)) := by
        have : n = n - 1 + 1 := by omega
        rw [this]
        rfl
      rw [q]
      exact r4
    have hs2 : sm wSt m m2 := hs.tr (r2.mono (by unfold w856 wSt; omega))
    have hT2 : stsM m2 e Pr I n := fun k' l i q1 q2 q3 => (r2 87 _ (by unfold w856; omega)).1.trans (hT k' l i q1 q2 q3)
    have hz2 : ∀ j, j < 120 → m2.1 87 j = m.1 85 j := fun j hj => (r2 87 _ (by unfold w856; omega)).1.trans (hz j hj)
    have h02 : m2.1 63 28 = nI I := (hs2 63 28 (by unfold wSt; omega)).1.trans hi.1
    have f23 := se_23 hI h02 hv hn (show n ≤ 200 by omega) hT2 r4' n (Nat.le_refl n)
    have e0 : f_M_settling_7 (nI n) m1 = f_M_settling_23 (nI n) (nI n - 1) m2 := by
      rw [e_M_settling_7]
      refine (ifn (nI_nlt (a := 200) (b := n) (by omega) (by omega))).trans ?_
      rw [r1, Option.bind_some]
    rw [e0, f23]
    cases hc : srch (fun a => sTH e Pr I a n) n n with
    | some v =>
      refine ⟨m2, ?_, hs2, hz2⟩
      unfold tot
      rw [hc]
    | none =>
      obtain ⟨m4, q1, q2, q3⟩ := s_lays hI (show n ≤ 200 by omega) hT2 r4'
      obtain ⟨_, q1', _, q4⟩ := ly_2 (show n ≤ 200 by omega) 120 0 (by omega) m2
      have q5 : ∀ j, j < 120 → m4.1 87 j = m2.1 87 j := by
        intro j hj
        have e1 : f_M_lays (nI n) m2 = f_M_lays_2 (nI n) (nI 0) m2 := e_M_lays _ _
        rw [e1, q1'] at q1
        cases q1
        rw [q4 j, if_neg (by omega)]
      obtain ⟨m3, t1, t2⟩ := ih (n + 1) (by omega) (by omega) m4 (hs2.tr (q2.mono (by unfold w87 wSt; omega))) (by rw [show n + 1 - 1 = n by omega]; exact askM_sm r4' q2 (by intro a k; unfold dKM w87; omega)) q3 (fun j hj => (q5 j hj).trans (hz2 j hj))
      refine ⟨m3, ?_, t2⟩
      unfold tot
      rw [hc]
      show (f_M_lays (nI n) m2).bind _ = _
      rw [q1, Option.bind_some]
      exact t1
theorem se_12 (x : Int32) : ∀ (c j : Nat), j + c = 120 → ∀ m1, ∃ m2, f_M_settles_12 x (nI j) m1 = some (x, m2) ∧ sm (fun a _ => a = 85) m1 m2 ∧ (∀ i, i < 120 → m2.1 85 i = if j ≤ i then m1.1 87 i else m1.1 85 i) := by
  intro c
  induction c with
  | zero =>
    intro j hj m1
    have : j = 120 := by omega
    subst this
    refine ⟨m1, ?_, sm.rf, fun i hi => by rw [if_neg (by omega)]⟩
    rw [e_M_settles_12]
    exact ifp (by decide)
  | succ c ih =>
    intro j hj m1
    obtain ⟨m2, r1, r2, r3⟩ := ih (j + 1) (by omega) (jx_w1 m1 85 j (m1.1 87 j))
    refine ⟨m2, ?_, r2.pre rfl, fun i hi => ?_⟩
    · rw [← r1, e_M_settles_12]
      refine (ifn (nI_ge (a := j) (b := 120) (by omega) (by omega))).trans ?_
      rw [in_nI (show j < 24120 by omega) (by omega), in_nI (show j < 120 by omega) (by omega), nI_cl (show j < 2 ^ 31 by omega), nI_1]
      rfl
    · rw [r3 i hi, w1_cell (show 87 ≠ 85 by omega), w1_rd]
      by_cases q : j + 1 ≤ i
      · rw [if_pos q, if_pos (by omega)]
      · rw [if_neg q]
        by_cases z : i = j
        · rw [if_pos ⟨rfl, z⟩, if_pos (by omega), z]
        · rw [if_neg (fun y => z y.2), if_neg (by omega)]
def wSeM (a k : Nat) : Prop := a = 85 ∨ a = 86 ∨ a = 87 ∨ (a = 63 ∧ k = 0)
theorem M_settles (h : mineM m T P D W A U L) (g : gMine T P D W A U L) (hi : itemsM m I S Gd Ow Sd Y) (gi : gItems P I S Gd Ow Sd Y) (ha : askM m I Wn wd Pr) (ga : gAsk I Wn wd Pr) : ∃ m', sm wSeM m m' ∧ f_M_settles m = some (tot (sTH (mkE D A wd Ow Sd Gd Wn U P I) Pr I) 200 1, m') ∧ askM m' I Wn wd Pr := by
  have hI := gi.1
  have h1 := mineM_th h (v := 0)
  have hi1 := itemsM_th hi (v := 0)
  have ha1 := askM_th ha (v := 0)
  have s1 : sm wSeM m (jx_w1 m 63 0 0) := sm_w1 (by unfold wSeM; omega)
  obtain ⟨m2, q1, q2, q3⟩ := s_lays (e := mkE D A wd Ow Sd Gd Wn U P I) (Pr := Pr) hI (show 0 ≤ 200 by omega) (fun k' l i q1 _ _ => absurd q1 (Nat.not_lt_zero k')) ha1
  obtain ⟨_, q1', _, q4⟩ := ly_2 (show 0 ≤ 200 by omega) 120 0 (by omega) (jx_w1 m 63 0 0)
  have q5 : ∀ j, j < 120 → m2.1 87 j = (jx_w1 m 63 0 0).1 85 j := by
    intro j hj
    have e1 : f_M_lays (nI 0) (jx_w1 m 63 0 0) = f_M_lays_2 (nI 0) (nI 0) (jx_w1 m 63 0 0) := e_M_lays _ _
    rw [e1, q1'] at q1
    cases q1
    rw [q4 j, if_pos (by omega), show j - 120 * 0 = j by omega]
  have ha2 : askM m2 I Wn wd Pr := askM_sm ha1 q2 (by intro a k; unfold dKM w87; omega)
  obtain ⟨m3, t1, t2, t3⟩ := se_7 h1 g hi1 gi ga rfl 200 1 (by omega) (by omega) m2 (q2.mono (by unfold w87 wSt; omega)) ha2 q3 q5
  obtain ⟨m4, u1, u2, u3⟩ := se_12 (tot (sTH (mkE D A wd Ow Sd Gd Wn U P I) Pr I) 200 1) 120 0 (by omega) m3
  have s4 : sm wSeM m m4 := s1.tr ((t2.mono (by unfold wSt wSeM; omega)).tr (u2.mono (by unfold wSeM; omega)))
  refine ⟨m4, s4, ?_, ?_, ?_, ?_⟩
  · rw [e_M_settles]
    try dsimp only
    rw [e_M_settling]
    show ((f_M_lays (nI 0) (jx_w1 m 63 0 0)).bind (fun p1 => f_M_settling_7 (nI 1) p1)).bind _ = _
    rw [q1, Option.bind_some, t1, Option.bind_some]
    exact u1
  · exact (s4 63 34 (by unfold wSeM; omega)).1.trans ha.1
  · intro p q hp hq
    exact (s4 81 _ (by unfold wSeM; omega)).1.trans (ha.2.1 p q hp hq)
  · intro r i hr hi'
    rw [u3 _ (by omega), if_pos (Nat.zero_le _), t3 _ (by omega)]
    exact ha1.2.2 r i hr hi'
end ROUNDSM
