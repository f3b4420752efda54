/-! a round, by the model; rounds -/
section ROUNDM
variable {m m' : jx_Mem} {T P : Nat} {D : Nat → Nat → Nat} {W A U L : Nat → Nat}
variable {I S : Nat} {Gd Ow : Nat → Nat} {Sd : Nat → Bool} {Y : Nat → Nat → Nat} {Wn : Nat → Nat → Nat} {wd : Nat} {V Pr : Nat → Nat → Nat} {e : eTy}
theorem s_heardBy (h : mineM m T P D W A U L) (g : gMine T P D W A U L) (hi : itemsM m I S Gd Ow Sd Y) (gi : gItems P I S Gd Ow Sd Y) (ha : askM m I Wn wd V) (hw1 : 1 ≤ wd) (hw2 : wd ≤ 20) {p i : Nat} (hp : p < P) (hi2 : i < I) :
    f_M_heardBy (nI p) (nI i) m = some (if D (A (Ow i)) (A p) < 999 then nI (V (min 9 (D (A (Ow i)) (A p) / wd)) i) else -1, m) := by
  have hP := g.2.1
  have hI := gi.1
  have hO := (gi.2.2.1 i hi2).2
  have hA1 := (g.2.2.2.2.2 p hp).1
  have hA2 := (g.2.2.2.2.2 (Ow i) hO).1
  have hD := (g.2.2.1.2 (A (Ow i)) (A p) hA2 hA1).1
  have hq : D (A (Ow i)) (A p) / wd ≤ D (A (Ow i)) (A p) := Nat.div_le_self _ _
  rw [e_M_heardBy, in_nI (show i < 12 by omega) (by omega), nI_cl (show i < 2 ^ 31 by omega), cond_true, (hi.2.2.1 i hi2).2.1, in_nI (show Ow i < 8 by omega) (by omega), cond_true, in_nI (show p < 8 by omega) (by omega), cond_true, nI_cl (show Ow i < 2 ^ 31 by omega), nI_cl (show p < 2 ^ 31 by omega), (h.2.2.2.2 p hp).1, (h.2.2.2.2 (Ow i) hO).1, s_far h g.2.2.1 hA2 hA1, Option.bind_some]
  try dsimp only
  by_cases c : D (A (Ow i)) (A p) < 999
  · refine (ifnn (fun z => by have := (nI_eq (b := 999) (by omega) (by omega)).mp z; omega)).trans ?_
    rw [ha.1, decide_eq_false (nI_ne0 (by omega) (by omega)), pk_div (by omega) (by omega) (by omega), show jx_mn 9 (nI (D (A (Ow i)) (A p) / wd)) = nI (min 9 (D (A (Ow i)) (A p) / wd)) from mn_nI (a := 9) (by omega) (by omega), xi12, in_nI (show 12 * min 9 (D (A (Ow i)) (A p) / wd) + i < 120 by omega) (by omega), nI_cl (show 12 * min 9 (D (A (Ow i)) (A p) / wd) + i < 2 ^ 31 by omega), ha.2.2 _ i (by omega) hi2, if_pos c]
    show f_M_heardBy_54 _ _ = _
    rw [e_M_heardBy_54]
  · refine (ifnp (by rw [show D (A (Ow i)) (A p) = 999 by omega]; rfl)).trans ?_
    rw [e_M_heardBy_54, if_neg c]
theorem s_asksFor (h : mineM m T P D W A U L) (g : gMine T P D W A U L) (hi : itemsM m I S Gd Ow Sd Y) (gi : gItems P I S Gd Ow Sd Y) (ha : askM m I Wn wd V) (ga : gAsk I Wn wd V) {p : Nat} (hp : p < P) :
    f_M_asksFor (nI p) m = some (oI (cho (mkE D A wd Ow Sd Gd Wn U P I) V p), m) := by
  have hP := g.2.1
  have hI := gi.1
  have hU := (g.2.2.2.2.2 p hp).2.1
  have hwn : ∀ i, i < I → (mkE D A wd Ow Sd Gd Wn U P I).2.1 p i ≤ 99 := fun i hi' => ga.1 p (Gd i) (by omega) (gi.2.2.1 i hi').1
  have key := lp_up (fun j (x : Option Nat × Nat) => f_M_asksFor_7 (nI p) (oI x.1) (nI x.2) j m) (chE (mkE D A wd Ow Sd Gd Wn U P I) V p) I (by
    intro n hn
    have hq := (gi.2.2.1 n hn).1
    have hO := (gi.2.2.1 n hn).2
    have hw : Wn p (Gd n) ≤ 99 := hwn n hn
    have hb := chE_bd (e := mkE D A wd Ow Sd Gd Wn U P I) (V := V) (p := p) n (fun i hi' => hwn i (by omega))
    obtain ⟨b82, b83, b84⟩ := hi.2.2.1 n hn
    have cn : jx_in (nI n) 12 = true := in_nI (show n < 12 by omega) (by omega)
    have kn : (nI n).toNatClampNeg = n := nI_cl (show n < 2 ^ 31 by omega)
    have c80 : jx_in (nI (10 * p + Gd n)) 80 = true := in_nI (show 10 * p + Gd n < 80 by omega) (by omega)
    have k80 : (nI (10 * p + Gd n)).toNatClampNeg = 10 * p + Gd n := nI_cl (show 10 * p + Gd n < 2 ^ 31 by omega)
    have cp : jx_in (nI p) 8 = true := in_nI (show p < 8 by omega) (by omega)
    have kp : (nI p).toNatClampNeg = p := nI_cl (show p < 2 ^ 31 by omega)
    have skip : f_M_asksFor_37 (nI p) (oI (chE (mkE D A wd Ow Sd Gd Wn U P I) V p n).1) (nI (chE (mkE D A wd Ow Sd Gd Wn U P I) V p n).2) (nI n) m = f_M_asksFor_7 (nI p) (oI (chE (mkE D A wd Ow Sd Gd Wn U P I) V p n).1) (nI (chE (mkE D A wd Ow Sd Gd Wn U P I) V p n).2) (nI (n + 1)) m := by
      rw [e_M_asksFor_37, e_M_asksFor_48, cn, kn, b82, xi10, c80, cond_true, cond_true]
      refine (ifp (by decide)).trans ?_
      rw [e_M_asksFor_109, nI_1]
    try dsimp only
    rw [e_M_asksFor_7, hi.1]
    refine (ifn (nI_ge (a := n) (b := I) hn (by omega))).trans ?_
    rw [cn, kn, cond_true, cond_true, b84, b83]
    cases hs : Sd n with
    | true =>
      have hc : lat D A wd Ow Sd p n = none := by unfold lat; rw [if_pos (Or.inl hs)]
      refine (ifnn (show ¬ bi true = 0 from ne10)).trans ?_
      rw [skip, chE_none hc]
    | false =>
      refine (ifnp (show bi false = 0 from rfl)).trans ?_
      by_cases c : Ow n = p
      · have hc : lat D A wd Ow Sd p n = none := by unfold lat; rw [if_pos (Or.inr (Or.inl c))]
        refine (ifnp (by rw [c])).trans ?_
        rw [skip, chE_none hc]
      · refine (ifnn (fun z => c ((nI_eq (by omega) (by omega)).mp z))).trans ?_
        rw [s_heardBy h g hi gi ha ga.2.1 ga.2.2.1 hp hn, Option.bind_some]
        try dsimp only
        by_cases d : D (A (Ow n)) (A p) < 999
        · have hc : lat D A wd Ow Sd p n = some (min 9 (D (A (Ow n)) (A p) / wd)) := by unfold lat; rw [if_neg (by simp [hs, c, d])]
          have hcs := chE_some (e := mkE D A wd Ow Sd Gd Wn U P I) (V := V) hc
          change chE (mkE D A wd Ow Sd Gd Wn U P I) V p (n + 1) = if V (min 9 (D (A (Ow n)) (A p) / wd)) n ≤ Wn p (Gd n) ∧ V (min 9 (D (A (Ow n)) (A p) / wd)) n ≤ U p ∧ ((chE (mkE D A wd Ow Sd Gd Wn U P I) V p n).1 = none ∨ (chE (mkE D A wd Ow Sd Gd Wn U P I) V p n).2 < Wn p (Gd n) - V (min 9 (D (A (Ow n)) (A p) / wd)) n) then (some n, Wn p (Gd n) - V (min 9 (D (A (Ow n)) (A p) / wd)) n) else chE (mkE D A wd Ow Sd Gd Wn U P I) V p n at hcs
          have h99 := ga.2.2.2 (min 9 (D (A (Ow n)) (A p) / wd)) n (by omega) hn
          rw [if_pos d, hcs]
          generalize V (min 9 (D (A (Ow n)) (A p) / wd)) n = pr at h99 ⊢
          rw [e_M_asksFor_48, cn, kn, b82, xi10, c80, k80, cond_true, cond_true]
          refine (ifn (nI_pos (by omega))).trans ?_
          rw [cp, kp, cond_true, (h.2.2.2.2 p hp).2.1, ha.2.1 p (Gd n) (by omega) hq]
          by_cases c2 : pr ≤ U p
          · refine (ifn (nI_nlt c2 (by omega))).trans ?_
            by_cases c1 : pr ≤ Wn p (Gd n)
            · rw [pk_sub c1]
              refine (ifn (nI_pos (by omega))).trans ?_
              cases hr : (chE (mkE D A wd Ow Sd Gd Wn U P I) V p n).1 with
              | none =>
                refine (ifp (by decide)).trans ?_
                rw [if_pos ⟨c1, c2, Or.inl rfl⟩, e_M_asksFor_103, e_M_asksFor_109, nI_1]
                rfl
              | some q =>
                have hq2 := chE_lt n q hr
                refine (ifn (nI_pos (show q < 2 ^ 31 by omega))).trans ?_
                by_cases c3 : (chE (mkE D A wd Ow Sd Gd Wn U P I) V p n).2 < Wn p (Gd n) - pr
                · refine (ifn (nI_ge c3 (by omega))).trans ?_
                  rw [if_pos ⟨c1, c2, Or.inr c3⟩, e_M_asksFor_103, e_M_asksFor_109, nI_1]
                  rfl
                · refine (ifp (nI_le (by omega) (by omega))).trans ?_
                  rw [if_neg (fun z => by rcases z.2.2 with y | y; cases y; exact c3 y), e_M_asksFor_109, nI_1, hr]
            · refine (ifp (pk_sneg (by omega) (by omega))).trans ?_
              rw [if_neg (fun z => c1 z.1), e_M_asksFor_109, nI_1]
          · refine (ifp (nI_lt (by omega) (by omega))).trans ?_
            rw [if_neg (fun z => c2 z.2.1), e_M_asksFor_109, nI_1]
        · have hc : lat D A wd Ow Sd p n = none := by unfold lat; rw [if_pos (Or.inr (Or.inr d))]
          rw [if_neg d, ← e_M_asksFor_37, skip, chE_none hc]) 0 (Nat.zero_le _)
  rw [e_M_asksFor]
  refine Eq.trans (b := f_M_asksFor_7 (nI p) (oI (chE (mkE D A wd Ow Sd Gd Wn U P I) V p I).1) (nI (chE (mkE D A wd Ow Sd Gd Wn U P I) V p I).2) (nI I) m) key ?_
  rw [e_M_asksFor_7, hi.1]
  exact ifp (nI_le (Nat.le_refl _) (by omega))
def w86 (a _ : Nat) : Prop := a = 86
def w856 (a _ : Nat) : Prop := a = 85 ∨ a = 86
theorem gr_2 (hI : I ≤ 12) : ∀ (k n : Nat), n + k = I → ∀ m1, m1.1 63 28 = nI I → (∀ i, i < n → m1.1 86 i = 0) → ∃ m2, f_M_goesRound_2 (nI n) m1 = f_M_goesRound_25 0 m2 ∧ sm w86 m1 m2 ∧ ∀ i, i < I → m2.1 86 i = 0 := by
  intro k
  induction k with
  | zero =>
    intro n hk m1 h0 hz
    refine ⟨m1, ?_, sm.rf, fun i hi => hz i (by omega)⟩
    rw [e_M_goesRound_2, h0]
    exact ifp (nI_le (by omega) (by omega))
  | succ k ih =>
    intro n hk m1 h0 hz
    obtain ⟨m2, r1, r2, r3⟩ := ih (n + 1) (by omega) (jx_w1 m1 86 n 0) (by rw [w1_cell (by omega)]; exact h0) (by
      intro i hi
      rw [w1_rd]
      by_cases c : i = n
      · rw [if_pos ⟨rfl, c⟩]
      · rw [if_neg (fun z => c z.2)]; exact hz i (by omega))
    refine ⟨m2, ?_, r2.pre rfl, r3⟩
    rw [← r1, e_M_goesRound_2, h0]
    refine (ifn (nI_ge (a := n) (b := I) (by omega) (by omega))).trans ?_
    rw [in_nI (show n < 12 by omega) (by omega), nI_cl (by omega), nI_1]
    rfl
theorem gr_25 (h : mineM m T P D W A U L) (g : gMine T P D W A U L) (hi : itemsM m I S Gd Ow Sd Y) (gi : gItems P I S Gd Ow Sd Y) (ha : askM m I Wn wd V) (ga : gAsk I Wn wd V) :
    ∀ (k n : Nat), n + k = P → ∀ m1, sm w86 m m1 → (∀ i, i < I → m1.1 86 i = nI (bs (akB (mkE D A wd Ow Sd Gd Wn U P I) V i) n)) →
    ∃ m2, f_M_goesRound_25 (nI n) m1 = f_M_goesRound_64 9 m2 ∧ sm w86 m m2 ∧ ∀ i, i < I → m2.1 86 i = nI (bs (akB (mkE D A wd Ow Sd Gd Wn U P I) V i) P) := by
  have hP := g.2.1
  have hI := gi.1
  intro k
  induction k with
  | zero =>
    intro n hk m1 hs hb
    have hn : n = P := by omega
    subst hn
    have h1 : mineM m1 T n D W A U L := mineM_sm h hs (by intro a k; unfold dMM w86; omega)
    refine ⟨m1, ?_, hs, hb⟩
    rw [e_M_goesRound_25, h1.2.1]
    exact ifp (nI_le (by omega) (by omega))
  | succ k ih =>
    intro n hk m1 hs hb
    have hn : n < P := by omega
    have h1 : mineM m1 T P D W A U L := mineM_sm h hs (by intro a k; unfold dMM w86; omega)
    have hi1 : itemsM m1 I S Gd Ow Sd Y := itemsM_sm hi hs (by intro a k; unfold dIM w86; omega)
    have ha1 : askM m1 I Wn wd V := askM_sm ha hs (by intro a k; unfold dKM w86; omega)
    have hc := s_asksFor h1 g hi1 gi ha1 ga hn
    rw [e_M_goesRound_25, h1.2.1]
    have e0 : ∀ X Y : Option (Int32 × jx_Mem), (if decide (nI P ≤ nI n) = true then X else Y) = Y := fun X Y => ifn (nI_ge (a := n) (b := P) hn (by omega))
    rw [e0, hc, Option.bind_some]
    try dsimp only
    cases hq : cho (mkE D A wd Ow Sd Gd Wn U P I) V n with
    | none =>
      obtain ⟨m2, r1, r2, r3⟩ := ih (n + 1) (by omega) m1 hs (fun i hi' => by rw [hb i hi']; exact bs_f (akB_none hq i))
      refine ⟨m2, ?_, r2, r3⟩
      rw [← r1]
      refine (ifp (by decide)).trans ?_
      rw [e_M_goesRound_55, nI_1]
    | some q =>
      have hqI : q < I := cho_lt hq
      obtain ⟨m2, r1, r2, r3⟩ := ih (n + 1) (by omega) (jx_w1 m1 86 q (nI (bs (akB (mkE D A wd Ow Sd Gd Wn U P I) V q) (n + 1)))) (hs.w1 rfl) (by
        intro i hi'
        rw [w1_rd]
        by_cases c : i = q
        · rw [if_pos ⟨rfl, c⟩, c]
        · rw [if_neg (fun z => c z.2), hb i hi']
          exact bs_f (by rw [akB_some hq i]; simp; omega))
      refine ⟨m2, ?_, r2, r3⟩
      rw [← r1]
      refine (ifn (nI_pos (show q < 2 ^ 31 by omega))).trans ?_
      show (bif jx_in (nI q) 12 then _ else none) = _
      rw [show (oI (some q)) = nI q from rfl, in_nI (show q < 12 by omega) (by omega), nI_cl (show q < 2 ^ 31 by omega), hb q hqI, or_bs_t (by omega) (by rw [akB_some hq q]; simp)]
      show f_M_goesRound_55 _ _ = _
      rw [e_M_goesRound_55, nI_1]
/-- rows behind k are shifted; of row k the first j -/
def shR (V : Nat → Nat → Nat) (k j l i : Nat) : Nat := if k < l ∨ (l = k ∧ i < j) then V (l - 1) i else V l i
theorem gr_70 (hI : I ≤ 12) {k : Nat} (hk1 : 1 ≤ k) (hk : k ≤ 9) : ∀ (c j : Nat), j + c = I → ∀ m1, m1.1 63 28 = nI I → (∀ l i, l < 10 → i < I → m1.1 85 (12 * l + i) = nI (shR V k j l i)) →
    ∃ m2, f_M_goesRound_70 (nI k) (nI j) m1 = f_M_goesRound_64 (nI (k - 1)) m2 ∧ sm (fun a _ => a = 85) m1 m2 ∧ (∀ l i, l < 10 → i < I → m2.1 85 (12 * l + i) = nI (shR V (k - 1) 0 l i)) := by
  intro c
  induction c with
  | zero =>
    intro j hj m1 h0 hx
    refine ⟨m1, ?_, sm.rf, fun l i hl hi => ?_⟩
    · rw [e_M_goesRound_70, h0]
      refine (ifp (nI_le (by omega) (by omega))).trans ?_
      rw [show nI k + (-1) = nI (k - 1) by have := pk_m1 (k - 1); rw [show k - 1 + 1 = k by omega] at this; exact this]
    · rw [hx l i hl hi]
      unfold shR
      by_cases q : k < l ∨ (l = k ∧ i < j)
      · rw [if_pos q, if_pos (by omega)]
      · rw [if_neg q, if_neg (by omega)]
  | succ c ih =>
    intro j hj m1 h0 hx
    obtain ⟨m2, r1, r2, r3⟩ := ih (j + 1) (by omega) (jx_w1 m1 85 (12 * k + j) (nI (V (k - 1) j))) (by rw [w1_cell (by omega)]; exact h0) (by
      intro l i hl hi
      rw [w1_rd]
      unfold shR
      by_cases q : l = k ∧ i = j
      · rw [if_pos ⟨rfl, by omega⟩, if_pos (by omega), q.1, q.2]
      · rw [if_neg (by omega), hx l i hl hi]
        unfold shR
        by_cases z : k < l ∨ (l = k ∧ i < j)
        · rw [if_pos z, if_pos (by omega)]
        · rw [if_neg z, if_neg (by omega)])
    refine ⟨m2, ?_, r2.pre rfl, r3⟩
    have e1 : nI k - 1 = nI (k - 1) := by
      have := nI_pred (k - 1)
      rw [show k - 1 + 1 = k by omega] at this
      exact this
    have e2 : m1.1 85 (12 * (k - 1) + j) = nI (V (k - 1) j) := by
      rw [hx (k - 1) j (by omega) (by omega)]
      unfold shR
      rw [if_neg (by omega)]
    rw [← r1, e_M_goesRound_70, h0]
    refine (ifn (nI_ge (a := j) (b := I) (by omega) (by omega))).trans ?_
    rw [e1, xi12, xi12, in_nI (show 12 * (k - 1) + j < 120 by omega) (by omega), in_nI (show 12 * k + j < 120 by omega) (by omega), nI_cl (show 12 * (k - 1) + j < 2 ^ 31 by omega), nI_cl (show 12 * k + j < 2 ^ 31 by omega), e2, nI_1]
    rfl
theorem gr_64 (hI : I ≤ 12) : ∀ k, k ≤ 9 → ∀ m1, m1.1 63 28 = nI I → (∀ l i, l < 10 → i < I → m1.1 85 (12 * l + i) = nI (shR V k 0 l i)) →
    ∃ m2, f_M_goesRound_64 (nI k) m1 = f_M_goesRound_118 0 0 m2 ∧ sm (fun a _ => a = 85) m1 m2 ∧ (∀ l i, l < 10 → i < I → m2.1 85 (12 * l + i) = nI (if l = 0 then V 0 i else V (l - 1) i)) := by
  intro k
  induction k with
  | zero =>
    intro _ m1 h0 hx
    refine ⟨m1, ?_, sm.rf, fun l i hl hi => ?_⟩
    · rw [e_M_goesRound_64]
      exact ifp (by decide)
    · rw [hx l i hl hi]
      unfold shR
      by_cases q : l = 0
      · rw [if_neg (by omega), if_pos q, q]
      · rw [if_pos (by omega), if_neg q]
  | succ k ih =>
    intro hk m1 h0 hx
    obtain ⟨m2, r1, r2, r3⟩ := gr_70 hI (show 1 ≤ k + 1 by omega) hk I 0 (by omega) m1 h0 hx
    obtain ⟨m3, t1, t2, t3⟩ := ih (by omega) m2 ((r2 63 28 (by omega)).1.trans h0) r3
    refine ⟨m3, ?_, r2.tr t2, t3⟩
    rw [← t1, e_M_goesRound_64]
    refine (ifn (nI_ge (a := 0) (b := k + 1) (by omega) (by omega))).trans ?_
    exact r1
theorem gr_118 (hI : I ≤ 12) (hv : vOK V I) (hS : ∀ i, i < I → m.1 84 i = bi (Sd i)) (h0 : m.1 63 28 = nI I) (hb : ∀ i, i < I → m.1 86 i = nI (bs (akB e V i) e.2.2.2.2.1)) (heS : e.2.2.2.1 = Sd) :
    ∀ (k n : Nat), n + k = I → ∀ m1, sm (fun a _ => a = 85) m m1 → (∀ l i, l < 10 → i < I → m1.1 85 (12 * l + i) = nI (if l = 0 then (if i < n then nxP e V i else V 0 i) else V (l - 1) i)) →
    ∃ m2, f_M_goesRound_118 (nI (fb_ct (fun i => !decide (nxP e V i = V 0 i)) n)) (nI n) m1 = some (nI (fb_ct (fun i => !decide (nxP e V i = V 0 i)) I), m2) ∧ sm (fun a _ => a = 85) m m2 ∧ (∀ l i, l < 10 → i < I → m2.1 85 (12 * l + i) = nI (shW e V l i)) := by
  have fl : ∀ (v : Int32) (q : jx_Mem), (v = 0 ∨ v = 1) → f_M_flag v q = some (v, q) := by
    intro v q hv
    rw [e_M_flag]
    rcases hv with rfl | rfl
    · exact (ifp eq00).trans (e_M_flag_9 _ _)
    · exact (ifn ne10).trans (e_M_flag_9 _ _)
  intro k
  induction k with
  | zero =>
    intro n hk m1 hs hx
    have hn : n = I := by omega
    subst hn
    refine ⟨m1, ?_, hs, fun l i hl hi => ?_⟩
    · rw [e_M_goesRound_118, (hs 63 28 (by omega)).1, h0]
      exact ifp (nI_le (Nat.le_refl _) (by omega))
    · rw [hx l i hl hi, if_pos hi]
      rfl
  | succ k ih =>
    intro n hk m1 hs hx
    have hn : n < I := by omega
    have h99 := hv 0 n (by omega) hn
    have hN : nxP e V n ≤ 99 := nxP_le h99
    have a85 : m1.1 85 n = nI (V 0 n) := by
      have := hx 0 n (by omega) hn
      rw [Nat.mul_zero, Nat.zero_add, if_pos rfl, if_neg (by omega)] at this
      exact this
    have a84 : m1.1 84 n = bi (Sd n) := (hs 84 n (by omega)).1.trans (hS n hn)
    have a86 : m1.1 86 n = nI (bs (akB e V n) e.2.2.2.2.1) := (hs 86 n (by omega)).1.trans (hb n hn)
    obtain ⟨m2, r1, r2, r3⟩ := ih (n + 1) (by omega) (jx_w1 m1 85 n (nI (nxP e V n))) (hs.w1 rfl) (by
      intro l i hl hi
      rw [w1_rd]
      by_cases q : l = 0 ∧ i = n
      · rw [if_pos ⟨rfl, by omega⟩, if_pos q.1, if_pos (by omega), q.2]
      · rw [if_neg (by omega), hx l i hl hi]
        by_cases z : l = 0
        · rw [if_pos z, if_pos z]
          by_cases y : i < n
          · rw [if_pos y, if_pos (by omega)]
          · rw [if_neg y, if_neg (by omega)]
        · rw [if_neg z, if_neg z])
    refine ⟨m2, ?_, r2, r3⟩
    have f186 : f_M_goesRound_186 (nI (fb_ct (fun i => !decide (nxP e V i = V 0 i)) n)) (nI n) (nI (V 0 n)) (nI (nxP e V n)) m1 = f_M_goesRound_118 (nI (fb_ct (fun i => !decide (nxP e V i = V 0 i)) (n + 1))) (nI (n + 1)) (jx_w1 m1 85 n (nI (nxP e V n))) := by
      rw [e_M_goesRound_186, in_nI (show n < 120 by omega) (by omega), nI_cl (show n < 2 ^ 31 by omega)]
      try dsimp only
      rw [fb_ct_succ]
      by_cases c : nxP e V n = V 0 n
      · refine (ifp (by rw [c])).trans ?_
        rw [e_M_goesRound_208, fl 0 _ (Or.inl rfl), Option.bind_some, nI_1, decide_eq_true c]
        try dsimp only
        rw [Int32.add_zero]
        rfl
      · refine (ifn (fun z => c ((nI_eq (by omega) (by omega)).mp z))).trans ?_
        rw [e_M_goesRound_208, fl 1 _ (Or.inr rfl), Option.bind_some, nI_1, decide_eq_false c]
        try dsimp only
        rw [nI_1]
        rfl
    have eN : nxP e V n = if Sd n = true then V 0 n else nxv (V 0 n) (bc (nI (bs (akB e V n) e.2.2.2.2.1))) := by
      unfold nxP
      rw [heS]
    rw [← r1, ← f186, e_M_goesRound_118, (hs 63 28 (by omega)).1, h0]
    refine (ifn (nI_ge (a := n) (b := I) hn (by omega))).trans ?_
    rw [in_nI (show n < 120 by omega) (by omega), in_nI (show n < 12 by omega) (by omega), nI_cl (show n < 2 ^ 31 by omega), cond_true, cond_true, a85, a86, s_bc, Option.bind_some]
    try dsimp only
    rw [cond_true, a84]
    cases hs2 : Sd n with
    | true =>
      refine (ifnn (show ¬ bi true = 0 from ne10)).trans ?_
      rw [e_M_goesRound_159, eN, if_pos hs2]
    | false =>
      refine (ifnp (show bi false = 0 from rfl)).trans ?_
      rw [if_neg (show ¬ Sd n = true by rw [hs2]; decide)] at eN
      rw [eN]
      unfold nxv
      by_cases c1 : bc (nI (bs (akB e V n) e.2.2.2.2.1)) = 1
      · refine (ifnp c1).trans ?_
        rw [e_M_goesRound_159, if_neg (by rw [c1]; decide), if_pos c1]
      · refine (ifnn c1).trans ?_
        by_cases c0 : bc (nI (bs (akB e V n) e.2.2.2.2.1)) = 0
        · refine (ifnp c0).trans ?_
          rw [if_pos c0, mx_pred _ (by omega)]
        · refine (ifnn c0).trans ?_
          rw [if_neg c0, if_neg c1, nI_1, show jx_mn 99 (nI (V 0 n + 1)) = nI (min 99 (V 0 n + 1)) from mn_nI (a := 99) (by omega) (by omega)]
theorem s_goesRound (h : mineM m T P D W A U L) (g : gMine T P D W A U L) (hi : itemsM m I S Gd Ow Sd Y) (gi : gItems P I S Gd Ow Sd Y) (ha : askM m I Wn wd V) (ga : gAsk I Wn wd V) (he : e = mkE D A wd Ow Sd Gd Wn U P I) :
    ∃ m', f_M_goesRound m = some (nI (chg e V), m') ∧ sm w856 m m' ∧ (∀ i, i < I → m'.1 86 i = nI (bs (akB e V i) P)) ∧ askM m' I Wn wd (shW e V) := by
  have hP := g.2.1
  have hI := gi.1
  have hv : vOK V I := fun l i q1 q2 => ga.2.2.2 l i q1 q2
  obtain ⟨m1, a1, a2, a3⟩ := gr_2 hI I 0 (by omega) m hi.1 (fun i hi' => absurd hi' (Nat.not_lt_zero i))
  have h1 : mineM m1 T P D W A U L := mineM_sm h a2 (by intro a k; unfold dMM w86; omega)
  have hi1 : itemsM m1 I S Gd Ow Sd Y := itemsM_sm hi a2 (by intro a k; unfold dIM w86; omega)
  have ha1 : askM m1 I Wn wd V := askM_sm ha a2 (by intro a k; unfold dKM w86; omega)
  obtain ⟨m2, b1, b2, b3⟩ := gr_25 h1 g hi1 gi ha1 ga P 0 (by omega) m1 sm.rf (fun i hi' => a3 i hi')
  have hi2 : itemsM m2 I S Gd Ow Sd Y := itemsM_sm hi1 b2 (by intro a k; unfold dIM w86; omega)
  have ha2 : askM m2 I Wn wd V := askM_sm ha1 b2 (by intro a k; unfold dKM w86; omega)
  obtain ⟨m3, c1, c2, c3⟩ := gr_64 (V := V) hI 9 (Nat.le_refl _) m2 hi2.1 (fun l i hl hi' => by
    rw [ha2.2.2 l i hl hi']
    unfold shR
    rw [if_neg (by omega)])
  have hi3 : itemsM m3 I S Gd Ow Sd Y := itemsM_sm hi2 c2 (by intro a k; unfold dIM; omega)
  subst he
  obtain ⟨m4, d1, d2, d3⟩ := gr_118 (e := mkE D A wd Ow Sd Gd Wn U P I) hI hv (fun i hi' => (hi3.2.2.1 i hi').2.2) hi3.1 (fun i hi' => (c2 86 i (by omega)).1.trans (b3 i hi')) rfl I 0 (by omega) m3 sm.rf (fun l i hl hi' => by rw [c3 l i hl hi', if_neg (Nat.not_lt_zero i)])
  have hs4 : sm w856 m m4 := ((a2.tr b2).mono (by unfold w86 w856; omega)).tr ((c2.tr d2).mono (by unfold w856; omega))
  refine ⟨m4, ?_, hs4, ?_, ?_, ?_, d3⟩
  · rw [e_M_goesRound]
    refine Eq.trans (b := f_M_goesRound_25 0 m1) a1 ?_
    refine Eq.trans (b := f_M_goesRound_64 9 m2) b1 ?_
    exact Eq.trans (b := f_M_goesRound_118 0 0 m3) c1 d1
  · intro i hi'
    rw [(d2 86 i (by omega)).1, (c2 86 i (by omega)).1]
    exact b3 i hi'
  · exact (hs4 63 34 (by unfold w856; omega)).1.trans ha.1
  · intro p q hp hq
    exact (hs4 81 _ (by unfold w856; omega)).1.trans (ha.2.1 p q hp hq)
end ROUNDM
