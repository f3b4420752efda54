/-! rounds: what is heard, chosen, asked -/
def chs (hd : Nat → Option Nat) (w : Nat → Nat) (u : Nat) : Nat → Option Nat × Nat
  | 0 => (none, 0)
  | n + 1 => match hd n with
    | none => chs hd w u n
    | some pr => if pr ≤ w n ∧ pr ≤ u ∧ ((chs hd w u n).1 = none ∨ (chs hd w u n).2 < w n - pr) then (some n, w n - pr) else chs hd w u n
def lat (D : Nat → Nat → Nat) (A : Nat → Nat) (wd : Nat) (Ow : Nat → Nat) (Sd : Nat → Bool) (p i : Nat) : Option Nat :=
  if Sd i = true ∨ Ow i = p ∨ ¬ D (A (Ow i)) (A p) < 999 then none else some (min 9 (D (A (Ow i)) (A p) / wd))
abbrev eTy := (Nat → Nat → Option Nat) × (Nat → Nat → Nat) × (Nat → Nat) × (Nat → Bool) × Nat × Nat
def mkE (D : Nat → Nat → Nat) (A : Nat → Nat) (wd : Nat) (Ow : Nat → Nat) (Sd : Nat → Bool) (Gd : Nat → Nat) (Wn : Nat → Nat → Nat) (U : Nat → Nat) (P I : Nat) : eTy := (lat D A wd Ow Sd, fun p i => Wn p (Gd i), U, Sd, P, I)
def chE (e : eTy) (V : Nat → Nat → Nat) (p n : Nat) : Option Nat × Nat := chs (fun i => (e.1 p i).map (fun l => V l i)) (e.2.1 p) (e.2.2.1 p) n
def cho (e : eTy) (V : Nat → Nat → Nat) (p : Nat) : Option Nat := (chE e V p e.2.2.2.2.2).1
def akB (e : eTy) (V : Nat → Nat → Nat) (i : Nat) : Nat → Bool := fun p => decide (cho e V p = some i)
def nxv (v : Nat) (c : Int32) : Nat := if c = 0 then v - 1 else if c = 1 then v else min 99 (v + 1)
def nxP (e : eTy) (V : Nat → Nat → Nat) (i : Nat) : Nat := if e.2.2.2.1 i = true then V 0 i else nxv (V 0 i) (bc (nI (bs (akB e V i) e.2.2.2.2.1)))
def shW (e : eTy) (V : Nat → Nat → Nat) : Nat → Nat → Nat := fun l i => if l = 0 then nxP e V i else V (l - 1) i
def rdW (e : eTy) (V : Nat → Nat → Nat) : Nat → Nat → Nat → Nat
  | 0 => V
  | n + 1 => shW e (rdW e V n)
def chg (e : eTy) (V : Nat → Nat → Nat) : Nat := fb_ct (fun i => !decide (nxP e V i = V 0 i)) e.2.2.2.2.2
theorem chE_none {e : eTy} {V : Nat → Nat → Nat} {p n : Nat} (h : e.1 p n = none) : chE e V p (n + 1) = chE e V p n := by
  unfold chE
  rw [chs, h]
  rfl
theorem chE_some {e : eTy} {V : Nat → Nat → Nat} {p n l : Nat} (h : e.1 p n = some l) : chE e V p (n + 1) = if V l n ≤ e.2.1 p n ∧ V l n ≤ e.2.2.1 p ∧ ((chE e V p n).1 = none ∨ (chE e V p n).2 < e.2.1 p n - V l n) then (some n, e.2.1 p n - V l n) else chE e V p n := by
  unfold chE
  rw [chs, h]
  rfl
theorem chE_lt {e : eTy} {V : Nat → Nat → Nat} {p : Nat} : ∀ n q, (chE e V p n).1 = some q → q < n := by
  intro n
  induction n with
  | zero => intro q h; cases h
  | succ n ih =>
    intro q h
    cases hl : e.1 p n with
    | none => rw [chE_none hl] at h; have := ih q h; omega
    | some l =>
      rw [chE_some hl] at h
      split at h
      · cases h; omega
      · have := ih q h; omega
theorem chE_bd {e : eTy} {V : Nat → Nat → Nat} {p : Nat} : ∀ n, (∀ i, i < n → e.2.1 p i ≤ 99) → (chE e V p n).2 ≤ 99 := by
  intro n
  induction n with
  | zero => intro _; exact Nat.zero_le _
  | succ n ih =>
    intro hw
    have h1 := ih (fun i hi => hw i (by omega))
    have h2 := hw n (by omega)
    cases hl : e.1 p n with
    | none => rw [chE_none hl]; exact h1
    | some l =>
      rw [chE_some hl]
      split
      · show e.2.1 p n - V l n ≤ 99; omega
      · exact h1
theorem nxv_le {v : Nat} (c : Int32) (h : v ≤ 99) : nxv v c ≤ 99 := by
  unfold nxv
  split
  · omega
  · split
    · exact h
    · omega
theorem nxP_le {e : eTy} {V : Nat → Nat → Nat} {i : Nat} (h : V 0 i ≤ 99) : nxP e V i ≤ 99 := by
  unfold nxP
  split
  · exact h
  · exact nxv_le _ h
def vOK (V : Nat → Nat → Nat) (I : Nat) : Prop := ∀ l i, l < 10 → i < I → V l i ≤ 99
theorem shW_ok {e : eTy} {V : Nat → Nat → Nat} {I : Nat} (h : vOK V I) : vOK (shW e V) I := by
  intro l i hl hi
  unfold shW
  split
  · exact nxP_le (h 0 i (by omega) hi)
  · exact h (l - 1) i (by omega) hi
theorem rdW_ok {e : eTy} {V : Nat → Nat → Nat} {I : Nat} (h : vOK V I) : ∀ n, vOK (rdW e V n) I := by
  intro n
  induction n with
  | zero => exact h
  | succ n ih => exact shW_ok ih
/-- a choice looks at the first ten rows of its window, and at the first I of each -/
theorem cho_congr {e : eTy} {V V' : Nat → Nat → Nat} (hl : ∀ p i l, e.1 p i = some l → l < 10) (h : ∀ l i, l < 10 → i < e.2.2.2.2.2 → V l i = V' l i) (p : Nat) : cho e V p = cho e V' p := by
  have key : ∀ n, n ≤ e.2.2.2.2.2 → chE e V p n = chE e V' p n := by
    intro n
    induction n with
    | zero => intro _; rfl
    | succ n ih =>
      intro hn
      have h1 := ih (by omega)
      cases he : e.1 p n with
      | none => rw [chE_none he, chE_none he, h1]
      | some l => rw [chE_some he, chE_some he, h1, h l n (hl p n l he) (by omega)]
  unfold cho
  rw [key _ (Nat.le_refl _)]
theorem mkE_l {D : Nat → Nat → Nat} {A : Nat → Nat} {wd : Nat} {Ow : Nat → Nat} {Sd : Nat → Bool} {Gd : Nat → Nat} {Wn : Nat → Nat → Nat} {U : Nat → Nat} {P I : Nat} (p i l : Nat) (h : (mkE D A wd Ow Sd Gd Wn U P I).1 p i = some l) : l < 10 := by
  change lat D A wd Ow Sd p i = some l at h
  unfold lat at h
  split at h
  · cases h
  · cases h; omega
theorem mx_pred (v : Nat) (hv : v < 2 ^ 31) : jx_mx 0 (nI v - 1) = nI (v - 1) := by
  cases v with
  | zero => decide
  | succ n =>
    rw [nI_pred]
    have := mx_nI (a := 0) (b := n) (by omega) (by omega)
    rw [Nat.zero_max] at this
    exact this
section ASK
variable {m m' : jx_Mem} {T P : Nat} {D : Nat → Nat → Nat} {W A U L : Nat → Nat}
variable {I S : Nat} {Gd Ow : Nat → Nat} {Sd : Nat → Bool} {Y : Nat → Nat → Nat} {Wn : Nat → Nat → Nat} {wd : Nat} {Pr : Nat → Nat → Nat}
theorem s_next (c : Int32) {v : Nat} (hv : v ≤ 99) : f_Asking_nextPrice (nI v) c m = some (nI (nxv v c), m) := by
  rw [e_Asking_nextPrice]
  unfold nxv
  by_cases c0 : c = 0
  · refine (ifnp c0).trans ?_
    rw [if_pos c0, mx_pred v (by omega)]
  · refine (ifnn c0).trans ?_
    rw [if_neg c0]
    by_cases c1 : c = 1
    · refine (ifnp c1).trans ?_
      rw [if_pos c1, e_Asking_nextPrice_29]
    · refine (ifnn c1).trans ?_
      rw [if_neg c1, e_Asking_nextPrice_29, nI_1, show jx_mn 99 (nI (v + 1)) = nI (min 99 (v + 1)) from mn_nI (a := 99) (by omega) (by omega)]
theorem s_lateFor (h : mineF m T P D W A U L) (g : gMine T P D W A U L) (hi : itemsF m I S Gd Ow Sd Y) (gi : gItems P I S Gd Ow Sd Y) (ha : askF m I Wn wd Pr) (ga : gAsk I Wn wd Pr) {p i : Nat} (hp : p < P) (hi2 : i < I) : f_Asking_lateFor (nI p) (nI i) m = some (oI (lat D A wd Ow Sd p i), m) := by
  have hP := g.2.1
  have hI := gi.1
  have hO := (gi.2.2.1 i hi2).2
  have hA1 := (g.2.2.2.2.2 p hp).1
  have hA2 := (g.2.2.2.2.2 (Ow i) hO).1
  have hD := (g.2.2.1.2 (A (Ow i)) (A p) hA2 hA1).1
  have hw1 := ga.2.1
  have hw2 := ga.2.2.1
  rw [e_Asking_lateFor, s_ownerOf hi hI hi2, Option.bind_some]
  try dsimp only
  rw [s_isSold hi hI hi2, Option.bind_some]
  unfold lat
  cases hs : Sd i with
  | true =>
    refine (ifnn (show ¬ bi true = 0 from ne10)).trans ?_
    rw [e_Asking_lateFor_33, if_pos (Or.inl rfl)]
    rfl
  | false =>
    refine (ifnp (show bi false = 0 from rfl)).trans ?_
    by_cases c : Ow i = p
    · refine (ifp (by rw [c])).trans ?_
      rw [e_Asking_lateFor_33, if_pos (Or.inr (Or.inl c))]
      rfl
    · refine (ifn (fun z => c ((nI_eq (by omega) (by omega)).mp z))).trans ?_
      try dsimp only
      rw [ha.1]
      refine (ifp (nI_le (a := 1) (b := wd) hw1 (by omega))).trans ?_
      rw [s_placeOf h g hO, Option.bind_some]
      try dsimp only
      rw [s_placeOf h g hp, Option.bind_some]
      try dsimp only
      rw [s_dist h hA2 hA1, Option.bind_some]
      try dsimp only
      by_cases d : D (A (Ow i)) (A p) < 999
      · refine (ifp (nI_lt (b := 999) d (by omega))).trans ?_
        rw [ha.1, decide_eq_false (nI_ne0 (by omega) (by omega)), pk_div (by omega) (by omega) (by omega)]
        have hq : D (A (Ow i)) (A p) / wd ≤ D (A (Ow i)) (A p) := Nat.div_le_self _ _
        rw [show jx_mn 9 (nI (D (A (Ow i)) (A p) / wd)) = nI (min 9 (D (A (Ow i)) (A p) / wd)) from mn_nI (a := 9) (by omega) (by omega), if_neg (by simp [c, d])]
        show f_Asking_lateFor_84 _ _ = _
        rw [e_Asking_lateFor_84]
        rfl
      · refine (ifn (nI_nlt (b := 999) (by omega) (by omega))).trans ?_
        rw [e_Asking_lateFor_84, if_pos (Or.inr (Or.inr d))]
        rfl
def w36 (a _ : Nat) : Prop := a = 36
def ltOK (m : jx_Mem) (P I : Nat) (lt : Nat → Nat → Option Nat) (p i : Nat) : Prop := ∀ p' i', (p' < p ∨ (p' = p ∧ i' < i)) → p' < P → i' < I → m.1 36 (12 * p' + i') = oI (lt p' i')
theorem fl_15 (h : mineF m T P D W A U L) (g : gMine T P D W A U L) (hi : itemsF m I S Gd Ow Sd Y) (gi : gItems P I S Gd Ow Sd Y) (ha : askF m I Wn wd Pr) (ga : gAsk I Wn wd Pr) {p : Nat} (hp : p < P) : ∀ (k i : Nat), i + k = I → ∀ m1, sm w36 m m1 → ltOK m1 P I (lat D A wd Ow Sd) p i →
    ∃ m2, f_Asking_findLates_15 (nI p) (nI i) m1 = f_Asking_findLates_2 (nI (p + 1)) m2 ∧ sm w36 m m2 ∧ ltOK m2 P I (lat D A wd Ow Sd) (p + 1) 0 := by
  have hP := g.2.1
  have hI := gi.1
  intro k
  induction k with
  | zero =>
    intro i hk m1 hs hl
    have hi1 : itemsF m1 I S Gd Ow Sd Y := itemsF_sm hi hs (by intro a k; unfold dIF w36; omega)
    refine ⟨m1, ?_, hs, fun p' i' hc hp' hi' => hl p' i' (by omega) hp' hi'⟩
    rw [e_Asking_findLates_15, e_Items_size, Option.bind_some, hi1.1]
    refine (ifp (nI_le (by omega) (by omega))).trans ?_
    rw [nI_1]
  | succ k ih =>
    intro i hk m1 hs hl
    have h1 : mineF m1 T P D W A U L := mineF_sm h hs (by intro a k; unfold dMF w36; omega)
    have hi1 : itemsF m1 I S Gd Ow Sd Y := itemsF_sm hi hs (by intro a k; unfold dIF w36; omega)
    have ha1 : askF m1 I Wn wd Pr := askF_sm ha hI hs (by intro a k; unfold dKF w36; omega)
    obtain ⟨m2, r1, r2, r3⟩ := ih (i + 1) (by omega) (jx_w1 m1 36 (12 * p + i) (oI (lat D A wd Ow Sd p i))) (hs.w1 rfl) (by
      intro p' i' hc hp' hi'
      rw [w1_rd]
      by_cases c : p' = p ∧ i' = i
      · rw [if_pos ⟨rfl, by omega⟩, c.1, c.2]
      · rw [if_neg (fun z => c (by omega))]
        exact hl p' i' (by omega) hp' hi')
    refine ⟨m2, ?_, r2, r3⟩
    rw [e_Asking_findLates_15, e_Items_size, Option.bind_some, hi1.1]
    refine (ifn (nI_ge (a := i) (b := I) (by omega) (by omega))).trans ?_
    try dsimp only
    rw [s_lateFor h1 g hi1 gi ha1 ga hp (by omega), Option.bind_some, ix12, in_nI (show 12 * p + i < 96 by omega) (by omega), nI_cl (show 12 * p + i < 2 ^ 31 by omega), nI_1]
    exact r1
theorem fl_2 (h : mineF m T P D W A U L) (g : gMine T P D W A U L) (hi : itemsF m I S Gd Ow Sd Y) (gi : gItems P I S Gd Ow Sd Y) (ha : askF m I Wn wd Pr) (ga : gAsk I Wn wd Pr) : ∀ (k p : Nat), p + k = P → ∀ m1, sm w36 m m1 → ltOK m1 P I (lat D A wd Ow Sd) p 0 →
    ∃ m2, f_Asking_findLates_2 (nI p) m1 = some m2 ∧ sm w36 m m2 ∧ ∀ p' i', p' < P → i' < I → m2.1 36 (12 * p' + i') = oI (lat D A wd Ow Sd p' i') := by
  have hP := g.2.1
  intro k
  induction k with
  | zero =>
    intro p hk m1 hs hl
    have h1 : mineF m1 T P D W A U L := mineF_sm h hs (by intro a k; unfold dMF w36; omega)
    refine ⟨m1, ?_, hs, fun p' i' hp' hi' => hl p' i' (by omega) hp' hi'⟩
    rw [e_Asking_findLates_2, e_Mine_people, Option.bind_some, h1.2.1]
    exact ifp (nI_le (by omega) (by omega))
  | succ k ih =>
    intro p hk m1 hs hl
    have h1 : mineF m1 T P D W A U L := mineF_sm h hs (by intro a k; unfold dMF w36; omega)
    obtain ⟨m2, r1, r2, r3⟩ := fl_15 h g hi gi ha ga (show p < P by omega) I 0 (by omega) m1 hs hl
    obtain ⟨m3, t1, t2, t3⟩ := ih (p + 1) (by omega) m2 r2 r3
    refine ⟨m3, ?_, t2, t3⟩
    rw [← t1, ← r1, e_Asking_findLates_2, e_Mine_people, Option.bind_some, h1.2.1]
    exact ifn (nI_ge (a := p) (b := P) (by omega) (by omega))
theorem s_findLates (h : mineF m T P D W A U L) (g : gMine T P D W A U L) (hi : itemsF m I S Gd Ow Sd Y) (gi : gItems P I S Gd Ow Sd Y) (ha : askF m I Wn wd Pr) (ga : gAsk I Wn wd Pr) : ∃ m2, f_Asking_findLates m = some m2 ∧ sm w36 m m2 ∧ ∀ p' i', p' < P → i' < I → m2.1 36 (12 * p' + i') = oI (lat D A wd Ow Sd p' i') := by
  rw [e_Asking_findLates]
  exact fl_2 h g hi gi ha ga P 0 (by omega) m sm.rf (fun p' i' hc _ _ => by omega)
/-! a choice, by the class -/
theorem s_choice (h : mineF m T P D W A U L) (g : gMine T P D W A U L) (hi : itemsF m I S Gd Ow Sd Y) (gi : gItems P I S Gd Ow Sd Y) (ha : askF m I Wn wd Pr) (ga : gAsk I Wn wd Pr) (hl : ∀ p' i', p' < P → i' < I → m.1 36 (12 * p' + i') = oI (lat D A wd Ow Sd p' i'))
    {H : Nat → Nat → Nat} {now : Nat} (hn9 : 9 ≤ now) (hn2 : now ≤ 208) (hH : ∀ r i, r ≤ now → i < I → m.1 35 (12 * r + i) = nI (H r i) ∧ H r i ≤ 99) {p : Nat} (hp : p < P) :
    f_Asking_choice (nI p) (nI now) m = some (oI (cho (mkE D A wd Ow Sd Gd Wn U P I) (fun l i => H (now - l) i) p), m) := by
  have hP := g.2.1
  have hI := gi.1
  have hU := (g.2.2.2.2.2 p hp).2.1
  have hwn : ∀ i, i < I → (mkE D A wd Ow Sd Gd Wn U P I).2.1 p i ≤ 99 := fun i hi' => ga.1 p (Gd i) (by omega) (gi.2.2.1 i hi').1
  have key := lp_up (fun j (x : Option Nat × Nat) => f_Asking_choice_8 (nI p) (nI now) (oI x.1) (nI x.2) j m) (chE (mkE D A wd Ow Sd Gd Wn U P I) (fun l i => H (now - l) i) p) I (by
    intro n hn
    have hq := (gi.2.2.1 n hn).1
    have hw := hwn n hn
    have hb := chE_bd (e := mkE D A wd Ow Sd Gd Wn U P I) (V := fun l i => H (now - l) i) (p := p) n (fun i hi' => hwn i (by omega))
    try dsimp only
    rw [e_Asking_choice_8, e_Items_size, Option.bind_some, hi.1]
    refine (ifn (nI_ge (a := n) (b := I) hn (by omega))).trans ?_
    try dsimp only
    rw [ix12, in_nI (show 12 * p + n < 96 by omega) (by omega), nI_cl (show 12 * p + n < 2 ^ 31 by omega), cond_true, hl p n hp hn]
    cases hc : lat D A wd Ow Sd p n with
    | none =>
      refine (ifnp rfl).trans ?_
      rw [e_Asking_choice_128, nI_1, chE_none hc]
    | some l =>
      have hl10 : l < 10 := mkE_l (Gd := Gd) (Wn := Wn) (U := U) (P := P) (I := I) p n l hc
      obtain ⟨h35, h99⟩ := hH (now - l) n (by omega) hn
      refine (ifnn (oI_ne (show l < 2 ^ 31 by omega))).trans ?_
      show (bif jx_in (((nI now - nI l) * 12) + nI n) 2520 then _ else none) = _
      rw [show (oI (some l)) = nI l from rfl, pk_sub (show l ≤ now by omega), ix12, in_nI (show 12 * (now - l) + n < 2520 by omega) (by omega), nI_cl (show 12 * (now - l) + n < 2 ^ 31 by omega), cond_true, h35, s_goodOf hi hI hn, Option.bind_some]
      try dsimp only
      rw [s_wantsOf h g ha hp hq, Option.bind_some]
      try dsimp only
      have hcs := chE_some (e := mkE D A wd Ow Sd Gd Wn U P I) (V := fun l i => H (now - l) i) hc
      change chE (mkE D A wd Ow Sd Gd Wn U P I) (fun l i => H (now - l) i) p (n + 1) = if H (now - l) n ≤ Wn p (Gd n) ∧ H (now - l) n ≤ U p ∧ ((chE (mkE D A wd Ow Sd Gd Wn U P I) (fun l i => H (now - l) i) p n).1 = none ∨ (chE (mkE D A wd Ow Sd Gd Wn U P I) (fun l i => H (now - l) i) p n).2 < Wn p (Gd n) - H (now - l) n) then (some n, Wn p (Gd n) - H (now - l) n) else chE (mkE D A wd Ow Sd Gd Wn U P I) (fun l i => H (now - l) i) p n at hcs
      have hwx : Wn p (Gd n) ≤ 99 := hw
      rw [hcs]
      by_cases c1 : H (now - l) n ≤ Wn p (Gd n)
      · rw [pk_sub c1]
        refine (ifn (nI_pos (by omega))).trans ?_
        rw [s_purseOf h g hp, Option.bind_some]
        try dsimp only
        by_cases c2 : H (now - l) n ≤ U p
        · refine (ifn (nI_nlt c2 (by omega))).trans ?_
          rw [e_Asking_choice_102]
          refine (ifn ne10).trans ?_
          cases hr : (chE (mkE D A wd Ow Sd Gd Wn U P I) (fun l i => H (now - l) i) p n).1 with
          | none =>
            refine (ifp rfl).trans ?_
            rw [if_pos ⟨c1, c2, Or.inl rfl⟩, e_Asking_choice_121, e_Asking_choice_128, nI_1]
            rfl
          | some q =>
            have hq2 := chE_lt n q hr
            refine (ifn (oI_ne (show q < 2 ^ 31 by omega))).trans ?_
            by_cases c3 : (chE (mkE D A wd Ow Sd Gd Wn U P I) (fun l i => H (now - l) i) p n).2 < Wn p (Gd n) - H (now - l) n
            · refine (ifn (nI_ge c3 (by omega))).trans ?_
              rw [if_pos ⟨c1, c2, Or.inr c3⟩, e_Asking_choice_121, e_Asking_choice_128, nI_1]
              rfl
            · refine (ifp (nI_le (by omega) (by omega))).trans ?_
              rw [if_neg (fun z => by rcases z.2.2 with y | y; cases y; exact c3 y), e_Asking_choice_128, nI_1, hr]
        · refine (ifp (nI_lt (by omega) (by omega))).trans ?_
          rw [e_Asking_choice_101, e_Asking_choice_102]
          refine (ifp eq00).trans ?_
          rw [if_neg (fun z => c2 z.2.1), e_Asking_choice_128, nI_1]
      · refine (ifp (pk_sneg (by omega) (by omega))).trans ?_
        rw [e_Asking_choice_101, e_Asking_choice_102]
        refine (ifp eq00).trans ?_
        rw [if_neg (fun z => c1 z.1), e_Asking_choice_128, nI_1]) 0 (Nat.zero_le _)
  rw [e_Asking_choice]
  refine Eq.trans (b := f_Asking_choice_8 (nI p) (nI now) (oI (chE (mkE D A wd Ow Sd Gd Wn U P I) (fun l i => H (now - l) i) p I).1) (nI (chE (mkE D A wd Ow Sd Gd Wn U P I) (fun l i => H (now - l) i) p I).2) (nI I) m) key ?_
  rw [e_Asking_choice_8, e_Items_size, Option.bind_some, hi.1]
  exact ifp (nI_le (Nat.le_refl _) (by omega))
end ASK
