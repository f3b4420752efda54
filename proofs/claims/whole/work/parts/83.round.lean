/-! a round, by the class; rounds -/
theorem s_fill37 (v : Int32) (m : jx_Mem) : ∃ m', f_Arr_fill_r37 v m = some m' ∧ (∀ j, j < 12 → m'.1 37 j = v) ∧ sm (fun a j => a = 37 ∧ j < 12) m m' := by
  obtain ⟨m', r1, r2, r3⟩ := fill_lp (fun i m => f_Arr_fill_5_r37 v i 12 m) 37 12 v (by
    intro m
    rw [e_Arr_fill_5_r37]
    exact ifp (by decide)) (by
    intro i m hi
    rw [e_Arr_fill_5_r37]
    refine (ifn (nI_ge (b := 12) hi (by omega))).trans ?_
    rw [in_nI hi (by omega), nI_cl (by omega), nI_1]
    rfl) 12 0 (by omega) m
  refine ⟨m', by rw [e_Arr_fill_r37]; exact r1, fun j hj => ?_, r3⟩
  rw [r2 j, if_pos ⟨Nat.zero_le _, hj⟩]
theorem akB_none {e : eTy} {V : Nat → Nat → Nat} {p : Nat} (h : cho e V p = none) (i : Nat) : akB e V i p = false := by
  unfold akB
  rw [h]
  rfl
theorem akB_some {e : eTy} {V : Nat → Nat → Nat} {p q : Nat} (h : cho e V p = some q) (i : Nat) : akB e V i p = decide (q = i) := by
  unfold akB
  rw [h]
  simp
theorem cho_lt {e : eTy} {V : Nat → Nat → Nat} {p q : Nat} (h : cho e V p = some q) : q < e.2.2.2.2.2 := chE_lt _ _ h
/-- the table of prices, row by row: nine rounds back, now, and what comes -/
def TH (e : eTy) (V : Nat → Nat → Nat) (r i : Nat) : Nat := if r < 9 then V (9 - r) i else rdW e V (r - 9) 0 i
theorem TH_win (e : eTy) (V : Nat → Nat → Nat) : ∀ t l i, l ≤ 9 → rdW e V t l i = TH e V (9 + t - l) i := by
  intro t
  induction t with
  | zero =>
    intro l i hl
    unfold TH
    by_cases c : l = 0
    · subst c; rw [if_neg (by omega)]
    · rw [if_pos (by omega), show 9 - (9 + 0 - l) = l by omega]; rfl
  | succ t ih =>
    intro l i hl
    by_cases c : l = 0
    · subst c
      unfold TH
      rw [if_neg (by omega), show 9 + (t + 1) - 0 - 9 = t + 1 by omega]
    · show shW e (rdW e V t) l i = _
      unfold shW
      rw [if_neg c, ih (l - 1) i (by omega), show 9 + t - (l - 1) = 9 + (t + 1) - l by omega]
theorem TH_ok {e : eTy} {V : Nat → Nat → Nat} {I : Nat} (h : vOK V I) {r i : Nat} (hi : i < I) : TH e V r i ≤ 99 := by
  unfold TH
  split
  · exact h (9 - r) i (by omega) hi
  · exact rdW_ok h _ 0 i (by omega) hi
theorem akB_congr {e : eTy} {V V' : Nat → Nat → Nat} (hl : ∀ p i l, e.1 p i = some l → l < 10) (h : ∀ l i, l < 10 → i < e.2.2.2.2.2 → V l i = V' l i) (i : Nat) : akB e V i = akB e V' i := by
  funext p
  unfold akB
  rw [cho_congr hl h p]
theorem nxP_congr {e : eTy} {V V' : Nat → Nat → Nat} (hl : ∀ p i l, e.1 p i = some l → l < 10) (h : ∀ l i, l < 10 → i < e.2.2.2.2.2 → V l i = V' l i) {i : Nat} (hi : i < e.2.2.2.2.2) : nxP e V i = nxP e V' i := by
  unfold nxP
  rw [akB_congr hl h i, h 0 i (by omega) hi]
theorem chg_congr {e : eTy} {V V' : Nat → Nat → Nat} (hl : ∀ p i l, e.1 p i = some l → l < 10) (h : ∀ l i, l < 10 → i < e.2.2.2.2.2 → V l i = V' l i) : chg e V = chg e V' := by
  unfold chg
  apply fb_ct_cong
  intro k hk
  rw [nxP_congr hl h hk, h 0 k (by omega) hk]
def lastC (e : eTy) (V : Nat → Nat → Nat) : Nat → Nat
  | 0 => 0
  | t + 1 => chg e (rdW e V t)
def lastA (e : eTy) (V : Nat → Nat → Nat) (i : Nat) : Nat → Nat
  | 0 => 0
  | t + 1 => bs (akB e (rdW e V t) i) e.2.2.2.2.1
def wAo (now a k : Nat) : Prop := a = 37 ∨ (a = 35 ∧ 12 * (now + 1) ≤ k)
section ROUND
variable {m m' : jx_Mem} {T P : Nat} {D : Nat → Nat → Nat} {W A U L : Nat → Nat}
variable {I S : Nat} {Gd Ow : Nat → Nat} {Sd : Nat → Bool} {Y : Nat → Nat → Nat} {Wn : Nat → Nat → Nat} {wd : Nat} {Pr : Nat → Nat → Nat}
theorem ao_10 (h : mineF m T P D W A U L) (g : gMine T P D W A U L) (hi : itemsF m I S Gd Ow Sd Y) (gi : gItems P I S Gd Ow Sd Y) (ha : askF m I Wn wd Pr) (ga : gAsk I Wn wd Pr) (hl : ∀ p' i', p' < P → i' < I → m.1 36 (12 * p' + i') = oI (lat D A wd Ow Sd p' i'))
    {H : Nat → Nat → Nat} {now : Nat} (hn9 : 9 ≤ now) (hn2 : now ≤ 208) (hH : ∀ r i, r ≤ now → i < I → m.1 35 (12 * r + i) = nI (H r i) ∧ H r i ≤ 99) :
    ∀ (k n : Nat), n + k = P → ∀ m1, sm (fun a _ => a = 37) m m1 → (∀ i, i < I → m1.1 37 i = nI (bs (akB (mkE D A wd Ow Sd Gd Wn U P I) (fun l i => H (now - l) i) i) n)) →
    ∃ m2, f_Asking_askOnce_10 (nI now) (nI n) m1 = f_Asking_askOnce_55 (nI now) 0 0 m2 ∧ sm (fun a _ => a = 37) m m2 ∧ ∀ i, i < I → m2.1 37 i = nI (bs (akB (mkE D A wd Ow Sd Gd Wn U P I) (fun l i => H (now - l) i) i) P) := by
  have hP := g.2.1
  have hI := gi.1
  intro k
  induction k with
  | zero =>
    intro n hk m1 hs hb
    have hn : n = P := by omega
    subst hn
    have h1 : mineF m1 T n D W A U L := mineF_sm h hs (by intro a k; unfold dMF; omega)
    refine ⟨m1, ?_, hs, hb⟩
    rw [e_Asking_askOnce_10, e_Mine_people, Option.bind_some, h1.2.1]
    exact ifp (nI_le (by omega) (by omega))
  | succ k ih =>
    intro n hk m1 hs hb
    have hn : n < P := by omega
    have h1 : mineF m1 T P D W A U L := mineF_sm h hs (by intro a k; unfold dMF; omega)
    have hi1 : itemsF m1 I S Gd Ow Sd Y := itemsF_sm hi hs (by intro a k; unfold dIF; omega)
    have ha1 : askF m1 I Wn wd Pr := askF_sm ha hI hs (by intro a k; unfold dKF; omega)
    have hl1 : ∀ p' i', p' < P → i' < I → m1.1 36 (12 * p' + i') = oI (lat D A wd Ow Sd p' i') := fun p' i' q1 q2 => (hs 36 _ (by omega)).1.trans (hl p' i' q1 q2)
    have hH1 : ∀ r i, r ≤ now → i < I → m1.1 35 (12 * r + i) = nI (H r i) ∧ H r i ≤ 99 := fun r i q1 q2 => ⟨(hs 35 _ (by omega)).1.trans (hH r i q1 q2).1, (hH r i q1 q2).2⟩
    have hc := s_choice h1 g hi1 gi ha1 ga hl1 hn9 hn2 hH1 hn
    rw [e_Asking_askOnce_10, e_Mine_people, Option.bind_some, h1.2.1]
    have e0 : ∀ X Y : Option (Int32 × jx_Mem), (if decide ((nI P, m1).1 ≤ nI n) = true then X else Y) = Y := fun X Y => ifn (nI_ge (a := n) (b := P) hn (by omega))
    rw [e0]
    try dsimp only
    rw [hc, Option.bind_some]
    try dsimp only
    cases hq : cho (mkE D A wd Ow Sd Gd Wn U P I) (fun l i => H (now - l) i) n with
    | none =>
      obtain ⟨m2, r1, r2, r3⟩ := ih (n + 1) (by omega) m1 hs (fun i hi' => by rw [hb i hi']; exact bs_f (akB_none hq i))
      refine ⟨m2, ?_, r2, r3⟩
      rw [← r1]
      refine (ifp rfl).trans ?_
      rw [e_Asking_askOnce_45, nI_1]
    | some q =>
      have hqI : q < I := cho_lt hq
      obtain ⟨m2, r1, r2, r3⟩ := ih (n + 1) (by omega) (jx_w1 m1 37 q (nI (bs (akB (mkE D A wd Ow Sd Gd Wn U P I) (fun l i => H (now - l) i) q) (n + 1)))) (hs.w1 rfl) (by
        intro i hi'
        rw [w1_rd]
        by_cases c : i = q
        · rw [if_pos ⟨rfl, c⟩, c]
        · rw [if_neg (fun z => c z.2), hb i hi']
          exact bs_f (by rw [akB_some hq i]; simp; omega))
      refine ⟨m2, ?_, r2, r3⟩
      rw [← r1]
      refine (ifn (oI_ne (show q < 2 ^ 31 by omega))).trans ?_
      show (bif jx_in (nI q) 12 then _ else none) = _
      rw [show (oI (some q)) = nI q from rfl, in_nI (show q < 12 by omega) (by omega), nI_cl (show q < 2 ^ 31 by omega), hb q hqI, or_bs_t (by omega) (by rw [akB_some hq q]; simp)]
      show f_Asking_askOnce_45 _ _ _ = _
      rw [e_Asking_askOnce_45, nI_1]
theorem ao_55 (g : gMine T P D W A U L) (hi : itemsF m I S Gd Ow Sd Y) (gi : gItems P I S Gd Ow Sd Y)
    {H : Nat → Nat → Nat} {now : Nat} (hn2 : now ≤ 208) (hH : ∀ r i, r ≤ now → i < I → m.1 35 (12 * r + i) = nI (H r i) ∧ H r i ≤ 99) :
    ∀ (k n : Nat), n + k = I → ∀ m1, sm (wAo now) m m1 → (∀ i, i < I → m1.1 37 i = nI (bs (akB (mkE D A wd Ow Sd Gd Wn U P I) (fun l i => H (now - l) i) i) P)) → (∀ i, i < n → m1.1 35 (12 * (now + 1) + i) = nI (nxP (mkE D A wd Ow Sd Gd Wn U P I) (fun l i => H (now - l) i) i)) →
    ∃ m2, f_Asking_askOnce_55 (nI now) (nI (fb_ct (fun i => !decide (nxP (mkE D A wd Ow Sd Gd Wn U P I) (fun l i => H (now - l) i) i = H now i)) n)) (nI n) m1 = some (nI (chg (mkE D A wd Ow Sd Gd Wn U P I) (fun l i => H (now - l) i)), m2) ∧ sm (wAo now) m m2 ∧
      (∀ i, i < I → m2.1 37 i = nI (bs (akB (mkE D A wd Ow Sd Gd Wn U P I) (fun l i => H (now - l) i) i) P)) ∧ (∀ i, i < I → m2.1 35 (12 * (now + 1) + i) = nI (nxP (mkE D A wd Ow Sd Gd Wn U P I) (fun l i => H (now - l) i) i)) := by
  have hI := gi.1
  intro k
  induction k with
  | zero =>
    intro n hk m1 hs hb hx
    have hn : n = I := by omega
    subst hn
    have hi1 : itemsF m1 n S Gd Ow Sd Y := itemsF_sm hi hs (by intro a k; unfold dIF wAo; omega)
    refine ⟨m1, ?_, hs, hb, hx⟩
    rw [e_Asking_askOnce_55, e_Items_size, Option.bind_some, hi1.1]
    exact ifp (nI_le (by omega) (by omega))
  | succ k ih =>
    intro n hk m1 hs hb hx
    have hn : n < I := by omega
    have hi1 : itemsF m1 I S Gd Ow Sd Y := itemsF_sm hi hs (by intro a k; unfold dIF wAo; omega)
    have h35 : m1.1 35 (12 * now + n) = nI (H now n) := (hs 35 _ (by unfold wAo; omega)).1.trans (hH now n (by omega) hn).1
    have h99 := (hH now n (by omega) hn).2
    have hN : nxP (mkE D A wd Ow Sd Gd Wn U P I) (fun l i => H (now - l) i) n ≤ 99 := nxP_le (V := fun l i => H (now - l) i) h99
    obtain ⟨m2, r1, r2, r3, r4⟩ := ih (n + 1) (by omega) (jx_w1 m1 35 (12 * (now + 1) + n) (nI (nxP (mkE D A wd Ow Sd Gd Wn U P I) (fun l i => H (now - l) i) n))) (hs.w1 (by unfold wAo; omega)) (fun i hi' => (w1_cell (by omega)).trans (hb i hi')) (by
      intro i hi'
      rw [w1_rd]
      by_cases c : i = n
      · rw [if_pos ⟨rfl, by omega⟩, c]
      · rw [if_neg (by omega)]
        exact hx i (by omega))
    refine ⟨m2, ?_, r2, r3, r4⟩
    rw [← r1]
    have f109 : f_Asking_askOnce_109 (nI now) (nI (fb_ct (fun i => !decide (nxP (mkE D A wd Ow Sd Gd Wn U P I) (fun l i => H (now - l) i) i = H now i)) n)) (nI n) (nI (H now n)) (nI (nxP (mkE D A wd Ow Sd Gd Wn U P I) (fun l i => H (now - l) i) n)) m1 = f_Asking_askOnce_55 (nI now) (nI (fb_ct (fun i => !decide (nxP (mkE D A wd Ow Sd Gd Wn U P I) (fun l i => H (now - l) i) i = H now i)) (n + 1))) (nI (n + 1)) (jx_w1 m1 35 (12 * (now + 1) + n) (nI (nxP (mkE D A wd Ow Sd Gd Wn U P I) (fun l i => H (now - l) i) n))) := by
      rw [e_Asking_askOnce_109, nI_1, ix12, in_nI (show 12 * (now + 1) + n < 2520 by omega) (by omega), nI_cl (show 12 * (now + 1) + n < 2 ^ 31 by omega)]
      try dsimp only
      rw [fb_ct_succ]
      by_cases c : nxP (mkE D A wd Ow Sd Gd Wn U P I) (fun l i => H (now - l) i) n = H now n
      · refine (ifp (by rw [c])).trans ?_
        rw [e_Asking_askOnce_136, nI_1, decide_eq_true c]
        rfl
      · refine (ifn (fun z => c ((nI_eq (by omega) (by omega)).mp z))).trans ?_
        rw [e_Asking_askOnce_136, nI_1, nI_1, decide_eq_false c]
        rfl
    rw [← f109, e_Asking_askOnce_55, e_Items_size, Option.bind_some, hi1.1]
    refine (ifn (nI_ge (a := n) (b := I) hn (by omega))).trans ?_
    try dsimp only
    rw [ix12, in_nI (show 12 * now + n < 2520 by omega) (by omega), nI_cl (show 12 * now + n < 2 ^ 31 by omega), cond_true, s_isSold hi1 hI hn, Option.bind_some, h35]
    try dsimp only
    cases hs2 : Sd n with
    | true =>
      refine (ifn (show ¬ bi true = 0 from ne10)).trans ?_
      have e1 : nxP (mkE D A wd Ow Sd Gd Wn U P I) (fun l i => H (now - l) i) n = H now n := by
        unfold nxP
        exact if_pos hs2
      rw [e1]
    | false =>
      refine (ifp (show bi false = 0 from rfl)).trans ?_
      rw [in_nI (show n < 12 by omega) (by omega), nI_cl (show n < 2 ^ 31 by omega), cond_true, hb n hn, s_bc, Option.bind_some]
      try dsimp only
      rw [s_next _ h99, Option.bind_some]
      have e1 : nxP (mkE D A wd Ow Sd Gd Wn U P I) (fun l i => H (now - l) i) n = nxv (H now n) (bc (nI (bs (akB (mkE D A wd Ow Sd Gd Wn U P I) (fun l i => H (now - l) i) n) P))) := by
        unfold nxP
        exact if_neg (show ¬ Sd n = true by rw [hs2]; decide)
      rw [e1]
/-- the class's table up to round t -/
def tabF (m : jx_Mem) (e : eTy) (V : Nat → Nat → Nat) (I t : Nat) : Prop := ∀ r i, r ≤ 9 + t → i < I → m.1 35 (12 * r + i) = nI (TH e V r i)
theorem s_askOnce (h : mineF m T P D W A U L) (g : gMine T P D W A U L) (hi : itemsF m I S Gd Ow Sd Y) (gi : gItems P I S Gd Ow Sd Y) (ha : askF m I Wn wd Pr) (ga : gAsk I Wn wd Pr) (hl : ∀ p' i', p' < P → i' < I → m.1 36 (12 * p' + i') = oI (lat D A wd Ow Sd p' i'))
    {t : Nat} (ht : t < 200) (hT : tabF m (mkE D A wd Ow Sd Gd Wn U P I) Pr I t) :
    ∃ m', f_Asking_askOnce (nI (9 + t)) m = some (nI (chg (mkE D A wd Ow Sd Gd Wn U P I) (rdW (mkE D A wd Ow Sd Gd Wn U P I) Pr t)), m') ∧ sm (wAo (9 + t)) m m' ∧ (∀ i, i < I → m'.1 37 i = nI (lastA (mkE D A wd Ow Sd Gd Wn U P I) Pr i (t + 1))) ∧ tabF m' (mkE D A wd Ow Sd Gd Wn U P I) Pr I (t + 1) := by
  have hI := gi.1
  have hv : vOK Pr I := fun l i q1 q2 => ga.2.2.2 l i q1 q2
  have cg : ∀ l i, l < 10 → i < (mkE D A wd Ow Sd Gd Wn U P I).2.2.2.2.2 → (fun l i => TH (mkE D A wd Ow Sd Gd Wn U P I) Pr (9 + t - l) i) l i = rdW (mkE D A wd Ow Sd Gd Wn U P I) Pr t l i := fun l i q1 _ => (TH_win _ _ t l i (by omega)).symm
  have hH : ∀ r i, r ≤ 9 + t → i < I → m.1 35 (12 * r + i) = nI (TH (mkE D A wd Ow Sd Gd Wn U P I) Pr r i) ∧ TH (mkE D A wd Ow Sd Gd Wn U P I) Pr r i ≤ 99 := fun r i q1 q2 => ⟨hT r i q1 q2, TH_ok hv q2⟩
  obtain ⟨m1, a1, a2, a3⟩ := s_fill37 0 m
  have hs1 : sm (fun a _ => a = 37) m m1 := a3.mono (by omega)
  have h1 : mineF m1 T P D W A U L := mineF_sm h hs1 (by intro a k; unfold dMF; omega)
  have hi1 : itemsF m1 I S Gd Ow Sd Y := itemsF_sm hi hs1 (by intro a k; unfold dIF; omega)
  have ha1 : askF m1 I Wn wd Pr := askF_sm ha hI hs1 (by intro a k; unfold dKF; omega)
  have hl1 : ∀ p' i', p' < P → i' < I → m1.1 36 (12 * p' + i') = oI (lat D A wd Ow Sd p' i') := fun p' i' q1 q2 => (hs1 36 _ (by omega)).1.trans (hl p' i' q1 q2)
  have hH1 : ∀ r i, r ≤ 9 + t → i < I → m1.1 35 (12 * r + i) = nI (TH (mkE D A wd Ow Sd Gd Wn U P I) Pr r i) ∧ TH (mkE D A wd Ow Sd Gd Wn U P I) Pr r i ≤ 99 := fun r i q1 q2 => ⟨(hs1 35 _ (by omega)).1.trans (hT r i q1 q2), TH_ok hv q2⟩
  obtain ⟨m2, b1, b2, b3⟩ := ao_10 h1 g hi1 gi ha1 ga hl1 (show 9 ≤ 9 + t by omega) (by omega) hH1 P 0 (by omega) m1 sm.rf (fun i hi' => a2 i (by omega))
  have hi2 : itemsF m2 I S Gd Ow Sd Y := itemsF_sm hi1 b2 (by intro a k; unfold dIF; omega)
  have hH2 : ∀ r i, r ≤ 9 + t → i < I → m2.1 35 (12 * r + i) = nI (TH (mkE D A wd Ow Sd Gd Wn U P I) Pr r i) ∧ TH (mkE D A wd Ow Sd Gd Wn U P I) Pr r i ≤ 99 := fun r i q1 q2 => ⟨(b2 35 _ (by omega)).1.trans (hH1 r i q1 q2).1, TH_ok hv q2⟩
  obtain ⟨m3, c1, c2, c3, c4⟩ := ao_55 g hi2 gi (show 9 + t ≤ 208 by omega) hH2 I 0 (by omega) m2 sm.rf b3 (fun i hi' => absurd hi' (Nat.not_lt_zero i))
  have hs3 : sm (wAo (9 + t)) m m3 := ((hs1.tr b2).mono (by unfold wAo; omega)).tr c2
  refine ⟨m3, ?_, hs3, fun i hi' => ?_, fun r i hr hi' => ?_⟩
  · rw [e_Asking_askOnce, a1, Option.bind_some]
    refine Eq.trans (b := f_Asking_askOnce_55 (nI (9 + t)) 0 0 m2) b1 ?_
    refine Eq.trans c1 ?_
    rw [chg_congr mkE_l cg]
  · rw [c3 i hi', akB_congr mkE_l cg i]
    rfl
  · by_cases c : r ≤ 9 + t
    · exact (hs3 35 _ (by unfold wAo; omega)).1.trans (hT r i c hi')
    · have hr2 : r = 9 + t + 1 := by omega
      subst hr2
      rw [c4 i hi', nxP_congr mkE_l cg hi']
      unfold TH
      rw [if_neg (by omega), show 9 + t + 1 - 9 = t + 1 by omega]
      rfl
end ROUND
