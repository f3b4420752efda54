/-! hands on both sides -/
theorem s_fill51 (v : Int32) (m : jx_Mem) : ∃ m', f_Arr_fill_r51 v m = some m' ∧ (∀ j, j < 6 → m'.1 51 j = v) ∧ sm (fun a j => a = 51 ∧ j < 6) m m' := by
  obtain ⟨m', r1, r2, r3⟩ := fill_lp (fun i m => f_Arr_fill_5_r51 v i 6 m) 51 6 v (by
    intro m
    rw [e_Arr_fill_5_r51]
    exact ifp (by decide)) (by
    intro i m hi
    rw [e_Arr_fill_5_r51]
    refine (ifn (nI_ge (b := 6) hi (by omega))).trans ?_
    rw [in_nI hi (by omega), nI_cl (by omega), nI_1]
    rfl) 6 0 (by omega) m
  refine ⟨m', by rw [e_Arr_fill_r51]; exact r1, fun j hj => ?_, r3⟩
  rw [r2 j, if_pos ⟨Nat.zero_le _, hj⟩]
noncomputable def hdB (th : Nat → Nat → Bool) (co U : Nat → Nat) (C P k : Nat) : Nat := bs (fun q => @decide (∃ f, vA th co U C P f ∧ f k = q) (Classical.propDecidable _)) P
theorem hdB_is {th : Nat → Nat → Bool} {co U : Nat → Nat} {C P k x : Nat} (hP : P ≤ 8) (hk : k < C) (hx : x < 2 ^ 8) (h : ∀ q, x.testBit q = true ↔ (q < P ∧ ∃ f, vA th co U C P f ∧ f k = q)) : x = hdB th co U C P k := by
  apply tb_ext hx (Nat.lt_of_lt_of_le (bs_lt _ P) (Nat.pow_le_pow_right (by omega) hP))
  intro q _
  rw [bs_tb]
  apply Bool.eq_iff_iff.mpr
  rw [h q, Bool.and_eq_true, decide_eq_true_eq]
  constructor
  · rintro ⟨h1, h2⟩
    exact ⟨h1, @decide_eq_true _ (Classical.propDecidable _) h2⟩
  · rintro ⟨h1, h2⟩
    exact ⟨h1, @of_decide_eq_true _ (Classical.propDecidable _) h2⟩
noncomputable def rowH (th : Nat → Nat → Bool) (co U : Nat → Nat) (C P n : Nat) : List Int64 := (List.range n).map (fun k => pI (hdB th co U C P k))
theorem rowH_s (th : Nat → Nat → Bool) (co U : Nat → Nat) (C P n : Nat) : rowH th co U C P (n + 1) = rowH th co U C P n ++ [pI (hdB th co U C P n)] := by
  unfold rowH
  rw [List.range_succ, List.map_append]
  rfl
theorem rowH_len (th : Nat → Nat → Bool) (co U : Nat → Nat) (C P n : Nat) : (rowH th co U C P n).length = n := by
  unfold rowH
  rw [List.length_map, List.length_range]
section HANDS2
variable {m m' : jx_Mem} {T P : Nat} {D : Nat → Nat → Nat} {W A U L : Nat → Nat}
variable {ns nc : Nat} {B X : Nat → Nat → Nat}
theorem th_64 (h : mineF m T P D W A U L) (g : gMine T P D W A U L) (hb : stayF m ns B) (gb : gStay P ns B) (hk : clkF m nc X) (gk : gClk nc X) (hw : ∀ q S, q ≤ P → S < 2 ^ nc → m.1 50 (64 * q + S) = nI (nW (tH B X ns) (X 2) U nc q S)) :
    ∀ (i j : Nat), j + i = P → ∀ (m1 : jx_Mem) (op : Nat) (wh : Nat → Nat), sm (fun a _ => a = 51) m m1 → op < 2 ^ (2 ^ nc) → (∀ S, op.testBit S = true ↔ rch (tH B X ns) (X 2) U nc P j S) → (∀ k, k < nc → m1.1 51 k = nI (wh k) ∧ wh k < 2 ^ 8 ∧ ∀ q, (wh k).testBit q = true ↔ (q < P ∧ P - j ≤ q ∧ whs (tH B X ns) (X 2) U nc P k q)) →
    ∃ m2, f_Watch_tellHands_64 (nI P) (nI (2 ^ nc - 1)) (lN op) (nI (P - j) - 1) m1 = (f_Row_clear m2).bind (fun p1 => f_Watch_tellHands_93 (nI P) (nI (2 ^ nc - 1)) 0 p1) ∧ sm (fun a _ => a = 51) m m2 ∧ ∀ k, k < nc → m2.1 51 k = nI (hdB (tH B X ns) (X 2) U nc P k) := by
  have hP := g.2.1
  have hn := gk.1
  obtain ⟨h64, h0⟩ := p6 hn
  intro i
  induction i with
  | zero =>
    intro j hj m1 op wh hs _ _ hwh
    have hj2 : P - j = 0 := by omega
    refine ⟨m1, ?_, hs, fun k hk2 => ?_⟩
    · rw [hj2, e_Watch_tellHands_64]
      exact ifp (by decide)
    · obtain ⟨a1, a2, a3⟩ := hwh k hk2
      rw [a1, hdB_is hP hk2 a2 (th := tH B X ns) (co := X 2) (U := U) (fun q => by
        rw [a3 q]
        constructor
        · rintro ⟨q1, _, q3⟩; exact ⟨q1, (whs_iff hk2 q1).mp q3⟩
        · rintro ⟨q1, q3⟩; exact ⟨q1, by omega, (whs_iff hk2 q1).mpr q3⟩)]
  | succ i ih =>
    intro j hj m1 op wh hs hop hopr hwh
    have h1 : mineF m1 T P D W A U L := mineF_sm h hs (by intro a k; unfold dMF; omega)
    have hb1 : stayF m1 ns B := stayF_sm hb hs (by intro a k; unfold dWF; omega)
    have hk1 : clkF m1 nc X := clkF_sm hk hs (by intro a k; unfold dWF; omega)
    have hp : P - 1 - j < P := by omega
    obtain ⟨m2, wh2, bf2, a1, a2, a3, a4, a5, a6⟩ := tb_14 (th := tH B X ns) (co := X 2) (U := U) (p := P - 1 - j) (op := op) (by omega) hn hop (wh0 := wh) (2 ^ nc) 0 (by omega) m1 wh 0 hk1.1 (fun S hS => (hs 50 _ (by omega)).1.trans (hw (P - 1 - j) S (by omega) hS)) (fun k hk2 => (hwh k hk2).1) ⟨Nat.two_pow_pos _, fun S => by
        rw [Nat.zero_testBit]
        constructor
        · intro z; cases z
        · rintro ⟨G, r, z, _⟩; exact absurd z (Nat.not_lt_zero G), fun k hk2 => ⟨(hwh k hk2).2.1, fun q => by
        constructor
        · intro z; exact Or.inl z
        · rintro (z | ⟨_, G, r, z, _⟩)
          · exact z
          · exact absurd z (Nat.not_lt_zero G)⟩⟩
    have hev : ∀ G r, (G < 2 ^ nc ∧ evT (tH B X ns) (X 2) U nc (P - 1 - j) op G r) ↔ (rch (tH B X ns) (X 2) U nc P j G ∧ r &&& G = r ∧ cn (tH B X ns) (X 2) U nc (P - 1 - j) r = true ∧ 0 < nW (tH B X ns) (X 2) U nc (P - 1 - j) (G ^^^ r)) := by
      intro G r
      constructor
      · rintro ⟨_, z1, z2⟩; exact ⟨(hopr G).mp z1, z2⟩
      · rintro ⟨z1, z2⟩; exact ⟨(rch_sem j G (by omega) z1).1, (hopr G).mpr z1, z2⟩
    obtain ⟨m3, t1, t2⟩ := ih (j + 1) (by omega) m2 bf2 wh2 (hs.tr a2) a4 (fun S => by
      rw [a5]
      constructor
      · rintro ⟨G, r, z1, z2, z3⟩
        obtain ⟨y1, y2⟩ := (hev G r).mp ⟨z1, z2⟩
        exact ⟨G, y1, r, y2.1, y2.2.1, y2.2.2, z3⟩
      · rintro ⟨G, y1, r, y2, y3, y4, z3⟩
        obtain ⟨z1, z2⟩ := (hev G r).mpr ⟨y1, y2, y3, y4⟩
        exact ⟨G, r, z1, z2, z3⟩) (fun k hk2 => ⟨a3 k hk2, (a6 k hk2).1, fun q => by
      rw [(a6 k hk2).2 q, (hwh k hk2).2.2 q]
      constructor
      · rintro (⟨q1, q2, q3⟩ | ⟨q1, G, r, z1, z2, z3⟩)
        · exact ⟨q1, by omega, q3⟩
        · obtain ⟨y1, y2⟩ := (hev G r).mp ⟨z1, z2⟩
          refine ⟨by omega, by omega, G, ?_, r, ?_⟩
          · rw [q1, show P - 1 - (P - 1 - j) = j by omega]; exact y1
          · rw [q1]; exact ⟨y2.1, y2.2.1, y2.2.2, z3⟩
      · rintro ⟨q1, q2, q3⟩
        by_cases e : q = P - 1 - j
        · obtain ⟨G, y1, r, y2, y3, y4, y5⟩ := q3
          rw [e] at y1 y3 y4
          rw [show P - 1 - (P - 1 - j) = j by omega] at y1
          obtain ⟨z1, z2⟩ := (hev G r).mpr ⟨y1, y2, y3, y4⟩
          exact Or.inr ⟨e, G, r, z1, z2, y5⟩
        · exact Or.inl ⟨q1, by omega, q3⟩⟩)
    refine ⟨m3, ?_, t2⟩
    rw [← t1, show P - j = (P - 1 - j) + 1 by omega, nI_pred, e_Watch_tellHands_64]
    refine (ifn (nI_pos (by omega))).trans ?_
    rw [e_Watch_traceBack, s_canTake h1 g hb1 gb hk1 gk hp, Option.bind_some]
    show (f_Watch_traceBack_14 (nI (P - 1 - j)) (nI (2 ^ nc - 1)) (lN op) (lN (bs (cn (tH B X ns) (X 2) U nc (P - 1 - j)) (2 ^ nc))) (lN 0) (nI 0) m1).bind _ = _
    rw [a1, Option.bind_some, neg1, show P - (j + 1) = P - 1 - j by omega]
theorem th_93 {th : Nat → Nat → Bool} {co : Nat → Nat} (hn : nc ≤ 6) (hP : P ≤ 8) (hc : m.1 38 13 = nI nc) {v : Nat} (hv : m.1 50 (64 * P + (2 ^ nc - 1)) = nI v) (h51 : ∀ k, k < nc → m.1 51 k = nI (hdB th co U nc P k)) : ∀ (i k : Nat), k + i = nc → ∀ m1, sm wRF m m1 → rF m1 (rowH th co U nc P k) →
    ∃ m2, f_Watch_tellHands_93 (nI P) (nI (2 ^ nc - 1)) (nI k) m1 = some (nI v, m2) ∧ sm wRF m m2 ∧ rF m2 (rowH th co U nc P nc) := by
  obtain ⟨h64, h0⟩ := p6 hn
  intro i
  induction i with
  | zero =>
    intro k hk m1 hs hr
    have : k = nc := by omega
    subst this
    refine ⟨m1, ?_, hs, hr⟩
    rw [e_Watch_tellHands_93, (hs 38 13 (by unfold wRF; omega)).1, hc]
    refine (ifp (nI_le (Nat.le_refl _) (by omega))).trans ?_
    rw [ix64, in_nI (show 64 * P + (2 ^ k - 1) < 576 by omega) (by omega), nI_cl (show 64 * P + (2 ^ k - 1) < 2 ^ 31 by omega), cond_true, (hs 50 _ (by unfold wRF; omega)).1, hv]
  | succ i ih =>
    intro k hk m1 hs hr
    obtain ⟨m2, q1, q2, q3⟩ := s_Row_add (pI (hdB th co U nc P k)) hr (by rw [rowH_len]; omega)
    rw [← rowH_s] at q2
    obtain ⟨m3, t1, t2⟩ := ih (k + 1) (by omega) m2 (hs.tr q3) q2
    refine ⟨m3, ?_, t2⟩
    rw [← t1, e_Watch_tellHands_93, (hs 38 13 (by unfold wRF; omega)).1, hc]
    refine (ifn (nI_ge (a := k) (b := nc) (by omega) (by omega))).trans ?_
    rw [in_nI (show k < 6 by omega) (by omega), nI_cl (show k < 2 ^ 31 by omega), cond_true, (hs 51 k (by unfold wRF; omega)).1, h51 k (by omega)]
    show (f_Row_add (pI (hdB th co U nc P k)) m1).bind _ = _
    rw [q1, Option.bind_some, nI_1]
def wHdF (a k : Nat) : Prop := a = 50 ∨ a = 51 ∨ wRF a k
def zwF (m : jx_Mem) : Prop := ∀ k, 0 < k → k < 64 → m.1 50 k = 0
theorem F_hands (h : mineF m T P D W A U L) (g : gMine T P D W A U L) (hb : stayF m ns B) (gb : gStay P ns B) (hk : clkF m nc X) (gk : gClk nc X) (hz : zwF m) : ∃ m', sm wHdF m m' ∧ f_F_hands m = some (nI (nW (tH B X ns) (X 2) U nc P (2 ^ nc - 1)), m') ∧ rF m' (rowH (tH B X ns) (X 2) U nc P nc) ∧ zwF m' := by
  have hP := g.2.1
  have hn := gk.1
  obtain ⟨h64, h0⟩ := p6 hn
  have hall : nI (2 ^ nc) - 1 = nI (2 ^ nc - 1) := by
    have := nI_pred (2 ^ nc - 1)
    rw [show 2 ^ nc - 1 + 1 = 2 ^ nc by omega] at this
    exact this
  obtain ⟨m2, a1, a2, a3, a4⟩ := th_27 h g hb gb hk gk P 0 (by omega) (jx_w1 m 50 0 1) (sm_w1 rfl) (by
    intro q S hq hS
    have : q = 0 := by omega
    subst this
    rw [nW_0 hS, Nat.mul_zero, Nat.zero_add, w1_rd]
    by_cases c : S = 0
    · rw [if_pos ⟨rfl, c⟩, if_pos c]; rfl
    · rw [if_neg (fun z => c z.2), if_neg c, hz S (by omega) (by omega)]; rfl) (fun k q1 q2 => by rw [w1_idx (by omega)]; exact hz k q1 q2)
  obtain ⟨m3, b1, b2, b3⟩ := s_fill51 0 m2
  have s3 : sm (fun a k => a = 50 ∨ a = 51) m m3 := (a2.mono (by unfold w50; omega)).tr (b3.mono (by omega))
  have h3 : mineF m3 T P D W A U L := mineF_sm h s3 (by intro a k; unfold dMF; omega)
  have hb3 : stayF m3 ns B := stayF_sm hb s3 (by intro a k; unfold dWF; omega)
  have hk3 : clkF m3 nc X := clkF_sm hk s3 (by intro a k; unfold dWF; omega)
  have hw3 : ∀ q S, q ≤ P → S < 2 ^ nc → m3.1 50 (64 * q + S) = nI (nW (tH B X ns) (X 2) U nc q S) := fun q S q1 q2 => (b3 50 _ (by omega)).1.trans (a3 q S q1 q2)
  obtain ⟨m4, c1, c2, c3⟩ := th_64 h3 g hb3 gb hk3 gk hw3 P 0 (by omega) m3 (2 ^ (2 ^ nc - 1)) (fun _ => 0) sm.rf (Nat.pow_lt_pow_right (by omega) (by omega)) (fun S => by
    rw [Nat.testBit_two_pow, decide_eq_true_eq]
    show 2 ^ nc - 1 = S ↔ S = 2 ^ nc - 1
    exact eq_comm) (fun k hk2 => ⟨b2 k (by omega), Nat.two_pow_pos 8, fun q => by
    rw [Nat.zero_testBit]
    constructor
    · intro z; cases z
    · rintro ⟨z1, z2, _⟩; omega⟩)
  obtain ⟨m5, d1, d2, d3⟩ := s_Row_clear m4
  have hc5 : m5.1 38 13 = nI nc := by rw [(d3 38 13 (by unfold wRF; omega)).1, (c2 38 13 (by omega)).1]; exact hk3.1
  obtain ⟨m6, e1, e2, e3⟩ := th_93 (th := tH B X ns) (co := X 2) (U := U) hn hP hc5 (v := nW (tH B X ns) (X 2) U nc P (2 ^ nc - 1)) (by rw [(d3 50 _ (by unfold wRF; omega)).1, (c2 50 _ (by omega)).1]; exact hw3 P _ (Nat.le_refl _) (by omega)) (fun k hk2 => (d3 51 k (by unfold wRF; omega)).1.trans (c3 k hk2)) nc 0 (by omega) m5 sm.rf d2
  refine ⟨m6, ?_, ?_, e3, ?_⟩
  · exact (s3.mono (by unfold wHdF; omega)).tr ((c2.mono (by unfold wHdF; omega)).tr ((d3.tr e2).mono (fun _ _ z => Or.inr (Or.inr z))))
  · rw [e_F_hands, e_Watch_tellHands, e_Mine_people, Option.bind_some, h.2.1]
    try dsimp only
    rw [hk.1, sh1 (by omega), hall]
    have e0 : f_Watch_tellHands_27 (nI P) (nI (2 ^ nc - 1)) 0 (jx_w1 m 50 0 1) = some (nI (nW (tH B X ns) (X 2) U nc P (2 ^ nc - 1)), m6) := by
      refine Eq.trans a1 ?_
      rw [b1, Option.bind_some]
      refine Eq.trans c1 ?_
      rw [d1, Option.bind_some]
      exact e1
    show (f_Watch_tellHands_27 (nI P) (nI (2 ^ nc - 1)) 0 (jx_w1 m 50 0 1)).bind _ = _
    rw [e0]
    rfl
  · intro k q1 q2
    rw [(e2 50 k (by unfold wRF; omega)).1, (d3 50 k (by unfold wRF; omega)).1, (c2 50 k (by omega)).1, (b3 50 k (by omega)).1]
    exact a4 k q1 q2
/-! the model -/
def sI (co f : Nat → Nat) (q n : Nat) : Nat := fb_sm (fun i => if f i = q then co i else 0) n
theorem sI_up (co f : Nat → Nat) (p q k : Nat) : sI co (up f k p) q (k + 1) = sI co f q k + (if p = q then co k else 0) := by
  unfold sI
  rw [fb_sm_succ, up_s]
  congr 1
  apply fb_sm_cong
  intro i hi
  rw [up_n (by omega)]
def extP (th : Nat → Nat → Bool) (co U : Nat → Nat) (C P k : Nat) (f : Nat → Nat) (j q : Nat) : Prop := ∃ g, (∀ i, i < k → g i = f i) ∧ vA th co U C P g ∧ g j = q
theorem extP_s {th : Nat → Nat → Bool} {co : Nat → Nat} {C k : Nat} {f : Nat → Nat} {j q : Nat} (hk : k < C) : extP th co U C P k f j q ↔ ∃ p, p < P ∧ extP th co U C P (k + 1) (up f k p) j q := by
  constructor
  · rintro ⟨g, h1, h2, h3⟩
    refine ⟨g k, (h2.1 k hk).1, g, fun i hi => ?_, h2, h3⟩
    by_cases e : i = k
    · rw [e, up_s]
    · rw [up_n e]; exact h1 i (by omega)
  · rintro ⟨p, _, g, h1, h2, h3⟩
    refine ⟨g, fun i hi => ?_, h2, h3⟩
    rw [h1 i (by omega), up_n (by omega)]
theorem extP_no {th : Nat → Nat → Bool} {co : Nat → Nat} {C k p : Nat} {f : Nat → Nat} {j q : Nat} (hk : k < C) (hp : p < P) (h : ¬ (th k p = true ∧ sI co f p k + co k ≤ U p)) : ¬ extP th co U C P (k + 1) (up f k p) j q := by
  rintro ⟨g, h1, h2, _⟩
  apply h
  have hg : g k = p := by rw [h1 k (by omega), up_s]
  refine ⟨by have := (h2.1 k hk).2; rw [hg] at this; exact this, ?_⟩
  have e1 : sI co f p k + co k = fb_sm (fun i => if g i = p then co i else 0) (k + 1) := by
    rw [fb_sm_succ, if_pos hg]
    unfold sI
    congr 1
    apply fb_sm_cong
    intro i hi
    rw [h1 i (by omega), up_n (by omega)]
  have e2 : fb_sm (fun i => if g i = p then co i else 0) (k + 1) ≤ fb_sm (fun i => if g i = p then co i else 0) C := by
    have := fb_sm_mono (fun i => if g i = p then co i else 0) (k + 1) (C - (k + 1))
    rw [show k + 1 + (C - (k + 1)) = C by omega] at this
    exact this
  have := h2.2 p hp
  omega
def wGv (a _ : Nat) : Prop := a = 102 ∨ a = 103 ∨ a = 104
theorem gv_10 (hn : nc ≤ 6) {f : Nat → Nat} (hf : ∀ i, i < nc → f i < 8) (lev : Nat) : ∀ (i k : Nat), k + i = nc → ∀ (m1 : jx_Mem) (cb : Nat → Nat), m1.1 63 52 = nI nc → (∀ j, j < nc → m1.1 102 j = nI (f j)) → (∀ j, j < nc → m1.1 103 j = nI (cb j)) →
    ∃ m2, f_M_gives_10 (lev + 1) (nI k) m1 = some (1, m2) ∧ sm (fun a _ => a = 103) m1 m2 ∧ ∀ j, j < nc → m2.1 103 j = nI (if k ≤ j then cb j ||| 2 ^ (f j) else cb j) := by
  intro i
  induction i with
  | zero =>
    intro k hk m1 cb h0 _ hc
    refine ⟨m1, ?_, sm.rf, fun j hj => by rw [if_neg (by omega)]; exact hc j hj⟩
    rw [e_M_gives_10, h0]
    exact ifp (nI_le (by omega) (by omega))
  | succ i ih =>
    intro k hk m1 cb h0 h2 hc
    have hfk := hf k (by omega)
    obtain ⟨m2, r1, r2, r3⟩ := ih (k + 1) (by omega) (jx_w1 m1 103 k (nI (cb k ||| 2 ^ (f k)))) (up cb k (cb k ||| 2 ^ (f k))) (by rw [w1_cell (by omega)]; exact h0) (fun j hj => by rw [w1_cell (by omega)]; exact h2 j hj) (by
      intro j hj
      rw [w1_rd]
      unfold up
      by_cases d : j = k
      · rw [if_pos ⟨rfl, d⟩, if_pos d]
      · rw [if_neg (fun z => d z.2), if_neg d]; exact hc j hj)
    refine ⟨m2, ?_, r2.pre rfl, fun j hj => ?_⟩
    · rw [← r1, e_M_gives_10, h0]
      refine (ifn (nI_ge (a := k) (b := nc) (by omega) (by omega))).trans ?_
      rw [in_nI (show k < 6 by omega) (by omega), nI_cl (show k < 2 ^ 31 by omega), hc k (by omega), h2 k (by omega), sh1 (by omega), fa_or, nI_1]
      rfl
    · rw [r3 j hj]
      unfold up
      by_cases d : j = k
      · rw [if_neg (by omega), if_pos d, if_pos (by omega), d]
      · rw [if_neg d]
        by_cases e : k + 1 ≤ j
        · rw [if_pos e, if_pos (by omega)]
        · rw [if_neg e, if_neg (by omega)]
theorem gv (h : mineM m T P D W A U L) (g : gMine T P D W A U L) (hb : stayM m ns B) (gb : gStay P ns B) (hk : clkM m nc X) (gk : gClk nc X) :
    ∀ (d k : Nat), k + d = nc → ∀ lev, d < lev → ∀ (m1 : jx_Mem) (f cb : Nat → Nat), sm wGv m m1 → (∀ i, i < k → m1.1 102 i = nI (f i) ∧ f i < P ∧ tH B X ns i (f i) = true) → (∀ q, q < P → m1.1 104 q = nI (sI (X 2) f q k) ∧ sI (X 2) f q k ≤ U q) → (∀ j, j < nc → m1.1 103 j = nI (cb j) ∧ cb j < 2 ^ 8) →
    ∃ (m2 : jx_Mem) (cb2 : Nat → Nat), f_M_gives lev (nI k) m1 = some (nI (hH (tH B X ns) (X 2) U d k P (fun i => (2 ^ nc - 1).testBit i) (fun q => sI (X 2) f q k)), m2) ∧ sm wGv m m2 ∧ (∀ a q, a = 104 → P ≤ q → m2.1 a q = m1.1 a q) ∧ (∀ i, i < k → m2.1 102 i = nI (f i)) ∧ (∀ q, q < P → m2.1 104 q = nI (sI (X 2) f q k)) ∧ ∀ j, j < nc → m2.1 103 j = nI (cb2 j) ∧ cb2 j < 2 ^ 8 ∧ ∀ q, (cb2 j).testBit q = true ↔ ((cb j).testBit q = true ∨ extP (tH B X ns) (X 2) U nc P k f j q) := by
  have hP := g.2.1
  have hn := gk.1
  intro d
  induction d with
  | zero =>
    intro k hkd lev hlev m1 f cb hs h102 h104 h103
    have hkn : k = nc := by omega
    subst hkn
    obtain ⟨l, rfl⟩ : ∃ l, lev = l + 1 := ⟨lev - 1, by omega⟩
    have h52 : m1.1 63 52 = nI k := (hs 63 52 (by unfold wGv; omega)).1.trans hk.1
    obtain ⟨m2, r1, r2, r3⟩ := gv_10 hn (fun i hi => by have := (h102 i hi).2.1; omega) l k 0 (by omega) m1 cb h52 (fun j hj => (h102 j hj).1) (fun j hj => (h103 j hj).1)
    refine ⟨m2, fun j => cb j ||| 2 ^ (f j), ?_, hs.tr (r2.mono (by unfold wGv; omega)), fun a q e _ => (r2 a q (by omega)).1, fun i hi => (r2 102 i (by omega)).1.trans (h102 i hi).1, fun q hq => (r2 104 q (by omega)).1.trans (h104 q hq).1, fun j hj => ⟨?_, ?_, fun q => ?_⟩⟩
    · rw [e_M_gives, h52]
      exact (ifnp rfl).trans r1
    · rw [r3 j hj, if_pos (Nat.zero_le _)]
    · exact or_lt8 (h103 j hj).2 (by have := (h102 j hj).2.1; omega)
    · dsimp only
      rw [fb_bit_set, Bool.or_eq_true, decide_eq_true_eq]
      constructor
      · rintro (z | z)
        · exact Or.inl z
        · refine Or.inr ⟨f, fun _ _ => rfl, ⟨fun i hi => (h102 i hi).2, fun q' hq' => (h104 q' hq').2⟩, z.symm⟩
      · rintro (z | ⟨g', z1, z2, z3⟩)
        · exact Or.inl z
        · exact Or.inr (by rw [← z3, z1 j hj])
  | succ d ih =>
    intro k hkd lev hlev m1 f cb hs h102 h104 h103
    have hkn : k < nc := by omega
    obtain ⟨l, rfl⟩ : ∃ l, lev = l + 1 := ⟨lev - 1, by omega⟩
    have h52 : m1.1 63 52 = nI nc := (hs 63 52 (by unfold wGv; omega)).1.trans hk.1
    obtain ⟨x0, x1, x2⟩ := hk.2 k hkn
    obtain ⟨g0, g1, g2, g3⟩ := gk.2 k hkn
    have hb1 : stayM m1 ns B := stayM_sm hb hs (by intro a k; unfold dWM wGv; omega)
    have hpl : prB B (X 0 k) (X 1 k) (X 1 k) ns < 2 ^ 8 := prB_lt ns (fun k' hk' => by have := (gb.2 k' hk').1; omega)
    have inner : ∀ (e p : Nat), p + e = P → ∀ (m2 : jx_Mem) (cb' : Nat → Nat), sm wGv m m2 → (∀ a q, a = 104 → P ≤ q → m2.1 a q = m1.1 a q) → (∀ i, i < k → m2.1 102 i = nI (f i)) → (∀ q, q < P → m2.1 104 q = nI (sI (X 2) f q k)) → (∀ j, j < nc → m2.1 103 j = nI (cb' j) ∧ cb' j < 2 ^ 8 ∧ ∀ q, (cb' j).testBit q = true ↔ ((cb j).testBit q = true ∨ ∃ p', p' < p ∧ extP (tH B X ns) (X 2) U nc P (k + 1) (up f k p') j q)) →
        ∃ (m3 : jx_Mem) (cb2 : Nat → Nat), f_M_gives_71 (l + 1) (nI k) (nI (fb_sm (fun q => if tH B X ns k q = true ∧ sI (X 2) f q k + X 2 k ≤ U q then hH (tH B X ns) (X 2) U d (k + 1) P (fun i => (2 ^ nc - 1).testBit i) (up (fun q => sI (X 2) f q k) q (sI (X 2) f q k + X 2 k)) else 0) p)) (nI (prB B (X 0 k) (X 1 k) (X 1 k) ns)) (nI p) m2 = some (nI (fb_sm (fun q => if tH B X ns k q = true ∧ sI (X 2) f q k + X 2 k ≤ U q then hH (tH B X ns) (X 2) U d (k + 1) P (fun i => (2 ^ nc - 1).testBit i) (up (fun q => sI (X 2) f q k) q (sI (X 2) f q k + X 2 k)) else 0) P), m3) ∧ sm wGv m m3 ∧ (∀ a q, a = 104 → P ≤ q → m3.1 a q = m1.1 a q) ∧ (∀ i, i < k → m3.1 102 i = nI (f i)) ∧ (∀ q, q < P → m3.1 104 q = nI (sI (X 2) f q k)) ∧ ∀ j, j < nc → m3.1 103 j = nI (cb2 j) ∧ cb2 j < 2 ^ 8 ∧ ∀ q, (cb2 j).testBit q = true ↔ ((cb j).testBit q = true ∨ ∃ p', p' < P ∧ extP (tH B X ns) (X 2) U nc P (k + 1) (up f k p') j q) := by
      intro e
      induction e with
      | zero =>
        intro p hpe m2 cb' hs2 hh k102 k104 k103
        have : p = P := by omega
        subst this
        refine ⟨m2, cb', ?_, hs2, hh, k102, k104, k103⟩
        rw [e_M_gives_71, (hs2 63 6 (by unfold wGv; omega)).1, h.2.1]
        exact ifp (nI_le (Nat.le_refl _) (by omega))
      | succ e ihe =>
        intro p hpe m2 cb' hs2 hh k102 k104 k103
        have hp : p < P := by omega
        have hU := (g.2.2.2.2.2 p hp).2.1
        have h104p := (h104 p hp).2
        have hm2 : mineM m2 T P D W A U L := mineM_sm h hs2 (by intro a k; unfold dMM wGv; omega)
        rw [e_M_gives_71, hm2.2.1]
        have e0 : ∀ X Y : Option (Int32 × jx_Mem), (if decide (nI P ≤ nI p) = true then X else Y) = Y := fun X Y => ifn (nI_ge (a := p) (b := P) hp (by omega))
        rw [e0]
        by_cases cc : tH B X ns k p = true ∧ sI (X 2) f p k + X 2 k ≤ U p
        · rw [s_mhas_t (by omega) (by omega) cc.1, Option.bind_some]
          try dsimp only
          rw [in_nI (show p < 8 by omega) (by omega), in_nI (show k < 6 by omega) (by omega), nI_cl (show p < 2 ^ 31 by omega), nI_cl (show k < 2 ^ 31 by omega), (hm2.2.2.2.2 p hp).2.1, k104 p hp, (hs2 101 k (by unfold wGv; omega)).1, x2, nI_add]
          have hs3 : sm wGv m (jx_w1 (jx_w1 m2 104 p (nI (sI (X 2) f p k + X 2 k))) 102 k (nI p)) := (hs2.w1 (by unfold wGv; omega)).w1 (by unfold wGv; omega)
          obtain ⟨m4, cb4, b1, b2, b3, b4, b5, b6⟩ := ih (k + 1) (by omega) l (by omega) (jx_w1 (jx_w1 m2 104 p (nI (sI (X 2) f p k + X 2 k))) 102 k (nI p)) (up f k p) cb' hs3 (by
            intro i hi
            by_cases z : i = k
            · rw [z, up_s, w1_same]; exact ⟨rfl, hp, cc.1⟩
            · rw [up_n z, w1_idx z, w1_cell (by omega)]
              exact ⟨k102 i (by omega), (h102 i (by omega)).2⟩) (by
            intro q hq
            rw [sI_up, w1_cell (by omega), w1_rd]
            by_cases z : q = p
            · rw [if_pos ⟨rfl, z⟩, if_pos z.symm, z]
              exact ⟨rfl, cc.2⟩
            · rw [if_neg (fun y => z y.2), if_neg (fun y => z y.symm), Nat.add_zero]
              exact ⟨k104 q hq, (h104 q hq).2⟩) (by
            intro j hj
            rw [w1_cell (by omega), w1_cell (by omega)]
            exact ⟨(k103 j hj).1, (k103 j hj).2.1⟩)
          have h104m4 : m4.1 104 p = nI (sI (X 2) f p k + X 2 k) := by rw [b5 p hp, sI_up, if_pos rfl]
          have hsp : hH (tH B X ns) (X 2) U d (k + 1) P (fun i => (2 ^ nc - 1).testBit i) (fun q => sI (X 2) (up f k p) q (k + 1)) = hH (tH B X ns) (X 2) U d (k + 1) P (fun i => (2 ^ nc - 1).testBit i) (up (fun q => sI (X 2) f q k) p (sI (X 2) f p k + X 2 k)) := hH_sp d (k + 1) _ _ (fun q _ => by
            rw [sI_up]
            unfold up
            by_cases z : q = p
            · rw [if_pos z.symm, if_pos z, z]
            · rw [if_neg (fun y => z y.symm), if_neg z, Nat.add_zero])
          rw [hsp] at b1
          obtain ⟨m5, cb5, c1, c2⟩ := ihe (p + 1) (by omega) (jx_w1 m4 104 p (nI (sI (X 2) f p k))) cb4 (b2.w1 (by unfold wGv; omega)) (by
            intro a q ea hq
            rw [w1_rd, if_neg (by omega), b3 a q ea hq, w1_cell (by omega), w1_rd, if_neg (by omega)]
            exact hh a q ea hq) (by
            intro i hi
            rw [w1_cell (by omega), b4 i (by omega), up_n (by omega)]) (by
            intro q hq
            rw [w1_rd]
            by_cases z : q = p
            · rw [if_pos ⟨rfl, z⟩, z]
            · rw [if_neg (fun y => z y.2), b5 q hq, sI_up, if_neg (fun y => z y.symm), Nat.add_zero]) (by
            intro j hj
            obtain ⟨y1, y2, y3⟩ := b6 j hj
            rw [w1_cell (by omega)]
            refine ⟨y1, y2, fun q => ?_⟩
            rw [y3 q, (k103 j hj).2.2 q]
            constructor
            · rintro ((z | ⟨p', z1, z2⟩) | z)
              · exact Or.inl z
              · exact Or.inr ⟨p', by omega, z2⟩
              · exact Or.inr ⟨p, by omega, z⟩
            · rintro (z | ⟨p', z1, z2⟩)
              · exact Or.inl (Or.inl z)
              · by_cases y : p' = p
                · rw [y] at z2; exact Or.inr z2
                · exact Or.inl (Or.inr ⟨p', by omega, z2⟩))
          refine ⟨m5, cb5, ?_, c2⟩
          rw [← c1]
          refine (ifn ne10).trans ?_
          simp only [cond_true, Bool.and_true]
          refine (ifn (nI_nlt cc.2 (by omega))).trans ?_
          rw [nI_1, b1, Option.bind_some]
          try dsimp only
          rw [h104m4, (b2 101 k (by unfold wGv; omega)).1, x2, pk_sub (by omega), Nat.add_sub_cancel, nI_add, e_M_gives_163, nI_1, fb_sm_succ, if_pos cc]
        · obtain ⟨m5, cb5, c1, c2⟩ := ihe (p + 1) (by omega) m2 cb' hs2 hh k102 k104 (by
            intro j hj
            refine ⟨(k103 j hj).1, (k103 j hj).2.1, fun q => ?_⟩
            rw [(k103 j hj).2.2 q]
            constructor
            · rintro (z | ⟨p', z1, z2⟩)
              · exact Or.inl z
              · exact Or.inr ⟨p', by omega, z2⟩
            · rintro (z | ⟨p', z1, z2⟩)
              · exact Or.inl z
              · refine Or.inr ⟨p', ?_, z2⟩
                by_cases y : p' = p
                · rw [y] at z2; exact absurd z2 (extP_no hkn hp cc)
                · omega)
          refine ⟨m5, cb5, ?_, c2⟩
          rw [← c1]
          have f163 : f_M_gives_163 (l + 1) (nI k) (nI (fb_sm (fun q => if tH B X ns k q = true ∧ sI (X 2) f q k + X 2 k ≤ U q then hH (tH B X ns) (X 2) U d (k + 1) P (fun i => (2 ^ nc - 1).testBit i) (up (fun q => sI (X 2) f q k) q (sI (X 2) f q k + X 2 k)) else 0) p)) (nI (prB B (X 0 k) (X 1 k) (X 1 k) ns)) (nI p) m2 = f_M_gives_71 (l + 1) (nI k) (nI (fb_sm (fun q => if tH B X ns k q = true ∧ sI (X 2) f q k + X 2 k ≤ U q then hH (tH B X ns) (X 2) U d (k + 1) P (fun i => (2 ^ nc - 1).testBit i) (up (fun q => sI (X 2) f q k) q (sI (X 2) f q k + X 2 k)) else 0) (p + 1))) (nI (prB B (X 0 k) (X 1 k) (X 1 k) ns)) (nI (p + 1)) m2 := by
            rw [e_M_gives_163, nI_1, fb_sm_succ, if_neg cc]
            rfl
          by_cases ct : tH B X ns k p = true
          · rw [s_mhas_t (by omega) (by omega) ct, Option.bind_some]
            try dsimp only
            rw [in_nI (show p < 8 by omega) (by omega), in_nI (show k < 6 by omega) (by omega), nI_cl (show p < 2 ^ 31 by omega), nI_cl (show k < 2 ^ 31 by omega), (hm2.2.2.2.2 p hp).2.1, k104 p hp, (hs2 101 k (by unfold wGv; omega)).1, x2, nI_add]
            refine (ifn ne10).trans ?_
            simp only [cond_true, Bool.and_true]
            have hlt : U p < sI (X 2) f p k + X 2 k := by
              apply Classical.byContradiction
              intro z
              exact cc ⟨ct, by omega⟩
            exact (ifp (nI_lt hlt (by omega))).trans f163
          · have ct2 : (prB B (X 0 k) (X 1 k) (X 1 k) ns).testBit p = false := by simpa [tH] using ct
            rw [s_mhas_f (by omega) (by omega) ct2, Option.bind_some]
            exact (ifp eq00).trans f163
    obtain ⟨m3, cb3, i1, i2, i3, i4, i5, i6⟩ := inner P 0 (by omega) m1 cb hs (fun _ _ _ _ => rfl) (fun i hi => (h102 i hi).1) (fun q hq => (h104 q hq).1) (fun j hj => ⟨(h103 j hj).1, (h103 j hj).2, fun q => by
      constructor
      · intro z; exact Or.inl z
      · rintro (z | ⟨p', z, _⟩)
        · exact z
        · exact absurd z (Nat.not_lt_zero p')⟩)
    refine ⟨m3, cb3, ?_, i2, i3, i4, i5, fun j hj => ⟨(i6 j hj).1, (i6 j hj).2.1, fun q => ?_⟩⟩
    · have hbit : (2 ^ nc - 1).testBit k = true := by rw [Nat.testBit_two_pow_sub_one, decide_eq_true hkn]
      rw [hH_s, hbit, if_pos rfl, e_M_gives, h52]
      refine (ifnn (fun z => by have := (nI_eq (by omega) (by omega)).mp z; omega)).trans ?_
      rw [in_nI (show k < 6 by omega) (by omega), nI_cl (show k < 2 ^ 31 by omega), cond_true, cond_true, cond_true, (hs 99 k (by unfold wGv; omega)).1, (hs 100 k (by unfold wGv; omega)).1, x0, x1, s_there hb1 gb hP g0 g1 g1, Option.bind_some]
      exact i1
    · rw [(i6 j hj).2.2 q, extP_s hkn]
def spM (m : jx_Mem) : Prop := ∀ q, q < 8 → m.1 104 q = 0
theorem hm_7 (hn : nc ≤ 6) : ∀ (i k : Nat), k + i = nc → ∀ m1 : jx_Mem, m1.1 63 52 = nI nc → (∀ j, j < k → m1.1 103 j = 0) → ∃ m2, f_M_hands_7 (nI k) m1 = (f_M_gives 120 0 m2).bind (fun p1 => let m1 := jx_w1 p1.2 63 1 0; f_M_hands_41 p1.1 0 m1) ∧ sm (fun a _ => a = 103) m1 m2 ∧ ∀ j, j < nc → m2.1 103 j = 0 := by
  intro i
  induction i with
  | zero =>
    intro k hk m1 h0 hz
    refine ⟨m1, ?_, sm.rf, fun j hj => hz j (by omega)⟩
    rw [e_M_hands_7, h0]
    exact ifp (nI_le (by omega) (by omega))
  | succ i ih =>
    intro k hk m1 h0 hz
    obtain ⟨m2, r1, r2, r3⟩ := ih (k + 1) (by omega) (jx_w1 m1 103 k 0) (by rw [w1_cell (by omega)]; exact h0) (by
      intro j hj
      rw [w1_rd]
      by_cases c : j = k
      · rw [if_pos ⟨rfl, c⟩]
      · rw [if_neg (fun z => c z.2)]; exact hz j (by omega))
    refine ⟨m2, ?_, r2.pre rfl, r3⟩
    rw [← r1, e_M_hands_7, h0]
    refine (ifn (nI_ge (a := k) (b := nc) (by omega) (by omega))).trans ?_
    rw [in_nI (show k < 6 by omega) (by omega), nI_cl (by omega), nI_1]
    rfl
theorem hm_41 {th : Nat → Nat → Bool} {co : Nat → Nat} (hn : nc ≤ 6) (hc : m.1 63 52 = nI nc) (h103 : ∀ k, k < nc → m.1 103 k = nI (hdB th co U nc P k)) (v : Int32) : ∀ (i k : Nat), k + i = nc → ∀ m1, sm wRM m m1 → rM m1 (rowH th co U nc P k) →
    ∃ m2, f_M_hands_41 v (nI k) m1 = some (v, m2) ∧ sm wRM m m2 ∧ rM m2 (rowH th co U nc P nc) := by
  intro i
  induction i with
  | zero =>
    intro k hk m1 hs hr
    have : k = nc := by omega
    subst this
    refine ⟨m1, ?_, hs, hr⟩
    rw [e_M_hands_41, (hs 63 52 (by unfold wRM; omega)).1, hc]
    exact ifp (nI_le (Nat.le_refl _) (by omega))
  | succ i ih =>
    intro k hk m1 hs hr
    obtain ⟨m2, q1, q2, q3⟩ := s_enters (pI (hdB th co U nc P k)) hr (by rw [rowH_len]; omega)
    rw [← rowH_s] at q2
    obtain ⟨m3, t1, t2⟩ := ih (k + 1) (by omega) m2 (hs.tr q3) q2
    refine ⟨m3, ?_, t2⟩
    rw [← t1, e_M_hands_41, (hs 63 52 (by unfold wRM; omega)).1, hc]
    refine (ifn (nI_ge (a := k) (b := nc) (by omega) (by omega))).trans ?_
    rw [in_nI (show k < 6 by omega) (by omega), nI_cl (show k < 2 ^ 31 by omega), cond_true, (hs 103 k (by unfold wRM; omega)).1, h103 k (by omega)]
    show (f_M_enters (pI (hdB th co U nc P k)) m1).bind _ = _
    rw [q1, Option.bind_some, nI_1]
def wHdM (a k : Nat) : Prop := wGv a k ∨ wTM a k
theorem M_hands (h : mineM m T P D W A U L) (g : gMine T P D W A U L) (hb : stayM m ns B) (gb : gStay P ns B) (hk : clkM m nc X) (gk : gClk nc X) (hz : spM m) : ∃ m', sm wHdM m m' ∧ f_M_hands m = some (nI (nW (tH B X ns) (X 2) U nc P (2 ^ nc - 1)), m') ∧ rM m' (rowH (tH B X ns) (X 2) U nc P nc) ∧ spM m' := by
  have hP := g.2.1
  have hn := gk.1
  have s1 : sm (fun a k => a = 63 ∧ k = 0) m (jx_w1 m 63 0 0) := sm_w1 ⟨rfl, rfl⟩
  have hk1 : clkM (jx_w1 m 63 0 0) nc X := clkM_sm hk s1 (by intro a k; unfold dWM; omega)
  obtain ⟨m2, a1, a2, a3⟩ := hm_7 hn nc 0 (by omega) (jx_w1 m 63 0 0) hk1.1 (fun j hj => absurd hj (Nat.not_lt_zero j))
  have s2 : sm (fun a k => a = 103 ∨ (a = 63 ∧ k = 0)) m m2 := (s1.mono (by omega)).tr (a2.mono (by omega))
  have h2 : mineM m2 T P D W A U L := mineM_sm h s2 (by intro a k; unfold dMM; omega)
  have hb2 : stayM m2 ns B := stayM_sm hb s2 (by intro a k; unfold dWM; omega)
  have hk2 : clkM m2 nc X := clkM_sm hk s2 (by intro a k; unfold dWM; omega)
  obtain ⟨m3, cb, b1, b2, b3, b4, b5, b6⟩ := gv h2 g hb2 gb hk2 gk nc 0 (by omega) 120 (by omega) m2 (fun _ => 0) (fun _ => 0) sm.rf (fun i hi => absurd hi (Nat.not_lt_zero i)) (fun q hq => ⟨(s2 104 q (by omega)).1.trans (hz q (by omega)), Nat.zero_le _⟩) (fun j hj => ⟨a3 j hj, Nat.two_pow_pos 8⟩)
  have hcb : ∀ j, j < nc → cb j = hdB (tH B X ns) (X 2) U nc P j := by
    intro j hj
    obtain ⟨_, y2, y3⟩ := b6 j hj
    apply hdB_is hP hj y2
    intro q
    rw [y3 q, Nat.zero_testBit]
    constructor
    · rintro (z | ⟨f, _, z2, z3⟩)
      · cases z
      · exact ⟨by rw [← z3]; exact (z2.1 j hj).1, f, z2, z3⟩
    · rintro ⟨_, f, z2, z3⟩
      exact Or.inr ⟨f, fun i hi => absurd hi (Nat.not_lt_zero i), z2, z3⟩
  have hk3 : clkM m3 nc X := clkM_sm hk2 b2 (by intro a k; unfold dWM wGv; omega)
  obtain ⟨m5, c1, c2, c3⟩ := hm_41 (m := jx_w1 m3 63 1 0) (th := tH B X ns) (co := X 2) (U := U) (P := P) hn ((w1_idx (by omega)).trans hk3.1) (fun k hk' => (w1_cell (by omega)).trans (by rw [(b6 k hk').1, hcb k hk'])) (nI (nW (tH B X ns) (X 2) U nc P (2 ^ nc - 1))) nc 0 (by omega) (jx_w1 m3 63 1 0) sm.rf (rM_0 m3)
  have s5 : sm wTM m3 m5 := (sm_w1 (by unfold wTM; omega)).tr (c2.mono (by unfold wRM wTM; omega))
  refine ⟨m5, ?_, ?_, c3, ?_⟩
  · exact (s2.mono (fun a k z => by unfold wHdM wGv wTM; omega)).tr ((b2.mono (fun _ _ z => Or.inl z)).tr (s5.mono (fun _ _ z => Or.inr z)))
  · rw [e_M_hands]
    refine Eq.trans a1 ?_
    have b1' : f_M_gives 120 0 m2 = some (nI (nW (tH B X ns) (X 2) U nc P (2 ^ nc - 1)), m3) := b1
    rw [b1', Option.bind_some]
    exact c1
  · intro q hq
    rw [(s5 104 q (by unfold wTM; omega)).1]
    by_cases c : q < P
    · rw [b5 q c]; rfl
    · rw [b3 104 q rfl (by omega), (s2 104 q (by omega)).1]
      exact hz q hq
end HANDS2
