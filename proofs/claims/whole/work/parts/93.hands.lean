/-! hands: the class -/
def tH (B X : Nat → Nat → Nat) (ns : Nat) : Nat → Nat → Bool := fun k p => (prB B (X 0 k) (X 1 k) (X 1 k) ns).testBit p
theorem bs_or {p : Nat → Bool} {n : Nat} (hp : p n = true) : bs p n ||| 2 ^ n = bs p (n + 1) := by
  rw [bs_s, if_pos hp]
  have h1 := Nat.two_pow_add_eq_or_of_lt (bs_lt p n) 1
  rw [Nat.mul_one] at h1
  rw [Nat.or_comm, ← h1, Nat.add_comm]
theorem bs_nf {p : Nat → Bool} {n : Nat} (hp : p n = false) : bs p n = bs p (n + 1) := by
  rw [bs_s, if_neg (by simp [hp]), Nat.add_zero]
theorem bs64 (p : Nat → Bool) {n : Nat} (h : n ≤ 64) : bs p n < 2 ^ 64 := Nat.lt_of_lt_of_le (bs_lt p n) (Nat.pow_le_pow_right (by omega) h)
theorem pw64 {n : Nat} (h : n < 64) : 2 ^ n < 2 ^ 64 := Nat.pow_lt_pow_right (by omega) h
theorem lsh1 {n : Nat} (h : n < 64) : (1 : Int64) <<< ((nI n).toInt64 &&& 63) = lN (2 ^ n) := by
  have := wb_shl 1 h
  rw [Nat.one_mul] at this
  exact this
theorem lbit {n k : Nat} (hn : n < 2 ^ 64) (hk : k < 64) : lg_cmp ((jx_lushr (lN n) (nI k)) &&& 1) 0 = 0 ↔ n.testBit k = false := by
  unfold jx_lushr
  rw [wb_bit hn hk, lg_zero, Nat.testBit_eq_decide_div_mod_eq]
  constructor
  · intro h
    have := (pk_lEQ (b := 0) (show n / 2 ^ k % 2 < 2 ^ 63 by omega) (by omega)).mp h
    rw [this]
    rfl
  · intro h
    have h2 : ¬ n / 2 ^ k % 2 = 1 := by simpa using h
    rw [show n / 2 ^ k % 2 = 0 by omega]
    rfl
theorem p6 {n : Nat} (h : n ≤ 6) : 2 ^ n ≤ 64 ∧ 0 < 2 ^ n := ⟨Nat.pow_le_pow_right (by omega) h, Nat.two_pow_pos n⟩
section HANDS
variable {m m' : jx_Mem} {T P : Nat} {D : Nat → Nat → Nat} {W A U L : Nat → Nat}
variable {ns nc : Nat} {B X : Nat → Nat → Nat}
theorem s_sumOf (hk : clkF m nc X) (gk : gClk nc X) {r : Nat} (hr : r < 64) : f_Watch_sumOf (nI r) m = some (nI (sumB r (X 2) nc), m) := by
  have hn := gk.1
  have key := lp_up (fun i x => f_Watch_sumOf_4 (nI r) x i m) (fun n => nI (sumB r (X 2) n)) nc (by
    intro n hn2
    rw [e_Watch_sumOf_4, hk.1]
    refine (ifn (nI_ge (a := n) (b := nc) hn2 (by omega))).trans ?_
    by_cases c : r.testBit n = true
    · rw [s_has_t (by omega) (by omega) c, Option.bind_some]
      refine (ifn ne10).trans ?_
      rw [in_nI (show n < 6 by omega) (by omega), nI_cl (by omega), cond_true]
      try dsimp only
      rw [(hk.2 n hn2).2.2, e_Watch_sumOf_29, nI_add, nI_1, sumB_s, if_pos c]
    · have c2 : r.testBit n = false := by simpa using c
      rw [s_has_f (by omega) (by omega) c2, Option.bind_some]
      refine (ifp eq00).trans ?_
      rw [e_Watch_sumOf_29, nI_1, sumB_s, if_neg c]
      rfl) 0 (Nat.zero_le _)
  rw [e_Watch_sumOf]
  refine Eq.trans (b := f_Watch_sumOf_4 (nI r) (nI (sumB r (X 2) nc)) (nI nc) m) key ?_
  rw [e_Watch_sumOf_4, hk.1]
  exact ifp (nI_le (Nat.le_refl _) (by omega))
theorem s_canTake (h : mineF m T P D W A U L) (g : gMine T P D W A U L) (hb : stayF m ns B) (gb : gStay P ns B) (hk : clkF m nc X) (gk : gClk nc X) {p : Nat} (hp : p < P) :
    f_Watch_canTake (nI p) (nI (2 ^ nc - 1)) m = some (lN (bs (cn (tH B X ns) (X 2) U nc p) (2 ^ nc)), m) := by
  have hP := g.2.1
  have hn := gk.1
  obtain ⟨h64, h0⟩ := p6 hn
  have hU := (g.2.2.2.2.2 p hp).2.1
  have k1 := lp_up (fun i x => f_Watch_canTake_5 (nI p) (nI (2 ^ nc - 1)) x i m) (fun n => nI (bs (fun k => tH B X ns k p) n)) nc (by
    intro n hn2
    obtain ⟨b0, b1, b2⟩ := hk.2 n hn2
    obtain ⟨g0, g1, g2, g3⟩ := gk.2 n hn2
    have hpl : prB B (X 0 n) (X 1 n) (X 1 n) ns < 2 ^ 8 := prB_lt ns (fun k hk => by have := (gb.2 k hk).1; omega)
    rw [e_Watch_canTake_5, hk.1]
    refine (ifn (nI_ge (a := n) (b := nc) hn2 (by omega))).trans ?_
    rw [in_nI (show n < 6 by omega) (by omega), nI_cl (by omega), cond_true, cond_true, b0, b1, s_present hb gb hP g0 g1 g1, Option.bind_some]
    try dsimp only
    by_cases c : (prB B (X 0 n) (X 1 n) (X 1 n) ns).testBit p = true
    · rw [s_has_t (by omega) (by omega) c, Option.bind_some]
      refine (ifn ne10).trans ?_
      rw [e_Watch_canTake_52, nI_1, or_bs_t (p := fun k => tH B X ns k p) (by omega) c]
    · have c2 : (prB B (X 0 n) (X 1 n) (X 1 n) ns).testBit p = false := by simpa using c
      rw [s_has_f (by omega) (by omega) c2, Option.bind_some]
      refine (ifp eq00).trans ?_
      rw [e_Watch_canTake_52, nI_1, bs_f (p := fun k => tH B X ns k p) c2]) 0 (Nat.zero_le _)
  have k2 := lp_up (fun i x => f_Watch_canTake_64 (nI p) (nI (2 ^ nc - 1)) (nI (bs (fun k => tH B X ns k p) nc)) x i m) (fun r => lN (bs (cn (tH B X ns) (X 2) U nc p) r)) (2 ^ nc) (by
    intro r hr
    have hthl := bs_lt (fun k => tH B X ns k p) nc
    rw [e_Watch_canTake_64]
    refine (ifn (nI_nlt (a := 2 ^ nc - 1) (b := r) (by omega) (by omega))).trans ?_
    rw [fa_and]
    have hand : r &&& bs (fun k => tH B X ns k p) nc ≤ r := Nat.and_le_left
    by_cases c : r &&& bs (fun k => tH B X ns k p) nc = r
    · refine (ifnp (by rw [c])).trans ?_
      have hsb : sumB r (X 2) nc ≤ nc * 99 := sumB_le (fun k hk2 => (gk.2 k hk2).2.2.2)
      rw [s_sumOf hk gk (by omega), Option.bind_some]
      try dsimp only
      rw [s_purseOf h g hp, Option.bind_some]
      try dsimp only
      by_cases d : sumB r (X 2) nc ≤ U p
      · refine (ifn (nI_nlt d (by omega))).trans ?_
        have hc : cn (tH B X ns) (X 2) U nc p r = true := by unfold cn; rw [c, decide_eq_true d]; simp
        rw [e_Watch_canTake_105, nI_1, lsh1 (by omega), wb_or (bs64 _ (by omega)) (pw64 (by omega)), bs_or hc]
      · refine (ifp (nI_lt (by omega) (by omega))).trans ?_
        have hc : cn (tH B X ns) (X 2) U nc p r = false := by unfold cn; rw [decide_eq_false d, Bool.and_false]
        rw [e_Watch_canTake_105, nI_1, bs_nf hc]
    · refine (ifnn (fun z => c ((nI_eq (by omega) (by omega)).mp z))).trans ?_
      have hc : cn (tH B X ns) (X 2) U nc p r = false := by
        unfold cn
        rw [show (r &&& bs (fun k => tH B X ns k p) nc == r) = false by simpa using c, Bool.false_and]
      rw [e_Watch_canTake_105, nI_1, bs_nf hc]) 0 (Nat.zero_le _)
  rw [e_Watch_canTake]
  refine Eq.trans (b := f_Watch_canTake_5 (nI p) (nI (2 ^ nc - 1)) (nI (bs (fun k => tH B X ns k p) nc)) (nI nc) m) k1 ?_
  rw [e_Watch_canTake_5, hk.1]
  refine (ifp (nI_le (Nat.le_refl _) (by omega))).trans ?_
  refine Eq.trans (b := f_Watch_canTake_64 (nI p) (nI (2 ^ nc - 1)) (nI (bs (fun k => tH B X ns k p) nc)) (lN (bs (cn (tH B X ns) (X 2) U nc p) (2 ^ nc))) (nI (2 ^ nc)) m) k2 ?_
  rw [e_Watch_canTake_64]
  exact ifp (nI_lt (by omega) (by omega))
def w50 (a _ : Nat) : Prop := a = 50
def wyF (m : jx_Mem) (th : Nat → Nat → Bool) (co U : Nat → Nat) (C p : Nat) : Prop := ∀ S, S < 2 ^ C → m.1 50 (64 * p + S) = nI (nW th co U C p S)
theorem ix64 (a b : Nat) : nI a * 64 + nI b = nI (64 * a + b) := nI_ix 64 a b
theorem gt_10 {th : Nat → Nat → Bool} {co : Nat → Nat} {p : Nat} (hp : p < 8) (hn : nc ≤ 6) : ∀ (i G : Nat), G + i = 2 ^ nc → ∀ m1, (∀ S, S < 2 ^ nc → m1.1 50 (64 * p + S) = nI (nW th co U nc p S)) → (∀ S, S < G → m1.1 50 (64 * (p + 1) + S) = nI (nW th co U nc (p + 1) S)) →
    ∃ m2, f_Watch_giveTo_10 (nI p) (nI (2 ^ nc - 1)) (lN (bs (cn th co U nc p) (2 ^ nc))) (nI G) m1 = some m2 ∧ sm (fun a k => a = 50 ∧ 64 * (p + 1) ≤ k) m1 m2 ∧ (∀ S, S < 2 ^ nc → m2.1 50 (64 * (p + 1) + S) = nI (nW th co U nc (p + 1) S)) := by
  obtain ⟨h64, h0⟩ := p6 hn
  intro i
  induction i with
  | zero =>
    intro G hG m1 h1 h2
    have : G = 2 ^ nc := by omega
    subst this
    refine ⟨m1, ?_, sm.rf, h2⟩
    rw [e_Watch_giveTo_10]
    exact ifp (nI_lt (by omega) (by omega))
  | succ i ih =>
    intro G hG m1 h1 h2
    have hGl : G < 2 ^ nc := by omega
    obtain ⟨m2, r1, r2, r3⟩ := ih (G + 1) (by omega) (jx_w1 m1 50 (64 * (p + 1) + G) (nI (nW th co U nc (p + 1) G))) (fun S hS => by rw [w1_idx (by omega)]; exact h1 S hS) (by
      intro S hS
      rw [w1_rd]
      by_cases c : S = G
      · rw [if_pos ⟨rfl, by omega⟩, c]
      · rw [if_neg (by omega)]; exact h2 S (by omega))
    refine ⟨m2, ?_, r2.pre ⟨rfl, by omega⟩, r3⟩
    have key := lp_up (fun j x => f_Watch_giveTo_22 (nI p) (nI (2 ^ nc - 1)) (lN (bs (cn th co U nc p) (2 ^ nc))) (nI G) x j m1) (fun r => nI (fb_sm (fun r => if (r &&& G == r && cn th co U nc p r) = true then nW th co U nc p (G ^^^ r) else 0) r)) (G + 1) (by
      intro r hr
      have hand : r &&& G ≤ r := Nat.and_le_left
      have hxl : G ^^^ r < 2 ^ nc := Nat.xor_lt_two_pow hGl (by omega)
      rw [e_Watch_giveTo_22]
      refine (ifn (nI_nlt (a := G) (b := r) (by omega) (by omega))).trans ?_
      rw [fa_and, fb_sm_succ]
      by_cases c : r &&& G = r
      · refine (ifnp (by rw [c])).trans ?_
        have hbt : (bs (cn th co U nc p) (2 ^ nc)).testBit r = cn th co U nc p r := by rw [bs_tb, decide_eq_true (show r < 2 ^ nc by omega), Bool.true_and]
        by_cases d : cn th co U nc p r = true
        · refine (ifn (fun z => by have := (lbit (bs64 _ (by omega)) (by omega)).mp z; rw [hbt, d] at this; cases this)).trans ?_
          rw [fb_xorI, ix64, in_nI (show 64 * p + (G ^^^ r) < 576 by omega) (by omega), nI_cl (show 64 * p + (G ^^^ r) < 2 ^ 31 by omega), cond_true, h1 _ hxl, nI_add, e_Watch_giveTo_70, nI_1, if_pos (by rw [c, d]; simp)]
        · have d2 : cn th co U nc p r = false := by simpa using d
          refine (ifp ((lbit (bs64 _ (by omega)) (by omega)).mpr (by rw [hbt]; exact d2))).trans ?_
          rw [e_Watch_giveTo_70, nI_1, if_neg (by rw [d2, Bool.and_false]; decide)]
          rfl
      · refine (ifnn (fun z => c ((nI_eq (by omega) (by omega)).mp z))).trans ?_
        rw [e_Watch_giveTo_70, nI_1, if_neg (by rw [show (r &&& G == r) = false by simpa using c, Bool.false_and]; decide)]
        rfl) 0 (Nat.zero_le _)
    rw [e_Watch_giveTo_10]
    refine (ifn (nI_nlt (a := 2 ^ nc - 1) (b := G) (by omega) (by omega))).trans ?_
    refine Eq.trans (b := f_Watch_giveTo_22 (nI p) (nI (2 ^ nc - 1)) (lN (bs (cn th co U nc p) (2 ^ nc))) (nI G) (nI (fb_sm (fun r => if (r &&& G == r && cn th co U nc p r) = true then nW th co U nc p (G ^^^ r) else 0) (G + 1))) (nI (G + 1)) m1) key ?_
    rw [← r1, ← nW_cut hGl, e_Watch_giveTo_22]
    refine (ifp (nI_lt (by omega) (by omega))).trans ?_
    rw [nI_1, ix64, in_nI (show 64 * (p + 1) + G < 576 by omega) (by omega), nI_cl (show 64 * (p + 1) + G < 2 ^ 31 by omega), nI_1]
    rfl
theorem th_27 (h : mineF m T P D W A U L) (g : gMine T P D W A U L) (hb : stayF m ns B) (gb : gStay P ns B) (hk : clkF m nc X) (gk : gClk nc X) : ∀ (i p : Nat), p + i = P → ∀ m1, sm w50 m m1 → (∀ q S, q ≤ p → S < 2 ^ nc → m1.1 50 (64 * q + S) = nI (nW (tH B X ns) (X 2) U nc q S)) → (∀ k, 0 < k → k < 64 → m1.1 50 k = 0) →
    ∃ m2, f_Watch_tellHands_27 (nI P) (nI (2 ^ nc - 1)) (nI p) m1 = (f_Arr_fill_r51 0 m2).bind (fun p1 => f_Watch_tellHands_64 (nI P) (nI (2 ^ nc - 1)) (lN (2 ^ (2 ^ nc - 1))) (nI P - 1) p1) ∧ sm w50 m m2 ∧ (∀ q S, q ≤ P → S < 2 ^ nc → m2.1 50 (64 * q + S) = nI (nW (tH B X ns) (X 2) U nc q S)) ∧ (∀ k, 0 < k → k < 64 → m2.1 50 k = 0) := by
  have hP := g.2.1
  have hn := gk.1
  obtain ⟨h64, h0⟩ := p6 hn
  intro i
  induction i with
  | zero =>
    intro p hp m1 hs hw hz
    have : p = P := by omega
    subst this
    refine ⟨m1, ?_, hs, hw, hz⟩
    rw [e_Watch_tellHands_27]
    refine (ifp (nI_le (Nat.le_refl _) (by omega))).trans ?_
    rw [lsh1 (show 2 ^ nc - 1 < 64 by omega)]
  | succ i ih =>
    intro p hp m1 hs hw hz
    have h1 : mineF m1 T P D W A U L := mineF_sm h hs (by intro a k; unfold dMF w50; omega)
    have hb1 : stayF m1 ns B := stayF_sm hb hs (by intro a k; unfold dWF w50; omega)
    have hk1 : clkF m1 nc X := clkF_sm hk hs (by intro a k; unfold dWF w50; omega)
    obtain ⟨m2, r1, r2, r3⟩ := gt_10 (th := tH B X ns) (co := X 2) (U := U) (show p < 8 by omega) hn (2 ^ nc) 0 (by omega) m1 (fun S hS => hw p S (Nat.le_refl _) hS) (fun S hS => absurd hS (Nat.not_lt_zero S))
    obtain ⟨m3, t1, t2⟩ := ih (p + 1) (by omega) m2 (hs.tr (r2.mono (by unfold w50; omega))) (by
      intro q S hq hS
      by_cases c : q = p + 1
      · rw [c]; exact r3 S hS
      · rw [(r2 50 _ (by omega)).1]; exact hw q S (by omega) hS) (fun k q1 q2 => by rw [(r2 50 k (by omega)).1]; exact hz k q1 q2)
    refine ⟨m3, ?_, t2⟩
    rw [← t1, e_Watch_tellHands_27]
    refine (ifn (nI_ge (a := p) (b := P) (by omega) (by omega))).trans ?_
    rw [e_Watch_giveTo, s_canTake h1 g hb1 gb hk1 gk (show p < P by omega), Option.bind_some]
    show (f_Watch_giveTo_10 (nI p) (nI (2 ^ nc - 1)) (lN (bs (cn (tH B X ns) (X 2) U nc p) (2 ^ nc))) (nI 0) m1).bind _ = _
    rw [r1, Option.bind_some, nI_1]
/-! going back -/
theorem mh_2 (hn : nc ≤ 6) {r p : Nat} (hr : r < 64) (hp : p < 8) : ∀ (i k : Nat), k + i = nc → ∀ (m1 : jx_Mem) (wh : Nat → Nat), m1.1 38 13 = nI nc → (∀ j, j < nc → m1.1 51 j = nI (wh j)) →
    ∃ m2, f_Watch_markHand_2 (nI r) (nI p) (nI k) m1 = some m2 ∧ sm (fun a _ => a = 51) m1 m2 ∧ (∀ j, j < nc → m2.1 51 j = nI (if k ≤ j ∧ r.testBit j = true then wh j ||| 2 ^ p else wh j)) := by
  intro i
  induction i with
  | zero =>
    intro k hk m1 wh h0 hw
    refine ⟨m1, ?_, sm.rf, fun j hj => by rw [if_neg (by omega)]; exact hw j hj⟩
    rw [e_Watch_markHand_2, h0]
    exact ifp (nI_le (by omega) (by omega))
  | succ i ih =>
    intro k hk m1 wh h0 hw
    rw [e_Watch_markHand_2, h0]
    have e0 : ∀ X Y : Option jx_Mem, (if decide (nI nc ≤ nI k) = true then X else Y) = Y := fun X Y => ifn (nI_ge (a := k) (b := nc) (by omega) (by omega))
    rw [e0]
    by_cases c : r.testBit k = true
    · obtain ⟨m2, r1, r2, r3⟩ := ih (k + 1) (by omega) (jx_w1 m1 51 k (nI (wh k ||| 2 ^ p))) (up wh k (wh k ||| 2 ^ p)) (by rw [w1_cell (by omega)]; exact h0) (by
        intro j hj
        rw [w1_rd]
        unfold up
        by_cases d : j = k
        · rw [if_pos ⟨rfl, d⟩, if_pos d]
        · rw [if_neg (fun z => d z.2), if_neg d]; exact hw j hj)
      refine ⟨m2, ?_, r2.pre rfl, fun j hj => ?_⟩
      · rw [← r1, s_has_t (by omega) (by omega) c, Option.bind_some]
        refine (ifn ne10).trans ?_
        try dsimp only
        rw [in_nI (show k < 6 by omega) (by omega), nI_cl (by omega), cond_true, hw k (by omega), sh1 (by omega), fa_or]
        show f_Watch_markHand_30 _ _ _ _ = _
        rw [e_Watch_markHand_30, nI_1]
      · rw [r3 j hj]
        unfold up
        by_cases d : j = k
        · rw [if_neg (by omega), if_pos d, d, if_pos ⟨Nat.le_refl _, c⟩]
        · rw [if_neg d]
          by_cases e : k + 1 ≤ j ∧ r.testBit j = true
          · rw [if_pos e, if_pos ⟨by omega, e.2⟩]
          · rw [if_neg e, if_neg (fun z => e ⟨by omega, z.2⟩)]
    · have c2 : r.testBit k = false := by simpa using c
      obtain ⟨m2, r1, r2, r3⟩ := ih (k + 1) (by omega) m1 wh h0 hw
      refine ⟨m2, ?_, r2, fun j hj => ?_⟩
      · rw [← r1, s_has_f (by omega) (by omega) c2, Option.bind_some]
        refine (ifp eq00).trans ?_
        rw [e_Watch_markHand_30, nI_1]
      · rw [r3 j hj]
        by_cases e : k + 1 ≤ j ∧ r.testBit j = true
        · rw [if_pos e, if_pos ⟨by omega, e.2⟩]
        · rw [if_neg e, if_neg (fun z => e ⟨by
            by_cases q : j = k
            · rw [q, c2] at z; cases z.2
            · omega, z.2⟩)]
/-- a road back: from what was given, by what one took -/
def evT (th : Nat → Nat → Bool) (co U : Nat → Nat) (C p op G r : Nat) : Prop := op.testBit G = true ∧ r &&& G = r ∧ cn th co U C p r = true ∧ 0 < nW th co U C p (G ^^^ r)
def invT (th : Nat → Nat → Bool) (co U : Nat → Nat) (C p op : Nat) (wh0 wh : Nat → Nat) (bf : Nat) (Q : Nat → Nat → Prop) : Prop :=
  bf < 2 ^ (2 ^ C) ∧ (∀ S, bf.testBit S = true ↔ ∃ G r, Q G r ∧ evT th co U C p op G r ∧ S = G ^^^ r) ∧ ∀ k, k < C → wh k < 2 ^ 8 ∧ ∀ q, (wh k).testBit q = true ↔ ((wh0 k).testBit q = true ∨ (q = p ∧ ∃ G r, Q G r ∧ evT th co U C p op G r ∧ r.testBit k = true))
theorem invT_cg {th : Nat → Nat → Bool} {co : Nat → Nat} {C p op bf : Nat} {wh0 wh : Nat → Nat} {Q Q' : Nat → Nat → Prop} (h : invT th co U C p op wh0 wh bf Q) (hq : ∀ G r, evT th co U C p op G r → (Q G r ↔ Q' G r)) : invT th co U C p op wh0 wh bf Q' := by
  obtain ⟨h1, h2, h3⟩ := h
  refine ⟨h1, fun S => ?_, fun k hk => ⟨(h3 k hk).1, fun q => ?_⟩⟩
  · rw [h2]
    constructor
    · rintro ⟨G, r, q1, q2, q3⟩; exact ⟨G, r, (hq G r q2).mp q1, q2, q3⟩
    · rintro ⟨G, r, q1, q2, q3⟩; exact ⟨G, r, (hq G r q2).mpr q1, q2, q3⟩
  · rw [(h3 k hk).2 q]
    constructor
    · rintro (z | ⟨z, G, r, q1, q2, q3⟩)
      · exact Or.inl z
      · exact Or.inr ⟨z, G, r, (hq G r q2).mp q1, q2, q3⟩
    · rintro (z | ⟨z, G, r, q1, q2, q3⟩)
      · exact Or.inl z
      · exact Or.inr ⟨z, G, r, (hq G r q2).mpr q1, q2, q3⟩
theorem tb_23 {th : Nat → Nat → Bool} {co : Nat → Nat} {p op : Nat} (hp : p < 8) (hn : nc ≤ 6) (hop : op < 2 ^ (2 ^ nc)) {wh0 : Nat → Nat} {G : Nat} (hG : G < 2 ^ nc) : ∀ (i r : Nat), r + i = G + 1 → ∀ (m1 : jx_Mem) (wh : Nat → Nat) (bf : Nat), m1.1 38 13 = nI nc → (∀ S, S < 2 ^ nc → m1.1 50 (64 * p + S) = nI (nW th co U nc p S)) → (∀ j, j < nc → m1.1 51 j = nI (wh j)) → invT th co U nc p op wh0 wh bf (fun G' r' => G' < G ∨ (G' = G ∧ r' < r)) →
    ∃ m2 wh2 bf2, f_Watch_traceBack_23 (nI p) (nI (2 ^ nc - 1)) (lN op) (lN (bs (cn th co U nc p) (2 ^ nc))) (lN bf) (nI G) (nI r) m1 = f_Watch_traceBack_14 (nI p) (nI (2 ^ nc - 1)) (lN op) (lN (bs (cn th co U nc p) (2 ^ nc))) (lN bf2) (nI (G + 1)) m2 ∧ sm (fun a _ => a = 51) m1 m2 ∧ (∀ j, j < nc → m2.1 51 j = nI (wh2 j)) ∧ invT th co U nc p op wh0 wh2 bf2 (fun G' _ => G' < G + 1) := by
  obtain ⟨h64, h0⟩ := p6 hn
  have hop64 : op < 2 ^ 64 := Nat.lt_of_lt_of_le hop (Nat.pow_le_pow_right (by omega) h64)
  have sub_le' : ∀ {r' : Nat}, r' &&& G = r' → r' ≤ G := fun {r'} z => by have : r' &&& G ≤ G := Nat.and_le_right; omega
  have fin : ∀ (m1 : jx_Mem) (wh : Nat → Nat) (bf : Nat), f_Watch_traceBack_118 (nI p) (nI (2 ^ nc - 1)) (lN op) (lN (bs (cn th co U nc p) (2 ^ nc))) (lN bf) (nI G) m1 = f_Watch_traceBack_14 (nI p) (nI (2 ^ nc - 1)) (lN op) (lN (bs (cn th co U nc p) (2 ^ nc))) (lN bf) (nI (G + 1)) m1 := fun m1 wh bf => by rw [e_Watch_traceBack_118, nI_1]
  intro i
  induction i with
  | zero =>
    intro r hr m1 wh bf hc h50 h51 hi
    refine ⟨m1, wh, bf, ?_, sm.rf, h51, ?_⟩
    · rw [e_Watch_traceBack_23]
      refine (ifp (nI_lt (by omega) (by omega))).trans (fin m1 wh bf)
    · refine invT_cg hi (fun G' r' hev => ?_)
      have : G' = G → r' ≤ G := fun z => sub_le' (by rw [← z]; exact hev.2.1)
      constructor
      · rintro (z | z) <;> omega
      · intro z
        by_cases q : G' < G
        · exact Or.inl q
        · have e : G' = G := by omega
          have := this e
          exact Or.inr ⟨e, by omega⟩
  | succ i ih =>
    intro r hr m1 wh bf hc h50 h51 hi
    have hrG : r ≤ G := by omega
    rw [e_Watch_traceBack_23]
    have e0 : ∀ X Y : Option (Int64 × jx_Mem), (if decide (nI G < nI r) = true then X else Y) = Y := fun X Y => ifn (nI_nlt (by omega) (by omega))
    rw [e0]
    by_cases c0 : op.testBit G = true
    · have e1 : ∀ X Y : Option (Int64 × jx_Mem), (if decide (lg_cmp ((jx_lushr (lN op) (nI G)) &&& 1) 0 = 0) = true then X else Y) = Y := fun X Y => ifn (fun z => by have := (lbit hop64 (by omega)).mp z; rw [c0] at this; cases this)
      rw [e1, fa_and]
      have hand : r &&& G ≤ r := Nat.and_le_left
      have skip : ¬ evT th co U nc p op G r → invT th co U nc p op wh0 wh bf (fun G' r' => G' < G ∨ (G' = G ∧ r' < r + 1)) := by
        intro hne
        refine invT_cg hi (fun G' r' hev => ?_)
        constructor
        · rintro (z | z)
          · exact Or.inl z
          · exact Or.inr ⟨z.1, by omega⟩
        · rintro (z | z)
          · exact Or.inl z
          · refine Or.inr ⟨z.1, ?_⟩
            by_cases q : r' = r
            · rw [z.1, q] at hev; exact absurd hev hne
            · omega
      by_cases c1 : r &&& G = r
      · have e2 : ∀ X Y : Option (Int64 × jx_Mem), (if decide (¬ nI (r &&& G) = nI r) = true then X else Y) = Y := fun X Y => ifnp (by rw [c1])
        rw [e2]
        have hbt : (bs (cn th co U nc p) (2 ^ nc)).testBit r = cn th co U nc p r := by rw [bs_tb, decide_eq_true (show r < 2 ^ nc by omega), Bool.true_and]
        by_cases c2 : cn th co U nc p r = true
        · have e3 : ∀ X Y : Option (Int64 × jx_Mem), (if decide (lg_cmp ((jx_lushr (lN (bs (cn th co U nc p) (2 ^ nc))) (nI r)) &&& 1) 0 = 0) = true then X else Y) = Y := fun X Y => ifn (fun z => by have := (lbit (bs64 _ (by omega)) (by omega)).mp z; rw [hbt, c2] at this; cases this)
          rw [e3, e_Watch_traceBack_68]
          have hxl : G ^^^ r < 2 ^ nc := Nat.xor_lt_two_pow hG (by omega)
          have hnl := nW_le (th := th) (co := co) (U := U) (C := nc) (p := p) (S := G ^^^ r) (by omega) hn
          have e4 : ∀ X Y : Option (Int64 × jx_Mem), (if decide ((1 : Int32) = 0) = true then X else Y) = Y := fun X Y => ifn ne10
          rw [e4, fb_xorI, ix64, in_nI (show 64 * p + (G ^^^ r) < 576 by omega) (by omega), nI_cl (show 64 * p + (G ^^^ r) < 2 ^ 31 by omega), cond_true, h50 _ hxl]
          by_cases c3 : 0 < nW th co U nc p (G ^^^ r)
          · have hev : evT th co U nc p op G r := ⟨c0, c1, c2, c3⟩
            obtain ⟨m2, a1, a2, a3⟩ := mh_2 hn (show r < 64 by omega) hp nc 0 (by omega) m1 wh hc h51
            have hbf64 : bf < 2 ^ 64 := Nat.lt_of_lt_of_le hi.1 (Nat.pow_le_pow_right (by omega) h64)
            have hp2 : 2 ^ (G ^^^ r) < 2 ^ (2 ^ nc) := Nat.pow_lt_pow_right (by omega) hxl
            obtain ⟨m3, wh3, bf3, b1, b2, b3⟩ := ih (r + 1) (by omega) m2 (fun j => if 0 ≤ j ∧ r.testBit j = true then wh j ||| 2 ^ p else wh j) (bf ||| 2 ^ (G ^^^ r)) ((a2 38 13 (by omega)).1.trans hc) (fun S hS => (a2 50 _ (by omega)).1.trans (h50 S hS)) a3 (by
              obtain ⟨i1, i2, i3⟩ := hi
              refine ⟨Nat.or_lt_two_pow i1 hp2, fun S => ?_, fun k hk => ⟨?_, fun q => ?_⟩⟩
              · rw [fb_bit_set, Bool.or_eq_true, i2, decide_eq_true_eq]
                constructor
                · rintro (⟨G', r', q1, q2, q3⟩ | z)
                  · exact ⟨G', r', by omega, q2, q3⟩
                  · exact ⟨G, r, by omega, hev, z⟩
                · rintro ⟨G', r', q1, q2, q3⟩
                  by_cases z : G' = G ∧ r' = r
                  · rw [z.1, z.2] at q3; exact Or.inr q3
                  · exact Or.inl ⟨G', r', by omega, q2, q3⟩
              · dsimp only
                split
                · exact or_lt8 (i3 k hk).1 hp
                · exact (i3 k hk).1
              · dsimp only
                by_cases z : r.testBit k = true
                · rw [if_pos ⟨Nat.zero_le _, z⟩, fb_bit_set, Bool.or_eq_true, (i3 k hk).2 q, decide_eq_true_eq]
                  constructor
                  · rintro ((y | ⟨y, G', r', q1, q2, q3⟩) | y)
                    · exact Or.inl y
                    · exact Or.inr ⟨y, G', r', by omega, q2, q3⟩
                    · exact Or.inr ⟨y, G, r, by omega, hev, z⟩
                  · rintro (y | ⟨y, G', r', q1, q2, q3⟩)
                    · exact Or.inl (Or.inl y)
                    · exact Or.inr y
                · rw [if_neg (fun y => z y.2), (i3 k hk).2 q]
                  constructor
                  · rintro (y | ⟨y, G', r', q1, q2, q3⟩)
                    · exact Or.inl y
                    · exact Or.inr ⟨y, G', r', by omega, q2, q3⟩
                  · rintro (y | ⟨y, G', r', q1, q2, q3⟩)
                    · exact Or.inl y
                    · refine Or.inr ⟨y, G', r', ?_, q2, q3⟩
                      by_cases x : G' = G ∧ r' = r
                      · rw [x.2] at q3; exact absurd q3 z
                      · omega)
            refine ⟨m3, wh3, bf3, ?_, a2.tr b2, b3⟩
            rw [← b1]
            refine (ifn (nI_ge (a := 0) (b := nW th co U nc p (G ^^^ r)) c3 (by omega))).trans ?_
            rw [e_Watch_markHand]
            show (f_Watch_markHand_2 (nI r) (nI p) (nI 0) m1).bind _ = _
            rw [a1, Option.bind_some, lsh1 (by omega), wb_or hbf64 (pw64 (by omega)), e_Watch_traceBack_112, nI_1]
          · obtain ⟨m3, wh3, bf3, b1, b2, b3⟩ := ih (r + 1) (by omega) m1 wh bf hc h50 h51 (skip (fun z => c3 z.2.2.2))
            refine ⟨m3, wh3, bf3, ?_, b2, b3⟩
            rw [← b1]
            refine (ifp (nI_le (b := 0) (by omega) (by omega))).trans ?_
            rw [e_Watch_traceBack_112, nI_1]
        · have c2' : cn th co U nc p r = false := by simpa using c2
          obtain ⟨m3, wh3, bf3, b1, b2, b3⟩ := ih (r + 1) (by omega) m1 wh bf hc h50 h51 (skip (fun z => c2 z.2.2.1))
          refine ⟨m3, wh3, bf3, ?_, b2, b3⟩
          rw [← b1]
          refine (ifp ((lbit (bs64 _ (by omega)) (by omega)).mpr (by rw [hbt]; exact c2'))).trans ?_
          rw [e_Watch_traceBack_67, e_Watch_traceBack_68]
          refine (ifp eq00).trans ?_
          rw [e_Watch_traceBack_112, nI_1]
      · obtain ⟨m3, wh3, bf3, b1, b2, b3⟩ := ih (r + 1) (by omega) m1 wh bf hc h50 h51 (skip (fun z => c1 z.2.1))
        refine ⟨m3, wh3, bf3, ?_, b2, b3⟩
        rw [← b1]
        refine (ifnn (fun z => c1 ((nI_eq (by omega) (by omega)).mp z))).trans ?_
        rw [e_Watch_traceBack_67, e_Watch_traceBack_68]
        refine (ifp eq00).trans ?_
        rw [e_Watch_traceBack_112, nI_1]
    · have c0' : op.testBit G = false := by simpa using c0
      refine ⟨m1, wh, bf, ?_, sm.rf, h51, ?_⟩
      · exact (ifp ((lbit hop64 (by omega)).mpr c0')).trans (fin m1 wh bf)
      · refine invT_cg hi (fun G' r' hev => ?_)
        have hne : G' ≠ G := fun z => by have := hev.1; rw [z] at this; exact c0 this
        constructor
        · rintro (z | z) <;> omega
        · intro z; exact Or.inl (by omega)
theorem tb_14 {th : Nat → Nat → Bool} {co : Nat → Nat} {p op : Nat} (hp : p < 8) (hn : nc ≤ 6) (hop : op < 2 ^ (2 ^ nc)) {wh0 : Nat → Nat} : ∀ (i G : Nat), G + i = 2 ^ nc → ∀ (m1 : jx_Mem) (wh : Nat → Nat) (bf : Nat), m1.1 38 13 = nI nc → (∀ S, S < 2 ^ nc → m1.1 50 (64 * p + S) = nI (nW th co U nc p S)) → (∀ j, j < nc → m1.1 51 j = nI (wh j)) → invT th co U nc p op wh0 wh bf (fun G' _ => G' < G) →
    ∃ m2 wh2 bf2, f_Watch_traceBack_14 (nI p) (nI (2 ^ nc - 1)) (lN op) (lN (bs (cn th co U nc p) (2 ^ nc))) (lN bf) (nI G) m1 = some (lN bf2, m2) ∧ sm (fun a _ => a = 51) m1 m2 ∧ (∀ j, j < nc → m2.1 51 j = nI (wh2 j)) ∧ invT th co U nc p op wh0 wh2 bf2 (fun G' _ => G' < 2 ^ nc) := by
  obtain ⟨h64, h0⟩ := p6 hn
  intro i
  induction i with
  | zero =>
    intro G hG m1 wh bf hc h50 h51 hi
    have : G = 2 ^ nc := by omega
    subst this
    refine ⟨m1, wh, bf, ?_, sm.rf, h51, hi⟩
    rw [e_Watch_traceBack_14]
    exact ifp (nI_lt (by omega) (by omega))
  | succ i ih =>
    intro G hG m1 wh bf hc h50 h51 hi
    obtain ⟨m2, wh2, bf2, a1, a2, a3, a4⟩ := tb_23 hp hn hop (show G < 2 ^ nc by omega) (G + 1) 0 (by omega) m1 wh bf hc h50 h51 (invT_cg hi (fun G' r' _ => by omega))
    obtain ⟨m3, wh3, bf3, b1, b2, b3⟩ := ih (G + 1) (by omega) m2 wh2 bf2 ((a2 38 13 (by omega)).1.trans hc) (fun S hS => (a2 50 _ (by omega)).1.trans (h50 S hS)) a3 a4
    refine ⟨m3, wh3, bf3, ?_, a2.tr b2, b3⟩
    rw [← b1, ← a1, e_Watch_traceBack_14]
    exact ifn (nI_nlt (a := 2 ^ nc - 1) (b := G) (by omega) (by omega))
end HANDS
