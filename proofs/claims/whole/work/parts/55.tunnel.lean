/-! tunnel: the class's one pass and the model's many give the same lengths -/
def nd (D : Nat → Nat → Nat) (a b l x y : Nat) : Nat := min (D x y) (min (D x a + l + D b y) (D x b + l + D a y))
def u2 (E : Nat → Nat → Nat) (i j v : Nat) : Nat → Nat → Nat := fun x y => if x = i ∧ y = j then v else E x y
def sh (E : Nat → Nat → Nat) (x y v : Nat) : Nat → Nat → Nat := fun p q => if (x ≠ y ∧ v < E x y) ∧ ((p = x ∧ q = y) ∨ (p = y ∧ q = x)) then v else E p q
theorem mn_nI {a b : Nat} (ha : a < 2 ^ 31) (hb : b < 2 ^ 31) : jx_mn (nI a) (nI b) = nI (min a b) := by
  unfold jx_mn
  by_cases h : b < a
  · rw [if_pos (nI_lt h ha), Nat.min_eq_right (by omega)]
  · rw [if_neg (nI_nlt (by omega) hb), Nat.min_eq_left (by omega)]
theorem mx_nI {a b : Nat} (ha : a < 2 ^ 31) (hb : b < 2 ^ 31) : jx_mx (nI a) (nI b) = nI (max a b) := by
  unfold jx_mx
  by_cases h : a < b
  · rw [if_pos (nI_lt h hb), Nat.max_eq_right (by omega)]
  · rw [if_neg (nI_nlt (by omega) ha), Nat.max_eq_left (by omega)]
section TUNNEL
variable {m : jx_Mem} {T P : Nat} {D E : Nat → Nat → Nat} {W A U L : Nat → Nat} {a b l : Nat}
theorem nd_1 (x y : Nat) : nd D a b l x y ≤ D x y := by unfold nd; omega
theorem nd_2 (x y : Nat) : nd D a b l x y ≤ D x a + l + D b y := by unfold nd; omega
theorem nd_3 (x y : Nat) : nd D a b l x y ≤ D x b + l + D a y := by unfold nd; omega
theorem nd_c (x y : Nat) : nd D a b l x y = D x y ∨ nd D a b l x y = D x a + l + D b y ∨ nd D a b l x y = D x b + l + D a y := by unfold nd; omega
def gTri (D : Nat → Nat → Nat) : Prop := ∀ i j k, i < 10 → j < 10 → k < 10 → D i k ≤ D i j + D j k
theorem nd_dist (g : gDist D) (hl : 1 ≤ l) (ha : a < 10) (hb : b < 10) : gDist (nd D a b l) := by
  refine ⟨fun i hi => ?_, fun i j hi hj => ⟨?_, ?_, fun hn => ?_⟩⟩
  · have h1 := nd_1 (D := D) (a := a) (b := b) (l := l) i i
    rw [g.1 i hi] at h1
    omega
  · have h1 := nd_1 (D := D) (a := a) (b := b) (l := l) i j
    have h2 := (g.2 i j hi hj).1
    omega
  · have h1 := (g.2 i j hi hj).2.1
    have h2 := (g.2 i a hi ha).2.1
    have h3 := (g.2 b j hb hj).2.1
    have h4 := (g.2 i b hi hb).2.1
    have h5 := (g.2 a j ha hj).2.1
    unfold nd
    omega
  · have h1 := (g.2 i j hi hj).2.2 hn
    have h2 := nd_c (D := D) (a := a) (b := b) (l := l) i j
    omega
theorem nd_tri (g : gDist D) (t : gTri D) (ha : a < 10) (hb : b < 10) : gTri (nd D a b l) := by
  intro i j k hi hj hk
  have c1 := nd_c (D := D) (a := a) (b := b) (l := l) i j
  have c2 := nd_c (D := D) (a := a) (b := b) (l := l) j k
  have l1 := nd_1 (D := D) (a := a) (b := b) (l := l) i k
  have l2 := nd_2 (D := D) (a := a) (b := b) (l := l) i k
  have l3 := nd_3 (D := D) (a := a) (b := b) (l := l) i k
  have t1 := t i j k hi hj hk
  have t2 := t i j a hi hj ha
  have t3 := t i j b hi hj hb
  have t4 := t a j k ha hj hk
  have t5 := t b j k hb hj hk
  have t6 := t i a k hi ha hk
  have t7 := t i b k hi hb hk
  have t8 := t a j b ha hj hb
  have t9 := t b j a hb hj ha
  rcases c1 with c1 | c1 | c1 <;> rcases c2 with c2 | c2 | c2 <;> omega
theorem nd_ab (g : gDist D) (ha : a < 10) (hb : b < 10) : nd D a b l a b ≤ l := by
  have h1 := nd_2 (D := D) (a := a) (b := b) (l := l) a b
  rw [g.1 a ha, g.1 b hb] at h1
  omega
/-- whatever stands between: the same -/
theorem nd_mid (g : gDist D) (t : gTri D) (hl : 1 ≤ l) (ha : a < 10) (hb : b < 10) (h : ∀ x y, x < 10 → y < 10 → nd D a b l x y ≤ E x y ∧ E x y ≤ D x y) {x y : Nat} (hx : x < 10) (hy : y < 10) : min (E x y) (min (E x a + l + E b y) (E x b + l + E a y)) = nd D a b l x y := by
  have t' := nd_tri (l := l) g t ha hb
  have g' := nd_dist (l := l) g hl ha hb
  have ab := nd_ab (l := l) g ha hb
  have e1 := h x y hx hy
  have e2 := h x a hx ha
  have e3 := h b y hb hy
  have e4 := h x b hx hb
  have e5 := h a y ha hy
  have c := nd_c (D := D) (a := a) (b := b) (l := l) x y
  have t1 := t' x a y hx ha hy
  have t2 := t' a b y ha hb hy
  have t3 := t' x b y hx hb hy
  have t4 := t' b a y hb ha hy
  have s1 := (g'.2 a b ha hb).2.1
  omega
theorem mineF_way (h : mineF m T P E W A U L) {i j v : Nat} (hi : i < 10) (hj : j < 10) : mineF (jx_w1 m 4 (10 * i + j) (nI v)) T P (u2 E i j v) W A U L := by
  refine ⟨h.1, h.2.1, fun x y hx hy => ?_, h.2.2.2.1, h.2.2.2.2⟩
  rw [w1_rd]
  unfold u2
  by_cases q : x = i ∧ y = j
  · rw [if_pos q, if_pos ⟨rfl, by omega⟩]
  · rw [if_neg q, if_neg (by omega)]
    exact h.2.2.1 x y hx hy
theorem tun_57 (g : gDist D) (t : gTri D) (hl : 1 ≤ l) (hl2 : l ≤ 20) (ha : a < 10) (hb : b < 10) {i : Nat} (hi : i < 10) : ∀ (k j : Nat), j + k = 10 → ∀ (m : jx_Mem) (E : Nat → Nat → Nat), mineF m T P E W A U L → (∀ x y, x < 10 → y < 10 → nd D a b l x y ≤ E x y ∧ E x y ≤ D x y) → (∀ x y, x < 10 → y < 10 → 10 * x + y < 10 * i + j → E x y = nd D a b l x y) →
    ∃ m' E', f_Mine_addTunnel_57 (nI a) (nI b) (nI l) (nI i) (nI j) m = f_Mine_addTunnel_47 (nI a) (nI b) (nI l) (nI (i + 1)) m' ∧ mineF m' T P E' W A U L ∧ (∀ x y, x < 10 → y < 10 → nd D a b l x y ≤ E' x y ∧ E' x y ≤ D x y) ∧ (∀ x y, x < 10 → y < 10 → 10 * x + y < 10 * (i + 1) → E' x y = nd D a b l x y) ∧ sm (fun q _ => q = 4) m m' := by
  intro k
  induction k with
  | zero =>
    intro j hj m E h1 h2 h3
    have hj2 : j = 10 := by omega
    subst hj2
    refine ⟨m, E, ?_, h1, h2, fun x y hx hy hq => h3 x y hx hy (by omega), sm.rf⟩
    rw [e_Mine_addTunnel_57, if_pos (by decide), nI_1]
  | succ k ih =>
    intro j hj m E h1 h2 h3
    have hj2 : j < 10 := by omega
    have b0 : ∀ x y, x < 10 → y < 10 → E x y ≤ 999 := fun x y hx hy => Nat.le_trans (h2 x y hx hy).2 (g.2 x y hx hy).1
    have b1 := b0 i a hi ha
    have b2 := b0 b j hb hj2
    have b3 := b0 i b hi hb
    have b4 := b0 a j ha hj2
    have b5 := b0 i j hi hj2
    have hv := nd_mid g t hl ha hb h2 hi hj2
    obtain ⟨m', E', r1, r2, r3, r4, r5⟩ := ih (j + 1) (by omega) (jx_w1 m 4 (10 * i + j) (nI (nd D a b l i j))) (u2 E i j (nd D a b l i j)) (mineF_way h1 hi hj2) (by
      intro x y hx hy
      unfold u2
      by_cases q : x = i ∧ y = j
      · rw [if_pos q, q.1, q.2]
        exact ⟨Nat.le_refl _, nd_1 i j⟩
      · rw [if_neg q]
        exact h2 x y hx hy) (by
      intro x y hx hy hq
      unfold u2
      by_cases q : x = i ∧ y = j
      · rw [if_pos q, q.1, q.2]
      · rw [if_neg q]
        exact h3 x y hx hy (by omega))
    refine ⟨m', E', ?_, r2, r3, r4, r5.pre rfl⟩
    rw [← r1, e_Mine_addTunnel_57]
    refine (ifn (nI_ge (a := j) (b := 10) hj2 (by omega))).trans ?_
    simp only [s_dist h1 hi ha, s_dist h1 hb hj2, s_dist h1 hi hb, s_dist h1 ha hj2, s_dist h1 hi hj2, Option.bind_some, ix10, in_nI (show 10 * i + j < 100 by omega) (by omega), nI_cl (show 10 * i + j < 2 ^ 31 by omega), nI_add, mn_nI (show E i a + l + E b j < 2 ^ 31 by omega) (show E i b + l + E a j < 2 ^ 31 by omega)]
    rw [mn_nI (by omega) (by omega), hv, nI_1]
    rfl
theorem tun_47 (g : gDist D) (t : gTri D) (hl : 1 ≤ l) (hl2 : l ≤ 20) (ha : a < 10) (hb : b < 10) : ∀ (k i : Nat), i + k = 10 → ∀ (m : jx_Mem) (E : Nat → Nat → Nat), mineF m T P E W A U L → (∀ x y, x < 10 → y < 10 → nd D a b l x y ≤ E x y ∧ E x y ≤ D x y) → (∀ x y, x < 10 → y < 10 → 10 * x + y < 10 * i → E x y = nd D a b l x y) →
    ∃ m', f_Mine_addTunnel_47 (nI a) (nI b) (nI l) (nI i) m = some (nI T, m') ∧ mineF m' (T + 1) P (nd D a b l) W A U L ∧ sm (fun q j => q = 4 ∨ (q = 3 ∧ j = 5)) m m' := by
  intro k
  induction k with
  | zero =>
    intro i hi m E h1 h2 h3
    have hi2 : i = 10 := by omega
    subst hi2
    refine ⟨jx_w1 m 3 5 (nI (T + 1)), ?_, ⟨w1_same _ _ _ _, ?_, fun x y hx hy => ?_, h1.2.2.2.1, h1.2.2.2.2⟩, sm_w1 (Or.inr ⟨rfl, rfl⟩)⟩
    · rw [e_Mine_addTunnel_47, if_pos (by decide)]
      dsimp only
      rw [w1_same, h1.1, nI_1, nI_pred]
    · rw [w1_idx (by omega)]; exact h1.2.1
    · show m.1 4 (10 * x + y) = _
      rw [h1.2.2.1 x y hx hy, h3 x y hx hy (by omega)]
  | succ k ih =>
    intro i hi m E h1 h2 h3
    obtain ⟨m1, E1, r1, r2, r3, r4, r5⟩ := tun_57 g t hl hl2 ha hb (show i < 10 by omega) 10 0 (by omega) m E h1 h2 (fun x y hx hy hq => h3 x y hx hy (by omega))
    obtain ⟨m2, q1, q2, q3⟩ := ih (i + 1) (by omega) m1 E1 r2 r3 r4
    refine ⟨m2, ?_, q2, (r5.mono (fun q k h => Or.inl h)).tr q3⟩
    rw [e_Mine_addTunnel_47]
    refine (ifn (nI_ge (a := i) (b := 10) (by omega) (by omega))).trans ?_
    rw [← q1, ← r1]
    rfl
theorem F_tunnel (h : mineF m T P D W A U L) (g : gMine T P D W A U L) (x y z : Int32) : ∃ m', f_F_tunnel x y z m = some (if ((0 ≤ x.toInt ∧ x.toInt < 10) ∧ (0 ≤ y.toInt ∧ y.toInt < 10)) ∧ x ≠ y ∧ (1 ≤ z.toInt ∧ z.toInt ≤ 20) ∧ T < 16 then nI T else -1, m') ∧
    (if ((0 ≤ x.toInt ∧ x.toInt < 10) ∧ (0 ≤ y.toInt ∧ y.toInt < 10)) ∧ x ≠ y ∧ (1 ≤ z.toInt ∧ z.toInt ≤ 20) ∧ T < 16 then mineF m' (T + 1) P (nd D (jn x) (jn y) (jn z)) W A U L else m' = m) ∧ sm (fun q j => q = 4 ∨ (q = 3 ∧ j = 5)) m m' := by
  rw [e_F_tunnel, e_Mine_addTunnel]
  by_cases hx : 0 ≤ x.toInt ∧ x.toInt < 10
  · by_cases hy : 0 ≤ y.toInt ∧ y.toInt < 10
    · by_cases hxy : x = y
      · refine ⟨m, ?_, ?_, sm.rf⟩
        · rw [if_neg (fun q => q.2.1 hxy)]
          simp [s_pl_t hx, s_pl_t hy, hxy, e_Mine_addTunnel_21]
        · rw [if_neg (fun q => q.2.1 hxy)]
      · by_cases hz : 1 ≤ z.toInt ∧ z.toInt ≤ 20
        · have hz2 : f_F_within z 1 20 m = some (1, m) := s_wi_t (lo := 1) (hi := 20) hz
          by_cases hT : T < 16
          · obtain ⟨a, ha, rfl⟩ := nI_get hx.1 (show x.toInt < ((10 : Nat) : Int) from hx.2)
            obtain ⟨b, hb, rfl⟩ := nI_get hy.1 (show y.toInt < ((10 : Nat) : Int) from hy.2)
            obtain ⟨l, hl, rfl⟩ := nI_get (b := 21) (show 0 ≤ z.toInt by omega) (show z.toInt < ((21 : Nat) : Int) by omega)
            rw [nI_toInt (by omega)] at hz
            obtain ⟨m', q1, q2, q3⟩ := tun_47 g.2.2.1 g.2.2.2.1 (show 1 ≤ l by omega) (show l ≤ 20 by omega) ha hb 10 0 (by omega) m D h (fun x y _ _ => ⟨nd_1 x y, Nat.le_refl _⟩) (fun x y _ _ hq => by omega)
            refine ⟨m', ?_, ?_, q3⟩
            · rw [if_pos ⟨⟨hx, hy⟩, hxy, by rw [nI_toInt (by omega)]; omega, hT⟩]
              have q4 : (nI T) < 16 := nI_lt (b := 16) hT (by omega)
              simp [s_pl_t hx, s_pl_t hy, hxy, hz2, h.1, q4]
              rw [show (0 : Int32) = nI 0 from rfl, q1]
              rfl
            · rw [if_pos ⟨⟨hx, hy⟩, hxy, by rw [nI_toInt (by omega)]; omega, hT⟩, jn_nI (by omega), jn_nI (by omega), jn_nI (by omega)]
              exact q2
          · refine ⟨m, ?_, ?_, sm.rf⟩
            · rw [if_neg (fun q => hT q.2.2.2)]
              have q4 : ¬ (nI T) < 16 := nI_nlt (b := 16) (by omega) (by have := g.1; omega)
              simp [s_pl_t hx, s_pl_t hy, hxy, hz2, h.1, q4, e_Mine_addTunnel_42]
            · rw [if_neg (fun q => hT q.2.2.2)]
        · have hz2 : f_F_within z 1 20 m = some (0, m) := s_wi_f (lo := 1) (hi := 20) hz
          refine ⟨m, ?_, ?_, sm.rf⟩
          · rw [if_neg (fun q => hz q.2.2.1)]
            simp [s_pl_t hx, s_pl_t hy, hxy, hz2, e_Mine_addTunnel_42]
          · rw [if_neg (fun q => hz q.2.2.1)]
    · refine ⟨m, ?_, ?_, sm.rf⟩
      · rw [if_neg (fun q => hy q.1.2)]
        simp [s_pl_t hx, s_pl_f hy, e_Mine_addTunnel_21]
      · rw [if_neg (fun q => hy q.1.2)]
  · refine ⟨m, ?_, ?_, sm.rf⟩
    · rw [if_neg (fun q => hx q.1.1)]
      simp [s_pl_f hx, e_Mine_addTunnel_21]
    · rw [if_neg (fun q => hx q.1.1)]
end TUNNEL
