/-! tunnel: the model's side -/
section TUNNEL2
variable {m : jx_Mem} {T P : Nat} {D E B : Nat → Nat → Nat} {W A U L : Nat → Nat} {a b l : Nat}
theorem sh_dist (g : gDist E) {x y v : Nat} (hx : x < 10) (hy : y < 10) (hv : x ≠ y → 1 ≤ v) : gDist (sh E x y v) := by
  refine ⟨fun i hi => ?_, fun i j hi hj => ?_⟩
  · unfold sh
    rw [if_neg (by omega)]
    exact g.1 i hi
  · have h1 := g.2 i j hi hj
    have h2 := g.2 x y hx hy
    unfold sh
    by_cases q : (x ≠ y ∧ v < E x y) ∧ ((i = x ∧ j = y) ∨ (i = y ∧ j = x))
    · rw [if_pos q, if_pos ⟨q.1, by omega⟩]
      exact ⟨by omega, rfl, fun _ => hv q.1.1⟩
    · rw [if_neg q, if_neg (fun z => q ⟨z.1, by omega⟩)]
      exact h1
theorem sh_le {x y v : Nat} (g : gDist E) (hx : x < 10) (hy : y < 10) (p q : Nat) : sh E x y v p q ≤ E p q := by
  unfold sh
  by_cases c : (x ≠ y ∧ v < E x y) ∧ ((p = x ∧ q = y) ∨ (p = y ∧ q = x))
  · rw [if_pos c]
    rcases c.2 with c2 | c2
    · rw [c2.1, c2.2]; omega
    · rw [c2.1, c2.2]
      have := (g.2 x y hx hy).2.1
      omega
  · rw [if_neg c]
    exact Nat.le_refl _
theorem s_short (h : mineM m T P E W A U L) (g : gDist E) {x y v : Nat} (hx : x < 10) (hy : y < 10) (hv : x ≠ y → 1 ≤ v) (hv2 : v < 2 ^ 31) : ∃ m', f_M_shortens (nI x) (nI y) (nI v) m = some m' ∧ mineM m' T P (sh E x y v) W A U L ∧ sm (fun q _ => q = 65) m m' := by
  have h3 := (g.2 x y hx hy).1
  rw [e_M_shortens]
  by_cases q : x = y
  · refine ⟨m, ?_, ?_, sm.rf⟩
    · rw [if_pos (by simp [q]), e_M_shortens_39]
    · refine ⟨h.1, h.2.1, fun i j hi hj hn => ?_, h.2.2.2⟩
      have e : sh E x y v i j = E i j := if_neg (by omega)
      rw [e]
      exact h.2.2.1 i j hi hj hn
  · have q2 : ¬ nI x = nI y := fun z => q ((nI_eq (by omega) (by omega)).mp z)
    rw [if_neg (dn q2), s_far h g hx hy, Option.bind_some]
    by_cases c : v < E x y
    · refine ⟨jx_w1 (jx_w1 m 65 (10 * x + y) (nI v)) 65 (10 * y + x) (nI v), ?_, ?_, (sm_w1 (W := fun q _ => q = 65) rfl).w1 rfl⟩
      · refine (ifn (nI_ge (a := v) (b := E x y) c (by omega))).trans ?_
        simp only [xi10, in_nI (show 10 * x + y < 100 by omega) (by omega), nI_cl (show 10 * x + y < 2 ^ 31 by omega), in_nI (show 10 * y + x < 100 by omega) (by omega), nI_cl (show 10 * y + x < 2 ^ 31 by omega), e_M_shortens_39]
        rfl
      · refine ⟨h.1, h.2.1, fun i j hi hj hn => ?_, h.2.2.2⟩
        rw [w1_rd, w1_rd]
        by_cases d : (i = x ∧ j = y) ∨ (i = y ∧ j = x)
        · have e : sh E x y v i j = v := if_pos ⟨⟨q, c⟩, d⟩
          rw [e, if_neg (show ¬ v = 999 by omega)]
          by_cases d2 : i = y ∧ j = x
          · rw [if_pos ⟨rfl, by omega⟩]
          · rw [if_neg (by omega), if_pos ⟨rfl, by omega⟩]
        · have e : sh E x y v i j = E i j := if_neg (fun z => d z.2)
          rw [e, if_neg (by omega), if_neg (by omega)]
          exact h.2.2.1 i j hi hj hn
    · refine ⟨m, ?_, ?_, sm.rf⟩
      · refine (ifp (nI_le (a := E x y) (b := v) (by omega) hv2)).trans ?_
        rw [e_M_shortens_39]
      · refine ⟨h.1, h.2.1, fun i j hi hj hn => ?_, h.2.2.2⟩
        have e : sh E x y v i j = E i j := if_neg (fun z => c z.1.2)
        rw [e]
        exact h.2.2.1 i j hi hj hn
/-- what one round over a place in between gives -/
def rnd (N B E : Nat → Nat → Nat) (k z : Nat) : Prop := gDist E ∧ (∀ x y, x < 10 → y < 10 → N x y ≤ E x y ∧ E x y ≤ B x y) ∧ (∀ x y, x < 10 → y < 10 → 10 * x + y < z → E x y ≤ B x k + B k y)
theorem rnd_s {N : Nat → Nat → Nat} (tN : gTri N) {k x y : Nat} (hk : k < 10) (hx : x < 10) (hy : y < 10) (h : rnd N B E k (10 * x + y)) : rnd N B (sh E x y (E x k + E k y)) k (10 * x + (y + 1)) := by
  obtain ⟨g, h2, h3⟩ := h
  have hv : x ≠ y → 1 ≤ E x k + E k y := by
    intro q
    by_cases c : x = k
    · have := (g.2 k y hk hy).2.2 (by omega)
      omega
    · have := (g.2 x k hx hk).2.2 c
      omega
  have e1 := h2 x k hx hk
  have e2 := h2 k y hk hy
  have e3 := tN x k y hx hk hy
  refine ⟨sh_dist g hx hy hv, fun p q hp hq => ⟨?_, Nat.le_trans (sh_le g hx hy p q) (h2 p q hp hq).2⟩, fun p q hp hq hz => ?_⟩
  · unfold sh
    have f1 := h2 p q hp hq
    by_cases c : (x ≠ y ∧ E x k + E k y < E x y) ∧ ((p = x ∧ q = y) ∨ (p = y ∧ q = x))
    · rw [if_pos c]
      rcases c.2 with d | d
      · rw [d.1, d.2]; omega
      · have g1 := (g.2 x k hx hk).2.1
        have g2 := (g.2 k y hk hy).2.1
        have g3 := h2 k x hk hx
        have g4 := h2 y k hy hk
        have g5 := tN y k x hy hk hx
        rw [d.1, d.2]; omega
    · rw [if_neg c]
      exact f1.1
  · by_cases c : p = x ∧ q = y
    · rw [c.1, c.2]
      unfold sh
      by_cases d : x ≠ y ∧ E x k + E k y < E x y
      · rw [if_pos ⟨d, Or.inl ⟨rfl, rfl⟩⟩]; omega
      · rw [if_neg (fun z => d z.1)]
        by_cases d2 : x = y
        · have := g.1 y hy
          subst d2
          omega
        · omega
    · have := h3 p q hp hq (by omega)
      have := sh_le (v := E x k + E k y) g hx hy p q
      omega
theorem mt_77 {N : Nat → Nat → Nat} (tN : gTri N) {k x : Nat} (hk : k < 10) (hx : x < 10) : ∀ (n y : Nat), y + n = 10 → ∀ (m : jx_Mem) (E : Nat → Nat → Nat), mineM m T P E W A U L → rnd N B E k (10 * x + y) →
    ∃ m' E', f_M_tunnel_77 (nI k) (nI x) (nI y) m = f_M_tunnel_67 (nI k) (nI (x + 1)) m' ∧ mineM m' T P E' W A U L ∧ rnd N B E' k (10 * (x + 1)) ∧ sm (fun q _ => q = 65) m m' := by
  intro n
  induction n with
  | zero =>
    intro y hy m E h1 h2
    have hy2 : y = 10 := by omega
    subst hy2
    refine ⟨m, E, ?_, h1, h2, sm.rf⟩
    rw [e_M_tunnel_77, if_pos (by decide), nI_1]
  | succ n ih =>
    intro y hy m E h1 h2
    have hy2 : y < 10 := by omega
    have g := h2.1
    have b1 := (g.2 x k hx hk).1
    have b2 := (g.2 k y hk hy2).1
    have hv : x ≠ y → 1 ≤ E x k + E k y := by
      intro q
      by_cases c : x = k
      · have := (g.2 k y hk hy2).2.2 (by omega)
        omega
      · have := (g.2 x k hx hk).2.2 c
        omega
    obtain ⟨m1, q1, q2, q3⟩ := s_short h1 g hx hy2 hv (by omega)
    obtain ⟨m2, E2, r1, r2, r3, r4⟩ := ih (y + 1) (by omega) m1 _ q2 (rnd_s tN hk hx hy2 h2)
    refine ⟨m2, E2, ?_, r2, r3, q3.tr r4⟩
    rw [← r1, e_M_tunnel_77]
    refine (ifn (nI_ge (a := y) (b := 10) hy2 (by omega))).trans ?_
    rw [s_far h1 g hx hk, Option.bind_some, s_far h1 g hk hy2, Option.bind_some]
    dsimp only
    rw [nI_add, q1, Option.bind_some, nI_1]
theorem mt_67 {N : Nat → Nat → Nat} (tN : gTri N) {k : Nat} (hk : k < 10) : ∀ (n x : Nat), x + n = 10 → ∀ (m : jx_Mem) (E : Nat → Nat → Nat), mineM m T P E W A U L → rnd N B E k (10 * x) →
    ∃ m' E', f_M_tunnel_67 (nI k) (nI x) m = f_M_tunnel_57 (nI (k + 1)) m' ∧ mineM m' T P E' W A U L ∧ rnd N B E' k 100 ∧ sm (fun q _ => q = 65) m m' := by
  intro n
  induction n with
  | zero =>
    intro x hx m E h1 h2
    have hx2 : x = 10 := by omega
    subst hx2
    refine ⟨m, E, ?_, h1, h2, sm.rf⟩
    rw [e_M_tunnel_67, if_pos (by decide), nI_1]
  | succ n ih =>
    intro x hx m E h1 h2
    have hx2 : x < 10 := by omega
    obtain ⟨m1, E1, q1, q2, q3, q4⟩ := mt_77 tN hk hx2 10 0 (by omega) m E h1 h2
    obtain ⟨m2, E2, r1, r2, r3, r4⟩ := ih (x + 1) (by omega) m1 E1 q2 q3
    refine ⟨m2, E2, ?_, r2, r3, q4.tr r4⟩
    rw [← r1, ← q1, e_M_tunnel_67]
    refine (ifn (nI_ge (a := x) (b := 10) hx2 (by omega))).trans ?_
    rfl
/-- behind the rounds below k -/
def fwQ (D B : Nat → Nat → Nat) (a b l k : Nat) : Prop := gDist B ∧ (∀ x y, x < 10 → y < 10 → nd D a b l x y ≤ B x y ∧ B x y ≤ D x y) ∧ B a b ≤ l ∧
  (a < k → ∀ x, x < 10 → B x b ≤ D x a + l) ∧ (b < k → ∀ x, x < 10 → B x a ≤ D x b + l) ∧ (a < k → b < k → ∀ x y, x < 10 → y < 10 → B x y ≤ D x a + l + D b y ∧ B x y ≤ D x b + l + D a y)
theorem fwQ_s (g : gDist D) (ha : a < 10) (hb : b < 10) {k : Nat} (hk : k < 10) (hq : fwQ D B a b l k) (hr : rnd (nd D a b l) B E k 100) : fwQ D E a b l (k + 1) := by
  obtain ⟨gB, b1, b2, b3, b4, b5⟩ := hq
  obtain ⟨gE, e1, e2⟩ := hr
  have e3 : ∀ x y, x < 10 → y < 10 → E x y ≤ B x k + B k y := fun x y hx hy => e2 x y hx hy (by omega)
  have sB := (gB.2 a b ha hb).2.1
  refine ⟨gE, fun x y hx hy => ⟨(e1 x y hx hy).1, Nat.le_trans (e1 x y hx hy).2 (b1 x y hx hy).2⟩, Nat.le_trans (e1 a b ha hb).2 b2, fun h x hx => ?_, fun h x hx => ?_, fun h1 h2 x y hx hy => ?_⟩
  · by_cases c : a = k
    · subst c
      have f1 := e3 x b hx hb
      have f2 := (b1 x a hx ha).2
      omega
    · have f1 := b3 (by omega) x hx
      have f2 := (e1 x b hx hb).2
      omega
  · by_cases c : b = k
    · subst c
      have f1 := e3 x a hx ha
      have f2 := (b1 x b hx hb).2
      omega
    · have f1 := b4 (by omega) x hx
      have f2 := (e1 x a hx ha).2
      omega
  · have f0 := (e1 x y hx hy).2
    by_cases c : a = k
    · subst c
      by_cases c2 : b = a
      · subst c2
        have f1 := e3 x y hx hy
        have f2 := (b1 x b hx hb).2
        have f3 := (b1 b y hb hy).2
        omega
      · have f1 := e3 x y hx hy
        have f2 := b4 (by omega) x hx
        have f3 := (b1 a y ha hy).2
        have f4 := b4 (by omega) y hy
        have f5 := (gB.2 a y ha hy).2.1
        have f6 := (g.2 y b hy hb).2.1
        have f7 := (b1 x a hx ha).2
        omega
    · by_cases c2 : b = k
      · subst c2
        have f1 := e3 x y hx hy
        have f2 := b3 (by omega) x hx
        have f3 := (b1 b y hb hy).2
        have f4 := b3 (by omega) y hy
        have f5 := (gB.2 b y hb hy).2.1
        have f6 := (g.2 y a hy ha).2.1
        have f7 := (b1 x b hx hb).2
        omega
      · have f1 := b5 (by omega) (by omega) x y hx hy
        omega
theorem fwQ_0 (g : gDist D) (t : gTri D) (hl : 1 ≤ l) (hab : a ≠ b) (ha : a < 10) (hb : b < 10) : fwQ D (sh D a b l) a b l 0 := by
  refine ⟨sh_dist g ha hb (fun _ => hl), fun x y hx hy => ⟨?_, sh_le g ha hb x y⟩, ?_, fun h => absurd h (Nat.not_lt_zero _), fun h => absurd h (Nat.not_lt_zero _), fun h => absurd h (Nat.not_lt_zero _)⟩
  · unfold sh
    by_cases c : (a ≠ b ∧ l < D a b) ∧ ((x = a ∧ y = b) ∨ (x = b ∧ y = a))
    · rw [if_pos c]
      have h1 := nd_ab (l := l) g ha hb
      rcases c.2 with d | d
      · rw [d.1, d.2]; exact h1
      · rw [d.1, d.2, ((nd_dist (l := l) g hl ha hb).2 b a hb ha).2.1]; exact h1
    · rw [if_neg c]
      exact nd_1 x y
  · unfold sh
    by_cases c : l < D a b
    · rw [if_pos ⟨⟨hab, c⟩, Or.inl ⟨rfl, rfl⟩⟩]; exact Nat.le_refl _
    · rw [if_neg (fun z => c z.1.2)]; omega
theorem fwQ_10 (ha : a < 10) (hb : b < 10) (h : fwQ D B a b l 10) {x y : Nat} (hx : x < 10) (hy : y < 10) : B x y = nd D a b l x y := by
  have h1 := h.2.1 x y hx hy
  have h2 := h.2.2.2.2.2 ha hb x y hx hy
  have h3 := nd_c (D := D) (a := a) (b := b) (l := l) x y
  omega
theorem mt_57 (g : gDist D) (t : gTri D) (ha : a < 10) (hb : b < 10) : ∀ (n k : Nat), k + n = 10 → ∀ (m : jx_Mem) (B : Nat → Nat → Nat), mineM m T P B W A U L → fwQ D B a b l k →
    ∃ m', f_M_tunnel_57 (nI k) m = some (nI T, m') ∧ mineM m' (T + 1) P (nd D a b l) W A U L ∧ sm (fun q j => q = 65 ∨ (q = 63 ∧ j = 3)) m m' := by
  intro n
  induction n with
  | zero =>
    intro k hk m B h1 h2
    have hk2 : k = 10 := by omega
    subst hk2
    refine ⟨jx_w1 m 63 3 (nI (T + 1)), ?_, ⟨w1_same _ _ _ _, ?_, fun x y hx hy hn => ?_, h1.2.2.2.1, h1.2.2.2.2⟩, sm_w1 (Or.inr ⟨rfl, rfl⟩)⟩
    · rw [e_M_tunnel_57, if_pos (by decide)]
      dsimp only
      rw [w1_same, h1.1, nI_1, nI_pred]
    · rw [w1_idx (by omega)]; exact h1.2.1
    · show m.1 65 (10 * x + y) = _
      rw [h1.2.2.1 x y hx hy hn, fwQ_10 ha hb h2 hx hy]
  | succ n ih =>
    intro k hk m B h1 h2
    have hk2 : k < 10 := by omega
    obtain ⟨m1, E, q1, q2, q3, q4⟩ := mt_67 (N := nd D a b l) (B := B) (nd_tri g t ha hb) hk2 10 0 (by omega) m B h1 ⟨h2.1, fun x y hx hy => ⟨(h2.2.1 x y hx hy).1, Nat.le_refl _⟩, fun x y _ _ hz => by omega⟩
    obtain ⟨m2, r1, r2, r3⟩ := ih (k + 1) (by omega) m1 E q2 (fwQ_s g ha hb hk2 h2 q3)
    refine ⟨m2, ?_, r2, (q4.mono (fun q k h => Or.inl h)).tr r3⟩
    rw [← r1, ← q1, e_M_tunnel_57]
    refine (ifn (nI_ge (a := k) (b := 10) hk2 (by omega))).trans ?_
    rfl
theorem M_tunnel (h : mineM m T P D W A U L) (g : gMine T P D W A U L) (x y z : Int32) : ∃ m', f_M_tunnel x y z m = some (if ((0 ≤ x.toInt ∧ x.toInt < 10) ∧ (0 ≤ y.toInt ∧ y.toInt < 10)) ∧ x ≠ y ∧ (1 ≤ z.toInt ∧ z.toInt ≤ 20) ∧ T < 16 then nI T else -1, m') ∧
    (if ((0 ≤ x.toInt ∧ x.toInt < 10) ∧ (0 ≤ y.toInt ∧ y.toInt < 10)) ∧ x ≠ y ∧ (1 ≤ z.toInt ∧ z.toInt ≤ 20) ∧ T < 16 then mineM m' (T + 1) P (nd D (jn x) (jn y) (jn z)) W A U L else mineM m' T P D W A U L) ∧ sm (fun q j => q = 65 ∨ (q = 63 ∧ (j = 0 ∨ j = 3))) m m' := by
  have h1 := mineM_th h (v := 0)
  have s1 : sm (fun q j => q = 65 ∨ (q = 63 ∧ (j = 0 ∨ j = 3))) m (jx_w1 m 63 0 0) := sm_w1 (Or.inr ⟨rfl, Or.inl rfl⟩)
  rw [e_M_tunnel]
  dsimp only
  by_cases hx : 0 ≤ x.toInt ∧ x.toInt < 10
  · by_cases hy : 0 ≤ y.toInt ∧ y.toInt < 10
    · by_cases hxy : x = y
      · refine ⟨_, ?_, ?_, s1⟩
        · rw [if_neg (fun q => q.2.1 hxy)]
          simp [s_mpl_t hx, s_mpl_t hy, hxy, e_M_tunnel_45]
        · rw [if_neg (fun q => q.2.1 hxy)]
          exact h1
      · by_cases hz : 1 ≤ z.toInt ∧ z.toInt ≤ 20
        · have hz2 : ∀ m, f_M_in z.toInt64 1 20 m = some (1, m) := fun m => s_in_t (lo := 1) (hi := 20) hz
          by_cases hT : T < 16
          · obtain ⟨a, ha, rfl⟩ := nI_get hx.1 (show x.toInt < ((10 : Nat) : Int) from hx.2)
            obtain ⟨b, hb, rfl⟩ := nI_get hy.1 (show y.toInt < ((10 : Nat) : Int) from hy.2)
            obtain ⟨l, hl, rfl⟩ := nI_get (b := 21) (show 0 ≤ z.toInt by omega) (show z.toInt < ((21 : Nat) : Int) by omega)
            rw [nI_toInt (by omega)] at hz
            have hab : a ≠ b := fun q => hxy (by rw [q])
            obtain ⟨m1, p1, p2, p3⟩ := s_short h1 g.2.2.1 ha hb (fun _ => show 1 ≤ l by omega) (by omega)
            obtain ⟨m2, q1, q2, q3⟩ := mt_57 (l := l) g.2.2.1 g.2.2.2.1 ha hb 10 0 (by omega) m1 _ p2 (fwQ_0 g.2.2.1 g.2.2.2.1 (by omega) hab ha hb)
            refine ⟨m2, ?_, ?_, s1.tr ((p3.mono (fun q k h => Or.inl h)).tr (q3.mono (fun q k h => by omega)))⟩
            · rw [if_pos ⟨⟨hx, hy⟩, hxy, by rw [nI_toInt (by omega)]; omega, hT⟩]
              have q4 : ¬ (nI T) = 16 := fun z => by have := (nI_eq (b := 16) (by have := g.1; omega) (by omega)).mp z; omega
              simp [s_mpl_t hx, s_mpl_t hy, hxy, hz2, h1.1, q4, p1]
              rw [show (0 : Int32) = nI 0 from rfl, q1]
            · rw [if_pos ⟨⟨hx, hy⟩, hxy, by rw [nI_toInt (by omega)]; omega, hT⟩, jn_nI (by omega), jn_nI (by omega), jn_nI (by omega)]
              exact q2
          · refine ⟨_, ?_, ?_, s1⟩
            · rw [if_neg (fun q => hT q.2.2.2)]
              have q4 : (nI T) = 16 := by have := g.1; rw [show T = 16 by omega]; rfl
              simp [s_mpl_t hx, s_mpl_t hy, hxy, hz2, h1.1, q4, e_M_tunnel_45]
            · rw [if_neg (fun q => hT q.2.2.2)]
              exact h1
        · have hz2 : ∀ m, f_M_in z.toInt64 1 20 m = some (0, m) := fun m => s_in_f (lo := 1) (hi := 20) hz
          refine ⟨_, ?_, ?_, s1⟩
          · rw [if_neg (fun q => hz q.2.2.1)]
            simp [s_mpl_t hx, s_mpl_t hy, hxy, hz2, e_M_tunnel_45]
          · rw [if_neg (fun q => hz q.2.2.1)]
            exact h1
    · refine ⟨_, ?_, ?_, s1⟩
      · rw [if_neg (fun q => hy q.1.2)]
        simp [s_mpl_t hx, s_mpl_f hy, e_M_tunnel_45]
      · rw [if_neg (fun q => hy q.1.2)]
        exact h1
  · refine ⟨_, ?_, ?_, s1⟩
    · rw [if_neg (fun q => hx q.1.1)]
      simp [s_mpl_f hx, e_M_tunnel_45]
    · rw [if_neg (fun q => hx q.1.1)]
      exact h1
end TUNNEL2
