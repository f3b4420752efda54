/-! the best tree: its meaning -/
def low (S : Nat) : Nat := fa_first (fun i => S.testBit i) 10
def prt (N : Nat → Nat → Nat) (G S t : Nat) : Bool := !(pt N G S t (N (low S) t) == S)
def mxf (f : Nat → Nat) : Nat → Nat
  | 0 => 0
  | n + 1 => max (mxf f n) (f n)
def smP (N : Nat → Nat → Nat) (G S t : Nat) (f : Nat → Nat) (n : Nat) : Nat := fb_sm (fun v => if pt N G S t v = 0 then 0 else f (pt N G S t v)) n
def mxP (N : Nat → Nat → Nat) (G S t : Nat) (f : Nat → Nat) (n : Nat) : Nat := mxf (fun v => if pt N G S t v = 0 then 0 else f (pt N G S t v)) n
def stT (N : Nat → Nat → Nat) (G : Nat) (O C : Nat → Nat) (T : Nat → Nat × Option Nat × Nat) (S : Nat) : Nat → Nat × Option Nat × Nat
  | 0 => (0, none, 0)
  | t + 1 => if prt N G S t = true ∧ ((stT N G O C T S t).2.1 = none ∨ C t * sumB S O G + smP N G S t (fun R => (T R).1) 10 < (stT N G O C T S t).1) then (C t * sumB S O G + smP N G S t (fun R => (T R).1) 10, some t, C t + mxP N G S t (fun R => (T R).2.2) 10) else stT N G O C T S t
def Tf (N : Nat → Nat → Nat) (G K : Nat) (O C : Nat → Nat) : Nat → Nat → Nat × Option Nat × Nat
  | 0, _ => (0, none, 0)
  | f + 1, S => stT N G O C (Tf N G K O C f) S K
def tT (N : Nat → Nat → Nat) (G K : Nat) (O C : Nat → Nat) (S : Nat) : Nat × Option Nat × Nat := Tf N G K O C 7 S
def pS (N : Nat → Nat → Nat) (G K S : Nat) : Nat := fb_ct (fun t => prt N G S t) K
theorem low_spec : ∀ S, S < 1024 → 0 < S → low S < 10 ∧ S.testBit (low S) = true := by decide +kernel
section TREE
variable {N : Nat → Nat → Nat} {G K : Nat} {O C : Nat → Nat}
theorem g1024 {S : Nat} (hG : G ≤ 10) (hS : S < 2 ^ G) : S < 1024 := Nat.lt_of_lt_of_le hS (Nat.le_trans (Nat.pow_le_pow_right (by omega) hG) (by decide))
theorem low_lt {S : Nat} (hG : G ≤ 10) (hS : S < 2 ^ G) (h0 : 0 < S) : low S < G ∧ S.testBit (low S) = true := by
  have h1 := low_spec S (g1024 hG hS) h0
  refine ⟨?_, h1.2⟩
  rcases Nat.lt_or_ge (low S) G with q | q
  · exact q
  · rw [tb_ge hS q] at h1; cases h1.2
theorem prt_f {S t : Nat} (hG : G ≤ 10) (hS : S < 2 ^ G) (h0 : 0 < S) : prt N G S t = false ↔ ∀ g o, g < G → o < G → S.testBit g = true → S.testBit o = true → N g t = N o t := by
  obtain ⟨l1, l2⟩ := low_lt hG hS h0
  unfold prt
  rw [Bool.not_eq_false', beq_iff_eq]
  have key : pt N G S t (N (low S) t) = S ↔ ∀ g, g < G → S.testBit g = true → N g t = N (low S) t := by
    constructor
    · intro h g hg hs
      have : (pt N G S t (N (low S) t)).testBit g = true := by rw [h]; exact hs
      rw [pt_tb, hs] at this
      simpa [hg] using this
    · intro h
      refine (bs_eq hS (fun i hi => ?_)).symm
      cases c : S.testBit i
      · simp
      · simp [h i hi c]
  rw [key]
  constructor
  · intro h g o hg ho sg so
    rw [h g hg sg, h o ho so]
  · intro h g hg sg
    exact h g (low S) hg l1 sg l2
theorem pt_sub {S t v i : Nat} (h : (pt N G S t v).testBit i = true) : i < G ∧ S.testBit i = true ∧ N i t = v := by
  rw [pt_tb] at h
  simp at h
  exact h
theorem pt_in {S t v i : Nat} (hi : i < G) (hs : S.testBit i = true) (hv : N i t = v) : (pt N G S t v).testBit i = true := by
  rw [pt_tb]; simp [hi, hs, hv]
theorem nz_ex {S : Nat} (hS : S < 2 ^ G) : S ≠ 0 ↔ ∃ g, g < G ∧ S.testBit g = true := by
  constructor
  · intro h
    rcases Classical.em (∃ g, g < G ∧ S.testBit g = true) with q | q
    · exact q
    · exfalso
      apply h
      apply Nat.eq_of_testBit_eq
      intro i
      rw [Nat.zero_testBit]
      by_cases hi : i < G
      · cases c : S.testBit i
        · rfl
        · exact absurd ⟨i, hi, c⟩ q
      · exact tb_ge hS (by omega)
  · rintro ⟨g, _, hg⟩ h
    rw [h] at hg
    simp at hg
theorem pS_lt {S t v : Nat} (hG : G ≤ 10) (hS : S < 2 ^ G) (h0 : 0 < S) (ht : t < K) (hp : prt N G S t = true) (hr : pt N G S t v ≠ 0) : pS N G K (pt N G S t v) < pS N G K S := by
  have hR := pt_lt (N := N) (G := G) S t v
  have hR0 : 0 < pt N G S t v := by omega
  have h1 : prt N G (pt N G S t v) t = false := (prt_f hG hR hR0).mpr (fun g o hg ho sg so => by rw [(pt_sub sg).2.2, (pt_sub so).2.2])
  have h2 : ∀ k, k < K → prt N G (pt N G S t v) k = true → (if k = t then false else prt N G S k) = true := by
    intro k hk hq
    by_cases c : k = t
    · rw [c, h1] at hq; cases hq
    · rw [if_neg c]
      cases d : prt N G S k
      · have := (prt_f hG hS h0).mp d
        rw [(prt_f hG hR hR0).mpr (fun g o hg ho sg so => this g o hg ho (pt_sub sg).2.1 (pt_sub so).2.1)] at hq
        cases hq
      · rfl
  have h3 := fb_ct_sub (p := fun k => prt N G (pt N G S t v) k) (q := fun k => if k = t then false else prt N G S k) h2
  have h4 := fb_ct_upd (fun k => prt N G S k) false ht
  unfold pS
  rw [hp] at h4
  simp only [if_true, Bool.false_eq_true, if_false] at h4
  omega
theorem pS_le (S : Nat) : pS N G K S ≤ K := fb_ct_le _ _
theorem smP_congr {S t : Nat} {f g : Nat → Nat} {n : Nat} (h : ∀ v, v < n → pt N G S t v ≠ 0 → f (pt N G S t v) = g (pt N G S t v)) : smP N G S t f n = smP N G S t g n := by
  unfold smP
  apply fb_sm_cong
  intro k hk
  by_cases c : pt N G S t k = 0
  · rw [if_pos c, if_pos c]
  · rw [if_neg c, if_neg c, h k hk c]
theorem mxf_congr {f g : Nat → Nat} {n : Nat} (h : ∀ v, v < n → f v = g v) : mxf f n = mxf g n := by
  induction n with
  | zero => rfl
  | succ n ih => unfold mxf; rw [ih (fun v hv => h v (by omega)), h n (by omega)]
theorem mxP_congr {S t : Nat} {f g : Nat → Nat} {n : Nat} (h : ∀ v, v < n → pt N G S t v ≠ 0 → f (pt N G S t v) = g (pt N G S t v)) : mxP N G S t f n = mxP N G S t g n := by
  unfold mxP
  apply mxf_congr
  intro k hk
  by_cases c : pt N G S t k = 0
  · rw [if_pos c, if_pos c]
  · rw [if_neg c, if_neg c, h k hk c]
theorem stT_s (T : Nat → Nat × Option Nat × Nat) (S t : Nat) : stT N G O C T S (t + 1) = if prt N G S t = true ∧ ((stT N G O C T S t).2.1 = none ∨ C t * sumB S O G + smP N G S t (fun R => (T R).1) 10 < (stT N G O C T S t).1) then (C t * sumB S O G + smP N G S t (fun R => (T R).1) 10, some t, C t + mxP N G S t (fun R => (T R).2.2) 10) else stT N G O C T S t := rfl
theorem stT_congr {T T' : Nat → Nat × Option Nat × Nat} {S : Nat} : ∀ n, (∀ t v, t < n → prt N G S t = true → pt N G S t v ≠ 0 → T (pt N G S t v) = T' (pt N G S t v)) → stT N G O C T S n = stT N G O C T' S n := by
  intro n
  induction n with
  | zero => intro _; rfl
  | succ n ih =>
    intro h
    rw [stT_s, stT_s, ih (fun t v ht => h t v (by omega))]
    by_cases c : prt N G S n = true
    · rw [smP_congr (f := fun R => (T R).1) (g := fun R => (T' R).1) (fun v _ hq => by rw [h n v (by omega) c hq]), mxP_congr (f := fun R => (T R).2.2) (g := fun R => (T' R).2.2) (fun v _ hq => by rw [h n v (by omega) c hq])]
    · rw [if_neg (fun z => c z.1), if_neg (fun z => c z.1)]
theorem Tf_fuel (hG : G ≤ 10) : ∀ f f' S, S < 2 ^ G → 0 < S → pS N G K S < f → pS N G K S < f' → Tf N G K O C f S = Tf N G K O C f' S := by
  intro f
  induction f with
  | zero => intro f' S _ _ h; omega
  | succ f ih =>
    intro f' S hS h0 h1 h2
    cases f' with
    | zero => omega
    | succ f' =>
      show stT N G O C (Tf N G K O C f) S K = stT N G O C (Tf N G K O C f') S K
      apply stT_congr
      intro t v ht hp hr
      have := pS_lt hG hS h0 ht hp hr
      exact ih f' _ (pt_lt _ _ _) (by omega) (by omega) (by omega)
theorem tT_eq (hG : G ≤ 10) (hK : K ≤ 6) {S : Nat} (hS : S < 2 ^ G) (h0 : 0 < S) : tT N G K O C S = stT N G O C (tT N G K O C) S K := by
  show stT N G O C (Tf N G K O C 6) S K = stT N G O C (tT N G K O C) S K
  apply stT_congr
  intro t v ht hp hr
  have h1 := pS_lt hG hS h0 ht hp hr
  have h2 := pS_le (N := N) (G := G) (K := K) S
  exact Tf_fuel hG 6 7 _ (pt_lt _ _ _) (by omega) (by omega) (by omega)
/-- how much the coppers of a tree may be -/
def xB : Nat → Nat
  | 0 => 0
  | p + 1 => 810 + 10 * xB p
theorem xB_mono : ∀ p q, p ≤ q → xB p ≤ xB q := by
  intro p
  induction p with
  | zero => intro q _; exact Nat.zero_le _
  | succ p ih =>
    intro q h
    cases q with
    | zero => omega
    | succ q => have := ih q (by omega); show 810 + 10 * xB p ≤ 810 + 10 * xB q; omega
theorem mxf_le {f : Nat → Nat} {c : Nat} : ∀ {n}, (∀ v, v < n → f v ≤ c) → mxf f n ≤ c := by
  intro n
  induction n with
  | zero => intro _; exact Nat.zero_le _
  | succ n ih =>
    intro h
    have h1 := ih (fun v hv => h v (by omega))
    have h2 := h n (by omega)
    show max (mxf f n) (f n) ≤ c
    omega
theorem cs810 (gg : gGoods G K O C N) {t S : Nat} (ht : t < K) : C t * sumB S O G ≤ 810 := by
  have h1 := (gg.2.2.2.1 t ht).2
  have h2 : sumB S O G ≤ G * 9 := sumB_le (fun k hk => (gg.2.2.1 k hk).2)
  have h3 := gg.1
  exact Nat.le_trans (Nat.mul_le_mul h1 (show sumB S O G ≤ 90 by omega)) (by decide)
theorem tT_bd (gg : gGoods G K O C N) : ∀ p S, S < 2 ^ G → 0 < S → pS N G K S ≤ p → (tT N G K O C S).1 ≤ xB p ∧ (tT N G K O C S).2.2 ≤ 9 * p ∧ (∀ t, (tT N G K O C S).2.1 = some t → t < K ∧ prt N G S t = true) := by
  have hG := gg.1
  have hK := gg.2.1
  intro p
  induction p with
  | zero =>
    intro S hS h0 hp
    rw [tT_eq hG hK hS h0]
    have h1 : ∀ n, n ≤ K → stT N G O C (tT N G K O C) S n = (0, none, 0) := by
      intro n
      induction n with
      | zero => intro _; rfl
      | succ n ih =>
        intro hn
        have hz : fb_ct (fun t => prt N G S t) K = 0 := by unfold pS at hp; omega
        have := fb_ct_zero.mp hz n (by omega)
        rw [stT_s, if_neg (fun z => by rw [this] at z; cases z.1), ih (by omega)]
    rw [h1 K (Nat.le_refl _)]
    exact ⟨Nat.zero_le _, Nat.zero_le _, fun t h => by cases h⟩
  | succ p ih =>
    intro S hS h0 hp
    rw [tT_eq hG hK hS h0]
    have hR : ∀ t v, t < K → prt N G S t = true → pt N G S t v ≠ 0 → (tT N G K O C (pt N G S t v)).1 ≤ xB p ∧ (tT N G K O C (pt N G S t v)).2.2 ≤ 9 * p := by
      intro t v ht hpr hr
      have := pS_lt hG hS h0 ht hpr hr
      have := ih (pt N G S t v) (pt_lt _ _ _) (by omega) (by omega)
      exact ⟨this.1, this.2.1⟩
    have h1 : ∀ n, n ≤ K → (stT N G O C (tT N G K O C) S n).1 ≤ xB (p + 1) ∧ (stT N G O C (tT N G K O C) S n).2.2 ≤ 9 * (p + 1) ∧ (∀ t, (stT N G O C (tT N G K O C) S n).2.1 = some t → t < n ∧ prt N G S t = true) := by
      intro n
      induction n with
      | zero => intro _; exact ⟨Nat.zero_le _, Nat.zero_le _, fun t h => by cases h⟩
      | succ n ihn =>
        intro hn
        have i1 := ihn (by omega)
        rw [stT_s]
        by_cases c : prt N G S n = true ∧ ((stT N G O C (tT N G K O C) S n).2.1 = none ∨ C n * sumB S O G + smP N G S n (fun R => (tT N G K O C R).1) 10 < (stT N G O C (tT N G K O C) S n).1)
        · rw [if_pos c]
          have c1 := cs810 gg (S := S) (show n < K by omega)
          have c2 : smP N G S n (fun R => (tT N G K O C R).1) 10 ≤ 10 * xB p := by
            unfold smP
            apply fb_sm_bound
            intro v hv
            by_cases d : pt N G S n v = 0
            · rw [if_pos d]; exact Nat.zero_le _
            · rw [if_neg d]; exact (hR n v (by omega) c.1 d).1
          have c3 : mxP N G S n (fun R => (tT N G K O C R).2.2) 10 ≤ 9 * p := by
            unfold mxP
            apply mxf_le
            intro v hv
            by_cases d : pt N G S n v = 0
            · rw [if_pos d]; exact Nat.zero_le _
            · rw [if_neg d]; exact (hR n v (by omega) c.1 d).2
          have c4 := (gg.2.2.2.1 n (by omega)).2
          refine ⟨?_, ?_, fun t h => ?_⟩
          · show C n * sumB S O G + smP N G S n (fun R => (tT N G K O C R).1) 10 ≤ 810 + 10 * xB p
            omega
          · show C n + mxP N G S n (fun R => (tT N G K O C R).2.2) 10 ≤ 9 * (p + 1)
            omega
          · cases h
            exact ⟨by omega, c.1⟩
        · rw [if_neg c]
          exact ⟨i1.1, i1.2.1, fun t h => ⟨by have := (i1.2.2 t h).1; omega, (i1.2.2 t h).2⟩⟩
    exact h1 K (Nat.le_refl _)
theorem tT_ok (gg : gGoods G K O C N) {S : Nat} (hS : S < 2 ^ G) (h0 : 0 < S) : (tT N G K O C S).1 ≤ 89999910 ∧ (tT N G K O C S).2.2 ≤ 54 ∧ (∀ t, (tT N G K O C S).2.1 = some t → t < K ∧ prt N G S t = true) := by
  have h1 := tT_bd gg 6 S hS h0 (Nat.le_trans (pS_le S) gg.2.1)
  exact h1
theorem stT_ok (gg : gGoods G K O C N) {S n : Nat} (hS : S < 2 ^ G) (h0 : 0 < S) (hn : n < K) (hp : prt N G S n = true) : C n * sumB S O G + smP N G S n (fun R => (tT N G K O C R).1) 10 ≤ 899999910 := by
  have hG := gg.1
  have c1 := cs810 gg (S := S) hn
  have c2 : smP N G S n (fun R => (tT N G K O C R).1) 10 ≤ 10 * 89999910 := by
    unfold smP
    apply fb_sm_bound
    intro v hv
    by_cases d : pt N G S n v = 0
    · rw [if_pos d]; exact Nat.zero_le _
    · rw [if_neg d]; exact (tT_ok gg (pt_lt _ _ _) (by omega)).1
  omega
end TREE
