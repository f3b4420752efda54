/-! judge, who -/
theorem bid {α β : Type} (x : Option (α × β)) : (x.bind fun p => some (p.1, p.2)) = x := by cases x <;> rfl
theorem ab_nI {l d : Nat} (hl : l < 2 ^ 30) (hd : d < 2 ^ 30) : jx_ab (nI l - nI d) = nI ((l - d) + (d - l)) := by
  unfold jx_ab
  by_cases c : d ≤ l
  · rw [pk_sub c, if_pos (nI_pos' (by omega)), show d - l = 0 by omega, Nat.add_zero]
  · have h1 : nI l - nI d < 0 := pk_sneg hd (by omega)
    have h2 : ¬ (0 : Int32) ≤ nI l - nI d := fun z => by
      have a := i_lt.mp h1
      have b := i_le.mp z
      omega
    rw [if_neg h2, Int32.zero_sub, Int32.neg_sub, pk_sub (by omega), show l - d = 0 by omega, Nat.zero_add]
def ch (E : Nat → Nat) (l d : Nat) : Nat := if (l - d) + (d - l) ≤ 3 then E ((l - d) + (d - l)) else 0
theorem ch_le {E : Nat → Nat} (g : gEars E) (l d : Nat) : ch E l d ≤ 9 := by
  unfold ch
  split
  · exact g _ (by omega)
  · omega
def lk (D : Nat → Nat → Nat) (W E : Nat → Nat) (a b l k : Nat) : Nat := if D a b < 999 then ch E l (D a b) * ch E k (2 * W a) else 0
theorem lk_le {D : Nat → Nat → Nat} {W E : Nat → Nat} (g : gEars E) (a b l k : Nat) : lk D W E a b l k ≤ 81 := by
  unfold lk
  split
  · have := Nat.mul_le_mul (ch_le g l (D a b)) (ch_le g k (2 * W a))
    omega
  · omega
def jd (w : Nat → Nat) : Nat → Option Nat × Nat × Nat
  | 0 => (none, 0, 0)
  | n + 1 => if (jd w n).2.1 < w n then (some n, w n, (jd w n).2.2 + w n) else ((jd w n).1, (jd w n).2.1, (jd w n).2.2 + w n)
theorem jd_s (w : Nat → Nat) (n : Nat) : jd w (n + 1) = if (jd w n).2.1 < w n then (some n, w n, (jd w n).2.2 + w n) else ((jd w n).1, (jd w n).2.1, (jd w n).2.2 + w n) := rfl
theorem jd_ok {w : Nat → Nat} (hw : ∀ n, w n ≤ 81) : ∀ n, (jd w n).2.1 ≤ 81 ∧ (jd w n).2.2 ≤ n * 81 ∧ ∀ q, (jd w n).1 = some q → q < n ∧ 0 < (jd w n).2.1 := by
  intro n
  induction n with
  | zero => exact ⟨Nat.zero_le _, Nat.zero_le _, fun q h => by cases h⟩
  | succ n ih =>
    have h1 := hw n
    obtain ⟨i1, i2, i3⟩ := ih
    rw [jd_s]
    split
    · rename_i c
      refine ⟨h1, ?_, ?_⟩
      · dsimp only; omega
      · intro q h
        dsimp only at h ⊢
        cases h
        omega
    · refine ⟨i1, ?_, ?_⟩
      · dsimp only; omega
      · intro q h
        have := i3 q h
        try dsimp only
        omega
def frL (a b : Nat) : List Int64 := [lN (a / Nat.gcd b a), lN (b / Nat.gcd b a)]
theorem lg_zero {x y : Int64} : lg_cmp x y = 0 ↔ x = y := by
  unfold lg_cmp
  by_cases h : x > y
  · rw [if_pos h]
    constructor
    · intro q; exact absurd q (by decide)
    · intro q
      rw [q] at h
      have := l_lt.mp h
      omega
  · rw [if_neg h]
    by_cases h2 : x = y
    · rw [if_pos h2]
      exact ⟨fun _ => h2, fun _ => rfl⟩
    · rw [if_neg h2]
      exact ⟨fun q => absurd q (by decide), fun q => absurd q h2⟩
section JUDGE
variable {m m' : jx_Mem} {T P : Nat} {D : Nat → Nat → Nat} {W A U L : Nat → Nat} {E : Nat → Nat}
theorem s_cd : ∀ k a b j, b < 2 ^ k → a < 2 ^ 31 → b < 2 ^ 31 → j + 2 * k ≤ 99 → f_Row_commonDivisor_7 (nI a) (nI b) (nI j) m = some (nI (Nat.gcd b a), m) := by
  have z0 : ∀ a j, f_Row_commonDivisor_7 (nI a) (nI 0) (nI j) m = some (nI a, m) := by
    intro a j
    rw [e_Row_commonDivisor_7]
    split
    · rw [e_Row_commonDivisor_34]
    · exact (ifp nI_0).trans (e_Row_commonDivisor_34 _ _)
  have st : ∀ a b j, 0 < b → a < 2 ^ 31 → b < 2 ^ 31 → j < 100 → f_Row_commonDivisor_7 (nI a) (nI b) (nI j) m = f_Row_commonDivisor_7 (nI b) (nI (a % b)) (nI (j + 1)) m := by
    intro a b j h0 ha hb hj
    rw [e_Row_commonDivisor_7]
    refine (ifn (nI_ge (a := j) (b := 100) hj (by omega))).trans ?_
    refine (ifn (nI_ne0 h0 hb)).trans ?_
    rw [decide_eq_false (nI_ne0 h0 hb), pk_rem ha h0 hb, nI_1]
    rfl
  intro k
  induction k with
  | zero =>
    intro a b j hb _ _ _
    have : b = 0 := by omega
    subst this
    rw [z0, Nat.gcd_zero_left]
  | succ k ih =>
    intro a b j hb ha hb2 hj
    by_cases c : b = 0
    · subst c
      rw [z0, Nat.gcd_zero_left]
    · have h1 : a % b < b := Nat.mod_lt _ (by omega)
      rw [st a b j (by omega) ha hb2 (by omega)]
      by_cases r : a % b = 0
      · rw [r, z0, Nat.gcd_rec, r, Nat.gcd_zero_left]
      · have h2 : b % (a % b) < a % b := Nat.mod_lt _ (by omega)
        have h3 := Nat.div_add_mod b (a % b)
        have h4 : 0 < b / (a % b) := Nat.div_pos (by omega) (by omega)
        have h5 : a % b ≤ (a % b) * (b / (a % b)) := Nat.le_mul_of_pos_right _ h4
        rw [Nat.pow_succ] at hb
        rw [st b (a % b) (j + 1) (by omega) hb2 (by omega) (by omega), ih (a % b) (b % (a % b)) (j + 1 + 1) (by omega) (by omega) (by omega) (by omega), Nat.gcd_rec b a, Nat.gcd_rec (a % b) b]
theorem s_common : ∀ b a, a < 2 ^ 63 → b < 2 ^ 63 → f_M_common_6 (lN a) (lN b) m = some (lN (Nat.gcd b a), m) := by
  intro b
  induction b using Nat.strongRecOn with
  | ind b ih =>
    intro a ha hb
    rw [e_M_common_6]
    by_cases c : b = 0
    · subst c
      rw [Nat.gcd_zero_left]
      exact ifp (lg_zero.mpr rfl)
    · have q : ¬ lN b = 0 := fun z => c ((pk_lEQ (b := 0) hb (by omega)).mp z)
      refine (ifn (fun z => q (lg_zero.mp z))).trans ?_
      rw [decide_eq_false q, pk_lRem ha (by omega) hb]
      have h1 : a % b < b := Nat.mod_lt _ (by omega)
      show f_M_common_6 (lN b) (lN (a % b)) m = _
      rw [ih (a % b) h1 b hb (by omega), ← Nat.gcd_rec]
theorem s_tellFr {a b : Nat} (h0 : 0 < a) (ha : a ≤ 81) (hb : b ≤ 810) : ∃ m', f_Row_tellFraction (nI a) (nI b) m = some m' ∧ rF m' (frL a b) ∧ sm wRF m m' := by
  have hg : 0 < Nat.gcd b a := Nat.gcd_pos_of_pos_right b h0
  have hg2 : Nat.gcd b a ≤ a := Nat.le_of_dvd h0 (Nat.gcd_dvd_right b a)
  have d1 : a / Nat.gcd b a ≤ a := Nat.div_le_self _ _
  have d2 : b / Nat.gcd b a ≤ b := Nat.div_le_self _ _
  obtain ⟨m', q1, q2, q3⟩ := s_tell2 (nI (a / Nat.gcd b a)).toInt64 (nI (b / Nat.gcd b a)).toInt64 m
  refine ⟨m', ?_, ?_, q3⟩
  · rw [e_Row_tellFraction, e_Row_commonDivisor]
    show ((f_Row_commonDivisor_7 (nI a) (nI b) (nI 0) m).bind _) = _
    rw [s_cd 10 a b 0 (by omega) (by omega) (by omega) (by omega), Option.bind_some]
    refine (ifn (nI_ne0 h0 (by omega))).trans ?_
    refine (ifnn (nI_ne0 hg (by omega))).trans ?_
    try dsimp only
    rw [decide_eq_false (nI_ne0 hg (by omega)), pk_div (by omega) hg (by omega), pk_div (by omega) hg (by omega)]
    show (f_Row_tell_JJ (nI (a / Nat.gcd b a)).toInt64 (nI (b / Nat.gcd b a)).toInt64 m).bind _ = _
    rw [q1, Option.bind_some, e_Row_tellFraction_35]
  · rw [nI_l (by omega), nI_l (by omega)] at q2
    exact q2
theorem s_entFr {a b : Nat} (h0 : 0 < a) (ha : a ≤ 81) (hb : b ≤ 810) (hr : rM m []) : ∃ m', f_M_entersFraction (nI a).toInt64 (nI b).toInt64 m = some m' ∧ rM m' (frL a b) ∧ sm wRM m m' := by
  have hg : 0 < Nat.gcd b a := Nat.gcd_pos_of_pos_right b h0
  have hg2 : Nat.gcd b a ≤ a := Nat.le_of_dvd h0 (Nat.gcd_dvd_right b a)
  have q : ¬ lN (Nat.gcd b a) = 0 := fun z => by
    have := (pk_lEQ (b := 0) (by omega) (by omega)).mp z
    omega
  obtain ⟨m1, q1, q2, q3⟩ := s_enters (lN (a / Nat.gcd b a)) hr (by simp)
  obtain ⟨m2, r1, r2, r3⟩ := s_enters (lN (b / Nat.gcd b a)) q2 (by simp)
  refine ⟨m2, ?_, r2, q3.tr r3⟩
  rw [nI_l (by omega), nI_l (by omega), e_M_entersFraction, e_M_common, s_common b a (by omega) (by omega), Option.bind_some]
  try dsimp only
  rw [decide_eq_false q, pk_lDiv (by omega) hg (by omega), pk_lDiv (by omega) hg (by omega)]
  show (f_M_enters (lN (a / Nat.gcd b a)) m).bind _ = _
  rw [q1, Option.bind_some]
  show (f_M_enters (lN (b / Nat.gcd b a)) m1).bind _ = _
  rw [r1]
  rfl
theorem s_ch (h : earsF m E) {l d : Nat} (hl : l < 2 ^ 30) (hd : d < 2 ^ 30) : f_Ears_chanceOf (nI l - nI d) m = some (nI (ch E l d), m) := by
  have hb : (l - d) + (d - l) < 2 ^ 31 := by omega
  rw [e_Ears_chanceOf, ab_nI hl hd]
  unfold ch
  generalize (l - d) + (d - l) = k at hb ⊢
  by_cases c : k ≤ 3
  · have q : 0 ≤ (nI k).toInt ∧ (nI k).toInt ≤ 3 := by rw [nI_toInt hb]; omega
    rw [if_pos c]
    simp [s_wi_t (lo := 0) (hi := 3) q, in_nI (show k < 4 by omega) (by omega), nI_cl (show k < 2 ^ 31 by omega), h k (by omega), e_Ears_chanceOf_24]
  · have q : ¬ (0 ≤ (nI k).toInt ∧ (nI k).toInt ≤ 3) := by rw [nI_toInt hb]; omega
    rw [if_neg c]
    simp [s_wi_f (lo := 0) (hi := 3) q, e_Ears_chanceOf_24, nI_0]
theorem s_mch (h : earsM m E) {l d : Nat} (hl : l < 2 ^ 30) (hd : d < 2 ^ 30) : f_M_chanceOf (nI l - nI d) m = some (nI (ch E l d), m) := by
  have hb : (l - d) + (d - l) < 2 ^ 31 := by omega
  rw [e_M_chanceOf, ab_nI hl hd]
  unfold ch
  generalize (l - d) + (d - l) = k at hb ⊢
  by_cases c : k ≤ 3
  · refine (ifp (nI_le (b := 3) c (by omega))).trans ?_
    rw [in_nI (show k < 4 by omega) (by omega), nI_cl hb, cond_true, h k (by omega), e_M_chanceOf_21, if_pos c]
  · refine (ifn (nI_ge (a := 3) (b := k) (by omega) hb)).trans ?_
    rw [e_M_chanceOf_21, if_neg c]
    rfl
theorem s_weight (h : mineF m T P D W A U L) (g : gMine T P D W A U L) (he : earsF m E) {a b l k : Nat} (ha : a < 10) (hb : b < 10) (hl : l ≤ 999) (hk : k ≤ 999) : f_Ears_weightOf (nI a) (nI b) (nI l) (nI k) m = some (nI (lk D W E a b l k), m) := by
  have hD := (g.2.2.1.2 a b ha hb).1
  have hW := g.2.2.2.2.1 a ha
  rw [e_Ears_weightOf, s_joined h g ha hb]
  unfold lk
  by_cases c : D a b < 999
  · rw [jb_t c, if_pos c]
    simp [s_dist h ha hb, s_ch he (show l < 2 ^ 30 by omega) (show D a b < 2 ^ 30 by omega), s_wallOf h ha, show (2 : Int32) * nI (W a) = nI (2 * W a) from pk_mul 2 (W a), s_ch he (show k < 2 ^ 30 by omega) (show 2 * W a < 2 ^ 30 by omega), pk_mul]
  · rw [jb_f c, if_neg c]
    simp [nI_0]
theorem s_likely (h : mineM m T P D W A U L) (g : gMine T P D W A U L) (he : earsM m E) {a b l k : Nat} (ha : a < 10) (hb : b < 10) (hl : l ≤ 999) (hk : k ≤ 999) : f_M_likely (nI a) (nI b) (nI l) (nI k) m = some (nI (lk D W E a b l k), m) := by
  have hD := (g.2.2.1.2 a b ha hb).1
  have hW := g.2.2.2.2.1 a ha
  rw [e_M_likely, s_far h g.2.2.1 ha hb]
  unfold lk
  by_cases c : D a b < 999
  · have q : ¬ nI (D a b) = 999 := fun z => by have := (nI_eq (b := 999) (by omega) (by omega)).mp z; omega
    rw [if_pos c]
    simp [q, s_mch he (show l < 2 ^ 30 by omega) (show D a b < 2 ^ 30 by omega), in_nI ha (by omega), nI_cl (show a < 2 ^ 31 by omega), h.2.2.2.1 a ha, show (2 : Int32) * nI (W a) = nI (2 * W a) from pk_mul 2 (W a), s_mch he (show k < 2 ^ 30 by omega) (show 2 * W a < 2 ^ 30 by omega), pk_mul, e_M_likely_44]
  · have q : nI (D a b) = 999 := by rw [show D a b = 999 by omega]; rfl
    rw [if_neg c]
    simp [q, e_M_likely_44, nI_0]
theorem s_likeliest {w : Nat → Nat} {N : Nat} (hN : N ≤ 10) (hw : ∀ j, j < N → m.1 62 j = nI (w j)) (hw2 : ∀ n, w n ≤ 81) : ∃ m', sm wRF m m' ∧
    ((∃ q, (jd w N).1 = some q ∧ f_Ears_likeliest (nI N) m = some (nI q, m') ∧ rF m' (frL (jd w N).2.1 (jd w N).2.2)) ∨ ((jd w N).1 = none ∧ f_Ears_likeliest (nI N) m = some (-2, m') ∧ m' = m)) := by
  have key := lp_up (fun i (x : Option Nat × Nat × Nat) => f_Ears_likeliest_11 (nI N) (oI x.1) (nI x.2.1) (nI x.2.2) i m) (jd w) N (by
    intro n hn
    obtain ⟨b1, b2, _⟩ := jd_ok hw2 n
    have b3 := hw2 n
    try dsimp only
    rw [e_Ears_likeliest_11]
    refine (ifn (nI_ge (a := n) (b := N) hn (by omega))).trans ?_
    rw [in_nI (show n < 10 by omega) (by omega), nI_cl (by omega), hw n hn, jd_s]
    simp only [cond_true]
    by_cases c : (jd w n).2.1 < w n
    · refine (ifn (nI_ge c (by omega))).trans ?_
      rw [e_Ears_likeliest_53, nI_add, nI_1, if_pos c]
      rfl
    · refine (ifp (nI_le (by omega) (by omega))).trans ?_
      rw [e_Ears_likeliest_53, nI_add, nI_1, if_neg c]) 0 (Nat.zero_le _)
  obtain ⟨b1, b2, b3⟩ := jd_ok hw2 N
  have key2 : f_Ears_likeliest (nI N) m = if decide (¬ oI (jd w N).1 = (-1)) = true then ((f_Row_tellFraction (nI (jd w N).2.1) (nI (jd w N).2.2) m).bind (fun p1 => some (oI (jd w N).1, p1))) else (some (((-2) : Int32), m)) := by
    rw [e_Ears_likeliest]
    refine Eq.trans (b := f_Ears_likeliest_11 (nI N) (oI (jd w N).1) (nI (jd w N).2.1) (nI (jd w N).2.2) (nI N) m) key ?_
    rw [e_Ears_likeliest_11]
    exact ifp (nI_le (Nat.le_refl _) (by omega))
  cases hq : (jd w N).1 with
  | none =>
    refine ⟨m, sm.rf, Or.inr ⟨rfl, ?_, rfl⟩⟩
    rw [key2, hq]
    exact ifnp rfl
  | some q =>
    obtain ⟨c1, c2⟩ := b3 q hq
    obtain ⟨m', q1, q2, q3⟩ := s_tellFr (m := m) c2 b1 (show (jd w N).2.2 ≤ 810 by omega)
    refine ⟨m', q3, Or.inl ⟨q, rfl, ?_, q2⟩⟩
    rw [key2, hq]
    refine (ifnn (oI_ne (show q < 2 ^ 31 by omega))).trans ?_
    rw [q1]
    rfl
/-! the class's judge -/
def w62 (a _ : Nat) : Prop := a = 62
def judW (D : Nat → Nat → Nat) (W A E : Nat → Nat) (p l k : Nat) : Nat → Nat := fun n => lk D W E n (A p) l k
def whoW (D : Nat → Nat → Nat) (W A E : Nat → Nat) (p l k : Nat) : Nat → Nat := fun n => if n = p then 0 else lk D W E (A n) (A p) l k
theorem judW_le (g : gEars E) (p l k n : Nat) : judW D W A E p l k n ≤ 81 := lk_le g _ _ _ _
theorem whoW_le (g : gEars E) (p l k n : Nat) : whoW D W A E p l k n ≤ 81 := by
  unfold whoW
  split
  · omega
  · exact lk_le g _ _ _ _
theorem tp_3 (h : mineF m T P D W A U L) (g : gMine T P D W A U L) (he : earsF m E) {p l k : Nat} (hp : p < P) (hl : l ≤ 999) (hk : k ≤ 999) : ∀ (i n : Nat), n + i = 10 → ∀ m1, sm w62 m m1 → (∀ j, j < n → m1.1 62 j = nI (judW D W A E p l k j)) →
    ∃ m2, f_Ears_tellPlace_3 (nI p) (nI l) (nI k) (nI n) m1 = (f_Ears_likeliest (nI 10) m2).bind (fun p1 => some (p1.1, p1.2)) ∧ sm w62 m m2 ∧ (∀ j, j < 10 → m2.1 62 j = nI (judW D W A E p l k j)) := by
  intro i
  induction i with
  | zero =>
    intro n hn m1 hs hw
    have hn2 : n = 10 := by omega
    subst hn2
    refine ⟨m1, ?_, hs, hw⟩
    rw [e_Ears_tellPlace_3]
    exact ifp (by decide)
  | succ i ih =>
    intro n hn m1 hs hw
    have h1 : mineF m1 T P D W A U L := mineF_sm h hs (by intro a k; unfold dMF w62; omega)
    have he1 : earsF m1 E := earsF_sm he hs (by intro k; unfold w62; omega)
    obtain ⟨m2, r1, r2, r3⟩ := ih (n + 1) (by omega) (jx_w1 m1 62 n (nI (judW D W A E p l k n))) (hs.w1 rfl) (by
      intro j hj
      rw [w1_rd]
      by_cases q : j = n
      · rw [if_pos ⟨rfl, q⟩, q]
      · rw [if_neg (fun z => q z.2)]; exact hw j (by omega))
    refine ⟨m2, ?_, r2, r3⟩
    rw [← r1, e_Ears_tellPlace_3]
    refine (ifn (nI_ge (a := n) (b := 10) (by omega) (by omega))).trans ?_
    rw [s_placeOf h1 g hp, Option.bind_some]
    try dsimp only
    rw [s_weight h1 g he1 (show n < 10 by omega) (g.2.2.2.2.2 p hp).1 hl hk, Option.bind_some, in_nI (show n < 10 by omega) (by omega), nI_cl (by omega), nI_1]
    rfl
theorem tc_17 (h : mineF m T P D W A U L) (g : gMine T P D W A U L) (he : earsF m E) {p l k : Nat} (hp : p < P) (hl : l ≤ 999) (hk : k ≤ 999) : ∀ (i n : Nat), n + i = P → ∀ m1, sm w62 m m1 → (∀ j, j < n → m1.1 62 j = nI (whoW D W A E p l k j)) →
    ∃ m2, f_Ears_tellClapper_17 (nI p) (nI l) (nI k) (nI P) (nI n) m1 = (f_Ears_likeliest (nI P) m2).bind (fun p1 => some (p1.1, p1.2)) ∧ sm w62 m m2 ∧ (∀ j, j < P → m2.1 62 j = nI (whoW D W A E p l k j)) := by
  have hP := g.2.1
  intro i
  induction i with
  | zero =>
    intro n hn m1 hs hw
    have hn2 : n = P := by omega
    subst hn2
    refine ⟨m1, ?_, hs, hw⟩
    rw [e_Ears_tellClapper_17]
    exact ifp (nI_le (Nat.le_refl _) (by omega))
  | succ i ih =>
    intro n hn m1 hs hw
    have h1 : mineF m1 T P D W A U L := mineF_sm h hs (by intro a k; unfold dMF w62; omega)
    have he1 : earsF m1 E := earsF_sm he hs (by intro k; unfold w62; omega)
    obtain ⟨m2, r1, r2, r3⟩ := ih (n + 1) (by omega) (jx_w1 m1 62 n (nI (whoW D W A E p l k n))) (hs.w1 rfl) (by
      intro j hj
      rw [w1_rd]
      by_cases q : j = n
      · rw [if_pos ⟨rfl, q⟩, q]
      · rw [if_neg (fun z => q z.2)]; exact hw j (by omega))
    refine ⟨m2, ?_, r2, r3⟩
    rw [← r1, e_Ears_tellClapper_17]
    refine (ifn (nI_ge (a := n) (b := P) (by omega) (by omega))).trans ?_
    rw [s_placeOf h1 g (show n < P by omega), Option.bind_some]
    try dsimp only
    rw [s_placeOf h1 g hp, Option.bind_some]
    try dsimp only
    rw [s_weight h1 g he1 (g.2.2.2.2.2 n (by omega)).1 (g.2.2.2.2.2 p hp).1 hl hk, Option.bind_some]
    by_cases c : n = p
    · refine (ifnp (by rw [c])).trans ?_
      have e : whoW D W A E p l k n = 0 := if_pos c
      rw [e_Ears_tellClapper_67, in_nI (show n < 10 by omega) (by omega), nI_cl (by omega), nI_1, e]
      rfl
    · refine (ifnn (fun z => c ((nI_eq (by omega) (by omega)).mp z))).trans ?_
      have e : whoW D W A E p l k n = lk D W E (A n) (A p) l k := if_neg c
      rw [e_Ears_tellClapper_67, in_nI (show n < 10 by omega) (by omega), nI_cl (by omega), nI_1, e]
      rfl
def cJud (x y z : Int32) (P : Nat) : Prop := (0 ≤ x.toInt ∧ x.toInt < (P : Int)) ∧ (0 ≤ y.toInt ∧ y.toInt ≤ 999) ∧ (0 ≤ z.toInt ∧ z.toInt ≤ 999)
def wJF (a k : Nat) : Prop := a = 62 ∨ wRF a k
/-- what judge and who answer: r what was found -/
def resJ (f : Option (Int32 × jx_Mem)) (m' : jx_Mem) (R : jx_Mem → List Int64 → Prop) (r : Option Nat × Nat × Nat) (keep : Prop) : Prop :=
  (∃ q, r.1 = some q ∧ f = some (nI q, m') ∧ R m' (frL r.2.1 r.2.2)) ∨ (r.1 = none ∧ f = some (-2, m') ∧ keep)
theorem s_canHear (y z : Int32) : f_Ears_canHear y z m = some (jb ((0 ≤ y.toInt ∧ y.toInt ≤ 999) ∧ (0 ≤ z.toInt ∧ z.toInt ≤ 999)), m) := by
  rw [e_Ears_canHear]
  by_cases hy : 0 ≤ y.toInt ∧ y.toInt ≤ 999
  · by_cases hz : 0 ≤ z.toInt ∧ z.toInt ≤ 999
    · rw [jb_t ⟨hy, hz⟩]
      simp [s_wi_t (lo := 0) (hi := 999) hy, s_wi_t (lo := 0) (hi := 999) hz, e_Ears_canHear_27, show jx_01 1 = true from rfl]
    · rw [jb_f (fun q => hz q.2)]
      simp [s_wi_t (lo := 0) (hi := 999) hy, s_wi_f (lo := 0) (hi := 999) hz, e_Ears_canHear_27, e_Ears_canHear_26, show jx_01 0 = true from rfl]
  · rw [jb_f (fun q => hy q.1)]
    simp [s_wi_f (lo := 0) (hi := 999) hy, e_Ears_canHear_27, e_Ears_canHear_26, show jx_01 0 = true from rfl]
theorem s_areLate (y z : Int32) : f_M_areLate y z m = some (jb ((0 ≤ y.toInt ∧ y.toInt ≤ 999) ∧ (0 ≤ z.toInt ∧ z.toInt ≤ 999)), m) := by
  rw [e_M_areLate]
  by_cases hy : 0 ≤ y.toInt ∧ y.toInt ≤ 999
  · by_cases hz : 0 ≤ z.toInt ∧ z.toInt ≤ 999
    · rw [jb_t ⟨hy, hz⟩]
      simp [s_in_t (lo := 0) (hi := 999) hy, s_in_t (lo := 0) (hi := 999) hz, e_M_areLate_29, show jx_01 1 = true from rfl]
    · rw [jb_f (fun q => hz q.2)]
      simp [s_in_t (lo := 0) (hi := 999) hy, s_in_f (lo := 0) (hi := 999) hz, e_M_areLate_29, e_M_areLate_28, show jx_01 0 = true from rfl]
  · rw [jb_f (fun q => hy q.1)]
    simp [s_in_f (lo := 0) (hi := 999) hy, e_M_areLate_29, e_M_areLate_28, show jx_01 0 = true from rfl]
theorem F_judge (h : mineF m T P D W A U L) (g : gMine T P D W A U L) (he : earsF m E) (ge : gEars E) (x y z : Int32) : ∃ m', sm wJF m m' ∧
    ((cJud x y z P ∧ resJ (f_F_judge x y z m) m' rF (jd (judW D W A E (jn x) (jn y) (jn z)) 10) (sm w62 m m')) ∨ (¬ cJud x y z P ∧ f_F_judge x y z m = some (-1, m') ∧ m' = m)) := by
  rw [e_F_judge, s_pers h g]
  by_cases hx : 0 ≤ x.toInt ∧ x.toInt < (P : Int)
  · by_cases hyz : (0 ≤ y.toInt ∧ y.toInt ≤ 999) ∧ (0 ≤ z.toInt ∧ z.toInt ≤ 999)
    · obtain ⟨p, hp, rfl⟩ := nI_get hx.1 hx.2
      obtain ⟨l, hl, rfl⟩ := nI_get hyz.1.1 (show y.toInt < ((1000 : Nat) : Int) by omega)
      obtain ⟨k, hk, rfl⟩ := nI_get hyz.2.1 (show z.toInt < ((1000 : Nat) : Int) by omega)
      have hP := g.2.1
      rw [jn_nI (show p < 2 ^ 31 by omega), jn_nI (show l < 2 ^ 31 by omega), jn_nI (show k < 2 ^ 31 by omega)]
      obtain ⟨m2, r1, r2, r3⟩ := tp_3 h g he hp (show l ≤ 999 by omega) (show k ≤ 999 by omega) 10 0 (by omega) m sm.rf (fun j hj => absurd hj (Nat.not_lt_zero j))
      obtain ⟨m3, t1, t2⟩ := s_likeliest (m := m2) (N := 10) (by omega) r3 (fun n => judW_le ge p l k n)
      refine ⟨m3, (r2.mono (by unfold w62 wJF; omega)).tr (t1.mono (fun _ _ h => Or.inr h)), Or.inl ⟨⟨hx, hyz⟩, ?_⟩⟩
      have e0 : f_Ears_tellPlace (nI p) (nI l) (nI k) m = (f_Ears_likeliest (nI 10) m2).bind (fun p1 => some (p1.1, p1.2)) := (e_Ears_tellPlace _ _ _ _).trans r1
      have e1 : (some (jb (0 ≤ (nI p).toInt ∧ (nI p).toInt < (P : Int)), m)).bind (fun p1 => if decide (p1.1 = 0) = true then (f_F_judge_23 p1.2) else ((f_Ears_canHear (nI l) (nI k) p1.2).bind (fun p2 => if decide (¬ p2.1 = 0) = true then ((f_Ears_tellPlace (nI p) (nI l) (nI k) p2.2).bind (fun p3 => some (p3.1, p3.2))) else (f_F_judge_23 p2.2)))) = f_Ears_likeliest (nI 10) m2 := by
        rw [jb_t hx]
        simp [s_canHear, jb_t hyz, e0, bid]
      rw [e1]
      unfold resJ
      rcases t2 with ⟨q, u1, u2, u3⟩ | ⟨u1, u2, u3⟩
      · exact Or.inl ⟨q, u1, u2, u3⟩
      · exact Or.inr ⟨u1, u2, by rw [u3]; exact r2⟩
    · refine ⟨m, sm.rf, Or.inr ⟨fun q => hyz q.2, ?_, rfl⟩⟩
      rw [jb_t hx]
      simp [s_canHear, jb_f hyz, e_F_judge_23]
  · refine ⟨m, sm.rf, Or.inr ⟨fun q => hx q.1, ?_, rfl⟩⟩
    rw [jb_f hx]
    simp [e_F_judge_23]
theorem F_who (h : mineF m T P D W A U L) (g : gMine T P D W A U L) (he : earsF m E) (ge : gEars E) (x y z : Int32) : ∃ m', sm wJF m m' ∧
    ((cJud x y z P ∧ resJ (f_F_who x y z m) m' rF (jd (whoW D W A E (jn x) (jn y) (jn z)) P) (sm w62 m m')) ∨ (¬ cJud x y z P ∧ f_F_who x y z m = some (-1, m') ∧ m' = m)) := by
  rw [e_F_who, s_pers h g]
  by_cases hx : 0 ≤ x.toInt ∧ x.toInt < (P : Int)
  · by_cases hyz : (0 ≤ y.toInt ∧ y.toInt ≤ 999) ∧ (0 ≤ z.toInt ∧ z.toInt ≤ 999)
    · obtain ⟨p, hp, rfl⟩ := nI_get hx.1 hx.2
      obtain ⟨l, hl, rfl⟩ := nI_get hyz.1.1 (show y.toInt < ((1000 : Nat) : Int) by omega)
      obtain ⟨k, hk, rfl⟩ := nI_get hyz.2.1 (show z.toInt < ((1000 : Nat) : Int) by omega)
      have hP := g.2.1
      rw [jn_nI (show p < 2 ^ 31 by omega), jn_nI (show l < 2 ^ 31 by omega), jn_nI (show k < 2 ^ 31 by omega)]
      obtain ⟨m2, r1, r2, r3⟩ := tc_17 h g he hp (show l ≤ 999 by omega) (show k ≤ 999 by omega) P 0 (by omega) m sm.rf (fun j hj => absurd hj (Nat.not_lt_zero j))
      obtain ⟨m3, t1, t2⟩ := s_likeliest (m := m2) (N := P) (by omega) r3 (fun n => whoW_le ge p l k n)
      refine ⟨m3, (r2.mono (by unfold w62 wJF; omega)).tr (t1.mono (fun _ _ h => Or.inr h)), Or.inl ⟨⟨hx, hyz⟩, ?_⟩⟩
      have e0 : f_Ears_tellClapper (nI p) (nI l) (nI k) m = (f_Ears_likeliest (nI P) m2).bind (fun p1 => some (p1.1, p1.2)) := by
        rw [e_Ears_tellClapper, e_Mine_people, Option.bind_some, h.2.1]
        show f_Ears_tellClapper_17 (nI p) (nI l) (nI k) (jx_mn (nI 10) (nI P)) (nI 0) m = _
        rw [mn_nI (by omega) (by omega), show min 10 P = P by omega]
        exact r1
      have e1 : (some (jb (0 ≤ (nI p).toInt ∧ (nI p).toInt < (P : Int)), m)).bind (fun p1 => if decide (p1.1 = 0) = true then (f_F_who_23 p1.2) else ((f_Ears_canHear (nI l) (nI k) p1.2).bind (fun p2 => if decide (¬ p2.1 = 0) = true then ((f_Ears_tellClapper (nI p) (nI l) (nI k) p2.2).bind (fun p3 => some (p3.1, p3.2))) else (f_F_who_23 p2.2)))) = f_Ears_likeliest (nI P) m2 := by
        rw [jb_t hx]
        simp [s_canHear, jb_t hyz, e0, bid]
      rw [e1]
      unfold resJ
      rcases t2 with ⟨q, u1, u2, u3⟩ | ⟨u1, u2, u3⟩
      · exact Or.inl ⟨q, u1, u2, u3⟩
      · exact Or.inr ⟨u1, u2, by rw [u3]; exact r2⟩
    · refine ⟨m, sm.rf, Or.inr ⟨fun q => hyz q.2, ?_, rfl⟩⟩
      rw [jb_t hx]
      simp [s_canHear, jb_f hyz, e_F_who_23]
  · refine ⟨m, sm.rf, Or.inr ⟨fun q => hx q.1, ?_, rfl⟩⟩
    rw [jb_f hx]
    simp [e_F_who_23]
/-! the model's judge -/
def o2 : Option Nat → Int32
  | none => -2
  | some p => nI p
theorem jm_80 {w : Nat → Nat} (hw2 : ∀ n, w n ≤ 81) {N n : Nat} (hn : n < N) (hN : N ≤ 10) (x1 x2 x3 x4 : Int32) : f_M_judges_80 x1 x2 x3 x4 (o2 (jd w n).1) (nI (jd w n).2.1) (nI (jd w n).2.2) (nI N) (nI n) (nI (w n)) m = f_M_judges_29 x1 x2 x3 x4 (o2 (jd w (n + 1)).1) (nI (jd w (n + 1)).2.1) (nI (jd w (n + 1)).2.2) (nI N) (nI (n + 1)) m := by
  obtain ⟨b1, b2, _⟩ := jd_ok hw2 n
  have b3 := hw2 n
  rw [e_M_judges_80, jd_s]
  by_cases c : (jd w n).2.1 < w n
  · refine (ifn (nI_ge c (by omega))).trans ?_
    rw [e_M_judges_104, nI_add, nI_1, if_pos c]
    rfl
  · refine (ifp (nI_le (by omega) (by omega))).trans ?_
    rw [e_M_judges_104, nI_add, nI_1, if_neg c]
theorem jm_end {w : Nat → Nat} (hw2 : ∀ n, w n ≤ 81) {N : Nat} (hN : N ≤ 10) (x1 x2 x3 x4 : Int32) : ∃ m', sm wTM m m' ∧ resJ (f_M_judges_29 x1 x2 x3 x4 (o2 (jd w N).1) (nI (jd w N).2.1) (nI (jd w N).2.2) (nI N) (nI N) m) m' rM (jd w N) (m' = m) := by
  obtain ⟨b1, b2, b3⟩ := jd_ok hw2 N
  rw [e_M_judges_29]
  unfold resJ
  have e0 : ∀ X Y : Option (Int32 × jx_Mem), (if decide (nI N ≤ nI N) = true then X else Y) = X := fun X Y => ifp (nI_le (Nat.le_refl _) (by omega))
  rw [e0]
  cases hq : (jd w N).1 with
  | none =>
    refine ⟨m, sm.rf, Or.inr ⟨rfl, ?_, rfl⟩⟩
    refine (ifp (by decide)).trans ?_
    rw [e_M_judges_130]
    rfl
  | some q =>
    obtain ⟨c1, c2⟩ := b3 q hq
    obtain ⟨m', q1, q2, q3⟩ := s_entFr c2 b1 (show (jd w N).2.2 ≤ 810 by omega) (rM_0 m)
    refine ⟨m', (sm_w1 (by unfold wTM; omega)).tr (q3.mono (by unfold wRM wTM; omega)), Or.inl ⟨q, rfl, ?_, q2⟩⟩
    refine (ifn (nI_pos (show q < 2 ^ 31 by omega))).trans ?_
    try dsimp only
    rw [q1, Option.bind_some, e_M_judges_130]
    rfl
theorem s_judges0 (h : mineM m T P D W A U L) (g : gMine T P D W A U L) (he : earsM m E) (ge : gEars E) {p l k : Nat} (hp : p < P) (hl : l ≤ 999) (hk : k ≤ 999) :
    ∃ m', sm wTM m m' ∧ resJ (f_M_judges (nI p) (nI l) (nI k) 0 m) m' rM (jd (judW D W A E p l k) 10) (m' = m) := by
  have hP := g.2.1
  have hw2 : ∀ n, judW D W A E p l k n ≤ 81 := fun n => judW_le ge p l k n
  have key := lp_up (fun i (x : Option Nat × Nat × Nat) => f_M_judges_29 (nI p) (nI l) (nI k) 0 (o2 x.1) (nI x.2.1) (nI x.2.2) (nI 10) i m) (jd (judW D W A E p l k)) 10 (by
    intro n hn
    try dsimp only
    rw [e_M_judges_29]
    refine (ifn (nI_ge (a := n) (b := 10) hn (by omega))).trans ?_
    refine (ifp eq00).trans ?_
    rw [e_M_judges_51]
    refine (ifp eq00).trans ?_
    rw [e_M_judges_69, in_nI (show p < 8 by omega) (by omega), nI_cl (by omega), (h.2.2.2.2 p hp).1, cond_true, s_likely h g he hn (g.2.2.2.2.2 p hp).1 hl hk, Option.bind_some]
    exact jm_80 hw2 hn (Nat.le_refl _) _ _ _ _) 0 (Nat.zero_le _)
  have e0 : f_M_judges (nI p) (nI l) (nI k) 0 m = f_M_judges_29 (nI p) (nI l) (nI k) 0 (o2 (jd (judW D W A E p l k) 10).1) (nI (jd (judW D W A E p l k) 10).2.1) (nI (jd (judW D W A E p l k) 10).2.2) (nI 10) (nI 10) m := by
    rw [e_M_judges]
    refine (ifp eq00).trans ?_
    rw [e_M_judges_24]
    exact key
  rw [e0]
  exact jm_end hw2 (Nat.le_refl _) _ _ _ _
theorem s_judges1 (h : mineM m T P D W A U L) (g : gMine T P D W A U L) (he : earsM m E) (ge : gEars E) {p l k : Nat} (hp : p < P) (hl : l ≤ 999) (hk : k ≤ 999) :
    ∃ m', sm wTM m m' ∧ resJ (f_M_judges (nI p) (nI l) (nI k) 1 m) m' rM (jd (whoW D W A E p l k) P) (m' = m) := by
  have hP := g.2.1
  have hw2 : ∀ n, whoW D W A E p l k n ≤ 81 := fun n => whoW_le ge p l k n
  have key := lp_up (fun i (x : Option Nat × Nat × Nat) => f_M_judges_29 (nI p) (nI l) (nI k) 1 (o2 x.1) (nI x.2.1) (nI x.2.2) (nI P) i m) (jd (whoW D W A E p l k)) P (by
    intro n hn
    try dsimp only
    rw [e_M_judges_29]
    refine (ifn (nI_ge (a := n) (b := P) hn (by omega))).trans ?_
    refine (ifn ne10).trans ?_
    by_cases c : n = p
    · refine (ifnp (by rw [c])).trans ?_
      have e : whoW D W A E p l k n = 0 := if_pos c
      have := jm_80 (m := m) hw2 hn (show P ≤ 10 by omega) (nI p) (nI l) (nI k) 1
      rw [e] at this
      exact this
    · refine (ifnn (fun z => c ((nI_eq (by omega) (by omega)).mp z))).trans ?_
      have e : whoW D W A E p l k n = lk D W E (A n) (A p) l k := if_neg c
      rw [e_M_judges_51]
      refine (ifn ne10).trans ?_
      rw [in_nI (show n < 8 by omega) (by omega), nI_cl (by omega), cond_true, (h.2.2.2.2 n hn).1, e_M_judges_69, in_nI (show p < 8 by omega) (by omega), nI_cl (by omega), (h.2.2.2.2 p hp).1, cond_true, s_likely h g he (g.2.2.2.2.2 n hn).1 (g.2.2.2.2.2 p hp).1 hl hk, Option.bind_some]
      have := jm_80 (m := m) hw2 hn (show P ≤ 10 by omega) (nI p) (nI l) (nI k) 1
      rw [e] at this
      exact this) 0 (Nat.zero_le _)
  have e0 : f_M_judges (nI p) (nI l) (nI k) 1 m = f_M_judges_29 (nI p) (nI l) (nI k) 1 (o2 (jd (whoW D W A E p l k) P).1) (nI (jd (whoW D W A E p l k) P).2.1) (nI (jd (whoW D W A E p l k) P).2.2) (nI P) (nI P) m := by
    rw [e_M_judges]
    refine (ifn ne10).trans ?_
    rw [e_M_judges_24, h.2.1]
    exact key
  rw [e0]
  exact jm_end hw2 (show P ≤ 10 by omega) _ _ _ _
theorem M_judge (h : mineM m T P D W A U L) (g : gMine T P D W A U L) (he : earsM m E) (ge : gEars E) (x y z : Int32) : ∃ m', sm wTM m m' ∧
    ((cJud x y z P ∧ resJ (f_M_judge x y z m) m' rM (jd (judW D W A E (jn x) (jn y) (jn z)) 10) (m' = jx_w1 m 63 0 0)) ∨ (¬ cJud x y z P ∧ f_M_judge x y z m = some (-1, m') ∧ m' = jx_w1 m 63 0 0)) := by
  have h1 := mineM_th h (v := 0)
  have he1 : earsM (jx_w1 m 63 0 0) E := fun i hi => (w1_cell (by omega)).trans (he i hi)
  have s1 : sm wTM m (jx_w1 m 63 0 0) := sm_w1 (by unfold wTM; omega)
  rw [e_M_judge]
  try dsimp only
  rw [s_mpers h1 g]
  by_cases hx : 0 ≤ x.toInt ∧ x.toInt < (P : Int)
  · by_cases hyz : (0 ≤ y.toInt ∧ y.toInt ≤ 999) ∧ (0 ≤ z.toInt ∧ z.toInt ≤ 999)
    · obtain ⟨p, hp, rfl⟩ := nI_get hx.1 hx.2
      obtain ⟨l, hl, rfl⟩ := nI_get hyz.1.1 (show y.toInt < ((1000 : Nat) : Int) by omega)
      obtain ⟨k, hk, rfl⟩ := nI_get hyz.2.1 (show z.toInt < ((1000 : Nat) : Int) by omega)
      have hP := g.2.1
      rw [jn_nI (show p < 2 ^ 31 by omega), jn_nI (show l < 2 ^ 31 by omega), jn_nI (show k < 2 ^ 31 by omega)]
      obtain ⟨m3, t1, t2⟩ := s_judges0 h1 g he1 ge hp (show l ≤ 999 by omega) (show k ≤ 999 by omega)
      refine ⟨m3, s1.tr t1, Or.inl ⟨⟨hx, hyz⟩, ?_⟩⟩
      rw [jb_t hx, Option.bind_some]
      have e1 : ∀ X : Option (Int32 × jx_Mem), (if decide (((1 : Int32), jx_w1 m 63 0 0).1 = 0) = true then X else ((f_M_areLate (nI l) (nI k) ((1 : Int32), jx_w1 m 63 0 0).2).bind (fun p2 => if decide (p2.1 = 0) = true then (f_M_judge_32 p2.2) else ((f_M_judges (nI p) (nI l) (nI k) 0 p2.2).bind (fun p3 => f_M_judge_33 p3.1 p3.2))))) = f_M_judges (nI p) (nI l) (nI k) 0 (jx_w1 m 63 0 0) := by
        intro X
        simp [s_areLate, jb_t hyz, e_M_judge_33, bid]
      rw [e1]
      exact t2
    · refine ⟨_, s1, Or.inr ⟨fun q => hyz q.2, ?_, rfl⟩⟩
      rw [jb_t hx]
      simp [s_areLate, jb_f hyz, e_M_judge_32, e_M_judge_33]
  · refine ⟨_, s1, Or.inr ⟨fun q => hx q.1, ?_, rfl⟩⟩
    rw [jb_f hx]
    simp [e_M_judge_32, e_M_judge_33]
theorem M_who (h : mineM m T P D W A U L) (g : gMine T P D W A U L) (he : earsM m E) (ge : gEars E) (x y z : Int32) : ∃ m', sm wTM m m' ∧
    ((cJud x y z P ∧ resJ (f_M_who x y z m) m' rM (jd (whoW D W A E (jn x) (jn y) (jn z)) P) (m' = jx_w1 m 63 0 0)) ∨ (¬ cJud x y z P ∧ f_M_who x y z m = some (-1, m') ∧ m' = jx_w1 m 63 0 0)) := by
  have h1 := mineM_th h (v := 0)
  have he1 : earsM (jx_w1 m 63 0 0) E := fun i hi => (w1_cell (by omega)).trans (he i hi)
  have s1 : sm wTM m (jx_w1 m 63 0 0) := sm_w1 (by unfold wTM; omega)
  rw [e_M_who]
  try dsimp only
  rw [s_mpers h1 g]
  by_cases hx : 0 ≤ x.toInt ∧ x.toInt < (P : Int)
  · by_cases hyz : (0 ≤ y.toInt ∧ y.toInt ≤ 999) ∧ (0 ≤ z.toInt ∧ z.toInt ≤ 999)
    · obtain ⟨p, hp, rfl⟩ := nI_get hx.1 hx.2
      obtain ⟨l, hl, rfl⟩ := nI_get hyz.1.1 (show y.toInt < ((1000 : Nat) : Int) by omega)
      obtain ⟨k, hk, rfl⟩ := nI_get hyz.2.1 (show z.toInt < ((1000 : Nat) : Int) by omega)
      have hP := g.2.1
      rw [jn_nI (show p < 2 ^ 31 by omega), jn_nI (show l < 2 ^ 31 by omega), jn_nI (show k < 2 ^ 31 by omega)]
      obtain ⟨m3, t1, t2⟩ := s_judges1 h1 g he1 ge hp (show l ≤ 999 by omega) (show k ≤ 999 by omega)
      refine ⟨m3, s1.tr t1, Or.inl ⟨⟨hx, hyz⟩, ?_⟩⟩
      rw [jb_t hx, Option.bind_some]
      have e1 : ∀ X : Option (Int32 × jx_Mem), (if decide (((1 : Int32), jx_w1 m 63 0 0).1 = 0) = true then X else ((f_M_areLate (nI l) (nI k) ((1 : Int32), jx_w1 m 63 0 0).2).bind (fun p2 => if decide (p2.1 = 0) = true then (f_M_who_32 p2.2) else ((f_M_judges (nI p) (nI l) (nI k) 1 p2.2).bind (fun p3 => f_M_who_33 p3.1 p3.2))))) = f_M_judges (nI p) (nI l) (nI k) 1 (jx_w1 m 63 0 0) := by
        intro X
        simp [s_areLate, jb_t hyz, e_M_who_33, bid]
      rw [e1]
      exact t2
    · refine ⟨_, s1, Or.inr ⟨fun q => hyz q.2, ?_, rfl⟩⟩
      rw [jb_t hx]
      simp [s_areLate, jb_f hyz, e_M_who_32, e_M_who_33]
  · refine ⟨_, s1, Or.inr ⟨fun q => hx q.1, ?_, rfl⟩⟩
    rw [jb_f hx]
    simp [e_M_who_32, e_M_who_33]
end JUDGE
