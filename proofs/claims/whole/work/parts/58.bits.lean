/-! sets as numbers: bits, has, sums -/
def bs (p : Nat → Bool) : Nat → Nat
  | 0 => 0
  | n + 1 => bs p n + (if p n = true then 2 ^ n else 0)
theorem bs_s (p : Nat → Bool) (n : Nat) : bs p (n + 1) = bs p n + (if p n = true then 2 ^ n else 0) := rfl
theorem bs_lt (p : Nat → Bool) : ∀ n, bs p n < 2 ^ n := by
  intro n
  induction n with
  | zero => exact Nat.zero_lt_one
  | succ n ih =>
    rw [bs_s, Nat.pow_succ]
    split <;> omega
theorem bs_tb (p : Nat → Bool) (i : Nat) : ∀ n, (bs p n).testBit i = (decide (i < n) && p i) := by
  intro n
  induction n with
  | zero => simp [bs]
  | succ n ih =>
    rw [bs_s]
    have hl := bs_lt p n
    by_cases hp : p n = true
    · rw [if_pos hp, Nat.add_comm]
      by_cases h1 : i < n
      · rw [Nat.testBit_two_pow_add_gt h1, ih]
        simp [h1, show i < n + 1 by omega]
      · by_cases h2 : i = n
        · subst h2
          rw [Nat.testBit_two_pow_add_eq, ih]
          simp [hp]
        · rw [Nat.testBit_lt_two_pow (Nat.lt_of_lt_of_le (show 2 ^ n + bs p n < 2 ^ (n + 1) by rw [Nat.pow_succ]; omega) (Nat.pow_le_pow_right (by omega) (show n + 1 ≤ i by omega)))]
          simp [show ¬ i < n + 1 by omega]
    · rw [if_neg hp, Nat.add_zero, ih]
      by_cases h2 : i = n
      · subst h2
        simp [hp]
      · have : (i < n + 1) ↔ (i < n) := by omega
        simp [this]
theorem tb_ge {S n i : Nat} (h : S < 2 ^ n) (hi : n ≤ i) : S.testBit i = false := Nat.testBit_lt_two_pow (Nat.lt_of_lt_of_le h (Nat.pow_le_pow_right (by omega) hi))
theorem bs_eq {S n : Nat} {p : Nat → Bool} (h : S < 2 ^ n) (hp : ∀ i, i < n → S.testBit i = p i) : S = bs p n := by
  apply Nat.eq_of_testBit_eq
  intro i
  rw [bs_tb]
  by_cases hi : i < n
  · rw [hp i hi]; simp [hi]
  · rw [tb_ge h (by omega)]; simp [hi]
theorem bs_congr {p q : Nat → Bool} {n : Nat} (h : ∀ i, i < n → p i = q i) : bs p n = bs q n := by
  induction n with
  | zero => rfl
  | succ n ih => rw [bs_s, bs_s, ih (fun i hi => h i (by omega)), h n (by omega)]
theorem tb_ext {S R n : Nat} (hS : S < 2 ^ n) (hR : R < 2 ^ n) (h : ∀ i, i < n → S.testBit i = R.testBit i) : S = R := by
  rw [bs_eq hS h, ← bs_eq hR (fun i _ => rfl)]
theorem pw31 {n : Nat} (h : n < 31) : 2 ^ n < 2 ^ 31 := Nat.pow_lt_pow_right (by omega) h
theorem sh1 {n : Nat} (h : n < 31) : (1 : Int32) <<< (nI n &&& 31) = nI (2 ^ n) := by
  have h1 := pk_shlN (n := 1) (nI n &&& 31) n (s_l n (by omega)) (by have := pw31 h; omega)
  rw [Nat.one_mul] at h1
  exact h1
theorem or_bs {p : Nat → Bool} {n : Nat} (h : n < 31) : nI (bs p n) ||| nI (if p n = true then 2 ^ n else 0) = nI (bs p (n + 1)) := by
  rw [bs_s]
  split
  · have h1 := fa_or_sum (k := n) 1 (bs_lt p n)
    rw [Nat.mul_one] at h1
    rw [fa_or, Nat.or_comm, ← fa_or, h1, Nat.add_comm]
  · rw [fa_or, Nat.or_zero, Nat.add_zero]
theorem or_bs_t {p : Nat → Bool} {n : Nat} (h : n < 31) (hp : p n = true) : nI (bs p n) ||| (1 : Int32) <<< (nI n &&& 31) = nI (bs p (n + 1)) := by
  rw [sh1 h, ← or_bs h, if_pos hp]
theorem or_bs_f {p : Nat → Bool} {n : Nat} (h : n < 31) (hp : p n = false) : nI (bs p n) ||| 0 = nI (bs p (n + 1)) := by
  rw [← or_bs h, if_neg (by simp [hp])]; rfl
theorem bs_f {p : Nat → Bool} {n : Nat} (hp : p n = false) : nI (bs p n) = nI (bs p (n + 1)) := by
  rw [bs_s, if_neg (by simp [hp]), Nat.add_zero]
theorem s_has {S g : Nat} {m : jx_Mem} (hS : S < 2 ^ 31) (hg : g < 31) : f_F_has (nI S) (nI g) m = some (jb (S.testBit g = true), m) := by
  rw [e_F_has]
  unfold jx_ushr
  rw [pk_ushrN (by omega) (nI g) g (s_u g (by omega)), pk_andN (n := S / 2 ^ g) (Nat.lt_of_le_of_lt (Nat.div_le_self _ _) (by omega)) (m := 1) 1 rfl, Nat.testBit_eq_decide_div_mod_eq]
  by_cases h : S / 2 ^ g % 2 = 1
  · rw [jb_t (by simpa using h), show S / 2 ^ g % 2 ^ 1 = 1 from h, if_neg (by decide), e_F_has_13]; rfl
  · rw [jb_f (by simpa using h), show S / 2 ^ g % 2 ^ 1 = 0 by omega, if_pos (by decide), e_F_has_13]; rfl
theorem s_mhas {S g : Nat} {m : jx_Mem} (hS : S < 2 ^ 31) (hg : g < 31) : f_M_has (nI S) (nI g) m = some (jb (S.testBit g = true), m) := by
  rw [e_M_has, pk_shrN hS (nI g &&& 31) g (s_l g (by omega)), pk_andN (n := S / 2 ^ g) (Nat.lt_of_le_of_lt (Nat.div_le_self _ _) (by omega)) (m := 1) 1 rfl, Nat.testBit_eq_decide_div_mod_eq]
  by_cases h : S / 2 ^ g % 2 = 1
  · rw [jb_t (by simpa using h), show S / 2 ^ g % 2 ^ 1 = 1 from h, if_neg (by decide), e_M_has_14]; rfl
  · rw [jb_f (by simpa using h), show S / 2 ^ g % 2 ^ 1 = 0 by omega, if_pos (by decide), e_M_has_14]; rfl
theorem s_has_t {S g : Nat} {m : jx_Mem} (hS : S < 2 ^ 31) (hg : g < 31) (h : S.testBit g = true) : f_F_has (nI S) (nI g) m = some (1, m) := by rw [s_has hS hg, jb_t h]
theorem s_has_f {S g : Nat} {m : jx_Mem} (hS : S < 2 ^ 31) (hg : g < 31) (h : S.testBit g = false) : f_F_has (nI S) (nI g) m = some (0, m) := by rw [s_has hS hg, jb_f (by simp [h])]
theorem s_mhas_t {S g : Nat} {m : jx_Mem} (hS : S < 2 ^ 31) (hg : g < 31) (h : S.testBit g = true) : f_M_has (nI S) (nI g) m = some (1, m) := by rw [s_mhas hS hg, jb_t h]
theorem s_mhas_f {S g : Nat} {m : jx_Mem} (hS : S < 2 ^ 31) (hg : g < 31) (h : S.testBit g = false) : f_M_has (nI S) (nI g) m = some (0, m) := by rw [s_mhas hS hg, jb_f (by simp [h])]
/-- a sum over a set -/
def sumB (S : Nat) (f : Nat → Nat) (n : Nat) : Nat := fb_sm (fun k => if S.testBit k = true then f k else 0) n
theorem sumB_s (S : Nat) (f : Nat → Nat) (n : Nat) : sumB S f (n + 1) = sumB S f n + (if S.testBit n = true then f n else 0) := rfl
theorem sumB_le {S : Nat} {f : Nat → Nat} {c : Nat} : ∀ {n : Nat}, (∀ k, k < n → f k ≤ c) → sumB S f n ≤ n * c := by
  intro n
  induction n with
  | zero => intro _; simp [sumB, fb_sm]
  | succ n ih =>
    intro h
    rw [sumB_s, Nat.succ_mul]
    have h1 := ih (fun k hk => h k (by omega))
    have h2 := h n (by omega)
    split <;> omega
theorem sumB_more {S : Nat} {f : Nat → Nat} {n : Nat} (h : S < 2 ^ n) : ∀ k, sumB S f (n + k) = sumB S f n := by
  intro k
  induction k with
  | zero => rfl
  | succ k ih => rw [← Nat.add_assoc, sumB_s, ih, tb_ge h (by omega)]; rfl
/-- a loop whose place is a number, with what it holds -/
theorem lp_up {α β : Type} (L : Int32 → α → β) (v : Nat → α) (b : Nat) (h : ∀ n, n < b → L (nI n) (v n) = L (nI (n + 1)) (v (n + 1))) : ∀ i, i ≤ b → L (nI i) (v i) = L (nI b) (v b) := by
  intro i hi
  obtain ⟨k, rfl⟩ : ∃ k, b = i + k := ⟨b - i, by omega⟩
  induction k with
  | zero => rfl
  | succ k ih => rw [ih (fun n hn => h n (by omega)) (by omega), h (i + k) (by omega)]; rfl
