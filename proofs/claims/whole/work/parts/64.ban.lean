/-! ban: each group keeps its best one -/
def anyF (c : Nat → Bool) : Nat → Nat → Bool
  | _, 0 => false
  | n, k + 1 => c n || anyF c (n + 1) k
theorem anyF_iff {c : Nat → Bool} : ∀ {k n : Nat}, anyF c n k = true ↔ ∃ o, n ≤ o ∧ o < n + k ∧ c o = true := by
  intro k
  induction k with
  | zero => intro n; exact ⟨fun h => (by cases h), fun ⟨o, h1, h2, _⟩ => (by omega)⟩
  | succ k ih =>
    intro n
    show (c n || anyF c (n + 1) k) = true ↔ _
    rw [Bool.or_eq_true, ih]
    constructor
    · rintro (h | ⟨o, h1, h2, h3⟩)
      · exact ⟨n, by omega, by omega, h⟩
      · exact ⟨o, by omega, by omega, h3⟩
    · rintro ⟨o, h1, h2, h3⟩
      by_cases q : o = n
      · subst q; exact Or.inl h3
      · exact Or.inr ⟨o, by omega, by omega, h3⟩
theorem lp_any {β : Type} (L : Int32 → β) (c : Nat → Bool) (t e : β) (b : Nat) (he : L (nI b) = e) (hs : ∀ n, n < b → L (nI n) = if c n = true then t else L (nI (n + 1))) : ∀ k n, n + k = b → L (nI n) = if anyF c n k = true then t else e := by
  intro k
  induction k with
  | zero => intro n hn; rw [show n = b by omega, he]; rfl
  | succ k ih =>
    intro n hn
    rw [hs n (by omega)]
    show _ = if (c n || anyF c (n + 1) k) = true then t else e
    by_cases q : c n = true
    · rw [if_pos q, q]; rfl
    · rw [if_neg q, ih (n + 1) (by omega)]
      have : c n = false := by simpa using q
      rw [this]; rfl
theorem mx_at (p : Nat → Bool) (w : Nat → Nat) : ∀ n, (∃ g, g < n ∧ p g = true) → ∃ h, h < n ∧ p h = true ∧ ∀ o, o < n → p o = true → w o ≤ w h := by
  intro n
  induction n with
  | zero => rintro ⟨g, hg, _⟩; omega
  | succ n ih =>
    rintro ⟨g, hg, hp⟩
    by_cases q : ∃ g, g < n ∧ p g = true
    · obtain ⟨h, h1, h2, h3⟩ := ih q
      by_cases c : p n = true ∧ w h < w n
      · refine ⟨n, by omega, c.1, fun o ho po => ?_⟩
        by_cases d : o = n
        · subst d; exact Nat.le_refl _
        · have := h3 o (by omega) po; omega
      · refine ⟨h, by omega, h2, fun o ho po => ?_⟩
        by_cases d : o = n
        · subst d
          rcases Nat.lt_or_ge (w h) (w o) with e | e
          · exact absurd ⟨po, e⟩ c
          · exact e
        · exact h3 o (by omega) po
    · have hg2 : g = n := by
        rcases Nat.lt_or_ge g n with e | e
        · exact absurd ⟨g, e, hp⟩ q
        · omega
      subst hg2
      refine ⟨g, by omega, hp, fun o ho po => ?_⟩
      by_cases d : o = g
      · subst d; exact Nat.le_refl _
      · exact absurd ⟨o, by omega, po⟩ q
theorem sum_inj {R T : Nat → Bool} {w f : Nat → Nat} {G : Nat} (h1 : ∀ g, g < G → R g = true → f g < G ∧ T (f g) = true ∧ w g ≤ w (f g)) (h2 : ∀ g g', g < G → g' < G → R g = true → R g' = true → f g = f g' → g = g') :
    fb_sm (fun g => if R g = true then w g else 0) G ≤ fb_sm (fun g => if T g = true then w g else 0) G := by
  have key : ∀ n, n ≤ G → ∃ c : Nat → Nat, (∀ h, T h = true → (∀ g, g < n → R g = true → f g ≠ h) → c h = w h) ∧ fb_sm (fun g => if R g = true then w g else 0) n + fb_sm c G ≤ fb_sm (fun g => if T g = true then w g else 0) G := by
    intro n
    induction n with
    | zero =>
      intro _
      refine ⟨fun g => if T g = true then w g else 0, fun h hT _ => if_pos hT, ?_⟩
      show 0 + _ ≤ _
      omega
    | succ n ih =>
      intro hn
      obtain ⟨c, c1, c2⟩ := ih (by omega)
      by_cases r : R n = true
      · obtain ⟨f1, f2, f3⟩ := h1 n (by omega) r
        refine ⟨up c (f n) 0, fun h hT hq => ?_, ?_⟩
        · rw [up_n (fun z => hq n (by omega) r z.symm)]
          exact c1 h hT (fun g hg hr => hq g (by omega) hr)
        · have e1 := fb_sm_upd c 0 f1
          have e2 := c1 (f n) f2 (fun g hg hr z => by
            have := h2 g n (by omega) (by omega) hr r z
            omega)
          rw [fb_sm_succ, if_pos r]
          unfold up
          omega
      · refine ⟨c, fun h hT hq => c1 h hT (fun g hg hr => hq g (by omega) hr), ?_⟩
        rw [fb_sm_succ, if_neg r]
        omega
  obtain ⟨c, _, c2⟩ := key G (Nat.le_refl _)
  omega
/-- a weight that orders by how many, how often, and as a number -/
def wt (O : Nat → Nat) (g : Nat) : Nat := 1048576 + 1024 * O g + 2 ^ g
theorem wt_lt {O : Nat → Nat} {a b : Nat} (ha : a < 10) (hb : b < 10) (h : O a < O b ∨ (O a = O b ∧ a < b)) : wt O a < wt O b := by
  unfold wt
  have h1 : 2 ^ a < 2 ^ 10 := Nat.pow_lt_pow_right (by omega) ha
  have h2 := Nat.two_pow_pos b
  rcases h with h | h
  · omega
  · have : 2 ^ a < 2 ^ b := Nat.pow_lt_pow_right (by omega) h.2
    omega
def pcn (S n : Nat) : Nat := sumB S (fun _ => 1) n
theorem wt_sum (S : Nat) (O : Nat → Nat) : ∀ n, sumB S (wt O) n = 1048576 * pcn S n + 1024 * sumB S O n + bs S.testBit n := by
  intro n
  induction n with
  | zero => rfl
  | succ n ih =>
    unfold pcn at ih ⊢
    rw [sumB_s, sumB_s, sumB_s, bs_s, ih]
    unfold wt
    split <;> omega
theorem bs_self {S n : Nat} (h : S < 2 ^ n) : bs S.testBit n = S := (bs_eq h (fun _ _ => rfl)).symm
theorem bc_small : ∀ a, a < 1024 → bc (nI a) = nI (pcn a 10) := by decide +kernel
theorem pcn_le (S : Nat) {n : Nat} : pcn S n ≤ n := by
  have := sumB_le (S := S) (f := fun _ => 1) (c := 1) (n := n) (fun _ _ => Nat.le_refl _)
  unfold pcn
  omega
theorem bc_pcn {a G : Nat} (hG : G ≤ 10) (ha : a < 2 ^ G) : bc (nI a) = nI (pcn a G) := by
  have h1 : a < 1024 := Nat.lt_of_lt_of_le ha (Nat.le_trans (Nat.pow_le_pow_right (by omega) hG) (by decide))
  rw [bc_small a h1]
  have h2 := sumB_more (f := fun _ => 1) ha (10 - G)
  rw [show G + (10 - G) = 10 by omega] at h2
  unfold pcn
  rw [h2]
theorem btr_iff {O : Nat → Nat} {a b G : Nat} (hG : G ≤ 10) (ha : a < 2 ^ G) (hb : b < 2 ^ G) : btr O G a (some b) = true ↔ pcn a G < pcn b G ∨ (pcn a G = pcn b G ∧ sumB a O G < sumB b O G) := by
  have l1 := pcn_le a (n := G)
  have l2 := pcn_le b (n := G)
  have e1 : (bc (nI a) - bc (nI b)).toInt = (pcn a G : Int) - pcn b G := by
    rw [bc_pcn hG ha, bc_pcn hG hb, pk_sub_toInt (by omega) (by omega)]
  rw [btr_some, Bool.or_eq_true, Bool.and_eq_true, decide_eq_true_eq, decide_eq_true_eq, decide_eq_true_eq, i_lt, i_eq, e1, show (0 : Int32).toInt = 0 from rfl]
  omega
/-- a set without another -/
def df (G S n : Nat) : Nat := bs (fun i => S.testBit i && !n.testBit i) G
theorem df_lt (G S n : Nat) : df G S n < 2 ^ G := bs_lt _ _
theorem df_tb {G S n i : Nat} (hi : i < G) : (df G S n).testBit i = (S.testBit i && !n.testBit i) := by unfold df; rw [bs_tb]; simp [hi]
theorem df_sum {G S n : Nat} {w : Nat → Nat} (h : ∀ i, i < G → n.testBit i = true → S.testBit i = true) : sumB S w G = sumB n w G + sumB (df G S n) w G := by
  have : ∀ k, k ≤ G → sumB S w k = sumB n w k + sumB (df G S n) w k := by
    intro k
    induction k with
    | zero => intro _; rfl
    | succ k ih =>
      intro hk
      rw [sumB_s, sumB_s, sumB_s, ih (by omega), df_tb (by omega)]
      have h1 := h k (by omega)
      cases c : n.testBit k <;> cases d : S.testBit k <;> simp_all
      all_goals omega
  exact this G (Nat.le_refl _)
/-- what may be banned -/
def vld (N : Nat → Nat → Nat) (G K S b n : Nat) : Prop := (∀ i, i < G → n.testBit i = true → S.testBit i = true) ∧ mxS N G K (df G S n) b = 0
theorem mxS_0 {N : Nat → Nat → Nat} {G K R b : Nat} : mxS N G K R b = 0 ↔ ∀ g o, g < G → o < G → o ≠ g → R.testBit g = true → R.testBit o = true → ¬ eqT N b g o K = true := by
  constructor
  · intro h g o hg ho hn h1 h2 h3
    have h4 : (mxS N G K R b).testBit g = false := by rw [h]; simp
    unfold mxS at h4
    rw [bs_tb, h1, mx_iff.mpr ⟨o, ho, hn, h2, h3⟩] at h4
    simp [hg] at h4
  · intro h
    apply Nat.eq_of_testBit_eq
    intro g
    unfold mxS
    rw [bs_tb, Nat.zero_testBit]
    by_cases hg : g < G
    · by_cases h1 : R.testBit g = true
      · have : ¬ mx N K R b g G = true := by
          intro z
          obtain ⟨o, h2, h3, h4, h5⟩ := mx_iff.mp z
          exact h g o hg h2 h3 h1 h4 h5
        simp [this]
      · simp [h1]
    · simp [hg]
/-- whether it gives way -/
def gwC (O : Nat → Nat) (R g o : Nat) : Bool := !(o == g) && (R.testBit o && (decide (O g < O o) || (O o == O g && decide (g < o))))
def tb (N : Nat → Nat → Nat) (O : Nat → Nat) (G K S b : Nat) : Nat := bs (fun g => S.testBit g && anyF (gwC O (sa N G K S b g) g) 0 G) G
theorem gw_iff {N : Nat → Nat → Nat} {O : Nat → Nat} {G K S b g : Nat} : anyF (gwC O (sa N G K S b g) g) 0 G = true ↔ ∃ o, o < G ∧ o ≠ g ∧ S.testBit o = true ∧ eqT N b g o K = true ∧ (O g < O o ∨ (O g = O o ∧ g < o)) := by
  rw [anyF_iff]
  constructor
  · rintro ⟨o, _, h2, h3⟩
    unfold gwC sa at h3
    rw [bs_tb] at h3
    simp at h3
    exact ⟨o, by omega, h3.1, h3.2.1.2.1, h3.2.1.2.2, by omega⟩
  · rintro ⟨o, h1, h2, h3, h4, h5⟩
    refine ⟨o, Nat.zero_le _, by omega, ?_⟩
    unfold gwC sa
    rw [bs_tb]
    simp [h2, h1, h3, h4]
    omega
theorem eqT_rf {N : Nat → Nat → Nat} {b g K : Nat} : eqT N b g g K = true := eqT_iff.mpr (fun _ _ _ => rfl)
theorem eqT_sy {N : Nat → Nat → Nat} {b g o K : Nat} (h : eqT N b g o K = true) : eqT N b o g K = true := eqT_iff.mpr (fun t ht hb => (eqT_iff.mp h t ht hb).symm)
theorem eqT_tr {N : Nat → Nat → Nat} {b g o p K : Nat} (h : eqT N b g o K = true) (h2 : eqT N b o p K = true) : eqT N b g p K = true := eqT_iff.mpr (fun t ht hb => (eqT_iff.mp h2 t ht hb).trans (eqT_iff.mp h t ht hb))
theorem tb_tb {N : Nat → Nat → Nat} {O : Nat → Nat} {G K S b g : Nat} (hg : g < G) : (tb N O G K S b).testBit g = (S.testBit g && anyF (gwC O (sa N G K S b g) g) 0 G) := by unfold tb; rw [bs_tb]; simp [hg]
theorem tb_vld {N : Nat → Nat → Nat} {O : Nat → Nat} {G K S b : Nat} : vld N G K S b (tb N O G K S b) := by
  refine ⟨fun i hi h => ?_, ?_⟩
  · rw [tb_tb hi] at h
    simp at h
    exact h.1
  · rw [mxS_0]
    intro g o hg ho hn h1 h2 h3
    rw [df_tb hg, tb_tb hg] at h1
    rw [df_tb ho, tb_tb ho] at h2
    have g1 : S.testBit g = true := by revert h1; cases S.testBit g <;> simp
    have g2 : S.testBit o = true := by revert h2; cases S.testBit o <;> simp
    rw [g1] at h1
    rw [g2] at h2
    have n1 : ¬ anyF (gwC O (sa N G K S b g) g) 0 G = true := by intro z; rw [z] at h1; cases h1
    have n2 : ¬ anyF (gwC O (sa N G K S b o) o) 0 G = true := by intro z; rw [z] at h2; cases h2
    rw [gw_iff] at n1 n2
    by_cases c : O g < O o ∨ (O g = O o ∧ g < o)
    · exact n1 ⟨o, ho, hn, g2, h3, c⟩
    · exact n2 ⟨g, hg, fun z => hn z.symm, g1, eqT_sy h3, by omega⟩
theorem tb_most {N : Nat → Nat → Nat} {O : Nat → Nat} {G K S b n : Nat} (hG : G ≤ 10) (hn : vld N G K S b n) : sumB (df G S n) (wt O) G ≤ sumB (df G S (tb N O G K S b)) (wt O) G := by
  have hch : ∀ g, ∃ h, g < G → S.testBit g = true → h < G ∧ S.testBit h = true ∧ eqT N b g h K = true ∧ ∀ o, o < G → S.testBit o = true → eqT N b g o K = true → wt O o ≤ wt O h := by
    intro g
    by_cases c : g < G ∧ S.testBit g = true
    · obtain ⟨h, h1, h2, h3⟩ := mx_at (fun o => S.testBit o && eqT N b g o K) (wt O) G ⟨g, c.1, by simp [c.2, eqT_rf]⟩
      simp only [Bool.and_eq_true] at h2 h3
      exact ⟨h, fun _ _ => ⟨h1, h2.1, h2.2, fun o ho s e => h3 o ho ⟨s, e⟩⟩⟩
    · exact ⟨0, fun a d => absurd ⟨a, d⟩ c⟩
  obtain ⟨f, hf⟩ := Classical.skolem.mp hch
  have hR : ∀ g, g < G → (df G S n).testBit g = true → S.testBit g = true := by
    intro g hg h
    rw [df_tb hg] at h
    revert h; cases S.testBit g <;> simp
  refine sum_inj (f := f) (fun g hg hr => ?_) (fun g g' hg hg' hr hr' e => ?_)
  · have s := hR g hg hr
    obtain ⟨f1, f2, f3, f4⟩ := hf g hg s
    refine ⟨f1, ?_, f4 g hg s eqT_rf⟩
    rw [df_tb f1, tb_tb f1, f2]
    have : ¬ anyF (gwC O (sa N G K S b (f g)) (f g)) 0 G = true := by
      rw [gw_iff]
      rintro ⟨o, o1, o2, o3, o4, o5⟩
      have := f4 o o1 o3 (eqT_tr f3 o4)
      have := wt_lt (O := O) (show f g < 10 by omega) (show o < 10 by omega) o5
      omega
    simp [this]
  · rcases Decidable.em (g = g') with q | q
    · exact q
    · have s := hR g hg hr
      have s' := hR g' hg' hr'
      obtain ⟨_, _, f3, _⟩ := hf g hg s
      obtain ⟨_, _, f3', _⟩ := hf g' hg' s'
      rw [e] at f3
      exact absurd (eqT_tr f3 (eqT_sy f3')) (mxS_0.mp hn.2 g g' hg hg' (fun z => q z.symm) hr hr')
/-- the best so far, of what may be banned -/
def bn (P : Nat → Bool) (O : Nat → Nat) (G : Nat) : Nat → Option Nat
  | 0 => none
  | n + 1 => if P n = true ∧ btr O G n (bn P O G n) = true then some n else bn P O G n
theorem bn_lt {P : Nat → Bool} {O : Nat → Nat} {G : Nat} : ∀ n b, bn P O G n = some b → b < n ∧ P b = true := by
  intro n
  induction n with
  | zero => intro b h; cases h
  | succ n ih =>
    intro b h
    unfold bn at h
    split at h
    · rename_i q
      cases h; exact ⟨by omega, q.1⟩
    · have := ih b h; exact ⟨by omega, this.2⟩
theorem bn_best {P : Nat → Bool} {O : Nat → Nat} {G B : Nat} (hB : P B = true) (h1 : ∀ n, n < B → P n = true → btr O G B (some n) = true) (h2 : ∀ n, B < n → P n = true → n < 2 ^ G → btr O G n (some B) = false) : ∀ k, B + 1 + k ≤ 2 ^ G → bn P O G (B + 1 + k) = some B := by
  intro k
  induction k with
  | zero =>
    intro _
    show (if P B = true ∧ btr O G B (bn P O G B) = true then some B else bn P O G B) = some B
    rw [if_pos]
    refine ⟨hB, ?_⟩
    cases hq : bn P O G B with
    | none => rfl
    | some n =>
      have := bn_lt B n hq
      exact h1 n this.1 this.2
  | succ k ih =>
    intro hk
    show (if P (B + 1 + k) = true ∧ btr O G (B + 1 + k) (bn P O G (B + 1 + k)) = true then some (B + 1 + k) else bn P O G (B + 1 + k)) = some B
    rw [ih (by omega), if_neg]
    rintro ⟨p1, p2⟩
    rw [h2 (B + 1 + k) (by omega) p1 (by omega)] at p2
    cases p2
def vldB (N : Nat → Nat → Nat) (G K S b n : Nat) : Bool := decide (df G n S = 0) && decide (mxS N G K (df G S n) b = 0)
theorem vldB_iff {N : Nat → Nat → Nat} {G K S b n : Nat} : vldB N G K S b n = true ↔ vld N G K S b n := by
  unfold vldB vld
  rw [Bool.and_eq_true, decide_eq_true_eq, decide_eq_true_eq]
  refine and_congr_left (fun _ => ?_)
  constructor
  · intro h i hi hn
    have h1 : (df G n S).testBit i = false := by rw [h]; simp
    rw [df_tb hi, hn] at h1
    revert h1; cases S.testBit i <;> simp
  · intro h
    apply Nat.eq_of_testBit_eq
    intro i
    unfold df
    rw [bs_tb, Nat.zero_testBit]
    by_cases hi : i < G
    · by_cases c : n.testBit i = true
      · simp [h i hi c]
      · simp [c]
    · simp [hi]
theorem sub_le {G n S : Nat} (hn : n < 2 ^ G) (hS : S < 2 ^ G) (h : ∀ i, i < G → n.testBit i = true → S.testBit i = true) : n ≤ S := by
  have h1 := df_sum (w := fun i => 2 ^ i) h
  have e : ∀ T, T < 2 ^ G → sumB T (fun i => 2 ^ i) G = T := by
    intro T hT
    have : ∀ k, sumB T (fun i => 2 ^ i) k = bs T.testBit k := by
      intro k
      induction k with
      | zero => rfl
      | succ k ih => rw [sumB_s, bs_s, ih]
    rw [this, bs_self hT]
  rw [e S hS, e n hn, e _ (df_lt G S n)] at h1
  omega
theorem ban_is {N : Nat → Nat → Nat} {O : Nat → Nat} {G K S b : Nat} (hG : G ≤ 10) (hO : ∀ g, g < G → O g ≤ 9) (hS : S < 2 ^ G) : bn (vldB N G K S b) O G (S + 1) = some (tb N O G K S b) := by
  have hB : tb N O G K S b < 2 ^ G := bs_lt _ _
  have hp : 2 ^ G ≤ 1024 := Nat.le_trans (Nat.pow_le_pow_right (by omega) hG) (by decide)
  have hv := tb_vld (N := N) (O := O) (G := G) (K := K) (S := S) (b := b)
  have hle := sub_le hB hS hv.1
  have key : ∀ n, n < 2 ^ G → vldB N G K S b n = true → sumB (tb N O G K S b) (wt O) G ≤ sumB n (wt O) G := by
    intro n hn h
    have v := vldB_iff.mp h
    have e1 := df_sum (w := wt O) v.1
    have e2 := df_sum (w := wt O) hv.1
    have e3 := tb_most (O := O) hG v
    omega
  have wsum : ∀ T, T < 2 ^ G → sumB T (wt O) G = 1048576 * pcn T G + 1024 * sumB T O G + T := by
    intro T hT
    rw [wt_sum, bs_self hT]
  have so : ∀ T, sumB T O G ≤ 90 := fun T => by
    have := sumB_le (S := T) hO
    have : G * 9 ≤ 90 := by omega
    omega
  have h := bn_best (P := vldB N G K S b) (O := O) (G := G) (B := tb N O G K S b) (vldB_iff.mpr hv) (fun n hn h => ?_) (fun n hn h hn2 => ?_) (S - tb N O G K S b) (by omega)
  · rw [show tb N O G K S b + 1 + (S - tb N O G K S b) = S + 1 by omega] at h
    exact h
  · have k1 := key n (by omega) h
    rw [wsum n (by omega), wsum _ hB] at k1
    have s1 := so n
    have s2 := so (tb N O G K S b)
    rw [btr_iff hG hB (by omega)]
    omega
  · have k1 := key n hn2 h
    rw [wsum n hn2, wsum _ hB] at k1
    have s1 := so n
    have s2 := so (tb N O G K S b)
    have : ¬ btr O G n (some (tb N O G K S b)) = true := by
      rw [btr_iff hG hn2 hB]
      omega
    simpa using this
