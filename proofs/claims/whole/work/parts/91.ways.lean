/-! hands: ways to give clinks, counted clink by clink and one by one -/
theorem fb_sm_eo (f : Nat → Nat) : ∀ n, fb_sm f (2 * n) = fb_sm (fun i => f (2 * i)) n + fb_sm (fun i => f (2 * i + 1)) n := by
  intro n
  induction n with
  | zero => rfl
  | succ n ih =>
    rw [show 2 * (n + 1) = 2 * n + 1 + 1 by omega, fb_sm_succ, fb_sm_succ, fb_sm_succ, fb_sm_succ, ih]
    omega
theorem fb_sm_sw (F : Nat → Nat → Nat) (n : Nat) : ∀ p, fb_sm (fun q => fb_sm (fun r => F q r) n) p = fb_sm (fun r => fb_sm (fun q => F q r) p) n := by
  intro p
  induction p with
  | zero =>
    rw [show fb_sm (fun q => fb_sm (fun r => F q r) n) 0 = 0 from rfl]
    symm
    have : fb_sm (fun r => fb_sm (fun q => F q r) 0) n = fb_sm (fun _ => 0) n := fb_sm_cong (fun k _ => rfl)
    rw [this, fb_sm_const]
    omega
  | succ p ih =>
    rw [fb_sm_succ, ih, ← fb_sm_add]
    exact fb_sm_cong (fun k _ => rfl)
theorem fb_sm_hd (f : Nat → Nat) (d : Nat) : fb_sm f (d + 1) = f 0 + fb_sm (fun i => f (i + 1)) d := by
  rw [Nat.add_comm d 1, fb_sm_split]
  congr 1
  · show 0 + f 0 = f 0
    omega
  · exact fb_sm_cong (fun k _ => by rw [Nat.add_comm])
theorem fb_sm_pos {f : Nat → Nat} : ∀ {n : Nat}, 0 < fb_sm f n ↔ ∃ i, i < n ∧ 0 < f i := by
  intro n
  induction n with
  | zero =>
    constructor
    · intro h; exact absurd h (Nat.lt_irrefl 0)
    · rintro ⟨i, hi, _⟩; exact absurd hi (Nat.not_lt_zero i)
  | succ n ih =>
    rw [fb_sm_succ]
    constructor
    · intro h
      by_cases c : 0 < f n
      · exact ⟨n, by omega, c⟩
      · obtain ⟨i, h1, h2⟩ := ih.mp (by omega)
        exact ⟨i, by omega, h2⟩
    · rintro ⟨i, h1, h2⟩
      by_cases c : i = n
      · subst c; omega
      · have := ih.mpr ⟨i, by omega, h2⟩; omega
theorem fb_sm_if0 {c : Prop} [Decidable c] (f : Nat → Nat) (n : Nat) : fb_sm (fun i => if c then f i else 0) n = if c then fb_sm f n else 0 := by
  by_cases h : c
  · rw [if_pos h]; exact fb_sm_cong (fun k _ => if_pos h)
  · rw [if_neg h]
    have : fb_sm (fun i => if c then f i else 0) n = fb_sm (fun _ => 0) n := fb_sm_cong (fun k _ => if_neg h)
    rw [this, fb_sm_const]
    omega
def hH (th : Nat → Nat → Bool) (co U : Nat → Nat) : Nat → Nat → Nat → (Nat → Bool) → (Nat → Nat) → Nat
  | 0, _, _, _, _ => 1
  | d + 1, k, p, S, sp => if S k = true then fb_sm (fun q => if th k q = true ∧ sp q + co k ≤ U q then hH th co U d (k + 1) p S (up sp q (sp q + co k)) else 0) p else hH th co U d (k + 1) p S sp
section WAYS
variable {th : Nat → Nat → Bool} {co U : Nat → Nat}
theorem hH_s (d k p : Nat) (S : Nat → Bool) (sp : Nat → Nat) : hH th co U (d + 1) k p S sp = if S k = true then fb_sm (fun q => if th k q = true ∧ sp q + co k ≤ U q then hH th co U d (k + 1) p S (up sp q (sp q + co k)) else 0) p else hH th co U d (k + 1) p S sp := rfl
theorem hH_cg {S S' : Nat → Bool} {p : Nat} : ∀ d k sp, (∀ i, k ≤ i → S i = S' i) → hH th co U d k p S sp = hH th co U d k p S' sp := by
  intro d
  induction d with
  | zero => intro k sp _; rfl
  | succ d ih =>
    intro k sp h
    rw [hH_s, hH_s, h k (Nat.le_refl _)]
    split
    · apply fb_sm_cong
      intro q _
      rw [ih (k + 1) _ (fun i hi => h i (by omega))]
    · exact ih (k + 1) sp (fun i hi => h i (by omega))
theorem hH_sp {S : Nat → Bool} {p : Nat} : ∀ d k sp sp', (∀ q, q < p → sp q = sp' q) → hH th co U d k p S sp = hH th co U d k p S sp' := by
  intro d
  induction d with
  | zero => intro k sp sp' _; rfl
  | succ d ih =>
    intro k sp sp' h
    rw [hH_s, hH_s]
    split
    · apply fb_sm_cong
      intro q hq
      rw [h q hq, ih (k + 1) (up sp q (sp' q + co k)) (up sp' q (sp' q + co k)) (fun q' hq' => by
        unfold up
        split
        · rfl
        · exact h q' hq')]
    · exact ih (k + 1) sp sp' h
theorem hH_le {S : Nat → Bool} {p : Nat} (hp : p ≤ 8) : ∀ d k sp, hH th co U d k p S sp ≤ 8 ^ d := by
  intro d
  induction d with
  | zero => intro k sp; exact Nat.le_refl _
  | succ d ih =>
    intro k sp
    rw [hH_s, Nat.pow_succ]
    have h1 : 0 < 8 ^ d := Nat.pow_pos (by omega)
    split
    · have h2 : fb_sm (fun q => if th k q = true ∧ sp q + co k ≤ U q then hH th co U d (k + 1) p S (up sp q (sp q + co k)) else 0) p ≤ p * 8 ^ d := fb_sm_bound (fun q _ => by
        split
        · exact ih _ _
        · omega)
      have h3 : p * 8 ^ d ≤ 8 * 8 ^ d := Nat.mul_le_mul_right _ hp
      omega
    · have := ih (k + 1) sp
      omega
def al (th : Nat → Nat → Bool) (co U : Nat → Nat) (p : Nat) (S : Nat → Bool) : Nat → Nat → Nat → Nat → Bool
  | 0, _, _, s => decide (s ≤ U p)
  | d + 1, k, r, s => if r % 2 = 1 then (S k && th k p) && al th co U p S d (k + 1) (r / 2) (s + co k) else al th co U p S d (k + 1) (r / 2) s
theorem al_big {p : Nat} {S : Nat → Bool} : ∀ d k r s, U p < s → al th co U p S d k r s = false := by
  intro d
  induction d with
  | zero => intro k r s h; exact decide_eq_false (by omega)
  | succ d ih =>
    intro k r s h
    unfold al
    split
    · rw [ih (k + 1) (r / 2) (s + co k) (by omega), Bool.and_false]
    · exact ih (k + 1) (r / 2) s h
theorem al_e {p : Nat} {S : Nat → Bool} (d k r s : Nat) : al th co U p S (d + 1) k (2 * r) s = al th co U p S d (k + 1) r s := by
  have : al th co U p S (d + 1) k (2 * r) s = if (2 * r) % 2 = 1 then (S k && th k p) && al th co U p S d (k + 1) ((2 * r) / 2) (s + co k) else al th co U p S d (k + 1) ((2 * r) / 2) s := rfl
  rw [this, if_neg (by omega), show 2 * r / 2 = r by omega]
theorem al_o {p : Nat} {S : Nat → Bool} (d k r s : Nat) : al th co U p S (d + 1) k (2 * r + 1) s = ((S k && th k p) && al th co U p S d (k + 1) r (s + co k)) := by
  have : al th co U p S (d + 1) k (2 * r + 1) s = if (2 * r + 1) % 2 = 1 then (S k && th k p) && al th co U p S d (k + 1) ((2 * r + 1) / 2) (s + co k) else al th co U p S d (k + 1) ((2 * r + 1) / 2) s := rfl
  rw [this, if_pos (by omega), show (2 * r + 1) / 2 = r by omega]
def rem (S : Nat → Bool) (k r : Nat) : Nat → Bool := fun i => S i && !(decide (k ≤ i) && r.testBit (i - k))
theorem rem_e {S : Nat → Bool} {k r i : Nat} (h : k + 1 ≤ i) : rem S k (2 * r) i = rem S (k + 1) r i := by
  unfold rem
  rw [show i - k = (i - (k + 1)) + 1 by omega, Nat.testBit_succ, show 2 * r / 2 = r by omega, decide_eq_true (show k ≤ i by omega), decide_eq_true h]
theorem rem_o {S : Nat → Bool} {k r i : Nat} (h : k + 1 ≤ i) : rem S k (2 * r + 1) i = rem S (k + 1) r i := by
  unfold rem
  rw [show i - k = (i - (k + 1)) + 1 by omega, Nat.testBit_succ, show (2 * r + 1) / 2 = r by omega, decide_eq_true (show k ≤ i by omega), decide_eq_true h]
theorem rem_ek (S : Nat → Bool) (k r : Nat) : rem S k (2 * r) k = S k := by
  unfold rem
  rw [Nat.sub_self, Nat.testBit_zero, decide_eq_false (show ¬ 2 * r % 2 = 1 by omega), Bool.and_false]
  simp
theorem rem_ok (S : Nat → Bool) (k r : Nat) : rem S k (2 * r + 1) k = false := by
  unfold rem
  rw [Nat.sub_self, Nat.testBit_zero, decide_eq_true (show (2 * r + 1) % 2 = 1 by omega)]
  simp
/-- one more may take some -/
theorem hH_more {p : Nat} : ∀ d k S sp, sp p ≤ U p → hH th co U d k (p + 1) S sp = fb_sm (fun r => if al th co U p S d k r (sp p) = true then hH th co U d k p (rem S k r) sp else 0) (2 ^ d) := by
  intro d
  induction d with
  | zero =>
    intro k S sp h
    show 1 = 0 + (if decide (sp p ≤ U p) = true then 1 else 0)
    rw [decide_eq_true h]
    rfl
  | succ d ih =>
    intro k S sp h
    rw [Nat.pow_succ, Nat.mul_comm, fb_sm_eo]
    have odd : ∀ r, hH th co U (d + 1) k p (rem S k (2 * r + 1)) sp = hH th co U d (k + 1) p (rem S (k + 1) r) sp := by
      intro r
      rw [hH_s, rem_ok, if_neg (by decide)]
      exact hH_cg d (k + 1) sp (fun i hi => rem_o hi)
    cases hk : S k with
    | false =>
      have e1 : fb_sm (fun i => if al th co U p S (d + 1) k (2 * i + 1) (sp p) = true then hH th co U (d + 1) k p (rem S k (2 * i + 1)) sp else 0) (2 ^ d) = 0 := by
        have : fb_sm (fun i => if al th co U p S (d + 1) k (2 * i + 1) (sp p) = true then hH th co U (d + 1) k p (rem S k (2 * i + 1)) sp else 0) (2 ^ d) = fb_sm (fun _ => 0) (2 ^ d) := fb_sm_cong (fun r _ => by
          rw [al_o, hk]
          exact if_neg (by simp))
        rw [this, fb_sm_const]
        omega
      rw [e1, Nat.add_zero, hH_s, hk, if_neg (by decide), ih (k + 1) S sp h]
      apply fb_sm_cong
      intro r _
      rw [al_e, hH_s, rem_ek, hk, if_neg (show ¬ false = true by decide), hH_cg d (k + 1) sp (fun i hi => rem_e (S := S) (k := k) (r := r) hi)]
    | true =>
      rw [hH_s, hk, if_pos rfl, fb_sm_succ]
      congr 1
      · have e1 : fb_sm (fun q => if th k q = true ∧ sp q + co k ≤ U q then hH th co U d (k + 1) (p + 1) S (up sp q (sp q + co k)) else 0) p = fb_sm (fun q => fb_sm (fun r => if al th co U p S d (k + 1) r (sp p) = true then (if th k q = true ∧ sp q + co k ≤ U q then hH th co U d (k + 1) p (rem S (k + 1) r) (up sp q (sp q + co k)) else 0) else 0) (2 ^ d)) p := by
          apply fb_sm_cong
          intro q hq
          have hsp : up sp q (sp q + co k) p = sp p := up_n (by omega)
          by_cases c : th k q = true ∧ sp q + co k ≤ U q
          · rw [if_pos c, ih (k + 1) S _ (by rw [hsp]; exact h), hsp]
            apply fb_sm_cong
            intro r _
            rw [if_pos c]
          · rw [if_neg c]
            symm
            have : fb_sm (fun r => if al th co U p S d (k + 1) r (sp p) = true then (if th k q = true ∧ sp q + co k ≤ U q then hH th co U d (k + 1) p (rem S (k + 1) r) (up sp q (sp q + co k)) else 0) else 0) (2 ^ d) = fb_sm (fun _ => 0) (2 ^ d) := fb_sm_cong (fun r _ => by rw [if_neg c]; split <;> rfl)
            rw [this, fb_sm_const]
            omega
        rw [e1, fb_sm_sw]
        apply fb_sm_cong
        intro r _
        rw [al_e, fb_sm_if0]
        by_cases c : al th co U p S d (k + 1) r (sp p) = true
        · rw [if_pos c, if_pos c, hH_s, rem_ek, hk, if_pos rfl]
          apply fb_sm_cong
          intro q _
          rw [hH_cg d (k + 1) (up sp q (sp q + co k)) (fun i hi => rem_e (S := S) (k := k) (r := r) hi)]
        · rw [if_neg c, if_neg c]
      · by_cases c : th k p = true ∧ sp p + co k ≤ U p
        · rw [if_pos c, ih (k + 1) S _ (by rw [up_s]; exact c.2), up_s]
          apply fb_sm_cong
          intro r _
          rw [al_o, hk, c.1, odd, hH_sp d (k + 1) (up sp p (sp p + co k)) sp (fun q hq => up_n (by omega))]
          rfl
        · rw [if_neg c]
          symm
          have : fb_sm (fun i => if al th co U p S (d + 1) k (2 * i + 1) (sp p) = true then hH th co U (d + 1) k p (rem S k (2 * i + 1)) sp else 0) (2 ^ d) = fb_sm (fun _ => 0) (2 ^ d) := fb_sm_cong (fun r _ => by
            rw [al_o]
            by_cases c2 : th k p = true
            · rw [al_big d (k + 1) r (sp p + co k) (by
                by_cases c3 : sp p + co k ≤ U p
                · exact absurd ⟨c2, c3⟩ c
                · omega), Bool.and_false]
              exact if_neg (by decide)
            · have : th k p = false := by simpa using c2
              rw [this, Bool.and_false, Bool.false_and]
              exact if_neg (by decide))
          rw [this, fb_sm_const]
          omega
theorem al_iff {p : Nat} {S : Nat → Bool} : ∀ d k r s, al th co U p S d k r s = true ↔ (∀ i, i < d → r.testBit i = true → S (k + i) = true ∧ th (k + i) p = true) ∧ s + fb_sm (fun i => if r.testBit i = true then co (k + i) else 0) d ≤ U p := by
  intro d
  induction d with
  | zero =>
    intro k r s
    show decide (s ≤ U p) = true ↔ _
    rw [decide_eq_true_eq]
    constructor
    · intro h; exact ⟨fun i hi => absurd hi (Nat.not_lt_zero i), h⟩
    · intro h; exact h.2
  | succ d ih =>
    intro k r s
    have tail : ∀ i, r.testBit (i + 1) = (r / 2).testBit i := fun i => Nat.testBit_succ ..
    rw [fb_sm_hd]
    have e2 : fb_sm (fun i => if r.testBit (i + 1) = true then co (k + (i + 1)) else 0) d = fb_sm (fun i => if (r / 2).testBit i = true then co (k + 1 + i) else 0) d := fb_sm_cong (fun i _ => by rw [tail, show k + (i + 1) = k + 1 + i by omega])
    rw [e2]
    unfold al
    by_cases c : r % 2 = 1
    · have r0 : r.testBit 0 = true := by rw [Nat.testBit_zero, decide_eq_true c]
      rw [if_pos c, Bool.and_eq_true, Bool.and_eq_true, ih (k + 1) (r / 2) (s + co k), if_pos r0]
      constructor
      · rintro ⟨⟨h1, h2⟩, h3, h4⟩
        refine ⟨fun i hi hr => ?_, by rw [Nat.add_zero]; omega⟩
        cases i with
        | zero => exact ⟨h1, h2⟩
        | succ i =>
          rw [tail] at hr
          have := h3 i (by omega) hr
          rw [show k + (i + 1) = k + 1 + i by omega]
          exact this
      · rintro ⟨h1, h2⟩
        rw [Nat.add_zero] at h2
        refine ⟨h1 0 (by omega) r0, fun i hi hr => ?_, by omega⟩
        rw [← tail] at hr
        have := h1 (i + 1) (by omega) hr
        rw [show k + 1 + i = k + (i + 1) by omega]
        exact this
    · have r0 : ¬ r.testBit 0 = true := by rw [Nat.testBit_zero, decide_eq_false c]; decide
      rw [if_neg c, ih (k + 1) (r / 2) s, if_neg r0]
      constructor
      · rintro ⟨h3, h4⟩
        refine ⟨fun i hi hr => ?_, by omega⟩
        cases i with
        | zero => exact absurd hr r0
        | succ i =>
          rw [tail] at hr
          have := h3 i (by omega) hr
          rw [show k + (i + 1) = k + 1 + i by omega]
          exact this
      · rintro ⟨h1, h2⟩
        refine ⟨fun i hi hr => ?_, by omega⟩
        rw [← tail] at hr
        have := h1 (i + 1) (by omega) hr
        rw [show k + 1 + i = k + (i + 1) by omega]
        exact this
/-- there is a way -/
theorem hH_pos {p : Nat} {S : Nat → Bool} : ∀ d k sp, (∀ q, q < p → sp q ≤ U q) → (0 < hH th co U d k p S sp ↔ ∃ f : Nat → Nat, (∀ i, i < d → S (k + i) = true → f (k + i) < p ∧ th (k + i) (f (k + i)) = true) ∧ ∀ q, q < p → sp q + fb_sm (fun i => if S (k + i) = true ∧ f (k + i) = q then co (k + i) else 0) d ≤ U q) := by
  intro d
  induction d with
  | zero =>
    intro k sp h
    constructor
    · intro _
      exact ⟨fun _ => 0, fun i hi => absurd hi (Nat.not_lt_zero i), fun q hq => h q hq⟩
    · intro _
      exact Nat.one_pos
  | succ d ih =>
    intro k sp h
    have sumt : ∀ (f : Nat → Nat) (q : Nat), fb_sm (fun i => if S (k + i) = true ∧ f (k + i) = q then co (k + i) else 0) (d + 1) = (if S k = true ∧ f k = q then co k else 0) + fb_sm (fun i => if S (k + 1 + i) = true ∧ f (k + 1 + i) = q then co (k + 1 + i) else 0) d := by
      intro f q
      rw [fb_sm_hd]
      congr 1
      apply fb_sm_cong
      intro i _
      rw [show k + (i + 1) = k + 1 + i by omega]
    rw [hH_s]
    cases hk : S k with
    | false =>
      rw [if_neg (by decide), ih (k + 1) sp h]
      constructor
      · rintro ⟨f, h1, h2⟩
        refine ⟨f, fun i hi hs => ?_, fun q hq => ?_⟩
        · cases i with
          | zero => rw [Nat.add_zero, hk] at hs; cases hs
          | succ i =>
            rw [show k + (i + 1) = k + 1 + i by omega] at hs ⊢
            exact h1 i (by omega) hs
        · rw [sumt, hk, if_neg (by simp)]
          have := h2 q hq
          omega
      · rintro ⟨f, h1, h2⟩
        refine ⟨f, fun i hi hs => ?_, fun q hq => ?_⟩
        · rw [show k + 1 + i = k + (i + 1) by omega] at hs ⊢
          exact h1 (i + 1) (by omega) hs
        · have := h2 q hq
          rw [sumt, hk, if_neg (by simp)] at this
          omega
    | true =>
      rw [if_pos rfl, fb_sm_pos]
      constructor
      · rintro ⟨q0, hq0, hpos⟩
        by_cases c : th k q0 = true ∧ sp q0 + co k ≤ U q0
        · rw [if_pos c] at hpos
          have hup : ∀ q, q < p → up sp q0 (sp q0 + co k) q ≤ U q := by
            intro q hq
            unfold up
            split
            · rename_i e; rw [e]; exact c.2
            · exact h q hq
          obtain ⟨f, h1, h2⟩ := (ih (k + 1) _ hup).mp hpos
          refine ⟨up f k q0, fun i hi hs => ?_, fun q hq => ?_⟩
          · cases i with
            | zero => rw [Nat.add_zero, up_s]; exact ⟨hq0, c.1⟩
            | succ i =>
              rw [show k + (i + 1) = k + 1 + i by omega] at hs ⊢
              rw [up_n (by omega)]
              exact h1 i (by omega) hs
          · have e3 : fb_sm (fun i => if S (k + 1 + i) = true ∧ up f k q0 (k + 1 + i) = q then co (k + 1 + i) else 0) d = fb_sm (fun i => if S (k + 1 + i) = true ∧ f (k + 1 + i) = q then co (k + 1 + i) else 0) d := fb_sm_cong (fun i _ => by rw [up_n (by omega)])
            rw [sumt, up_s, hk, e3]
            have := h2 q hq
            unfold up at this
            by_cases e : q = q0
            · rw [if_pos e] at this
              rw [if_pos ⟨rfl, e.symm⟩, e]
              rw [e] at this
              omega
            · rw [if_neg e] at this
              rw [if_neg (fun z => e z.2.symm)]
              omega
        · rw [if_neg c] at hpos
          exact absurd hpos (Nat.lt_irrefl 0)
      · rintro ⟨f, h1, h2⟩
        have hf := h1 0 (by omega) hk
        rw [Nat.add_zero] at hf
        have h0 := h2 (f k) hf.1
        rw [sumt, if_pos ⟨hk, rfl⟩] at h0
        refine ⟨f k, hf.1, ?_⟩
        rw [if_pos ⟨hf.2, by omega⟩]
        have hup : ∀ q, q < p → up sp (f k) (sp (f k) + co k) q ≤ U q := by
          intro q hq
          unfold up
          split
          · rename_i e; rw [e]; omega
          · exact h q hq
        refine (ih (k + 1) _ hup).mpr ⟨f, fun i hi hs => ?_, fun q hq => ?_⟩
        · rw [show k + 1 + i = k + (i + 1) by omega] at hs ⊢
          exact h1 (i + 1) (by omega) hs
        · have := h2 q hq
          rw [sumt, hk] at this
          unfold up
          by_cases e : q = f k
          · rw [if_pos e]
            rw [if_pos ⟨rfl, e.symm⟩, e] at this
            rw [e]
            omega
          · rw [if_neg e]
            rw [if_neg (fun z => e z.2.symm)] at this
            omega
end WAYS
