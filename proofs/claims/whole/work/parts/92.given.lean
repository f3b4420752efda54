/-! hands: whose each can be -/
def nW (th : Nat → Nat → Bool) (co U : Nat → Nat) (C p S : Nat) : Nat := hH th co U C 0 p (fun i => S.testBit i) (fun _ => 0)
def cn (th : Nat → Nat → Bool) (co U : Nat → Nat) (C p r : Nat) : Bool := (r &&& bs (fun k => th k p) C == r) && decide (sumB r co C ≤ U p)
theorem sub_iff {r s : Nat} : r &&& s = r ↔ ∀ i, r.testBit i = true → s.testBit i = true := by
  constructor
  · intro h i hi
    rw [← h, Nat.testBit_and, Bool.and_eq_true] at hi
    exact hi.2
  · intro h
    apply Nat.eq_of_testBit_eq
    intro i
    rw [Nat.testBit_and]
    cases hr : r.testBit i with
    | false => rfl
    | true => rw [h i hr]; rfl
theorem sub_xor {G r i : Nat} (h : r &&& G = r) : (G ^^^ r).testBit i = (G.testBit i && !r.testBit i) := by
  rw [Nat.testBit_xor]
  cases hr : r.testBit i with
  | false => simp
  | true => rw [sub_iff.mp h i hr]; rfl
theorem sub_lt {G r n : Nat} (h : r &&& G = r) (hG : G < 2 ^ n) : r < 2 ^ n := by
  rw [← h]
  exact Nat.lt_of_le_of_lt Nat.and_le_right hG
def rch (th : Nat → Nat → Bool) (co U : Nat → Nat) (C P : Nat) : Nat → Nat → Prop
  | 0, S => S = 2 ^ C - 1
  | j + 1, S => ∃ G, rch th co U C P j G ∧ ∃ r, r &&& G = r ∧ cn th co U C (P - 1 - j) r = true ∧ 0 < nW th co U C (P - 1 - j) (G ^^^ r) ∧ S = G ^^^ r
def whs (th : Nat → Nat → Bool) (co U : Nat → Nat) (C P k p : Nat) : Prop := ∃ G, rch th co U C P (P - 1 - p) G ∧ ∃ r, r &&& G = r ∧ cn th co U C p r = true ∧ 0 < nW th co U C p (G ^^^ r) ∧ r.testBit k = true
def vA (th : Nat → Nat → Bool) (co U : Nat → Nat) (C P : Nat) (f : Nat → Nat) : Prop := (∀ k, k < C → f k < P ∧ th k (f k) = true) ∧ ∀ q, q < P → fb_sm (fun k => if f k = q then co k else 0) C ≤ U q
section GIVEN
variable {th : Nat → Nat → Bool} {co U : Nat → Nat} {C P : Nat}
theorem cn_iff {p r : Nat} (hr : r < 2 ^ C) : cn th co U C p r = true ↔ (∀ i, i < C → r.testBit i = true → th i p = true) ∧ sumB r co C ≤ U p := by
  unfold cn
  rw [Bool.and_eq_true, decide_eq_true_eq, beq_iff_eq, sub_iff]
  constructor
  · rintro ⟨h1, h2⟩
    refine ⟨fun i hi hb => ?_, h2⟩
    have := h1 i hb
    rw [bs_tb, Bool.and_eq_true] at this
    exact this.2
  · rintro ⟨h1, h2⟩
    refine ⟨fun i hb => ?_, h2⟩
    have hi : i < C := by
      apply Classical.byContradiction
      intro z
      rw [tb_ge hr (by omega)] at hb
      cases hb
    rw [bs_tb, h1 i hi hb, decide_eq_true hi]
    rfl
theorem nW_s {p S : Nat} (hS : S < 2 ^ C) : nW th co U C (p + 1) S = fb_sm (fun r => if (r &&& S == r && cn th co U C p r) = true then nW th co U C p (S ^^^ r) else 0) (2 ^ C) := by
  unfold nW
  rw [hH_more C 0 _ _ (Nat.zero_le _)]
  apply fb_sm_cong
  intro r hr
  have e1 : al th co U p (fun i => S.testBit i) C 0 r 0 = (r &&& S == r && cn th co U C p r) := by
    apply Bool.eq_iff_iff.mpr
    rw [al_iff, Bool.and_eq_true, cn_iff hr, beq_iff_eq, sub_iff]
    have e2 : fb_sm (fun i => if r.testBit i = true then co (0 + i) else 0) C = sumB r co C := fb_sm_cong (fun i _ => by rw [Nat.zero_add])
    rw [e2, Nat.zero_add]
    constructor
    · rintro ⟨h1, h2⟩
      refine ⟨fun i hb => ?_, fun i hi hb => ?_, h2⟩
      · have hi : i < C := by
          apply Classical.byContradiction
          intro z
          rw [tb_ge hr (by omega)] at hb
          cases hb
        have := (h1 i hi hb).1
        rw [Nat.zero_add] at this
        exact this
      · have := (h1 i hi hb).2
        rw [Nat.zero_add] at this
        exact this
    · rintro ⟨h1, h2, h3⟩
      refine ⟨fun i hi hb => ?_, h3⟩
      rw [Nat.zero_add]
      exact ⟨h1 i hb, h2 i hi hb⟩
  rw [e1]
  by_cases c : (r &&& S == r && cn th co U C p r) = true
  · rw [if_pos c, if_pos c]
    rw [Bool.and_eq_true, beq_iff_eq] at c
    apply hH_cg
    intro i _
    rw [sub_xor c.1]
    unfold rem
    rw [Nat.sub_zero, decide_eq_true (Nat.zero_le i), Bool.true_and]
  · rw [if_neg c, if_neg c]
theorem nW_cut {p S : Nat} (hS : S < 2 ^ C) : nW th co U C (p + 1) S = fb_sm (fun r => if (r &&& S == r && cn th co U C p r) = true then nW th co U C p (S ^^^ r) else 0) (S + 1) := by
  rw [nW_s hS]
  obtain ⟨k, hk⟩ : ∃ k, 2 ^ C = S + 1 + k := ⟨2 ^ C - (S + 1), by omega⟩
  rw [hk, fb_sm_split]
  have : fb_sm (fun i => if ((S + 1 + i) &&& S == (S + 1 + i) && cn th co U C p (S + 1 + i)) = true then nW th co U C p (S ^^^ (S + 1 + i)) else 0) k = fb_sm (fun _ => 0) k := fb_sm_cong (fun i _ => by
    apply if_neg
    rw [Bool.and_eq_true, beq_iff_eq]
    rintro ⟨h1, _⟩
    have : (S + 1 + i) &&& S ≤ S := Nat.and_le_right
    omega)
  rw [this, fb_sm_const]
  omega
theorem nW_pos {p S : Nat} : 0 < nW th co U C p S ↔ ∃ f : Nat → Nat, (∀ i, i < C → S.testBit i = true → f i < p ∧ th i (f i) = true) ∧ ∀ q, q < p → fb_sm (fun i => if S.testBit i = true ∧ f i = q then co i else 0) C ≤ U q := by
  unfold nW
  rw [hH_pos C 0 _ (fun q _ => Nat.zero_le _)]
  simp only [Nat.zero_add]
theorem nW_le {p S : Nat} (hp : p ≤ 8) (hC : C ≤ 6) : nW th co U C p S ≤ 262144 := Nat.le_trans (hH_le hp C 0 _) (Nat.le_trans (Nat.pow_le_pow_right (by omega) hC) (by decide))
theorem hH_none {p : Nat} {S : Nat → Bool} : ∀ d k sp, (∀ i, k ≤ i → i < k + d → S i = false) → hH th co U d k p S sp = 1 := by
  intro d
  induction d with
  | zero => intro k sp _; rfl
  | succ d ih =>
    intro k sp h
    rw [hH_s, h k (Nat.le_refl _) (by omega), if_neg (by decide)]
    exact ih (k + 1) sp (fun i h1 h2 => h i (by omega) (by omega))
theorem nW_0 {S : Nat} (hS : S < 2 ^ C) : nW th co U C 0 S = if S = 0 then 1 else 0 := by
  by_cases c : S = 0
  · rw [if_pos c, c]
    exact hH_none C 0 _ (fun i _ _ => Nat.zero_testBit i)
  · rw [if_neg c]
    apply Classical.byContradiction
    intro z
    have hp : 0 < nW th co U C 0 S := by omega
    obtain ⟨f, h1, _⟩ := nW_pos.mp hp
    apply c
    apply Nat.eq_of_testBit_eq
    intro i
    rw [Nat.zero_testBit]
    cases hb : S.testBit i with
    | false => rfl
    | true =>
      have hi : i < C := by
        apply Classical.byContradiction
        intro z
        rw [tb_ge hS (by omega)] at hb
        cases hb
      exact absurd (h1 i hi hb).1 (Nat.not_lt_zero _)
theorem rch_sem : ∀ j S, j ≤ P → rch th co U C P j S → S < 2 ^ C ∧ ∃ f : Nat → Nat, (∀ k, k < C → S.testBit k = false → P - j ≤ f k ∧ f k < P ∧ th k (f k) = true) ∧ ∀ q, P - j ≤ q → q < P → fb_sm (fun k => if S.testBit k = false ∧ f k = q then co k else 0) C ≤ U q := by
  intro j
  induction j with
  | zero =>
    intro S _ h
    change S = 2 ^ C - 1 at h
    have h2 : 0 < 2 ^ C := Nat.two_pow_pos C
    refine ⟨by omega, fun _ => 0, fun k hk hb => ?_, fun q h1 h3 => by omega⟩
    rw [h, Nat.testBit_two_pow_sub_one, decide_eq_true hk] at hb
    cases hb
  | succ j ih =>
    intro S hj h
    obtain ⟨G, hG, r, h1, h2, h3, h4⟩ := h
    obtain ⟨hG2, f, f1, f2⟩ := ih G (by omega) hG
    have hr := sub_lt h1 hG2
    obtain ⟨c1, c2⟩ := (cn_iff hr).mp h2
    have hx : ∀ k, S.testBit k = (G.testBit k && !r.testBit k) := fun k => by rw [h4]; exact sub_xor h1
    refine ⟨by rw [h4]; exact Nat.xor_lt_two_pow hG2 hr, fun k => if r.testBit k = true then P - 1 - j else f k, fun k hk hb => ?_, fun q hq1 hq2 => ?_⟩
    · dsimp only
      by_cases d : r.testBit k = true
      · rw [if_pos d]
        exact ⟨by omega, by omega, c1 k hk d⟩
      · rw [if_neg d]
        have d2 : r.testBit k = false := by simpa using d
        rw [hx, d2] at hb
        have := f1 k hk (by simpa using hb)
        exact ⟨by omega, this.2⟩
    · by_cases d : q = P - 1 - j
      · have le1 : fb_sm (fun k => if S.testBit k = false ∧ (if r.testBit k = true then P - 1 - j else f k) = q then co k else 0) C ≤ sumB r co C := by
          apply fb_sm_le
          intro k hk
          by_cases dr : r.testBit k = true
          · rw [if_pos dr]
            split
            · exact Nat.le_refl _
            · exact Nat.zero_le _
          · rw [if_neg dr]
            have d2 : r.testBit k = false := by simpa using dr
            rw [if_neg]
            · exact Nat.zero_le _
            · rintro ⟨z1, z2⟩
              rw [hx, d2] at z1
              have := f1 k hk (by simpa using z1)
              omega
        rw [d] at le1 ⊢
        exact Nat.le_trans le1 c2
      · have le1 : fb_sm (fun k => if S.testBit k = false ∧ (if r.testBit k = true then P - 1 - j else f k) = q then co k else 0) C ≤ fb_sm (fun k => if G.testBit k = false ∧ f k = q then co k else 0) C := by
          apply fb_sm_le
          intro k hk
          by_cases c3 : S.testBit k = false ∧ (if r.testBit k = true then P - 1 - j else f k) = q
          · rw [if_pos c3]
            have dr : ¬ r.testBit k = true := fun z => by rw [if_pos z] at c3; exact d c3.2.symm
            have d2 : r.testBit k = false := by simpa using dr
            have c4 := c3.1
            rw [hx, d2] at c4
            rw [if_neg dr] at c3
            rw [if_pos ⟨by simpa using c4, c3.2⟩]
            exact Nat.le_refl _
          · rw [if_neg c3]
            exact Nat.zero_le _
        exact Nat.le_trans le1 (f2 q (by omega) hq2)
theorem rch_of {f : Nat → Nat} (hf : vA th co U C P f) : ∀ j, j ≤ P → rch th co U C P j (bs (fun k => decide (f k < P - j)) C) := by
  intro j
  induction j with
  | zero =>
    intro _
    show bs (fun k => decide (f k < P - 0)) C = 2 ^ C - 1
    have h2 : 0 < 2 ^ C := Nat.two_pow_pos C
    apply tb_ext (bs_lt _ _) (show 2 ^ C - 1 < 2 ^ C by omega)
    intro i hi
    rw [bs_tb, Nat.testBit_two_pow_sub_one, decide_eq_true hi, decide_eq_true (show f i < P - 0 from (hf.1 i hi).1)]
    rfl
  | succ j ih =>
    intro hj
    have hsub : bs (fun k => decide (f k = P - 1 - j)) C &&& bs (fun k => decide (f k < P - j)) C = bs (fun k => decide (f k = P - 1 - j)) C := by
      rw [sub_iff]
      intro i hi
      rw [bs_tb, Bool.and_eq_true, decide_eq_true_eq, decide_eq_true_eq] at hi
      rw [bs_tb, decide_eq_true hi.1, decide_eq_true (by omega)]
      rfl
    have hx : ∀ i, i < C → (bs (fun k => decide (f k < P - j)) C ^^^ bs (fun k => decide (f k = P - 1 - j)) C).testBit i = decide (f i < P - 1 - j) := by
      intro i hi
      rw [sub_xor hsub, bs_tb, bs_tb, decide_eq_true hi, Bool.true_and, Bool.true_and]
      by_cases d : f i < P - 1 - j
      · rw [decide_eq_true d, decide_eq_true (by omega), decide_eq_false (by omega)]
        rfl
      · rw [decide_eq_false d]
        by_cases e : f i = P - 1 - j
        · rw [decide_eq_true e]; simp
        · rw [decide_eq_false (show ¬ f i < P - j by omega)]; rfl
    refine ⟨bs (fun k => decide (f k < P - j)) C, ih (by omega), bs (fun k => decide (f k = P - 1 - j)) C, hsub, ?_, ?_, ?_⟩
    · rw [cn_iff (bs_lt _ _)]
      refine ⟨fun i hi hb => ?_, ?_⟩
      · rw [bs_tb, Bool.and_eq_true, decide_eq_true_eq, decide_eq_true_eq] at hb
        rw [← hb.2]
        exact (hf.1 i hi).2
      · have : sumB (bs (fun k => decide (f k = P - 1 - j)) C) co C = fb_sm (fun k => if f k = P - 1 - j then co k else 0) C := fb_sm_cong (fun k hk => by
          rw [bs_tb, decide_eq_true hk, Bool.true_and]
          by_cases e : f k = P - 1 - j
          · rw [decide_eq_true e, if_pos e]; rfl
          · rw [decide_eq_false e, if_neg e]; rfl)
        rw [this]
        exact hf.2 _ (by omega)
    · rw [nW_pos]
      refine ⟨f, fun i hi hb => ?_, fun q hq => ?_⟩
      · rw [hx i hi, decide_eq_true_eq] at hb
        exact ⟨hb, (hf.1 i hi).2⟩
      · refine Nat.le_trans ?_ (hf.2 q (by omega))
        apply fb_sm_le
        intro i _
        by_cases e : f i = q
        · rw [if_pos e]
          split
          · exact Nat.le_refl _
          · exact Nat.zero_le _
        · rw [if_neg (fun z => e z.2), if_neg e]
          exact Nat.le_refl _
    · apply tb_ext (bs_lt _ _) (Nat.xor_lt_two_pow (bs_lt _ _) (bs_lt _ _))
      intro i hi
      rw [hx i hi, bs_tb, decide_eq_true hi, Bool.true_and]
      congr 1
      apply propext
      omega
theorem whs_iff {k p : Nat} (hk : k < C) (hp : p < P) : whs th co U C P k p ↔ ∃ f, vA th co U C P f ∧ f k = p := by
  constructor
  · rintro ⟨G, hG, r, h1, h2, h3, h4⟩
    obtain ⟨hG2, f1, a1, a2⟩ := rch_sem (P - 1 - p) G (by omega) hG
    have hr := sub_lt h1 hG2
    obtain ⟨c1, c2⟩ := (cn_iff hr).mp h2
    obtain ⟨f0, b1, b2⟩ := nW_pos.mp h3
    have hx : ∀ i, (G ^^^ r).testBit i = (G.testBit i && !r.testBit i) := fun i => sub_xor h1
    have e1 : P - (P - 1 - p) = p + 1 := by omega
    rw [e1] at a1 a2
    obtain ⟨F, Fp, F0, F1⟩ : ∃ F : Nat → Nat, (∀ i, r.testBit i = true → F i = p) ∧ (∀ i, ¬ r.testBit i = true → G.testBit i = true → F i = f0 i) ∧ (∀ i, ¬ r.testBit i = true → ¬ G.testBit i = true → F i = f1 i) :=
      ⟨fun i => if r.testBit i = true then p else if G.testBit i = true then f0 i else f1 i, fun i d => if_pos d, fun i d e => (if_neg d).trans (if_pos e), fun i d e => (if_neg d).trans (if_neg e)⟩
    refine ⟨F, ⟨fun i hi => ?_, fun q hq => ?_⟩, Fp k h4⟩
    · by_cases d : r.testBit i = true
      · rw [Fp i d]; exact ⟨hp, c1 i hi d⟩
      · have d2 : r.testBit i = false := by simpa using d
        by_cases e : G.testBit i = true
        · rw [F0 i d e]
          have := b1 i hi (by rw [hx, e, d2]; rfl)
          exact ⟨by omega, this.2⟩
        · rw [F1 i d e]
          have := a1 i hi (by simpa using e)
          exact ⟨this.2.1, this.2.2⟩
    · by_cases q1 : q < p
      · refine Nat.le_trans ?_ (b2 q q1)
        apply fb_sm_le
        intro i hi
        by_cases d : r.testBit i = true
        · rw [Fp i d, if_neg (by omega)]; exact Nat.zero_le _
        · have d2 : r.testBit i = false := by simpa using d
          by_cases e : G.testBit i = true
          · rw [F0 i d e]
            by_cases z : f0 i = q
            · rw [if_pos z, if_pos ⟨by rw [hx, e, d2]; rfl, z⟩]; exact Nat.le_refl _
            · rw [if_neg z]; exact Nat.zero_le _
          · rw [F1 i d e]
            have := a1 i hi (by simpa using e)
            rw [if_neg (by omega)]
            exact Nat.zero_le _
      · by_cases q2 : q = p
        · rw [q2]
          refine Nat.le_trans ?_ c2
          apply fb_sm_le
          intro i hi
          by_cases d : r.testBit i = true
          · rw [Fp i d, if_pos rfl, if_pos d]; exact Nat.le_refl _
          · have d2 : r.testBit i = false := by simpa using d
            rw [if_neg d]
            by_cases e : G.testBit i = true
            · rw [F0 i d e]
              have := b1 i hi (by rw [hx, e, d2]; rfl)
              rw [if_neg (by omega)]
              exact Nat.zero_le _
            · rw [F1 i d e]
              have := a1 i hi (by simpa using e)
              rw [if_neg (by omega)]
              exact Nat.zero_le _
        · refine Nat.le_trans ?_ (a2 q (by omega) hq)
          apply fb_sm_le
          intro i hi
          by_cases d : r.testBit i = true
          · rw [Fp i d, if_neg (by omega)]; exact Nat.zero_le _
          · have d2 : r.testBit i = false := by simpa using d
            by_cases e : G.testBit i = true
            · rw [F0 i d e]
              have := b1 i hi (by rw [hx, e, d2]; rfl)
              rw [if_neg (by omega)]
              exact Nat.zero_le _
            · rw [F1 i d e]
              by_cases z : f1 i = q
              · rw [if_pos z, if_pos ⟨by simpa using e, z⟩]; exact Nat.le_refl _
              · rw [if_neg z]; exact Nat.zero_le _
  · rintro ⟨f, hf, hfk⟩
    have hg := rch_of hf (P - p) (by omega)
    rw [show P - p = (P - 1 - p) + 1 by omega] at hg
    have h0 := rch_of hf (P - 1 - p) (by omega)
    rw [show P - (P - 1 - p) = p + 1 by omega] at h0
    have hsub : bs (fun k => decide (f k = p)) C &&& bs (fun k => decide (f k < p + 1)) C = bs (fun k => decide (f k = p)) C := by
      rw [sub_iff]
      intro i hi
      rw [bs_tb, Bool.and_eq_true, decide_eq_true_eq, decide_eq_true_eq] at hi
      rw [bs_tb, decide_eq_true hi.1, decide_eq_true (by omega)]
      rfl
    refine ⟨bs (fun k => decide (f k < p + 1)) C, h0, bs (fun k => decide (f k = p)) C, hsub, ?_, ?_, ?_⟩
    · rw [cn_iff (bs_lt _ _)]
      refine ⟨fun i hi hb => ?_, ?_⟩
      · rw [bs_tb, Bool.and_eq_true, decide_eq_true_eq, decide_eq_true_eq] at hb
        rw [← hb.2]
        exact (hf.1 i hi).2
      · have : sumB (bs (fun k => decide (f k = p)) C) co C = fb_sm (fun k => if f k = p then co k else 0) C := fb_sm_cong (fun k hk => by
          rw [bs_tb, decide_eq_true hk, Bool.true_and]
          by_cases e : f k = p
          · rw [decide_eq_true e, if_pos e]; rfl
          · rw [decide_eq_false e, if_neg e]; rfl)
        rw [this]
        exact hf.2 _ hp
    · rw [nW_pos]
      refine ⟨f, fun i hi hb => ?_, fun q hq => ?_⟩
      · rw [sub_xor hsub, bs_tb, bs_tb, decide_eq_true hi, Bool.true_and, Bool.true_and, Bool.and_eq_true, Bool.not_eq_true', decide_eq_true_eq, decide_eq_false_iff_not] at hb
        exact ⟨by omega, (hf.1 i hi).2⟩
      · refine Nat.le_trans ?_ (hf.2 q (by omega))
        apply fb_sm_le
        intro i _
        by_cases e : f i = q
        · rw [if_pos e]
          split
          · exact Nat.le_refl _
          · exact Nat.zero_le _
        · rw [if_neg (fun z => e z.2), if_neg e]
          exact Nat.le_refl _
    · rw [bs_tb, decide_eq_true hk, decide_eq_true hfk]
      rfl
end GIVEN
