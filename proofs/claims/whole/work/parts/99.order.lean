/-! first, order -/
def fiV (a b x y : Int32) : Int32 := if a = b then jx_mn x y else if a ≤ b then y else x
def bstO (V : Nat → Int32) (q : Nat → Bool) : Nat → Option Nat
  | 0 => none
  | n + 1 => if q n = true then bstO V q n else match bstO V q n with | none => some n | some b => if V n ≤ V b then some b else some n
theorem bstO_s (V : Nat → Int32) (q : Nat → Bool) (n : Nat) : bstO V q (n + 1) = if q n = true then bstO V q n else match bstO V q n with | none => some n | some b => if V n ≤ V b then some b else some n := rfl
theorem bstO_ok {V : Nat → Int32} {q : Nat → Bool} : ∀ n, (bstO V q n = none → ∀ i, i < n → q i = true) ∧ (∀ b, bstO V q n = some b → b < n ∧ q b = false) := by
  intro n
  induction n with
  | zero => exact ⟨fun _ i hi => absurd hi (Nat.not_lt_zero i), fun b hb => by cases hb⟩
  | succ n ih =>
    rw [bstO_s]
    by_cases c : q n = true
    · rw [if_pos c]
      refine ⟨fun h i hi => ?_, fun b hb => ⟨by have := (ih.2 b hb).1; omega, (ih.2 b hb).2⟩⟩
      by_cases d : i = n
      · rw [d]; exact c
      · exact ih.1 h i (by omega)
    · rw [if_neg c]
      have cf : q n = false := by simpa using c
      cases e : bstO V q n with
      | none =>
        constructor
        · intro h; cases h
        · intro b hb; cases hb; exact ⟨by omega, cf⟩
      | some b0 =>
        have h0 := ih.2 b0 e
        refine ⟨fun h => ?_, fun b hb => ?_⟩
        · dsimp only at h
          split at h <;> cases h
        · dsimp only at hb
          split at hb
          · cases hb; exact ⟨by omega, h0.2⟩
          · cases hb; exact ⟨by omega, cf⟩
def bb (V : Nat → Int32) (P : Nat) (q : Nat → Bool) : Nat := (bstO V q P).getD 0
def odQ (V : Nat → Int32) (P : Nat) : Nat → Nat → Bool
  | 0 => fun _ => false
  | k + 1 => upB (odQ V P k) (bb V P (odQ V P k)) true
theorem odQ_s (V : Nat → Int32) (P k : Nat) : odQ V P (k + 1) = upB (odQ V P k) (bb V P (odQ V P k)) true := rfl
def odL (V : Nat → Int32) (P : Nat) : Nat → List Int64
  | 0 => []
  | k + 1 => odL V P k ++ [pI (bb V P (odQ V P k))]
theorem odL_s (V : Nat → Int32) (P k : Nat) : odL V P (k + 1) = odL V P k ++ [pI (bb V P (odQ V P k))] := rfl
theorem odL_len (V : Nat → Int32) (P : Nat) : ∀ k, (odL V P k).length = k := by
  intro k
  induction k with
  | zero => rfl
  | succ k ih => rw [odL_s, List.length_append, ih]; rfl
theorem bb_some {V : Nat → Int32} {P : Nat} {q : Nat → Bool} (h : fb_ct q P < P) : bstO V q P = some (bb V P q) ∧ bb V P q < P ∧ q (bb V P q) = false := by
  unfold bb
  cases e : bstO V q P with
  | none =>
    have := fb_ct_all.mpr ((bstO_ok P).1 e)
    omega
  | some b => exact ⟨rfl, (bstO_ok P).2 b e⟩
theorem odQ_ct (V : Nat → Int32) (P : Nat) : ∀ k, k ≤ P → fb_ct (odQ V P k) P = k := by
  intro k
  induction k with
  | zero => intro _; exact fb_ct_zero.mpr (fun _ _ => rfl)
  | succ k ih =>
    intro hk
    have h1 := ih (by omega)
    have h2 := bb_some (V := V) (q := odQ V P k) (P := P) (by omega)
    have h3 := fb_ct_upd (odQ V P k) true h2.2.1
    rw [h2.2.2, h1] at h3
    rw [odQ_s]
    unfold upB
    simpa using h3
def prS (V : Nat → Int32) (n : Nat) : Nat := fb_sm (fun k => fb_ct (fun j => decide (V j = V k)) k) n
theorem prS_s (V : Nat → Int32) (n : Nat) : prS V (n + 1) = prS V n + fb_ct (fun j => decide (V j = V n)) n := rfl
theorem prS_le (V : Nat → Int32) : ∀ n, prS V n ≤ n * n := by
  intro n
  induction n with
  | zero => exact Nat.le_refl _
  | succ n ih =>
    rw [prS_s]
    have := fb_ct_le (fun j => decide (V j = V n)) n
    have e : (n + 1) * (n + 1) = n * n + 2 * n + 1 := by rw [Nat.add_mul, Nat.mul_add]; omega
    omega
def prF (V : Nat → Int32) (Q n : Nat) : Nat := fb_sm (fun a => fb_ct (fun b => decide (a < b) && decide (V a = V b)) Q) n
theorem prF_s (V : Nat → Int32) (Q n : Nat) : prF V Q (n + 1) = prF V Q n + fb_ct (fun b => decide (n < b) && decide (V n = V b)) Q := rfl
theorem prF_up (V : Nat → Int32) (Q : Nat) : ∀ n, prF V (Q + 1) n = prF V Q n + fb_ct (fun a => decide (a < Q) && decide (V a = V Q)) n := by
  intro n
  induction n with
  | zero => rfl
  | succ n ih => rw [prF_s, prF_s, ih, fb_ct_succ, fb_ct_succ]; omega
theorem prF_eq (V : Nat → Int32) : ∀ n, prF V n n = prS V n := by
  intro n
  induction n with
  | zero => rfl
  | succ n ih =>
    have z0 : fb_ct (fun b => decide (n < b) && decide (V n = V b)) (n + 1) = 0 := fb_ct_zero.mpr (fun k hk => by
      show (decide (n < k) && decide (V n = V k)) = false
      rw [decide_eq_false (show ¬ n < k by omega)]; rfl)
    have z1 : fb_ct (fun a => decide (a < n) && decide (V a = V n)) n = fb_ct (fun j => decide (V j = V n)) n := fb_ct_cong (fun k hk => by
      show (decide (k < n) && decide (V k = V n)) = decide (V k = V n)
      rw [decide_eq_true hk, Bool.true_and])
    rw [prF_s, prF_up, ih, prS_s, z0, z1, Nat.add_zero]
theorem tb8 {q : Nat → Bool} {i : Nat} (hi : i < 8) : (bs q 8).testBit i = q i := by rw [bs_tb, decide_eq_true hi, Bool.true_and]
theorem bs8_lt (q : Nat → Bool) : bs q 8 < 2 ^ 31 := Nat.lt_of_lt_of_le (bs_lt q 8) (by decide)
section ORDER
variable {m m' : jx_Mem} {T P : Nat} {D : Nat → Nat → Nat} {W A U L : Nat → Nat} {cs : List Nat}
def cFi (x y : Int32) (P : Nat) : Prop := (0 ≤ x.toInt ∧ x.toInt < (P : Int)) ∧ (0 ≤ y.toInt ∧ y.toInt < (P : Int)) ∧ x ≠ y
def wFiF (a k : Nat) : Prop := a = 24 ∨ wRF a k
def wFiM (a k : Nat) : Prop := a = 79 ∨ wTM a k
theorem F_first (h : mineF m T P D W A U L) (g : gMine T P D W A U L) (hc : codeF m cs) (gc : gCode cs) (x y : Int32) : ∃ m', sm wFiF m m' ∧
    ((cFi x y P ∧ f_F_first x y m = some (fiV (rV D W A U L P cs (jn x)) (rV D W A U L P cs (jn y)) x y, m') ∧ rF m' [(rV D W A U L P cs (jn x)).toInt64, (rV D W A U L P cs (jn y)).toInt64]) ∨ (¬ cFi x y P ∧ f_F_first x y m = some (-1, m') ∧ m' = m)) := by
  have hP := g.2.1
  rw [e_F_first, s_pers h g, Option.bind_some]
  try dsimp only
  by_cases hx : 0 ≤ x.toInt ∧ x.toInt < (P : Int)
  · rw [jb_t hx]
    have e0 : ∀ X Y : Option (Int32 × jx_Mem), (if decide ((1 : Int32) = 0) = true then X else Y) = Y := fun X Y => ifn ne10
    rw [e0, s_pers h g, Option.bind_some]
    try dsimp only
    by_cases hy : 0 ≤ y.toInt ∧ y.toInt < (P : Int)
    · rw [jb_t hy, e0]
      by_cases e : x = y
      · exact ⟨m, sm.rf, Or.inr ⟨fun z => z.2.2 e, (ifnp e).trans (e_F_first_27 m), rfl⟩⟩
      · obtain ⟨p, hp, rfl⟩ := nI_get hx.1 hx.2
        obtain ⟨q, hq, rfl⟩ := nI_get hy.1 hy.2
        rw [jn_nI (show p < 2 ^ 31 by omega), jn_nI (show q < 2 ^ 31 by omega)]
        obtain ⟨m1, r1, s1⟩ := s_valueFor h g hp hc gc
        have h1 : mineF m1 T P D W A U L := mineF_sm h s1 (by intro a k; unfold dMF w24; omega)
        have hc1 := codeF_sm hc s1 (by intro a k; unfold dCF w24; omega)
        obtain ⟨m2, r2, s2⟩ := s_valueFor h1 g hq hc1 gc
        obtain ⟨m3, r3, hr, s3⟩ := s_tell2 (rV D W A U L P cs p).toInt64 (rV D W A U L P cs q).toInt64 m2
        refine ⟨m3, ((s1.tr s2).mono (fun _ _ z => Or.inl z)).tr (s3.mono (fun _ _ z => Or.inr z)), Or.inl ⟨⟨hx, hy, e⟩, ?_, hr⟩⟩
        refine (ifnn e).trans ?_
        rw [r1, Option.bind_some]
        try dsimp only
        rw [r2, Option.bind_some]
        try dsimp only
        rw [r3, Option.bind_some]
        unfold fiV
        by_cases d : rV D W A U L P cs p = rV D W A U L P cs q
        · exact (ifnp d).trans (by rw [if_pos d])
        · refine (ifnn d).trans ?_
          by_cases d2 : rV D W A U L P cs p ≤ rV D W A U L P cs q
          · exact (ifp d2).trans (by rw [e_F_first_83, if_neg d, if_pos d2])
          · exact (ifn d2).trans (by rw [e_F_first_83, if_neg d, if_neg d2])
    · rw [jb_f hy]
      exact ⟨m, sm.rf, Or.inr ⟨fun z => hy z.2.1, (ifp eq00).trans (e_F_first_27 m), rfl⟩⟩
  · rw [jb_f hx]
    exact ⟨m, sm.rf, Or.inr ⟨fun z => hx z.1, (ifp eq00).trans (e_F_first_27 m), rfl⟩⟩
theorem M_first (h : mineM m T P D W A U L) (g : gMine T P D W A U L) (hc : codeM m cs) (gc : gCode cs) (x y : Int32) : ∃ m', sm wFiM m m' ∧
    ((cFi x y P ∧ f_M_first x y m = some (fiV (rV D W A U L P cs (jn x)) (rV D W A U L P cs (jn y)) x y, m') ∧ rM m' [(rV D W A U L P cs (jn x)).toInt64, (rV D W A U L P cs (jn y)).toInt64]) ∨ (¬ cFi x y P ∧ f_M_first x y m = some (-1, m') ∧ m' = jx_w1 m 63 0 0)) := by
  have hP := g.2.1
  have g1 := gc.1
  have h0 := mineM_th h (v := 0)
  have hc0 : codeM (jx_w1 m 63 0 0) cs := codeM_sm (Z := fun a k => a = 63 ∧ k = 0) hc g1 (sm_w1 ⟨rfl, rfl⟩) (by intro a k; unfold dCM; omega)
  have s0 : sm wFiM m (jx_w1 m 63 0 0) := sm_w1 (by unfold wFiM wTM; omega)
  rw [e_M_first]
  show ∃ m', sm wFiM m m' ∧ ((_ ∧ (f_M_isPerson x (jx_w1 m 63 0 0)).bind _ = _ ∧ _) ∨ (_ ∧ (f_M_isPerson x (jx_w1 m 63 0 0)).bind _ = _ ∧ _))
  rw [s_mpers h0 g, Option.bind_some]
  try dsimp only
  by_cases hx : 0 ≤ x.toInt ∧ x.toInt < (P : Int)
  · rw [jb_t hx]
    have e0 : ∀ X Y : Option (Int32 × jx_Mem), (if decide ((1 : Int32) = 0) = true then X else Y) = Y := fun X Y => ifn ne10
    rw [e0, s_mpers h0 g, Option.bind_some]
    try dsimp only
    by_cases hy : 0 ≤ y.toInt ∧ y.toInt < (P : Int)
    · rw [jb_t hy, e0]
      by_cases e : x = y
      · exact ⟨_, s0, Or.inr ⟨fun z => z.2.2 e, (ifnp e).trans (e_M_first_26 _), rfl⟩⟩
      · obtain ⟨p, hp, rfl⟩ := nI_get hx.1 hx.2
        obtain ⟨q, hq, rfl⟩ := nI_get hy.1 hy.2
        rw [jn_nI (show p < 2 ^ 31 by omega), jn_nI (show q < 2 ^ 31 by omega)]
        obtain ⟨m1, r1, s1⟩ := s_right h0 g hp hc0 gc
        have h1 : mineM m1 T P D W A U L := mineM_sm h0 s1 (by intro a k; unfold dMM w79; omega)
        have hc1 := codeM_sm hc0 g1 s1 (by intro a k; unfold dCM w79; omega)
        obtain ⟨m2, r2, s2⟩ := s_right h1 g hq hc1 gc
        obtain ⟨m3, r3, hr3, s3⟩ := s_enters (rV D W A U L P cs p).toInt64 (rM_0 m2) (by decide)
        obtain ⟨m4, r4, hr4, s4⟩ := s_enters (rV D W A U L P cs q).toInt64 hr3 (by simp)
        have s34 : sm wTM m2 m4 := ((sm_w1 (by unfold wTM; omega)).tr (s3.mono (by intro a k; unfold wRM wTM; omega))).tr (s4.mono (by intro a k; unfold wRM wTM; omega))
        refine ⟨m4, (s0.tr ((s1.tr s2).mono (fun _ _ z => Or.inl z))).tr (s34.mono (fun _ _ z => Or.inr z)), Or.inl ⟨⟨hx, hy, e⟩, ?_, hr4⟩⟩
        refine (ifnn e).trans ?_
        rw [r1, Option.bind_some]
        try dsimp only
        rw [r2, Option.bind_some]
        try dsimp only
        rw [r3, Option.bind_some, r4, Option.bind_some]
        unfold fiV
        by_cases d2 : rV D W A U L P cs p ≤ rV D W A U L P cs q
        · refine (ifp d2).trans ?_
          by_cases d3 : rV D W A U L P cs q ≤ rV D W A U L P cs p
          · have d : rV D W A U L P cs p = rV D W A U L P cs q := by
              rw [i_le] at d2 d3; rw [i_eq]; omega
            exact (ifp d3).trans (by rw [e_M_first_84, if_pos d])
          · have d : ¬ rV D W A U L P cs p = rV D W A U L P cs q := fun z => d3 (by rw [z]; exact Int32.le_refl _)
            exact (ifn d3).trans (by rw [e_M_first_84, if_neg d, if_pos d2])
        · have d : ¬ rV D W A U L P cs p = rV D W A U L P cs q := fun z => d2 (by rw [z]; exact Int32.le_refl _)
          exact (ifn d2).trans (by rw [e_M_first_84, if_neg d, if_neg d2])
    · rw [jb_f hy]
      exact ⟨_, s0, Or.inr ⟨fun z => hy z.2.1, (ifp eq00).trans (e_M_first_26 _), rfl⟩⟩
  · rw [jb_f hx]
    exact ⟨_, s0, Or.inr ⟨fun z => hx z.1, (ifp eq00).trans (e_M_first_26 _), rfl⟩⟩
def vlO (V : Nat → Int32) : Option Nat → Int32
  | none => 0
  | some b => V b
theorem fo_8 {V : Nat → Int32} (hP : P ≤ 8) (q : Nat → Bool) (h25 : ∀ i, i < P → m.1 25 i = V i) : f_Rule_firstOf (nI P) (nI (bs q 8)) m = some (oI (bstO V q P), m) := by
  have key := lp_up (fun i (z : Int32 × Int32) => f_Rule_firstOf_8 (nI P) (nI (bs q 8)) z.1 z.2 i m) (fun n => (oI (bstO V q n), vlO V (bstO V q n))) P (by
    intro n hn
    dsimp only
    rw [e_Rule_firstOf_8]
    refine (ifn (nI_ge (a := n) (b := P) hn (by omega))).trans ?_
    rw [s_has (bs8_lt q) (by omega), Option.bind_some, tb8 (by omega), bstO_s]
    try dsimp only
    by_cases c : q n = true
    · rw [jb_t c, if_pos c]
      refine (ifnn ne10).trans ?_
      rw [e_Rule_firstOf_52, nI_1]
    · rw [jb_f c, if_neg c]
      refine (ifnp eq00).trans ?_
      have st : f_Rule_firstOf_40 (nI P) (nI (bs q 8)) (nI n) m = f_Rule_firstOf_8 (nI P) (nI (bs q 8)) (nI n) (V n) (nI (n + 1)) m := by
        rw [e_Rule_firstOf_40, in_nI (show n < 8 by omega) (by omega), cond_true, nI_cl (by omega), h25 n hn, e_Rule_firstOf_52, nI_1]
      cases e : bstO V q n with
      | none =>
        refine (ifp rfl).trans ?_
        rw [st]
        rfl
      | some b =>
        have hb := ((bstO_ok n).2 b e).1
        refine (ifn (oI_ne (show b < 2 ^ 31 by omega))).trans ?_
        rw [in_nI (show n < 8 by omega) (by omega), cond_true, nI_cl (by omega), h25 n hn]
        dsimp only
        by_cases d : V n ≤ V b
        · rw [if_pos d]
          refine (ifp d).trans ?_
          rw [e_Rule_firstOf_52, nI_1]
        · rw [if_neg d]
          refine (ifn d).trans ?_
          rw [st]
          rfl) 0 (Nat.zero_le _)
  rw [e_Rule_firstOf]
  refine Eq.trans (b := f_Rule_firstOf_8 (nI P) (nI (bs q 8)) (oI (bstO V q P)) (vlO V (bstO V q P)) (nI P) m) key ?_
  rw [e_Rule_firstOf_8]
  exact ifp (nI_le (Nat.le_refl _) (by omega))
theorem ep_ok {V : Nat → Int32} (hP : P ≤ 8) (h25 : ∀ i, i < P → m.1 25 i = V i) : f_Rule_equalPairs (nI P) m = some (nI (prS V P), m) := by
  have inn : ∀ (i n a acc : Nat), n + i = P → a < n → f_Rule_equalPairs_14 (nI P) (nI (acc + fb_ct (fun b => decide (a < b) && decide (V a = V b)) n)) (nI a) (nI n) m = f_Rule_equalPairs_4 (nI P) (nI (acc + fb_ct (fun b => decide (a < b) && decide (V a = V b)) P)) (nI (a + 1)) m := by
    intro i
    induction i with
    | zero =>
      intro n a acc hn hna
      have : n = P := by omega
      subst this
      rw [e_Rule_equalPairs_14]
      refine (ifp (nI_le (Nat.le_refl _) (by omega))).trans ?_
      rw [nI_1]
    | succ i ih =>
      intro n a acc hn hna
      rw [← ih (n + 1) a acc (by omega) (by omega), e_Rule_equalPairs_14]
      refine (ifn (nI_ge (a := n) (b := P) (by omega) (by omega))).trans ?_
      rw [in_nI (show n < 8 by omega) (by omega), in_nI (show a < 8 by omega) (by omega), cond_true, cond_true, nI_cl (by omega), nI_cl (by omega), h25 n (by omega), h25 a (by omega), fb_ct_succ, decide_eq_true hna, Bool.true_and]
      by_cases c : V a = V n
      · refine (ifnp c).trans ?_
        rw [e_Rule_equalPairs_39, nI_1, nI_1, decide_eq_true c]
        rfl
      · refine (ifnn c).trans ?_
        rw [e_Rule_equalPairs_39, nI_1, decide_eq_false c]
        rfl
  have key := lp_up (fun i z => f_Rule_equalPairs_4 (nI P) z i m) (fun n => nI (prF V P n)) P (by
    intro a ha
    have z0 : fb_ct (fun b => decide (a < b) && decide (V a = V b)) (a + 1) = 0 := fb_ct_zero.mpr (fun k hk => by
      show (decide (a < k) && decide (V a = V k)) = false
      rw [decide_eq_false (show ¬ a < k by omega)]; rfl)
    have h1 := inn (P - (a + 1)) (a + 1) a (prF V P a) (by omega) (by omega)
    rw [z0, Nat.add_zero] at h1
    rw [prF_s, ← h1, e_Rule_equalPairs_4]
    refine (ifn (nI_ge (a := a) (b := P) ha (by omega))).trans ?_
    rw [nI_1]) 0 (Nat.zero_le _)
  rw [e_Rule_equalPairs, ← prF_eq]
  refine Eq.trans (b := f_Rule_equalPairs_4 (nI P) (nI (prF V P P)) (nI P) m) key ?_
  rw [e_Rule_equalPairs_4]
  exact ifp (nI_le (Nat.le_refl _) (by omega))
def wOrF (a k : Nat) : Prop := a = 24 ∨ a = 25 ∨ wRF a k
theorem to_10 (h : mineF m T P D W A U L) (g : gMine T P D W A U L) (hc : codeF m cs) (gc : gCode cs) : ∀ (i n : Nat) (m1 : jx_Mem), n + i = P → sm (fun a _ => a = 24 ∨ a = 25) m m1 → (∀ j, j < n → m1.1 25 j = rV D W A U L P cs j) →
    ∃ m2, f_Rule_tellOrder_10 (nI P) (nI n) m1 = (f_Row_clear m2).bind (fun p1 => f_Rule_tellOrder_41 (nI P) 0 0 p1) ∧ sm (fun a _ => a = 24 ∨ a = 25) m m2 ∧ (∀ j, j < P → m2.1 25 j = rV D W A U L P cs j) := by
  have hP := g.2.1
  intro i
  induction i with
  | zero =>
    intro n m1 hn hs h25
    have : n = P := by omega
    subst this
    refine ⟨m1, ?_, hs, h25⟩
    rw [e_Rule_tellOrder_10]
    exact ifp (nI_le (Nat.le_refl _) (by omega))
  | succ i ih =>
    intro n m1 hn hs h25
    have h1 : mineF m1 T P D W A U L := mineF_sm h hs (by intro a k; unfold dMF; omega)
    have hc1 := codeF_sm hc hs (by intro a k; unfold dCF; omega)
    obtain ⟨m2, r1, s1⟩ := s_valueFor h1 g (show n < P by omega) hc1 gc
    have s2 : sm (fun a _ => a = 24 ∨ a = 25) m m2 := hs.tr (s1.mono (fun _ _ z => Or.inl z))
    obtain ⟨m3, r3, s3, h3⟩ := ih (n + 1) (jx_w1 m2 25 n (rV D W A U L P cs n)) (by omega) (s2.w1 (Or.inr rfl)) (by
      intro j hj
      rw [w1_rd]
      by_cases c : j = n
      · rw [if_pos ⟨rfl, c⟩, c]
      · rw [if_neg (fun z => c z.2), (s1 25 j (by unfold w24; omega)).1, h25 j (by omega)])
    refine ⟨m3, ?_, s3, h3⟩
    rw [← r3, e_Rule_tellOrder_10]
    refine (ifn (nI_ge (a := n) (b := P) (by omega) (by omega))).trans ?_
    rw [r1, Option.bind_some, in_nI (show n < 8 by omega) (by omega), Bool.true_and, cond_true, nI_cl (by omega)]
    try dsimp only
    rw [nI_1]
theorem to_41 {V : Nat → Int32} (hP : P ≤ 8) (h25 : ∀ i, i < P → m.1 25 i = V i) : ∀ (i n : Nat) (m1 : jx_Mem), n + i = P → sm wRF m m1 → rF m1 (odL V P n) →
    ∃ m2, f_Rule_tellOrder_41 (nI P) (nI (bs (odQ V P n) 8)) (nI n) m1 = some (nI (prS V P), m2) ∧ sm wRF m m2 ∧ rF m2 (odL V P P) := by
  intro i
  induction i with
  | zero =>
    intro n m1 hn hs hr
    have : n = P := by omega
    subst this
    refine ⟨m1, ?_, hs, hr⟩
    rw [e_Rule_tellOrder_41]
    refine (ifp (nI_le (Nat.le_refl _) (by omega))).trans ?_
    rw [ep_ok hP (fun i hi => (hs 25 i (by unfold wRF; omega)).1.trans (h25 i hi))]
    rfl
  | succ i ih =>
    intro n m1 hn hs hr
    have hb := bb_some (V := V) (q := odQ V P n) (P := P) (by rw [odQ_ct V P n (by omega)]; omega)
    have h1 : ∀ i, i < P → m1.1 25 i = V i := fun i hi => (hs 25 i (by unfold wRF; omega)).1.trans (h25 i hi)
    obtain ⟨m2, r2, hr2, s2⟩ := s_Row_add (pI (bb V P (odQ V P n))) hr (by rw [odL_len]; omega)
    obtain ⟨m3, r3, s3, h3⟩ := ih (n + 1) m2 (by omega) (hs.tr s2) (by rw [odL_s]; exact hr2)
    refine ⟨m3, ?_, s3, h3⟩
    rw [← r3, e_Rule_tellOrder_41]
    refine (ifn (nI_ge (a := n) (b := P) (by omega) (by omega))).trans ?_
    rw [fo_8 hP _ h1, Option.bind_some, hb.1]
    refine (ifnn (oI_ne (show bb V P (odQ V P n) < 2 ^ 31 by omega))).trans ?_
    show f_Rule_tellOrder_70 (nI P) (nI n) (nI (bb V P (odQ V P n))) (1 <<< (nI (bb V P (odQ V P n)) &&& 31)) (nI (bs (odQ V P n) 8)) m1 = _
    rw [e_Rule_tellOrder_70, show (nI (bb V P (odQ V P n))).toInt64 = pI (bb V P (odQ V P n)) from rfl, r2, Option.bind_some, bs_upB (by omega) (by omega), nI_1]
    rfl
theorem F_order (h : mineF m T P D W A U L) (g : gMine T P D W A U L) (hc : codeF m cs) (gc : gCode cs) : ∃ m', sm wOrF m m' ∧ f_F_order m = some (nI (prS (rV D W A U L P cs) P), m') ∧ rF m' (odL (rV D W A U L P cs) P P) := by
  have hP := g.2.1
  obtain ⟨m1, r1, s1, h1⟩ := to_10 h g hc gc P 0 m (by omega) sm.rf (fun j hj => absurd hj (Nat.not_lt_zero j))
  obtain ⟨m2, r2, hr2, s2⟩ := s_Row_clear m1
  have h2 : ∀ i, i < P → m2.1 25 i = rV D W A U L P cs i := fun i hi => (s2 25 i (by unfold wRF; omega)).1.trans (h1 i hi)
  obtain ⟨m3, r3, s3, h3⟩ := to_41 hP h2 P 0 m2 (by omega) sm.rf hr2
  refine ⟨m3, (s1.mono (by intro a k; unfold wOrF; omega)).tr ((s2.tr s3).mono (fun _ _ z => Or.inr (Or.inr z))), ?_, h3⟩
  have e0 : nI (bs (odQ (rV D W A U L P cs) P 0) 8) = 0 := by rfl
  rw [e0] at r3
  rw [e_F_order, e_Rule_tellOrder, e_Mine_people, Option.bind_some, h.2.1]
  try dsimp only
  rw [show f_Rule_tellOrder_10 (nI P) 0 m = _ from r1, r2, Option.bind_some, show f_Rule_tellOrder_41 (nI P) 0 0 m2 = _ from r3]
  rfl
end ORDER
