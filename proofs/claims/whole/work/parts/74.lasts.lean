/-! lasts -/
section LASTS
variable {m m' : jx_Mem} {T P : Nat} {D : Nat → Nat → Nat} {W A U L : Nat → Nat} {Q : Nat → Nat}
/-- what stays, of what the minutes to the way out leave -/
def lastV (P : Nat) (d : Nat → Nat) (Q : Nat → Nat) : Int32 :=
  if P = 0 then 9999
  else if ∃ p, p < P ∧ d p = 999 then -2
  else if Q 2 ≤ Q 0 + Q 1 * fb_sm d P then (if fb_sm d P = 0 then 0 else -2)
  else nI (min 9999 ((Q 2 - 1 - (Q 0 + Q 1 * fb_sm d P)) / (Q 1 * P)))
theorem F_lasts (h : mineF m T P D W A U L) (g : gMine T P D W A U L) (ha : airF m Q) (ga : gAir Q) : f_F_lasts m = some (lastV P (fun p => D 0 (A p)) Q, m) := by
  have hP := g.2.1
  obtain ⟨g0, g1, g2, _⟩ := ga
  have a0 := ha 0 (by omega)
  have a1 := ha 1 (by omega)
  have a2 := ha 2 (by omega)
  rw [e_F_lasts, e_Air_stay, e_Mine_people, Option.bind_some, h.2.1]
  unfold lastV
  by_cases c0 : P = 0
  · rw [if_pos c0]
    subst c0
    rw [show (if decide (¬ (nI 0, m).1 = 0) = true then f_Air_stay_20 (nI 0, m).1 0 0 (nI 0, m).2 else some ((9999 : Int32), (nI 0, m).2)) = some (9999, m) from ifnp rfl]
    rfl
  · rw [if_neg c0]
    rw [show (if decide (¬ (nI P, m).1 = 0) = true then f_Air_stay_20 (nI P, m).1 0 0 (nI P, m).2 else some ((9999 : Int32), (nI P, m).2)) = f_Air_stay_20 (nI P) 0 0 m from ifnn (nI_ne0 (by omega) (by omega))]
    have dl : ∀ p, p < P → D 0 (A p) ≤ 999 := fun p hp => (g.2.2.1.2 0 (A p) (by omega) (g.2.2.2.2.2 p hp).1).1
    have key : ∀ k n, n + k = P → (∀ p, p < n → D 0 (A p) < 999) → f_Air_stay_20 (nI P) (nI (fb_sm (fun p => D 0 (A p)) n)) (nI n) m = some (if ∃ p, p < P ∧ D 0 (A p) = 999 then -2 else if Q 2 ≤ Q 0 + Q 1 * fb_sm (fun p => D 0 (A p)) P then (if fb_sm (fun p => D 0 (A p)) P = 0 then 0 else -2) else nI (min 9999 ((Q 2 - 1 - (Q 0 + Q 1 * fb_sm (fun p => D 0 (A p)) P)) / (Q 1 * P))), m) := by
      intro k
      induction k with
      | zero =>
        intro n hn hd
        have hn2 : n = P := by omega
        subst hn2
        have hs : fb_sm (fun p => D 0 (A p)) n ≤ 7992 := by
          have : fb_sm (fun p => D 0 (A p)) n ≤ n * 999 := fb_sm_bound dl
          omega
        have hm1 : Q 1 * fb_sm (fun p => D 0 (A p)) n ≤ 99 * 7992 := Nat.mul_le_mul g1.2 hs
        have hm2 : Q 1 * n ≤ 99 * 8 := Nat.mul_le_mul g1.2 hP
        have hm3 : 1 ≤ Q 1 * n := Nat.mul_pos g1.1 (by omega)
        rw [e_Air_stay_20]
        refine (ifp (nI_le (Nat.le_refl _) (by omega))).trans ?_
        rw [if_neg (show ¬ ∃ p, p < n ∧ D 0 (A p) = 999 from fun ⟨p, p1, p2⟩ => by have := hd p p1; omega)]
        show (if decide (m.1 59 (1 + 2) ≤ m.1 59 (1 + 0) + m.1 59 (1 + 1) * _) = true then _ else (if decide (1 ≤ m.1 59 (1 + 1) * _) = true then (bif !(decide ((m.1 59 (1 + 1) * nI n) = 0)) then some (jx_mn 9999 (((m.1 59 (1 + 2) - 1) - (m.1 59 (1 + 0) + (m.1 59 (1 + 1) * nI (fb_sm (fun p => D 0 (A p)) n)))) / (m.1 59 (1 + 1) * nI n)), m) else none) else _)) = _
        rw [a0, a1, a2, pk_mul, pk_mul, nI_add]
        by_cases c : Q 2 ≤ Q 0 + Q 1 * fb_sm (fun p => D 0 (A p)) n
        · rw [if_pos c]
          refine (ifp (nI_le c (by omega))).trans ?_
          rw [e_Air_stay_93]
          by_cases d : fb_sm (fun p => D 0 (A p)) n = 0
          · rw [if_pos d]
            refine (ifnp (by rw [d]; rfl)).trans ?_
            rw [e_Air_stay_103]
          · rw [if_neg d]
            refine (ifnn (nI_ne0 (by omega) (by omega))).trans ?_
            rw [e_Air_stay_103]
        · rw [if_neg c]
          refine (ifn (nI_ge (by omega) (by omega))).trans ?_
          refine (ifp (nI_le (a := 1) hm3 (by omega))).trans ?_
          rw [decide_eq_false (nI_ne0 (show 0 < Q 1 * n by omega) (by omega)), show (nI (Q 2) - 1 : Int32) = nI (Q 2 - 1) from pk_sub (b := 1) g2.1, pk_sub (show Q 0 + Q 1 * fb_sm (fun p => D 0 (A p)) n ≤ Q 2 - 1 by omega), pk_div (by omega) (by omega) (by omega), show (9999 : Int32) = nI 9999 from rfl, mn_nI (by omega) (Nat.lt_of_le_of_lt (Nat.div_le_self _ _) (by omega))]
          rfl
      | succ k ih =>
        intro n hn hd
        have hn2 : n < P := by omega
        rw [e_Air_stay_20]
        refine (ifn (nI_ge hn2 (by omega))).trans ?_
        rw [s_farOut h g hn2, Option.bind_some]
        have hdn := dl n hn2
        by_cases c : D 0 (A n) < 999
        · refine (ifp (nI_lt (b := 999) c (by omega))).trans ?_
          rw [s_farOut h g hn2, Option.bind_some, nI_add, nI_1]
          refine ih (n + 1) (by omega) (fun p hp => ?_)
          by_cases q : p = n
          · rw [q]; exact c
          · exact hd p (by omega)
        · refine (ifn (nI_nlt (b := 999) (by omega) (by omega))).trans ?_
          rw [if_pos ⟨n, hn2, by omega⟩]
    have h2 := key P 0 (by omega) (fun p hp => by omega)
    rw [show f_Air_stay_20 (nI P) 0 0 m = f_Air_stay_20 (nI P) (nI (fb_sm (fun p => D 0 (A p)) 0)) (nI 0) m from rfl, h2]
    rfl
theorem s_waysOut (h : mineM m T P D W A U L) (g : gMine T P D W A U L) : f_M_waysOut m = some (nI (mxf (fun p => D 0 (A p)) P), m) := by
  have hP := g.2.1
  have dl : ∀ p, p < P → D 0 (A p) ≤ 999 := fun p hp => (g.2.2.1.2 0 (A p) (by omega) (g.2.2.2.2.2 p hp).1).1
  rw [e_M_waysOut]
  have h1 := lp_up (fun i x => f_M_waysOut_4 x i m) (fun n => nI (mxf (fun p => D 0 (A p)) n)) P (by
    intro n hn
    have hA := (g.2.2.2.2.2 n hn).1
    have b1 : mxf (fun p => D 0 (A p)) n ≤ 999 := mxf_le (fun v hv => dl v (by omega))
    have b2 := dl n hn
    rw [e_M_waysOut_4, h.2.1]
    refine (ifn (nI_ge (a := n) (b := P) hn (by omega))).trans ?_
    rw [in_nI (show n < 8 by omega) (by omega), nI_cl (by omega), (h.2.2.2.2 n hn).1, cond_true]
    show (f_M_farOf (nI (A n)) (nI 0) m).bind _ = _
    rw [s_far h g.2.2.1 hA (by omega), Option.bind_some, (g.2.2.1.2 (A n) 0 hA (by omega)).2.1, mx_nI (by omega) (by omega), nI_1]
    rfl) 0 (Nat.zero_le _)
  refine h1.trans ?_
  rw [e_M_waysOut_4, h.2.1]
  exact ifp (nI_le (Nat.le_refl _) (by omega))
/-- the last minute that is well, of those below n -/
def bL (c : Nat → Bool) : Nat → Int32
  | 0 => -2
  | n + 1 => if c n = true then nI n else bL c n
theorem bL_q {c : Nat → Bool} {q : Nat} (hc : ∀ n, c n = true ↔ n ≤ q) : ∀ n, bL c (n + 1) = nI (min n q) := by
  intro n
  induction n with
  | zero =>
    show (if c 0 = true then nI 0 else bL c 0) = _
    rw [if_pos ((hc 0).mpr (Nat.zero_le _)), Nat.zero_min]
  | succ n ih =>
    show (if c (n + 1) = true then nI (n + 1) else bL c (n + 1)) = _
    by_cases d : n + 1 ≤ q
    · rw [if_pos ((hc _).mpr d), Nat.min_eq_left d]
    · rw [if_neg (fun z => d ((hc _).mp z)), ih, Nat.min_eq_right (by omega), Nat.min_eq_right (by omega)]
theorem bL_0 {c : Nat → Bool} {x : Bool} (h0 : c 0 = x) (hc : ∀ n, 0 < n → c n = false) : ∀ n, bL c (n + 1) = if x = true then 0 else -2 := by
  intro n
  induction n with
  | zero =>
    show (if c 0 = true then nI 0 else bL c 0) = _
    rw [h0]
    rfl
  | succ n ih =>
    show (if c (n + 1) = true then nI (n + 1) else bL c (n + 1)) = _
    rw [hc (n + 1) (by omega), ih]
    rfl
theorem M_lasts (h : mineM m T P D W A U L) (g : gMine T P D W A U L) (ha : airM m Q) (ga : gAir Q) : f_M_lasts m = some (lastV P (fun p => D 0 (A p)) Q, jx_w1 m 63 0 0) := by
  have hP := g.2.1
  have h1 := mineM_th h (v := 0)
  have ha1 := airM_th ha (v := 0)
  obtain ⟨g0, g1, g2, _⟩ := ga
  have a0 := ha1 0 (by omega)
  have a1 := ha1 1 (by omega)
  have a2 := ha1 2 (by omega)
  have dl : ∀ p, p < P → D 0 (A p) ≤ 999 := fun p hp => (g.2.2.1.2 0 (A p) (by omega) (g.2.2.2.2.2 p hp).1).1
  rw [e_M_lasts]
  dsimp only
  rw [h1.2.1]
  unfold lastV
  by_cases c0 : P = 0
  · rw [if_pos c0]
    subst c0
    exact ifnp rfl
  · rw [if_neg c0]
    refine (ifnn (nI_ne0 (by omega) (by omega))).trans ?_
    rw [s_waysOut h1 g, Option.bind_some]
    have hmx : mxf (fun p => D 0 (A p)) P ≤ 999 := mxf_le dl
    by_cases c1 : ∃ p, p < P ∧ D 0 (A p) = 999
    · obtain ⟨p, p1, p2⟩ := c1
      have := mxf_ge (f := fun p => D 0 (A p)) p1
      rw [if_pos (show ∃ p, p < P ∧ D 0 (A p) = 999 from ⟨p, p1, p2⟩)]
      exact ifnp (show nI (mxf (fun p => D 0 (A p)) P) = 999 by rw [show mxf (fun p => D 0 (A p)) P = 999 by omega]; rfl)
    · have hd : ∀ p, p < P → D 0 (A p) < 999 := fun p hp => by
        have := dl p hp
        rcases Nat.lt_or_ge (D 0 (A p)) 999 with q | q
        · exact q
        · exact absurd ⟨p, hp, by omega⟩ c1
      have hmx2 : mxf (fun p => D 0 (A p)) P ≤ 998 := mxf_le (fun p hp => by have := hd p hp; show D 0 (A p) ≤ 998; omega)
      rw [if_neg c1]
      refine (ifnn (fun z => by have := (nI_eq (b := 999) (by omega) (by omega)).mp z; omega)).trans ?_
      have hs : fb_sm (fun p => D 0 (A p)) P ≤ 7992 := by
        have : fb_sm (fun p => D 0 (A p)) P ≤ P * 999 := fb_sm_bound dl
        omega
      have hm1 : Q 1 * fb_sm (fun p => D 0 (A p)) P ≤ 99 * 7992 := Nat.mul_le_mul g1.2 hs
      have hm2 : Q 1 * P ≤ 99 * 8 := Nat.mul_le_mul g1.2 hP
      have hm3 : 1 ≤ Q 1 * P := Nat.mul_pos g1.1 (by omega)
      have h35 := lp_up (fun i x => f_M_lasts_35 (nI (mxf (fun p => D 0 (A p)) P)) x i (jx_w1 m 63 0 0)) (fun n => nI (fb_sm (fun p => D 0 (A p)) n * Q 1)) P (by
        intro n hn
        have hA := (g.2.2.2.2.2 n hn).1
        rw [e_M_lasts_35, h1.2.1]
        refine (ifn (nI_ge (a := n) (b := P) hn (by omega))).trans ?_
        rw [in_nI (show n < 8 by omega) (by omega), nI_cl (by omega), (h1.2.2.2.2 n hn).1, cond_true]
        show (f_M_farOf (nI (A n)) (nI 0) _).bind _ = _
        rw [s_far h1 g.2.2.1 hA (by omega), Option.bind_some, (g.2.2.1.2 (A n) 0 hA (by omega)).2.1]
        show f_M_lasts_35 _ (nI (fb_sm (fun p => D 0 (A p)) n * Q 1) + nI (D 0 (A n)) * ((jx_w1 m 63 0 0).1 63 (63 + 1))) (nI n + 1) _ = _
        rw [a1, pk_mul, nI_add, nI_1, fb_sm_succ, Nat.add_mul]) 0 (Nat.zero_le _)
      have h35' : f_M_lasts_35 (nI (mxf (fun p => D 0 (A p)) P)) 0 0 (jx_w1 m 63 0 0) = f_M_lasts_74 (nI (mxf (fun p => D 0 (A p)) P)) (nI (fb_sm (fun p => D 0 (A p)) P * Q 1)) (-2) 0 (jx_w1 m 63 0 0) := by
        have e0 : f_M_lasts_35 (nI (mxf (fun p => D 0 (A p)) P)) 0 0 (jx_w1 m 63 0 0) = f_M_lasts_35 (nI (mxf (fun p => D 0 (A p)) P)) (nI (fb_sm (fun p => D 0 (A p)) 0 * Q 1)) (nI 0) (jx_w1 m 63 0 0) := by
          rw [show fb_sm (fun p => D 0 (A p)) 0 * Q 1 = 0 from Nat.zero_mul _]
          rfl
        rw [e0]
        refine h35.trans ?_
        rw [e_M_lasts_35, h1.2.1]
        exact ifp (nI_le (Nat.le_refl _) (by omega))
      refine Eq.trans (b := f_M_lasts_35 (nI (mxf (fun p => D 0 (A p)) P)) 0 0 (jx_w1 m 63 0 0)) rfl ?_
      rw [h35']
      -- whether a minute is well
      have hcB : ∀ n, n ≤ 9999 → f_M_lasts_74 (nI (mxf (fun p => D 0 (A p)) P)) (nI (fb_sm (fun p => D 0 (A p)) P * Q 1)) (bL (fun n => decide (n + mxf (fun p => D 0 (A p)) P = 0 ∨ Q 0 + n * P * Q 1 + fb_sm (fun p => D 0 (A p)) P * Q 1 < Q 2)) n) (nI n) (jx_w1 m 63 0 0) = f_M_lasts_74 (nI (mxf (fun p => D 0 (A p)) P)) (nI (fb_sm (fun p => D 0 (A p)) P * Q 1)) (bL (fun n => decide (n + mxf (fun p => D 0 (A p)) P = 0 ∨ Q 0 + n * P * Q 1 + fb_sm (fun p => D 0 (A p)) P * Q 1 < Q 2)) (n + 1)) (nI (n + 1)) (jx_w1 m 63 0 0) := by
        intro n hn
        have hb1 : n * P * Q 1 ≤ 9999 * 8 * 99 := Nat.mul_le_mul (Nat.mul_le_mul hn hP) g1.2
        have hcm : fb_sm (fun p => D 0 (A p)) P * Q 1 = Q 1 * fb_sm (fun p => D 0 (A p)) P := Nat.mul_comm _ _
        show _ = f_M_lasts_74 _ _ (if decide (n + mxf (fun p => D 0 (A p)) P = 0 ∨ Q 0 + n * P * Q 1 + fb_sm (fun p => D 0 (A p)) P * Q 1 < Q 2) = true then nI n else bL _ n) _ _
        rw [e_M_lasts_74]
        refine (ifn (nI_nlt (b := n) (a := 9999) hn (by omega))).trans ?_
        rw [nI_add]
        by_cases d1 : n + mxf (fun p => D 0 (A p)) P = 0
        · refine (ifp (by rw [d1]; rfl)).trans ?_
          rw [e_M_lasts_115, e_M_lasts_120]
          refine (ifn ne10).trans ?_
          rw [e_M_lasts_133, nI_1, if_pos (decide_eq_true (Or.inl d1))]
        · refine (ifn (nI_ne0 (by omega) (by omega))).trans ?_
          show (if decide ((jx_w1 m 63 0 0).1 63 (63 + 2) ≤ ((jx_w1 m 63 0 0).1 63 (63 + 0) + ((nI n * (jx_w1 m 63 0 0).1 63 6) * (jx_w1 m 63 0 0).1 63 (63 + 1))) + nI (fb_sm (fun p => D 0 (A p)) P * Q 1)) = true then _ else _) = _
          rw [a0, a1, a2, h1.2.1, pk_mul, pk_mul, nI_add, nI_add]
          by_cases d2 : Q 0 + n * P * Q 1 + fb_sm (fun p => D 0 (A p)) P * Q 1 < Q 2
          · refine (ifn (nI_ge d2 (by omega))).trans ?_
            rw [e_M_lasts_115, e_M_lasts_120]
            refine (ifn ne10).trans ?_
            rw [e_M_lasts_133, nI_1, if_pos (decide_eq_true (Or.inr d2))]
          · refine (ifp (nI_le (by omega) (by omega))).trans ?_
            rw [e_M_lasts_120]
            refine (ifp eq00).trans ?_
            rw [e_M_lasts_133, nI_1, if_neg (dn (fun z => z.elim d1 d2))]
      have h74 := lp_up (fun i x => f_M_lasts_74 (nI (mxf (fun p => D 0 (A p)) P)) (nI (fb_sm (fun p => D 0 (A p)) P * Q 1)) x i (jx_w1 m 63 0 0)) (fun n => bL (fun n => decide (n + mxf (fun p => D 0 (A p)) P = 0 ∨ Q 0 + n * P * Q 1 + fb_sm (fun p => D 0 (A p)) P * Q 1 < Q 2)) n) 10000 (fun n hn => hcB n (by omega)) 0 (Nat.zero_le _)
      refine Eq.trans h74 ?_
      rw [e_M_lasts_74]
      refine (ifp (by decide)).trans ?_
      by_cases c2 : Q 2 ≤ Q 0 + Q 1 * fb_sm (fun p => D 0 (A p)) P
      · rw [if_pos c2]
        have hz : mxf (fun p => D 0 (A p)) P = 0 ↔ fb_sm (fun p => D 0 (A p)) P = 0 := by
          constructor
          · intro z
            have : fb_sm (fun p => D 0 (A p)) P ≤ P * 0 := fb_sm_bound (fun k hk => by
              have := mxf_ge (f := fun p => D 0 (A p)) hk
              omega)
            omega
          · intro z
            have := fb_sm_zero z
            have : mxf (fun p => D 0 (A p)) P ≤ 0 := mxf_le (fun v hv => by rw [this v hv]; exact Nat.le_refl _)
            omega
        rw [bL_0 (x := decide (fb_sm (fun p => D 0 (A p)) P = 0)) (c := fun n => decide (n + mxf (fun p => D 0 (A p)) P = 0 ∨ Q 0 + n * P * Q 1 + fb_sm (fun p => D 0 (A p)) P * Q 1 < Q 2)) (by
          rw [Nat.zero_mul, Nat.zero_mul]
          have hcm : fb_sm (fun p => D 0 (A p)) P * Q 1 = Q 1 * fb_sm (fun p => D 0 (A p)) P := Nat.mul_comm _ _
          rw [decide_eq_decide]
          omega) (by
          intro n hn
          have hcm : fb_sm (fun p => D 0 (A p)) P * Q 1 = Q 1 * fb_sm (fun p => D 0 (A p)) P := Nat.mul_comm _ _
          exact decide_eq_false (by omega)) 9999]
        simp only [decide_eq_true_eq]
      · rw [if_neg c2]
        rw [bL_q (q := (Q 2 - 1 - (Q 0 + Q 1 * fb_sm (fun p => D 0 (A p)) P)) / (Q 1 * P)) (c := fun n => decide (n + mxf (fun p => D 0 (A p)) P = 0 ∨ Q 0 + n * P * Q 1 + fb_sm (fun p => D 0 (A p)) P * Q 1 < Q 2)) (by
          intro n
          rw [decide_eq_true_eq, Nat.le_div_iff_mul_le (by omega)]
          have hcm : fb_sm (fun p => D 0 (A p)) P * Q 1 = Q 1 * fb_sm (fun p => D 0 (A p)) P := Nat.mul_comm _ _
          have hcn : n * P * Q 1 = n * (Q 1 * P) := by rw [Nat.mul_assoc, Nat.mul_comm P]
          constructor
          · rintro (z | z)
            · rw [show n = 0 by omega, Nat.zero_mul]; exact Nat.zero_le _
            · omega
          · intro z; exact Or.inr (by omega)) 9999]
end LASTS
