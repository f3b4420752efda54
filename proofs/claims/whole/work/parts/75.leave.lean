/-! leave -/
def nrC (d : Nat → Nat) (gone n : Nat) (ob : Option Nat) : Bool := !gone.testBit n && (decide (d n < 999) && (match ob with | none => true | some q => decide (d n < d q)))
def nrO (d : Nat → Nat) (gone : Nat) : Nat → Option Nat
  | 0 => none
  | n + 1 => if nrC d gone n (nrO d gone n) = true then some n else nrO d gone n
theorem nrO_s (d : Nat → Nat) (gone n : Nat) : nrO d gone (n + 1) = if nrC d gone n (nrO d gone n) = true then some n else nrO d gone n := rfl
theorem nrO_ok {d : Nat → Nat} {gone : Nat} : ∀ n p, nrO d gone n = some p → p < n ∧ gone.testBit p = false ∧ d p < 999 := by
  intro n
  induction n with
  | zero => intro p h; cases h
  | succ n ih =>
    intro p h
    rw [nrO_s] at h
    split at h
    · rename_i q
      cases h
      unfold nrC at q
      simp only [Bool.and_eq_true, Bool.not_eq_true', decide_eq_true_eq] at q
      exact ⟨by omega, q.1, q.2.1⟩
    · have := ih p h
      exact ⟨by omega, this.2⟩
/-- who leaves, with k still in -/
def lvR (d : Nat → Nat) (P b lim : Nat) : Nat → Nat → Nat → List Nat
  | 0, _, _ => []
  | k + 1, gone, lvl => match nrO d gone P with
    | none => []
    | some p => if lvl + b * (k + 1) * d p < lim then p :: lvR d P b lim k (gone ||| 2 ^ p) (lvl + b * (k + 1) * d p) else []
theorem lvR_len (d : Nat → Nat) (P b lim : Nat) : ∀ k gone lvl, (lvR d P b lim k gone lvl).length ≤ k := by
  intro k
  induction k with
  | zero => intro _ _; exact Nat.le_refl _
  | succ k ih =>
    intro gone lvl
    unfold lvR
    cases nrO d gone P with
    | none => exact Nat.zero_le _
    | some p =>
      dsimp only
      split
      · have := ih (gone ||| 2 ^ p) (lvl + b * (k + 1) * d p); simp only [List.length_cons]; omega
      · exact Nat.zero_le _
def pI (p : Nat) : Int64 := (nI p).toInt64
section LEAVE
variable {m m' : jx_Mem} {T P : Nat} {D : Nat → Nat → Nat} {W A U L : Nat → Nat} {Q : Nat → Nat}
theorem s_nearest (h : mineF m T P D W A U L) (g : gMine T P D W A U L) {gone : Nat} (hg : gone < 2 ^ 8) : f_Air_nearest (nI gone) m = some (oI (nrO (fun p => D 0 (A p)) gone P), m) := by
  have hP := g.2.1
  have dl : ∀ p, p < P → D 0 (A p) ≤ 999 := fun p hp => (g.2.2.1.2 0 (A p) (by omega) (g.2.2.2.2.2 p hp).1).1
  rw [e_Air_nearest]
  have h1 := lp_up (fun i x => f_Air_nearest_4 (nI gone) x i m) (fun n => oI (nrO (fun p => D 0 (A p)) gone n)) P (by
    intro n hn
    have b1 := dl n hn
    rw [e_Air_nearest_4, e_Mine_people, Option.bind_some, h.2.1]
    refine (ifn (nI_ge (a := n) (b := P) hn (by omega))).trans ?_
    rw [nrO_s]
    have skip : nrC (fun p => D 0 (A p)) gone n (nrO (fun p => D 0 (A p)) gone n) = false → f_Air_nearest_75 (nI gone) (oI (nrO (fun p => D 0 (A p)) gone n)) (nI n) m = f_Air_nearest_4 (nI gone) (oI (if nrC (fun p => D 0 (A p)) gone n (nrO (fun p => D 0 (A p)) gone n) = true then some n else nrO (fun p => D 0 (A p)) gone n)) (nI (n + 1)) m := by
      intro z
      rw [e_Air_nearest_75, nI_1, z]
      rfl
    by_cases c : gone.testBit n = true
    · show (f_F_has (nI gone) (nI n) m).bind _ = _
      rw [s_has_t (by omega) (by omega) c, Option.bind_some]
      refine (ifnn ne10).trans ?_
      rw [e_Air_nearest_41, e_Air_nearest_42]
      exact (ifp eq00).trans (skip (by unfold nrC; rw [c]; rfl))
    · have c2 : gone.testBit n = false := by simpa using c
      show (f_F_has (nI gone) (nI n) m).bind _ = _
      rw [s_has_f (by omega) (by omega) c2, Option.bind_some]
      refine (ifnp eq00).trans ?_
      rw [s_farOut h g hn, Option.bind_some]
      by_cases e : D 0 (A n) < 999
      · refine (ifn (nI_ge (b := 999) e (by omega))).trans ?_
        rw [e_Air_nearest_42]
        refine (ifn ne10).trans ?_
        cases hq : nrO (fun p => D 0 (A p)) gone n with
        | none =>
          refine (ifp rfl).trans ?_
          rw [e_Air_nearest_73, e_Air_nearest_75, nI_1]
          have : nrC (fun p => D 0 (A p)) gone n none = true := by unfold nrC; rw [c2, decide_eq_true e]; rfl
          rw [this]
          rfl
        | some q =>
          obtain ⟨q1, q2, q3⟩ := nrO_ok n q hq
          refine (ifn (oI_ne (show q < 2 ^ 31 by omega))).trans ?_
          rw [s_farOut h g hn, Option.bind_some]
          show (f_Mine_farOut (nI q) m).bind _ = _
          rw [s_farOut h g (by omega), Option.bind_some]
          rw [hq] at skip
          by_cases f : D 0 (A n) < D 0 (A q)
          · refine (ifn (nI_ge f (by omega))).trans ?_
            rw [e_Air_nearest_73, e_Air_nearest_75, nI_1]
            have : nrC (fun p => D 0 (A p)) gone n (some q) = true := by unfold nrC; dsimp only; rw [c2, decide_eq_true e, decide_eq_true f]; rfl
            rw [this]
            rfl
          · refine (ifp (nI_le (by omega) (by omega))).trans ?_
            exact skip (by unfold nrC; dsimp only; rw [c2, decide_eq_true e, decide_eq_false f]; rfl)
      · refine (ifp (nI_le (a := 999) (by omega) (by omega))).trans ?_
        rw [e_Air_nearest_41, e_Air_nearest_42]
        exact (ifp eq00).trans (skip (by unfold nrC; rw [c2, decide_eq_false e]; rfl))) 0 (Nat.zero_le _)
  refine h1.trans ?_
  rw [e_Air_nearest_4, e_Mine_people, Option.bind_some, h.2.1]
  exact ifp (nI_le (Nat.le_refl _) (by omega))
theorem or_lt8 {gone p : Nat} (hg : gone < 2 ^ 8) (hp : p < 8) : gone ||| 2 ^ p < 2 ^ 8 := Nat.or_lt_two_pow hg (Nat.pow_lt_pow_right (by omega) hp)
theorem fl_23 (h : mineF m T P D W A U L) (g : gMine T P D W A U L) (ha : airF m Q) (ga : gAir Q) : ∀ k gone lvl m1 vs, k ≤ P → gone < 2 ^ 8 → lvl ≤ 9999 → sm wRF m m1 → rF m1 vs → vs.length + k = P →
    ∃ m', f_Air_tellLeaving_23 (nI k) (nI gone) (nI lvl) (nI (P - k)) m1 = some (nI (vs ++ (lvR (fun p => D 0 (A p)) P (Q 1) (Q 2) k gone lvl).map pI).length, m') ∧ rF m' (vs ++ (lvR (fun p => D 0 (A p)) P (Q 1) (Q 2) k gone lvl).map pI) ∧ sm wRF m m' := by
  have hP := g.2.1
  obtain ⟨g0, g1, g2, _⟩ := ga
  have fin : ∀ m1 vs, sm wRF m m1 → rF m1 vs → f_Air_tellLeaving_107 m1 = some (nI (vs ++ ([] : List Nat).map pI).length, m1) ∧ rF m1 (vs ++ ([] : List Nat).map pI) := by
    intro m1 vs hs hr
    simp only [List.map_nil, List.append_nil]
    refine ⟨?_, hr⟩
    rw [e_Air_tellLeaving_107, e_Row_size, Option.bind_some, hr.1]
  intro k
  induction k with
  | zero =>
    intro gone lvl m1 vs _ hg hl hs hr hv
    have h1 : mineF m1 T P D W A U L := mineF_sm h hs (by intro a k; unfold dMF wRF; omega)
    obtain ⟨f1, f2⟩ := fin m1 vs hs hr
    refine ⟨m1, ?_, f2, hs⟩
    rw [e_Air_tellLeaving_23, e_Mine_people, Option.bind_some, h1.2.1]
    exact (ifp (nI_le (by omega) (by omega))).trans f1
  | succ k ih =>
    intro gone lvl m1 vs hk hg hl hs hr hv
    have h1 : mineF m1 T P D W A U L := mineF_sm h hs (by intro a k; unfold dMF wRF; omega)
    have ha1 : airF m1 Q := airF_sm ha hs (by intro a k; unfold dAF wRF; omega)
    have a1 := ha1 1 (by omega)
    have a2 := ha1 2 (by omega)
    have e23 : f_Air_tellLeaving_23 (nI (k + 1)) (nI gone) (nI lvl) (nI (P - (k + 1))) m1 = ((f_Air_nearest (nI gone) m1).bind (fun p2 => if decide (¬ p2.1 = (-1)) = true then ((f_Mine_farOut p2.1 p2.2).bind (fun p3 => if decide ((nI lvl + (((p2.2.1 59 2) * nI (k + 1)) * p3.1)) < (p3.2.1 59 3)) = true then ((f_Row_add p2.1.toInt64 p3.2).bind (fun p4 => f_Air_tellLeaving_23 (nI (k + 1) + (-1)) (nI gone ||| (1 <<< (p2.1 &&& 31))) (nI lvl + (((p2.2.1 59 2) * nI (k + 1)) * p3.1)) (nI (P - (k + 1)) + 1) p4)) else (f_Air_tellLeaving_107 p3.2))) else (f_Air_tellLeaving_107 p2.2))) := by
      rw [e_Air_tellLeaving_23, e_Mine_people, Option.bind_some, h1.2.1]
      exact ifn (nI_ge (by omega) (by omega))
    rw [e23, s_nearest h1 g hg, Option.bind_some]
    unfold lvR
    cases hq : nrO (fun p => D 0 (A p)) gone P with
    | none =>
      obtain ⟨f1, f2⟩ := fin m1 vs hs hr
      exact ⟨m1, (ifnp rfl).trans f1, f2, hs⟩
    | some p =>
      obtain ⟨p1, p2, p3⟩ := nrO_ok P p hq
      have hb : Q 1 * (k + 1) * D 0 (A p) ≤ 99 * 8 * 998 := Nat.mul_le_mul (Nat.mul_le_mul g1.2 (by omega)) (by omega)
      have e1 : nI lvl + ((m1.1 59 2 * nI (k + 1)) * nI (D 0 (A p))) = nI (lvl + Q 1 * (k + 1) * D 0 (A p)) := by
        rw [show m1.1 59 2 = nI (Q 1) from a1, pk_mul, pk_mul, nI_add]
      have hin : ∀ X : Option (Int32 × jx_Mem), (if decide (¬ (oI (some p), m1).1 = (-1)) = true then ((f_Mine_farOut (oI (some p), m1).1 (oI (some p), m1).2).bind (fun p3 => if decide ((nI lvl + ((((oI (some p), m1).2.1 59 2) * nI (k + 1)) * p3.1)) < (p3.2.1 59 3)) = true then ((f_Row_add (oI (some p), m1).1.toInt64 p3.2).bind (fun p4 => f_Air_tellLeaving_23 (nI (k + 1) + (-1)) (nI gone ||| (1 <<< ((oI (some p), m1).1 &&& 31))) (nI lvl + ((((oI (some p), m1).2.1 59 2) * nI (k + 1)) * p3.1)) (nI (P - (k + 1)) + 1) p4)) else (f_Air_tellLeaving_107 p3.2))) else X) = (if decide (nI (lvl + Q 1 * (k + 1) * D 0 (A p)) < nI (Q 2)) = true then ((f_Row_add (pI p) m1).bind (fun p4 => f_Air_tellLeaving_23 (nI k) (nI (gone ||| 2 ^ p)) (nI (lvl + Q 1 * (k + 1) * D 0 (A p))) (nI (P - k)) p4)) else (f_Air_tellLeaving_107 m1)) := by
        intro X
        refine (ifnn (oI_ne (show p < 2 ^ 31 by omega))).trans ?_
        show (f_Mine_farOut (nI p) m1).bind _ = _
        rw [s_farOut h1 g p1, Option.bind_some]
        dsimp only
        rw [e1, pk_m1, show (1 : Int32) <<< (oI (some p) &&& 31) = nI (2 ^ p) from sh1 (by omega), fa_or, nI_1, show P - (k + 1) + 1 = P - k by omega, show m1.1 59 3 = nI (Q 2) from a2]
        rfl
      rw [hin]
      dsimp only
      by_cases c : lvl + Q 1 * (k + 1) * D 0 (A p) < Q 2
      · obtain ⟨m2, q1, q2, q3⟩ := s_Row_add (pI p) hr (by omega)
        obtain ⟨m', r1, r2, r3⟩ := ih (gone ||| 2 ^ p) (lvl + Q 1 * (k + 1) * D 0 (A p)) m2 (vs ++ [pI p]) (by omega) (or_lt8 hg (by omega)) (by omega) (hs.tr q3) q2 (by simp; omega)
        rw [if_pos c]
        refine ⟨m', ?_, ?_, r3⟩
        · refine (ifp (nI_lt c (by omega))).trans ?_
          rw [q1, Option.bind_some, r1]
          simp
        · simpa using r2
      · obtain ⟨f1, f2⟩ := fin m1 vs hs hr
        rw [if_neg c]
        exact ⟨m1, (ifn (nI_nlt (by omega) (by omega))).trans f1, f2, hs⟩
theorem F_leave (h : mineF m T P D W A U L) (g : gMine T P D W A U L) (ha : airF m Q) (ga : gAir Q) : ∃ m', sm wRF m m' ∧ f_F_leave m = some (nI (lvR (fun p => D 0 (A p)) P (Q 1) (Q 2) P 0 (Q 0)).length, m') ∧ rF m' ((lvR (fun p => D 0 (A p)) P (Q 1) (Q 2) P 0 (Q 0)).map pI) := by
  have hP := g.2.1
  obtain ⟨m1, q1, q2, q3⟩ := s_Row_clear m
  obtain ⟨m', r1, r2, r3⟩ := fl_23 h g ha ga P 0 (Q 0) m1 [] (Nat.le_refl _) (by decide) ga.1 q3 q2 (by simp)
  refine ⟨m', r3, ?_, by simpa using r2⟩
  rw [e_F_leave, e_Air_tellLeaving, e_Mine_people, Option.bind_some]
  dsimp only
  rw [q1, Option.bind_some, h.2.1, show m.1 59 1 = nI (Q 0) from ha 0 (by omega)]
  rw [show P - P = 0 by omega] at r1
  show (f_Air_tellLeaving_23 (nI P) (nI 0) (nI (Q 0)) (nI 0) m1).bind _ = _
  rw [r1]
  simp
theorem ml_45 (h : mineM m T P D W A U L) (g : gMine T P D W A U L) {gone : Nat} (hg : gone < 2 ^ 8) (x z : Int32) : f_M_leave_45 x (nI gone) z (-1) 0 m = f_M_leave_45 x (nI gone) z (oI (nrO (fun p => D 0 (A p)) gone P)) (nI P) m := by
  have hP := g.2.1
  have dl : ∀ p, p < P → D 0 (A p) ≤ 999 := fun p hp => (g.2.2.1.2 0 (A p) (by omega) (g.2.2.2.2.2 p hp).1).1
  have hfar : ∀ n, n < P → f_M_farOf (m.1 67 n) 0 m = some (nI (D 0 (A n)), m) := fun n hn => by
    have hA := (g.2.2.2.2.2 n hn).1
    rw [(h.2.2.2.2 n hn).1]
    show f_M_farOf (nI (A n)) (nI 0) m = _
    rw [s_far h g.2.2.1 hA (by omega), (g.2.2.1.2 (A n) 0 hA (by omega)).2.1]
  exact lp_up (fun i y => f_M_leave_45 x (nI gone) z y i m) (fun n => oI (nrO (fun p => D 0 (A p)) gone n)) P (by
    intro n hn
    have b1 := dl n hn
    rw [e_M_leave_45, h.2.1]
    refine (ifn (nI_ge (a := n) (b := P) hn (by omega))).trans ?_
    rw [nrO_s]
    have skip : nrC (fun p => D 0 (A p)) gone n (nrO (fun p => D 0 (A p)) gone n) = false → f_M_leave_130 x (nI gone) z (oI (nrO (fun p => D 0 (A p)) gone n)) (nI n) m = f_M_leave_45 x (nI gone) z (oI (if nrC (fun p => D 0 (A p)) gone n (nrO (fun p => D 0 (A p)) gone n) = true then some n else nrO (fun p => D 0 (A p)) gone n)) (nI (n + 1)) m := by
      intro q
      rw [e_M_leave_130, e_M_leave_132, nI_1, q]
      rfl
    by_cases c : gone.testBit n = true
    · rw [s_mhas_t (by omega) (by omega) c, Option.bind_some]
      refine (ifnn ne10).trans ?_
      rw [e_M_leave_85, e_M_leave_86]
      exact (ifp eq00).trans (skip (by unfold nrC; rw [c]; rfl))
    · have c2 : gone.testBit n = false := by simpa using c
      rw [s_mhas_f (by omega) (by omega) c2, Option.bind_some]
      refine (ifnp eq00).trans ?_
      rw [in_nI (show n < 8 by omega) (by omega), nI_cl (by omega), cond_true]
      show (f_M_farOf (m.1 67 n) 0 m).bind _ = _
      rw [hfar n hn, Option.bind_some]
      by_cases e : D 0 (A n) < 999
      · refine (ifn (nI_ge (b := 999) e (by omega))).trans ?_
        rw [e_M_leave_86]
        refine (ifn ne10).trans ?_
        cases hq : nrO (fun p => D 0 (A p)) gone n with
        | none =>
          refine (ifp (show oI none < 0 by decide)).trans ?_
          rw [e_M_leave_125, e_M_leave_132, nI_1]
          have : nrC (fun p => D 0 (A p)) gone n none = true := by unfold nrC; rw [c2, decide_eq_true e]; rfl
          rw [this]
          rfl
        | some q =>
          obtain ⟨q1, q2, q3⟩ := nrO_ok n q hq
          refine (ifn (nI_pos (show q < 2 ^ 31 by omega))).trans ?_
          rw [in_nI (show n < 8 by omega) (by omega), nI_cl (show n < 2 ^ 31 by omega), cond_true]
          show (f_M_farOf (m.1 67 n) 0 m).bind _ = _
          rw [hfar n hn, Option.bind_some]
          show (bif jx_in (nI q) 8 then (f_M_farOf (m.1 67 (nI q).toNatClampNeg) 0 m).bind _ else none) = _
          rw [in_nI (show q < 8 by omega) (by omega), nI_cl (show q < 2 ^ 31 by omega), cond_true, hfar q (by omega), Option.bind_some]
          rw [hq] at skip
          by_cases f : D 0 (A n) < D 0 (A q)
          · refine (ifn (nI_ge f (by omega))).trans ?_
            rw [e_M_leave_125, e_M_leave_132, nI_1]
            have : nrC (fun p => D 0 (A p)) gone n (some q) = true := by unfold nrC; dsimp only; rw [c2, decide_eq_true e, decide_eq_true f]; rfl
            rw [this]
            rfl
          · refine (ifp (nI_le (by omega) (by omega))).trans ?_
            exact skip (by unfold nrC; dsimp only; rw [c2, decide_eq_true e, decide_eq_false f]; rfl)
      · refine (ifp (nI_le (a := 999) (by omega) (by omega))).trans ?_
        rw [e_M_leave_85, e_M_leave_86]
        exact (ifp eq00).trans (skip (by unfold nrC; rw [c2, decide_eq_false e]; rfl))) 0 (Nat.zero_le _)
theorem ct_or {gone p : Nat} (hp : p < P) (hg : gone.testBit p = false) : fb_ct (fun i => (gone ||| 2 ^ p).testBit i) P = fb_ct (fun i => gone.testBit i) P + 1 := by
  have h1 : fb_ct (fun i => (gone ||| 2 ^ p).testBit i) P = fb_ct (fun k => if k = p then true else gone.testBit k) P := by
    apply fb_ct_cong
    intro k hk
    rw [Nat.testBit_or, Nat.testBit_two_pow]
    by_cases c : k = p
    · subst c; simp
    · have : ¬ p = k := fun z => c z.symm
      simp [c, this]
  have h2 := fb_ct_upd (fun i => gone.testBit i) true hp
  rw [hg] at h2
  simp only [if_true, Bool.false_eq_true, if_false] at h2
  omega
theorem ml_34 (h : mineM m T P D W A U L) (g : gMine T P D W A U L) (ha : airM m Q) (ga : gAir Q) : ∀ k gone lvl m1 vs, k ≤ P → gone < 2 ^ 8 → lvl ≤ 9999 → fb_ct (fun i => gone.testBit i) P + k = P → sm wRM m m1 → rM m1 vs → vs.length + k = P →
    ∃ m', f_M_leave_34 (nI (P - k)) (nI gone) (nI lvl) 1 m1 = some (nI (vs ++ (lvR (fun p => D 0 (A p)) P (Q 1) (Q 2) k gone lvl).map pI).length, m') ∧ rM m' (vs ++ (lvR (fun p => D 0 (A p)) P (Q 1) (Q 2) k gone lvl).map pI) ∧ sm wRM m m' := by
  have hP := g.2.1
  obtain ⟨g0, g1, g2, _⟩ := ga
  intro k
  induction k with
  | zero =>
    intro gone lvl m1 vs _ hg hl hct hs hr hv
    have h1 : mineM m1 T P D W A U L := mineM_sm h hs (by intro a k; unfold dMM wRM; omega)
    have hn : nrO (fun p => D 0 (A p)) gone P = none := by
      cases hq : nrO (fun p => D 0 (A p)) gone P with
      | none => rfl
      | some p =>
        obtain ⟨p1, p2, _⟩ := nrO_ok P p hq
        have := fb_ct_all.mp (show fb_ct (fun i => gone.testBit i) P = P by omega) p p1
        rw [p2] at this; cases this
    refine ⟨m1, ?_, by simpa [lvR] using hr, hs⟩
    rw [e_M_leave_34]
    refine (ifn ne10).trans ?_
    rw [ml_45 h1 g hg, hn, e_M_leave_45, h1.2.1]
    refine (ifp (nI_le (Nat.le_refl _) (by omega))).trans ?_
    refine (ifp (show oI none < 0 by decide)).trans ?_
    rw [e_M_leave_150]
    refine (ifp eq00).trans ?_
    rw [e_M_leave_199]
    refine (ifp eq00).trans ?_
    rw [e_M_leave_221, e_M_leave_34]
    refine (ifp eq00).trans ?_
    simp [lvR]
    rw [show vs.length = P by omega]
  | succ k ih =>
    intro gone lvl m1 vs hk hg hl hct hs hr hv
    have h1 : mineM m1 T P D W A U L := mineM_sm h hs (by intro a k; unfold dMM wRM; omega)
    have ha1 : airM m1 Q := airM_sm ha hs (by intro a k; unfold dAM wRM; omega)
    have a1 := ha1 1 (by omega)
    have a2 := ha1 2 (by omega)
    have fin : ∀ y z, f_M_leave_199 (nI (P - (k + 1))) (nI gone) y 0 z m1 = some (nI (vs ++ ([] : List Nat).map pI).length, m1) := by
      intro y z
      rw [e_M_leave_199]
      refine (ifp eq00).trans ?_
      rw [e_M_leave_221, e_M_leave_34]
      refine (ifp eq00).trans ?_
      simp
      rw [show P - (k + 1) = vs.length by omega]
    have e34 : f_M_leave_34 (nI (P - (k + 1))) (nI gone) (nI lvl) 1 m1 = (if decide (oI (nrO (fun p => D 0 (A p)) gone P) < 0) = true then (f_M_leave_150 (nI (P - (k + 1))) (nI gone) (nI lvl) (oI (nrO (fun p => D 0 (A p)) gone P)) 0 m1) else (f_M_leave_150 (nI (P - (k + 1))) (nI gone) (nI lvl) (oI (nrO (fun p => D 0 (A p)) gone P)) 1 m1)) := by
      rw [e_M_leave_34]
      refine (ifn ne10).trans ?_
      rw [ml_45 h1 g hg, e_M_leave_45, h1.2.1]
      exact ifp (nI_le (Nat.le_refl _) (by omega))
    rw [e34]
    unfold lvR
    cases hq : nrO (fun p => D 0 (A p)) gone P with
    | none =>
      refine ⟨m1, ?_, by simpa using hr, hs⟩
      refine (ifp (show oI none < 0 by decide)).trans ?_
      rw [e_M_leave_150]
      exact (ifp eq00).trans (fin _ _)
    | some p =>
      obtain ⟨p1, p2, p3⟩ := nrO_ok P p hq
      have hA := (g.2.2.2.2.2 p p1).1
      have hb : Q 1 * (k + 1) * D 0 (A p) ≤ 99 * 8 * 998 := Nat.mul_le_mul (Nat.mul_le_mul g1.2 (by omega)) (by omega)
      have e1 : nI lvl + ((nI (D 0 (A p)) * m1.1 63 64) * (m1.1 63 6 - nI (P - (k + 1)))) = nI (lvl + Q 1 * (k + 1) * D 0 (A p)) := by
        rw [show m1.1 63 64 = nI (Q 1) from a1, h1.2.1, pk_sub (by omega), pk_mul, pk_mul, nI_add]
        congr 2
        rw [show P - (P - (k + 1)) = k + 1 by omega, Nat.mul_assoc, Nat.mul_comm]
      have e150 : f_M_leave_150 (nI (P - (k + 1))) (nI gone) (nI lvl) (nI p) 1 m1 = (if decide (nI (Q 2) ≤ nI (lvl + Q 1 * (k + 1) * D 0 (A p))) = true then (f_M_leave_197 (nI (P - (k + 1))) (nI gone) (nI (lvl + Q 1 * (k + 1) * D 0 (A p))) (nI p) 0 m1) else (f_M_leave_197 (nI (P - (k + 1))) (nI gone) (nI (lvl + Q 1 * (k + 1) * D 0 (A p))) (nI p) 1 m1)) := by
        rw [e_M_leave_150]
        refine (ifn ne10).trans ?_
        rw [in_nI (show p < 8 by omega) (by omega), nI_cl (by omega), cond_true, (h1.2.2.2.2 p p1).1]
        show (f_M_farOf (nI (A p)) (nI 0) m1).bind _ = _
        rw [s_far h1 g.2.2.1 hA (by omega), Option.bind_some, (g.2.2.1.2 (A p) 0 hA (by omega)).2.1]
        dsimp only
        rw [e1, show m1.1 63 65 = nI (Q 2) from a2]
      have hneg : ∀ X Y : Option (Int32 × jx_Mem), (if decide (oI (some p) < 0) = true then X else Y) = Y := fun X Y => ifn (nI_pos (show p < 2 ^ 31 by omega))
      rw [hneg]
      dsimp only
      by_cases c : lvl + Q 1 * (k + 1) * D 0 (A p) < Q 2
      · obtain ⟨m2, q1, q2, q3⟩ := s_enters (pI p) hr (by omega)
        obtain ⟨m', r1, r2, r3⟩ := ih (gone ||| 2 ^ p) (lvl + Q 1 * (k + 1) * D 0 (A p)) m2 (vs ++ [pI p]) (by omega) (or_lt8 hg (by omega)) (by omega) (by rw [ct_or p1 p2]; omega) (hs.tr q3) q2 (by simp; omega)
        rw [if_pos c]
        refine ⟨m', ?_, by simpa using r2, r3⟩
        refine Eq.trans e150 ?_
        refine (ifn (nI_ge c (by omega))).trans ?_
        rw [e_M_leave_197, e_M_leave_199]
        refine (ifn ne10).trans ?_
        show (f_M_enters (pI p) m1).bind _ = _
        rw [q1, Option.bind_some, e_M_leave_221, sh1 (show p < 31 by omega), fa_or, nI_1, show P - (k + 1) + 1 = P - k by omega, r1]
        simp
      · rw [if_neg c]
        refine ⟨m1, ?_, by simpa using hr, hs⟩
        refine Eq.trans e150 ?_
        refine (ifp (nI_le (by omega) (by omega))).trans ?_
        rw [e_M_leave_197]
        exact fin _ _
theorem M_leave (h : mineM m T P D W A U L) (g : gMine T P D W A U L) (ha : airM m Q) (ga : gAir Q) : ∃ m', sm wTM m m' ∧ f_M_leave m = some (nI (lvR (fun p => D 0 (A p)) P (Q 1) (Q 2) P 0 (Q 0)).length, m') ∧ rM m' ((lvR (fun p => D 0 (A p)) P (Q 1) (Q 2) P 0 (Q 0)).map pI) := by
  have hP := g.2.1
  have s2 : sm wTM m (jx_w1 (jx_w1 m 63 0 0) 63 1 0) := (sm_w1 (by unfold wTM; omega)).w1 (by unfold wTM; omega)
  have h2 : mineM (jx_w1 (jx_w1 m 63 0 0) 63 1 0) T P D W A U L := mineM_sm h s2 (by intro a k; unfold dMM wTM; omega)
  have ha2 : airM (jx_w1 (jx_w1 m 63 0 0) 63 1 0) Q := airM_sm ha s2 (by intro a k; unfold dAM wTM; omega)
  have a0 : (jx_w1 (jx_w1 m 63 0 0) 63 1 0).1 63 63 = nI (Q 0) := ha2 0 (by omega)
  have a2 : (jx_w1 (jx_w1 m 63 0 0) 63 1 0).1 63 65 = nI (Q 2) := ha2 2 (by omega)
  have hz : fb_ct (fun i => (0 : Nat).testBit i) P = 0 := fb_ct_zero.mpr (fun k _ => Nat.zero_testBit k)
  rw [e_M_leave]
  dsimp only
  rw [a0, a2]
  have g0 := ga.1
  have g2 := ga.2.2.1
  by_cases c : Q 0 < Q 2
  · obtain ⟨m', r1, r2, r3⟩ := ml_34 h2 g ha2 ga P 0 (Q 0) _ [] (Nat.le_refl _) (by decide) g0 (by omega) sm.rf (rM_0 _) (by simp)
    refine ⟨m', s2.tr (r3.mono (by unfold wRM wTM; omega)), ?_, by simpa using r2⟩
    refine (ifn (nI_ge c (by omega))).trans ?_
    rw [e_M_leave_32]
    rw [show P - P = 0 by omega] at r1
    show f_M_leave_34 (nI 0) (nI 0) (nI (Q 0)) 1 _ = _
    rw [r1]
    simp
  · have hl : lvR (fun p => D 0 (A p)) P (Q 1) (Q 2) P 0 (Q 0) = [] := by
      cases P with
      | zero => rfl
      | succ k =>
        unfold lvR
        cases nrO (fun p => D 0 (A p)) 0 (k + 1) with
        | none => rfl
        | some p =>
          dsimp only
          rw [if_neg]
          omega
    rw [hl]
    refine ⟨_, s2, ?_, rM_0 _⟩
    refine (ifp (nI_le (by omega) (by omega))).trans ?_
    rw [e_M_leave_32, e_M_leave_34]
    exact ifp eq00
end LEAVE
