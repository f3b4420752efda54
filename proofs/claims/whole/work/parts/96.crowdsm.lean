/-! crowds on both sides -/
section CROWDSM
variable {m m' : jx_Mem} {T P : Nat} {D : Nat → Nat → Nat} {W A U L : Nat → Nat} {H : Nat} {Y V : Nat → Nat} {n gv : Nat}
theorem p56 (hn : n ≤ 6) : 5 ^ n ≤ 15625 := Nat.le_trans (Nat.pow_le_pow_right (by omega) hn) (by decide)
theorem tc_50 {v : Nat} (hn : n ≤ 6) (h8 : m.1 52 8 = nI n) {k : Nat} (h10 : m.1 52 10 = 1) (h56 : ∀ w, w < n → m.1 56 w = nI (dgr n k w)) : ∀ (i w : Nat), w + i = n → ∀ m1, sm wRF m m1 → rF m1 (rowD n k w) → ∃ m2, f_Noise_tellCrowds_50 (nI v) (nI w) m1 = some (nI v, m2) ∧ sm wRF m m2 ∧ rF m2 (rowD n k n) := by
  intro i
  induction i with
  | zero =>
    intro w hw m1 hs hr
    have : w = n := by omega
    subst this
    refine ⟨m1, ?_, hs, hr⟩
    rw [e_Noise_tellCrowds_50, (hs 52 8 (by unfold wRF; omega)).1, h8]
    refine (ifp (nI_le (Nat.le_refl _) (by omega))).trans ?_
    rw [e_Noise_tellCrowds_84]
  | succ i ih =>
    intro w hw m1 hs hr
    obtain ⟨m2, q1, q2, q3⟩ := s_Row_add (pI (dgr n k w)) hr (by rw [rowD_len]; omega)
    rw [← rowD_s] at q2
    obtain ⟨m3, t1, t2⟩ := ih (w + 1) (by omega) m2 (hs.tr q3) q2
    refine ⟨m3, ?_, t2⟩
    rw [← t1, e_Noise_tellCrowds_50, (hs 52 8 (by unfold wRF; omega)).1, h8]
    refine (ifn (nI_ge (a := w) (b := n) (by omega) (by omega))).trans ?_
    rw [(hs 52 10 (by unfold wRF; omega)).1, h10]
    refine (ifn ne10).trans ?_
    rw [in_nI (show w < 6 by omega) (by omega), nI_cl (show w < 2 ^ 31 by omega), cond_true, (hs 56 w (by unfold wRF; omega)).1, h56 w (by omega)]
    show (f_Row_add (pI (dgr n k w)) m1).bind _ = _
    rw [q1, Option.bind_some, nI_1]
def cCr (x y : Int32) : Prop := (1 ≤ x.toInt ∧ x.toInt ≤ 6) ∧ (0 ≤ y.toInt ∧ y.toInt ≤ 99)
def wCrF (a k : Nat) : Prop := (55 ≤ a ∧ a ≤ 58) ∨ (a = 52 ∧ 8 ≤ k) ∨ wRF a k
theorem F_crowds (h : mineF m T P D W A U L) (g : gMine T P D W A U L) (hq : noiseF m H Y V) (gq : gNoise H Y V) (x y : Int32) : ∃ m', sm wCrF m m' ∧
    ((cCr x y ∧ f_F_crowds x y m = some (nI (fb_ct (okK (vcE D Y) V H (jn x) (jn y)) (5 ^ (jn x))), m') ∧ rF m' (rowC (jn x) (foB (okK (vcE D Y) V H (jn x) (jn y)) 0 (5 ^ (jn x))))) ∨ (¬ cCr x y ∧ f_F_crowds x y m = some (-1, m') ∧ m' = m)) := by
  rw [e_F_crowds]
  by_cases hx : 1 ≤ x.toInt ∧ x.toInt ≤ 6
  · by_cases hy : 0 ≤ y.toInt ∧ y.toInt ≤ 99
    · obtain ⟨n, hn, rfl⟩ := nI_get (show 0 ≤ x.toInt by omega) (show x.toInt < ((7 : Nat) : Int) by omega)
      obtain ⟨gv, hg, rfl⟩ := nI_get hy.1 (show y.toInt < ((100 : Nat) : Int) by omega)
      rw [jn_nI (show n < 2 ^ 31 by omega), jn_nI (show gv < 2 ^ 31 by omega)]
      have emm : jx_mx 0 (jx_mn 6 (nI n)) = nI n := by
        rw [show jx_mn 6 (nI n) = nI (min 6 n) from mn_nI (a := 6) (by omega) (by omega), show min 6 n = n by omega]
        have := mx_nI (a := 0) (b := n) (by omega) (by omega)
        rw [Nat.zero_max] at this
        exact this
      have s3 : sm wCrF m (jx_w1 (jx_w1 (jx_w1 m 52 8 (nI n)) 52 9 (nI gv)) 52 10 0) := ((sm_w1 (by unfold wCrF; omega)).w1 (by unfold wCrF; omega)).w1 (by unfold wCrF; omega)
      obtain ⟨m4, a1, a2, a3⟩ := s_fill57 0 (jx_w1 (jx_w1 (jx_w1 m 52 8 (nI n)) 52 9 (nI gv)) 52 10 0)
      obtain ⟨m5, b1, b2, b3⟩ := s_fill58 0 m4
      have s5 : sm wCrF m m5 := s3.tr ((a3.mono (by unfold wCrF; omega)).tr (b3.mono (by unfold wCrF; omega)))
      have h5 : mineF m5 T P D W A U L := mineF_sm h s5 (by intro a k; unfold dMF wCrF wRF; omega)
      have hq5 : noiseF m5 H Y V := noiseF_sm hq s5 (by intro a k; unfold dNF wCrF wRF; omega)
      have c8 : m5.1 52 8 = nI n := by rw [(b3 52 8 (by omega)).1, (a3 52 8 (by omega)).1, w1_idx (by omega), w1_idx (by omega), w1_same]
      have c9 : m5.1 52 9 = nI gv := by rw [(b3 52 9 (by omega)).1, (a3 52 9 (by omega)).1, w1_idx (by omega), w1_same]
      have c10 : m5.1 52 10 = 0 := by rw [(b3 52 10 (by omega)).1, (a3 52 10 (by omega)).1, w1_same]
      have hH := gq.1
      obtain ⟨m6, d1, d2, d3⟩ := fr_15 h5 g hq5 gq (show n ≤ 6 by omega) n 0 (by omega) m5 sm.rf (fun d' e' q1 q2 => by
        have : d' = 0 := by omega
        subst this
        rw [b2 _ (by omega)]
        rfl)
      have s6 : sm wCrF m m6 := s5.tr (d2.mono (by unfold wCrF; omega))
      have h6 : mineF m6 T P D W A U L := mineF_sm h s6 (by intro a k; unfold dMF wCrF wRF; omega)
      have hq6 : noiseF m6 H Y V := noiseF_sm hq s6 (by intro a k; unfold dNF wCrF wRF; omega)
      obtain ⟨m7, f1, f2, _, _, f5⟩ := fill_ok h6 g hq6 gq (show n ≤ 6 by omega) (show gv ≤ 99 by omega) ((d2 52 8 (by omega)).1.trans c8) ((d2 52 9 (by omega)).1.trans c9) d3 n (Nat.le_refl _) 0 120 (by omega) m6 none sm.rf (fun w hw => by omega) (fun e he => by
        rw [Nat.sub_self, (d2 57 e (by omega)).1, (b3 57 e (by omega)).1, a2 e (by omega)]
        rfl) ((d2 52 10 (by omega)).1.trans c10)
      have f1' : f_Noise_fill 120 0 m6 = some (nI (fb_ct (okK (vcE D Y) V H n gv) (5 ^ n)), m7) := by
        rw [Nat.sub_self] at f1
        have : fb_ct (fun i => okK (vcE D Y) V H n gv (0 * 5 ^ n + i)) (5 ^ n) = fb_ct (okK (vcE D Y) V H n gv) (5 ^ n) := fb_ct_cong (fun i _ => by rw [Nat.zero_mul, Nat.zero_add])
        rw [this] at f1
        exact f1
      rw [Nat.zero_mul] at f5
      have f5' : fndF m7 n (foB (okK (vcE D Y) V H n gv) 0 (5 ^ n)) := f5
      have s7 : sm wCrF m m7 := s6.tr (f2.mono (fun a k z => by unfold wFi at z; unfold wCrF; omega))
      obtain ⟨m8, g1, g2, g3⟩ := s_Row_clear m7
      have c88 : m8.1 52 8 = nI n := by rw [(g3 52 8 (by unfold wRF; omega)).1, (f2 52 8 (by unfold wFi; omega)).1, (d2 52 8 (by omega)).1]; exact c8
      have e0 : f_Noise_tellCrowds (nI n) (nI gv) m = f_Noise_tellCrowds_50 (nI (fb_ct (okK (vcE D Y) V H n gv) (5 ^ n))) 0 m8 := by
        rw [e_Noise_tellCrowds, emm]
        try dsimp only
        have frs : f_Noise_findRests m4 = some m6 := by
          rw [e_Noise_findRests, b1, Option.bind_some, c8]
          exact d1
        rw [a1, Option.bind_some, frs, Option.bind_some, f1', Option.bind_some]
        try dsimp only
        rw [g1, Option.bind_some]
      cases hfo : foB (okK (vcE D Y) V H n gv) 0 (5 ^ n) with
      | none =>
        rw [hfo] at f5'
        have hz : m8.1 52 10 = 0 := (g3 52 10 (by unfold wRF; omega)).1.trans f5'
        refine ⟨m8, s7.tr (g3.mono (fun a k z => Or.inr (Or.inr z))), Or.inl ⟨⟨hx, hy⟩, ?_, g2⟩⟩
        have e1 : f_Noise_tellCrowds_50 (nI (fb_ct (okK (vcE D Y) V H n gv) (5 ^ n))) 0 m8 = some (nI (fb_ct (okK (vcE D Y) V H n gv) (5 ^ n)), m8) := by
          rw [e_Noise_tellCrowds_50, c88, hz]
          split
          · rw [e_Noise_tellCrowds_84]
          · refine (ifp eq00).trans ?_
            rw [e_Noise_tellCrowds_84]
        simp [s_wi_t (lo := 1) (hi := 6) hx, s_wi_t (lo := 0) (hi := 99) hy, e0, e1]
      | some k =>
        rw [hfo] at f5'
        obtain ⟨m9, t1, t2, t3⟩ := tc_50 (v := fb_ct (okK (vcE D Y) V H n gv) (5 ^ n)) (k := k) (show n ≤ 6 by omega) c88 ((g3 52 10 (by unfold wRF; omega)).1.trans f5'.1) (fun w hw => (g3 56 w (by unfold wRF; omega)).1.trans (f5'.2 w hw)) n 0 (by omega) m8 sm.rf g2
        have t1' : f_Noise_tellCrowds_50 (nI (fb_ct (okK (vcE D Y) V H n gv) (5 ^ n))) 0 m8 = some (nI (fb_ct (okK (vcE D Y) V H n gv) (5 ^ n)), m9) := t1
        refine ⟨m9, s7.tr ((g3.tr t2).mono (fun a k z => Or.inr (Or.inr z))), Or.inl ⟨⟨hx, hy⟩, ?_, t3⟩⟩
        simp [s_wi_t (lo := 1) (hi := 6) hx, s_wi_t (lo := 0) (hi := 99) hy, e0, t1']
    · refine ⟨m, sm.rf, Or.inr ⟨fun q => hy q.2, ?_, rfl⟩⟩
      simp [s_wi_t (lo := 1) (hi := 6) hx, s_wi_f (lo := 0) (hi := 99) hy, e_F_crowds_20]
  · refine ⟨m, sm.rf, Or.inr ⟨fun q => hx q.1, ?_, rfl⟩⟩
    simp [s_wi_f (lo := 1) (hi := 6) hx, e_F_crowds_20]
/-! the model -/
def w107 (a _ : Nat) : Prop := a = 107
theorem cm_78 (hn : n ≤ 6) (x2 x3 x4 x5 : Int32) : ∀ p, p ≤ n → ∀ left m1, left < 2 ^ 31 → ∃ m2, f_M_crowds_78 (nI n) x2 x3 x4 x5 (nI left) (nI p - 1) m1 = ((f_M_isHeard (nI n) x2 m2).bind (fun p1 => if decide (p1.1 = 0) = true then (f_M_crowds_150 (nI n) x2 x3 x4 x5 p1.2) else (f_M_crowds_118 (nI n) x2 x3 x4 x5 0 p1.2))) ∧ sm w107 m1 m2 ∧ ∀ w, m2.1 107 w = if w < p then nI (dgr p left w) else m1.1 107 w := by
  intro p
  induction p with
  | zero =>
    intro _ left m1 _
    refine ⟨m1, ?_, sm.rf, fun w => by rw [if_neg (Nat.not_lt_zero w)]⟩
    rw [e_M_crowds_78]
    exact ifp (by decide)
  | succ p ih =>
    intro hp left m1 hl
    have hd : left / 5 < 2 ^ 31 := Nat.lt_of_le_of_lt (Nat.div_le_self _ _) hl
    obtain ⟨m2, r1, r2, r3⟩ := ih (by omega) (left / 5) (jx_w1 m1 107 p (nI (left % 5))) hd
    refine ⟨m2, ?_, r2.pre rfl, fun w => ?_⟩
    · rw [← r1, nI_pred, e_M_crowds_78]
      refine (ifn (nI_pos (by omega))).trans ?_
      rw [show (!(decide ((5 : Nat) = 0))) = true from by decide, cond_true, show nI left - nI left / 5 * 5 = nI (left % 5) from pk_rem (d := 5) hl (by omega) (by omega), show nI left / 5 = nI (left / 5) from pk_div (d := 5) hl (by omega) (by omega), in_nI (show p < 6 by omega) (by omega), nI_cl (show p < 2 ^ 31 by omega), neg1]
      rfl
    · rw [r3 w, w1_rd, dgr_s]
      by_cases c : w < p
      · rw [if_pos c, if_pos (by omega), if_neg (by omega)]
      · rw [if_neg c]
        by_cases e : w = p
        · rw [if_pos ⟨rfl, e⟩, if_pos (by omega), if_pos e]
        · rw [if_neg (fun z => e z.2), if_neg (by omega)]
theorem s_isHeard (h : mineM m T P D W A U L) (g : gMine T P D W A U L) (hq : noiseM m H Y V) (gq : gNoise H Y V) (hn : n ≤ 6) (hg : gv ≤ 99) {k : Nat} (h107 : ∀ w, w < n → m.1 107 w = nI (dgr n k w)) : f_M_isHeard (nI n) (nI gv) m = some (bi (okK (vcE D Y) V H n gv k), m) := by
  have hH := gq.1
  have inner := lp_any (fun e => f_M_isHeard_2 (nI n) (nI gv) e m) (fun e => decide (V e + gv < smS (vcE D Y) n k e) || decide (smS (vcE D Y) n k e + gv < V e)) (some ((0 : Int32), m)) (some ((1 : Int32), m)) H (by
    rw [e_M_isHeard_2, hq.1]
    exact ifp (nI_le (Nat.le_refl _) (by omega))) (by
    intro e he
    have b1 : smS (vcE D Y) n k e ≤ 240 * n := smS_le (fun w => vcE_le w e) _ _
    obtain ⟨hY, hV⟩ := gq.2 e he
    have key := lp_up (fun w x => f_M_isHeard_16 (nI n) (nI gv) (nI e) x w m) (fun w => nI (fb_sm (fun w => dgr n k w * vcE D Y w e) w)) n (by
      intro w hw
      have hD := (g.2.2.1.2 w (Y e) (by omega) hY).1
      rw [e_M_isHeard_16]
      refine (ifn (nI_ge (a := w) (b := n) hw (by omega))).trans ?_
      rw [in_nI (show w < 6 by omega) (by omega), nI_cl (show w < 2 ^ 31 by omega), in_nI (show e < 6 by omega) (by omega), nI_cl (show e < 2 ^ 31 by omega), cond_true, cond_true, (hq.2 e he).1, s_far h g.2.2.1 (by omega) hY, Option.bind_some]
      try dsimp only
      rw [s_sounds hD, Option.bind_some]
      try dsimp only
      rw [h107 w hw, pk_mul, nI_add, nI_1, fb_sm_succ]
      rfl) 0 (Nat.zero_le _)
    rw [e_M_isHeard_2, hq.1]
    refine (ifn (nI_ge (a := e) (b := H) he (by omega))).trans ?_
    refine Eq.trans (b := f_M_isHeard_16 (nI n) (nI gv) (nI e) (nI (smS (vcE D Y) n k e)) (nI n) m) (by rw [smS_sum]; exact key) ?_
    rw [e_M_isHeard_16]
    refine (ifp (nI_le (Nat.le_refl _) (by omega))).trans ?_
    rw [in_nI (show e < 6 by omega) (by omega), nI_cl (show e < 2 ^ 31 by omega), cond_true, (hq.2 e he).2, ab_nI (by omega) (by omega)]
    by_cases c : V e + gv < smS (vcE D Y) n k e ∨ smS (vcE D Y) n k e + gv < V e
    · refine (ifn (nI_ge (by omega) (by omega))).trans ?_
      rw [if_pos (by rw [Bool.or_eq_true, decide_eq_true_eq, decide_eq_true_eq]; exact c)]
    · refine (ifp (nI_le (by omega) (by omega))).trans ?_
      rw [nI_1, if_neg (by rw [Bool.or_eq_true, decide_eq_true_eq, decide_eq_true_eq]; exact c)]) H 0 (by omega)
  rw [e_M_isHeard]
  refine Eq.trans inner ?_
  unfold okK
  cases anyF (fun e => decide (V e + gv < smS (vcE D Y) n k e) || decide (smS (vcE D Y) n k e + gv < V e)) 0 H <;> rfl
theorem cm_118 (hn : n ≤ 6) {k : Nat} (h107 : ∀ w, w < n → m.1 107 w = nI (dgr n k w)) (x2 x3 x5 : Int32) : ∀ (i w : Nat), w + i = n → ∀ m1, sm wRM m m1 → rM m1 (rowD n k w) → ∃ m2, f_M_crowds_118 (nI n) x2 x3 0 x5 (nI w) m1 = f_M_crowds_147 (nI n) x2 x3 0 x5 m2 ∧ sm wRM m m2 ∧ rM m2 (rowD n k n) := by
  intro i
  induction i with
  | zero =>
    intro w hw m1 hs hr
    have : w = n := by omega
    subst this
    refine ⟨m1, ?_, hs, hr⟩
    rw [e_M_crowds_118]
    exact ifp (nI_le (Nat.le_refl _) (by omega))
  | succ i ih =>
    intro w hw m1 hs hr
    obtain ⟨m2, q1, q2, q3⟩ := s_enters (pI (dgr n k w)) hr (by rw [rowD_len]; omega)
    rw [← rowD_s] at q2
    obtain ⟨m3, t1, t2⟩ := ih (w + 1) (by omega) m2 (hs.tr q3) q2
    refine ⟨m3, ?_, t2⟩
    rw [← t1, e_M_crowds_118]
    refine (ifn (nI_ge (a := w) (b := n) (by omega) (by omega))).trans ?_
    refine (ifnp eq00).trans ?_
    rw [in_nI (show w < 6 by omega) (by omega), nI_cl (show w < 2 ^ 31 by omega), cond_true, (hs 107 w (by unfold wRM; omega)).1, h107 w (by omega)]
    show (f_M_enters (pI (dgr n k w)) m1).bind _ = _
    rw [q1, Option.bind_some, nI_1]
def wCrM (a k : Nat) : Prop := a = 107 ∨ wTM a k
theorem cm_63 (h : mineM m T P D W A U L) (g : gMine T P D W A U L) (hq : noiseM m H Y V) (gq : gNoise H Y V) (hn : n ≤ 6) (hg : gv ≤ 99) : ∀ (i k : Nat), k + i = 5 ^ n → ∀ m1, sm wCrM m m1 → rM m1 (rowC n (foB (okK (vcE D Y) V H n gv) 0 k)) →
    ∃ m2, f_M_crowds_63 (nI n) (nI gv) (nI (5 ^ n)) (nI (fb_ct (okK (vcE D Y) V H n gv) k)) (nI k) m1 = some (nI (fb_ct (okK (vcE D Y) V H n gv) (5 ^ n)), m2) ∧ sm wCrM m m2 ∧ rM m2 (rowC n (foB (okK (vcE D Y) V H n gv) 0 (5 ^ n))) := by
  have h56 := p56 hn
  intro i
  induction i with
  | zero =>
    intro k hk m1 hs hr
    have : k = 5 ^ n := by omega
    subst this
    refine ⟨m1, ?_, hs, hr⟩
    rw [e_M_crowds_63]
    exact ifp (nI_le (Nat.le_refl _) (by omega))
  | succ i ih =>
    intro k hk m1 hs hr
    have hct := fb_ct_le (okK (vcE D Y) V H n gv) k
    obtain ⟨m2, r1, r2, r3⟩ := cm_78 hn (nI gv) (nI (5 ^ n)) (nI (fb_ct (okK (vcE D Y) V H n gv) k)) (nI k) n (Nat.le_refl _) k m1 (by omega)
    have s2 : sm wCrM m m2 := hs.tr (r2.mono (fun _ _ z => Or.inl z))
    have h2 : mineM m2 T P D W A U L := mineM_sm h s2 (by intro a k; unfold dMM wCrM wTM; omega)
    have hq2 : noiseM m2 H Y V := noiseM_sm hq s2 (by intro a k; unfold dNM wCrM wTM; omega)
    have h107 : ∀ w, w < n → m2.1 107 w = nI (dgr n k w) := fun w hw => by rw [r3 w, if_pos hw]
    have hr2 : rM m2 (rowC n (foB (okK (vcE D Y) V H n gv) 0 k)) := rM_sm hr r2 (by unfold w107; omega) (by intro k; unfold w107; omega)
    have e0 : f_M_crowds_63 (nI n) (nI gv) (nI (5 ^ n)) (nI (fb_ct (okK (vcE D Y) V H n gv) k)) (nI k) m1 = (if decide (bi (okK (vcE D Y) V H n gv k) = 0) = true then (f_M_crowds_150 (nI n) (nI gv) (nI (5 ^ n)) (nI (fb_ct (okK (vcE D Y) V H n gv) k)) (nI k) m2) else (f_M_crowds_118 (nI n) (nI gv) (nI (5 ^ n)) (nI (fb_ct (okK (vcE D Y) V H n gv) k)) (nI k) 0 m2)) := by
      rw [e_M_crowds_63]
      refine (ifn (nI_ge (a := k) (b := 5 ^ n) (by omega) (by omega))).trans ?_
      rw [r1, s_isHeard h2 g hq2 gq hn hg h107, Option.bind_some]
    rw [e0]
    cases hok : okK (vcE D Y) V H n gv k with
    | false =>
      have ef : foB (okK (vcE D Y) V H n gv) 0 (k + 1) = foB (okK (vcE D Y) V H n gv) 0 k := by
        rw [foB_s, Nat.zero_add, hok]
        cases foB (okK (vcE D Y) V H n gv) 0 k <;> rfl
      have ec : fb_ct (okK (vcE D Y) V H n gv) (k + 1) = fb_ct (okK (vcE D Y) V H n gv) k := by
        rw [fb_ct_succ, hok]
        rfl
      obtain ⟨m3, t1, t2⟩ := ih (k + 1) (by omega) m2 s2 (by rw [ef]; exact hr2)
      refine ⟨m3, ?_, t2⟩
      rw [← t1, ec]
      refine (ifp (show bi false = 0 from rfl)).trans ?_
      rw [e_M_crowds_150, nI_1]
    | true =>
      have ec : fb_ct (okK (vcE D Y) V H n gv) (k + 1) = fb_ct (okK (vcE D Y) V H n gv) k + 1 := by
        rw [fb_ct_succ, hok]
        rfl
      have e1 : ∀ X Y : Option (Int32 × jx_Mem), (if decide (bi true = 0) = true then X else Y) = Y := fun X Y => ifn ne10
      rw [e1]
      cases hfo : foB (okK (vcE D Y) V H n gv) 0 k with
      | none =>
        have ef : foB (okK (vcE D Y) V H n gv) 0 (k + 1) = some k := by
          rw [foB_s, Nat.zero_add, hok, hfo]
          rfl
        have hz := (foB_ct k).mp hfo
        rw [hfo] at hr2
        obtain ⟨m3, a1, a2, a3⟩ := cm_118 hn h107 (nI gv) (nI (5 ^ n)) (nI k) n 0 (by omega) m2 sm.rf hr2
        obtain ⟨m4, t1, t2⟩ := ih (k + 1) (by omega) m3 (s2.tr (a2.mono (fun a k z => Or.inr (by unfold wRM at z; unfold wTM; omega)))) (by rw [ef]; exact a3)
        refine ⟨m4, ?_, t2⟩
        rw [← t1, ec, hz]
        have a1' : f_M_crowds_118 (nI n) (nI gv) (nI (5 ^ n)) (nI 0) (nI k) 0 m2 = f_M_crowds_147 (nI n) (nI gv) (nI (5 ^ n)) 0 (nI k) m3 := a1
        rw [a1', e_M_crowds_147, e_M_crowds_150, nI_1]
        rfl
      | some k0 =>
        have ef : foB (okK (vcE D Y) V H n gv) 0 (k + 1) = foB (okK (vcE D Y) V H n gv) 0 k := by
          rw [foB_s, hfo]
          rfl
        have hnz : 0 < fb_ct (okK (vcE D Y) V H n gv) k := by
          apply Nat.pos_of_ne_zero
          intro z
          rw [(foB_ct k).mpr z] at hfo
          cases hfo
        obtain ⟨m4, t1, t2⟩ := ih (k + 1) (by omega) m2 s2 (by rw [ef]; exact hr2)
        refine ⟨m4, ?_, t2⟩
        rw [← t1, ec, e_M_crowds_118]
        have e2 : f_M_crowds_147 (nI n) (nI gv) (nI (5 ^ n)) (nI (fb_ct (okK (vcE D Y) V H n gv) k)) (nI k) m2 = f_M_crowds_63 (nI n) (nI gv) (nI (5 ^ n)) (nI (fb_ct (okK (vcE D Y) V H n gv) k + 1)) (nI (k + 1)) m2 := by
          rw [e_M_crowds_147, e_M_crowds_150, nI_1, nI_1]
        split
        · exact e2
        · exact (ifnn (nI_ne0 hnz (by omega))).trans e2
theorem M_crowds (h : mineM m T P D W A U L) (g : gMine T P D W A U L) (hq : noiseM m H Y V) (gq : gNoise H Y V) (x y : Int32) : ∃ m', sm wCrM m m' ∧
    ((cCr x y ∧ f_M_crowds x y m = some (nI (fb_ct (okK (vcE D Y) V H (jn x) (jn y)) (5 ^ (jn x))), m') ∧ rM m' (rowC (jn x) (foB (okK (vcE D Y) V H (jn x) (jn y)) 0 (5 ^ (jn x))))) ∨ (¬ cCr x y ∧ f_M_crowds x y m = some (-1, m') ∧ m' = jx_w1 m 63 0 0)) := by
  have h1 := mineM_th h (v := 0)
  have hq1 := noiseM_th hq (v := 0)
  have s1 : sm wCrM m (jx_w1 m 63 0 0) := sm_w1 (Or.inr (by unfold wTM; omega))
  rw [e_M_crowds]
  try dsimp only
  by_cases hx : 1 ≤ x.toInt ∧ x.toInt ≤ 6
  · by_cases hy : 0 ≤ y.toInt ∧ y.toInt ≤ 99
    · obtain ⟨n, hn, rfl⟩ := nI_get (show 0 ≤ x.toInt by omega) (show x.toInt < ((7 : Nat) : Int) by omega)
      obtain ⟨gv, hg, rfl⟩ := nI_get hy.1 (show y.toInt < ((100 : Nat) : Int) by omega)
      rw [jn_nI (show n < 2 ^ 31 by omega), jn_nI (show gv < 2 ^ 31 by omega)]
      have k1 := lp_up (fun i x => f_M_crowds_36 (nI n) (nI gv) x i (jx_w1 m 63 0 0)) (fun i => nI (5 ^ i)) n (by
        intro i hi
        rw [e_M_crowds_36]
        refine (ifn (nI_ge (a := i) (b := n) hi (by omega))).trans ?_
        rw [show nI (5 ^ i) * 5 = nI (5 ^ i * 5) from pk_mul (5 ^ i) 5, nI_1, Nat.pow_succ]) 0 (Nat.zero_le _)
      have s2 : sm wCrM m (jx_w1 (jx_w1 m 63 0 0) 63 1 0) := s1.w1 (Or.inr (by unfold wTM; omega))
      have h2 : mineM (jx_w1 (jx_w1 m 63 0 0) 63 1 0) T P D W A U L := mineM_sm h s2 (by intro a k; unfold dMM wCrM wTM; omega)
      have hq2 : noiseM (jx_w1 (jx_w1 m 63 0 0) 63 1 0) H Y V := noiseM_sm hq s2 (by intro a k; unfold dNM wCrM wTM; omega)
      obtain ⟨m3, r1, r2, r3⟩ := cm_63 h2 g hq2 gq (show n ≤ 6 by omega) (show gv ≤ 99 by omega) (5 ^ n) 0 (by omega) _ sm.rf (rM_0 (jx_w1 m 63 0 0))
      refine ⟨m3, s2.tr r2, Or.inl ⟨⟨hx, hy⟩, ?_, r3⟩⟩
      rw [s_in_t (lo := 1) (hi := 6) hx, Option.bind_some]
      refine (ifn ne10).trans ?_
      try dsimp only
      rw [s_in_t (lo := 0) (hi := 99) hy, Option.bind_some]
      refine (ifnn ne10).trans ?_
      refine Eq.trans (b := f_M_crowds_36 (nI n) (nI gv) (nI (5 ^ n)) (nI n) (jx_w1 m 63 0 0)) k1 ?_
      rw [e_M_crowds_36]
      refine (ifp (nI_le (Nat.le_refl _) (by omega))).trans ?_
      exact r1
    · refine ⟨_, s1, Or.inr ⟨fun q => hy q.2, ?_, rfl⟩⟩
      rw [s_in_t (lo := 1) (hi := 6) hx, Option.bind_some]
      refine (ifn ne10).trans ?_
      try dsimp only
      rw [s_in_f (lo := 0) (hi := 99) hy, Option.bind_some]
      refine (ifnp eq00).trans ?_
      rw [e_M_crowds_29]
  · refine ⟨_, s1, Or.inr ⟨fun q => hx q.1, ?_, rfl⟩⟩
    rw [s_in_f (lo := 1) (hi := 6) hx, Option.bind_some]
    refine (ifp eq00).trans ?_
    rw [e_M_crowds_29]
end CROWDSM
