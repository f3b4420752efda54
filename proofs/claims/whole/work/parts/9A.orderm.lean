/-! order of the model -/
section ORDERM
variable {m m' : jx_Mem} {T P : Nat} {D : Nat → Nat → Nat} {W A U L : Nat → Nat} {cs : List Nat}
theorem mo_30 (h : mineM m T P D W A U L) (g : gMine T P D W A U L) (hc : codeM m cs) (gc : gCode cs) (q : Nat → Bool) (x2 x3 : Int32) : ∀ (i n : Nat) (m1 : jx_Mem), n + i = P → sm w79 m m1 →
    ∃ m2, f_M_order_30 (nI (bs q 8)) x2 x3 (oI (bstO (rV D W A U L P cs) q n)) (nI n) m1 = f_M_order_30 (nI (bs q 8)) x2 x3 (oI (bstO (rV D W A U L P cs) q P)) (nI P) m2 ∧ sm w79 m m2 := by
  have hP := g.2.1
  have g1 := gc.1
  intro i
  induction i with
  | zero =>
    intro n m1 hn hs
    have : n = P := by omega
    subst this
    exact ⟨m1, rfl, hs⟩
  | succ i ih =>
    intro n m1 hn hs
    have h1 : mineM m1 T P D W A U L := mineM_sm h hs (by intro a k; unfold dMM w79; omega)
    have hc1 := codeM_sm hc g1 hs (by intro a k; unfold dCM w79; omega)
    rw [e_M_order_30, h1.2.1]
    have e0 : ∀ X Y : Option (Int32 × jx_Mem), (if decide (nI P ≤ nI n) = true then X else Y) = Y := fun X Y => ifn (nI_ge (a := n) (b := P) (by omega) (by omega))
    rw [e0, s_mhas (bs8_lt q) (by omega), Option.bind_some, tb8 (by omega)]
    try dsimp only
    have e73 : ∀ (x4 : Int32) (m : jx_Mem), f_M_order_73 (nI (bs q 8)) x2 x3 x4 (nI n) m = f_M_order_30 (nI (bs q 8)) x2 x3 x4 (nI (n + 1)) m := by
      intro x4 m
      rw [e_M_order_73, e_M_order_75, nI_1]
    have e68 : ∀ (m : jx_Mem), f_M_order_68 (nI (bs q 8)) x2 x3 (nI n) m = f_M_order_30 (nI (bs q 8)) x2 x3 (nI n) (nI (n + 1)) m := by
      intro m
      rw [e_M_order_68, e_M_order_75, nI_1]
    by_cases c : q n = true
    · obtain ⟨m2, r1, s1⟩ := ih (n + 1) m1 (by omega) hs
      rw [bstO_s, if_pos c] at r1
      refine ⟨m2, ?_, s1⟩
      rw [← r1, jb_t c]
      exact (ifnn ne10).trans (e73 _ _)
    · cases e : bstO (rV D W A U L P cs) q n with
      | none =>
        obtain ⟨m2, r1, s1⟩ := ih (n + 1) m1 (by omega) hs
        rw [bstO_s, if_neg c, e] at r1
        refine ⟨m2, ?_, s1⟩
        rw [← r1, jb_f c]
        exact (ifnp eq00).trans ((ifp (by decide)).trans (e68 _))
      | some b =>
        have hb := ((bstO_ok n).2 b e).1
        obtain ⟨m3, r3, s3⟩ := s_right h1 g (show n < P by omega) hc1 gc
        have h3 : mineM m3 T P D W A U L := mineM_sm h1 s3 (by intro a k; unfold dMM w79; omega)
        have hc3 := codeM_sm hc1 g1 s3 (by intro a k; unfold dCM w79; omega)
        obtain ⟨m4, r4, s4⟩ := s_right h3 g (show b < P by omega) hc3 gc
        obtain ⟨m2, r1, s1⟩ := ih (n + 1) m4 (by omega) ((hs.tr s3).tr s4)
        rw [bstO_s, if_neg c, e] at r1
        refine ⟨m2, ?_, s1⟩
        rw [← r1, jb_f c]
        refine (ifnp eq00).trans ?_
        refine (ifn (fun z => absurd ((nI_ltI (a := b) (b := 0) (by omega) (by omega)).mp z) (by omega))).trans ?_
        rw [r3, Option.bind_some]
        try dsimp only
        rw [show oI (some b) = nI b from rfl, r4, Option.bind_some]
        try dsimp only
        by_cases d : rV D W A U L P cs n ≤ rV D W A U L P cs b
        · rw [if_pos d]
          exact (ifp d).trans (e73 _ _)
        · rw [if_neg d]
          exact (ifn d).trans (e68 _)
theorem mo_100 (h : mineM m T P D W A U L) (g : gMine T P D W A U L) (hc : codeM m cs) (gc : gCode cs) (x1 : Int32) {k acc : Nat} (hk : k < P) : ∀ (i n : Nat) (m1 : jx_Mem), n + i = k → sm w79 m m1 →
    ∃ m2, f_M_order_100 x1 (nI (acc + fb_ct (fun j => decide (rV D W A U L P cs j = rV D W A U L P cs k)) n)) (nI k) (nI n) m1 = f_M_order_16 x1 (nI (acc + fb_ct (fun j => decide (rV D W A U L P cs j = rV D W A U L P cs k)) k)) (nI (k + 1)) m2 ∧ sm w79 m m2 := by
  have hP := g.2.1
  have g1 := gc.1
  intro i
  induction i with
  | zero =>
    intro n m1 hn hs
    have : n = k := by omega
    subst this
    refine ⟨m1, ?_, hs⟩
    rw [e_M_order_100]
    refine (ifp (nI_le (Nat.le_refl _) (by omega))).trans ?_
    rw [nI_1]
  | succ i ih =>
    intro n m1 hn hs
    have h1 : mineM m1 T P D W A U L := mineM_sm h hs (by intro a k; unfold dMM w79; omega)
    have hc1 := codeM_sm hc g1 hs (by intro a k; unfold dCM w79; omega)
    obtain ⟨m3, r3, s3⟩ := s_right h1 g (show n < P by omega) hc1 gc
    have h3 : mineM m3 T P D W A U L := mineM_sm h1 s3 (by intro a k; unfold dMM w79; omega)
    have hc3 := codeM_sm hc1 g1 s3 (by intro a k; unfold dCM w79; omega)
    obtain ⟨m4, r4, s4⟩ := s_right h3 g hk hc3 gc
    obtain ⟨m2, r1, s1⟩ := ih (n + 1) m4 (by omega) ((hs.tr s3).tr s4)
    refine ⟨m2, ?_, s1⟩
    rw [← r1, e_M_order_100]
    refine (ifn (nI_ge (a := n) (b := k) (by omega) (by omega))).trans ?_
    rw [r3, Option.bind_some]
    try dsimp only
    rw [r4, Option.bind_some, fb_ct_succ]
    try dsimp only
    by_cases c : rV D W A U L P cs n = rV D W A U L P cs k
    · refine (ifnp c).trans ?_
      rw [e_M_order_126, s_flag 1 _ (Or.inr rfl), Option.bind_some, decide_eq_true c]
      try dsimp only
      rw [nI_1, nI_1]
      rfl
    · refine (ifnn c).trans ?_
      rw [e_M_order_126, s_flag 0 _ (Or.inl rfl), Option.bind_some, decide_eq_false c]
      try dsimp only
      rw [nI_1, Int32.add_zero]
      rfl
theorem mo_16 (h : mineM m T P D W A U L) (g : gMine T P D W A U L) (hc : codeM m cs) (gc : gCode cs) : ∀ (i n : Nat) (m1 : jx_Mem), n + i = P → sm wFiM m m1 → rM m1 (odL (rV D W A U L P cs) P n) →
    ∃ m2, f_M_order_16 (nI (bs (odQ (rV D W A U L P cs) P n) 8)) (nI (prS (rV D W A U L P cs) n)) (nI n) m1 = some (nI (prS (rV D W A U L P cs) P), m2) ∧ sm wFiM m m2 ∧ rM m2 (odL (rV D W A U L P cs) P P) := by
  have hP := g.2.1
  have g1 := gc.1
  intro i
  induction i with
  | zero =>
    intro n m1 hn hs hr
    have : n = P := by omega
    subst this
    have h1 : mineM m1 T n D W A U L := mineM_sm h hs (by intro a k; unfold dMM wFiM wTM; omega)
    refine ⟨m1, ?_, hs, hr⟩
    rw [e_M_order_16, h1.2.1]
    exact ifp (nI_le (Nat.le_refl _) (by omega))
  | succ i ih =>
    intro n m1 hn hs hr
    have h1 : mineM m1 T P D W A U L := mineM_sm h hs (by intro a k; unfold dMM wFiM wTM; omega)
    have hc1 := codeM_sm hc g1 hs (by intro a k; unfold dCM wFiM wTM; omega)
    have hb := bb_some (V := rV D W A U L P cs) (q := odQ (rV D W A U L P cs) P n) (P := P) (by rw [odQ_ct _ P n (by omega)]; omega)
    obtain ⟨m2, r2, s2⟩ := mo_30 h1 g hc1 gc (odQ (rV D W A U L P cs) P n) (nI (prS (rV D W A U L P cs) n)) (nI n) P 0 m1 (by omega) sm.rf
    have h2 : mineM m2 T P D W A U L := mineM_sm h1 s2 (by intro a k; unfold dMM w79; omega)
    have hc2 := codeM_sm hc1 g1 s2 (by intro a k; unfold dCM w79; omega)
    obtain ⟨m3, r3, hr3, s3⟩ := s_enters (pI (bb (rV D W A U L P cs) P (odQ (rV D W A U L P cs) P n))) (rM_sm hr s2 (by unfold w79; omega) (by intro k; unfold w79; omega)) (by rw [odL_len]; omega)
    have h3 : mineM m3 T P D W A U L := mineM_sm h2 s3 (by intro a k; unfold dMM wRM; omega)
    have hc3 := codeM_sm hc2 g1 s3 (by intro a k; unfold dCM wRM; omega)
    obtain ⟨m4, r4, s4⟩ := mo_100 h3 g hc3 gc (nI (bs (odQ (rV D W A U L P cs) P (n + 1)) 8)) (k := n) (acc := prS (rV D W A U L P cs) n) (by omega) n 0 m3 (by omega) sm.rf
    obtain ⟨m5, r5, s5, hr5⟩ := ih (n + 1) m4 (by omega) (((hs.tr (s2.mono (fun _ _ z => Or.inl z))).tr (s3.mono (by intro a k; unfold wRM wFiM wTM; omega))).tr (s4.mono (fun _ _ z => Or.inl z))) (by rw [odL_s]; exact rM_sm hr3 s4 (by unfold w79; omega) (by intro k; unfold w79; omega))
    refine ⟨m5, ?_, s5, hr5⟩
    rw [← r5, e_M_order_16, h1.2.1]
    refine (ifn (nI_ge (a := n) (b := P) (by omega) (by omega))).trans ?_
    refine Eq.trans (show f_M_order_30 _ _ _ (-1) 0 m1 = _ from r2) ?_
    rw [e_M_order_30, h2.2.1, hb.1]
    refine (ifp (nI_le (Nat.le_refl _) (by omega))).trans ?_
    show (f_M_enters (pI (bb (rV D W A U L P cs) P (odQ (rV D W A U L P cs) P n))) m2).bind (fun p1 => f_M_order_100 (nI (bs (odQ (rV D W A U L P cs) P n) 8) ||| 1 <<< (nI (bb (rV D W A U L P cs) P (odQ (rV D W A U L P cs) P n)) &&& 31)) _ _ 0 p1) = _
    rw [r3, Option.bind_some, bs_upB (by omega) (by omega), prS_s, ← odQ_s]
    exact r4
theorem M_order (h : mineM m T P D W A U L) (g : gMine T P D W A U L) (hc : codeM m cs) (gc : gCode cs) : ∃ m', sm wFiM m m' ∧ f_M_order m = some (nI (prS (rV D W A U L P cs) P), m') ∧ rM m' (odL (rV D W A U L P cs) P P) := by
  have s0 : sm wFiM m (jx_w1 (jx_w1 m 63 0 0) 63 1 0) := (sm_w1 (by unfold wFiM wTM; omega)).w1 (by unfold wFiM wTM; omega)
  have h1 : mineM (jx_w1 (jx_w1 m 63 0 0) 63 1 0) T P D W A U L := mineM_sm h s0 (by intro a k; unfold dMM wFiM wTM; omega)
  have hc1 := codeM_sm hc gc.1 s0 (by intro a k; unfold dCM wFiM wTM; omega)
  obtain ⟨m2, r2, s2, hr⟩ := mo_16 h1 g hc1 gc P 0 _ (by omega) sm.rf (rM_0 _)
  refine ⟨m2, s0.tr s2, ?_, hr⟩
  rw [e_M_order]
  exact r2
end ORDERM
