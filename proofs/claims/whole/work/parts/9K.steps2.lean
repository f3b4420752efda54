/-! more steps -/
section TELL2
variable {m : jx_Mem}
theorem T_loud (h : Inv m) (x : Int32) : Step2 (f_F_loud x) (f_M_loud x) m := by
  obtain ⟨P, h⟩ := h
  obtain ⟨T, D, W, A, U, L, gm, mF, mM⟩ := h.1
  exact stp_no h (F_loud mF gm x) (M_loud mM gm x)
theorem T_loudest (h : Inv m) : Step2 f_F_loudest f_M_loudest m := by
  obtain ⟨P, h⟩ := h
  obtain ⟨T, D, W, A, U, L, gm, mF, mM⟩ := h.1
  obtain ⟨m1, s1, e1, r1⟩ := F_loudest mF gm
  obtain ⟨m2, s2, e2, r2⟩ := M_loudest (mineM_lo mM (s1.mono (by intro a k; unfold wRF lowS; omega))) gm
  exact stp_row h (by simp) e1 s1 r1 e2 s2 r2 (fun _ _ z => sF_RF z) (fun _ _ z => sM_TM z)
theorem T_lasts (h : Inv m) : Step2 f_F_lasts f_M_lasts m := by
  obtain ⟨P, h⟩ := h
  obtain ⟨T, D, W, A, U, L, gm, mF, mM⟩ := h.1
  obtain ⟨Q, ga, aF, aM⟩ := h.2.2.2.2.2.1
  exact stp_no h (F_lasts mF gm aF ga) (M_lasts mM gm aM ga)
theorem T_leave (h : Inv m) : Step2 f_F_leave f_M_leave m := by
  obtain ⟨P, h⟩ := h
  obtain ⟨T, D, W, A, U, L, gm, mF, mM⟩ := h.1
  obtain ⟨Q, ga, aF, aM⟩ := h.2.2.2.2.2.1
  obtain ⟨m1, s1, e1, r1⟩ := F_leave mF gm aF ga
  have lo : sm lowS m m1 := s1.mono (by intro a k; unfold wRF lowS; omega)
  obtain ⟨m2, s2, e2, r2⟩ := M_leave (mineM_lo mM lo) gm (airM_lo aM lo) ga
  exact stp_row h (by rw [List.length_map]; have := lvR_len (fun p => D 0 (A p)) P (Q 1) (Q 2) P 0 (Q 0); have := gm.2.1; omega) e1 s1 r1 e2 s2 r2 (fun _ _ z => sF_RF z) (fun _ _ z => sM_TM z)
theorem T_sound (h : Inv m) (x y : Int32) : Step2 (f_F_sound x y) (f_M_sound x y) m := by
  obtain ⟨P, h⟩ := h
  obtain ⟨T, D, W, A, U, L, gm, mF, mM⟩ := h.1
  obtain ⟨m1, s1, ⟨c, d, e1, r1⟩ | ⟨c, d, e1, rfl⟩ | ⟨c, e1, rfl⟩⟩ := F_sound mF gm x y
  · obtain ⟨m2, s2, ⟨_, _, e2, r2⟩ | ⟨_, d', _⟩ | ⟨c', _⟩⟩ := M_sound (mineM_lo mM (s1.mono (by intro a k; unfold wRF lowS; omega))) gm x y
    · exact stp_row h (by simp) e1 s1 r1 e2 s2 r2 (fun _ _ z => sF_RF z) (fun _ _ z => sM_TM z)
    · exact absurd d d'
    · exact absurd c c'
  · obtain ⟨m2, s2, ⟨_, d', _⟩ | ⟨_, _, e2, rfl⟩ | ⟨c', _⟩⟩ := M_sound mM gm x y
    · exact absurd d' d
    · exact stp_no h e1 e2
    · exact absurd c c'
  · obtain ⟨m2, s2, ⟨c', _⟩ | ⟨c', _⟩ | ⟨_, e2, rfl⟩⟩ := M_sound mM gm x y
    · exact absurd c' c
    · exact absurd c' c
    · exact stp_no h e1 e2
theorem T_judge (h : Inv m) (x y z : Int32) : Step2 (f_F_judge x y z) (f_M_judge x y z) m := by
  obtain ⟨P, h⟩ := h
  obtain ⟨T, D, W, A, U, L, gm, mF, mM⟩ := h.1
  obtain ⟨E, ge, eF, eM⟩ := h.2.2.2.2.2.2.1
  obtain ⟨m1, s1, d1⟩ := F_judge mF gm eF ge x y z
  have lo : sm lowS m m1 := s1.mono (by intro a k; unfold wJF wRF lowS; omega)
  obtain ⟨m2, s2, d2⟩ := M_judge (mineM_lo mM lo) gm (earsM_lo eM lo) ge x y z
  rcases d1 with ⟨c, d1⟩ | ⟨c, e1, k1⟩
  · rcases d2 with ⟨_, d2⟩ | ⟨c', _⟩
    · rcases d1 with ⟨q, q1, e1, r1⟩ | ⟨q1, e1, k1⟩
      · rcases d2 with ⟨q', q2, e2, r2⟩ | ⟨q2, _⟩
        · rw [q1] at q2
          cases q2
          exact stp_row h (by unfold frL; simp) e1 s1 r1 e2 s2 r2 (fun _ _ z => z.elim (fun z => sF_c (by omega)) sF_RF) (fun _ _ z => sM_TM z)
        · rw [q1] at q2; cases q2
      · rcases d2 with ⟨q', q2, _⟩ | ⟨_, e2, k2⟩
        · rw [q1] at q2; cases q2
        · exact stp_scr h e1 k1 e2 (ZM := fun a k => a = 63 ∧ k = 0) (by rw [k2]; exact sm_w1 ⟨rfl, rfl⟩) (fun _ _ z => sX_F (by unfold w62 at z; omega)) (fun _ _ z => sX_63 (by omega))
    · exact absurd c c'
  · rcases d2 with ⟨c', _⟩ | ⟨_, e2, k2⟩
    · exact absurd c' c
    · subst k1
      subst k2
      exact stp_no h e1 e2
theorem T_who (h : Inv m) (x y z : Int32) : Step2 (f_F_who x y z) (f_M_who x y z) m := by
  obtain ⟨P, h⟩ := h
  obtain ⟨T, D, W, A, U, L, gm, mF, mM⟩ := h.1
  obtain ⟨E, ge, eF, eM⟩ := h.2.2.2.2.2.2.1
  obtain ⟨m1, s1, d1⟩ := F_who mF gm eF ge x y z
  have lo : sm lowS m m1 := s1.mono (by intro a k; unfold wJF wRF lowS; omega)
  obtain ⟨m2, s2, d2⟩ := M_who (mineM_lo mM lo) gm (earsM_lo eM lo) ge x y z
  rcases d1 with ⟨c, d1⟩ | ⟨c, e1, k1⟩
  · rcases d2 with ⟨_, d2⟩ | ⟨c', _⟩
    · rcases d1 with ⟨q, q1, e1, r1⟩ | ⟨q1, e1, k1⟩
      · rcases d2 with ⟨q', q2, e2, r2⟩ | ⟨q2, _⟩
        · rw [q1] at q2
          cases q2
          exact stp_row h (by unfold frL; simp) e1 s1 r1 e2 s2 r2 (fun _ _ z => z.elim (fun z => sF_c (by omega)) sF_RF) (fun _ _ z => sM_TM z)
        · rw [q1] at q2; cases q2
      · rcases d2 with ⟨q', q2, _⟩ | ⟨_, e2, k2⟩
        · rw [q1] at q2; cases q2
        · exact stp_scr h e1 k1 e2 (ZM := fun a k => a = 63 ∧ k = 0) (by rw [k2]; exact sm_w1 ⟨rfl, rfl⟩) (fun _ _ z => sX_F (by unfold w62 at z; omega)) (fun _ _ z => sX_63 (by omega))
    · exact absurd c c'
  · rcases d2 with ⟨c', _⟩ | ⟨_, e2, k2⟩
    · exact absurd c' c
    · subst k1
      subst k2
      exact stp_no h e1 e2
theorem T_missing (h : Inv m) (x : Int32) : Step2 (f_F_missing x) (f_M_missing x) m := by
  obtain ⟨P, h⟩ := h
  obtain ⟨c, gc, cF, cM⟩ := h.2.2.2.2.2.2.2.2.1
  obtain ⟨m1, s1, ⟨d, e1, r1⟩ | ⟨d, e1, rfl⟩⟩ := F_missing cF gc x
  · obtain ⟨m2, s2, ⟨_, e2, r2⟩ | ⟨d', _⟩⟩ := M_missing (cntM_lo cM (s1.mono (by intro a k; unfold wRF lowS; omega))) gc x
    · exact stp_row h (by unfold rowT; split <;> simp) e1 s1 r1 e2 s2 r2 (fun _ _ z => sF_RF z) (fun _ _ z => z.elim sM_Ft sM_TM)
    · exact absurd d d'
  · obtain ⟨m2, s2, ⟨d', _⟩ | ⟨_, e2, rfl⟩⟩ := M_missing cM gc x
    · exact absurd d' d
    · exact stp_no h e1 e2
theorem T_suspects (h : Inv m) (x y : Int32) : Step2 (f_F_suspects x y) (f_M_suspects x y) m := by
  obtain ⟨P, h⟩ := h
  obtain ⟨T, D, W, A, U, L, gm, mF, mM⟩ := h.1
  obtain ⟨c, gc, cF, cM⟩ := h.2.2.2.2.2.2.2.2.1
  obtain ⟨n, B, gb, bF, bM⟩ := h.2.2.1
  have e1 := F_suspects cF gc bF gb gm.2.1 x y
  obtain ⟨m2, s2, e2⟩ := M_suspects cM gc bM gb gm.2.1 x y
  exact stp_scr h e1 (ZF := fun _ _ => False) sm.rf e2 s2 (fun a k z => z.elim) (fun _ _ z => sX_Su z)
theorem T_gang (h : Inv m) : Step2 f_F_gang f_M_gang m := by
  obtain ⟨P, h⟩ := h
  obtain ⟨T, D, W, A, U, L, gm, mF, mM⟩ := h.1
  obtain ⟨c, gc, cF, cM⟩ := h.2.2.2.2.2.2.2.2.1
  obtain ⟨n, B, gb, bF, bM⟩ := h.2.2.1
  obtain ⟨m1, s1, d1⟩ := F_gang mF gm cF gc bF gb
  have lo : sm lowS m m1 := s1.mono (by intro a k; unfold wGgF wRF lowS; omega)
  obtain ⟨m2, s2, d2⟩ := M_gang (mineM_lo mM lo) gm (cntM_lo cM lo) gc (stayM_lo bM lo) gb
  rcases d1 with ⟨b, q1, e1, r1⟩ | ⟨q1, e1, k1⟩
  · rcases d2 with ⟨b', q2, e2, r2⟩ | ⟨q2, _⟩
    · rw [q1] at q2
      cases q2
      exact stp_row h (by simp) e1 s1 r1 e2 s2 r2 (fun _ _ z => z.elim (fun z => sF_c (by omega)) sF_RF) (fun _ _ z => z.elim sM_Ft sM_TM)
    · rw [q1] at q2; cases q2
  · rcases d2 with ⟨b', q2, _⟩ | ⟨_, e2, k2⟩
    · rw [q1] at q2; cases q2
    · exact stp_scr h e1 k1 e2 k2 (fun _ _ z => sX_F (by unfold w49 at z; omega)) (fun _ _ z => sX_Su z)
theorem T_hands (h : Inv m) : Step2 f_F_hands f_M_hands m := by
  obtain ⟨P, h⟩ := h
  obtain ⟨T, D, W, A, U, L, gm, mF, mM⟩ := h.1
  obtain ⟨n, B, gb, bF, bM⟩ := h.2.2.1
  obtain ⟨nc, X, gk, kF, kM⟩ := h.2.2.2.2.2.2.2.2.2.1
  obtain ⟨m1, s1, e1, r1, z1⟩ := F_hands mF gm bF gb kF gk h.2.2.2.2.2.2.2.2.2.2.2.2.1
  have lo : sm lowS m m1 := s1.mono (by intro a k; unfold wHdF wRF lowS; omega)
  obtain ⟨m2, s2, e2, r2, z2⟩ := M_hands (mineM_lo mM lo) gm (stayM_lo bM lo) gb (clkM_lo kM lo) gk (spM_lo h.2.2.2.2.2.2.2.2.2.2.2.2.2 lo)
  have hi : sm higS m1 m2 := s2.mono (by intro a k; unfold wHdM wGv wTM higS; omega)
  refine ⟨_, m1, m2, e1, e2, Inv_of (InvP_scr h ((s1.mono (fun _ _ z => z.elim (fun z => sc_50 z) (fun z => z.elim (fun z => (sF_c (by omega)).1) (fun z => (sF_RF z).1)))).tr (s2.mono (fun _ _ z => z.elim (fun z => sc_Gv z) (fun z => (sM_TM z).1)))) ⟨_, by rw [rowH_len]; have := gk.1; omega, rF_hi r1 hi, r2⟩ (zwF_hi z1 hi) z2)⟩
theorem T_crowds (h : Inv m) (x y : Int32) : Step2 (f_F_crowds x y) (f_M_crowds x y) m := by
  obtain ⟨P, h⟩ := h
  obtain ⟨T, D, W, A, U, L, gm, mF, mM⟩ := h.1
  obtain ⟨H, Y, V, gq, nF, nM⟩ := h.2.2.2.2.1
  obtain ⟨m1, s1, ⟨c, e1, r1⟩ | ⟨c, e1, rfl⟩⟩ := F_crowds mF gm nF gq x y
  · have lo : sm lowS m m1 := s1.mono (by intro a k; unfold wCrF wRF lowS; omega)
    obtain ⟨m2, s2, ⟨_, e2, r2⟩ | ⟨c', _⟩⟩ := M_crowds (mineM_lo mM lo) gm (noiseM_lo nM lo) gq x y
    · have hx : jn x ≤ 6 := lim_le (k := 6) ⟨by have := c.1.1; omega, c.1.2⟩
      exact stp_row h (by unfold rowC; split <;> simp; omega) e1 s1 r1 e2 s2 r2 (fun _ _ z => sF_Cr z) (fun _ _ z => z.elim (fun z => sM_c (by omega)) sM_TM)
    · exact absurd c c'
  · obtain ⟨m2, s2, ⟨c', _⟩ | ⟨_, e2, rfl⟩⟩ := M_crowds mM gm nM gq x y
    · exact absurd c' c
    · exact stp_no h e1 e2
theorem T_first (h : Inv m) (x y : Int32) : Step2 (f_F_first x y) (f_M_first x y) m := by
  obtain ⟨P, h⟩ := h
  obtain ⟨T, D, W, A, U, L, gm, mF, mM⟩ := h.1
  obtain ⟨cs, gc, cF, cM⟩ := h.2.2.2.2.2.2.2.2.2.2.1
  obtain ⟨m1, s1, ⟨c, e1, r1⟩ | ⟨c, e1, rfl⟩⟩ := F_first mF gm cF gc x y
  · have lo : sm lowS m m1 := s1.mono (by intro a k; unfold wFiF wRF lowS; omega)
    obtain ⟨m2, s2, ⟨_, e2, r2⟩ | ⟨c', _⟩⟩ := M_first (mineM_lo mM lo) gm (codeM_lo cM gc.1 lo) gc x y
    · exact stp_row h (by simp) e1 s1 r1 e2 s2 r2 (fun _ _ z => z.elim (fun z => sF_c (by omega)) sF_RF) (fun _ _ z => z.elim (fun z => sM_c (by omega)) sM_TM)
    · exact absurd c c'
  · obtain ⟨m2, s2, ⟨c', _⟩ | ⟨_, e2, rfl⟩⟩ := M_first mM gm cM gc x y
    · exact absurd c' c
    · exact stp_no h e1 e2
theorem T_order (h : Inv m) : Step2 f_F_order f_M_order m := by
  obtain ⟨P, h⟩ := h
  obtain ⟨T, D, W, A, U, L, gm, mF, mM⟩ := h.1
  obtain ⟨cs, gc, cF, cM⟩ := h.2.2.2.2.2.2.2.2.2.2.1
  obtain ⟨m1, s1, e1, r1⟩ := F_order mF gm cF gc
  have lo : sm lowS m m1 := s1.mono (by intro a k; unfold wOrF wRF lowS; omega)
  obtain ⟨m2, s2, e2, r2⟩ := M_order (mineM_lo mM lo) gm (codeM_lo cM gc.1 lo) gc
  exact stp_row h (by rw [odL_len]; have := gm.2.1; omega) e1 s1 r1 e2 s2 r2 (fun _ _ z => z.elim (fun z => sF_c (by omega)) (fun z => z.elim (fun z => sF_c (by omega)) sF_RF)) (fun _ _ z => z.elim (fun z => sM_c (by omega)) sM_TM)
theorem T_count (h : Inv m) (x : Int32) : Step2 (f_F_count x) (f_M_count x) m := by
  obtain ⟨P, h⟩ := h
  obtain ⟨T, D, W, A, U, L, gm, mF, mM⟩ := h.1
  obtain ⟨I, S, Gd, Ow, Sd, Y, Wn, wd, Pr, gi, iF, iM, ga, aF, aM⟩ := h.2.1
  obtain ⟨G, K, O, C, N, gg, gF, gM⟩ := h.2.2.2.1
  obtain ⟨tl, tx, gt, tF, tM⟩ := h.2.2.2.2.2.2.2.1
  obtain ⟨vs, hl, rF, rM⟩ := h.2.2.2.2.2.2.2.2.2.2.2.1
  exact stp_no h (F_count mF gm gF iF tF rF x) (M_count mM gm gM iM gi tM rM x)
end TELL2
