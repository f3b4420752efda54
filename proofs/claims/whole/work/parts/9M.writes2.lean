/-! steps of the methods that write, the rest -/
section WRITE2
variable {m m1 m2 : jx_Mem} {P : Nat}
theorem Ot_mi (h : InvP P m) (hs : sm (fun a k => (dMF a k ∨ dMM a k) ∨ (a = 63 ∧ k = 0)) m m2) : itI P m2 ∧ stI P m2 ∧ goI m2 ∧ noI m2 ∧ aiI m2 ∧ eaI m2 ∧ txI m2 ∧ ctI m2 ∧ ckI m2 ∧ coI m2 ∧ roI m2 ∧ zwF m2 ∧ spM m2 := by
  obtain ⟨k1, k2, k3⟩ := keep3 h hs (by intro a k; unfold dMF dMM wRF wRM; omega)
  obtain ⟨mi, it, st, go, no, ai, ea, tx, ct, ck, co, ro, zw, sp⟩ := h
  refine ⟨itI_sm it hs ?_, stI_sm st hs ?_, goI_sm go hs ?_, noI_sm no hs ?_, aiI_sm ai hs ?_, eaI_sm ea hs ?_, txI_sm tx hs ?_, ctI_sm ct hs ?_, ckI_sm ck hs ?_, coI_sm co hs ?_, k1, k2, k3⟩
  · intro a k; unfold dIF dIM dKF dKM dMF dMM; omega
  · intro a k; unfold dsW dMF dMM; omega
  · intro a k; unfold dGF dGM dMF dMM; omega
  · intro a k; unfold dNF dNM dMF dMM; omega
  · intro a k; unfold dAF dAM dMF dMM; omega
  · intro a k; unfold dMF dMM; omega
  · intro a k; unfold dTF dTM dMF dMM; omega
  · intro a k; unfold dcW dMF dMM; omega
  · intro a k; unfold dkW dMF dMM; omega
  · intro a k; unfold dCF dCM dMF dMM; omega
theorem T_tunnel (h : Inv m) (x y z : Int32) : Step2 (f_F_tunnel x y z) (f_M_tunnel x y z) m := by
  obtain ⟨P, h⟩ := h
  obtain ⟨T, D, W, A, U, L, gm, mF, mM⟩ := h.1
  obtain ⟨m1, e1, d1, s1⟩ := F_tunnel mF gm x y z
  have lo : sm lowS m m1 := s1.mono (by intro a k; unfold lowS; omega)
  obtain ⟨m2, e2, d2, s2⟩ := M_tunnel (mineM_lo mM lo) gm x y z
  have hi : sm higS m1 m2 := s2.mono (by intro a k; unfold higS; omega)
  have hs : sm (fun a k => (dMF a k ∨ dMM a k) ∨ (a = 63 ∧ k = 0)) m m2 := (s1.mono (by intro a k; unfold dMF; omega)).tr (s2.mono (by intro a k; unfold dMM; omega))
  refine ⟨_, m1, m2, e1, e2, Inv_of (Cs_mi h hs ?_)⟩
  by_cases c : ((0 ≤ x.toInt ∧ x.toInt < 10) ∧ (0 ≤ y.toInt ∧ y.toInt < 10)) ∧ x ≠ y ∧ (1 ≤ z.toInt ∧ z.toInt ≤ 20) ∧ T < 16
  · rw [if_pos c] at d1 d2
    have hx := jnB (x := x) (k := 10) c.1.1.1 (by have := c.1.1.2; omega)
    have hy := jnB (x := y) (k := 10) c.1.2.1 (by have := c.1.2.2; omega)
    have hz := jnB (x := z) (k := 20) (by have := c.2.2.1.1; omega) c.2.2.1.2
    have cx := c.1.1.2
    have cy := c.1.2.2
    have cz := c.2.2.1.1
    have g2 : gMine (T + 1) P (nd D (jn x) (jn y) (jn z)) W A U L := ⟨by have := c.2.2.2; omega, gm.2.1, nd_dist gm.2.2.1 (by omega) (by omega) (by omega), nd_tri gm.2.2.1 gm.2.2.2.1 (by omega) (by omega), gm.2.2.2.2.1, gm.2.2.2.2.2⟩
    exact ⟨_, _, _, _, _, _, g2, mineF_hi d1 hi, d2⟩
  · rw [if_neg c] at d1 d2
    subst d1
    exact ⟨_, _, _, _, _, _, gm, mineF_hi mF hi, d2⟩
theorem T_wall (h : Inv m) (x v : Int32) : Step2 (f_F_wall x v) (f_M_wall x v) m := by
  obtain ⟨P, h⟩ := h
  obtain ⟨T, D, W, A, U, L, gm, mF, mM⟩ := h.1
  obtain ⟨m1, e1, d1, s1⟩ := F_wall mF x v
  have lo : sm lowS m m1 := s1.mono (by intro a k; unfold lowS; omega)
  obtain ⟨m2, e2, d2, s2⟩ := M_wall (mineM_lo mM lo) x v
  have hi : sm higS m1 m2 := s2.mono (by intro a k; unfold higS; omega)
  have hs : sm (fun a k => (dMF a k ∨ dMM a k) ∨ (a = 63 ∧ k = 0)) m m2 := (s1.mono (by intro a k; unfold dMF; omega)).tr (s2.mono (by intro a k; unfold dMM; omega))
  refine ⟨_, m1, m2, e1, e2, Inv_of (Cs_mi h hs ⟨_, _, _, _, _, _, ⟨gm.1, gm.2.1, gm.2.2.1, gm.2.2.2.1, ?_, gm.2.2.2.2.2⟩, mineF_hi d1 hi, d2⟩)⟩
  intro i hi
  by_cases c : (0 ≤ x.toInt ∧ x.toInt < 10) ∧ 0 ≤ v.toInt ∧ v.toInt ≤ 20
  · rw [if_pos c]
    have hv := jnB (x := v) (k := 20) c.2.1 c.2.2
    have cv := c.2.2
    unfold up
    split
    · omega
    · exact gm.2.2.2.2.1 i hi
  · rw [if_neg c]
    exact gm.2.2.2.2.1 i hi
theorem T_person (h : Inv m) (x y z : Int32) : Step2 (f_F_person x y z) (f_M_person x y z) m := by
  obtain ⟨P, h⟩ := h
  obtain ⟨T, D, W, A, U, L, gm, mF, mM⟩ := h.1
  obtain ⟨m1, s1, d1⟩ := F_person mF gm x y z
  have lo : sm lowS m m1 := s1.mono (by intro a k; unfold lowS; omega)
  obtain ⟨m2, s2, d2⟩ := M_person (mineM_lo mM lo) gm x y z
  have hi : sm higS m1 m2 := s2.mono (by intro a k; unfold higS; omega)
  have hs : sm (fun a k => (dMF a k ∨ dMM a k) ∨ (a = 63 ∧ k = 0)) m m2 := (s1.mono (by intro a k; unfold dMF; omega)).tr (s2.mono (by intro a k; unfold dMM; omega))
  rcases d1 with ⟨c, e1, f1⟩ | ⟨c, e1, rfl⟩
  · rcases d2 with ⟨_, e2, f2⟩ | ⟨q, _⟩
    · have hx := jnB (x := x) (k := 10) c.1.1 (by have := c.1.2; omega)
      have hy := jnB (x := y) (k := 999) c.2.1.1 c.2.1.2
      have hz := jnB (x := z) (k := 9) c.2.2.1.1 c.2.2.1.2
      have cx := c.1.2
      have cy := c.2.1.2
      have cz := c.2.2.1.2
      have g2 : gMine T (P + 1) D W (up A P (jn x)) (up U P (jn y)) (up L P (jn z)) := ⟨gm.1, by have := c.2.2.2; omega, gm.2.2.1, gm.2.2.2.1, gm.2.2.2.2.1, fun p hp => (by
        unfold up
        by_cases q : p = P
        · rw [if_pos q, if_pos q, if_pos q]; omega
        · rw [if_neg q, if_neg q, if_neg q]; exact gm.2.2.2.2.2 p (by omega))⟩
      obtain ⟨⟨I, S, Gd, Ow, Sd, Y, Wn, wd, Pr, gi, rest⟩, ⟨n, B, gb, rest2⟩, rest3⟩ := Ot_mi h hs
      refine ⟨_, m1, m2, e1, e2, P + 1, ⟨_, _, _, _, _, _, g2, mineF_hi f1 hi, f2⟩, ⟨I, S, Gd, Ow, Sd, Y, Wn, wd, Pr, gItems_P gi (by omega), rest⟩, ⟨n, B, ⟨gb.1, fun k hk => ?_⟩, rest2⟩, rest3⟩
      have := gb.2 k hk
      omega
    · exact absurd c q
  · rcases d2 with ⟨q, _⟩ | ⟨_, e2, f2⟩
    · exact absurd q c
    · exact ⟨_, _, m2, e1, e2, Inv_of (Cs_mi h hs ⟨_, _, _, _, _, _, gm, mineF_hi mF hi, f2⟩)⟩
theorem T_walk (h : Inv m) (x y : Int32) : Step2 (f_F_walk x y) (f_M_walk x y) m := by
  obtain ⟨P, h⟩ := h
  obtain ⟨T, D, W, A, U, L, gm, mF, mM⟩ := h.1
  obtain ⟨m1, s1, d1⟩ := F_walk mF gm x y
  have lo : sm lowS m m1 := s1.mono (by intro a k; unfold lowS; omega)
  obtain ⟨m2, s2, d2⟩ := M_walk (mineM_lo mM lo) gm x y
  have hi : sm higS m1 m2 := s2.mono (by intro a k; unfold higS; omega)
  have hs : sm (fun a k => (dMF a k ∨ dMM a k) ∨ (a = 63 ∧ k = 0)) m m2 := (s1.mono (by intro a k; unfold dMF; omega)).tr (s2.mono (by intro a k; unfold dMM; omega))
  rcases d1 with ⟨c, c', e1, f1⟩ | ⟨c, c', e1, rfl⟩ | ⟨c, e1, rfl⟩
  · rcases d2 with ⟨_, _, e2, f2⟩ | ⟨_, q, _⟩ | ⟨q, _⟩
    · have hy := jnB (x := y) (k := 10) c.2.1 (by have := c.2.2; omega)
      have cy := c.2.2
      have g2 : gMine T P D W (up A (jn x) (jn y)) U L := ⟨gm.1, gm.2.1, gm.2.2.1, gm.2.2.2.1, gm.2.2.2.2.1, fun p hp => (by
        have := gm.2.2.2.2.2 p hp
        unfold up
        split
        · exact ⟨by omega, this.2⟩
        · exact this)⟩
      exact ⟨_, m1, m2, e1, e2, Inv_of (Cs_mi h hs ⟨_, _, _, _, _, _, g2, mineF_hi f1 hi, f2⟩)⟩
    · exact absurd c' q
    · exact absurd c q
  · rcases d2 with ⟨_, q, _⟩ | ⟨_, _, e2, f2⟩ | ⟨q, _⟩
    · exact absurd q c'
    · exact ⟨_, _, m2, e1, e2, Inv_of (Cs_mi h hs ⟨_, _, _, _, _, _, gm, mineF_hi mF hi, f2⟩)⟩
    · exact absurd c q
  · rcases d2 with ⟨q, _⟩ | ⟨q, _⟩ | ⟨_, e2, f2⟩
    · exact absurd q c
    · exact absurd q c
    · exact ⟨_, _, m2, e1, e2, Inv_of (Cs_mi h hs ⟨_, _, _, _, _, _, gm, mineF_hi mF hi, f2⟩)⟩
theorem T_sign (h : Inv m) (x : Int32) : Step2 (f_F_sign x) (f_M_sign x) m := by
  obtain ⟨P, h⟩ := h
  obtain ⟨tl, tx, gt, tF, tM⟩ := h.2.2.2.2.2.2.2.1
  obtain ⟨m1, s1, d1⟩ := F_sign tF gt x
  have lo : sm lowS m m1 := s1.mono (by intro a k; unfold wSgF lowS; omega)
  obtain ⟨m2, s2, d2⟩ := M_sign (textM_lo tM lo) gt x
  have hi : sm higS m1 m2 := s2.mono (by intro a k; unfold wSgM higS; omega)
  have hs : sm (fun a k => (dTF a k ∨ dTM a k) ∨ (a = 63 ∧ k = 0)) m m2 := (s1.mono (by intro a k; unfold wSgF dTF; omega)).tr (s2.mono (by intro a k; unfold wSgM dTM; omega))
  rcases d1 with ⟨c, e1, f1⟩ | ⟨c, e1, k1⟩
  · rcases d2 with ⟨_, e2, f2⟩ | ⟨q, _⟩
    · exact ⟨_, m1, m2, e1, e2, Inv_of (Cs_tx h hs ⟨_, _, gText_ap gt x c, textF_hi f1 hi, f2⟩)⟩
    · exact absurd c q
  · rcases d2 with ⟨q, _⟩ | ⟨_, e2, k2⟩
    · exact absurd q c
    · subst k1
      subst k2
      exact stp_no h e1 e2
theorem T_end (h : Inv m) (x : Int32) : Step2 (f_F_end x) (f_M_end x) m := by
  obtain ⟨P, h⟩ := h
  obtain ⟨tl, tx, gt, tF, tM⟩ := h.2.2.2.2.2.2.2.1
  obtain ⟨m1, s1, d1⟩ := F_end tF gt x
  have lo : sm lowS m m1 := s1.mono (by intro a k; unfold wSgF lowS; omega)
  obtain ⟨m2, s2, d2⟩ := M_end (textM_lo tM lo) gt x
  have hi : sm higS m1 m2 := s2.mono (by intro a k; unfold wSgM higS; omega)
  have hs : sm (fun a k => (dTF a k ∨ dTM a k) ∨ (a = 63 ∧ k = 0)) m m2 := (s1.mono (by intro a k; unfold wSgF dTF; omega)).tr (s2.mono (by intro a k; unfold wSgM dTM; omega))
  rcases d1 with ⟨c, e1, f1⟩ | ⟨c, e1, k1⟩
  · rcases d2 with ⟨_, e2, f2⟩ | ⟨q, _⟩
    · have hx := jnB (x := x) (k := tl) c.1 c.2
      have cx := c.2
      have g1 := gt.1
      exact ⟨_, m1, m2, e1, e2, Inv_of (Cs_tx h hs ⟨_, _, ⟨by omega, gt.2⟩, textF_hi f1 hi, f2⟩)⟩
    · exact absurd c q
  · rcases d2 with ⟨q, _⟩ | ⟨_, e2, k2⟩
    · exact absurd q c
    · subst k1
      subst k2
      exact stp_no h e1 e2
theorem T_counted (h : Inv m) (x y z : Int32) : Step2 (f_F_counted x y z) (f_M_counted x y z) m := by
  obtain ⟨P, h⟩ := h
  obtain ⟨l, gt, tF, tM⟩ := h.2.2.2.2.2.2.2.2.1
  obtain ⟨m1, s1, d1⟩ := F_counted tF gt x y z
  have lo : sm lowS m m1 := s1.mono (by intro a k; unfold wCtF lowS; omega)
  obtain ⟨m2, s2, d2⟩ := M_counted (cntM_lo tM lo) gt x y z
  have hi : sm higS m1 m2 := s2.mono (by intro a k; unfold wCtM higS; omega)
  have hs : sm (fun a k => (dcW a k) ∨ (a = 63 ∧ k = 0)) m m2 := (s1.mono (by intro a k; unfold wCtF dcW; omega)).tr (s2.mono (by intro a k; unfold wCtM dcW; omega))
  rcases d1 with ⟨c, e1, f1⟩ | ⟨c, e1, k1⟩
  · rcases d2 with ⟨_, e2, f2⟩ | ⟨q, _⟩
    · have hx := jnB (x := x) (k := 10) c.1.1 (by have := c.1.2; omega)
      have hy := jnB (x := y) (k := 999) c.2.1.1 c.2.1.2
      have hz := jnB (x := z) (k := 99) c.2.2.1.1 c.2.2.1.2
      have cx := c.1.2
      have cy := c.2.1.2
      have cz := c.2.2.1.2
      have g2 : gCnt (l ++ [(jn x, jn y, jn z)]) := ⟨by rw [List.length_append]; have := c.2.2.2; simp; omega, fun q hq => (by
        rcases List.mem_append.mp hq with w | w
        · exact gt.2 q w
        · rw [List.mem_singleton.mp w]
          exact ⟨by show jn x < 10; omega, by show jn y ≤ 999; omega, by show jn z ≤ 99; omega⟩)⟩
      exact ⟨_, m1, m2, e1, e2, Inv_of (Cs_ct h hs ⟨_, g2, cntF_hi f1 hi, f2⟩)⟩
    · exact absurd c q
  · rcases d2 with ⟨q, _⟩ | ⟨_, e2, k2⟩
    · exact absurd q c
    · subst k1
      subst k2
      exact stp_no h e1 e2
theorem T_been (h : Inv m) (x y z w : Int32) : Step2 (f_F_been x y z w) (f_M_been x y z w) m := by
  obtain ⟨P, h⟩ := h
  obtain ⟨T, D, W, A, U, L, gm, mF, mM⟩ := h.1
  obtain ⟨n, B, gt, tF, tM⟩ := h.2.2.1
  obtain ⟨m1, s1, d1⟩ := F_been mF gm tF gt x y z w
  have lo : sm lowS m m1 := s1.mono (by intro a k; unfold wBnF lowS; omega)
  obtain ⟨m2, s2, d2⟩ := M_been (mineM_lo mM lo) gm (stayM_lo tM lo) gt x y z w
  have hi : sm higS m1 m2 := s2.mono (by intro a k; unfold wBnM higS; omega)
  have hs : sm (fun a k => (dsW a k) ∨ (a = 63 ∧ k = 0)) m m2 := (s1.mono (by intro a k; unfold wBnF dsW; omega)).tr (s2.mono (by intro a k; unfold wBnM dsW; omega))
  rcases d1 with ⟨c, e1, f1⟩ | ⟨c, e1, k1⟩
  · rcases d2 with ⟨_, e2, f2⟩ | ⟨q, _⟩
    · obtain ⟨⟨x0, x1⟩, ⟨y0, y1⟩, ⟨z0, z1⟩, ⟨w0, w1⟩, n20⟩ := c
      have hx := jnB (x := x) (k := P) x0 (by omega)
      have hy := jnB (x := y) (k := 10) y0 (by omega)
      have hz := jnB (x := z) (k := 999) z0 z1
      have hw := jnB (x := w) (k := 999) (by omega) w1
      have g2 : gStay P (n + 1) (upT B n (jn x) (jn y) (jn z) (jn w)) := ⟨by omega, fun k hk => (by
        unfold upT
        by_cases q : k = n
        · rw [if_pos q, if_pos q, if_pos q, if_pos q]
          exact ⟨by show jn x < P; omega, by show jn y < 10; omega, by show jn z ≤ 999; omega, by show jn w ≤ 999; omega⟩
        · rw [if_neg q, if_neg q, if_neg q, if_neg q]
          exact gt.2 k (by omega))⟩
      exact ⟨_, m1, m2, e1, e2, Inv_of (Cs_st h hs ⟨_, _, g2, stayF_hi f1 hi, f2⟩)⟩
    · exact absurd c q
  · rcases d2 with ⟨q, _⟩ | ⟨_, e2, k2⟩
    · exact absurd q c
    · subst k1
      subst k2
      exact stp_no h e1 e2
theorem T_clink (h : Inv m) (x y z : Int32) : Step2 (f_F_clink x y z) (f_M_clink x y z) m := by
  obtain ⟨P, h⟩ := h
  obtain ⟨n, X, gt, tF, tM⟩ := h.2.2.2.2.2.2.2.2.2.1
  obtain ⟨m1, s1, d1⟩ := F_clink tF gt x y z
  have lo : sm lowS m m1 := s1.mono (by intro a k; unfold wCkF lowS; omega)
  obtain ⟨m2, s2, d2⟩ := M_clink (clkM_lo tM lo) gt x y z
  have hi : sm higS m1 m2 := s2.mono (by intro a k; unfold wCkM higS; omega)
  have hs : sm (fun a k => (dkW a k) ∨ (a = 63 ∧ k = 0)) m m2 := (s1.mono (by intro a k; unfold wCkF dkW; omega)).tr (s2.mono (by intro a k; unfold wCkM dkW; omega))
  rcases d1 with ⟨c, e1, f1⟩ | ⟨c, e1, k1⟩
  · rcases d2 with ⟨_, e2, f2⟩ | ⟨q, _⟩
    · obtain ⟨⟨x0, x1⟩, ⟨y0, y1⟩, ⟨z0, z1⟩, n6⟩ := c
      have hx := jnB (x := x) (k := 10) x0 (by omega)
      have hy := jnB (x := y) (k := 999) y0 (by omega)
      have hz := jnB (x := z) (k := 99) (by omega) z1
      have g2 : gClk (n + 1) (upT X n (jn x) (jn y) (jn z) 0) := ⟨by omega, fun k hk => (by
        unfold upT
        by_cases q : k = n
        · rw [if_pos q, if_pos q, if_pos q]
          exact ⟨by show jn x < 10; omega, by show jn y ≤ 999; omega, by show 1 ≤ jn z; omega, by show jn z ≤ 99; omega⟩
        · rw [if_neg q, if_neg q, if_neg q]
          exact gt.2 k (by omega))⟩
      exact ⟨_, m1, m2, e1, e2, Inv_of (Cs_ck h hs ⟨_, _, g2, clkF_hi f1 hi, f2⟩)⟩
    · exact absurd c q
  · rcases d2 with ⟨q, _⟩ | ⟨_, e2, k2⟩
    · exact absurd q c
    · subst k1
      subst k2
      exact stp_no h e1 e2
end WRITE2
