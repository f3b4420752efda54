/-! steps of trade, rule and lamp -/
section WRITE3
variable {m m1 m2 : jx_Mem} {P : Nat}
theorem T_want (h : Inv m) (x y z : Int32) : Step2 (f_F_want x y z) (f_M_want x y z) m := by
  obtain ⟨P, h⟩ := h
  obtain ⟨T, D, W, A, U, L, gm, mF, mM⟩ := h.1
  obtain ⟨I, S, Gd, Ow, Sd, Y, Wn, wd, Pr, gi, iF, iM, ga, aF, aM⟩ := h.2.1
  obtain ⟨G, K, O, C, N, gg, gF, gM⟩ := h.2.2.2.1
  obtain ⟨m1, s1, d1⟩ := F_want mF gm gF gg aF x y z
  have lo : sm lowS m m1 := s1.mono (by intro a k; unfold lowS; omega)
  obtain ⟨m2, s2, d2⟩ := M_want (mineM_lo mM lo) gm (goodsM_lo gM lo) gg (askM_lo aM lo) x y z
  have hi : sm higS m1 m2 := s2.mono (by intro a k; unfold higS; omega)
  have hs : sm (fun a k => (dIF a k ∨ dIM a k ∨ dKF a k ∨ dKM a k ∨ a = 35) ∨ (a = 63 ∧ k = 0)) m m2 := (s1.mono (by intro a k; unfold dKF; omega)).tr (s2.mono (by intro a k; unfold dKM; omega))
  rcases d1 with ⟨c, e1, f1⟩ | ⟨c, e1, k1⟩
  · rcases d2 with ⟨_, e2, f2⟩ | ⟨q, _⟩
    · have hz := jnB (x := z) (k := 99) c.2.2.1 c.2.2.2
      have cz := c.2.2.2
      have g2 : gAsk I (u2 Wn (jn x) (jn y) (jn z)) wd Pr := ⟨fun p g hp hg => (by
        unfold u2
        split
        · omega
        · exact ga.1 p g hp hg), ga.2⟩
      have iF1 : itemsF m1 I S Gd Ow Sd Y := itemsF_sm iF s1 (by intro a k; unfold dIF; omega)
      have iM2 : itemsM m2 I S Gd Ow Sd Y := itemsM_sm (itemsM_lo iM lo) s2 (by intro a k; unfold dIM; omega)
      exact ⟨_, m1, m2, e1, e2, Inv_of (Cs_it h hs ⟨I, S, Gd, Ow, Sd, Y, _, wd, Pr, gi, itemsF_hi iF1 hi, iM2, g2, askF_hi f1 gi.1 hi, f2⟩)⟩
    · exact absurd c q
  · rcases d2 with ⟨q, _⟩ | ⟨_, e2, k2⟩
    · exact absurd q c
    · subst k1
      subst k2
      exact stp_no h e1 e2
theorem T_wind (h : Inv m) (x : Int32) : Step2 (f_F_wind x) (f_M_wind x) m := by
  obtain ⟨P, h⟩ := h
  obtain ⟨I, S, Gd, Ow, Sd, Y, Wn, wd, Pr, gi, iF, iM, ga, aF, aM⟩ := h.2.1
  obtain ⟨m1, s1, d1⟩ := F_wind aF x
  have lo : sm lowS m m1 := s1.mono (by intro a k; unfold lowS; omega)
  obtain ⟨m2, s2, d2⟩ := M_wind (askM_lo aM lo) x
  have hi : sm higS m1 m2 := s2.mono (by intro a k; unfold higS; omega)
  have hs : sm (fun a k => (dIF a k ∨ dIM a k ∨ dKF a k ∨ dKM a k ∨ a = 35) ∨ (a = 63 ∧ k = 0)) m m2 := (s1.mono (by intro a k; unfold dKF; omega)).tr (s2.mono (by intro a k; unfold dKM; omega))
  rcases d1 with ⟨c, e1, f1⟩ | ⟨c, e1, k1⟩
  · rcases d2 with ⟨_, e2, f2⟩ | ⟨q, _⟩
    · have hz := jnB (x := x) (k := 20) (by have := c.1; omega) c.2
      have c1 := c.1
      have c2 := c.2
      have g2 : gAsk I Wn (jn x) Pr := ⟨ga.1, by omega, by omega, ga.2.2.2⟩
      have iF1 : itemsF m1 I S Gd Ow Sd Y := itemsF_sm iF s1 (by intro a k; unfold dIF; omega)
      have iM2 : itemsM m2 I S Gd Ow Sd Y := itemsM_sm (itemsM_lo iM lo) s2 (by intro a k; unfold dIM; omega)
      exact ⟨_, m1, m2, e1, e2, Inv_of (Cs_it h hs ⟨I, S, Gd, Ow, Sd, Y, _, _, Pr, gi, itemsF_hi iF1 hi, iM2, g2, askF_hi f1 gi.1 hi, f2⟩)⟩
    · exact absurd c q
  · rcases d2 with ⟨q, _⟩ | ⟨_, e2, k2⟩
    · exact absurd q c
    · subst k1
      subst k2
      exact stp_no h e1 e2
theorem T_item (h : Inv m) (x y z : Int32) : Step2 (f_F_item x y z) (f_M_item x y z) m := by
  obtain ⟨P, h⟩ := h
  obtain ⟨T, D, W, A, U, L, gm, mF, mM⟩ := h.1
  obtain ⟨I, S, Gd, Ow, Sd, Y, Wn, wd, Pr, gi, iF, iM, ga, aF, aM⟩ := h.2.1
  obtain ⟨G, K, O, C, N, gg, gF, gM⟩ := h.2.2.2.1
  obtain ⟨m1, s1, d1⟩ := F_item mF gm gF gg iF gi aF x y z
  have lo : sm lowS m m1 := s1.mono (by intro a k; unfold wItF lowS; omega)
  obtain ⟨m2, s2, d2⟩ := M_item (mineM_lo mM lo) gm (goodsM_lo gM lo) gg (itemsM_lo iM lo) gi (askM_lo aM lo) x y z
  have hi : sm higS m1 m2 := s2.mono (by intro a k; unfold wItM higS; omega)
  have hs : sm (fun a k => (dIF a k ∨ dIM a k ∨ dKF a k ∨ dKM a k ∨ a = 35) ∨ (a = 63 ∧ k = 0)) m m2 := (s1.mono (by intro a k; unfold wItF dIF; omega)).tr (s2.mono (by intro a k; unfold wItM dIM dKM; omega))
  rcases d1 with ⟨c, e1, f1, f1'⟩ | ⟨c, e1, k1⟩
  · rcases d2 with ⟨_, e2, f2, f2'⟩ | ⟨q, _⟩
    · obtain ⟨⟨x0, x1⟩, ⟨y0, y1⟩, ⟨z0, z1⟩, i12⟩ := c
      have G10 := gg.1
      have hx := jnB (x := x) (k := G) x0 (by omega)
      have hy := jnB (x := y) (k := P) y0 (by omega)
      have hz := jnB (x := z) (k := 99) z0 z1
      have g1 := gItems_item gi i12 (q := jn x) (p := jn y) (by omega) (by omega)
      have g2 : gAsk (I + 1) Wn wd (fun b => up (Pr b) I (jn z)) := ⟨ga.1, ga.2.1, ga.2.2.1, fun b i hb hi => (by
        show up (Pr b) I (jn z) i ≤ 99
        unfold up
        by_cases q : i = I
        · rw [if_pos q]; omega
        · rw [if_neg q]; exact ga.2.2.2 b i hb (by omega))⟩
      exact ⟨_, m1, m2, e1, e2, Inv_of (Cs_it h hs ⟨_, _, _, _, _, _, _, _, _, g1, itemsF_hi f1 hi, f2, g2, askF_hi f1' (by omega) hi, f2'⟩)⟩
    · exact absurd c q
  · rcases d2 with ⟨q, _⟩ | ⟨_, e2, k2⟩
    · exact absurd q c
    · subst k1
      subst k2
      exact stp_no h e1 e2
theorem T_rounds (h : Inv m) (x : Int32) : Step2 (f_F_rounds x) (f_M_rounds x) m := by
  obtain ⟨P, h⟩ := h
  obtain ⟨T, D, W, A, U, L, gm, mF, mM⟩ := h.1
  obtain ⟨I, S, Gd, Ow, Sd, Y, Wn, wd, Pr, gi, iF, iM, ga, aF, aM⟩ := h.2.1
  obtain ⟨m1, s1, d1⟩ := F_rounds mF gm iF gi aF ga x
  have lo : sm lowS m m1 := s1.mono (by intro a k; unfold wRdF wRd wRF lowS; omega)
  obtain ⟨m2, s2, d2⟩ := M_rounds (mineM_lo mM lo) gm (itemsM_lo iM lo) gi (askM_lo aM lo) ga x
  have hi : sm higS m1 m2 := s2.mono (by intro a k; unfold wRdM w856 wTM higS; omega)
  rcases d1 with ⟨c, e1, f1, r1⟩ | ⟨c, e1, k1⟩
  · rcases d2 with ⟨_, e2, f2, r2⟩ | ⟨q, _⟩
    · have iF1 : itemsF m1 I S Gd Ow Sd Y := itemsF_sm iF s1 (by intro a k; unfold dIF wRdF wRd wRF; omega)
      have iM2 : itemsM m2 I S Gd Ow Sd Y := itemsM_sm (itemsM_lo iM lo) s2 (by intro a k; unfold dIM wRdM w856 wTM; omega)
      have hs : sm (fun a k => (dIF a k ∨ dIM a k ∨ dKF a k ∨ dKM a k ∨ a = 35) ∨ wScr a k) m m2 := (s1.mono (fun a k z => z.elim (fun z => z.elim (fun z => Or.inl (by omega)) (fun z => Or.inr (sF_c (by omega)).1)) (fun z => Or.inr (sF_RF z).1))).tr (s2.mono (fun a k z => z.elim (fun z => z.elim (fun z => Or.inl (by unfold dKM; omega)) (fun z => Or.inr (sM_c (by omega)).1)) (fun z => Or.inr (sM_TM z).1)))
      refine ⟨_, m1, m2, e1, e2, Inv_of (Inv_it h hs ⟨I, S, Gd, Ow, Sd, Y, _, _, _, gi, itemsF_hi iF1 hi, iM2, gAsk_rd ga _ (jn x), askF_hi f1 gi.1 hi, f2⟩ ⟨_, by rw [rowA_len]; exact gi.1, rF_hi r1 hi, r2⟩ ?_ ?_)⟩
      · exact zwF_hi (zwF_sm h.2.2.2.2.2.2.2.2.2.2.2.2.1 s1 (by intro a k; unfold wRdF wRd wRF; omega)) hi
      · exact spM_sm (spM_lo h.2.2.2.2.2.2.2.2.2.2.2.2.2 lo) s2 (by intro a k; unfold wRdM w856 wTM; omega)
    · exact absurd c q
  · rcases d2 with ⟨q, _⟩ | ⟨_, e2, k2⟩
    · exact absurd q c
    · subst k1
      subst k2
      exact stp_no h e1 e2
theorem T_settles (h : Inv m) : Step2 f_F_settles f_M_settles m := by
  obtain ⟨P, h⟩ := h
  obtain ⟨T, D, W, A, U, L, gm, mF, mM⟩ := h.1
  obtain ⟨I, S, Gd, Ow, Sd, Y, Wn, wd, Pr, gi, iF, iM, ga, aF, aM⟩ := h.2.1
  obtain ⟨m1, s1, e1⟩ := F_settles mF gm iF gi aF ga
  have lo : sm lowS m m1 := s1.mono (by intro a k; unfold wSe lowS; omega)
  obtain ⟨m2, s2, e2, f2⟩ := M_settles (mineM_lo mM lo) gm (itemsM_lo iM lo) gi (askM_lo aM lo) ga
  have hi : sm higS m1 m2 := s2.mono (by intro a k; unfold wSeM higS; omega)
  have aF1 : askF m1 I Wn wd Pr := askF_sm aF gi.1 s1 (by intro a k; unfold dKF wSe; omega)
  have iF1 : itemsF m1 I S Gd Ow Sd Y := itemsF_sm iF s1 (by intro a k; unfold dIF wSe; omega)
  have iM2 : itemsM m2 I S Gd Ow Sd Y := itemsM_sm (itemsM_lo iM lo) s2 (by intro a k; unfold dIM wSeM; omega)
  have hs : sm (fun a k => wSe a k ∨ wSeM a k) m m2 := (s1.mono (fun _ _ z => Or.inl z)).tr (s2.mono (fun _ _ z => Or.inr z))
  obtain ⟨k1, k2, k3⟩ := keep3 h hs (by intro a k; unfold wSe wSeM wRF wRM; omega)
  refine ⟨_, m1, m2, e1, e2, Inv_of (Inv_it h (hs.mono ?_) ⟨I, S, Gd, Ow, Sd, Y, Wn, wd, Pr, gi, itemsF_hi iF1 hi, iM2, ga, askF_hi aF1 gi.1 hi, f2⟩ k1 k2 k3)⟩
  intro a k z
  unfold wSe wSeM at z
  rcases z with (z | z | z) | (z | z | z | z)
  · exact Or.inr (sF_c (by omega)).1
  · exact Or.inr (sF_c (by omega)).1
  · exact Or.inl (by omega)
  · exact Or.inl (by unfold dKM; omega)
  · exact Or.inr (sM_c (by omega)).1
  · exact Or.inr (sM_c (by omega)).1
  · exact Or.inr (sX_63 (by omega)).1
theorem T_buy (h : Inv m) (x y : Int32) : Step2 (f_F_buy x y) (f_M_buy x y) m := by
  obtain ⟨P, h⟩ := h
  obtain ⟨T, D, W, A, U, L, gm, mF, mM⟩ := h.1
  obtain ⟨I, S, Gd, Ow, Sd, Y, Wn, wd, Pr, gi, iF, iM, ga, aF, aM⟩ := h.2.1
  obtain ⟨m1, s1, d1⟩ := F_buy mF gm iF gi aF ga x y
  have lo : sm lowS m m1 := s1.mono (by intro a k; unfold wByF wNt lowS; omega)
  obtain ⟨m2, s2, d2⟩ := M_buy (mineM_lo mM lo) gm (itemsM_lo iM lo) gi (askM_lo aM lo) ga x y
  have hi : sm higS m1 m2 := s2.mono (by intro a k; unfold wByM higS; omega)
  have hs : sm (fun a k => (dMF a k ∨ dMM a k ∨ dIF a k ∨ dIM a k ∨ dKF a k ∨ dKM a k ∨ a = 35) ∨ (a = 63 ∧ k = 0)) m m2 := (s1.mono (by intro a k; unfold wByF wNt dMF dIF; omega)).tr (s2.mono (by intro a k; unfold wByM dMM dIM; omega))
  rcases d1 with ⟨c, e1, f1, f1'⟩ | ⟨c, ⟨v, e1, n1⟩, k1⟩
  · rcases d2 with ⟨_, e2, f2, f2'⟩ | ⟨q, _⟩
    · obtain ⟨⟨⟨x0, x1⟩, ⟨y0, y1⟩⟩, c1, c2, c3, c4⟩ := c
      have hx := jnB (x := x) (k := P) x0 (by omega)
      have hy := jnB (x := y) (k := I) y0 (by omega)
      have jx : jn x < P := by omega
      have jy : jn y < I := by omega
      have ow := (gi.2.2.1 (jn y) jy).2
      have u1 := (gm.2.2.2.2.2 (jn x) jx).2.1
      have u2 := (gm.2.2.2.2.2 (Ow (jn y)) ow).2.1
      have g1 := gItems_buy gi (i := jn y) (p := jn x) (a := U (Ow (jn y))) (b := U (jn x)) jy jx c1 c2 u2 u1
      have g2 : gMine T P D W A (bU U Ow Pr (jn x) (jn y)) L := gMine_purse (gMine_purse gm (by omega)) (by omega)
      have aF1 : askF m1 I Wn wd Pr := askF_sm aF gi.1 s1 (by intro a k; unfold dKF wByF wNt; omega)
      have aM2 : askM m2 I Wn wd Pr := askM_sm (askM_lo aM lo) s2 (by intro a k; unfold dKM wByM; omega)
      exact ⟨_, m1, m2, e1, e2, Inv_of (Cs_mt h hs ⟨_, _, _, _, _, _, g2, mineF_hi f1 hi, f2⟩ ⟨_, _, _, _, _, _, _, _, _, g1.2, itemsF_hi f1' hi, f2', ga, askF_hi aF1 gi.1 hi, aM2⟩)⟩
    · exact absurd c q
  · rcases d2 with ⟨q, _⟩ | ⟨_, ⟨v', e2, n2⟩, k2⟩
    · exact absurd q c
    · subst k1
      subst k2
      rw [noB_one n2 n1] at e2
      exact stp_no h e1 e2
theorem T_undo (h : Inv m) : Step2 f_F_undo f_M_undo m := by
  obtain ⟨P, h⟩ := h
  obtain ⟨T, D, W, A, U, L, gm, mF, mM⟩ := h.1
  obtain ⟨I, S, Gd, Ow, Sd, Y, Wn, wd, Pr, gi, iF, iM, ga, aF, aM⟩ := h.2.1
  obtain ⟨m1, s1, d1⟩ := F_undo mF gm iF gi
  have lo : sm lowS m m1 := s1.mono (by intro a k; unfold wByF wNt lowS; omega)
  obtain ⟨m2, s2, d2⟩ := M_undo (mineM_lo mM lo) gm (itemsM_lo iM lo) gi
  have hi : sm higS m1 m2 := s2.mono (by intro a k; unfold wByM higS; omega)
  have hs : sm (fun a k => (dMF a k ∨ dMM a k ∨ dIF a k ∨ dIM a k ∨ dKF a k ∨ dKM a k ∨ a = 35) ∨ (a = 63 ∧ k = 0)) m m2 := (s1.mono (by intro a k; unfold wByF wNt dMF dIF; omega)).tr (s2.mono (by intro a k; unfold wByM dMM dIM; omega))
  rcases d1 with ⟨s, q1, e1, f1, f1'⟩ | ⟨q1, e1, k1⟩
  · rcases d2 with ⟨s', q2, e2, f2, f2'⟩ | ⟨q2, _⟩
    · have : s' = s := by omega
      subst this
      subst q1
      have yb := gi.2.2.2.1 s' (by omega)
      have g1 := gItems_undo gi
      have g2 : gMine T P D W A (uU U Y s') L := gMine_purse (gMine_purse gm (by omega)) (by omega)
      have aF1 : askF m1 I Wn wd Pr := askF_sm aF gi.1 s1 (by intro a k; unfold dKF wByF wNt; omega)
      have aM2 : askM m2 I Wn wd Pr := askM_sm (askM_lo aM lo) s2 (by intro a k; unfold dKM wByM; omega)
      exact ⟨_, m1, m2, e1, e2, Inv_of (Cs_mt h hs ⟨_, _, _, _, _, _, g2, mineF_hi f1 hi, f2⟩ ⟨_, _, _, _, _, _, _, _, _, g1, itemsF_hi f1' hi, f2', ga, askF_hi aF1 gi.1 hi, aM2⟩)⟩
    · omega
  · rcases d2 with ⟨s', q2, _⟩ | ⟨_, e2, k2⟩
    · omega
    · subst k1
      subst k2
      exact stp_no h e1 e2
theorem T_lamp (h : Inv m) (x : Int32) : Step2 (f_F_lamp x) (f_M_lamp x) m := by
  obtain ⟨P, h⟩ := h
  obtain ⟨T, D, W, A, U, L, gm, mF, mM⟩ := h.1
  obtain ⟨I, S, Gd, Ow, Sd, Y, Wn, wd, Pr, gi, iF, iM, ga, aF, aM⟩ := h.2.1
  obtain ⟨Q, gq, qF, qM⟩ := h.2.2.2.2.2.1
  obtain ⟨m1, s1, d1⟩ := F_lamp mF gm iF gi aF ga qF gq x
  have lo : sm lowS m m1 := s1.mono (by intro a k; unfold wLF wRF lowS; omega)
  rcases d1 with ⟨c, c', e1, t1, r1⟩ | ⟨c, c', e1, t1, f1⟩ | ⟨c, e1, k1⟩
  · obtain ⟨m2, s2, d2⟩ := M_lamp (mineM_lo mM lo) gm (itemsM_lo iM lo) gi (askM_lo aM lo) ga (airM_lo qM lo) gq x
    rcases d2 with ⟨_, _, e2, t2, r2⟩ | ⟨_, q, _⟩ | ⟨q, _⟩
    · exact stp_row h (by unfold lampR; simp) e1 t1 r1 e2 t2 r2 (fun _ _ z => sF_RF z) (fun _ _ z => sM_TM z)
    · exact absurd c' q
    · exact absurd c q
  · obtain ⟨m2, s2, d2⟩ := M_lamp (mineM_lo mM lo) gm (itemsM_lo iM lo) gi (askM_lo aM lo) ga (airM_lo qM lo) gq x
    rcases d2 with ⟨_, q, _⟩ | ⟨_, _, e2, t2, f2⟩ | ⟨q, _⟩
    · exact absurd q c'
    · have hi : sm higS m1 m2 := t2.mono (by intro a k; unfold higS; omega)
      have hs : sm (fun a k => (dMF a k ∨ dMM a k) ∨ (a = 63 ∧ k = 0)) m m2 := (t1.mono (by intro a k; unfold dMF; omega)).tr (t2.mono (by intro a k; unfold dMM; omega))
      exact ⟨_, m1, m2, e1, e2, Inv_of (Cs_mi h hs ⟨_, _, _, _, _, _, gMine_drop gm, mineF_hi f1 hi, f2⟩)⟩
    · exact absurd c q
  · obtain ⟨m2, s2, d2⟩ := M_lamp (mineM_lo mM lo) gm (itemsM_lo iM lo) gi (askM_lo aM lo) ga (airM_lo qM lo) gq x
    rcases d2 with ⟨q, _⟩ | ⟨q, _⟩ | ⟨_, e2, k2⟩
    · exact absurd q c
    · exact absurd q c
    · subst k1
      subst k2
      exact stp_no h e1 e2
theorem T_rule (h : Inv m) : Step2 f_F_rule f_M_rule m := by
  obtain ⟨P, h⟩ := h
  obtain ⟨tl, tx, gt, tF, tM⟩ := h.2.2.2.2.2.2.2.1
  obtain ⟨cs, gc, cF, cM⟩ := h.2.2.2.2.2.2.2.2.2.2.1
  obtain ⟨m1, s1, _, d1⟩ := F_rule tF gt cF
  have lo : sm lowS m m1 := s1.mono (by intro a k; unfold wRuF wRu lowS; omega)
  have ex : ∃ v, f_F_rule m = some (v, m1) := by
    rcases d1 with ⟨_, e, _⟩ | ⟨_, q, _, e, _⟩ | ⟨_, _, o, _, e, _⟩ | ⟨_, o, _, e, _⟩
    · exact ⟨_, e⟩
    · exact ⟨_, e⟩
    · exact ⟨_, e⟩
    · exact ⟨_, e⟩
  obtain ⟨v0, e0⟩ := ex
  obtain ⟨v, m1', m2, cs', g', e1, e2, t1, t2, a1, a2, a3, a4⟩ := rule_both tF (textM_lo tM lo) gt cF (codeM_lo cM gc.1 lo) gc
  have em : m1' = m1 := by
    rw [e0] at e1
    cases e1
    rfl
  subst em
  have hi : sm higS m1' m2 := t2.mono (by intro a k; unfold wRuM higS; omega)
  have hs : sm (fun a k => wRuF a k ∨ wRuM a k) m m2 := (t1.mono (fun _ _ z => Or.inl z)).tr (t2.mono (fun _ _ z => Or.inr z))
  obtain ⟨k1, k2, k3⟩ := keep3 h hs (by intro a k; unfold wRuF wRu wRuM wRF wRM; omega)
  refine ⟨v, m1', m2, e1, e2, Inv_of (Inv_co h (hs.mono ?_) ⟨cs', g', codeF_hi a3 hi, a4⟩ ⟨0, tx, ⟨by omega, gt.2⟩, textF_hi a1 hi, a2⟩ k1 k2 k3)⟩
  intro a k z
  by_cases c : a = 63 ∧ k = 0
  · exact Or.inr (sX_63 (by omega)).1
  · refine Or.inl ?_
    unfold wRuF wRuM at z
    rcases z with (z | z | z) | (z | z | z)
    · exact Or.inr (Or.inr (Or.inr (Or.inr (Or.inl z))))
    · unfold dCF dTF; omega
    · unfold dCF; omega
    · unfold dTM; omega
    · omega
    · omega
end WRITE3
