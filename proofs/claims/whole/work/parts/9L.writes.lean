/-! steps of the methods that write -/
theorem jnB {x : Int32} {k : Nat} (h0 : 0 ≤ x.toInt) (h1 : x.toInt ≤ (k : Int)) : (jn x : Int) = x.toInt := lim_jn (k := k) ⟨h0, h1⟩
section WRITE
variable {m m1 m2 : jx_Mem} {P : Nat}
theorem Cs_mi (h : InvP P m) (hs : sm (fun a k => (dMF a k ∨ dMM a k) ∨ (a = 63 ∧ k = 0)) m m2) (hg : miI P m2) : InvP P m2 := by
  obtain ⟨k1, k2, k3⟩ := keep3 h hs (by intro a k; unfold dMF dMM wRF wRM; omega)
  exact Inv_mi h (hs.mono (fun a k z => z.elim Or.inl (fun z => Or.inr ((sX_63 (by omega)).1)))) hg k1 k2 k3
theorem Cs_it (h : InvP P m) (hs : sm (fun a k => (dIF a k ∨ dIM a k ∨ dKF a k ∨ dKM a k ∨ a = 35) ∨ (a = 63 ∧ k = 0)) m m2) (hg : itI P m2) : InvP P m2 := by
  obtain ⟨k1, k2, k3⟩ := keep3 h hs (by intro a k; unfold dIF dIM dKF dKM wRF wRM; omega)
  exact Inv_it h (hs.mono (fun a k z => z.elim Or.inl (fun z => Or.inr ((sX_63 (by omega)).1)))) hg k1 k2 k3
theorem Cs_st (h : InvP P m) (hs : sm (fun a k => (dsW a k) ∨ (a = 63 ∧ k = 0)) m m2) (hg : stI P m2) : InvP P m2 := by
  obtain ⟨k1, k2, k3⟩ := keep3 h hs (by intro a k; unfold dsW wRF wRM; omega)
  exact Inv_st h (hs.mono (fun a k z => z.elim Or.inl (fun z => Or.inr ((sX_63 (by omega)).1)))) hg k1 k2 k3
theorem Cs_go (h : InvP P m) (hs : sm (fun a k => (dGF a k ∨ dGM a k) ∨ (a = 63 ∧ k = 0)) m m2) (hg : goI m2) : InvP P m2 := by
  obtain ⟨k1, k2, k3⟩ := keep3 h hs (by intro a k; unfold dGF dGM wRF wRM; omega)
  exact Inv_go h (hs.mono (fun a k z => z.elim Or.inl (fun z => Or.inr ((sX_63 (by omega)).1)))) hg k1 k2 k3
theorem Cs_no (h : InvP P m) (hs : sm (fun a k => (dNF a k ∨ dNM a k) ∨ (a = 63 ∧ k = 0)) m m2) (hg : noI m2) : InvP P m2 := by
  obtain ⟨k1, k2, k3⟩ := keep3 h hs (by intro a k; unfold dNF dNM wRF wRM; omega)
  exact Inv_no h (hs.mono (fun a k z => z.elim Or.inl (fun z => Or.inr ((sX_63 (by omega)).1)))) hg k1 k2 k3
theorem Cs_ai (h : InvP P m) (hs : sm (fun a k => (dAF a k ∨ dAM a k) ∨ (a = 63 ∧ k = 0)) m m2) (hg : aiI m2) : InvP P m2 := by
  obtain ⟨k1, k2, k3⟩ := keep3 h hs (by intro a k; unfold dAF dAM wRF wRM; omega)
  exact Inv_ai h (hs.mono (fun a k z => z.elim Or.inl (fun z => Or.inr ((sX_63 (by omega)).1)))) hg k1 k2 k3
theorem Cs_ea (h : InvP P m) (hs : sm (fun a k => (a = 61 ∨ a = 108) ∨ (a = 63 ∧ k = 0)) m m2) (hg : eaI m2) : InvP P m2 := by
  obtain ⟨k1, k2, k3⟩ := keep3 h hs (by intro a k; unfold wRF wRM; omega)
  exact Inv_ea h (hs.mono (fun a k z => z.elim Or.inl (fun z => Or.inr ((sX_63 (by omega)).1)))) hg k1 k2 k3
theorem Cs_tx (h : InvP P m) (hs : sm (fun a k => (dTF a k ∨ dTM a k) ∨ (a = 63 ∧ k = 0)) m m2) (hg : txI m2) : InvP P m2 := by
  obtain ⟨k1, k2, k3⟩ := keep3 h hs (by intro a k; unfold dTF dTM wRF wRM; omega)
  exact Inv_tx h (hs.mono (fun a k z => z.elim Or.inl (fun z => Or.inr ((sX_63 (by omega)).1)))) hg k1 k2 k3
theorem Cs_ct (h : InvP P m) (hs : sm (fun a k => (dcW a k) ∨ (a = 63 ∧ k = 0)) m m2) (hg : ctI m2) : InvP P m2 := by
  obtain ⟨k1, k2, k3⟩ := keep3 h hs (by intro a k; unfold dcW wRF wRM; omega)
  exact Inv_ct h (hs.mono (fun a k z => z.elim Or.inl (fun z => Or.inr ((sX_63 (by omega)).1)))) hg k1 k2 k3
theorem Cs_ck (h : InvP P m) (hs : sm (fun a k => (dkW a k) ∨ (a = 63 ∧ k = 0)) m m2) (hg : ckI m2) : InvP P m2 := by
  obtain ⟨k1, k2, k3⟩ := keep3 h hs (by intro a k; unfold dkW wRF wRM; omega)
  exact Inv_ck h (hs.mono (fun a k z => z.elim Or.inl (fun z => Or.inr ((sX_63 (by omega)).1)))) hg k1 k2 k3
theorem Cs_mt (h : InvP P m) (hs : sm (fun a k => (dMF a k ∨ dMM a k ∨ dIF a k ∨ dIM a k ∨ dKF a k ∨ dKM a k ∨ a = 35) ∨ (a = 63 ∧ k = 0)) m m2) (hg : miI P m2) (hi : itI P m2) : InvP P m2 := by
  obtain ⟨k1, k2, k3⟩ := keep3 h hs (by intro a k; unfold dMF dMM dIF dIM dKF dKM wRF wRM; omega)
  exact Inv_mt h (hs.mono (fun a k z => z.elim Or.inl (fun z => Or.inr ((sX_63 (by omega)).1)))) hg hi k1 k2 k3
theorem T_good (h : Inv m) (x : Int32) : Step2 (f_F_good x) (f_M_good x) m := by
  obtain ⟨P, h⟩ := h
  obtain ⟨G, K, O, C, N, gg, gF, gM⟩ := h.2.2.2.1
  obtain ⟨m1, s1, d1⟩ := F_good gF gg x
  have lo : sm lowS m m1 := s1.mono (by intro a k; unfold lowS; omega)
  obtain ⟨m2, s2, d2⟩ := M_good (goodsM_lo gM lo) gg x
  have hi : sm higS m1 m2 := s2.mono (by intro a k; unfold higS; omega)
  have hs : sm (fun a k => (dGF a k ∨ dGM a k) ∨ (a = 63 ∧ k = 0)) m m2 := (s1.mono (by intro a k; unfold dGF; omega)).tr (s2.mono (by intro a k; unfold dGM; omega))
  rcases d1 with ⟨c, c', e1, f1⟩ | ⟨c, e1, rfl⟩
  · rcases d2 with ⟨_, _, e2, f2⟩ | ⟨z, _⟩
    · have := jnB (k := 9) (by omega) c.2
      have g2 : gGoods (G + 1) K (up O G (jn x)) C N := ⟨by omega, gg.2.1, fun g hg => (by
        unfold up
        by_cases q : g = G
        · rw [if_pos q]; omega
        · rw [if_neg q]; exact gg.2.2.1 g (by omega)), gg.2.2.2.1, gg.2.2.2.2.1, fun g t z => gg.2.2.2.2.2 g t (by omega)⟩
      exact ⟨_, m1, m2, e1, e2, Inv_of (Cs_go h hs ⟨_, _, _, _, _, g2, goodsF_hi f1 hi, f2⟩)⟩
    · exact absurd ⟨c, c'⟩ z
  · rcases d2 with ⟨z, z', _⟩ | ⟨_, e2, f2⟩
    · exact absurd ⟨z, z'⟩ c
    · exact ⟨_, _, m2, e1, e2, Inv_of (Cs_go h hs ⟨_, _, _, _, _, gg, goodsF_hi gF hi, f2⟩)⟩
theorem T_test (h : Inv m) (x : Int32) : Step2 (f_F_test x) (f_M_test x) m := by
  obtain ⟨P, h⟩ := h
  obtain ⟨G, K, O, C, N, gg, gF, gM⟩ := h.2.2.2.1
  obtain ⟨m1, s1, d1⟩ := F_test gF gg x
  have lo : sm lowS m m1 := s1.mono (by intro a k; unfold lowS; omega)
  obtain ⟨m2, s2, d2⟩ := M_test (goodsM_lo gM lo) gg x
  have hi : sm higS m1 m2 := s2.mono (by intro a k; unfold higS; omega)
  have hs : sm (fun a k => (dGF a k ∨ dGM a k) ∨ (a = 63 ∧ k = 0)) m m2 := (s1.mono (by intro a k; unfold dGF; omega)).tr (s2.mono (by intro a k; unfold dGM; omega))
  rcases d1 with ⟨c, c', e1, f1⟩ | ⟨c, e1, rfl⟩
  · rcases d2 with ⟨_, _, e2, f2⟩ | ⟨z, _⟩
    · have := jnB (k := 9) (by omega) c.2
      have g2 : gGoods G (K + 1) O (up C K (jn x)) N := ⟨gg.1, by omega, gg.2.2.1, fun g hg => (by
        unfold up
        by_cases q : g = K
        · rw [if_pos q]; omega
        · rw [if_neg q]; exact gg.2.2.2.1 g (by omega)), gg.2.2.2.2.1, fun g t z => gg.2.2.2.2.2 g t (by omega)⟩
      exact ⟨_, m1, m2, e1, e2, Inv_of (Cs_go h hs ⟨_, _, _, _, _, g2, goodsF_hi f1 hi, f2⟩)⟩
    · exact absurd ⟨c, c'⟩ z
  · rcases d2 with ⟨z, z', _⟩ | ⟨_, e2, f2⟩
    · exact absurd ⟨z, z'⟩ c
    · exact ⟨_, _, m2, e1, e2, Inv_of (Cs_go h hs ⟨_, _, _, _, _, gg, goodsF_hi gF hi, f2⟩)⟩
theorem T_answer (h : Inv m) (x y z : Int32) : Step2 (f_F_answer x y z) (f_M_answer x y z) m := by
  obtain ⟨P, h⟩ := h
  obtain ⟨G, K, O, C, N, gg, gF, gM⟩ := h.2.2.2.1
  obtain ⟨m1, s1, d1⟩ := F_answer gF gg x y z
  have lo : sm lowS m m1 := s1.mono (by intro a k; unfold lowS; omega)
  obtain ⟨m2, s2, d2⟩ := M_answer (goodsM_lo gM lo) gg x y z
  have hi : sm higS m1 m2 := s2.mono (by intro a k; unfold higS; omega)
  have hs : sm (fun a k => (dGF a k ∨ dGM a k) ∨ (a = 63 ∧ k = 0)) m m2 := (s1.mono (by intro a k; unfold dGF; omega)).tr (s2.mono (by intro a k; unfold dGM; omega))
  rcases d1 with ⟨c, e1, f1⟩ | ⟨c, e1, rfl⟩
  · rcases d2 with ⟨_, e2, f2⟩ | ⟨z, _⟩
    · have hx := jnB (x := x) (k := G) (by exact c.1.1) (by have := c.1.2; omega)
      have hy := jnB (x := y) (k := K) (by exact c.2.1.1) (by have := c.2.1.2; omega)
      have hz := jnB (x := z) (k := 9) (by exact c.2.2.1) (by exact c.2.2.2)
      have cx := c.1.2
      have cy := c.2.1.2
      have cz := c.2.2.2
      have g2 : gGoods G K O C (u2 N (jn x) (jn y) (jn z)) := ⟨gg.1, gg.2.1, gg.2.2.1, gg.2.2.2.1, fun g t => (by
        unfold u2
        split
        · omega
        · exact gg.2.2.2.2.1 g t), fun g t q => (by
        unfold u2
        rw [if_neg (by omega)]
        exact gg.2.2.2.2.2 g t q)⟩
      exact ⟨_, m1, m2, e1, e2, Inv_of (Cs_go h hs ⟨_, _, _, _, _, g2, goodsF_hi f1 hi, f2⟩)⟩
    · exact absurd c z
  · rcases d2 with ⟨z, _⟩ | ⟨_, e2, f2⟩
    · exact absurd z c
    · exact ⟨_, _, m2, e1, e2, Inv_of (Cs_go h hs ⟨_, _, _, _, _, gg, goodsF_hi gF hi, f2⟩)⟩
theorem T_sheet (h : Inv m) (x y z f step : Int32) : Step2 (f_F_sheet x y z f step) (f_M_sheet x y z f step) m := by
  obtain ⟨P, h⟩ := h
  obtain ⟨G, K, O, C, N, gg, gF, gM⟩ := h.2.2.2.1
  obtain ⟨m1, s1, d1⟩ := F_sheet gF gg x y z f step
  have lo : sm lowS m m1 := s1.mono (by intro a k; unfold lowS; omega)
  obtain ⟨m2, s2, d2⟩ := M_sheet (goodsM_lo gM lo) gg x y z f step
  have hi : sm higS m1 m2 := s2.mono (by intro a k; unfold higS; omega)
  have hs : sm (fun a k => (dGF a k ∨ dGM a k) ∨ (a = 63 ∧ k = 0)) m m2 := (s1.mono (by intro a k; unfold dGF; omega)).tr (s2.mono (by intro a k; unfold dGM; omega))
  rcases d1 with ⟨c, c', e1, f1⟩ | ⟨c, c', e1, rfl⟩ | ⟨c, e1, rfl⟩
  · rcases d2 with ⟨_, _, e2, f2⟩ | ⟨_, z, _⟩ | ⟨z, _⟩
    · have hx := jnB (x := x) (k := K) (by exact c.1.1) (by have := c.1.2; omega)
      have cx := c.1.2
      have g2 := shN_g gg (t := jn x) (k := G) (s := sv y z f step) (fun g => sv_lt _ _ _ _ g) (by omega) (Nat.le_refl _)
      exact ⟨_, m1, m2, e1, e2, Inv_of (Cs_go h hs ⟨_, _, _, _, _, g2, goodsF_hi f1 hi, f2⟩)⟩
    · exact absurd c' z
    · exact absurd c z
  · rcases d2 with ⟨_, z, _⟩ | ⟨_, _, e2, f2⟩ | ⟨z, _⟩
    · exact absurd z c'
    · exact ⟨_, _, m2, e1, e2, Inv_of (Cs_go h hs ⟨_, _, _, _, _, gg, goodsF_hi gF hi, f2⟩)⟩
    · exact absurd c z
  · rcases d2 with ⟨z, _⟩ | ⟨z, _⟩ | ⟨_, e2, f2⟩
    · exact absurd z c
    · exact absurd z c
    · exact ⟨_, _, m2, e1, e2, Inv_of (Cs_go h hs ⟨_, _, _, _, _, gg, goodsF_hi gF hi, f2⟩)⟩
theorem T_heard (h : Inv m) (x y : Int32) : Step2 (f_F_heard x y) (f_M_heard x y) m := by
  obtain ⟨P, h⟩ := h
  obtain ⟨H, Y, V, gg, gF, gM⟩ := h.2.2.2.2.1
  obtain ⟨m1, s1, d1⟩ := F_heard gF gg x y
  have lo : sm lowS m m1 := s1.mono (by intro a k; unfold lowS; omega)
  obtain ⟨m2, s2, d2⟩ := M_heard (noiseM_lo gM lo) gg x y
  have hi : sm higS m1 m2 := s2.mono (by intro a k; unfold higS; omega)
  have hs : sm (fun a k => (dNF a k ∨ dNM a k) ∨ (a = 63 ∧ k = 0)) m m2 := (s1.mono (by intro a k; unfold dNF; omega)).tr (s2.mono (by intro a k; unfold dNM; omega))
  rcases d1 with ⟨c, e1, f1⟩ | ⟨c, e1, rfl⟩
  · rcases d2 with ⟨_, e2, f2⟩ | ⟨z, _⟩
    · have hx := jnB (x := x) (k := 10) (by exact c.1.1) (by have := c.1.2; omega)
      have hy := jnB (x := y) (k := 999) (by exact c.2.1.1) (by exact c.2.1.2)
      have cx := c.1.2
      have cy := c.2.1.2
      have g2 : gNoise (H + 1) (up Y H (jn x)) (up V H (jn y)) := ⟨by have := c.2.2; omega, fun k hk => (by
        unfold up
        by_cases q : k = H
        · rw [if_pos q, if_pos q]; omega
        · rw [if_neg q, if_neg q]; exact gg.2 k (by omega))⟩
      exact ⟨_, m1, m2, e1, e2, Inv_of (Cs_no h hs ⟨_, _, _, g2, noiseF_hi f1 hi, f2⟩)⟩
    · exact absurd c z
  · rcases d2 with ⟨z, _⟩ | ⟨_, e2, f2⟩
    · exact absurd z c
    · exact ⟨_, _, m2, e1, e2, Inv_of (Cs_no h hs ⟨_, _, _, gg, noiseF_hi gF hi, f2⟩)⟩
theorem T_gas (h : Inv m) (x v : Int32) : Step2 (f_F_gas x v) (f_M_gas x v) m := by
  obtain ⟨P, h⟩ := h
  obtain ⟨Q, gg, gF, gM⟩ := h.2.2.2.2.2.1
  obtain ⟨m1, s1, d1⟩ := F_gas gF x v
  have lo : sm lowS m m1 := s1.mono (by intro a k; unfold lowS; omega)
  obtain ⟨m2, s2, d2⟩ := M_gas (airM_lo gM lo) x v
  have hi : sm higS m1 m2 := s2.mono (by intro a k; unfold higS; omega)
  have hs : sm (fun a k => (dAF a k ∨ dAM a k) ∨ (a = 63 ∧ k = 0)) m m2 := (s1.mono (by intro a k; unfold dAF; omega)).tr (s2.mono (by intro a k; unfold dAM; omega))
  rcases d1 with ⟨c, e1, f1⟩ | ⟨c, e1, rfl⟩
  · rcases d2 with ⟨_, e2, f2⟩ | ⟨z, _⟩
    · have g2 : gAir (up Q (jn x) (jn v)) := by
        obtain ⟨g0, g1, g2, g3⟩ := gg
        unfold gAir up
        rcases c with ⟨rfl, c1, c2⟩ | ⟨rfl, c1, c2⟩ | ⟨rfl, c1, c2⟩ | ⟨rfl, c1, c2⟩
        · have := jnB (x := v) (k := 9999) c1 c2
          exact ⟨by show jn v ≤ 9999; omega, g1, g2, g3⟩
        · have := jnB (x := v) (k := 99) (by omega) c2
          exact ⟨g0, ⟨by show 1 ≤ jn v; omega, by show jn v ≤ 99; omega⟩, g2, g3⟩
        · have := jnB (x := v) (k := 9999) (by omega) c2
          exact ⟨g0, g1, ⟨by show 1 ≤ jn v; omega, by show jn v ≤ 9999; omega⟩, g3⟩
        · have := jnB (x := v) (k := 9999) (by omega) c2
          exact ⟨g0, g1, g2, ⟨by show 1 ≤ jn v; omega, by show jn v ≤ 9999; omega⟩⟩
      exact ⟨_, m1, m2, e1, e2, Inv_of (Cs_ai h hs ⟨_, g2, airF_hi f1 hi, f2⟩)⟩
    · exact absurd c z
  · rcases d2 with ⟨z, _⟩ | ⟨_, e2, f2⟩
    · exact absurd z c
    · exact ⟨_, _, m2, e1, e2, Inv_of (Cs_ai h hs ⟨_, gg, airF_hi gF hi, f2⟩)⟩
theorem T_ear (h : Inv m) (x v : Int32) : Step2 (f_F_ear x v) (f_M_ear x v) m := by
  obtain ⟨P, h⟩ := h
  obtain ⟨E, gg, gF, gM⟩ := h.2.2.2.2.2.2.1
  obtain ⟨m1, s1, d1⟩ := F_ear gF gg x v
  have lo : sm lowS m m1 := s1.mono (by intro a k; unfold lowS; omega)
  obtain ⟨m2, s2, d2⟩ := M_ear (earsM_lo gM lo) gg x v
  have hi : sm higS m1 m2 := s2.mono (by intro a k; unfold higS; omega)
  have hs : sm (fun a k => (a = 61 ∨ a = 108) ∨ (a = 63 ∧ k = 0)) m m2 := (s1.mono (by intro a k; omega)).tr (s2.mono (by intro a k; omega))
  rcases d1 with ⟨c, e1, f1⟩ | ⟨c, e1, rfl⟩
  · rcases d2 with ⟨_, e2, f2⟩ | ⟨z, _⟩
    · have hv := jnB (x := v) (k := 9) c.2.1.1 c.2.1.2
      have cv := c.2.1.2
      have g2 : gEars (up E (jn x) (jn v)) := fun i hi => (by
        unfold up
        split
        · omega
        · exact gg i hi)
      exact ⟨_, m1, m2, e1, e2, Inv_of (Cs_ea h hs ⟨_, g2, earsF_hi f1 hi, f2⟩)⟩
    · exact absurd c z
  · rcases d2 with ⟨z, _⟩ | ⟨_, e2, f2⟩
    · exact absurd z c
    · exact ⟨_, _, m2, e1, e2, Inv_of (Cs_ea h hs ⟨_, gg, earsF_hi gF hi, f2⟩)⟩
end WRITE
