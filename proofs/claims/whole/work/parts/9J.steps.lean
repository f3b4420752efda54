/-! steps of the methods that tell -/
section TELL
variable {m : jx_Mem}
theorem sF_c {a k : Nat} (h : a = 15 ∨ a = 16 ∨ a = 17 ∨ a = 24 ∨ a = 25 ∨ a = 36 ∨ a = 37 ∨ a = 49 ∨ a = 51 ∨ a = 55 ∨ a = 56 ∨ a = 57 ∨ a = 58 ∨ a = 62) : wScr a k ∧ (a < 63 ∧ a ≠ 50) := by
  rcases h with rfl | rfl | rfl | rfl | rfl | rfl | rfl | rfl | rfl | rfl | rfl | rfl | rfl | rfl <;> exact ⟨by unfold wScr; omega, by omega⟩
theorem sF_RF {a k : Nat} (h : wRF a k) : wScr a k ∧ (a < 63 ∧ a ≠ 50) := by
  unfold wRF at h
  rcases h with ⟨rfl, rfl⟩ | rfl <;> exact ⟨by unfold wScr; omega, by omega⟩
theorem sM_c {a k : Nat} (h : a = 73 ∨ a = 74 ∨ a = 75 ∨ a = 76 ∨ a = 79 ∨ a = 86 ∨ a = 87 ∨ a = 96 ∨ a = 97 ∨ a = 98 ∨ a = 102 ∨ a = 103 ∨ a = 107) : wScr a k ∧ (63 ≤ a ∧ a ≠ 104) := by
  rcases h with rfl | rfl | rfl | rfl | rfl | rfl | rfl | rfl | rfl | rfl | rfl | rfl | rfl <;> exact ⟨by unfold wScr; omega, by omega⟩
theorem sM_63 {a k : Nat} (h : a = 63 ∧ (k = 0 ∨ k = 1 ∨ k = 50 ∨ k = 51)) : wScr a k ∧ (63 ≤ a ∧ a ≠ 104) := by
  obtain ⟨rfl, h⟩ := h
  exact ⟨by unfold wScr; omega, by omega⟩
theorem sM_TM {a k : Nat} (h : wTM a k) : wScr a k ∧ (63 ≤ a ∧ a ≠ 104) := by
  unfold wTM at h
  rcases h with h | rfl
  · exact sM_63 (by omega)
  · exact ⟨by unfold wScr; omega, by omega⟩
theorem sM_Ft {a k : Nat} (h : wFt a k) : wScr a k ∧ (63 ≤ a ∧ a ≠ 104) := by
  unfold wFt at h
  rcases h with h | h | h | h
  · exact sM_c (by omega)
  · exact sM_c (by omega)
  · exact sM_c (by omega)
  · exact sM_63 (by omega)
theorem sX_F {a k : Nat} (h : a = 15 ∨ a = 16 ∨ a = 17 ∨ a = 24 ∨ a = 25 ∨ a = 36 ∨ a = 37 ∨ a = 49 ∨ a = 51 ∨ a = 55 ∨ a = 56 ∨ a = 57 ∨ a = 58 ∨ a = 62) : wScr a k ∧ ¬ (wRF a k ∨ wRM a k ∨ a = 50 ∨ a = 104) := ⟨(sF_c h).1, by unfold wRF wRM; rcases h with rfl | rfl | rfl | rfl | rfl | rfl | rfl | rfl | rfl | rfl | rfl | rfl | rfl | rfl <;> omega⟩
theorem sX_M {a k : Nat} (h : a = 73 ∨ a = 74 ∨ a = 75 ∨ a = 76 ∨ a = 79 ∨ a = 86 ∨ a = 87 ∨ a = 96 ∨ a = 97 ∨ a = 98 ∨ a = 102 ∨ a = 103 ∨ a = 107) : wScr a k ∧ ¬ (wRF a k ∨ wRM a k ∨ a = 50 ∨ a = 104) := ⟨(sM_c h).1, by unfold wRF wRM; rcases h with rfl | rfl | rfl | rfl | rfl | rfl | rfl | rfl | rfl | rfl | rfl | rfl | rfl <;> omega⟩
theorem sX_63 {a k : Nat} (h : a = 63 ∧ (k = 0 ∨ k = 50 ∨ k = 51)) : wScr a k ∧ ¬ (wRF a k ∨ wRM a k ∨ a = 50 ∨ a = 104) := ⟨(sM_63 (by omega)).1, by unfold wRF wRM; obtain ⟨rfl, h⟩ := h; omega⟩
theorem sX_Su {a k : Nat} (h : wSuM a k) : wScr a k ∧ ¬ (wRF a k ∨ wRM a k ∨ a = 50 ∨ a = 104) := by
  unfold wSuM wFt at h
  rcases h with (h | h | h | h) | h
  · exact sX_M (by omega)
  · exact sX_M (by omega)
  · exact sX_M (by omega)
  · exact sX_63 (by omega)
  · exact sX_63 (by omega)
theorem sc_50 {a k : Nat} (h : a = 50) : wScr a k := by subst h; unfold wScr; omega
theorem sc_Gv {a k : Nat} (h : wGv a k) : wScr a k := by
  unfold wGv at h
  rcases h with rfl | rfl | rfl <;> (unfold wScr; omega)
theorem sF_Cr {a k : Nat} (h : wCrF a k) : wScr a k ∧ (a < 63 ∧ a ≠ 50) := by
  unfold wCrF at h
  rcases h with h | ⟨rfl, h⟩ | h
  · exact sF_c (by omega)
  · exact ⟨by unfold wScr; omega, by omega⟩
  · exact sF_RF h
theorem T_far (h : Inv m) (x y : Int32) : Step2 (f_F_far x y) (f_M_far x y) m := by
  obtain ⟨P, h⟩ := h
  obtain ⟨T, D, W, A, U, L, gm, mF, mM⟩ := h.1
  exact stp_no h (F_far mF x y) (M_far mM gm x y)
theorem T_apart (h : Inv m) (x y : Int32) : Step2 (f_F_apart x y) (f_M_apart x y) m := by
  obtain ⟨P, h⟩ := h
  obtain ⟨G, K, O, C, N, gg, gF, gM⟩ := h.2.2.2.1
  exact stp_no h (F_apart gF gg x y) (M_apart gM gg x y)
theorem T_sure (h : Inv m) (x y : Int32) : Step2 (f_F_sure x y) (f_M_sure x y) m := by
  obtain ⟨P, h⟩ := h
  obtain ⟨G, K, O, C, N, gg, gF, gM⟩ := h.2.2.2.1
  obtain ⟨m1, s1, ⟨c, e1, r1⟩ | ⟨c, e1, rfl⟩⟩ := F_sure gF gg x y
  · obtain ⟨m2, s2, ⟨_, e2, r2⟩ | ⟨c', _⟩⟩ := M_sure (goodsM_lo gM (s1.mono (by intro a k; unfold wRF lowS; omega))) gg x y
    · exact stp_row h (by simp) e1 s1 r1 e2 s2 r2 (fun _ _ z => sF_RF z) (fun _ _ z => sM_TM z)
    · exact absurd c c'
  · obtain ⟨m2, s2, ⟨c', _⟩ | ⟨_, e2, rfl⟩⟩ := M_sure gM gg x y
    · exact absurd c' c
    · exact stp_no h e1 e2
theorem T_ban (h : Inv m) (x y : Int32) : Step2 (f_F_ban x y) (f_M_ban x y) m := by
  obtain ⟨P, h⟩ := h
  obtain ⟨G, K, O, C, N, gg, gF, gM⟩ := h.2.2.2.1
  obtain ⟨m1, s1, ⟨c, e1, r1⟩ | ⟨c, e1, rfl⟩⟩ := F_ban gF gg x y
  · obtain ⟨m2, s2, ⟨_, e2, r2⟩ | ⟨c', _⟩⟩ := M_ban (goodsM_lo gM (s1.mono (by intro a k; unfold wRF lowS; omega))) gg x y
    · exact stp_row h (by simp) e1 s1 r1 e2 s2 r2 (fun _ _ z => sF_RF z) (fun _ _ z => sM_TM z)
    · exact absurd c c'
  · obtain ⟨m2, s2, ⟨c', _⟩ | ⟨_, e2, rfl⟩⟩ := M_ban gM gg x y
    · exact absurd c' c
    · exact stp_no h e1 e2
theorem T_keep (h : Inv m) (x : Int32) : Step2 (f_F_keep x) (f_M_keep x) m := by
  obtain ⟨P, h⟩ := h
  obtain ⟨G, K, O, C, N, gg, gF, gM⟩ := h.2.2.2.1
  obtain ⟨m1, s1, ⟨b, c, kb, e1, r1⟩ | ⟨c, kb, e1, rfl⟩ | ⟨c, e1, rfl⟩⟩ := F_keep gF gg x
  · obtain ⟨m2, s2, ⟨b', _, kb', e2, r2⟩ | ⟨_, kb', _⟩ | ⟨c', _⟩⟩ := M_keep (goodsM_lo gM (s1.mono (by intro a k; unfold wRF lowS; omega))) gg x
    · rw [kb] at kb'
      cases kb'
      exact stp_row h (by simp) e1 s1 r1 e2 s2 r2 (fun _ _ z => sF_RF z) (fun _ _ z => sM_TM z)
    · rw [kb] at kb'; cases kb'
    · exact absurd c c'
  · obtain ⟨m2, s2, ⟨b', _, kb', _⟩ | ⟨_, _, e2, rfl⟩ | ⟨c', _⟩⟩ := M_keep gM gg x
    · rw [kb] at kb'; cases kb'
    · exact stp_no h e1 e2
    · exact absurd c c'
  · obtain ⟨m2, s2, ⟨b', c', _⟩ | ⟨c', _⟩ | ⟨_, e2, rfl⟩⟩ := M_keep gM gg x
    · exact absurd c' c
    · exact absurd c' c
    · exact stp_no h e1 e2
theorem T_tree (h : Inv m) (x : Int32) : Step2 (f_F_tree x) (f_M_tree x) m := by
  obtain ⟨P, h⟩ := h
  obtain ⟨G, K, O, C, N, gg, gF, gM⟩ := h.2.2.2.1
  obtain ⟨m1, s1, ⟨c, e1, r1⟩ | ⟨c, e1, rfl⟩⟩ := F_tree gF gg x
  · obtain ⟨m2, s2, ⟨_, e2, r2⟩ | ⟨c', _⟩⟩ := M_tree (goodsM_lo gM (s1.mono (by intro a k; unfold wTr wRF lowS; omega))) gg x
    · exact stp_row h (by simp) e1 s1 r1 e2 s2 r2 (fun _ _ z => z.elim (fun z => sF_c (by omega)) (fun z => z.elim (fun z => sF_c (by omega)) sF_RF)) (fun _ _ z => z.elim (fun z => sM_c (by omega)) (fun z => z.elim (fun z => sM_c (by omega)) (fun z => z.elim (fun z => sM_c (by omega)) sM_TM)))
    · exact absurd c c'
  · obtain ⟨m2, s2, ⟨c', _⟩ | ⟨_, e2, rfl⟩⟩ := M_tree gM gg x
    · exact absurd c' c
    · exact stp_no h e1 e2
theorem T_asks (h : Inv m) (x y : Int32) : Step2 (f_F_asks x y) (f_M_asks x y) m := by
  obtain ⟨P, h⟩ := h
  obtain ⟨G, K, O, C, N, gg, gF, gM⟩ := h.2.2.2.1
  obtain ⟨m1, s1, ⟨c, e1, r1⟩ | ⟨c, e1, rfl⟩⟩ := F_asks gF gg x y
  · obtain ⟨m2, s2, ⟨_, e2, r2⟩ | ⟨c', _⟩⟩ := M_asks (goodsM_lo gM (s1.mono (by intro a k; unfold wTr wRF lowS; omega))) gg x y
    · exact stp_row h (by rw [List.length_append]; have := pathL_len (N := N) (G := G) (K := K) (O := O) (C := C) (jn y) 6 (jn x); simp; omega) e1 s1 r1 e2 s2 r2 (fun _ _ z => z.elim (fun z => sF_c (by omega)) (fun z => z.elim (fun z => sF_c (by omega)) sF_RF)) (fun _ _ z => z.elim (fun z => sM_c (by omega)) (fun z => z.elim (fun z => sM_c (by omega)) (fun z => z.elim (fun z => sM_c (by omega)) sM_TM)))
    · exact absurd c c'
  · obtain ⟨m2, s2, ⟨c', _⟩ | ⟨_, e2, rfl⟩⟩ := M_asks gM gg x y
    · exact absurd c' c
    · exact stp_no h e1 e2
theorem T_copper (h : Inv m) (x y : Int32) : Step2 (f_F_copper x y) (f_M_copper x y) m := by
  obtain ⟨P, h⟩ := h
  obtain ⟨G, K, O, C, N, gg, gF, gM⟩ := h.2.2.2.1
  obtain ⟨m1, s1, d1⟩ := F_copper gF gg x y
  obtain ⟨m2, s2, d2⟩ := M_copper (goodsM_lo gM (s1.mono (by intro a k; unfold w17 lowS; omega))) gg x y
  have hF : ∀ a k, w17 a k → wScr a k ∧ ¬ (wRF a k ∨ wRM a k ∨ a = 50 ∨ a = 104) := fun a k z => sX_F (by unfold w17 at z; omega)
  have hM : ∀ a k, (a = 76 ∨ (a = 63 ∧ k = 0)) → wScr a k ∧ ¬ (wRF a k ∨ wRM a k ∨ a = 50 ∨ a = 104) := fun a k z => z.elim (fun z => sX_M (by omega)) (fun z => sX_63 (by omega))
  rcases d1 with ⟨c, e1⟩ | ⟨c, e1⟩
  · rcases d2 with ⟨_, e2⟩ | ⟨c', _⟩
    · exact stp_scr h e1 s1 e2 s2 hF hM
    · exact absurd c c'
  · rcases d2 with ⟨c', _⟩ | ⟨_, e2⟩
    · exact absurd c' c
    · exact stp_scr h e1 s1 e2 s2 hF hM
end TELL
