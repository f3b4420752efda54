/-! thefts: the model; gang -/
theorem sub_le0 {a b : Nat} (ha : a < 2 ^ 30) (hb : b < 2 ^ 30) : nI a - nI b ≤ 0 ↔ a ≤ b := by
  rw [i_le, pk_sub_toInt ha hb, show (0 : Int32).toInt = 0 from rfl]
  omega
theorem take_last {u : List cT} {i : Nat} (h1 : 1 ≤ i) (h2 : i ≤ u.length) : (u.take i).getLast? = some (gC u (i - 1)) := by
  have e : u.take i = u.take (i - 1) ++ [gC u (i - 1)] := by
    have := take_gC (s := u) (k := i - 1) (by omega)
    rw [show i - 1 + 1 = i by omega] at this
    exact this
  rw [e, List.getLast?_append]
  rfl
def ioA (m : jx_Mem) (c : List cT) (i : Nat) (y : cT) : Prop := ∃ q, q < c.length ∧ m.1 96 i = nI q ∧ gC c q = y
def w96 (a _ : Nat) : Prop := a = 96
def wFt (a k : Nat) : Prop := a = 96 ∨ a = 97 ∨ a = 98 ∨ (a = 63 ∧ (k = 50 ∨ k = 51))
def thM (m : jx_Mem) (L : List cT) : Prop := m.1 63 50 = nI L.length ∧ m.1 63 51 = nI (sumT L) ∧ ∀ j, j < L.length → m.1 97 j = nI (gC L j).1 ∧ m.1 98 j = nI (gC L j).2.1
section THEFTM
variable {m m' : jx_Mem} {T P : Nat} {D : Nat → Nat → Nat} {W A U L : Nat → Nat}
variable {c : List cT} {ns nc : Nat} {B X : Nat → Nat → Nat}
theorem gCc (g : gCnt c) {k : Nat} (hk : k < c.length) : (gC c k).1 < 10 ∧ (gC c k).2.1 ≤ 999 ∧ (gC c k).2.2 ≤ 99 := g.2 _ (gC_mem hk)
theorem ft_28 (hc : cntM m c) (g : gCnt c) {s : List cT} {k w : Nat} (hk : k < c.length) (hn : s.length ≤ k) (hso : srtd s) : ∀ q, q ≤ s.length → ∀ m1, sm w96 m m1 → (∀ i, i < q → ioA m1 c i (gC s i)) → (∀ i, q < i → i < s.length + 1 → ioA m1 c i (gC s (i - 1))) → (∀ i, q ≤ i → i < s.length → (gC c k).2.1 < (gC s i).2.1) →
    ∃ m2, f_M_findsThefts_28 (nI w) (nI s.length) (nI k) (nI q) m1 = f_M_findsThefts_4 (nI w) (nI (s.length + 1)) (nI (k + 1)) m2 ∧ sm w96 m m2 ∧ ∀ i, i < s.length + 1 → ioA m2 c i (gC (insC (gC c k) s) i) := by
  have g1 := g.1
  have fin : ∀ q, q ≤ s.length → (∀ i, i < q → (gC s i).2.1 ≤ (gC c k).2.1) → ∀ m1, sm w96 m m1 → (∀ i, i < q → ioA m1 c i (gC s i)) → (∀ i, q < i → i < s.length + 1 → ioA m1 c i (gC s (i - 1))) → (∀ i, q ≤ i → i < s.length → (gC c k).2.1 < (gC s i).2.1) →
      ∃ m2, f_M_findsThefts_78 (nI w) (nI s.length) (nI k) (nI q) m1 = f_M_findsThefts_4 (nI w) (nI (s.length + 1)) (nI (k + 1)) m2 ∧ sm w96 m m2 ∧ ∀ i, i < s.length + 1 → ioA m2 c i (gC (insC (gC c k) s) i) := by
    intro q hq h1 m1 hs ha hb hcc
    refine ⟨jx_w1 m1 96 q (nI k), ?_, hs.w1 rfl, fun i hi => ?_⟩
    · rw [e_M_findsThefts_78, in_nI (show q < 16 by omega) (by omega), nI_cl (show q < 2 ^ 31 by omega)]
      show f_M_findsThefts_89 _ _ _ _ = _
      rw [e_M_findsThefts_89, nI_1, nI_1]
    · rw [insC_at (gC c k) s q hq h1 hcc, gC_td (gC c k) hq i]
      by_cases c1 : i < q
      · rw [if_pos c1]
        obtain ⟨o, o1, o2, o3⟩ := ha i c1
        exact ⟨o, o1, (w1_idx (by omega)).trans o2, o3⟩
      · rw [if_neg c1]
        by_cases c2 : i = q
        · rw [if_pos c2, c2]
          exact ⟨k, hk, w1_same _ _ _ _, rfl⟩
        · rw [if_neg c2]
          obtain ⟨o, o1, o2, o3⟩ := hb i (by omega) hi
          exact ⟨o, o1, (w1_idx c2).trans o2, o3⟩
  intro q
  induction q with
  | zero =>
    intro hq m1 hs ha hb hcc
    obtain ⟨m2, r1, r2⟩ := fin 0 hq (fun i hi => absurd hi (Nat.not_lt_zero i)) m1 hs ha hb hcc
    refine ⟨m2, ?_, r2⟩
    rw [e_M_findsThefts_28]
    exact (ifp (by decide)).trans r1
  | succ q ih =>
    intro hq m1 hs ha hb hcc
    obtain ⟨o, o1, o2, o3⟩ := ha q (by omega)
    have ho := gCc g o1
    have hkb := gCc g hk
    have h90 : m1.1 90 o = nI (gC s q).2.1 := by rw [(hs 90 o (by unfold w96; omega)).1, (hc.2 o o1).2.1, o3]
    have h90k : m1.1 90 k = nI (gC c k).2.1 := by rw [(hs 90 k (by unfold w96; omega)).1, (hc.2 k hk).2.1]
    rw [o3] at ho
    rw [e_M_findsThefts_28]
    have e0 : ∀ X Y : Option jx_Mem, (if decide (nI (q + 1) ≤ 0) = true then X else Y) = Y := fun X Y => ifn (nI_ge (a := 0) (b := q + 1) (by omega) (by omega))
    rw [e0, nI_pred, in_nI (show q < 16 by omega) (by omega), nI_cl (show q < 2 ^ 31 by omega), cond_true, o2, in_nI (show o < 16 by omega) (by omega), cond_true, in_nI (show k < 16 by omega) (by omega), cond_true, nI_cl (show o < 2 ^ 31 by omega), nI_cl (show k < 2 ^ 31 by omega), h90, h90k]
    by_cases d : (gC s q).2.1 ≤ (gC c k).2.1
    · obtain ⟨m2, r1, r2⟩ := fin (q + 1) hq (fun i hi => by
        by_cases e : i = q
        · rw [e]; exact d
        · have := srtd_gC hso (show i < q by omega) (by omega); omega) m1 hs ha hb hcc
      exact ⟨m2, (ifp (nI_le d (by omega))).trans r1, r2⟩
    · obtain ⟨m2, r1, r2⟩ := ih (by omega) (jx_w1 m1 96 (q + 1) (nI o)) (hs.w1 rfl) (by
        intro i hi
        obtain ⟨o', p1, p2, p3⟩ := ha i (by omega)
        exact ⟨o', p1, (w1_idx (by omega)).trans p2, p3⟩) (by
        intro i hi hi2
        by_cases e : i = q + 1
        · rw [e, Nat.add_sub_cancel]
          exact ⟨o, o1, w1_same _ _ _ _, o3⟩
        · obtain ⟨o', p1, p2, p3⟩ := hb i (by omega) hi2
          exact ⟨o', p1, (w1_idx e).trans p2, p3⟩) (by
        intro i hi hi2
        by_cases e : i = q
        · rw [e]; omega
        · exact hcc i (by omega) hi2)
      refine ⟨m2, ?_, r2⟩
      refine (ifn (nI_ge (by omega) (by omega))).trans ?_
      rw [← r1, cond_true, in_nI (show q + 1 < 16 by omega) (by omega), nI_cl (show q + 1 < 2 ^ 31 by omega), pk_m1]
      rfl
theorem isC_fw_len (w k : Nat) (hk : k ≤ c.length) : (isC (fw c w k)).length ≤ k := by
  rw [isC_len]
  unfold fw
  have h1 := List.length_filter_le (pw w) (c.take k)
  rw [List.length_take] at h1
  omega
theorem ft_4 (hc : cntM m c) (g : gCnt c) {w : Nat} (hw : w < 10) : ∀ (i k : Nat), k + i = c.length → ∀ m1, sm w96 m m1 → (∀ j, j < (isC (fw c w k)).length → ioA m1 c j (gC (isC (fw c w k)) j)) →
    ∃ m2, f_M_findsThefts_4 (nI w) (nI (isC (fw c w k)).length) (nI k) m1 = f_M_findsThefts_107 (nI (isC (fw c w c.length)).length) 1 (jx_w1 (jx_w1 m2 63 50 0) 63 51 0) ∧ sm w96 m m2 ∧ (∀ j, j < (isC (fw c w c.length)).length → ioA m2 c j (gC (isC (fw c w c.length)) j)) := by
  have g1 := g.1
  intro i
  induction i with
  | zero =>
    intro k hk m1 hs hi
    have : k = c.length := by omega
    subst this
    refine ⟨m1, ?_, hs, hi⟩
    rw [e_M_findsThefts_4, (hs 63 38 (by unfold w96; omega)).1, hc.1]
    exact ifp (nI_le (Nat.le_refl _) (by omega))
  | succ i ih =>
    intro k hk m1 hs hi
    have hk2 : k < c.length := by omega
    have b := gCc g hk2
    have hl := isC_fw_len (c := c) w k (by omega)
    have hf := fw_s (s := c) (w := w) hk2
    rw [e_M_findsThefts_4, (hs 63 38 (by unfold w96; omega)).1, hc.1]
    have e0 : ∀ X Y : Option jx_Mem, (if decide (nI c.length ≤ nI k) = true then X else Y) = Y := fun X Y => ifn (nI_ge (a := k) (b := c.length) hk2 (by omega))
    rw [e0, in_nI (show k < 16 by omega) (by omega), nI_cl (show k < 2 ^ 31 by omega), cond_true, (hs 89 k (by unfold w96; omega)).1, (hc.2 k hk2).1]
    by_cases d : (gC c k).1 = w
    · rw [if_pos d] at hf
      obtain ⟨m2, r1, r2, r3⟩ := ft_28 hc g hk2 hl (isC_srtd (fw c w k)) (w := w) (isC (fw c w k)).length (Nat.le_refl _) m1 hs hi (fun j h1 h2 => by omega) (fun j h1 h2 => by omega)
      have e1 : isC (fw c w (k + 1)) = insC (gC c k) (isC (fw c w k)) := by rw [hf, isC_snoc]
      obtain ⟨m3, t1, t2⟩ := ih (k + 1) (by omega) m2 r2 (by rw [e1, insC_len]; exact r3)
      refine ⟨m3, ?_, t2⟩
      rw [← t1, e1, insC_len, ← r1]
      exact ifp (by rw [d])
    · rw [if_neg d, List.append_nil] at hf
      obtain ⟨m3, t1, t2⟩ := ih (k + 1) (by omega) m1 hs (by rw [hf]; exact hi)
      refine ⟨m3, ?_, t2⟩
      rw [← t1, hf]
      refine (ifn (fun z => d ((nI_eq (by omega) (by omega)).mp z))).trans ?_
      rw [e_M_findsThefts_89, nI_1]
theorem ft_107 (hc : cntM m c) (g : gCnt c) {u : List cT} (hu : u.length ≤ 16) (hum : ∀ y, y ∈ u → y.1 < 10 ∧ y.2.1 ≤ 999 ∧ y.2.2 ≤ 99) (hio : ∀ j, j < u.length → ioA m c j (gC u j)) : ∀ (d i : Nat), 1 ≤ i → i + d = u.length → ∀ m1, sm (fun a k => a = 97 ∨ a = 98 ∨ (a = 63 ∧ (k = 50 ∨ k = 51))) m m1 → thM m1 (thf (u.take i)) →
    ∃ m2, f_M_findsThefts_107 (nI u.length) (nI i) m1 = some m2 ∧ sm (fun a k => a = 97 ∨ a = 98 ∨ (a = 63 ∧ (k = 50 ∨ k = 51))) m m2 ∧ thM m2 (thf u) := by
  have g1 := g.1
  intro d
  induction d with
  | zero =>
    intro i _ hi m1 hs ht
    have : i = u.length := by omega
    subst this
    rw [List.take_length] at ht
    refine ⟨m1, ?_, hs, ht⟩
    rw [e_M_findsThefts_107]
    exact ifp (nI_le (Nat.le_refl _) (by omega))
  | succ d ih =>
    intro i h1 hi m1 hs ht
    have hiu : i < u.length := by omega
    obtain ⟨p, p1, p2, p3⟩ := hio (i - 1) (by omega)
    obtain ⟨q, q1, q2, q3⟩ := hio i hiu
    have bp := hum _ (gC_mem (show i - 1 < u.length by omega))
    have bq := hum _ (gC_mem hiu)
    have hL := thf_snoc (gC u i) (u.take i)
    rw [← take_gC hiu, take_last h1 (by omega)] at hL
    have hlen := thf_len (u.take i)
    rw [List.length_take] at hlen
    have f96p : m1.1 96 (i - 1) = nI p := (hs 96 _ (by omega)).1.trans p2
    have f96q : m1.1 96 i = nI q := (hs 96 _ (by omega)).1.trans q2
    have f91p : m1.1 91 p = nI (gC u (i - 1)).2.2 := by rw [(hs 91 p (by omega)).1, (hc.2 p p1).2.2, p3]
    have f91q : m1.1 91 q = nI (gC u i).2.2 := by rw [(hs 91 q (by omega)).1, (hc.2 q q1).2.2, q3]
    have f90p : m1.1 90 p = nI (gC u (i - 1)).2.1 := by rw [(hs 90 p (by omega)).1, (hc.2 p p1).2.1, p3]
    have f90q : m1.1 90 q = nI (gC u i).2.1 := by rw [(hs 90 q (by omega)).1, (hc.2 q q1).2.1, q3]
    have e1 : nI i - 1 = nI (i - 1) := by
      have := nI_pred (i - 1)
      rw [show i - 1 + 1 = i by omega] at this
      exact this
    rw [e_M_findsThefts_107]
    have e0 : ∀ X Y : Option jx_Mem, (if decide (nI u.length ≤ nI i) = true then X else Y) = Y := fun X Y => ifn (nI_ge (a := i) (b := u.length) hiu (by omega))
    rw [e0, e1, in_nI (show i - 1 < 16 by omega) (by omega), nI_cl (show i - 1 < 2 ^ 31 by omega), f96p, in_nI (show p < 16 by omega) (by omega), nI_cl (show p < 2 ^ 31 by omega), in_nI (show i < 16 by omega) (by omega), nI_cl (show i < 2 ^ 31 by omega), f96q, in_nI (show q < 16 by omega) (by omega), nI_cl (show q < 2 ^ 31 by omega), f91p, f91q]
    simp only [cond_true]
    by_cases dd : (gC u i).2.2 < (gC u (i - 1)).2.2
    · have hL2 : thf (u.take (i + 1)) = thf (u.take i) ++ [((gC u (i - 1)).2.1, (gC u i).2.1, (gC u (i - 1)).2.2 - (gC u i).2.2)] := by
        rw [hL]
        unfold stp
        dsimp only
        rw [if_pos dd]
      have hlt : (thf (u.take i)).length < 16 := by omega
      obtain ⟨m2, r1, r2⟩ := ih (i + 1) (by omega) (by omega) (jx_w1 (jx_w1 (jx_w1 (jx_w1 m1 97 (thf (u.take i)).length (nI (gC u (i - 1)).2.1)) 98 (thf (u.take i)).length (nI (gC u i).2.1)) 63 50 (nI ((thf (u.take i)).length + 1))) 63 51 (nI (sumT (thf (u.take i)) + ((gC u (i - 1)).2.2 - (gC u i).2.2)))) ((((hs.w1 (by omega)).w1 (by omega)).w1 (by omega)).w1 (by omega)) (by
        rw [hL2]
        refine ⟨?_, ?_, fun j hj => ?_⟩
        · rw [List.length_append, w1_idx (by omega), w1_same]; rfl
        · rw [sumT_snoc, w1_same]
        · rw [List.length_append, List.length_singleton] at hj
          rw [gC_snoc _ _ j hj]
          by_cases e : j < (thf (u.take i)).length
          · rw [if_pos e]
            have := ht.2.2 j e
            simp [w1_rd, show ¬ j = (thf (u.take i)).length by omega, this]
          · rw [if_neg e, show j = (thf (u.take i)).length by omega]
            simp [w1_rd])
      refine ⟨m2, ?_, r2⟩
      refine (ifn (fun z => by have := (sub_le0 (by omega) (by omega)).mp z; omega)).trans ?_
      rw [pk_sub (by omega), ← r1, ht.1, in_nI hlt (by omega), nI_cl (by omega), f90p]
      have r90 : (jx_w1 m1 97 (thf (u.take i)).length (nI (gC u (i - 1)).2.1)).1 96 i = nI q := (w1_cell (by omega)).trans f96q
      have r902 : (jx_w1 m1 97 (thf (u.take i)).length (nI (gC u (i - 1)).2.1)).1 90 q = nI (gC u i).2.1 := (w1_cell (by omega)).trans f90q
      have r50 : (jx_w1 m1 97 (thf (u.take i)).length (nI (gC u (i - 1)).2.1)).1 63 50 = nI (thf (u.take i)).length := (w1_cell (by omega)).trans ht.1
      simp only [cond_true, Bool.and_true]
      rw [r90, in_nI (show q < 16 by omega) (by omega), nI_cl (show q < 2 ^ 31 by omega), r902, r50, in_nI hlt (by omega), nI_cl (show (thf (u.take i)).length < 2 ^ 31 by omega)]
      simp only [cond_true]
      rw [w1_cell (show 63 ≠ 98 by omega), r50, nI_1, w1_idx (show 51 ≠ 50 by omega), w1_cell (show 63 ≠ 98 by omega), w1_cell (show 63 ≠ 97 by omega), ht.2.1, nI_add, e_M_findsThefts_207, nI_1]
    · have hL2 : thf (u.take (i + 1)) = thf (u.take i) := by
        rw [hL]
        unfold stp
        dsimp only
        rw [if_neg dd, List.append_nil]
      obtain ⟨m2, r1, r2⟩ := ih (i + 1) (by omega) (by omega) m1 hs (by rw [hL2]; exact ht)
      refine ⟨m2, ?_, r2⟩
      refine (ifp ((sub_le0 (by omega) (by omega)).mpr (by omega))).trans ?_
      rw [← r1, e_M_findsThefts_207, nI_1]
theorem s_finds (hc : cntM m c) (g : gCnt c) {w : Nat} (hw : w < 10) : ∃ m2, f_M_findsThefts (nI w) m = some m2 ∧ sm wFt m m2 ∧ thM m2 (thW c w) := by
  have g1 := g.1
  obtain ⟨m1, r1, r2, r3⟩ := ft_4 hc g hw c.length 0 (by omega) m sm.rf (fun j hj => absurd hj (Nat.not_lt_zero j))
  have hu : fw c w c.length = c.filter (pw w) := fw_all c w
  rw [hu] at r1 r3
  have hul : (isC (c.filter (pw w))).length ≤ 16 := by
    rw [isC_len]
    have := List.length_filter_le (pw w) c
    omega
  have hum : ∀ y, y ∈ isC (c.filter (pw w)) → y.1 < 10 ∧ y.2.1 ≤ 999 ∧ y.2.2 ≤ 99 := fun y hy => g.2 y (List.mem_filter.mp ((isC_mem y _).mp hy)).1
  have s2 : sm wFt m (jx_w1 (jx_w1 m1 63 50 0) 63 51 0) := ((r2.mono (by unfold w96 wFt; omega)).w1 (by unfold wFt; omega)).w1 (by unfold wFt; omega)
  have hc2 : cntM (jx_w1 (jx_w1 m1 63 50 0) 63 51 0) c := cntM_sm hc s2 (by intro a k; unfold dWM wFt; omega)
  have hz : thM (jx_w1 (jx_w1 m1 63 50 0) 63 51 0) [] := ⟨(w1_idx (by omega)).trans (w1_same _ _ _ _), w1_same _ _ _ _, fun j hj => absurd hj (Nat.not_lt_zero j)⟩
  have r1' : f_M_findsThefts (nI w) m = f_M_findsThefts_107 (nI (isC (c.filter (pw w))).length) 1 (jx_w1 (jx_w1 m1 63 50 0) 63 51 0) := by
    rw [e_M_findsThefts]
    exact r1
  by_cases c1 : 1 ≤ (isC (c.filter (pw w))).length
  · obtain ⟨m2, t1, t2, t3⟩ := ft_107 hc2 g hul hum (fun j hj => by
      obtain ⟨o, o1, o2, o3⟩ := r3 j hj
      exact ⟨o, o1, (w1_cell (by omega)).trans ((w1_cell (by omega)).trans o2), o3⟩) ((isC (c.filter (pw w))).length - 1) 1 (by omega) (by omega) _ sm.rf (by
      have : thf ((isC (c.filter (pw w))).take 1) = [] := by
        have := thf_len ((isC (c.filter (pw w))).take 1)
        rw [List.length_take] at this
        exact List.length_eq_zero_iff.mp (by omega)
      rw [this]
      exact hz)
    refine ⟨m2, ?_, s2.tr (t2.mono (by unfold wFt; omega)), t3⟩
    rw [r1']
    exact t1
  · refine ⟨_, ?_, s2, ?_⟩
    · rw [r1', e_M_findsThefts_107]
      exact ifp (nI_le (b := 1) (by omega) (by omega))
    · unfold thW
      rw [show isC (c.filter (pw w)) = [] from List.length_eq_zero_iff.mp (by omega)]
      exact hz
def wMsM (a k : Nat) : Prop := wFt a k ∨ wTM a k
theorem M_missing (hc : cntM m c) (g : gCnt c) (x : Int32) : ∃ m', sm wMsM m m' ∧
    (((0 ≤ x.toInt ∧ x.toInt < 10) ∧ f_M_missing x m = some (nI (thW c (jn x)).length, m') ∧ rM m' (rowT (thW c (jn x)))) ∨ (¬ (0 ≤ x.toInt ∧ x.toInt < 10) ∧ f_M_missing x m = some (-1, m') ∧ m' = jx_w1 m 63 0 0)) := by
  have g1 := g.1
  have s1 : sm wMsM m (jx_w1 m 63 0 0) := sm_w1 (Or.inr (by unfold wTM; omega))
  have hc1 : cntM (jx_w1 m 63 0 0) c := cntM_sm (Z := fun a k => a = 63 ∧ k = 0) hc (sm_w1 ⟨rfl, rfl⟩) (by intro a k; unfold dWM; omega)
  rw [e_M_missing]
  try dsimp only
  by_cases hx : 0 ≤ x.toInt ∧ x.toInt < 10
  · obtain ⟨w, hw, rfl⟩ := nI_get hx.1 (show x.toInt < ((10 : Nat) : Int) from hx.2)
    rw [jn_nI (show w < 2 ^ 31 by omega), s_mpl_t hx, Option.bind_some]
    obtain ⟨m2, r1, r2, r3⟩ := s_finds hc1 g hw
    have s2 : sm wMsM m (jx_w1 m2 63 1 0) := (s1.tr (r2.mono (fun _ _ z => Or.inl z))).w1 (Or.inr (by unfold wTM; omega))
    have h50 : (jx_w1 m2 63 1 0).1 63 50 = nI (thW c w).length := (w1_idx (by omega)).trans r3.1
    have hlw : (thW c w).length ≤ 15 := by
      have h1 := thf_len (isC (c.filter (pw w)))
      have h2 := List.length_filter_le (pw w) c
      rw [isC_len] at h1
      unfold thW
      omega
    have e0 : ∀ X : Option (Int32 × jx_Mem), (if decide (¬ ((1 : Int32), jx_w1 m 63 0 0).1 = 0) = true then ((f_M_findsThefts (nI w) ((1 : Int32), jx_w1 m 63 0 0).2).bind (fun p2 => let m2 := jx_w1 p2 63 1 0; if decide ((m2.1 63 50) ≤ 0) = true then (f_M_missing_62 m2) else (bif jx_in (0 : Int32) 16 then (f_M_enters ((m2.1 97 (0 : Int32).toNatClampNeg).toInt64) m2).bind (fun p3 => bif jx_in (0 : Int32) 16 then (f_M_enters ((p3.1 98 (0 : Int32).toNatClampNeg).toInt64) p3).bind (fun p4 => (f_M_enters ((p4.1 63 51).toInt64) p4).bind (fun p5 => f_M_missing_62 p5)) else none) else none))) else X) = (if decide (nI (thW c w).length ≤ 0) = true then (f_M_missing_62 (jx_w1 m2 63 1 0)) else ((f_M_enters ((m2.1 97 0).toInt64) (jx_w1 m2 63 1 0)).bind (fun p3 => (f_M_enters ((p3.1 98 0).toInt64) p3).bind (fun p4 => (f_M_enters ((p4.1 63 51).toInt64) p4).bind (fun p5 => f_M_missing_62 p5))))) := by
      intro X
      refine (ifnn ne10).trans ?_
      show (f_M_findsThefts (nI w) (jx_w1 m 63 0 0)).bind _ = _
      rw [r1, Option.bind_some]
      try dsimp only
      rw [h50]
      rfl
    rw [e0]
    cases hL : thW c w with
    | nil =>
      rw [hL] at h50
      refine ⟨_, s2, Or.inl ⟨hx, ?_, rM_0 m2⟩⟩
      refine (ifp (by decide)).trans ?_
      rw [e_M_missing_62, h50]
    | cons t r =>
      rw [hL] at h50 hlw r3
      obtain ⟨m3, q1, q2, q3⟩ := s_enters (pI t.1) (rM_0 m2) (by simp)
      obtain ⟨m4, t1, t2, t3⟩ := s_enters (pI t.2.1) q2 (by simp)
      obtain ⟨m5, u1, u2, u3⟩ := s_enters (pI (sumT (t :: r))) t2 (by simp)
      have a97 := (r3.2.2 0 (by simp)).1
      have a98 := (r3.2.2 0 (by simp)).2
      have hm5 : m5.1 63 50 = nI (t :: r).length := by
        rw [(u3 63 50 (by unfold wRM; omega)).1, (t3 63 50 (by unfold wRM; omega)).1, (q3 63 50 (by unfold wRM; omega)).1]
        exact h50
      have b98 : m3.1 98 0 = nI t.2.1 := by
        rw [(q3 98 0 (by unfold wRM; omega)).1, w1_cell (by omega)]
        exact a98
      have b51 : m4.1 63 51 = nI (sumT (t :: r)) := by
        rw [(t3 63 51 (by unfold wRM; omega)).1, (q3 63 51 (by unfold wRM; omega)).1, w1_idx (by omega)]
        exact r3.2.1
      refine ⟨m5, s2.tr (((q3.tr t3).tr u3).mono (fun a k z => Or.inr (by unfold wRM at z; unfold wTM; omega))), Or.inl ⟨hx, ?_, u2⟩⟩
      refine (ifn (nI_ge (a := 0) (b := (t :: r).length) (by simp) (by omega))).trans ?_
      rw [a97]
      show (f_M_enters (pI t.1) (jx_w1 m2 63 1 0)).bind _ = _
      rw [q1, Option.bind_some, b98]
      show (f_M_enters (pI t.2.1) m3).bind _ = _
      rw [t1, Option.bind_some, b51]
      show (f_M_enters (pI (sumT (t :: r))) m4).bind _ = _
      rw [u1, Option.bind_some, e_M_missing_62, hm5]
  · refine ⟨_, s1, Or.inr ⟨hx, ?_, rfl⟩⟩
    rw [s_mpl_f hx, Option.bind_some]
    exact ifnp eq00
theorem thW_bd (g : gCnt c) {w : Nat} {e : cT} (he : e ∈ thW c w) : e.1 ≤ 999 ∧ e.2.1 ≤ 999 := by
  have hum : ∀ y, y ∈ isC (c.filter (pw w)) → y.2.1 ≤ 999 := fun y hy => (g.2 y (List.mem_filter.mp ((isC_mem y _).mp hy)).1).2.1
  unfold thW at he
  generalize isC (c.filter (pw w)) = l at he hum
  induction l with
  | nil => cases he
  | cons a r ih =>
    cases r with
    | nil => cases he
    | cons b r =>
      have e2 : thf (a :: b :: r) = if b.2.2 < a.2.2 then (a.2.1, b.2.1, a.2.2 - b.2.2) :: thf (b :: r) else thf (b :: r) := rfl
      rw [e2] at he
      have ih2 := fun z => ih z (fun y hy => hum y (List.mem_cons_of_mem _ hy))
      split at he
      · rcases List.mem_cons.mp he with rfl | he
        · exact ⟨hum a (by simp), hum b (by simp)⟩
        · exact ih2 he
      · exact ih2 he
def wSuM (a k : Nat) : Prop := wFt a k ∨ (a = 63 ∧ k = 0)
theorem M_suspects (hc : cntM m c) (g : gCnt c) (hb : stayM m ns B) (gb : gStay P ns B) (hP : P ≤ 8) (x y : Int32) : ∃ m', sm wSuM m m' ∧ f_M_suspects x y m = some (@ite _ (cSus x y) (Classical.propDecidable _) (susV c B ns (jn x) (jn y)) (-1), m') := by
  have g1 := g.1
  have s1 : sm wSuM m (jx_w1 m 63 0 0) := sm_w1 (Or.inr ⟨rfl, rfl⟩)
  have hc1 : cntM (jx_w1 m 63 0 0) c := cntM_sm (Z := fun a k => a = 63 ∧ k = 0) hc (sm_w1 ⟨rfl, rfl⟩) (by intro a k; unfold dWM; omega)
  have hb1 : stayM (jx_w1 m 63 0 0) ns B := stayM_sm (Z := fun a k => a = 63 ∧ k = 0) hb (sm_w1 ⟨rfl, rfl⟩) (by intro a k; unfold dWM; omega)
  rw [e_M_suspects]
  try dsimp only
  by_cases hx : 0 ≤ x.toInt ∧ x.toInt < 10
  · by_cases hy : 0 ≤ y.toInt
    · obtain ⟨w, hw, rfl⟩ := nI_get hx.1 (show x.toInt < ((10 : Nat) : Int) from hx.2)
      have hy31 := Int32.toInt_lt y
      obtain ⟨q, hq, rfl⟩ := nI_get hy (show y.toInt < ((2 ^ 31 : Nat) : Int) by omega)
      rw [if_pos ⟨hx, hy⟩, jn_nI (show w < 2 ^ 31 by omega), jn_nI hq, s_mpl_t hx, Option.bind_some]
      obtain ⟨m2, r1, r2, r3⟩ := s_finds hc1 g hw
      have hb2 : stayM m2 ns B := stayM_sm hb1 r2 (by intro a k; unfold dWM wFt; omega)
      have hlw : (thW c w).length ≤ 15 := by
        have h1 := thf_len (isC (c.filter (pw w)))
        have h2 := List.length_filter_le (pw w) c
        rw [isC_len] at h1
        unfold thW
        omega
      refine ⟨m2, s1.tr (r2.mono (fun _ _ z => Or.inl z)), ?_⟩
      refine (ifn ne10).trans ?_
      refine (ifp (nI_pos' hq)).trans ?_
      try dsimp only
      rw [r1, Option.bind_some, r3.1]
      unfold susV
      by_cases d : q < (thW c w).length
      · refine (ifn (nI_ge d (by omega))).trans ?_
        have hm := thW_bd g (gC_mem d)
        rw [in_nI (show q < 16 by omega) (by omega), nI_cl hq, (r3.2.2 q d).1, (r3.2.2 q d).2, cond_true, cond_true, s_there hb2 gb hP hw hm.1 hm.2, Option.bind_some, e_M_suspects_53, if_pos d]
      · refine (ifp (nI_le (by omega) hq)).trans ?_
        rw [e_M_suspects_53, if_neg d]
    · refine ⟨_, s1, ?_⟩
      have q0 : ¬ (0 : Int32) ≤ y := fun z => hy (i_le.mp z)
      rw [if_neg (fun q => hy q.2), s_mpl_t hx, Option.bind_some]
      refine (ifn ne10).trans ?_
      refine (ifn q0).trans ?_
      rw [e_M_suspects_16]
  · refine ⟨_, s1, ?_⟩
    rw [if_neg (fun q => hx q.1), s_mpl_f hx, Option.bind_some]
    refine (ifp eq00).trans ?_
    rw [e_M_suspects_16]
end THEFTM
