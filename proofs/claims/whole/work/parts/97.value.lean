/-! the rule's code, and its values -/
def sgn (k : Nat) : Nat := if k = 0 then 108 else if k = 1 then 117 else if k = 2 then 110 else if k = 3 then 102 else if k = 4 then 119 else 107
def encF (c : Nat) : Int32 := if c < 1000 then nI c else if c < 2000 then -(nI (sgn (c - 1000))) else -(nI (c - 2000))
def isBin (ch : Nat) : Prop := ch = 124 ∨ ch = 38 ∨ ch = 60 ∨ ch = 62 ∨ ch = 61 ∨ ch = 43 ∨ ch = 45 ∨ ch = 42
def act (ch : Nat) (a b : Int32) : Int32 := if ch = 38 then (if a = 0 ∨ b = 0 then 0 else 1) else if ch = 43 then a + b else if ch = 45 then a - b else if ch = 60 then (if b ≤ a then 0 else 1) else if ch = 61 then (if a = b then 1 else 0) else if ch = 62 then (if a ≤ b then 0 else 1) else if ch = 124 then (if a = 0 ∧ b = 0 then 0 else 1) else a * b
def upI (f : Nat → Int32) (k : Nat) (v : Int32) : Nat → Int32 := fun i => if i = k then v else f i
/-- what a step wants: how high it must stand, how high it leaves -/
def okL : Nat → List Nat → Option Nat
  | h, [] => some h
  | h, c :: r => if c < 1006 then okL (h + 1) r else if (c = 2033 ∨ c = 2126) ∧ 1 ≤ h then okL h r else if 2000 ≤ c ∧ (c - 2000 = 124 ∨ c - 2000 = 38 ∨ c - 2000 = 60 ∨ c - 2000 = 62 ∨ c - 2000 = 61 ∨ c - 2000 = 43 ∨ c - 2000 = 45 ∨ c - 2000 = 42) ∧ 2 ≤ h then okL (h - 1) r else none
def stp1 (v : Nat → Int32) (c : Nat) (s : Nat × (Nat → Int32)) : Nat × (Nat → Int32) :=
  if c < 1000 then (s.1 + 1, upI s.2 s.1 (nI c)) else if c < 1006 then (s.1 + 1, upI s.2 s.1 (v (c - 1000))) else if c = 2033 then (s.1, upI s.2 (s.1 - 1) (if s.2 (s.1 - 1) = 0 then 1 else 0)) else if c = 2126 then (s.1, upI s.2 (s.1 - 1) (-(s.2 (s.1 - 1)))) else (s.1 - 1, upI s.2 (s.1 - 2) (act (c - 2000) (s.2 (s.1 - 2)) (s.2 (s.1 - 1))))
def rnL (v : Nat → Int32) : List Nat → Nat × (Nat → Int32) → Nat × (Nat → Int32)
  | [], s => s
  | c :: r, s => rnL v r (stp1 v c s)
def rvl (v : Nat → Int32) (cs : List Nat) : Int32 := if cs.length = 0 then 0 else (rnL v cs (0, fun _ => 0)).2 0
def sgV (D : Nat → Nat → Nat) (W A U L : Nat → Nat) (P p k : Nat) : Nat := if k = 0 then L p else if k = 1 then U p else if k = 2 then p else if k = 3 then D 0 (A p) else if k = 4 then W (A p) else fb_ct (fun q => decide (A q = A p)) P
def rV (D : Nat → Nat → Nat) (W A U L : Nat → Nat) (P : Nat) (cs : List Nat) (p : Nat) : Int32 := rvl (fun k => nI (sgV D W A U L P p k)) cs
def gCode (cs : List Nat) : Prop := cs.length ≤ 40 ∧ (cs = [] ∨ okL 0 cs = some 1)
def codeF (m : jx_Mem) (cs : List Nat) : Prop := m.1 18 4 = nI cs.length ∧ ∀ k, k < cs.length → m.1 20 k = encF (cs.getD k 0)
def codeM (m : jx_Mem) (cs : List Nat) : Prop := m.1 78 0 = nI cs.length ∧ ∀ k, k < cs.length → m.1 77 k = nI (cs.getD k 0)
def dCF (a k : Nat) : Prop := (a = 18 ∧ k = 4) ∨ a = 20
def dCM (a k : Nat) : Prop := (a = 78 ∧ k = 0) ∨ (a = 77 ∧ k < 48)
theorem sgn_lt (k : Nat) : sgn k < 256 ∧ 0 < sgn k := by
  unfold sgn
  repeat' split
  all_goals omega
theorem ng_neg {n : Nat} (h0 : 0 < n) (h : n < 2 ^ 31) : ¬ (0 : Int32) ≤ -(nI n) ∧ -(nI n) < 0 := by
  have e : (-(nI n)).toInt = -(n : Int) := by
    rw [fb_negI (by rw [nI_toInt h]; omega), nI_toInt h]
  constructor
  · intro z
    have := i_le.mp z
    rw [e, show (0 : Int32).toInt = 0 from rfl] at this
    omega
  · rw [i_lt, e, show (0 : Int32).toInt = 0 from rfl]
    omega
theorem okL_c {h c : Nat} {r : List Nat} {hf : Nat} (hk : okL h (c :: r) = some hf) : (c < 1000 ∧ okL (h + 1) r = some hf) ∨ (1000 ≤ c ∧ c < 1006 ∧ okL (h + 1) r = some hf) ∨ ((c = 2033 ∨ c = 2126) ∧ 1 ≤ h ∧ okL h r = some hf) ∨ (2000 ≤ c ∧ isBin (c - 2000) ∧ 2 ≤ h ∧ okL (h - 1) r = some hf) := by
  unfold okL at hk
  split at hk
  · rename_i c1
    by_cases d : c < 1000
    · exact Or.inl ⟨d, hk⟩
    · exact Or.inr (Or.inl ⟨by omega, c1, hk⟩)
  · split at hk
    · rename_i c1
      exact Or.inr (Or.inr (Or.inl ⟨c1.1, c1.2, hk⟩))
    · split at hk
      · rename_i c1
        exact Or.inr (Or.inr (Or.inr ⟨c1.1, c1.2.1, c1.2.2, hk⟩))
      · cases hk
section VALUE
variable {m m' : jx_Mem} {T P : Nat} {D : Nat → Nat → Nat} {W A U L : Nat → Nat} {cs : List Nat} {Z : Nat → Nat → Prop}
theorem codeF_sm (h : codeF m cs) (hs : sm Z m m') (hz : ∀ a k, dCF a k → ¬ Z a k) : codeF m' cs :=
  ⟨(hs 18 4 (hz 18 4 (by unfold dCF; omega))).1.trans h.1, fun k hk => (hs 20 k (hz 20 k (by unfold dCF; omega))).1.trans (h.2 k hk)⟩
theorem codeM_sm (h : codeM m cs) (hl : cs.length ≤ 40) (hs : sm Z m m') (hz : ∀ a k, dCM a k → ¬ Z a k) : codeM m' cs :=
  ⟨(hs 78 0 (hz 78 0 (by unfold dCM; omega))).1.trans h.1, fun k hk => (hs 77 k (hz 77 k (by unfold dCM; omega))).1.trans (h.2 k hk)⟩
theorem s_pAt (h : mineF m T P D W A U L) (g : gMine T P D W A U L) {w : Nat} (hw : w < 10) : f_Mine_peopleAt (nI w) m = some (nI (fb_ct (fun q => decide (A q = w)) P), m) := by
  have hP := g.2.1
  have key := lp_up (fun i z => f_Mine_peopleAt_4 (nI w) z i m) (fun n => nI (fb_ct (fun q => decide (A q = w)) n)) P (by
    intro n hn
    have hA := (g.2.2.2.2.2 n hn).1
    rw [e_Mine_peopleAt_4, h.2.1]
    refine (ifn (nI_ge (a := n) (b := P) hn (by omega))).trans ?_
    rw [in_nI (show n < 8 by omega) (by omega), nI_cl (by omega), cond_true, (h.2.2.2.2 n hn).1, fb_ct_succ]
    by_cases c : A n = w
    · refine (ifnp (by rw [c])).trans ?_
      rw [e_Mine_peopleAt_25, nI_1, nI_1, decide_eq_true c]
      rfl
    · refine (ifnn (fun z => c ((nI_eq (by omega) (by omega)).mp z))).trans ?_
      rw [e_Mine_peopleAt_25, nI_1, decide_eq_false c]
      rfl) 0 (Nat.zero_le _)
  rw [e_Mine_peopleAt]
  refine Eq.trans (b := f_Mine_peopleAt_4 (nI w) (nI (fb_ct (fun q => decide (A q = w)) P)) (nI P) m) key ?_
  rw [e_Mine_peopleAt_4, h.2.1]
  exact ifp (nI_le (Nat.le_refl _) (by omega))
theorem s_flag (v : Int32) (m : jx_Mem) (hv : v = 0 ∨ v = 1) : f_M_flag v m = some (v, m) := by
  rw [e_M_flag]
  rcases hv with rfl | rfl
  · exact (ifp eq00).trans (e_M_flag_9 _ _)
  · exact (ifn ne10).trans (e_M_flag_9 _ _)
theorem s_bit (v : Int32) (m : jx_Mem) (hv : v = 0 ∨ v = 1) : f_Rule_bit v m = some (v, m) := by
  rw [e_Rule_bit]
  rcases hv with rfl | rfl
  · exact (ifp eq00).trans (e_Rule_bit_9 _ _)
  · exact (ifn ne10).trans (e_Rule_bit_9 _ _)
theorem s_mpAt (h : mineM m T P D W A U L) (g : gMine T P D W A U L) {w : Nat} (hw : w < 10) : f_M_peopleAt (nI w) m = some (nI (fb_ct (fun q => decide (A q = w)) P), m) := by
  have hP := g.2.1
  have key := lp_up (fun i z => f_M_peopleAt_4 (nI w) z i m) (fun n => nI (fb_ct (fun q => decide (A q = w)) n)) P (by
    intro n hn
    have hA := (g.2.2.2.2.2 n hn).1
    rw [e_M_peopleAt_4, h.2.1]
    refine (ifn (nI_ge (a := n) (b := P) hn (by omega))).trans ?_
    rw [in_nI (show n < 8 by omega) (by omega), nI_cl (by omega), cond_true, (h.2.2.2.2 n hn).1, fb_ct_succ]
    by_cases c : A n = w
    · refine (ifnp (by rw [c])).trans ?_
      rw [e_M_peopleAt_28, s_flag 1 _ (Or.inr rfl), Option.bind_some, nI_1, decide_eq_true c]
      try dsimp only
      rw [nI_1]
      rfl
    · refine (ifnn (fun z => c ((nI_eq (by omega) (by omega)).mp z))).trans ?_
      rw [e_M_peopleAt_28, s_flag 0 _ (Or.inl rfl), Option.bind_some, nI_1, decide_eq_false c]
      try dsimp only
      rw [Int32.add_zero]
      rfl) 0 (Nat.zero_le _)
  rw [e_M_peopleAt]
  refine Eq.trans (b := f_M_peopleAt_4 (nI w) (nI (fb_ct (fun q => decide (A q = w)) P)) (nI P) m) key ?_
  rw [e_M_peopleAt_4, h.2.1]
  exact ifp (nI_le (Nat.le_refl _) (by omega))
theorem s_signFor (h : mineF m T P D W A U L) (g : gMine T P D W A U L) {p k : Nat} (hp : p < P) (hk : k < 6) : f_Rule_signFor (nI (sgn k)) (nI p) m = some (nI (sgV D W A U L P p k), m) := by
  have hA := (g.2.2.2.2.2 p hp).1
  rw [e_Rule_signFor, s_placeOf h g hp, Option.bind_some]
  rcases (show k = 0 ∨ k = 1 ∨ k = 2 ∨ k = 3 ∨ k = 4 ∨ k = 5 by omega) with rfl | rfl | rfl | rfl | rfl | rfl
  · show (if decide ((108 : Int32) = 102) = true then _ else if decide ((108 : Int32) = 108) = true then _ else _) = _
    simp [s_loadOf h g hp, sgV]
  · show (if decide ((117 : Int32) = 102) = true then _ else if decide ((117 : Int32) = 108) = true then _ else if decide ((117 : Int32) = 110) = true then _ else if decide ((117 : Int32) = 117) = true then _ else _) = _
    simp [s_purseOf h g hp, sgV]
  · show (if decide ((110 : Int32) = 102) = true then _ else if decide ((110 : Int32) = 108) = true then _ else if decide ((110 : Int32) = 110) = true then _ else _) = _
    simp [sgV]
  · show (if decide ((102 : Int32) = 102) = true then _ else _) = _
    simp [s_farOut h g hp, sgV]
  · show (if decide ((119 : Int32) = 102) = true then _ else if decide ((119 : Int32) = 108) = true then _ else if decide ((119 : Int32) = 110) = true then _ else if decide ((119 : Int32) = 117) = true then _ else if decide ((119 : Int32) = 119) = true then _ else _) = _
    simp [s_wallOf h hA, sgV]
  · show (if decide ((107 : Int32) = 102) = true then _ else if decide ((107 : Int32) = 108) = true then _ else if decide ((107 : Int32) = 110) = true then _ else if decide ((107 : Int32) = 117) = true then _ else if decide ((107 : Int32) = 119) = true then _ else _) = _
    simp [s_pAt h g hA, sgV]
theorem s_valueOf (h : mineM m T P D W A U L) (g : gMine T P D W A U L) {p k : Nat} (hp : p < P) (hk : k < 6) : f_M_valueOf (nI k) (nI p) m = some (nI (sgV D W A U L P p k), m) := by
  have hP := g.2.1
  have hA := (g.2.2.2.2.2 p hp).1
  have hsy := (g.2.2.1.2 (A p) 0 hA (by omega)).2.1
  have cp : jx_in (nI p) 8 = true := in_nI (show p < 8 by omega) (by omega)
  have kp : (nI p).toNatClampNeg = p := nI_cl (show p < 2 ^ 31 by omega)
  have hq := h.2.2.2.2 p hp
  have hf : f_M_farOf (nI (A p)) 0 m = some (nI (D 0 (A p)), m) := by rw [← hsy]; exact s_far h g.2.2.1 hA (show 0 < 10 by omega)
  rw [e_M_valueOf, cp, kp, hq.1, hq.2.1, hq.2.2]
  simp only [cond_true]
  rcases (show k = 0 ∨ k = 1 ∨ k = 2 ∨ k = 3 ∨ k = 4 ∨ k = 5 by omega) with rfl | rfl | rfl | rfl | rfl | rfl
  · exact ifp (by decide)
  · exact (ifn (by decide)).trans (ifp (by decide))
  · exact (ifn (by decide)).trans ((ifn (by decide)).trans (ifp (by decide)))
  · refine (ifn (by decide)).trans ((ifn (by decide)).trans ((ifn (by decide)).trans ((ifp (by decide)).trans ?_)))
    rw [hf]
    rfl
  · refine (ifn (by decide)).trans ((ifn (by decide)).trans ((ifn (by decide)).trans ((ifn (by decide)).trans ((ifp (by decide)).trans ?_))))
    rw [in_nI hA (by omega), nI_cl (show A p < 2 ^ 31 by omega), h.2.2.2.1 _ hA]
    rfl
  · refine (ifn (by decide)).trans ((ifn (by decide)).trans ((ifn (by decide)).trans ((ifn (by decide)).trans ((ifn (by decide)).trans ?_))))
    rw [s_mpAt h g hA]
    rfl
theorem s_isSign_t {k : Nat} (hk : k < 6) : f_Rule_isSign (nI (sgn k)) m = some (1, m) := by
  rw [e_Rule_isSign]
  have f36 : f_Rule_isSign_36 m = some (1, m) := by rw [e_Rule_isSign_36, e_Rule_isSign_41]; rfl
  rw [f36]
  rcases (show k = 0 ∨ k = 1 ∨ k = 2 ∨ k = 3 ∨ k = 4 ∨ k = 5 by omega) with rfl | rfl | rfl | rfl | rfl | rfl
  · exact ifp (by decide)
  · exact (ifn (by decide)).trans (ifp (by decide))
  · exact (ifn (by decide)).trans ((ifn (by decide)).trans (ifp (by decide)))
  · exact (ifn (by decide)).trans ((ifn (by decide)).trans ((ifn (by decide)).trans (ifp (by decide))))
  · exact (ifn (by decide)).trans ((ifn (by decide)).trans ((ifn (by decide)).trans ((ifn (by decide)).trans (ifp (by decide)))))
  · exact (ifn (by decide)).trans ((ifn (by decide)).trans ((ifn (by decide)).trans ((ifn (by decide)).trans ((ifn (by decide)).trans (ifnp (by decide))))))
theorem s_isSign_f {ch : Nat} (hc : isBin ch ∨ ch = 33 ∨ ch = 126) : f_Rule_isSign (nI ch) m = some (0, m) := by
  rw [e_Rule_isSign]
  have f41 : f_Rule_isSign_41 0 m = some (0, m) := by rw [e_Rule_isSign_41]; rfl
  rw [f41]
  unfold isBin at hc
  rcases hc with (rfl | rfl | rfl | rfl | rfl | rfl | rfl | rfl) | rfl | rfl
  all_goals exact (ifn (by decide)).trans ((ifn (by decide)).trans ((ifn (by decide)).trans ((ifn (by decide)).trans ((ifn (by decide)).trans (ifnn (by decide))))))
theorem s_lvW_u {ch : Nat} (hc : ch = 33 ∨ ch = 126) : f_Rule_levelWaiting (nI ch) m = some (6, m) := by
  rw [e_Rule_levelWaiting, e_Rule_levelWaiting_12, e_Rule_levelWaiting_21]
  rcases hc with rfl | rfl
  · exact ifp (by decide)
  · exact (ifn (by decide)).trans (ifnp (by decide))
def lvB (ch : Nat) : Nat := if ch = 38 then 2 else if ch = 42 then 5 else if ch = 43 then 4 else if ch = 45 then 4 else if ch = 60 then 3 else if ch = 61 then 3 else if ch = 62 then 3 else if ch = 124 then 1 else 0
theorem lvB_le (ch : Nat) : lvB ch ≤ 5 := by
  unfold lvB
  repeat' split
  all_goals omega
theorem s_lvB {ch : Nat} (hc : ch < 2 ^ 31) : f_Rule_levelBetween (nI ch) m = some (nI (lvB ch), m) := by
  rw [e_Rule_levelBetween]
  unfold lvB
  have st : ∀ (q : Nat) (x y : Option (Int32 × jx_Mem)), q < 2 ^ 31 → (if decide (nI ch = nI q) = true then x else y) = if ch = q then x else y := by
    intro q x y hq
    by_cases c : ch = q
    · rw [if_pos c]; exact ifp (by rw [c])
    · rw [if_neg c]; exact ifn (fun z => c ((nI_eq hc hq).mp z))
  show (if decide (nI ch = nI 38) = true then _ else if decide (nI ch = nI 42) = true then _ else if decide (nI ch = nI 43) = true then _ else if decide (nI ch = nI 45) = true then _ else if decide (nI ch = nI 60) = true then _ else if decide (nI ch = nI 61) = true then _ else if decide (nI ch = nI 62) = true then _ else if decide (nI ch = nI 124) = true then _ else _) = _
  rw [st 38 _ _ (by omega), st 42 _ _ (by omega), st 43 _ _ (by omega), st 45 _ _ (by omega), st 60 _ _ (by omega), st 61 _ _ (by omega), st 62 _ _ (by omega), st 124 _ _ (by omega)]
  repeat' split
  all_goals rfl
theorem s_lvW_b {ch : Nat} (hc : isBin ch) : f_Rule_levelWaiting (nI ch) m = some (nI (lvB ch), m) := by
  have hl : ch < 2 ^ 31 := by unfold isBin at hc; omega
  rw [e_Rule_levelWaiting, s_lvB hl, Option.bind_some, e_Rule_levelWaiting_21]
  unfold isBin at hc
  rcases hc with rfl | rfl | rfl | rfl | rfl | rfl | rfl | rfl
  all_goals exact (ifn (by decide)).trans (ifnn (by decide))
theorem s_between {ch : Nat} (hc : isBin ch) (a b : Int32) : f_Rule_between (nI ch) a b m = some (act ch a b, m) := by
  rw [e_Rule_between]
  simp only [e_Rule_between_97, e_Rule_between_98, e_Rule_between_112, e_Rule_between_126, e_Rule_between_140, e_Rule_between_76, e_Rule_between_81, s_bit 0 _ (Or.inl rfl), s_bit 1 _ (Or.inr rfl), Option.bind_some]
  unfold isBin at hc
  rcases hc with rfl | rfl | rfl | rfl | rfl | rfl | rfl | rfl
  · refine (ifn (by decide)).trans ((ifn (by decide)).trans ((ifn (by decide)).trans ((ifn (by decide)).trans ((ifn (by decide)).trans ((ifn (by decide)).trans ((ifp (by decide)).trans ?_))))))
    show _ = some ((if a = 0 ∧ b = 0 then 0 else 1), m)
    by_cases c : a = 0
    · refine (ifnp c).trans ?_
      by_cases d : b = 0
      · exact (ifp d).trans (by rw [if_pos ⟨c, d⟩])
      · exact (ifn d).trans (by rw [if_neg (fun z => d z.2)])
    · exact (ifnn c).trans (by rw [if_neg (fun z => c z.1)])
  · refine (ifp (by decide)).trans ?_
    show _ = some ((if a = 0 ∨ b = 0 then 0 else 1), m)
    by_cases c : a = 0
    · exact (ifp c).trans (by rw [if_pos (Or.inl c)])
    · refine (ifn c).trans ?_
      by_cases d : b = 0
      · exact (ifp d).trans (by rw [if_pos (Or.inr d)])
      · exact (ifn d).trans (by rw [if_neg (fun z => z.elim c d)])
  · refine (ifn (by decide)).trans ((ifn (by decide)).trans ((ifn (by decide)).trans ((ifp (by decide)).trans ?_)))
    show _ = some ((if b ≤ a then 0 else 1), m)
    by_cases c : b ≤ a
    · exact (ifp c).trans (by rw [if_pos c])
    · exact (ifn c).trans (by rw [if_neg c])
  · refine (ifn (by decide)).trans ((ifn (by decide)).trans ((ifn (by decide)).trans ((ifn (by decide)).trans ((ifn (by decide)).trans ((ifp (by decide)).trans ?_)))))
    show _ = some ((if a ≤ b then 0 else 1), m)
    by_cases c : a ≤ b
    · exact (ifp c).trans (by rw [if_pos c])
    · exact (ifn c).trans (by rw [if_neg c])
  · refine (ifn (by decide)).trans ((ifn (by decide)).trans ((ifn (by decide)).trans ((ifn (by decide)).trans ((ifp (by decide)).trans ?_))))
    show _ = some ((if a = b then 1 else 0), m)
    by_cases c : a = b
    · exact (ifnp c).trans (by rw [if_pos c])
    · exact (ifnn c).trans (by rw [if_neg c])
  · exact (ifn (by decide)).trans (ifp (by decide))
  · exact (ifn (by decide)).trans ((ifn (by decide)).trans (ifp (by decide)))
  · exact (ifn (by decide)).trans ((ifn (by decide)).trans ((ifn (by decide)).trans ((ifn (by decide)).trans ((ifn (by decide)).trans ((ifn (by decide)).trans (ifn (by decide)))))))
theorem s_acted {ch : Nat} (hc : isBin ch) (a b : Int32) : f_M_acted (nI ch) a b m = some (act ch a b, m) := by
  rw [e_M_acted]
  simp only [e_M_acted_182, e_M_acted_183, e_M_acted_138, e_M_acted_152, e_M_acted_166, e_M_acted_195, e_M_acted_200, s_flag 0 _ (Or.inl rfl), s_flag 1 _ (Or.inr rfl), Option.bind_some]
  unfold isBin at hc
  have lit : ∀ q : Nat, (OfNat.ofNat q : Int32) = nI q := fun q => rfl
  have or2 : (if decide (¬ a = 0) = true then (some ((1 : Int32), m)) else (if decide (b = 0) = true then (some ((0 : Int32), m)) else (some ((1 : Int32), m)))) = some ((if a = 0 ∧ b = 0 then 0 else 1), m) := by
    by_cases c : a = 0
    · refine (ifnp c).trans ?_
      by_cases d : b = 0
      · exact (ifp d).trans (by rw [if_pos ⟨c, d⟩])
      · exact (ifn d).trans (by rw [if_neg (fun z => d z.2)])
    · exact (ifnn c).trans (by rw [if_neg (fun z => c z.1)])
  rw [or2]
  rcases hc with rfl | rfl | rfl | rfl | rfl | rfl | rfl | rfl
  · repeat first | exact rfl | refine (ifn (by decide)).trans ?_
  · refine (ifp (by decide)).trans ?_
    show _ = some ((if a = 0 ∨ b = 0 then 0 else 1), m)
    by_cases c : a = 0
    · exact (ifp c).trans (by rw [if_pos (Or.inl c)])
    · refine (ifn c).trans ?_
      by_cases d : b = 0
      · exact (ifp d).trans (by rw [if_pos (Or.inr d)])
      · exact (ifn d).trans (by rw [if_neg (fun z => z.elim c d)])
  · repeat first | refine (ifn (show ¬ nI 60 = _ by decide)).trans ?_ | refine (ifp (show nI 60 = _ by decide)).trans ?_
    show _ = some ((if b ≤ a then 0 else 1), m)
    by_cases c : b ≤ a
    · exact (ifp c).trans (by rw [if_pos c])
    · exact (ifn c).trans (by rw [if_neg c])
  · repeat first | refine (ifn (show ¬ nI 62 = _ by decide)).trans ?_ | refine (ifp (show nI 62 = _ by decide)).trans ?_
    show _ = some ((if a ≤ b then 0 else 1), m)
    by_cases c : a ≤ b
    · exact (ifp c).trans (by rw [if_pos c])
    · exact (ifn c).trans (by rw [if_neg c])
  · repeat first | refine (ifn (show ¬ nI 61 = _ by decide)).trans ?_ | refine (ifp (show nI 61 = _ by decide)).trans ?_
    show _ = some ((if a = b then 1 else 0), m)
    by_cases c : a = b
    · exact (ifnp c).trans (by rw [if_pos c])
    · exact (ifnn c).trans (by rw [if_neg c])
  · repeat first | refine (ifn (show ¬ nI 43 = _ by decide)).trans ?_ | exact (ifp (show nI 43 = _ by decide)).trans rfl
  · repeat first | refine (ifn (show ¬ nI 45 = _ by decide)).trans ?_ | exact (ifp (show nI 45 = _ by decide)).trans rfl
  · repeat first | refine (ifn (show ¬ nI 42 = _ by decide)).trans ?_ | exact (ifp (show nI 42 = _ by decide)).trans rfl
end VALUE
