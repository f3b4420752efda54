/-! lamp, of, thing, row, and sums -/
theorem s_fill7 (v : Int32) (m : jx_Mem) : ∃ m', f_Arr_fill_r7 v m = some m' ∧ (∀ j, j < 8 → m'.1 7 j = v) ∧ sm (fun a j => a = 7 ∧ j < 8) m m' := by
  obtain ⟨m', r1, r2, r3⟩ := fill_lp (fun i m => f_Arr_fill_5_r7 v i 8 m) 7 8 v (by
    intro m
    rw [e_Arr_fill_5_r7]
    exact ifp (by decide)) (by
    intro i m hi
    rw [e_Arr_fill_5_r7]
    refine (ifn (nI_ge (b := 8) hi (by omega))).trans ?_
    rw [in_nI hi (by omega), nI_cl (by omega), nI_1]
    rfl) 8 0 (by omega) m
  refine ⟨m', by rw [e_Arr_fill_r7]; exact r1, fun j hj => ?_, r3⟩
  rw [r2 j, if_pos ⟨Nat.zero_le _, hj⟩]
def nrB (D : Nat → Nat → Nat) (A : Nat → Nat) (w : Nat) : Nat → Bool := fun p => decide (D w (A p) ≤ 10)
def ownB (Ow : Nat → Nat) (R : Nat) : Nat → Bool := fun i => R.testBit (Ow i)
def wtB (Gd Ow : Nat → Nat) (Wn Pr : Nat → Nat → Nat) (R i : Nat) : Nat → Bool := fun p => (R.testBit p && !(p == Ow i)) && decide (Pr 0 i < Wn p (Gd i))
def twB (Gd Ow : Nat → Nat) (Sd : Nat → Bool) (Wn Pr : Nat → Nat → Nat) (R P : Nat) : Nat → Bool := fun i => R.testBit (Ow i) && (!Sd i && decide (2 ≤ fb_ct (wtB Gd Ow Wn Pr R i) P))
section LAMP
variable {m m' : jx_Mem} {T P : Nat} {D : Nat → Nat → Nat} {W A U L : Nat → Nat} {Q : Nat → Nat}
variable {I S : Nat} {Gd Ow : Nat → Nat} {Sd : Nat → Bool} {Y : Nat → Nat → Nat} {Wn : Nat → Nat → Nat} {wd : Nat} {Pr : Nat → Nat → Nat}
theorem s_near (h : mineF m T P D W A U L) (g : gMine T P D W A U L) {w : Nat} (hw : w < 10) : f_Mine_peopleNear (nI w) 10 m = some (nI (bs (nrB D A w) P), m) := by
  have hP := g.2.1
  have key := lp_up (fun i z => f_Mine_peopleNear_5 (nI w) 10 z i m) (fun n => nI (bs (nrB D A w) n)) P (by
    intro n hn
    have hA := (g.2.2.2.2.2 n hn).1
    have hD := (g.2.2.1.2 w (A n) hw hA).1
    rw [e_Mine_peopleNear_5, h.2.1]
    refine (ifn (nI_ge (a := n) (b := P) hn (by omega))).trans ?_
    rw [in_nI (show n < 8 by omega) (by omega), nI_cl (by omega), cond_true, (h.2.2.2.2 n hn).1, s_dist h hw hA, Option.bind_some]
    by_cases c : D w (A n) ≤ 10
    · refine (ifn (nI_nlt (a := 10) (b := D w (A n)) c (by omega))).trans ?_
      rw [e_Mine_peopleNear_37, nI_1, or_bs_t (by omega) (by simp [nrB, c])]
    · refine (ifp (nI_lt (a := 10) (b := D w (A n)) (by omega) (by omega))).trans ?_
      rw [e_Mine_peopleNear_37, nI_1, bs_f (by simp [nrB]; omega)]) 0 (Nat.zero_le _)
  rw [e_Mine_peopleNear]
  refine Eq.trans (b := f_Mine_peopleNear_5 (nI w) 10 (nI (bs (nrB D A w) P)) (nI P) m) key ?_
  rw [e_Mine_peopleNear_5, h.2.1]
  exact ifp (nI_le (Nat.le_refl _) (by omega))
theorem s_owned (g : gMine T P D W A U L) (hi : itemsF m I S Gd Ow Sd Y) (gi : gItems P I S Gd Ow Sd Y) {R : Nat} (hR : R < 2 ^ 8) : f_Items_ownedBy (nI R) m = some (nI (bs (ownB Ow R) I), m) := by
  have hP := g.2.1
  have hI := gi.1
  have key := lp_up (fun i z => f_Items_ownedBy_4 (nI R) z i m) (fun n => nI (bs (ownB Ow R) n)) I (by
    intro n hn
    have hO := (gi.2.2.1 n hn).2
    rw [e_Items_ownedBy_4, hi.1]
    refine (ifn (nI_ge (a := n) (b := I) hn (by omega))).trans ?_
    rw [in_nI (show n < 12 by omega) (by omega), nI_cl (by omega), cond_true, (hi.2.2.2.1 n hn).2]
    by_cases c : R.testBit (Ow n) = true
    · rw [s_has_t (by omega) (by omega) c, Option.bind_some]
      refine (ifn ne10).trans ?_
      rw [e_Items_ownedBy_31, nI_1, or_bs_t (by omega) (by simp [ownB, c])]
    · have c2 : R.testBit (Ow n) = false := by simpa using c
      rw [s_has_f (by omega) (by omega) c2, Option.bind_some]
      refine (ifp eq00).trans ?_
      rw [e_Items_ownedBy_31, nI_1, bs_f (by simp [ownB, c2])]) 0 (Nat.zero_le _)
  rw [e_Items_ownedBy]
  refine Eq.trans (b := f_Items_ownedBy_4 (nI R) (nI (bs (ownB Ow R) I)) (nI I) m) key ?_
  rw [e_Items_ownedBy_4, hi.1]
  exact ifp (nI_le (Nat.le_refl _) (by omega))
theorem s_wanters (h : mineF m T P D W A U L) (g : gMine T P D W A U L) (hi : itemsF m I S Gd Ow Sd Y) (gi : gItems P I S Gd Ow Sd Y) (ha : askF m I Wn wd Pr) (ga : gAsk I Wn wd Pr) {R i : Nat} (hR : R < 2 ^ 8) (hi2 : i < I) : f_Asking_wanters (nI i) (nI R) m = some (nI (fb_ct (wtB Gd Ow Wn Pr R i) P), m) := by
  have hP := g.2.1
  have hI := gi.1
  have hO := (gi.2.2.1 i hi2).2
  have hG := (gi.2.2.1 i hi2).1
  have hpr := ga.2.2.2 0 i (by omega) hi2
  have key := lp_up (fun j z => f_Asking_wanters_5 (nI i) (nI R) z j m) (fun n => nI (fb_ct (wtB Gd Ow Wn Pr R i) n)) P (by
    intro n hn
    have hw := ga.1 n (Gd i) (by omega) hG
    have skip : wtB Gd Ow Wn Pr R i n = false → f_Asking_wanters_76 (nI i) (nI R) (nI (fb_ct (wtB Gd Ow Wn Pr R i) n)) (nI n) m = f_Asking_wanters_5 (nI i) (nI R) (nI (fb_ct (wtB Gd Ow Wn Pr R i) (n + 1))) (nI (n + 1)) m := by
      intro z
      rw [e_Asking_wanters_76, nI_1, fb_ct_succ, z]
      rfl
    rw [e_Asking_wanters_5, e_Mine_people, Option.bind_some, h.2.1]
    refine (ifn (nI_ge (a := n) (b := P) hn (by omega))).trans ?_
    try dsimp only
    by_cases c : R.testBit n = true
    · rw [s_has_t (by omega) (by omega) c, Option.bind_some]
      refine (ifn ne10).trans ?_
      try dsimp only
      rw [s_ownerOf hi hI hi2, Option.bind_some]
      by_cases d : n = Ow i
      · refine (ifp (by rw [d])).trans ?_
        rw [e_Asking_wanters_43, e_Asking_wanters_44]
        exact (ifp eq00).trans (skip (by simp [wtB, d]))
      · refine (ifn (fun z => d ((nI_eq (by omega) (by omega)).mp z))).trans ?_
        rw [e_Asking_wanters_44]
        refine (ifn ne10).trans ?_
        try dsimp only
        rw [s_goodOf hi hI hi2, Option.bind_some]
        try dsimp only
        rw [s_wantsOf h g ha hn hG, Option.bind_some]
        try dsimp only
        rw [s_priceOf hi hI ha hi2, Option.bind_some]
        by_cases e : Pr 0 i < Wn n (Gd i)
        · refine (ifn (nI_ge e (by omega))).trans ?_
          have z : wtB Gd Ow Wn Pr R i n = true := by simp [wtB, c, d, e]
          rw [e_Asking_wanters_76, nI_1, nI_1, fb_ct_succ, z]
          rfl
        · refine (ifp (nI_le (by omega) (by omega))).trans ?_
          exact skip (by simp [wtB, e])
    · have c2 : R.testBit n = false := by simpa using c
      rw [s_has_f (by omega) (by omega) c2, Option.bind_some]
      refine (ifp eq00).trans ?_
      rw [e_Asking_wanters_43, e_Asking_wanters_44]
      exact (ifp eq00).trans (skip (by simp [wtB, c2]))) 0 (Nat.zero_le _)
  rw [e_Asking_wanters]
  refine Eq.trans (b := f_Asking_wanters_5 (nI i) (nI R) (nI (fb_ct (wtB Gd Ow Wn Pr R i) P)) (nI P) m) key ?_
  rw [e_Asking_wanters_5, e_Mine_people, Option.bind_some, h.2.1]
  exact ifp (nI_le (Nat.le_refl _) (by omega))
theorem s_byTwo (h : mineF m T P D W A U L) (g : gMine T P D W A U L) (hi : itemsF m I S Gd Ow Sd Y) (gi : gItems P I S Gd Ow Sd Y) (ha : askF m I Wn wd Pr) (ga : gAsk I Wn wd Pr) {R : Nat} (hR : R < 2 ^ 8) : f_Asking_wantedByTwo (nI (bs (ownB Ow R) I)) (nI R) m = some (nI (bs (twB Gd Ow Sd Wn Pr R P) I), m) := by
  have hP := g.2.1
  have hI := gi.1
  have key := lp_up (fun j z => f_Asking_wantedByTwo_5 (nI (bs (ownB Ow R) I)) (nI R) z j m) (fun n => nI (bs (twB Gd Ow Sd Wn Pr R P) n)) I (by
    intro n hn
    have hc := fb_ct_le (wtB Gd Ow Wn Pr R n) P
    have hb : (bs (ownB Ow R) I).testBit n = R.testBit (Ow n) := by rw [bs_tb]; simp [hn, ownB]
    have skip : twB Gd Ow Sd Wn Pr R P n = false → f_Asking_wantedByTwo_56 (nI (bs (ownB Ow R) I)) (nI R) (nI (bs (twB Gd Ow Sd Wn Pr R P) n)) (nI n) m = f_Asking_wantedByTwo_5 (nI (bs (ownB Ow R) I)) (nI R) (nI (bs (twB Gd Ow Sd Wn Pr R P) (n + 1))) (nI (n + 1)) m := by
      intro z
      rw [e_Asking_wantedByTwo_56, nI_1, bs_f z]
    rw [e_Asking_wantedByTwo_5, e_Items_size, Option.bind_some, hi.1]
    refine (ifn (nI_ge (a := n) (b := I) hn (by omega))).trans ?_
    try dsimp only
    by_cases c : R.testBit (Ow n) = true
    · rw [s_has_t (bs12 hI) (by omega) (hb.trans c), Option.bind_some]
      refine (ifn ne10).trans ?_
      try dsimp only
      rw [s_isSold hi hI hn, Option.bind_some]
      cases hs : Sd n with
      | true => exact (ifnn (show ¬ bi true = 0 from ne10)).trans (skip (by simp [twB, hs]))
      | false =>
        refine (ifnp (show bi false = 0 from rfl)).trans ?_
        try dsimp only
        rw [s_wanters h g hi gi ha ga hR hn, Option.bind_some]
        by_cases e : 2 ≤ fb_ct (wtB Gd Ow Wn Pr R n) P
        · refine (ifn (nI_nlt (b := 2) e (by omega))).trans ?_
          rw [e_Asking_wantedByTwo_56, nI_1, or_bs_t (by omega) (by simp [twB, c, hs, e])]
        · refine (ifp (nI_lt (b := 2) (by omega) (by omega))).trans ?_
          exact skip (by simp [twB]; omega)
    · have c2 : R.testBit (Ow n) = false := by simpa using c
      rw [s_has_f (bs12 hI) (by omega) (hb.trans c2), Option.bind_some]
      exact (ifp eq00).trans (skip (by simp [twB, c2]))) 0 (Nat.zero_le _)
  rw [e_Asking_wantedByTwo]
  refine Eq.trans (b := f_Asking_wantedByTwo_5 (nI (bs (ownB Ow R) I)) (nI R) (nI (bs (twB Gd Ow Sd Wn Pr R P) I)) (nI I) m) key ?_
  rw [e_Asking_wantedByTwo_5, e_Items_size, Option.bind_some, hi.1]
  exact ifp (nI_le (Nat.le_refl _) (by omega))
theorem nr8 (hP : P ≤ 8) (w : Nat) : bs (nrB D A w) P < 2 ^ 8 := Nat.lt_of_lt_of_le (bs_lt _ P) (Nat.pow_le_pow_right (by omega) hP)
def wLF (a k : Nat) : Prop := a = 7 ∨ wRF a k
def wLM (a k : Nat) : Prop := a = 68 ∨ wTM a k
def lampR (D : Nat → Nat → Nat) (A : Nat → Nat) (P I : Nat) (Gd Ow : Nat → Nat) (Sd : Nat → Bool) (Wn Pr : Nat → Nat → Nat) (w : Nat) : List Int64 :=
  [pI (bs (ownB Ow (bs (nrB D A w) P)) I), pI (bs (twB Gd Ow Sd Wn Pr (bs (nrB D A w) P) P) I)]
theorem F_lamp (h : mineF m T P D W A U L) (g : gMine T P D W A U L) (hi : itemsF m I S Gd Ow Sd Y) (gi : gItems P I S Gd Ow Sd Y) (ha : askF m I Wn wd Pr) (ga : gAsk I Wn wd Pr) (hq : airF m Q) (gq : gAir Q) (x : Int32) : ∃ m', sm wLF m m' ∧
    (((0 ≤ x.toInt ∧ x.toInt < 10) ∧ Q 0 < Q 3 ∧ f_F_lamp x m = some (nI (bs (nrB D A (jn x)) P), m') ∧ sm wRF m m' ∧ rF m' (lampR D A P I Gd Ow Sd Wn Pr (jn x))) ∨
     ((0 ≤ x.toInt ∧ x.toInt < 10) ∧ ¬ Q 0 < Q 3 ∧ f_F_lamp x m = some (-2, m') ∧ sm (fun a k => a = 7 ∧ k < 8) m m' ∧ mineF m' T P D W A (fun _ => 0) L) ∨ (¬ (0 ≤ x.toInt ∧ x.toInt < 10) ∧ f_F_lamp x m = some (-1, m') ∧ m' = m)) := by
  have hP := g.2.1
  have hI := gi.1
  obtain ⟨g0, g1, g2, g3⟩ := gq
  have q0 := hq 0 (by omega)
  have q3 := hq 3 (by omega)
  rw [e_F_lamp]
  by_cases hx : 0 ≤ x.toInt ∧ x.toInt < 10
  · obtain ⟨w, hw, rfl⟩ := nI_get hx.1 (show x.toInt < ((10 : Nat) : Int) from hx.2)
    rw [s_pl_t hx, jn_nI (show w < 2 ^ 31 by omega), Option.bind_some]
    by_cases c : Q 0 < Q 3
    · obtain ⟨m1, r1, r2, r3⟩ := s_tell2 (pI (bs (ownB Ow (bs (nrB D A w) P)) I)) (pI (bs (twB Gd Ow Sd Wn Pr (bs (nrB D A w) P) P) I)) m
      refine ⟨m1, r3.mono (fun _ _ h => Or.inr h), Or.inl ⟨hx, c, ?_, r3, r2⟩⟩
      refine (ifnn ne10).trans ?_
      have eb : f_Air_burns m = some (0, m) := by
        rw [e_Air_burns, q0, q3]
        refine (ifp (nI_lt c (by omega))).trans ?_
        rw [e_Air_burns_16]
        rfl
      try dsimp only
      rw [eb, Option.bind_some]
      refine (ifp eq00).trans ?_
      try dsimp only
      rw [s_near h g hw, Option.bind_some]
      try dsimp only
      rw [s_owned g hi gi (nr8 hP w), Option.bind_some]
      try dsimp only
      rw [s_byTwo h g hi gi ha ga (nr8 hP w), Option.bind_some]
      show (f_Row_tell_JJ (pI (bs (ownB Ow (bs (nrB D A w) P)) I)) (pI (bs (twB Gd Ow Sd Wn Pr (bs (nrB D A w) P) P) I)) m).bind _ = _
      rw [r1]
      rfl
    · obtain ⟨m1, r1, r2, r3⟩ := s_fill7 0 m
      refine ⟨m1, r3.mono (by intro a k; unfold wLF; omega), Or.inr (Or.inl ⟨hx, c, ?_, r3, ?_⟩)⟩
      · refine (ifnn ne10).trans ?_
        have eb : f_Air_burns m = some (1, m) := by
          rw [e_Air_burns, q0, q3]
          refine (ifn (nI_nlt (by omega) (by omega))).trans ?_
          rw [e_Air_burns_16]
          rfl
        try dsimp only
        rw [eb, Option.bind_some]
        refine (ifn ne10).trans ?_
        try dsimp only
        rw [e_Mine_dropPurses, r1]
        rfl
      · have hs : sm (fun a k => a = 7) m m1 := r3.mono (by omega)
        refine ⟨(hs 3 5 (by omega)).1.trans h.1, (hs 3 6 (by omega)).1.trans h.2.1, fun i j hi hj => (hs 4 _ (by omega)).1.trans (h.2.2.1 i j hi hj), fun i hi => (hs 5 _ (by omega)).1.trans (h.2.2.2.1 i hi), fun p hp => ⟨(hs 6 _ (by omega)).1.trans (h.2.2.2.2 p hp).1, ?_, (hs 8 _ (by omega)).1.trans (h.2.2.2.2 p hp).2.2⟩⟩
        rw [r2 p (by omega)]
        rfl
  · refine ⟨m, sm.rf, Or.inr (Or.inr ⟨hx, ?_, rfl⟩)⟩
    rw [s_pl_f hx, Option.bind_some]
    exact ifnp eq00
/-! the model's lamp -/
theorem lm_142 (h : mineM m T P D W A U L) (g : gMine T P D W A U L) (hi : itemsM m I S Gd Ow Sd Y) (gi : gItems P I S Gd Ow Sd Y) (ha : askM m I Wn wd Pr) (ga : gAsk I Wn wd Pr) {R i : Nat} (hR : R < 2 ^ 8) (hi2 : i < I) (x3 x4 : Int32) :
    f_M_lamp_142 (nI R) x3 x4 (nI i) 0 0 m = f_M_lamp_245 (nI R) x3 (nI i) (if (!Sd i && decide (2 ≤ fb_ct (wtB Gd Ow Wn Pr R i) P)) = true then 1 <<< (nI i &&& 31) else 0) x4 m := by
  have hP := g.2.1
  have hI := gi.1
  have hO := (gi.2.2.1 i hi2).2
  have hG := (gi.2.2.1 i hi2).1
  have hpr := ga.2.2.2 0 i (by omega) hi2
  have b85 : m.1 85 i = nI (Pr 0 i) := by have := ha.2.2 0 i (by omega) hi2; rw [Nat.mul_zero, Nat.zero_add] at this; exact this
  obtain ⟨b82, b83, b84⟩ := hi.2.2.1 i hi2
  have ci : jx_in (nI i) 12 = true := in_nI (show i < 12 by omega) (by omega)
  have ki : (nI i).toNatClampNeg = i := nI_cl (show i < 2 ^ 31 by omega)
  have fl : ∀ v : Int32, (v = 0 ∨ v = 1) → f_M_flag v m = some (v, m) := by
    intro v hv
    rw [e_M_flag]
    rcases hv with rfl | rfl
    · exact (ifp eq00).trans (e_M_flag_9 _ _)
    · exact (ifn ne10).trans (e_M_flag_9 _ _)
  have key := lp_up (fun j z => f_M_lamp_142 (nI R) x3 x4 (nI i) z j m) (fun n => nI (fb_ct (wtB Gd Ow Wn Pr R i) n)) P (by
    intro n hn
    have hw := ga.1 n (Gd i) (by omega) hG
    have skip : wtB Gd Ow Wn Pr R i n = false → f_M_lamp_206 (nI R) x3 x4 (nI i) (nI n) (nI (fb_ct (wtB Gd Ow Wn Pr R i) n)) m = f_M_lamp_142 (nI R) x3 x4 (nI i) (nI (fb_ct (wtB Gd Ow Wn Pr R i) (n + 1))) (nI (n + 1)) m := by
      intro z
      rw [e_M_lamp_206, e_M_lamp_207, fl 0 (Or.inl rfl), Option.bind_some, nI_1, fb_ct_succ, z]
      try dsimp only
      rw [Int32.add_zero]
      rfl
    rw [e_M_lamp_142, h.2.1]
    refine (ifn (nI_ge (a := n) (b := P) hn (by omega))).trans ?_
    rw [ci, ki, cond_true, b83]
    by_cases d : n = Ow i
    · exact (ifp (by rw [d])).trans (skip (by simp [wtB, d]))
    · refine (ifn (fun z => d ((nI_eq (by omega) (by omega)).mp z))).trans ?_
      by_cases c : R.testBit n = true
      · rw [s_mhas_t (by omega) (by omega) c, Option.bind_some]
        refine (ifn ne10).trans ?_
        try dsimp only
        rw [cond_true, b82, xi10, in_nI (show 10 * n + Gd i < 80 by omega) (by omega), nI_cl (show 10 * n + Gd i < 2 ^ 31 by omega), cond_true, in_nI (show i < 120 by omega) (by omega), cond_true, b85, ha.2.1 n (Gd i) (by omega) hG]
        by_cases e : Pr 0 i < Wn n (Gd i)
        · refine (ifn (nI_ge e (by omega))).trans ?_
          have z : wtB Gd Ow Wn Pr R i n = true := by simp [wtB, c, d, e]
          rw [e_M_lamp_207, fl 1 (Or.inr rfl), Option.bind_some, nI_1, fb_ct_succ, z]
          try dsimp only
          rw [nI_1]
          rfl
        · refine (ifp (nI_le (by omega) (by omega))).trans ?_
          exact skip (by simp [wtB, e])
      · have c2 : R.testBit n = false := by simpa using c
        rw [s_mhas_f (by omega) (by omega) c2, Option.bind_some]
        exact (ifp eq00).trans (skip (by simp [wtB, c2]))) 0 (Nat.zero_le _)
  refine Eq.trans (b := f_M_lamp_142 (nI R) x3 x4 (nI i) (nI (fb_ct (wtB Gd Ow Wn Pr R i) P)) (nI P) m) key ?_
  have hc := fb_ct_le (wtB Gd Ow Wn Pr R i) P
  rw [e_M_lamp_142, h.2.1]
  refine (ifp (nI_le (Nat.le_refl _) (by omega))).trans ?_
  by_cases e : 2 ≤ fb_ct (wtB Gd Ow Wn Pr R i) P
  · refine (ifn (nI_ge (a := 1) (b := fb_ct (wtB Gd Ow Wn Pr R i) P) (by omega) (by omega))).trans ?_
    rw [ci, ki, cond_true, b84]
    cases hs : Sd i with
    | true =>
      refine (ifnn (show ¬ bi true = 0 from ne10)).trans ?_
      rw [e_M_lamp_244]
      rfl
    | false =>
      refine (ifnp (show bi false = 0 from rfl)).trans ?_
      rw [decide_eq_true e]
      rfl
  · refine (ifp (nI_le (b := 1) (by omega) (by omega))).trans ?_
    rw [e_M_lamp_244, decide_eq_false e, Bool.and_false]
    rfl
theorem lm_103 (h : mineM m T P D W A U L) (g : gMine T P D W A U L) (hi : itemsM m I S Gd Ow Sd Y) (gi : gItems P I S Gd Ow Sd Y) (ha : askM m I Wn wd Pr) (ga : gAsk I Wn wd Pr) {R : Nat} (hR : R < 2 ^ 8) :
    f_M_lamp_103 (nI R) 0 0 0 m = f_M_lamp_103 (nI R) (nI (bs (ownB Ow R) I)) (nI (bs (twB Gd Ow Sd Wn Pr R P) I)) (nI I) m := by
  have hP := g.2.1
  have hI := gi.1
  exact lp_up (fun j (z : Int32 × Int32) => f_M_lamp_103 (nI R) z.1 z.2 j m) (fun n => (nI (bs (ownB Ow R) n), nI (bs (twB Gd Ow Sd Wn Pr R P) n))) I (by
    intro n hn
    have hO := (gi.2.2.1 n hn).2
    try dsimp only
    rw [e_M_lamp_103, hi.1]
    refine (ifn (nI_ge (a := n) (b := I) hn (by omega))).trans ?_
    rw [in_nI (show n < 12 by omega) (by omega), nI_cl (by omega), cond_true, (hi.2.2.1 n hn).2.1]
    by_cases c : R.testBit (Ow n) = true
    · rw [s_mhas_t (by omega) (by omega) c, Option.bind_some]
      refine (ifnn ne10).trans ?_
      try dsimp only
      rw [lm_142 h g hi gi ha ga hR hn, e_M_lamp_245, e_M_lamp_248, nI_1, or_bs_t (by omega) (show ownB Ow R n = true by simp [ownB, c])]
      by_cases e : (!Sd n && decide (2 ≤ fb_ct (wtB Gd Ow Wn Pr R n) P)) = true
      · rw [if_pos e, or_bs_t (by omega) (show twB Gd Ow Sd Wn Pr R P n = true by unfold twB; rw [c, e]; rfl)]
      · rw [if_neg e, or_bs_f (by omega) (show twB Gd Ow Sd Wn Pr R P n = false by unfold twB; rw [c]; simpa using e)]
    · have c2 : R.testBit (Ow n) = false := by simpa using c
      rw [s_mhas_f (by omega) (by omega) c2, Option.bind_some]
      refine (ifnp eq00).trans ?_
      rw [e_M_lamp_248, nI_1, bs_f (show ownB Ow R n = false by simp [ownB, c2]), bs_f (show twB Gd Ow Sd Wn Pr R P n = false by simp [twB, c2])]) 0 (Nat.zero_le _)
theorem lm_55 (h : mineM m T P D W A U L) (g : gMine T P D W A U L) {w : Nat} (hw : w < 10) : f_M_lamp_55 (nI w) 0 0 m = f_M_lamp_103 (nI (bs (nrB D A w) P)) 0 0 0 m := by
  have hP := g.2.1
  have key := lp_up (fun i z => f_M_lamp_55 (nI w) z i m) (fun n => nI (bs (nrB D A w) n)) P (by
    intro n hn
    have hA := (g.2.2.2.2.2 n hn).1
    have hD := g.2.2.1.2 (A n) w hA hw
    rw [e_M_lamp_55, h.2.1]
    refine (ifn (nI_ge (a := n) (b := P) hn (by omega))).trans ?_
    rw [in_nI (show n < 8 by omega) (by omega), nI_cl (by omega), cond_true, (h.2.2.2.2 n hn).1, s_far h g.2.2.1 hA hw, Option.bind_some]
    by_cases c : D (A n) w ≤ 10
    · refine (ifn (nI_nlt (a := 10) (b := D (A n) w) c (by omega))).trans ?_
      rw [e_M_lamp_87, nI_1, or_bs_t (by omega) (by rw [hD.2.1] at c; simp [nrB, c])]
    · refine (ifp (nI_lt (a := 10) (b := D (A n) w) (by omega) (by omega))).trans ?_
      rw [e_M_lamp_87, nI_1, or_bs_f (by omega) (by rw [hD.2.1] at c; simp [nrB]; omega)]) 0 (Nat.zero_le _)
  refine Eq.trans (b := f_M_lamp_55 (nI w) (nI (bs (nrB D A w) P)) (nI P) m) key ?_
  rw [e_M_lamp_55, h.2.1]
  exact ifp (nI_le (Nat.le_refl _) (by omega))
theorem lm_27 (hP : P ≤ 8) : ∀ (k n : Nat), n + k = P → ∀ m, m.1 63 6 = nI P → ∃ m', f_M_lamp_27 (nI n) m = some (-2, m') ∧ (∀ p, p < P → m'.1 68 p = if n ≤ p then 0 else m.1 68 p) ∧ sm (fun a _ => a = 68) m m' := by
  intro k
  induction k with
  | zero =>
    intro n hn m h0
    refine ⟨m, ?_, fun p hp => by rw [if_neg (by omega)], sm.rf⟩
    rw [e_M_lamp_27, h0]
    exact ifp (nI_le (by omega) (by omega))
  | succ k ih =>
    intro n hn m h0
    obtain ⟨m', r1, r2, r3⟩ := ih (n + 1) (by omega) (jx_w1 m 68 n 0) (by rw [w1_cell (by omega)]; exact h0)
    refine ⟨m', ?_, fun p hp => ?_, r3.pre rfl⟩
    · rw [e_M_lamp_27, h0]
      refine (ifn (nI_ge (a := n) (b := P) (by omega) (by omega))).trans ?_
      rw [in_nI (show n < 8 by omega) (by omega), nI_cl (by omega), nI_1]
      exact r1
    · rw [r2 p hp, w1_rd]
      by_cases c : n + 1 ≤ p
      · rw [if_pos c, if_pos (by omega)]
      · rw [if_neg c]
        by_cases d : n = p
        · rw [if_pos ⟨rfl, d.symm⟩, if_pos (by omega)]
        · rw [if_neg (fun z => d z.2.symm), if_neg (by omega)]
theorem M_lamp (h : mineM m T P D W A U L) (g : gMine T P D W A U L) (hi : itemsM m I S Gd Ow Sd Y) (gi : gItems P I S Gd Ow Sd Y) (ha : askM m I Wn wd Pr) (ga : gAsk I Wn wd Pr) (hq : airM m Q) (gq : gAir Q) (x : Int32) : ∃ m', sm wLM m m' ∧
    (((0 ≤ x.toInt ∧ x.toInt < 10) ∧ Q 0 < Q 3 ∧ f_M_lamp x m = some (nI (bs (nrB D A (jn x)) P), m') ∧ sm wTM m m' ∧ rM m' (lampR D A P I Gd Ow Sd Wn Pr (jn x))) ∨
     ((0 ≤ x.toInt ∧ x.toInt < 10) ∧ ¬ Q 0 < Q 3 ∧ f_M_lamp x m = some (-2, m') ∧ sm (fun a k => a = 68 ∨ (a = 63 ∧ k = 0)) m m' ∧ mineM m' T P D W A (fun _ => 0) L) ∨ (¬ (0 ≤ x.toInt ∧ x.toInt < 10) ∧ f_M_lamp x m = some (-1, m') ∧ m' = jx_w1 m 63 0 0)) := by
  have hP := g.2.1
  have hI := gi.1
  obtain ⟨g0, g1, g2, g3⟩ := gq
  have h1 := mineM_th h (v := 0)
  have hi1 := itemsM_th hi (v := 0)
  have ha1 := askM_th ha (v := 0)
  have hq1 := airM_th hq (v := 0)
  have q0 := hq1 0 (by omega)
  have q3 := hq1 3 (by omega)
  rw [e_M_lamp]
  try dsimp only
  by_cases hx : 0 ≤ x.toInt ∧ x.toInt < 10
  · obtain ⟨w, hw, rfl⟩ := nI_get hx.1 (show x.toInt < ((10 : Nat) : Int) from hx.2)
    rw [s_mpl_t hx, jn_nI (show w < 2 ^ 31 by omega), Option.bind_some]
    by_cases c : Q 0 < Q 3
    · have s1 : sm wTM m (jx_w1 m 63 0 0) := sm_w1 (by unfold wTM; omega)
      have s2 : sm wTM m (jx_w1 (jx_w1 m 63 0 0) 63 1 0) := s1.w1 (by unfold wTM; omega)
      obtain ⟨m2, r1, r2, r3⟩ := s_enters (pI (bs (ownB Ow (bs (nrB D A w) P)) I)) (rM_0 (jx_w1 m 63 0 0)) (by simp)
      obtain ⟨m3, t1, t2, t3⟩ := s_enters (pI (bs (twB Gd Ow Sd Wn Pr (bs (nrB D A w) P) P) I)) r2 (by simp)
      have s3 : sm wTM m m3 := s2.tr ((r3.tr t3).mono (by unfold wRM wTM; omega))
      refine ⟨m3, s3.mono (fun _ _ h => Or.inr h), Or.inl ⟨hx, c, ?_, s3, t2⟩⟩
      refine (ifnn ne10).trans ?_
      try dsimp only
      rw [q0, q3]
      refine (ifp (nI_lt c (by omega))).trans ?_
      rw [lm_55 h1 g hw, lm_103 h1 g hi1 gi ha1 ga (nr8 hP w), e_M_lamp_103, hi1.1]
      refine (ifp (nI_le (Nat.le_refl _) (by omega))).trans ?_
      show (f_M_enters (pI (bs (ownB Ow (bs (nrB D A w) P)) I)) (jx_w1 (jx_w1 m 63 0 0) 63 1 0)).bind _ = _
      rw [r1, Option.bind_some]
      show (f_M_enters (pI (bs (twB Gd Ow Sd Wn Pr (bs (nrB D A w) P) P) I)) m2).bind _ = _
      rw [t1]
      rfl
    · have s1 : sm (fun a k => a = 68 ∨ (a = 63 ∧ k = 0)) m (jx_w1 m 63 0 0) := sm_w1 (by omega)
      obtain ⟨m1, r1, r2, r3⟩ := lm_27 hP P 0 (by omega) (jx_w1 m 63 0 0) h1.2.1
      have s2 : sm (fun a k => a = 68 ∨ (a = 63 ∧ k = 0)) m m1 := s1.tr (r3.mono (by omega))
      refine ⟨m1, s2.mono (by unfold wLM wTM; omega), Or.inr (Or.inl ⟨hx, c, ?_, s2, ?_⟩)⟩
      · refine (ifnn ne10).trans ?_
        try dsimp only
        rw [q0, q3]
        exact (ifn (nI_nlt (by omega) (by omega))).trans r1
      · refine ⟨(r3 63 3 (by omega)).1.trans h1.1, (r3 63 6 (by omega)).1.trans h1.2.1, fun i j hi hj hn => (r3 65 _ (by omega)).1.trans (h1.2.2.1 i j hi hj hn), fun i hi => (r3 66 _ (by omega)).1.trans (h1.2.2.2.1 i hi), fun p hp => ⟨(r3 67 _ (by omega)).1.trans (h1.2.2.2.2 p hp).1, ?_, (r3 69 _ (by omega)).1.trans (h1.2.2.2.2 p hp).2.2⟩⟩
        rw [r2 p hp, if_pos (Nat.zero_le _)]
        rfl
  · refine ⟨jx_w1 m 63 0 0, sm_w1 (by unfold wLM wTM; omega), Or.inr (Or.inr ⟨hx, ?_, rfl⟩)⟩
    rw [s_mpl_f hx, Option.bind_some]
    exact ifnp eq00
theorem gMine_drop (g : gMine T P D W A U L) : gMine T P D W A (fun _ => 0) L :=
  ⟨g.1, g.2.1, g.2.2.1, g.2.2.2.1, g.2.2.2.2.1, fun q hq => ⟨(g.2.2.2.2.2 q hq).1, Nat.zero_le _, (g.2.2.2.2.2 q hq).2.2⟩⟩
end LAMP
