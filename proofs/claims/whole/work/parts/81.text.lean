/-! the text: sign, end; of, thing, row, count -/
def gText (tl : Nat) (tx : Nat → Nat) : Prop := tl ≤ 60 ∧ ∀ i, tx i < 256
def textF (m : jx_Mem) (tl : Nat) (tx : Nat → Nat) : Prop := m.1 18 2 = nI tl ∧ ∀ i, i < tl → m.1 19 i = nI (tx i)
def textM (m : jx_Mem) (tl : Nat) (tx : Nat → Nat) : Prop := m.1 63 23 = nI tl ∧ ∀ i, i < tl → m.1 80 i = nI (tx i)
def dTF (a k : Nat) : Prop := (a = 18 ∧ k = 2) ∨ a = 19
def dTM (a k : Nat) : Prop := (a = 63 ∧ k = 23) ∨ a = 80
def byt (x : Int32) (j : Nat) : Nat := (jx_ushr x (nI (24 - 8 * j))).toBitVec.toNat % 256
def apT (tx : Nat → Nat) (tl : Nat) (x : Int32) : Nat → Nat := fun i => if i < tl then tx i else byt x (i - tl)
theorem byt_lt (x : Int32) (j : Nat) : byt x j < 256 := Nat.mod_lt _ (by omega)
theorem byt_and (x : Int32) (j : Nat) : jx_ushr x (nI (24 - 8 * j)) &&& 255 = nI (byt x j) := pk_and _ 8 rfl
theorem shr_and (x : Int32) {n : Nat} (hn : n ≤ 24) : (x >>> (nI n &&& 31)) &&& 255 = jx_ushr x (nI n) &&& 255 := by
  apply b_ext
  intro i hi
  rw [b_and, b_and, b_255]
  by_cases c : i < 8
  · rw [b_sshr n (by omega) x hi, if_pos (by omega)]
    unfold jx_ushr
    rw [b_ushr n (by omega)]
  · rw [decide_eq_false c, Bool.and_false, Bool.and_false]
def sF (j : Nat) : Int32 := nI 24 - nI (8 * j)
theorem sF_s : ∀ j, j < 4 → sF j + (-8) = sF (j + 1) := by decide +kernel
theorem sF_n : ∀ j, j < 4 → ¬ sF j < 0 := by decide +kernel
theorem sF_e : ∀ j, j < 4 → sF j = nI (24 - 8 * j) := by decide +kernel
section TEXT
variable {m m' : jx_Mem} {tl : Nat} {tx : Nat → Nat} {Z : Nat → Nat → Prop}
theorem textF_sm (h : textF m tl tx) (hs : sm Z m m') (hz : ∀ a k, dTF a k → ¬ Z a k) : textF m' tl tx :=
  ⟨(hs 18 2 (hz 18 2 (by unfold dTF; omega))).1.trans h.1, fun i hi => (hs 19 i (hz 19 i (by unfold dTF; omega))).1.trans (h.2 i hi)⟩
theorem textM_sm (h : textM m tl tx) (hs : sm Z m m') (hz : ∀ a k, dTM a k → ¬ Z a k) : textM m' tl tx :=
  ⟨(hs 63 23 (hz 63 23 (by unfold dTM; omega))).1.trans h.1, fun i hi => (hs 80 i (hz 80 i (by unfold dTM; omega))).1.trans (h.2 i hi)⟩
def wSgF (a k : Nat) : Prop := a = 19 ∨ (a = 18 ∧ k = 2)
def wSgM (a k : Nat) : Prop := a = 80 ∨ (a = 63 ∧ (k = 0 ∨ k = 23))
theorem ap_16 {n : Nat} (hn : n + 4 ≤ 60) (x : Int32) : ∀ (k j : Nat), j + k = 4 → ∀ m, m.1 18 2 = nI (n + j) → ∃ m', f_Rule_append_16 x (sF j) m = some (nI (n + 4), m') ∧ (∀ i, m'.1 19 i = if n + j ≤ i ∧ i < n + 4 then nI (byt x (i - n)) else m.1 19 i) ∧ m'.1 18 2 = nI (n + 4) ∧ sm wSgF m m' := by
  intro k
  induction k with
  | zero =>
    intro j hj m h0
    have : j = 4 := by omega
    subst this
    refine ⟨m, ?_, fun i => by rw [if_neg (by omega)], h0, sm.rf⟩
    rw [e_Rule_append_16, h0]
    exact ifp (by decide)
  | succ k ih =>
    intro j hj m h0
    obtain ⟨m', r1, r2, r3, r4⟩ := ih (j + 1) (by omega) (jx_w1 (jx_w1 m 19 (n + j) (nI (byt x j))) 18 2 (nI (n + j + 1))) (w1_same _ _ _ _)
    refine ⟨m', ?_, fun i => ?_, r3, ((sm_w1 (by unfold wSgF; omega)).w1 (by unfold wSgF; omega)).tr r4⟩
    · rw [e_Rule_append_16]
      refine (ifn (sF_n j (by omega))).trans ?_
      rw [h0, in_nI (show n + j < 60 by omega) (by omega), nI_cl (by omega), sF_s j (by omega), sF_e j (by omega), byt_and]
      try dsimp only
      rw [w1_cell (show 18 ≠ 19 by omega), h0, nI_1]
      exact r1
    · rw [r2 i, w1_cell (show 19 ≠ 18 by omega), w1_rd]
      by_cases c : n + (j + 1) ≤ i ∧ i < n + 4
      · rw [if_pos c, if_pos (by omega)]
      · rw [if_neg c]
        by_cases d : i = n + j
        · rw [if_pos ⟨rfl, d⟩, if_pos (by omega), show i - n = j by omega]
        · rw [if_neg (fun z => d z.2), if_neg (by omega)]
theorem F_sign (h : textF m tl tx) (g : gText tl tx) (x : Int32) : ∃ m', sm wSgF m m' ∧
    ((tl + 4 ≤ 60 ∧ f_F_sign x m = some (nI (tl + 4), m') ∧ textF m' (tl + 4) (apT tx tl x)) ∨ (¬ tl + 4 ≤ 60 ∧ f_F_sign x m = some (-1, m') ∧ m' = m)) := by
  have g1 := g.1
  have e4 : nI tl + 4 = nI (tl + 4) := nI_add tl 4
  rw [e_F_sign, e_Rule_append, h.1, e4]
  by_cases c : tl + 4 ≤ 60
  · obtain ⟨m', r1, r2, r3, r4⟩ := ap_16 c x 4 0 (by omega) m h.1
    refine ⟨m', r4, Or.inl ⟨c, ?_, r3, fun i hi => ?_⟩⟩
    · have e0 : f_Rule_append_16 x 24 m = some (nI (tl + 4), m') := r1
      have e1 : ∀ X Y : Option (Int32 × jx_Mem), (if decide (nI (tl + 4) ≤ 60) = true then X else Y) = X := fun X Y => ifp (nI_le (b := 60) c (by omega))
      rw [e1, e0]
      rfl
    · rw [r2 i]
      unfold apT
      by_cases d : i < tl
      · rw [if_neg (by omega), if_pos d]; exact h.2 i d
      · rw [if_pos (by omega), if_neg d]
  · refine ⟨m, sm.rf, Or.inr ⟨c, ?_, rfl⟩⟩
    have e1 : ∀ X Y : Option (Int32 × jx_Mem), (if decide (nI (tl + 4) ≤ 60) = true then X else Y) = Y := fun X Y => ifn (nI_ge (a := 60) (by omega) (by omega))
    rw [e1]
    rfl
theorem sg_18 {n : Nat} (hn : n + 4 ≤ 60) (x : Int32) : ∀ (k j : Nat), j + k = 4 → ∀ m, m.1 63 23 = nI n → ∃ m', f_M_sign_18 x (nI j) m = some (nI (n + 4), m') ∧ (∀ i, m'.1 80 i = if n + j ≤ i ∧ i < n + 4 then nI (byt x (i - n)) else m.1 80 i) ∧ m'.1 63 23 = nI (n + 4) ∧ sm wSgM m m' := by
  intro k
  induction k with
  | zero =>
    intro j hj m h0
    have : j = 4 := by omega
    subst this
    refine ⟨jx_w1 m 63 23 (nI (n + 4)), ?_, fun i => by rw [if_neg (by omega)]; exact w1_cell (by omega), w1_same _ _ _ _, sm_w1 (by unfold wSgM; omega)⟩
    rw [e_M_sign_18]
    refine (ifp (by decide)).trans ?_
    rw [h0, show nI n + 4 = nI (n + 4) from nI_add n 4]
    try dsimp only
    rw [w1_same]
  | succ k ih =>
    intro j hj m h0
    obtain ⟨m', r1, r2, r3, r4⟩ := ih (j + 1) (by omega) (jx_w1 m 80 (n + j) (nI (byt x j))) (by rw [w1_cell (by omega)]; exact h0)
    refine ⟨m', ?_, fun i => ?_, r3, (sm_w1 (by unfold wSgM; omega)).tr r4⟩
    · rw [e_M_sign_18]
      refine (ifn (nI_ge (a := j) (b := 4) (by omega) (by omega))).trans ?_
      have e8 : (24 : Int32) - 8 * nI j = nI (24 - 8 * j) := by
        rw [show (8 : Int32) * nI j = nI (8 * j) from pk_mul 8 j]
        exact pk_sub (a := 24) (by omega)
      rw [h0, nI_add, in_nI (show n + j < 60 by omega) (by omega), nI_cl (by omega), e8, shr_and x (by omega), byt_and, nI_1]
      exact r1
    · rw [r2 i, w1_rd]
      by_cases c : n + (j + 1) ≤ i ∧ i < n + 4
      · rw [if_pos c, if_pos (by omega)]
      · rw [if_neg c]
        by_cases d : i = n + j
        · rw [if_pos ⟨rfl, d⟩, if_pos (by omega), show i - n = j by omega]
        · rw [if_neg (fun z => d z.2), if_neg (by omega)]
theorem M_sign (h : textM m tl tx) (g : gText tl tx) (x : Int32) : ∃ m', sm wSgM m m' ∧
    ((tl + 4 ≤ 60 ∧ f_M_sign x m = some (nI (tl + 4), m') ∧ textM m' (tl + 4) (apT tx tl x)) ∨ (¬ tl + 4 ≤ 60 ∧ f_M_sign x m = some (-1, m') ∧ m' = jx_w1 m 63 0 0)) := by
  have g1 := g.1
  have h1 : (jx_w1 m 63 0 0).1 63 23 = nI tl := by rw [w1_idx (by omega)]; exact h.1
  have s1 : sm wSgM m (jx_w1 m 63 0 0) := sm_w1 (by unfold wSgM; omega)
  rw [e_M_sign]
  try dsimp only
  rw [h1]
  by_cases c : tl + 4 ≤ 60
  · obtain ⟨m', r1, r2, r3, r4⟩ := sg_18 c x 4 0 (by omega) (jx_w1 m 63 0 0) h1
    refine ⟨m', s1.tr r4, Or.inl ⟨c, ?_, r3, fun i hi => ?_⟩⟩
    · exact (ifp (nI_le (b := 56) (by omega) (by omega))).trans r1
    · rw [r2 i]
      unfold apT
      by_cases d : i < tl
      · rw [if_neg (by omega), if_pos d, w1_cell (by omega)]; exact h.2 i d
      · rw [if_pos (by omega), if_neg d]
  · exact ⟨_, s1, Or.inr ⟨c, ifn (nI_ge (a := 56) (by omega) (by omega)), rfl⟩⟩
theorem gText_ap (g : gText tl tx) (x : Int32) (c : tl + 4 ≤ 60) : gText (tl + 4) (apT tx tl x) := by
  refine ⟨c, fun i => ?_⟩
  unfold apT
  split
  · exact g.2 i
  · exact byt_lt x _
def cEnd (x : Int32) (tl : Nat) : Prop := 0 ≤ x.toInt ∧ x.toInt ≤ (tl : Int)
theorem F_end (h : textF m tl tx) (g : gText tl tx) (x : Int32) : ∃ m', sm wSgF m m' ∧
    ((cEnd x tl ∧ f_F_end x m = some (1, m') ∧ textF m' (jn x) tx) ∨ (¬ cEnd x tl ∧ f_F_end x m = some (0, m') ∧ m' = m)) := by
  have g1 := g.1
  rw [e_F_end, e_Rule_cut, h.1]
  by_cases c : 0 ≤ x.toInt ∧ x.toInt ≤ (tl : Int)
  · obtain ⟨n, hn, rfl⟩ := nI_get c.1 (show x.toInt < ((tl + 1 : Nat) : Int) by omega)
    rw [jn_nI (show n < 2 ^ 31 by omega)]
    refine ⟨jx_w1 m 18 2 (nI n), sm_w1 (by unfold wSgF; omega), Or.inl ⟨c, ?_, w1_same _ _ _ _, fun i hi => (w1_cell (by omega)).trans (h.2 i (by omega))⟩⟩
    have q1 : ¬ nI n < 0 := nI_pos (by omega)
    have q2 : nI n ≤ nI tl := nI_le (by omega) (by omega)
    simp [q1, q2, show jx_01 1 = true from rfl]
  · refine ⟨m, sm.rf, Or.inr ⟨c, ?_, rfl⟩⟩
    by_cases d : x < 0
    · simp [d, e_Rule_cut_12, show jx_01 0 = true from rfl]
    · have q2 : ¬ x ≤ nI tl := fun z => by
        have a := i_le.mp z
        rw [nI_toInt (by omega)] at a
        have b : ¬ x.toInt < 0 := fun y => d (i_lt.mpr y)
        exact c ⟨by omega, a⟩
      simp [d, q2, e_Rule_cut_12, show jx_01 0 = true from rfl]
theorem M_end (h : textM m tl tx) (g : gText tl tx) (x : Int32) : ∃ m', sm wSgM m m' ∧
    ((cEnd x tl ∧ f_M_end x m = some (1, m') ∧ textM m' (jn x) tx) ∨ (¬ cEnd x tl ∧ f_M_end x m = some (0, m') ∧ m' = jx_w1 m 63 0 0)) := by
  have g1 := g.1
  have h1 : (jx_w1 m 63 0 0).1 63 23 = nI tl := by rw [w1_idx (by omega)]; exact h.1
  have s1 : sm wSgM m (jx_w1 m 63 0 0) := sm_w1 (by unfold wSgM; omega)
  have ht : ((nI tl).toInt64).toInt = (tl : Int) := by rw [il_toInt, nI_toInt (by omega)]
  rw [e_M_end]
  try dsimp only
  rw [h1]
  by_cases c : 0 ≤ x.toInt ∧ x.toInt ≤ (tl : Int)
  · rw [s_in_t (lo := 0) (hi := (nI tl).toInt64) (by rw [ht]; exact c)]
    obtain ⟨n, hn, rfl⟩ := nI_get c.1 (show x.toInt < ((tl + 1 : Nat) : Int) by omega)
    rw [jn_nI (show n < 2 ^ 31 by omega)]
    refine ⟨jx_w1 (jx_w1 m 63 0 0) 63 23 (nI n), s1.w1 (by unfold wSgM; omega), Or.inl ⟨c, ?_, w1_same _ _ _ _, fun i hi => (w1_cell (by omega)).trans ((w1_cell (by omega)).trans (h.2 i (by omega)))⟩⟩
    simp
  · rw [s_in_f (lo := 0) (hi := (nI tl).toInt64) (by rw [ht]; exact c)]
    refine ⟨_, s1, Or.inr ⟨c, ?_, rfl⟩⟩
    simp
end TEXT
section KEPT
variable {m m' : jx_Mem} {T P : Nat} {D : Nat → Nat → Nat} {W A U L : Nat → Nat} {G K : Nat} {O C : Nat → Nat} {N : Nat → Nat → Nat}
variable {I S : Nat} {Gd Ow : Nat → Nat} {Sd : Nat → Bool} {Y : Nat → Nat → Nat} {Wn : Nat → Nat → Nat} {wd : Nat} {Pr : Nat → Nat → Nat} {tl : Nat} {tx : Nat → Nat} {vs : List Int64}
def cOf (x y : Int32) (P : Nat) : Prop := (0 ≤ x.toInt ∧ x.toInt < (P : Int)) ∧ (0 ≤ y.toInt ∧ y.toInt ≤ 2)
def ofV (A U L : Nat → Nat) (x y : Int32) : Int32 := if y = 0 then nI (A (jn x)) else if y = 1 then nI (U (jn x)) else nI (L (jn x))
theorem F_of (h : mineF m T P D W A U L) (g : gMine T P D W A U L) {x y : Int32} (c : cOf x y P) : f_F_of x y m = some (ofV A U L x y, m) := by
  obtain ⟨hx, hy⟩ := c
  obtain ⟨p, hp, rfl⟩ := nI_get hx.1 hx.2
  have hP := g.2.1
  unfold ofV
  rw [e_F_of, jn_nI (show p < 2 ^ 31 by omega)]
  by_cases y0 : y = 0
  · simp [s_pers h g, jb_t hx, s_wi_t (lo := 0) (hi := 2) hy, y0, s_placeOf h g hp]
    simp [s_wi_t (x := 0) (lo := 0) (hi := 2) (m := m) (by decide), s_placeOf h g hp]
  · by_cases y1 : y = 1
    · subst y1
      simp [s_pers h g, jb_t hx, s_wi_t (x := 1) (lo := 0) (hi := 2) (m := m) (by decide), s_purseOf h g hp, e_F_of_65]
    · simp [s_pers h g, jb_t hx, s_wi_t (lo := 0) (hi := 2) hy, y0, y1, s_loadOf h g hp, e_F_of_65]
theorem M_of (h : mineM m T P D W A U L) (g : gMine T P D W A U L) (x y : Int32) : (cOf x y P ∧ f_M_of x y m = some (ofV A U L x y, jx_w1 m 63 0 0)) ∨ (¬ cOf x y P ∧ f_M_of x y m = some (0, jx_w1 (jx_w1 m 63 0 0) 63 0 1)) := by
  have hP := g.2.1
  have h1 := mineM_th h (v := 0)
  rw [e_M_of]
  try dsimp only
  by_cases hx : 0 ≤ x.toInt ∧ x.toInt < (P : Int)
  · by_cases hy : 0 ≤ y.toInt ∧ y.toInt ≤ 2
    · refine Or.inl ⟨⟨hx, hy⟩, ?_⟩
      obtain ⟨p, hp, rfl⟩ := nI_get hx.1 hx.2
      have hq := h1.2.2.2.2 p hp
      have cp : jx_in (nI p) 8 = true := in_nI (show p < 8 by omega) (by omega)
      have kp : (nI p).toNatClampNeg = p := nI_cl (show p < 2 ^ 31 by omega)
      unfold ofV
      rw [s_mpers h1 g, jb_t hx, jn_nI (show p < 2 ^ 31 by omega), Option.bind_some]
      refine (ifn ne10).trans ?_
      try dsimp only
      rw [s_in_t (lo := 0) (hi := 2) hy, Option.bind_some]
      refine (ifnn ne10).trans ?_
      try dsimp only
      rw [cp, kp, hq.1, hq.2.1, hq.2.2]
      simp only [cond_true]
      by_cases y0 : y = 0
      · exact (ifnp y0).trans ((e_M_of_63 _ _).trans (by rw [if_pos y0]))
      · refine (ifnn y0).trans ?_
        rw [if_neg y0]
        by_cases y1 : y = 1
        · exact (ifnp y1).trans ((e_M_of_63 _ _).trans (by rw [if_pos y1]))
        · exact (ifnn y1).trans ((e_M_of_63 _ _).trans (by rw [if_neg y1]))
    · refine Or.inr ⟨fun q => hy q.2, ?_⟩
      simp [s_mpers h1 g, jb_t hx, s_in_f (lo := 0) (hi := 2) hy, e_M_of_25, e_M_refuse]
  · refine Or.inr ⟨fun q => hx q.1, ?_⟩
    simp [s_mpers h1 g, jb_f hx, e_M_of_25, e_M_refuse]
def cThing (x y : Int32) (I : Nat) : Prop := (0 ≤ x.toInt ∧ x.toInt < (I : Int)) ∧ (0 ≤ y.toInt ∧ y.toInt ≤ 3)
def thV (Gd Ow : Nat → Nat) (Sd : Nat → Bool) (Pr : Nat → Nat → Nat) (x y : Int32) : Int32 := if y = 0 then nI (Gd (jn x)) else if y = 1 then nI (Ow (jn x)) else if y = 2 then nI (Pr 0 (jn x)) else bi (Sd (jn x))
theorem F_thing (hi : itemsF m I S Gd Ow Sd Y) (gi : gItems P I S Gd Ow Sd Y) (ha : askF m I Wn wd Pr) {x y : Int32} (c : cThing x y I) : f_F_thing x y m = some (thV Gd Ow Sd Pr x y, m) := by
  obtain ⟨hx, hy⟩ := c
  obtain ⟨i, hi2, rfl⟩ := nI_get hx.1 hx.2
  have hI := gi.1
  unfold thV
  rw [e_F_thing, s_isItem hi hI, jb_t hx, jn_nI (show i < 2 ^ 31 by omega), Option.bind_some]
  refine (ifn ne10).trans ?_
  try dsimp only
  rw [s_wi_t (lo := 0) (hi := 3) hy, Option.bind_some]
  refine (ifnn ne10).trans ?_
  try dsimp only
  by_cases y0 : y = 0
  · refine (ifnp y0).trans ?_
    rw [s_goodOf hi hI hi2, if_pos y0]
    rfl
  · refine (ifnn y0).trans ?_
    rw [if_neg y0]
    by_cases y1 : y = 1
    · refine (ifnp y1).trans ?_
      rw [s_ownerOf hi hI hi2, if_pos y1]
      rfl
    · refine (ifnn y1).trans ?_
      rw [if_neg y1]
      by_cases y2 : y = 2
      · refine (ifnp y2).trans ?_
        rw [s_priceOf hi hI ha hi2, if_pos y2]
        rfl
      · refine (ifnn y2).trans ?_
        rw [if_neg y2, s_isSold hi hI hi2, Option.bind_some]
        cases Sd i with
        | false => exact (ifp (show bi false = 0 from rfl)).trans (e_F_thing_85 _ _)
        | true => exact (ifn (show ¬ bi true = 0 from ne10)).trans (e_F_thing_85 _ _)
theorem M_thing (hi : itemsM m I S Gd Ow Sd Y) (gi : gItems P I S Gd Ow Sd Y) (ha : askM m I Wn wd Pr) (x y : Int32) : (cThing x y I ∧ f_M_thing_II x y m = some (thV Gd Ow Sd Pr x y, jx_w1 m 63 0 0)) ∨ (¬ cThing x y I ∧ f_M_thing_II x y m = some (0, jx_w1 (jx_w1 m 63 0 0) 63 0 1)) := by
  have hI := gi.1
  have hi1 := itemsM_th hi (v := 0)
  have ha1 := askM_th ha (v := 0)
  rw [e_M_thing_II]
  try dsimp only
  by_cases hx : 0 ≤ x.toInt ∧ x.toInt < (I : Int)
  · by_cases hy : 0 ≤ y.toInt ∧ y.toInt ≤ 3
    · refine Or.inl ⟨⟨hx, hy⟩, ?_⟩
      obtain ⟨i, hi2, rfl⟩ := nI_get hx.1 hx.2
      have a85 : (jx_w1 m 63 0 0).1 85 i = nI (Pr 0 i) := by have := ha1.2.2 0 i (by omega) hi2; rw [Nat.mul_zero, Nat.zero_add] at this; exact this
      obtain ⟨b82, b83, b84⟩ := hi1.2.2.1 i hi2
      unfold thV
      rw [s_misItem hi1 hI, jb_t hx, jn_nI (show i < 2 ^ 31 by omega), Option.bind_some]
      refine (ifn ne10).trans ?_
      try dsimp only
      rw [s_in_t (lo := 0) (hi := 3) hy, Option.bind_some]
      refine (ifnn ne10).trans ?_
      try dsimp only
      rw [in_nI (show i < 12 by omega) (by omega), in_nI (show i < 120 by omega) (by omega), nI_cl (show i < 2 ^ 31 by omega), b82, b83, b84, a85]
      simp only [cond_true]
      by_cases y0 : y = 0
      · exact (ifnp y0).trans ((e_M_thing_II_80 _ _).trans (by rw [if_pos y0]))
      · refine (ifnn y0).trans ?_
        rw [if_neg y0]
        by_cases y1 : y = 1
        · exact (ifnp y1).trans ((e_M_thing_II_80 _ _).trans (by rw [if_pos y1]))
        · refine (ifnn y1).trans ?_
          rw [if_neg y1]
          by_cases y2 : y = 2
          · exact (ifnp y2).trans ((e_M_thing_II_80 _ _).trans (by rw [if_pos y2]))
          · refine (ifnn y2).trans ?_
            rw [if_neg y2, e_M_flag]
            cases Sd i with
            | false =>
              have e1 : ∀ X Y : Option (Int32 × jx_Mem), (if decide (bi false = 0) = true then X else Y) = X := fun X Y => ifp rfl
              rw [e1, e_M_flag_9, Option.bind_some, e_M_thing_II_80]
              rfl
            | true =>
              have e1 : ∀ X Y : Option (Int32 × jx_Mem), (if decide (bi true = 0) = true then X else Y) = Y := fun X Y => ifn ne10
              rw [e1, e_M_flag_9, Option.bind_some, e_M_thing_II_80]
              rfl
    · refine Or.inr ⟨fun q => hy q.2, ?_⟩
      simp [s_misItem hi1 hI, jb_t hx, s_in_f (lo := 0) (hi := 3) hy, e_M_thing_II_25, e_M_refuse]
  · refine Or.inr ⟨fun q => hx q.1, ?_⟩
    simp [s_misItem hi1 hI, jb_f hx, e_M_thing_II_25, e_M_refuse]
def cRow (x : Int32) (vs : List Int64) : Prop := 0 ≤ x.toInt ∧ x.toInt < (vs.length : Int)
theorem t_holds (x : Int32) (m : jx_Mem) : f_Row_holds x m = some (jb (0 ≤ x.toInt ∧ x.toInt < (m.1 1 1).toInt), m) := by
  simp only [e_Row_holds, e_Row_holds_16, e_Row_holds_17, decide_eq_true_eq, i_lt, i_le, jb, Int32.reduceToInt]
  repeat' split
  all_goals first | rfl | omega | (exfalso; omega)
theorem F_row (h : rF m vs) (hl : vs.length ≤ 12) {x : Int32} (c : cRow x vs) : f_F_row x m = some (vs.getD (jn x) 0, m) := by
  have c2 : 0 ≤ x.toInt ∧ x.toInt < (m.1 1 1).toInt := by rw [h.1, nI_toInt (by omega)]; exact c
  obtain ⟨i, hi, rfl⟩ := nI_get c.1 c.2
  rw [e_F_row, t_holds, jb_t c2, Option.bind_some, jn_nI (show i < 2 ^ 31 by omega)]
  refine (ifnn ne10).trans ?_
  try dsimp only
  rw [e_Row_get, t_holds, jb_t c2, Option.bind_some]
  simp [in_nI (show i < 12 by omega) (show 12 < 2 ^ 31 by omega), nI_cl (show i < 2 ^ 31 by omega), h.2 i hi, e_Row_get_18]
theorem M_row (h : rM m vs) (hl : vs.length ≤ 12) (x : Int32) : (cRow x vs ∧ f_M_row x m = some (vs.getD (jn x) 0, jx_w1 m 63 0 0)) ∨ (¬ cRow x vs ∧ f_M_row x m = some (0, jx_w1 (jx_w1 m 63 0 0) 63 0 1)) := by
  have h1 : (jx_w1 m 63 0 0).1 63 1 = nI vs.length := by rw [w1_idx (by omega)]; exact h.1
  have h2 : ((nI vs.length - 1).toInt64).toInt = (vs.length : Int) - 1 := by
    rw [il_toInt, i_sub1 (k := 12) (lim_of hl (by omega)), nI_toInt (by omega)]
  rw [e_M_row]
  try dsimp only
  rw [h1]
  by_cases c : 0 ≤ x.toInt ∧ x.toInt < (vs.length : Int)
  · refine Or.inl ⟨c, ?_⟩
    rw [s_in_t (lo := 0) (hi := (nI vs.length - 1).toInt64) (by rw [h2, show (0 : Int64).toInt = 0 from rfl]; omega), Option.bind_some]
    obtain ⟨i, hi, rfl⟩ := nI_get c.1 c.2
    rw [jn_nI (show i < 2 ^ 31 by omega)]
    refine (ifnn ne10).trans ?_
    rw [in_nI (show i < 24 by omega) (by omega), nI_cl (by omega), cond_true]
    try dsimp only
    rw [w1_two, h.2 i hi]
  · refine Or.inr ⟨c, ?_⟩
    rw [s_in_f (lo := 0) (hi := (nI vs.length - 1).toInt64) (by rw [h2, show (0 : Int64).toInt = 0 from rfl]; omega), Option.bind_some]
    exact ifnp eq00
/-! count -/
theorem s_allPurses (h : mineF m T P D W A U L) (g : gMine T P D W A U L) : f_Mine_allPurses m = some (nI (fb_sm U P), m) := by
  have hP := g.2.1
  have key := lp_up (fun i z => f_Mine_allPurses_4 z i m) (fun n => nI (fb_sm U n)) P (by
    intro n hn
    rw [e_Mine_allPurses_4, h.2.1]
    refine (ifn (nI_ge (a := n) (b := P) hn (by omega))).trans ?_
    rw [in_nI (show n < 8 by omega) (by omega), nI_cl (by omega), cond_true, (h.2.2.2.2 n hn).2.1, nI_add, nI_1, fb_sm_succ]) 0 (Nat.zero_le _)
  rw [e_Mine_allPurses]
  refine Eq.trans (b := f_Mine_allPurses_4 (nI (fb_sm U P)) (nI P) m) key ?_
  rw [e_Mine_allPurses_4, h.2.1]
  exact ifp (nI_le (Nat.le_refl _) (by omega))
theorem s_purses (h : mineM m T P D W A U L) (g : gMine T P D W A U L) : f_M_purses m = some (nI (fb_sm U P), m) := by
  have hP := g.2.1
  have key := lp_up (fun i z => f_M_purses_4 z i m) (fun n => nI (fb_sm U n)) P (by
    intro n hn
    rw [e_M_purses_4, h.2.1]
    refine (ifn (nI_ge (a := n) (b := P) hn (by omega))).trans ?_
    rw [in_nI (show n < 8 by omega) (by omega), nI_cl (by omega), cond_true, (h.2.2.2.2 n hn).2.1, nI_add, nI_1, fb_sm_succ]) 0 (Nat.zero_le _)
  rw [e_M_purses]
  refine Eq.trans (b := f_M_purses_4 (nI (fb_sm U P)) (nI P) m) key ?_
  rw [e_M_purses_4, h.2.1]
  exact ifp (nI_le (Nat.le_refl _) (by omega))
theorem s_soldBits (hi : itemsM m I S Gd Ow Sd Y) (gi : gItems P I S Gd Ow Sd Y) : f_M_soldBits m = some (nI (bs Sd I), m) := by
  have hI := gi.1
  have key := lp_up (fun i z => f_M_soldBits_4 z i m) (fun n => nI (bs Sd n)) I (by
    intro n hn
    rw [e_M_soldBits_4, hi.1]
    refine (ifn (nI_ge (a := n) (b := I) hn (by omega))).trans ?_
    rw [in_nI (show n < 12 by omega) (by omega), nI_cl (by omega), cond_true, (hi.2.2.1 n hn).2.2]
    cases hs : Sd n with
    | false =>
      refine (ifp (show bi false = 0 from rfl)).trans ?_
      rw [e_M_soldBits_29, nI_1, or_bs_f (by omega) hs]
    | true =>
      refine (ifn (show ¬ bi true = 0 from ne10)).trans ?_
      rw [e_M_soldBits_29, nI_1, or_bs_t (by omega) hs]) 0 (Nat.zero_le _)
  rw [e_M_soldBits]
  refine Eq.trans (b := f_M_soldBits_4 (nI (bs Sd I)) (nI I) m) key ?_
  rw [e_M_soldBits_4, hi.1]
  exact ifp (nI_le (Nat.le_refl _) (by omega))
def cntV (x : Int32) (T P G K I : Nat) (Sd : Nat → Bool) (S : Nat) (U : Nat → Nat) (n tl : Nat) : Int32 := if x = 0 then nI T else if x = 1 then nI P else if x = 2 then nI G else if x = 3 then nI K else if x = 4 then nI I else if x = 5 then nI (bs Sd I) else if x = 6 then nI S else if x = 7 then nI (fb_sm U P) else if x = 8 then nI n else if x = 9 then nI tl else -1
theorem F_count (h : mineF m T P D W A U L) (g : gMine T P D W A U L) (hg : goodsF m G K O C N) (hi : itemsF m I S Gd Ow Sd Y) (ht : textF m tl tx) (hr : rF m vs) (x : Int32) : f_F_count x m = some (cntV x T P G K I Sd S U vs.length tl, m) := by
  rw [e_F_count]
  unfold cntV
  simp only [e_Mine_tunnels, e_Mine_people, e_Goods_goods, e_Goods_tests, e_Items_size, e_Items_soldOnes, e_Items_sales, s_allPurses h g, e_Row_size, e_Rule_signs, Option.bind_some, h.1, h.2.1, hg.1, hg.2.1, hi.1, hi.2.1, hi.2.2.1, hr.1, ht.1, decide_eq_true_eq]
  repeat' split
  all_goals rfl
theorem M_count (h : mineM m T P D W A U L) (g : gMine T P D W A U L) (hg : goodsM m G K O C N) (hi : itemsM m I S Gd Ow Sd Y) (gi : gItems P I S Gd Ow Sd Y) (ht : textM m tl tx) (hr : rM m vs) (x : Int32) : f_M_count x m = some (cntV x T P G K I Sd S U vs.length tl, jx_w1 m 63 0 0) := by
  have h1 := mineM_th h (v := 0)
  have hg1 := goodsM_th hg (v := 0)
  have hi1 := itemsM_th hi (v := 0)
  have ht1 : (jx_w1 m 63 0 0).1 63 23 = nI tl := by rw [w1_idx (by omega)]; exact ht.1
  have hr1 : (jx_w1 m 63 0 0).1 63 1 = nI vs.length := by rw [w1_idx (by omega)]; exact hr.1
  rw [e_M_count]
  unfold cntV
  simp only [s_soldBits hi1 gi, s_purses h1 g, Option.bind_some, h1.1, h1.2.1, hg1.1, hg1.2.1, hi1.1, hi1.2.1, hr1, ht1, decide_eq_true_eq]
  repeat' split
  all_goals rfl
end KEPT
