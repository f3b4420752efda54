/-! buy, undo -/
def pushY (Y : Nat → Nat → Nat) (S i s p a b : Nat) : Nat → Nat → Nat := fun j k => if k = S then (if j = 0 then i else if j = 1 then s else if j = 2 then p else if j = 3 then a else b) else Y j k
theorem pushY_n {Y : Nat → Nat → Nat} {S i s p a b j k : Nat} (h : k ≠ S) : pushY Y S i s p a b j k = Y j k := if_neg h
theorem pushY_s {Y : Nat → Nat → Nat} {S i s p a b j : Nat} : pushY Y S i s p a b j S = (if j = 0 then i else if j = 1 then s else if j = 2 then p else if j = 3 then a else b) := if_pos rfl
theorem up_comm {f : Nat → Nat} {a b x y : Nat} (h : a ≠ b) : up (up f a x) b y = up (up f b y) a x := by
  funext i
  unfold up
  by_cases h1 : i = a
  · rw [if_pos h1, if_pos h1, if_neg (by omega)]
  · rw [if_neg h1, if_neg h1]
section BUY
variable {m m' : jx_Mem} {T P : Nat} {D : Nat → Nat → Nat} {W A U L : Nat → Nat}
variable {I S : Nat} {Gd Ow : Nat → Nat} {Sd : Nat → Bool} {Y : Nat → Nat → Nat} {Wn : Nat → Nat → Nat} {wd : Nat} {Pr : Nat → Nat → Nat}
theorem mineF_purse (h : mineF m T P D W A U L) (p v : Nat) : mineF (jx_w1 m 7 p (nI v)) T P D W A (up U p v) L := by
  refine ⟨h.1, h.2.1, h.2.2.1, h.2.2.2.1, fun q hq => ⟨(h.2.2.2.2 q hq).1, ?_, (h.2.2.2.2 q hq).2.2⟩⟩
  rw [w1_rd]
  unfold up
  by_cases e : q = p
  · rw [if_pos ⟨rfl, e⟩, if_pos e]
  · rw [if_neg (fun z => e z.2), if_neg e]; exact (h.2.2.2.2 q hq).2.1
theorem mineM_purse (h : mineM m T P D W A U L) (p v : Nat) : mineM (jx_w1 m 68 p (nI v)) T P D W A (up U p v) L := by
  refine ⟨h.1, h.2.1, h.2.2.1, h.2.2.2.1, fun q hq => ⟨(h.2.2.2.2 q hq).1, ?_, (h.2.2.2.2 q hq).2.2⟩⟩
  rw [w1_rd]
  unfold up
  by_cases e : q = p
  · rw [if_pos ⟨rfl, e⟩, if_pos e]
  · rw [if_neg (fun z => e z.2), if_neg e]; exact (h.2.2.2.2 q hq).2.1
theorem gMine_purse (g : gMine T P D W A U L) {p v : Nat} (hv : v ≤ 999) : gMine T P D W A (up U p v) L := by
  refine ⟨g.1, g.2.1, g.2.2.1, g.2.2.2.1, g.2.2.2.2.1, fun q hq => ⟨(g.2.2.2.2.2 q hq).1, ?_, (g.2.2.2.2.2 q hq).2.2⟩⟩
  unfold up
  split
  · exact hv
  · exact (g.2.2.2.2.2 q hq).2.1
theorem s_setPurse (h : mineF m T P D W A U L) (g : gMine T P D W A U L) {p v : Nat} (hp : p < P) (hv : v < 2 ^ 31) : f_Mine_setPurse (nI p) (nI v) m = some (jx_w1 m 7 p (nI (min v 999))) := by
  have hP := g.2.1
  rw [e_Mine_setPurse, s_pers h g, jb_t (in_P g hp), Option.bind_some]
  refine (ifn ne10).trans ?_
  rw [in_nI (show p < 8 by omega) (by omega), nI_cl (by omega), show jx_mn (nI v) 999 = nI (min v 999) from mn_nI (b := 999) hv (by omega)]
  show f_Mine_setPurse_21 _ = _
  rw [e_Mine_setPurse_21]
def wNt (a k : Nat) : Prop := a = 29 ∨ a = 30 ∨ a = 31 ∨ a = 32 ∨ (a = 26 ∧ k = 9)
theorem s_note (h : mineF m T P D W A U L) (g : gMine T P D W A U L) (hS : m.1 26 9 = nI S) (hS2 : S < 12) {i s p : Nat} (hs : s < P) (hp : p < P) : ∃ m1, f_Items_note (nI i) (nI s) (nI p) m = some m1 ∧ sm wNt m m1 ∧ m1.1 26 9 = nI (S + 1) ∧
    (m1.1 29 S = nI i ∧ m1.1 30 S = nI s ∧ m1.1 31 S = nI (U s) ∧ m1.1 32 S = nI (U p)) ∧ ∀ k, k ≠ S → m1.1 29 k = m.1 29 k ∧ m1.1 30 k = m.1 30 k ∧ m1.1 31 k = m.1 31 k ∧ m1.1 32 k = m.1 32 k := by
  have hz : ∀ a k, dMF a k → ¬ wNt a k := by intro a k; unfold dMF wNt; omega
  have s2 : sm wNt m (jx_w1 (jx_w1 m 29 S (nI i)) 30 S (nI s)) := (sm_w1 (by unfold wNt; omega)).w1 (by unfold wNt; omega)
  have s3 : sm wNt m (jx_w1 (jx_w1 (jx_w1 m 29 S (nI i)) 30 S (nI s)) 31 S (nI (U s))) := s2.w1 (by unfold wNt; omega)
  have q1 : ¬ (12 : Int32) ≤ nI S := nI_ge (a := S) (b := 12) hS2 (by omega)
  refine ⟨jx_w1 (jx_w1 (jx_w1 (jx_w1 (jx_w1 m 29 S (nI i)) 30 S (nI s)) 31 S (nI (U s))) 32 S (nI (U p))) 26 9 (nI (S + 1)), ?_, (s3.w1 (by unfold wNt; omega)).w1 (by unfold wNt; omega), w1_same _ _ _ _, ?_, ?_⟩
  · rw [e_Items_note]
    simp [hS, q1, in_nI hS2 (by omega), nI_cl (show S < 2 ^ 31 by omega), w1_rd, s_purseOf (mineF_sm h s2 hz) g hs, s_purseOf (mineF_sm h s3 hz) g hp, nI_1, e_Items_note_73]
  · simp [w1_rd]
  · intro k hk
    simp [w1_rd, hk]
theorem gItems_buy (gi : gItems P I S Gd Ow Sd Y) {i p a b : Nat} (hi : i < I) (hp : p < P) (hs : Sd i = false) (ho : Ow i ≠ p) (ha : a ≤ 999) (hb : b ≤ 999) : S < 12 ∧ gItems P I (S + 1) Gd (up Ow i p) (upB Sd i true) (pushY Y S i (Ow i) p a b) := by
  obtain ⟨g1, g2, g3, g4, g5⟩ := gi
  have dj : ∀ j k, j < k → k < S + 1 → pushY Y S i (Ow i) p a b 0 j ≠ pushY Y S i (Ow i) p a b 0 k := by
    intro j k hjk hk
    rw [pushY_n (show j ≠ S by omega)]
    by_cases e : k = S
    · rw [e, pushY_s]
      show Y 0 j ≠ i
      intro z
      have := (g4 j (by omega)).2.2.2.2.2.2.1
      rw [z, hs] at this
      cases this
    · rw [pushY_n e]; exact g5 j k hjk (by omega)
  have bd : ∀ k, k < S + 1 → pushY Y S i (Ow i) p a b 0 k < I := by
    intro k hk
    by_cases e : k = S
    · rw [e, pushY_s]; exact hi
    · rw [pushY_n e]; exact (g4 k (by omega)).1
  have hS := fb_holes I (S + 1) (fun k => pushY Y S i (Ow i) p a b 0 k) bd dj
  refine ⟨by omega, g1, hS, fun j hj => ?_, fun k hk => ?_, dj⟩
  · refine ⟨(g3 j hj).1, ?_⟩
    unfold up
    split
    · exact hp
    · exact (g3 j hj).2
  · by_cases e : k = S
    · subst e
      simp only [pushY_s]
      refine ⟨hi, (g3 i hi).2, hp, ho, ha, hb, ?_, ?_⟩
      · exact upB_s _ _ _
      · exact up_s _ _ _
    · have h4 := g4 k (by omega)
      simp only [pushY_n e]
      have hne : Y 0 k ≠ i := by
        intro z
        have := h4.2.2.2.2.2.2.1
        rw [z, hs] at this
        cases this
      rw [upB_n hne, up_n hne]
      exact h4
theorem bs_upB {p : Nat → Bool} {n g : Nat} (hg : g < n) (hn : n ≤ 31) : nI (bs p n) ||| (1 : Int32) <<< (nI g &&& 31) = nI (bs (upB p g true) n) := by
  rw [sh1 (by omega), or_bit hg]
  congr 1
  apply bs_congr
  intro i _
  unfold upB
  by_cases e : i = g
  · rw [if_pos e, e]; simp
  · rw [if_neg e]
    have : ¬ g = i := fun z => e z.symm
    simp [this]
theorem bs_downB {p : Nat → Bool} {n g : Nat} (hg : g < n) (hn : n ≤ 31) : nI (bs p n) &&& ((1 : Int32) <<< (nI g &&& 31) ^^^ (-1)) = nI (bs (upB p g false) n) := by
  rw [sh1 (by omega), and_bit hn]
  congr 1
  apply bs_congr
  intro i _
  unfold upB
  by_cases e : i = g
  · rw [if_pos e, e]; simp
  · rw [if_neg e]
    have : ¬ g = i := fun z => e z.symm
    simp [this]
def cBuy (x y : Int32) (P I : Nat) : Prop := (0 ≤ x.toInt ∧ x.toInt < (P : Int)) ∧ (0 ≤ y.toInt ∧ y.toInt < (I : Int))
def okB (x y : Int32) (P I : Nat) (D : Nat → Nat → Nat) (A U Ow : Nat → Nat) (Sd : Nat → Bool) (Pr : Nat → Nat → Nat) : Prop :=
  cBuy x y P I ∧ Sd (jn y) = false ∧ Ow (jn y) ≠ jn x ∧ Pr 0 (jn y) ≤ U (jn x) ∧ D (A (jn x)) (A (Ow (jn y))) < 999
/-- what a refused buy says -/
def noB (x y : Int32) (P I : Nat) (U Ow : Nat → Nat) (Sd : Nat → Bool) (Pr : Nat → Nat → Nat) (v : Int32) : Prop :=
  (¬ cBuy x y P I ∧ v = -1) ∨ (cBuy x y P I ∧ Sd (jn y) = true ∧ v = -2) ∨ (cBuy x y P I ∧ Sd (jn y) = false ∧ (Ow (jn y) = jn x ∨ ¬ Pr 0 (jn y) ≤ U (jn x)) ∧ v = -3) ∨ (cBuy x y P I ∧ Sd (jn y) = false ∧ Ow (jn y) ≠ jn x ∧ Pr 0 (jn y) ≤ U (jn x) ∧ v = -4)
theorem noB_one {x y : Int32} {v w : Int32} (h : noB x y P I U Ow Sd Pr v) (h2 : noB x y P I U Ow Sd Pr w) : v = w := by
  unfold noB at h h2
  rcases h with ⟨a, rfl⟩ | ⟨a, b, rfl⟩ | ⟨a, b, c, rfl⟩ | ⟨a, b, c, d, rfl⟩ <;> rcases h2 with ⟨a', rfl⟩ | ⟨a', b', rfl⟩ | ⟨a', b', c', rfl⟩ | ⟨a', b', c', d', rfl⟩
  all_goals first | rfl | (exfalso; exact a a') | (exfalso; exact a' a) | (exfalso; rw [b] at b'; exact absurd b' (by decide)) | (exfalso; rcases c with z | z; exact c' z; exact z d') | (exfalso; rcases c' with z | z; exact c z; exact z d)
def wByF (a k : Nat) : Prop := a = 7 ∨ a = 28 ∨ (a = 26 ∧ k = 4) ∨ wNt a k
def wByM (a k : Nat) : Prop := a = 68 ∨ a = 83 ∨ a = 84 ∨ a = 88 ∨ (a = 63 ∧ (k = 0 ∨ k = 36))
def bU (U Ow : Nat → Nat) (Pr : Nat → Nat → Nat) (p i : Nat) : Nat → Nat := up (up U p (U p - Pr 0 i)) (Ow i) (min (U (Ow i) + Pr 0 i) 999)
theorem F_buy (h : mineF m T P D W A U L) (g : gMine T P D W A U L) (hi : itemsF m I S Gd Ow Sd Y) (gi : gItems P I S Gd Ow Sd Y) (ha : askF m I Wn wd Pr) (ga : gAsk I Wn wd Pr) (x y : Int32) : ∃ m', sm wByF m m' ∧
    ((okB x y P I D A U Ow Sd Pr ∧ f_F_buy x y m = some (nI (U (jn x) - Pr 0 (jn y)), m') ∧ mineF m' T P D W A (bU U Ow Pr (jn x) (jn y)) L ∧ itemsF m' I (S + 1) Gd (up Ow (jn y) (jn x)) (upB Sd (jn y) true) (pushY Y S (jn y) (Ow (jn y)) (jn x) (U (Ow (jn y))) (U (jn x)))) ∨
     (¬ okB x y P I D A U Ow Sd Pr ∧ (∃ v, f_F_buy x y m = some (v, m') ∧ noB x y P I U Ow Sd Pr v) ∧ m' = m)) := by
  have hP := g.2.1
  have hI := gi.1
  rw [e_F_buy]
  by_cases hy : 0 ≤ y.toInt ∧ y.toInt < (I : Int)
  · obtain ⟨i, hi2, rfl⟩ := nI_get hy.1 hy.2
    rw [s_priceOf hi hI ha hi2, Option.bind_some]
    try dsimp only
    rw [e_Items_sell, s_isItem hi hI, jb_t hy, Option.bind_some]
    have j2 : jn (nI i) = i := jn_nI (show i < 2 ^ 31 by omega)
    by_cases hx : 0 ≤ x.toInt ∧ x.toInt < (P : Int)
    · obtain ⟨p, hp, rfl⟩ := nI_get hx.1 hx.2
      have j1 : jn (nI p) = p := jn_nI (show p < 2 ^ 31 by omega)
      have hOw := (gi.2.2.1 i hi2).2
      have hUp := (g.2.2.2.2.2 p hp).2.1
      have hUs := (g.2.2.2.2.2 (Ow i) hOw).2.1
      have hAp := (g.2.2.2.2.2 p hp).1
      have hAs := (g.2.2.2.2.2 (Ow i) hOw).1
      have hPr := ga.2.2.2 0 i (by omega) hi2
      have e1 : ∀ X : Option (Int32 × jx_Mem), (if decide (((1 : Int32), m).1 = 0) = true then X else ((f_Mine_isPerson (nI p) ((1 : Int32), m).2).bind (fun p2 => if decide (¬ p2.1 = 0) = true then ((f_Items_isSold (nI i) p2.2).bind (fun p3 => if decide (p3.1 = 0) = true then (bif jx_in (nI i) 12 then if decide ((p3.2.1 28 (nI i).toNatClampNeg) = nI p) = true then (f_Items_sell_58 p3.2) else ((f_Mine_purseOf (nI p) p3.2).bind (fun p4 => if decide (nI (Pr 0 i) ≤ p4.1) = true then ((f_Mine_placeOf (nI p) p4.2).bind (fun p5 => (f_Mine_placeOf (p3.2.1 28 (nI i).toNatClampNeg) p5.2).bind (fun p6 => (f_Mine_joined p5.1 p6.1 p6.2).bind (fun p7 => if decide (¬ p7.1 = 0) = true then ((f_Items_note (nI i) (p3.2.1 28 (nI i).toNatClampNeg) (nI p) p7.2).bind (fun p8 => (f_Mine_purseOf (nI p) p8).bind (fun p9 => (f_Mine_setPurse (nI p) (p9.1 - nI (Pr 0 i)) p9.2).bind (fun p10 => (f_Mine_purseOf (p3.2.1 28 (nI i).toNatClampNeg) p10).bind (fun p11 => (f_Mine_setPurse (p3.2.1 28 (nI i).toNatClampNeg) (p11.1 + nI (Pr 0 i)) p11.2).bind (fun p12 => bif (jx_in (nI i) 12 && true) then (let m1 := jx_w1 p12 28 (nI i).toNatClampNeg (nI p); let m2 := jx_w1 m1 26 4 ((m1.1 26 4) ||| (1 <<< (nI i &&& 31))); (f_Mine_purseOf (nI p) m2).bind (fun p13 => some (p13.1, p13.2))) else none)))))) else (some (((-4) : Int32), p7.2)))))) else (f_Items_sell_58 p4.2))) else none) else (some (((-2) : Int32), p3.2)))) else (f_Items_sell_19 p2.2)))) =
          (if decide (bi (Sd i) = 0) = true then (if decide (nI (Ow i) = nI p) = true then f_Items_sell_58 m else (if decide (nI (Pr 0 i) ≤ nI (U p)) = true then (if decide (¬ jb (D (A p) (A (Ow i)) < 999) = 0) = true then ((f_Items_note (nI i) (nI (Ow i)) (nI p) m).bind (fun p8 => (f_Mine_purseOf (nI p) p8).bind (fun p9 => (f_Mine_setPurse (nI p) (p9.1 - nI (Pr 0 i)) p9.2).bind (fun p10 => (f_Mine_purseOf (nI (Ow i)) p10).bind (fun p11 => (f_Mine_setPurse (nI (Ow i)) (p11.1 + nI (Pr 0 i)) p11.2).bind (fun p12 => (f_Mine_purseOf (nI p) (jx_w1 (jx_w1 p12 28 i (nI p)) 26 4 (((jx_w1 p12 28 i (nI p)).1 26 4) ||| (1 <<< (nI i &&& 31))))).bind (fun p13 => some (p13.1, p13.2)))))))) else some (-4, m)) else f_Items_sell_58 m)) else some (-2, m)) := by
        intro X
        simp only [s_pers h g, jb_t hx, Option.bind_some, ne10, not_false_eq_true, decide_false, decide_true, Bool.false_eq_true, if_false, if_true, s_isSold hi hI hi2, in_nI (show i < 12 by omega) (show 12 < 2 ^ 31 by omega), nI_cl (show i < 2 ^ 31 by omega), cond_true, Bool.and_true, (hi.2.2.2.1 i hi2).2, s_purseOf h g hp, s_placeOf h g hp, s_placeOf h g hOw, s_joined h g hAp hAs]
      rw [e1]
      cases hsd : Sd i with
      | true =>
        refine ⟨m, sm.rf, Or.inr ⟨fun q => (by have := q.2.1; rw [j2, hsd] at this; cases this), ⟨-2, ?_, Or.inr (Or.inl ⟨⟨hx, hy⟩, by rw [j2]; exact hsd, rfl⟩)⟩, rfl⟩⟩
        rfl
      | false =>
        by_cases ho : Ow i = p
        · refine ⟨m, sm.rf, Or.inr ⟨fun q => by have := q.2.2.1; rw [j2, j1] at this; exact this ho, ⟨-3, ?_, Or.inr (Or.inr (Or.inl ⟨⟨hx, hy⟩, by rw [j2]; exact hsd, Or.inl (by rw [j1, j2]; exact ho), rfl⟩))⟩, rfl⟩⟩
          have e2 : ∀ X Y : Option (Int32 × jx_Mem), (if decide (bi false = 0) = true then X else Y) = X := fun X Y => ifp rfl
          rw [e2]
          have e3 : ∀ X Y : Option (Int32 × jx_Mem), (if decide (nI (Ow i) = nI p) = true then X else Y) = X := fun X Y => ifp (by rw [ho])
          rw [e3, e_Items_sell_58]
          rfl
        · have e2 : ∀ X Y : Option (Int32 × jx_Mem), (if decide (bi false = 0) = true then X else Y) = X := fun X Y => ifp rfl
          have e3 : ∀ X Y : Option (Int32 × jx_Mem), (if decide (nI (Ow i) = nI p) = true then X else Y) = Y := fun X Y => ifn (fun z => ho ((nI_eq (by omega) (by omega)).mp z))
          rw [e2, e3]
          by_cases hpr : Pr 0 i ≤ U p
          · have e4 : ∀ X Y : Option (Int32 × jx_Mem), (if decide (nI (Pr 0 i) ≤ nI (U p)) = true then X else Y) = X := fun X Y => ifp (nI_le hpr (by omega))
            rw [e4]
            by_cases hd : D (A p) (A (Ow i)) < 999
            · have e5 : ∀ X Y : Option (Int32 × jx_Mem), (if decide (¬ jb (D (A p) (A (Ow i)) < 999) = 0) = true then X else Y) = X := fun X Y => ifnn (by rw [jb_t hd]; exact ne10)
              rw [e5]
              obtain ⟨hS, gi2⟩ := gItems_buy gi hi2 hp hsd ho hUs hUp
              obtain ⟨m1, n1, n2, n3, n4, n5⟩ := s_note h g hi.2.2.1 hS (i := i) hOw hp
              have h1 : mineF m1 T P D W A U L := mineF_sm h n2 (by intro a k; unfold dMF wNt; omega)
              have h2 := mineF_purse h1 p (U p - Pr 0 i)
              have g2 := gMine_purse g (p := p) (v := U p - Pr 0 i) (by omega)
              have h3 := mineF_purse h2 (Ow i) (min (U (Ow i) + Pr 0 i) 999)
              have hu2 : up U p (U p - Pr 0 i) (Ow i) = U (Ow i) := up_n ho
              have t1 : sm wByF m1 (jx_w1 (jx_w1 (jx_w1 (jx_w1 m1 7 p (nI (U p - Pr 0 i))) 7 (Ow i) (nI (min (U (Ow i) + Pr 0 i) 999))) 28 i (nI p)) 26 4 (nI (bs (upB Sd i true) I))) :=
                (((sm_w1 (by unfold wByF; omega)).w1 (by unfold wByF; omega)).w1 (by unfold wByF; omega)).w1 (by unfold wByF; omega)
              have h4 : mineF (jx_w1 (jx_w1 (jx_w1 (jx_w1 m1 7 p (nI (U p - Pr 0 i))) 7 (Ow i) (nI (min (U (Ow i) + Pr 0 i) 999))) 28 i (nI p)) 26 4 (nI (bs (upB Sd i true) I))) T P D W A (bU U Ow Pr p i) L :=
                mineF_sm (Z := fun a k => a = 28 ∨ a = 26) h3 ((sm_w1 (by omega)).w1 (by omega)) (by intro a k; unfold dMF; omega)
              have g4 : gMine T P D W A (bU U Ow Pr p i) L := gMine_purse g2 (by omega)
              have hbp : bU U Ow Pr p i p = U p - Pr 0 i := by
                unfold bU
                rw [up_n (fun z => ho z.symm), up_s]
              have hbits : (jx_w1 (jx_w1 (jx_w1 m1 7 p (nI (U p - Pr 0 i))) 7 (Ow i) (nI (min (U (Ow i) + Pr 0 i) 999))) 28 i (nI p)).1 26 4 = nI (bs Sd I) := by
                rw [w1_cell (by omega), w1_cell (by omega), w1_cell (by omega), (n2 26 4 (by unfold wNt; omega)).1]
                exact hi.2.1
              refine ⟨_, (n2.mono (fun _ _ h => Or.inr (Or.inr (Or.inr h)))).tr t1, Or.inl ⟨⟨⟨hx, hy⟩, by rw [j2]; exact hsd, by rw [j1, j2]; exact ho, by rw [j1, j2]; exact hpr, by rw [j1, j2]; exact hd⟩, ?_, ?_, ?_⟩⟩
              · rw [n1, Option.bind_some, s_purseOf h1 g hp, Option.bind_some]
                try dsimp only
                rw [pk_sub hpr, s_setPurse h1 g hp (by omega), Option.bind_some, show min (U p - Pr 0 i) 999 = U p - Pr 0 i by omega, s_purseOf h2 g2 hOw, Option.bind_some]
                try dsimp only
                rw [hu2, nI_add, s_setPurse h2 g2 hOw (by omega), Option.bind_some, hbits, bs_upB hi2 (by omega), s_purseOf h4 g4 hp, Option.bind_some, hbp, j1, j2]
                rfl
              · rw [j1, j2]; exact h4
              · rw [j1, j2]
                refine ⟨?_, w1_same _ _ _ _, ?_, ?_, ?_⟩
                · simp [w1_rd, (n2 26 3 (by unfold wNt; omega)).1, hi.1]
                · simp [w1_rd, n3]
                · intro j hj
                  have hj2 := hi.2.2.2.1 j hj
                  refine ⟨?_, ?_⟩
                  · simp [w1_rd, (n2 27 j (by unfold wNt; omega)).1, hj2.1]
                  · by_cases e : j = i
                    · subst e
                      rw [up_s]
                      simp [w1_rd]
                    · rw [up_n e]
                      simp [w1_rd, e, (n2 28 j (by unfold wNt; omega)).1, hj2.2]
                · intro k hk
                  by_cases e : k = S
                  · subst e
                    simp only [pushY_s]
                    simp [w1_rd, n4]
                  · have := n5 k e
                    have hk2 := hi.2.2.2.2 k (by omega)
                    simp only [pushY_n e]
                    simp [w1_rd, this, hk2]
            · refine ⟨m, sm.rf, Or.inr ⟨fun q => by have := q.2.2.2.2; rw [j1, j2] at this; exact hd this, ⟨-4, ?_, Or.inr (Or.inr (Or.inr ⟨⟨hx, hy⟩, by rw [j2]; exact hsd, by rw [j1, j2]; exact ho, by rw [j1, j2]; exact hpr, rfl⟩))⟩, rfl⟩⟩
              have e5 : ∀ X Y : Option (Int32 × jx_Mem), (if decide (¬ jb (D (A p) (A (Ow i)) < 999) = 0) = true then X else Y) = Y := fun X Y => ifnp (by rw [jb_f hd])
              rw [e5]
              rfl
          · refine ⟨m, sm.rf, Or.inr ⟨fun q => by have := q.2.2.2.1; rw [j1, j2] at this; exact hpr this, ⟨-3, ?_, Or.inr (Or.inr (Or.inl ⟨⟨hx, hy⟩, by rw [j2]; exact hsd, Or.inr (by rw [j1, j2]; exact hpr), rfl⟩))⟩, rfl⟩⟩
            have e4 : ∀ X Y : Option (Int32 × jx_Mem), (if decide (nI (Pr 0 i) ≤ nI (U p)) = true then X else Y) = Y := fun X Y => ifn (nI_ge (by omega) (by omega))
            rw [e4, e_Items_sell_58]
            rfl
    · refine ⟨m, sm.rf, Or.inr ⟨fun q => hx q.1.1, ⟨-1, ?_, Or.inl ⟨fun q => hx q.1, rfl⟩⟩, rfl⟩⟩
      simp [s_pers h g, jb_f hx, e_Items_sell_19]
  · refine ⟨m, sm.rf, Or.inr ⟨fun q => hy q.1.2, ⟨-1, ?_, Or.inl ⟨fun q => hy q.2, rfl⟩⟩, rfl⟩⟩
    simp [e_Asking_priceOf, s_isItem hi hI, jb_f hy, e_Asking_priceOf_24, e_Items_sell, e_Items_sell_19]
/-! the model's buy -/
theorem w5_rd (m : jx_Mem) (b : Nat) (v0 v1 v2 v3 v4 : Int32) : ((jx_w1 (jx_w1 (jx_w1 (jx_w1 (jx_w1 m 88 b v0) 88 (b + 1) v1) 88 (b + 2) v2) 88 (b + 3) v3) 88 (b + 4) v4).1 88 b = v0 ∧ (jx_w1 (jx_w1 (jx_w1 (jx_w1 (jx_w1 m 88 b v0) 88 (b + 1) v1) 88 (b + 2) v2) 88 (b + 3) v3) 88 (b + 4) v4).1 88 (b + 1) = v1 ∧
    (jx_w1 (jx_w1 (jx_w1 (jx_w1 (jx_w1 m 88 b v0) 88 (b + 1) v1) 88 (b + 2) v2) 88 (b + 3) v3) 88 (b + 4) v4).1 88 (b + 2) = v2 ∧ (jx_w1 (jx_w1 (jx_w1 (jx_w1 (jx_w1 m 88 b v0) 88 (b + 1) v1) 88 (b + 2) v2) 88 (b + 3) v3) 88 (b + 4) v4).1 88 (b + 3) = v3 ∧
    (jx_w1 (jx_w1 (jx_w1 (jx_w1 (jx_w1 m 88 b v0) 88 (b + 1) v1) 88 (b + 2) v2) 88 (b + 3) v3) 88 (b + 4) v4).1 88 (b + 4) = v4) ∧ (∀ k, k < b → (jx_w1 (jx_w1 (jx_w1 (jx_w1 (jx_w1 m 88 b v0) 88 (b + 1) v1) 88 (b + 2) v2) 88 (b + 3) v3) 88 (b + 4) v4).1 88 k = m.1 88 k) ∧
    ∀ a k, a ≠ 88 → (jx_w1 (jx_w1 (jx_w1 (jx_w1 (jx_w1 m 88 b v0) 88 (b + 1) v1) 88 (b + 2) v2) 88 (b + 3) v3) 88 (b + 4) v4).1 a k = m.1 a k := by
  refine ⟨⟨?_, ?_, ?_, ?_, ?_⟩, ?_, ?_⟩
  · rw [w1_idx (by omega), w1_idx (by omega), w1_idx (by omega), w1_idx (by omega), w1_same]
  · rw [w1_idx (by omega), w1_idx (by omega), w1_idx (by omega), w1_same]
  · rw [w1_idx (by omega), w1_idx (by omega), w1_same]
  · rw [w1_idx (by omega), w1_same]
  · rw [w1_same]
  · intro k hk
    rw [w1_idx (by omega), w1_idx (by omega), w1_idx (by omega), w1_idx (by omega), w1_idx (by omega)]
  · intro a k ha
    rw [w1_cell ha, w1_cell ha, w1_cell ha, w1_cell ha, w1_cell ha]
theorem M_buy (h : mineM m T P D W A U L) (g : gMine T P D W A U L) (hi : itemsM m I S Gd Ow Sd Y) (gi : gItems P I S Gd Ow Sd Y) (ha : askM m I Wn wd Pr) (ga : gAsk I Wn wd Pr) (x y : Int32) : ∃ m', sm wByM m m' ∧
    ((okB x y P I D A U Ow Sd Pr ∧ f_M_buy x y m = some (nI (U (jn x) - Pr 0 (jn y)), m') ∧ mineM m' T P D W A (bU U Ow Pr (jn x) (jn y)) L ∧ itemsM m' I (S + 1) Gd (up Ow (jn y) (jn x)) (upB Sd (jn y) true) (pushY Y S (jn y) (Ow (jn y)) (jn x) (U (Ow (jn y))) (U (jn x)))) ∨
     (¬ okB x y P I D A U Ow Sd Pr ∧ (∃ v, f_M_buy x y m = some (v, m') ∧ noB x y P I U Ow Sd Pr v) ∧ m' = jx_w1 m 63 0 0)) := by
  have hP := g.2.1
  have hI := gi.1
  have h1 := mineM_th h (v := 0)
  have hi1 := itemsM_th hi (v := 0)
  have ha1 := askM_th ha (v := 0)
  have s1 : sm wByM m (jx_w1 m 63 0 0) := sm_w1 (by unfold wByM; omega)
  rw [e_M_buy]
  try dsimp only
  by_cases hx : 0 ≤ x.toInt ∧ x.toInt < (P : Int)
  · by_cases hy : 0 ≤ y.toInt ∧ y.toInt < (I : Int)
    · obtain ⟨i, hi2, rfl⟩ := nI_get hy.1 hy.2
      obtain ⟨p, hp, rfl⟩ := nI_get hx.1 hx.2
      have j1 : jn (nI p) = p := jn_nI (show p < 2 ^ 31 by omega)
      have j2 : jn (nI i) = i := jn_nI (show i < 2 ^ 31 by omega)
      have hOw := (gi.2.2.1 i hi2).2
      have hUp := (g.2.2.2.2.2 p hp).2.1
      have hUs := (g.2.2.2.2.2 (Ow i) hOw).2.1
      have hAp := (g.2.2.2.2.2 p hp).1
      have hAs := (g.2.2.2.2.2 (Ow i) hOw).1
      have hPr := ga.2.2.2 0 i (by omega) hi2
      have hDD := (g.2.2.1.2 (A p) (A (Ow i)) hAp hAs).1
      have a85 : (jx_w1 m 63 0 0).1 85 i = nI (Pr 0 i) := by have := ha1.2.2 0 i (by omega) hi2; rw [Nat.mul_zero, Nat.zero_add] at this; exact this
      have f84 := (hi1.2.2.1 i hi2).2.2
      have f83 := (hi1.2.2.1 i hi2).2.1
      have f68 := (h1.2.2.2.2 p hp).2.1
      have f67 := (h1.2.2.2.2 p hp).1
      have g68 := (h1.2.2.2.2 (Ow i) hOw).2.1
      have g67 := (h1.2.2.2.2 (Ow i) hOw).1
      have ci : jx_in (nI i) 12 = true := in_nI (show i < 12 by omega) (by omega)
      have ci2 : jx_in (nI i) 120 = true := in_nI (show i < 120 by omega) (by omega)
      have cp : jx_in (nI p) 8 = true := in_nI (show p < 8 by omega) (by omega)
      have co : jx_in (nI (Ow i)) 8 = true := in_nI (show Ow i < 8 by omega) (by omega)
      have ki : (nI i).toNatClampNeg = i := nI_cl (show i < 2 ^ 31 by omega)
      have kp : (nI p).toNatClampNeg = p := nI_cl (show p < 2 ^ 31 by omega)
      have ko : (nI (Ow i)).toNatClampNeg = Ow i := nI_cl (show Ow i < 2 ^ 31 by omega)
      rw [s_mpers h1 g, jb_t hx, Option.bind_some]
      have b85 : m.1 85 i = nI (Pr 0 i) := by have := ha.2.2 0 i (by omega) hi2; rw [Nat.mul_zero, Nat.zero_add] at this; exact this
      have b84 := (hi.2.2.1 i hi2).2.2
      have b83 := (hi.2.2.1 i hi2).2.1
      have b68 := (h.2.2.2.2 p hp).2.1
      have b67 := (h.2.2.2.2 p hp).1
      have d68 := (h.2.2.2.2 (Ow i) hOw).2.1
      have d67 := (h.2.2.2.2 (Ow i) hOw).1
      cases hsd : Sd i with
      | true =>
        refine ⟨_, s1, Or.inr ⟨fun q => (by have := q.2.1; rw [j2, hsd] at this; cases this), ⟨-2, ?_, Or.inr (Or.inl ⟨⟨hx, hy⟩, by rw [j2]; exact hsd, rfl⟩)⟩, rfl⟩⟩
        simp [s_misItem hi1 hI, jb_t hy, ci, ki, w1_rd, b84, hsd, bi]
      | false =>
        by_cases ho : Ow i = p
        · refine ⟨_, s1, Or.inr ⟨fun q => by have := q.2.2.1; rw [j2, j1] at this; exact this ho, ⟨-3, ?_, Or.inr (Or.inr (Or.inl ⟨⟨hx, hy⟩, by rw [j2]; exact hsd, Or.inl (by rw [j1, j2]; exact ho), rfl⟩))⟩, rfl⟩⟩
          simp [s_misItem hi1 hI, jb_t hy, ci, ki, w1_rd, b84, hsd, bi, b83, ho, e_M_buy_62]
        · have ho2 : ¬ nI (Ow i) = nI p := fun z => ho ((nI_eq (by omega) (by omega)).mp z)
          have ho3 : ¬ p = Ow i := fun z => ho z.symm
          by_cases hpr : Pr 0 i ≤ U p
          · have hpr2 : nI (Pr 0 i) ≤ nI (U p) := nI_le hpr (by omega)
            by_cases hd : D (A p) (A (Ow i)) < 999
            · have q9 : ¬ nI (D (A p) (A (Ow i))) = 999 := fun z => by have := (nI_eq (b := 999) (by omega) (by omega)).mp z; omega
              obtain ⟨hS, gi2⟩ := gItems_buy gi hi2 hp hsd ho hUs hUp
              have k50 : (5 : Int32) * nI S = nI (5 * S) := pk_mul 5 S
              have k51 : nI (5 * S) + 1 = nI (5 * S + 1) := nI_1 _
              have k52 : nI (5 * S) + 2 = nI (5 * S + 2) := nI_add (5 * S) 2
              have k53 : nI (5 * S) + 3 = nI (5 * S + 3) := nI_add (5 * S) 3
              have k54 : nI (5 * S) + 4 = nI (5 * S + 4) := nI_add (5 * S) 4
              have hmn : jx_mn 999 (nI (U (Ow i) + Pr 0 i)) = nI (min 999 (U (Ow i) + Pr 0 i)) := mn_nI (a := 999) (by omega) (by omega)
              have h5 := w5_rd (jx_w1 m 63 0 0) (5 * S) (nI i) (nI (Ow i)) (nI p) (nI (U (Ow i))) (nI (U p))
              have sA : sm wByM m (jx_w1 (jx_w1 (jx_w1 (jx_w1 (jx_w1 (jx_w1 m 63 0 0) 88 (5 * S) (nI i)) 88 (5 * S + 1) (nI (Ow i))) 88 (5 * S + 2) (nI p)) 88 (5 * S + 3) (nI (U (Ow i)))) 88 (5 * S + 4) (nI (U p))) := ((((s1.w1 (by unfold wByM; omega)).w1 (by unfold wByM; omega)).w1 (by unfold wByM; omega)).w1 (by unfold wByM; omega)).w1 (by unfold wByM; omega)
              have hA : mineM (jx_w1 (jx_w1 (jx_w1 (jx_w1 (jx_w1 (jx_w1 m 63 0 0) 88 (5 * S) (nI i)) 88 (5 * S + 1) (nI (Ow i))) 88 (5 * S + 2) (nI p)) 88 (5 * S + 3) (nI (U (Ow i)))) 88 (5 * S + 4) (nI (U p))) T P D W A U L :=
                mineM_sm (Z := fun a k => a = 88) h1 (((((sm_w1 (by omega)).w1 (by omega)).w1 (by omega)).w1 (by omega)).w1 (by omega)) (by intro a k; unfold dMM; omega)
              refine ⟨jx_w1 (jx_w1 (jx_w1 (jx_w1 (jx_w1 (jx_w1 (jx_w1 (jx_w1 (jx_w1 (jx_w1 (jx_w1 m 63 0 0) 88 (5 * S) (nI i)) 88 (5 * S + 1) (nI (Ow i))) 88 (5 * S + 2) (nI p)) 88 (5 * S + 3) (nI (U (Ow i)))) 88 (5 * S + 4) (nI (U p))) 63 36 (nI (S + 1))) 84 i 1) 83 i (nI p)) 68 p (nI (U p - Pr 0 i))) 68 (Ow i) (nI (min 999 (U (Ow i) + Pr 0 i))), ((((sA.w1 (by unfold wByM; omega)).w1 (by unfold wByM; omega)).w1 (by unfold wByM; omega)).w1 (by unfold wByM; omega)).w1 (by unfold wByM; omega), Or.inl ⟨⟨⟨hx, hy⟩, by rw [j2]; exact hsd, by rw [j1, j2]; exact ho, by rw [j1, j2]; exact hpr, by rw [j1, j2]; exact hd⟩, ?_, ?_, ?_⟩⟩
              · rw [j1, j2]
                simp [s_misItem hi1 hI, jb_t hy, ci, ki, ci2, cp, kp, co, ko, w1_rd, b84, hsd, bi, b83, ho2, b85, b68, hpr2, b67, d67, d68, s_far h1 g.2.2.1 hAp hAs, q9, hi.2.1, k50, k51, k52, k53, k54,
                  in_nI (show 5 * S < 60 by omega) (show 60 < 2 ^ 31 by omega), in_nI (show 5 * S + 1 < 60 by omega) (show 60 < 2 ^ 31 by omega), in_nI (show 5 * S + 2 < 60 by omega) (show 60 < 2 ^ 31 by omega), in_nI (show 5 * S + 3 < 60 by omega) (show 60 < 2 ^ 31 by omega), in_nI (show 5 * S + 4 < 60 by omega) (show 60 < 2 ^ 31 by omega),
                  nI_cl (show 5 * S < 2 ^ 31 by omega), nI_cl (show 5 * S + 1 < 2 ^ 31 by omega), nI_cl (show 5 * S + 2 < 2 ^ 31 by omega), nI_cl (show 5 * S + 3 < 2 ^ 31 by omega), nI_cl (show 5 * S + 4 < 2 ^ 31 by omega), nI_1, show jx_01 1 = true from rfl, ho, ho3, pk_sub hpr, nI_add, hmn]
              · rw [j1, j2]
                have hB := mineM_purse (mineM_purse (mineM_sm (Z := fun a k => a = 83 ∨ a = 84 ∨ (a = 63 ∧ k = 36)) hA (((sm_w1 (a := 63) (k := 36) (v := nI (S + 1)) (by omega)).w1 (a := 84) (k := i) (v := 1) (by omega)).w1 (a := 83) (k := i) (v := nI p) (by omega)) (by intro a k; unfold dMM; omega)) p (U p - Pr 0 i)) (Ow i) (min 999 (U (Ow i) + Pr 0 i))
                unfold bU
                rw [Nat.min_comm (U (Ow i) + Pr 0 i) 999]
                exact hB
              · rw [j1, j2]
                have out : ∀ a k, a ≠ 68 → a ≠ 83 → a ≠ 84 → a ≠ 63 → (jx_w1 (jx_w1 (jx_w1 (jx_w1 (jx_w1 (jx_w1 (jx_w1 (jx_w1 (jx_w1 (jx_w1 (jx_w1 m 63 0 0) 88 (5 * S) (nI i)) 88 (5 * S + 1) (nI (Ow i))) 88 (5 * S + 2) (nI p)) 88 (5 * S + 3) (nI (U (Ow i)))) 88 (5 * S + 4) (nI (U p))) 63 36 (nI (S + 1))) 84 i 1) 83 i (nI p)) 68 p (nI (U p - Pr 0 i))) 68 (Ow i) (nI (min 999 (U (Ow i) + Pr 0 i)))).1 a k = (jx_w1 (jx_w1 (jx_w1 (jx_w1 (jx_w1 (jx_w1 m 63 0 0) 88 (5 * S) (nI i)) 88 (5 * S + 1) (nI (Ow i))) 88 (5 * S + 2) (nI p)) 88 (5 * S + 3) (nI (U (Ow i)))) 88 (5 * S + 4) (nI (U p))).1 a k := by
                  intro a k c1 c2 c3 c4
                  rw [w1_cell c1, w1_cell c1, w1_cell c2, w1_cell c3, w1_cell c4]
                refine ⟨?_, ?_, ?_, ?_⟩
                · simp [w1_rd, hi.1]
                · simp [w1_rd]
                · intro j hj
                  have hj2 := hi.2.2.1 j hj
                  refine ⟨by rw [out 82 j (by omega) (by omega) (by omega) (by omega), h5.2.2 82 j (by omega), w1_cell (by omega)]; exact hj2.1, ?_, ?_⟩
                  · by_cases e : j = i
                    · subst e
                      rw [up_s]
                      simp [w1_rd]
                    · rw [up_n e]
                      simp [w1_rd, e, hj2.2.1]
                  · by_cases e : j = i
                    · subst e
                      rw [upB_s]
                      simp [w1_rd, bi]
                    · rw [upB_n e]
                      simp [w1_rd, e, hj2.2.2]
                · intro k hk
                  rw [out 88 _ (by omega) (by omega) (by omega) (by omega), out 88 _ (by omega) (by omega) (by omega) (by omega), out 88 _ (by omega) (by omega) (by omega) (by omega), out 88 _ (by omega) (by omega) (by omega) (by omega), out 88 _ (by omega) (by omega) (by omega) (by omega)]
                  by_cases e : k = S
                  · subst e
                    simp only [pushY_s]
                    exact h5.1
                  · have hk2 := hi1.2.2.2 k (by omega)
                    simp only [pushY_n e]
                    rw [h5.2.1 _ (by omega), h5.2.1 _ (by omega), h5.2.1 _ (by omega), h5.2.1 _ (by omega), h5.2.1 _ (by omega)]
                    exact hk2
            · have q9 : nI (D (A p) (A (Ow i))) = 999 := by rw [show D (A p) (A (Ow i)) = 999 by omega]; rfl
              refine ⟨_, s1, Or.inr ⟨fun q => by have := q.2.2.2.2; rw [j1, j2] at this; exact hd this, ⟨-4, ?_, Or.inr (Or.inr (Or.inr ⟨⟨hx, hy⟩, by rw [j2]; exact hsd, by rw [j1, j2]; exact ho, by rw [j1, j2]; exact hpr, rfl⟩))⟩, rfl⟩⟩
              simp [s_misItem hi1 hI, jb_t hy, ci, ki, ci2, cp, kp, co, ko, w1_rd, b84, hsd, bi, b83, ho2, b85, b68, hpr2, b67, d67, s_far h1 g.2.2.1 hAp hAs, q9]
          · have hpr2 : ¬ nI (Pr 0 i) ≤ nI (U p) := nI_ge (by omega) (by omega)
            refine ⟨_, s1, Or.inr ⟨fun q => by have := q.2.2.2.1; rw [j1, j2] at this; exact hpr this, ⟨-3, ?_, Or.inr (Or.inr (Or.inl ⟨⟨hx, hy⟩, by rw [j2]; exact hsd, Or.inr (by rw [j1, j2]; exact hpr), rfl⟩))⟩, rfl⟩⟩
            simp [s_misItem hi1 hI, jb_t hy, ci, ki, ci2, cp, kp, w1_rd, b84, hsd, bi, b83, ho2, b85, b68, hpr2, e_M_buy_62]
    · refine ⟨_, s1, Or.inr ⟨fun q => hy q.1.2, ⟨-1, ?_, Or.inl ⟨fun q => hy q.2, rfl⟩⟩, rfl⟩⟩
      simp [s_mpers h1 g, jb_t hx, s_misItem hi1 hI, jb_f hy, e_M_buy_21]
  · refine ⟨_, s1, Or.inr ⟨fun q => hx q.1.1, ⟨-1, ?_, Or.inl ⟨fun q => hx q.1, rfl⟩⟩, rfl⟩⟩
    simp [s_mpers h1 g, jb_f hx, e_M_buy_21]
/-! undo -/
def uU (U : Nat → Nat) (Y : Nat → Nat → Nat) (s : Nat) : Nat → Nat := up (up U (Y 2 s) (Y 4 s)) (Y 1 s) (Y 3 s)
theorem gItems_undo {s : Nat} (gi : gItems P I (s + 1) Gd Ow Sd Y) : gItems P I s Gd (up Ow (Y 0 s) (Y 1 s)) (upB Sd (Y 0 s) false) Y := by
  obtain ⟨g1, g2, g3, g4, g5⟩ := gi
  have h4 := g4 s (by omega)
  refine ⟨g1, by omega, fun i hi => ⟨(g3 i hi).1, ?_⟩, fun k hk => ?_, fun j k h1 h2 => g5 j k h1 (by omega)⟩
  · unfold up
    split
    · exact h4.2.1
    · exact (g3 i hi).2
  · have hne := g5 k s hk (by omega)
    rw [upB_n hne, up_n hne]
    exact g4 k (by omega)
theorem F_undo (h : mineF m T P D W A U L) (g : gMine T P D W A U L) (hi : itemsF m I S Gd Ow Sd Y) (gi : gItems P I S Gd Ow Sd Y) : ∃ m', sm wByF m m' ∧
    ((∃ s, S = s + 1 ∧ f_F_undo m = some (nI (Y 0 s), m') ∧ mineF m' T P D W A (uU U Y s) L ∧ itemsF m' I s Gd (up Ow (Y 0 s) (Y 1 s)) (upB Sd (Y 0 s) false) Y) ∨ (S = 0 ∧ f_F_undo m = some (-2, m') ∧ m' = m)) := by
  have hP := g.2.1
  have hI := gi.1
  rw [e_F_undo, e_Items_takeBack, hi.2.2.1]
  cases S with
  | zero =>
    refine ⟨m, sm.rf, Or.inr ⟨rfl, ?_, rfl⟩⟩
    simp [nI_0]
  | succ s =>
    obtain ⟨c1, c2, c3, c4, c5, c6, c7, c8⟩ := gi.2.2.2.1 s (by omega)
    have hS := gi.2.1
    have hk := hi.2.2.2.2 s (by omega)
    have hz : sm wByF m (jx_w1 m 26 9 (nI s)) := sm_w1 (by unfold wByF wNt; omega)
    have h1 : mineF (jx_w1 m 26 9 (nI s)) T P D W A U L := mineF_sm (Z := fun a k => a = 26) h (sm_w1 rfl) (by intro a k; unfold dMF; omega)
    have h2 := mineF_purse h1 (Y 2 s) (Y 4 s)
    have g2 := gMine_purse g (p := Y 2 s) (v := Y 4 s) c6
    have h3 := mineF_purse h2 (Y 1 s) (Y 3 s)
    have f1 := s_setPurse h1 g c3 (show Y 4 s < 2 ^ 31 by omega)
    have f2 := s_setPurse h2 g2 c2 (show Y 3 s < 2 ^ 31 by omega)
    rw [show min (Y 4 s) 999 = Y 4 s by omega] at f1
    rw [show min (Y 3 s) 999 = Y 3 s by omega] at f2
    have r28 := (hi.2.2.2.1 (Y 0 s) c1).2
    rw [c8] at r28
    refine ⟨jx_w1 (jx_w1 (jx_w1 (jx_w1 (jx_w1 m 26 9 (nI s)) 7 (Y 2 s) (nI (Y 4 s))) 7 (Y 1 s) (nI (Y 3 s))) 28 (Y 0 s) (nI (Y 1 s))) 26 4 (nI (bs (upB Sd (Y 0 s) false) I)), (((hz.w1 (by unfold wByF; omega)).w1 (by unfold wByF; omega)).w1 (by unfold wByF; omega)).w1 (by unfold wByF; omega), Or.inl ⟨s, rfl, ?_, ?_, ?_, ?_, ?_, ?_, ?_⟩⟩
    · have q0 : ¬ nI (s + 1) = 0 := nI_ne0 (by omega) (by omega)
      have hb := bs_downB (p := Sd) c1 (show I ≤ 31 by omega)
      simp at hb
      simp [q0, nI_pred, w1_rd, in_nI (show s < 12 by omega) (show 12 < 2 ^ 31 by omega), nI_cl (show s < 2 ^ 31 by omega), hk, in_nI (show Y 0 s < 12 by omega) (show 12 < 2 ^ 31 by omega), nI_cl (show Y 0 s < 2 ^ 31 by omega), r28, f1, f2, hi.2.1, hb]
    · exact mineF_sm (Z := fun a k => a = 26 ∨ a = 28) h3 ((sm_w1 (by omega)).w1 (by omega)) (by intro a k; unfold dMF; omega)
    · simp [w1_rd, hi.1]
    · exact w1_same _ _ _ _
    · simp [w1_rd]
    · intro j hj
      have hj2 := hi.2.2.2.1 j hj
      refine ⟨by simp [w1_rd, hj2.1], ?_⟩
      by_cases e : j = Y 0 s
      · rw [e, up_s]; simp [w1_rd]
      · rw [up_n e]; simp [w1_rd, e, hj2.2]
    · intro k hk2
      have := hi.2.2.2.2 k (by omega)
      simp [w1_rd, this]
theorem M_undo (h : mineM m T P D W A U L) (g : gMine T P D W A U L) (hi : itemsM m I S Gd Ow Sd Y) (gi : gItems P I S Gd Ow Sd Y) : ∃ m', sm wByM m m' ∧
    ((∃ s, S = s + 1 ∧ f_M_undo m = some (nI (Y 0 s), m') ∧ mineM m' T P D W A (uU U Y s) L ∧ itemsM m' I s Gd (up Ow (Y 0 s) (Y 1 s)) (upB Sd (Y 0 s) false) Y) ∨ (S = 0 ∧ f_M_undo m = some (-2, m') ∧ m' = jx_w1 m 63 0 0)) := by
  have hP := g.2.1
  have hI := gi.1
  have h1 := mineM_th h (v := 0)
  have hi1 := itemsM_th hi (v := 0)
  have s1 : sm wByM m (jx_w1 m 63 0 0) := sm_w1 (by unfold wByM; omega)
  rw [e_M_undo]
  try dsimp only
  rw [hi1.2.1]
  cases S with
  | zero =>
    refine ⟨_, s1, Or.inr ⟨rfl, ?_, rfl⟩⟩
    simp [nI_0]
  | succ s =>
    obtain ⟨c1, c2, c3, c4, c5, c6, c7, c8⟩ := gi.2.2.2.1 s (by omega)
    have hS := gi.2.1
    obtain ⟨d0, d1, d2, d3, d4⟩ := hi.2.2.2 s (by omega)
    have k50 : (5 : Int32) * nI s = nI (5 * s) := pk_mul 5 s
    have k51 : nI (5 * s) + 1 = nI (5 * s + 1) := nI_1 _
    have k52 : nI (5 * s) + 2 = nI (5 * s + 2) := nI_add (5 * s) 2
    have k53 : nI (5 * s) + 3 = nI (5 * s + 3) := nI_add (5 * s) 3
    have k54 : nI (5 * s) + 4 = nI (5 * s + 4) := nI_add (5 * s) 4
    refine ⟨jx_w1 (jx_w1 (jx_w1 (jx_w1 (jx_w1 (jx_w1 m 63 0 0) 63 36 (nI s)) 84 (Y 0 s) 0) 83 (Y 0 s) (nI (Y 1 s))) 68 (Y 1 s) (nI (Y 3 s))) 68 (Y 2 s) (nI (Y 4 s)), ((((s1.w1 (by unfold wByM; omega)).w1 (by unfold wByM; omega)).w1 (by unfold wByM; omega)).w1 (by unfold wByM; omega)).w1 (by unfold wByM; omega), Or.inl ⟨s, rfl, ?_, ?_, ?_, ?_, ?_, ?_⟩⟩
    · have q0 : ¬ nI (s + 1) = 0 := nI_ne0 (by omega) (by omega)
      simp [q0, nI_pred, w1_rd, k50, k51, k52, k53, k54, d0, d1, d2, d3, d4, show jx_01 0 = true from rfl,
        in_nI (show 5 * s < 60 by omega) (show 60 < 2 ^ 31 by omega), in_nI (show 5 * s + 1 < 60 by omega) (show 60 < 2 ^ 31 by omega), in_nI (show 5 * s + 2 < 60 by omega) (show 60 < 2 ^ 31 by omega), in_nI (show 5 * s + 3 < 60 by omega) (show 60 < 2 ^ 31 by omega), in_nI (show 5 * s + 4 < 60 by omega) (show 60 < 2 ^ 31 by omega),
        nI_cl (show 5 * s < 2 ^ 31 by omega), nI_cl (show 5 * s + 1 < 2 ^ 31 by omega), nI_cl (show 5 * s + 2 < 2 ^ 31 by omega), nI_cl (show 5 * s + 3 < 2 ^ 31 by omega), nI_cl (show 5 * s + 4 < 2 ^ 31 by omega),
        in_nI (show Y 0 s < 12 by omega) (show 12 < 2 ^ 31 by omega), nI_cl (show Y 0 s < 2 ^ 31 by omega), in_nI (show Y 1 s < 8 by omega) (show 8 < 2 ^ 31 by omega), nI_cl (show Y 1 s < 2 ^ 31 by omega), in_nI (show Y 2 s < 8 by omega) (show 8 < 2 ^ 31 by omega), nI_cl (show Y 2 s < 2 ^ 31 by omega)]
    · unfold uU
      rw [up_comm (fun z => c4 z.symm)]
      exact mineM_purse (mineM_purse (mineM_sm (Z := fun a k => a = 83 ∨ a = 84 ∨ (a = 63 ∧ k = 36)) h1 (((sm_w1 (a := 63) (k := 36) (v := nI s) (by omega)).w1 (a := 84) (k := Y 0 s) (v := 0) (by omega)).w1 (a := 83) (k := Y 0 s) (v := nI (Y 1 s)) (by omega)) (by intro a k; unfold dMM; omega)) (Y 1 s) (Y 3 s)) (Y 2 s) (Y 4 s)
    · simp [w1_rd, hi.1]
    · simp [w1_rd]
    · intro j hj
      have hj2 := hi.2.2.1 j hj
      refine ⟨by simp [w1_rd, hj2.1], ?_, ?_⟩
      · by_cases e : j = Y 0 s
        · rw [e, up_s]; simp [w1_rd]
        · rw [up_n e]; simp [w1_rd, e, hj2.2.1]
      · by_cases e : j = Y 0 s
        · rw [e, upB_s]; simp [w1_rd, bi]
        · rw [upB_n e]; simp [w1_rd, e, hj2.2.2]
    · intro k hk2
      have := hi.2.2.2 k (by omega)
      simp [w1_rd, this]
end BUY
