/-! items, wants, prices: pictures; want, wind, item -/
def upB (f : Nat → Bool) (k : Nat) (b : Bool) : Nat → Bool := fun i => if i = k then b else f i
theorem upB_s (f : Nat → Bool) (k : Nat) (b : Bool) : upB f k b k = b := if_pos rfl
theorem upB_n {f : Nat → Bool} {k i : Nat} {b : Bool} (h : i ≠ k) : upB f k b i = f i := if_neg h
def gItems (P I S : Nat) (Gd Ow : Nat → Nat) (Sd : Nat → Bool) (Y : Nat → Nat → Nat) : Prop :=
  I ≤ 12 ∧ S ≤ I ∧ (∀ i, i < I → Gd i < 10 ∧ Ow i < P) ∧
  (∀ k, k < S → Y 0 k < I ∧ Y 1 k < P ∧ Y 2 k < P ∧ Y 1 k ≠ Y 2 k ∧ Y 3 k ≤ 999 ∧ Y 4 k ≤ 999 ∧ Sd (Y 0 k) = true ∧ Ow (Y 0 k) = Y 2 k) ∧
  (∀ j k, j < k → k < S → Y 0 j ≠ Y 0 k)
def itemsF (m : jx_Mem) (I S : Nat) (Gd Ow : Nat → Nat) (Sd : Nat → Bool) (Y : Nat → Nat → Nat) : Prop :=
  m.1 26 3 = nI I ∧ m.1 26 4 = nI (bs Sd I) ∧ m.1 26 9 = nI S ∧ (∀ i, i < I → m.1 27 i = nI (Gd i) ∧ m.1 28 i = nI (Ow i)) ∧
  (∀ k, k < S → m.1 29 k = nI (Y 0 k) ∧ m.1 30 k = nI (Y 1 k) ∧ m.1 31 k = nI (Y 3 k) ∧ m.1 32 k = nI (Y 4 k))
def itemsM (m : jx_Mem) (I S : Nat) (Gd Ow : Nat → Nat) (Sd : Nat → Bool) (Y : Nat → Nat → Nat) : Prop :=
  m.1 63 28 = nI I ∧ m.1 63 36 = nI S ∧ (∀ i, i < I → m.1 82 i = nI (Gd i) ∧ m.1 83 i = nI (Ow i) ∧ m.1 84 i = bi (Sd i)) ∧
  (∀ k, k < S → m.1 88 (5 * k) = nI (Y 0 k) ∧ m.1 88 (5 * k + 1) = nI (Y 1 k) ∧ m.1 88 (5 * k + 2) = nI (Y 2 k) ∧ m.1 88 (5 * k + 3) = nI (Y 3 k) ∧ m.1 88 (5 * k + 4) = nI (Y 4 k))
def dIF (a k : Nat) : Prop := (a = 26 ∧ (k = 3 ∨ k = 4 ∨ k = 9)) ∨ a = 27 ∨ a = 28 ∨ a = 29 ∨ a = 30 ∨ a = 31 ∨ a = 32
def dIM (a k : Nat) : Prop := (a = 63 ∧ (k = 28 ∨ k = 36)) ∨ a = 82 ∨ a = 83 ∨ a = 84 ∨ a = 88
def gAsk (I : Nat) (Wn : Nat → Nat → Nat) (wd : Nat) (Pr : Nat → Nat → Nat) : Prop :=
  (∀ p g, p < 8 → g < 10 → Wn p g ≤ 99) ∧ 1 ≤ wd ∧ wd ≤ 20 ∧ ∀ b i, b < 10 → i < I → Pr b i ≤ 99
def askF (m : jx_Mem) (I : Nat) (Wn : Nat → Nat → Nat) (wd : Nat) (Pr : Nat → Nat → Nat) : Prop :=
  m.1 33 3 = nI wd ∧ (∀ p g, p < 8 → g < 10 → m.1 34 (10 * p + g) = nI (Wn p g)) ∧ ∀ r i, r < 10 → i < I → m.1 35 (12 * r + i) = nI (Pr (9 - r) i)
def askM (m : jx_Mem) (I : Nat) (Wn : Nat → Nat → Nat) (wd : Nat) (Pr : Nat → Nat → Nat) : Prop :=
  m.1 63 34 = nI wd ∧ (∀ p g, p < 8 → g < 10 → m.1 81 (10 * p + g) = nI (Wn p g)) ∧ ∀ r i, r < 10 → i < I → m.1 85 (12 * r + i) = nI (Pr r i)
def dKF (a k : Nat) : Prop := (a = 33 ∧ k = 3) ∨ a = 34 ∨ (a = 35 ∧ k < 120)
def dKM (a k : Nat) : Prop := (a = 63 ∧ k = 34) ∨ a = 81 ∨ a = 85
section ITEMS
variable {m m' : jx_Mem} {T P : Nat} {D : Nat → Nat → Nat} {W A U L : Nat → Nat} {G K : Nat} {O C : Nat → Nat} {N : Nat → Nat → Nat}
variable {I S : Nat} {Gd Ow : Nat → Nat} {Sd : Nat → Bool} {Y : Nat → Nat → Nat} {Wn : Nat → Nat → Nat} {wd : Nat} {Pr : Nat → Nat → Nat} {Z : Nat → Nat → Prop}
theorem itemsF_sm (h : itemsF m I S Gd Ow Sd Y) (hs : sm Z m m') (hz : ∀ a k, dIF a k → ¬ Z a k) : itemsF m' I S Gd Ow Sd Y :=
  ⟨(hs 26 3 (hz 26 3 (by unfold dIF; omega))).1.trans h.1, (hs 26 4 (hz 26 4 (by unfold dIF; omega))).1.trans h.2.1, (hs 26 9 (hz 26 9 (by unfold dIF; omega))).1.trans h.2.2.1,
   fun i hi => ⟨(hs 27 i (hz 27 i (by unfold dIF; omega))).1.trans (h.2.2.2.1 i hi).1, (hs 28 i (hz 28 i (by unfold dIF; omega))).1.trans (h.2.2.2.1 i hi).2⟩,
   fun k hk => ⟨(hs 29 k (hz 29 k (by unfold dIF; omega))).1.trans (h.2.2.2.2 k hk).1, (hs 30 k (hz 30 k (by unfold dIF; omega))).1.trans (h.2.2.2.2 k hk).2.1, (hs 31 k (hz 31 k (by unfold dIF; omega))).1.trans (h.2.2.2.2 k hk).2.2.1, (hs 32 k (hz 32 k (by unfold dIF; omega))).1.trans (h.2.2.2.2 k hk).2.2.2⟩⟩
theorem itemsM_sm (h : itemsM m I S Gd Ow Sd Y) (hs : sm Z m m') (hz : ∀ a k, dIM a k → ¬ Z a k) : itemsM m' I S Gd Ow Sd Y :=
  ⟨(hs 63 28 (hz 63 28 (by unfold dIM; omega))).1.trans h.1, (hs 63 36 (hz 63 36 (by unfold dIM; omega))).1.trans h.2.1,
   fun i hi => ⟨(hs 82 i (hz 82 i (by unfold dIM; omega))).1.trans (h.2.2.1 i hi).1, (hs 83 i (hz 83 i (by unfold dIM; omega))).1.trans (h.2.2.1 i hi).2.1, (hs 84 i (hz 84 i (by unfold dIM; omega))).1.trans (h.2.2.1 i hi).2.2⟩,
   fun k hk => ⟨(hs 88 _ (hz 88 _ (by unfold dIM; omega))).1.trans (h.2.2.2 k hk).1, (hs 88 _ (hz 88 _ (by unfold dIM; omega))).1.trans (h.2.2.2 k hk).2.1, (hs 88 _ (hz 88 _ (by unfold dIM; omega))).1.trans (h.2.2.2 k hk).2.2.1, (hs 88 _ (hz 88 _ (by unfold dIM; omega))).1.trans (h.2.2.2 k hk).2.2.2.1, (hs 88 _ (hz 88 _ (by unfold dIM; omega))).1.trans (h.2.2.2 k hk).2.2.2.2⟩⟩
theorem askF_sm (h : askF m I Wn wd Pr) (hI : I ≤ 12) (hs : sm Z m m') (hz : ∀ a k, dKF a k → ¬ Z a k) : askF m' I Wn wd Pr :=
  ⟨(hs 33 3 (hz 33 3 (by unfold dKF; omega))).1.trans h.1, fun p g hp hg => (hs 34 _ (hz 34 _ (by unfold dKF; omega))).1.trans (h.2.1 p g hp hg), fun r i hr hi => (hs 35 _ (hz 35 _ (by unfold dKF; omega))).1.trans (h.2.2 r i hr hi)⟩
theorem askM_sm (h : askM m I Wn wd Pr) (hs : sm Z m m') (hz : ∀ a k, dKM a k → ¬ Z a k) : askM m' I Wn wd Pr :=
  ⟨(hs 63 34 (hz 63 34 (by unfold dKM; omega))).1.trans h.1, fun p g hp hg => (hs 81 _ (hz 81 _ (by unfold dKM; omega))).1.trans (h.2.1 p g hp hg), fun r i hr hi => (hs 85 _ (hz 85 _ (by unfold dKM; omega))).1.trans (h.2.2 r i hr hi)⟩
theorem itemsM_th (h : itemsM m I S Gd Ow Sd Y) {v : Int32} : itemsM (jx_w1 m 63 0 v) I S Gd Ow Sd Y :=
  itemsM_sm (Z := fun a k => a = 63 ∧ k = 0) h (sm_w1 ⟨rfl, rfl⟩) (by intro a k; unfold dIM; omega)
theorem askM_th (h : askM m I Wn wd Pr) {v : Int32} : askM (jx_w1 m 63 0 v) I Wn wd Pr :=
  askM_sm (Z := fun a k => a = 63 ∧ k = 0) h (sm_w1 ⟨rfl, rfl⟩) (by intro a k; unfold dKM; omega)
theorem t_isItem (x : Int32) (m : jx_Mem) : f_Items_isItem x m = some (jb (0 ≤ x.toInt ∧ x.toInt < (m.1 26 3).toInt), m) := by
  simp only [e_Items_isItem, e_Items_isItem_16, e_Items_isItem_17, decide_eq_true_eq, i_lt, i_le, jb, Int32.reduceToInt]
  repeat' split
  all_goals first | rfl | omega | (exfalso; omega)
theorem s_isItem (h : itemsF m I S Gd Ow Sd Y) (hI : I ≤ 12) (x : Int32) : f_Items_isItem x m = some (jb (0 ≤ x.toInt ∧ x.toInt < (I : Int)), m) := by
  rw [t_isItem, h.1, nI_toInt (by omega)]
theorem s_misItem (h : itemsM m I S Gd Ow Sd Y) (hI : I ≤ 12) (x : Int32) : f_M_isItem x m = some (jb (0 ≤ x.toInt ∧ x.toInt < (I : Int)), m) := by
  have h1 : (m.1 63 28 - 1).toInt = (I : Int) - 1 := by
    rw [i_sub1 (k := 12) (by rw [h.1]; exact lim_of hI (by omega)), h.1, nI_toInt (by omega)]
  rw [e_M_isItem, s_M_in, il_toInt, il_toInt, h1, show (0 : Int64).toInt = 0 from rfl]
  rw [jb_congr (show (0 ≤ x.toInt ∧ x.toInt ≤ (I : Int) - 1) ↔ (0 ≤ x.toInt ∧ x.toInt < (I : Int)) by omega)]
  show (bif jx_01 (jb _) then _ else none) = _
  rw [jb_01]
  rfl
theorem s_isItem_t (h : itemsF m I S Gd Ow Sd Y) (hI : I ≤ 12) {i : Nat} (hi : i < I) : f_Items_isItem (nI i) m = some (1, m) := by
  rw [s_isItem h hI, jb_t (in_N hi (by omega))]
theorem s_ownerOf (h : itemsF m I S Gd Ow Sd Y) (hI : I ≤ 12) {i : Nat} (hi : i < I) : f_Items_ownerOf (nI i) m = some (nI (Ow i), m) := by
  rw [e_Items_ownerOf, s_isItem_t h hI hi]
  simp [in_nI (show i < 12 by omega) (by omega), nI_cl (show i < 2 ^ 31 by omega), (h.2.2.2.1 i hi).2, e_Items_ownerOf_18]
theorem s_goodOf (h : itemsF m I S Gd Ow Sd Y) (hI : I ≤ 12) {i : Nat} (hi : i < I) : f_Items_goodOf (nI i) m = some (nI (Gd i), m) := by
  rw [e_Items_goodOf, s_isItem_t h hI hi]
  simp [in_nI (show i < 12 by omega) (by omega), nI_cl (show i < 2 ^ 31 by omega), (h.2.2.2.1 i hi).1, e_Items_goodOf_18]
theorem bs12 {p : Nat → Bool} (hI : I ≤ 12) : bs p I < 2 ^ 31 := Nat.lt_of_lt_of_le (bs_lt p I) (Nat.pow_le_pow_right (by omega) (by omega))
theorem s_isSold (h : itemsF m I S Gd Ow Sd Y) (hI : I ≤ 12) {i : Nat} (hi : i < I) : f_Items_isSold (nI i) m = some (bi (Sd i), m) := by
  have hb : (bs Sd I).testBit i = Sd i := by rw [bs_tb]; simp [hi]
  rw [e_Items_isSold, s_isItem_t h hI hi, Option.bind_some]
  refine (ifn ne10).trans ?_
  try dsimp only
  rw [h.2.1, s_has (bs12 hI) (by omega), hb, Option.bind_some]
  cases hs : Sd i with
  | false =>
    rw [jb_f (by decide)]
    refine (ifp eq00).trans ?_
    rw [e_Items_isSold_23, e_Items_isSold_24]
    rfl
  | true =>
    rw [jb_t rfl]
    refine (ifn ne10).trans ?_
    rw [e_Items_isSold_24]
    rfl
theorem s_priceOf (h : itemsF m I S Gd Ow Sd Y) (hI : I ≤ 12) (ha : askF m I Wn wd Pr) {i : Nat} (hi : i < I) : f_Asking_priceOf (nI i) m = some (nI (Pr 0 i), m) := by
  have h9 := ha.2.2 9 i (by omega) hi
  rw [e_Asking_priceOf, s_isItem_t h hI hi]
  simp [show (108 : Int32) + nI i = nI (12 * 9 + i) from nI_add 108 i, in_nI (show 12 * 9 + i < 2520 by omega) (by omega), nI_cl (show 12 * 9 + i < 2 ^ 31 by omega), e_Asking_priceOf_24]
  exact h9
theorem s_wantsOf (h : mineF m T P D W A U L) (g : gMine T P D W A U L) (ha : askF m I Wn wd Pr) {p q : Nat} (hp : p < P) (hq : q < 10) : f_Asking_wantsOf (nI p) (nI q) m = some (nI (Wn p q), m) := by
  have hP := g.2.1
  have c : 0 ≤ (nI q).toInt ∧ (nI q).toInt ≤ 9 := by rw [nI_toInt (by omega)]; omega
  rw [e_Asking_wantsOf, s_pers h g, jb_t (in_P g hp)]
  simp [s_wi_t (lo := 0) (hi := 9) c, e_Asking_wantsOf_26, e_Asking_wantsOf_46, ix10, in_nI (show 10 * p + q < 80 by omega) (by omega), nI_cl (show 10 * p + q < 2 ^ 31 by omega), ha.2.1 p q (by omega) hq]
def cWant (x y z : Int32) (P G : Nat) : Prop := (0 ≤ x.toInt ∧ x.toInt < (P : Int)) ∧ (0 ≤ y.toInt ∧ y.toInt < (G : Int)) ∧ (0 ≤ z.toInt ∧ z.toInt ≤ 99)
theorem F_want (h : mineF m T P D W A U L) (g : gMine T P D W A U L) (hg : goodsF m G K O C N) (gg : gGoods G K O C N) (ha : askF m I Wn wd Pr) (x y z : Int32) : ∃ m', sm (fun q _ => q = 34) m m' ∧
    ((cWant x y z P G ∧ f_F_want x y z m = some (nI (Wn (jn x) (jn y)), m') ∧ askF m' I (u2 Wn (jn x) (jn y) (jn z)) wd Pr) ∨ (¬ cWant x y z P G ∧ f_F_want x y z m = some (-1, m') ∧ m' = m)) := by
  have hP := g.2.1
  have hG := gg.1
  rw [e_F_want]
  by_cases hx : 0 ≤ x.toInt ∧ x.toInt < (P : Int)
  · by_cases hy : 0 ≤ y.toInt ∧ y.toInt < (G : Int)
    · by_cases hz : 0 ≤ z.toInt ∧ z.toInt ≤ 99
      · obtain ⟨p, hp, rfl⟩ := nI_get hx.1 hx.2
        obtain ⟨q, hq, rfl⟩ := nI_get hy.1 hy.2
        obtain ⟨v, hv, rfl⟩ := nI_get hz.1 (show z.toInt < ((100 : Nat) : Int) by omega)
        rw [jn_nI (show p < 2 ^ 31 by omega), jn_nI (show q < 2 ^ 31 by omega), jn_nI (show v < 2 ^ 31 by omega)]
        have c : 0 ≤ (nI q).toInt ∧ (nI q).toInt ≤ 9 := by rw [nI_toInt (by omega)]; omega
        refine ⟨jx_w1 m 34 (10 * p + q) (nI v), sm_w1 rfl, Or.inl ⟨⟨hx, hy, hz⟩, ?_, ha.1, fun p' q' hp' hq' => ?_, ha.2.2⟩⟩
        · simp [s_pers h g, jb_t hx, s_isGood hg gg, jb_t hy, s_wi_t (lo := 0) (hi := 99) hz, e_Asking_setWants, s_wantsOf h g ha hp (show q < 10 by omega), s_wi_t (lo := 0) (hi := 9) c, ix10, in_nI (show 10 * p + q < 80 by omega) (by omega), nI_cl (show 10 * p + q < 2 ^ 31 by omega), e_Asking_setWants_41]
        · rw [w1_rd]
          unfold u2
          by_cases e : p' = p ∧ q' = q
          · rw [if_pos e, if_pos ⟨rfl, by rw [e.1, e.2]⟩]
          · rw [if_neg e, if_neg (fun z => e (by omega))]
            exact ha.2.1 p' q' hp' hq'
      · refine ⟨m, sm.rf, Or.inr ⟨fun q => hz q.2.2, ?_, rfl⟩⟩
        simp [s_pers h g, jb_t hx, s_isGood hg gg, jb_t hy, s_wi_f (lo := 0) (hi := 99) hz, e_F_want_32]
    · refine ⟨m, sm.rf, Or.inr ⟨fun q => hy q.2.1, ?_, rfl⟩⟩
      simp [s_pers h g, jb_t hx, s_isGood hg gg, jb_f hy, e_F_want_32]
  · refine ⟨m, sm.rf, Or.inr ⟨fun q => hx q.1, ?_, rfl⟩⟩
    simp [s_pers h g, jb_f hx, e_F_want_32]
theorem M_want (h : mineM m T P D W A U L) (g : gMine T P D W A U L) (hg : goodsM m G K O C N) (gg : gGoods G K O C N) (ha : askM m I Wn wd Pr) (x y z : Int32) : ∃ m', sm (fun q k => q = 81 ∨ (q = 63 ∧ k = 0)) m m' ∧
    ((cWant x y z P G ∧ f_M_want x y z m = some (nI (Wn (jn x) (jn y)), m') ∧ askM m' I (u2 Wn (jn x) (jn y) (jn z)) wd Pr) ∨ (¬ cWant x y z P G ∧ f_M_want x y z m = some (-1, m') ∧ m' = jx_w1 m 63 0 0)) := by
  have hP := g.2.1
  have hG := gg.1
  have h1 := mineM_th h (v := 0)
  have hg1 := goodsM_th hg (v := 0)
  have ha1 := askM_th ha (v := 0)
  have s1 : sm (fun q k => q = 81 ∨ (q = 63 ∧ k = 0)) m (jx_w1 m 63 0 0) := sm_w1 (by omega)
  rw [e_M_want]
  try dsimp only
  by_cases hx : 0 ≤ x.toInt ∧ x.toInt < (P : Int)
  · by_cases hy : 0 ≤ y.toInt ∧ y.toInt < (G : Int)
    · by_cases hz : 0 ≤ z.toInt ∧ z.toInt ≤ 99
      · obtain ⟨p, hp, rfl⟩ := nI_get hx.1 hx.2
        obtain ⟨q, hq, rfl⟩ := nI_get hy.1 hy.2
        obtain ⟨v, hv, rfl⟩ := nI_get hz.1 (show z.toInt < ((100 : Nat) : Int) by omega)
        rw [jn_nI (show p < 2 ^ 31 by omega), jn_nI (show q < 2 ^ 31 by omega), jn_nI (show v < 2 ^ 31 by omega)]
        refine ⟨jx_w1 (jx_w1 m 63 0 0) 81 (10 * p + q) (nI v), s1.w1 (by omega), Or.inl ⟨⟨hx, hy, hz⟩, ?_, ha1.1, fun p' q' hp' hq' => ?_, ha1.2.2⟩⟩
        · simp [s_mpers h1 g, jb_t hx, s_misGood hg1 gg, jb_t hy, s_in_t (lo := 0) (hi := 99) hz, xi10, in_nI (show 10 * p + q < 80 by omega) (by omega), nI_cl (show 10 * p + q < 2 ^ 31 by omega), ha1.2.1 p q (by omega) (by omega)]
        · rw [w1_rd]
          unfold u2
          by_cases e : p' = p ∧ q' = q
          · rw [if_pos e, if_pos ⟨rfl, by rw [e.1, e.2]⟩]
          · rw [if_neg e, if_neg (fun z => e (by omega))]
            exact ha1.2.1 p' q' hp' hq'
      · refine ⟨_, s1, Or.inr ⟨fun q => hz q.2.2, ?_, rfl⟩⟩
        simp [s_mpers h1 g, jb_t hx, s_misGood hg1 gg, jb_t hy, s_in_f (lo := 0) (hi := 99) hz, e_M_want_33]
    · refine ⟨_, s1, Or.inr ⟨fun q => hy q.2.1, ?_, rfl⟩⟩
      simp [s_mpers h1 g, jb_t hx, s_misGood hg1 gg, jb_f hy, e_M_want_33]
  · refine ⟨_, s1, Or.inr ⟨fun q => hx q.1, ?_, rfl⟩⟩
    simp [s_mpers h1 g, jb_f hx, e_M_want_33]
def cWind (x : Int32) : Prop := 1 ≤ x.toInt ∧ x.toInt ≤ 20
theorem F_wind (ha : askF m I Wn wd Pr) (x : Int32) : ∃ m', sm (fun q k => q = 33 ∧ k = 3) m m' ∧
    ((cWind x ∧ f_F_wind x m = some (nI wd, m') ∧ askF m' I Wn (jn x) Pr) ∨ (¬ cWind x ∧ f_F_wind x m = some (-1, m') ∧ m' = m)) := by
  rw [e_F_wind, e_Asking_setWind]
  by_cases hx : 1 ≤ x.toInt ∧ x.toInt ≤ 20
  · obtain ⟨v, hv, rfl⟩ := nI_get (show 0 ≤ x.toInt by omega) (show x.toInt < ((21 : Nat) : Int) by omega)
    rw [jn_nI (show v < 2 ^ 31 by omega)]
    refine ⟨jx_w1 m 33 3 (nI v), sm_w1 ⟨rfl, rfl⟩, Or.inl ⟨hx, ?_, w1_same _ _ _ _, ha.2.1, ha.2.2⟩⟩
    simp [s_wi_t (lo := 1) (hi := 20) hx, ha.1]
  · refine ⟨m, sm.rf, Or.inr ⟨hx, ?_, rfl⟩⟩
    simp [s_wi_f (lo := 1) (hi := 20) hx]
theorem M_wind (ha : askM m I Wn wd Pr) (x : Int32) : ∃ m', sm (fun q k => q = 63 ∧ (k = 0 ∨ k = 34)) m m' ∧
    ((cWind x ∧ f_M_wind x m = some (nI wd, m') ∧ askM m' I Wn (jn x) Pr) ∨ (¬ cWind x ∧ f_M_wind x m = some (-1, m') ∧ m' = jx_w1 m 63 0 0)) := by
  have ha1 := askM_th ha (v := 0)
  have s1 : sm (fun q k => q = 63 ∧ (k = 0 ∨ k = 34)) m (jx_w1 m 63 0 0) := sm_w1 (by omega)
  rw [e_M_wind]
  try dsimp only
  by_cases hx : 1 ≤ x.toInt ∧ x.toInt ≤ 20
  · obtain ⟨v, hv, rfl⟩ := nI_get (show 0 ≤ x.toInt by omega) (show x.toInt < ((21 : Nat) : Int) by omega)
    rw [jn_nI (show v < 2 ^ 31 by omega)]
    refine ⟨jx_w1 (jx_w1 m 63 0 0) 63 34 (nI v), s1.w1 (by omega), Or.inl ⟨hx, ?_, w1_same _ _ _ _, ha1.2.1, ha1.2.2⟩⟩
    simp [s_in_t (lo := 1) (hi := 20) hx, ha1.1]
  · refine ⟨_, s1, Or.inr ⟨hx, ?_, rfl⟩⟩
    simp [s_in_f (lo := 1) (hi := 20) hx]
/-! item -/
theorem sp_14 {i v : Nat} (hi : i < 12) : ∀ (k b : Nat), b + k = 10 → ∀ m, ∃ m', f_Asking_startPrice_14 (nI i) (nI v) (nI b) m = some m' ∧ (∀ r j, r < 10 → j < 12 → m'.1 35 (12 * r + j) = if j = i ∧ b ≤ r then nI v else m.1 35 (12 * r + j)) ∧ sm (fun q _ => q = 35) m m' := by
  intro k
  induction k with
  | zero =>
    intro b hb m
    have : b = 10 := by omega
    subst this
    refine ⟨m, ?_, fun r j hr hj => by rw [if_neg (by omega)], sm.rf⟩
    rw [e_Asking_startPrice_14]
    exact ifp (by decide)
  | succ k ih =>
    intro b hb m
    obtain ⟨m', r1, r2, r3⟩ := ih (b + 1) (by omega) (jx_w1 m 35 (12 * b + i) (nI v))
    refine ⟨m', ?_, fun r j hr hj => ?_, r3.pre rfl⟩
    · rw [e_Asking_startPrice_14]
      refine (ifn (nI_ge (a := b) (b := 10) (by omega) (by omega))).trans ?_
      rw [ix12, in_nI (show 12 * b + i < 2520 by omega) (by omega), nI_cl (show 12 * b + i < 2 ^ 31 by omega), nI_1]
      exact r1
    · rw [r2 r j hr hj, w1_rd]
      by_cases c : j = i ∧ b + 1 ≤ r
      · rw [if_pos c, if_pos (by omega)]
      · rw [if_neg c]
        by_cases d : j = i ∧ b ≤ r
        · rw [if_pos d, if_pos ⟨rfl, by omega⟩]
        · rw [if_neg d, if_neg (fun z => d (by omega))]
theorem im_77 {v : Nat} (hI : I < 12) : ∀ (k b : Nat), b + k = 10 → ∀ m, m.1 63 28 = nI I → ∃ m', f_M_item_77 (nI v) (nI b) m = some (nI I, m') ∧ (∀ r j, r < 10 → j < 12 → m'.1 85 (12 * r + j) = if j = I ∧ b ≤ r then nI v else m.1 85 (12 * r + j)) ∧ m'.1 63 28 = nI (I + 1) ∧ sm (fun q k => q = 85 ∨ (q = 63 ∧ k = 28)) m m' := by
  intro k
  induction k with
  | zero =>
    intro b hb m h0
    have : b = 10 := by omega
    subst this
    refine ⟨jx_w1 m 63 28 (nI (I + 1)), ?_, fun r j hr hj => by rw [if_neg (by omega)]; exact w1_cell (by omega), w1_same _ _ _ _, sm_w1 (Or.inr ⟨rfl, rfl⟩)⟩
    rw [e_M_item_77]
    refine (ifp (by decide)).trans ?_
    rw [h0, nI_1]
    try dsimp only
    rw [w1_same, nI_pred]
  | succ k ih =>
    intro b hb m h0
    obtain ⟨m', r1, r2, r3, r4⟩ := ih (b + 1) (by omega) (jx_w1 m 85 (12 * b + I) (nI v)) (by rw [w1_cell (by omega)]; exact h0)
    refine ⟨m', ?_, fun r j hr hj => ?_, r3, r4.pre (Or.inl rfl)⟩
    · rw [e_M_item_77]
      refine (ifn (nI_ge (a := b) (b := 10) (by omega) (by omega))).trans ?_
      rw [h0, xi12, in_nI (show 12 * b + I < 120 by omega) (by omega), nI_cl (show 12 * b + I < 2 ^ 31 by omega), nI_1]
      exact r1
    · rw [r2 r j hr hj, w1_rd]
      by_cases c : j = I ∧ b + 1 ≤ r
      · rw [if_pos c, if_pos (by omega)]
      · rw [if_neg c]
        by_cases d : j = I ∧ b ≤ r
        · rw [if_pos d, if_pos ⟨rfl, by omega⟩]
        · rw [if_neg d, if_neg (fun z => d (by omega))]
def cItem (x y z : Int32) (G P I : Nat) : Prop := (0 ≤ x.toInt ∧ x.toInt < (G : Int)) ∧ (0 ≤ y.toInt ∧ y.toInt < (P : Int)) ∧ (0 ≤ z.toInt ∧ z.toInt ≤ 99) ∧ I < 12
theorem bs_new {p : Nat → Bool} {n : Nat} : bs (upB p n false) (n + 1) = bs p n := by
  rw [bs_s, upB_s, bs_congr (q := p) (fun i hi => upB_n (by omega))]
  rfl
def wItF (a k : Nat) : Prop := (a = 26 ∧ k = 3) ∨ a = 27 ∨ a = 28 ∨ a = 35
def wItM (a k : Nat) : Prop := (a = 63 ∧ (k = 0 ∨ k = 28)) ∨ a = 82 ∨ a = 83 ∨ a = 84 ∨ a = 85
theorem F_item (h : mineF m T P D W A U L) (g : gMine T P D W A U L) (hg : goodsF m G K O C N) (gg : gGoods G K O C N) (hi : itemsF m I S Gd Ow Sd Y) (gi : gItems P I S Gd Ow Sd Y) (ha : askF m I Wn wd Pr) (x y z : Int32) : ∃ m', sm wItF m m' ∧
    ((cItem x y z G P I ∧ f_F_item x y z m = some (nI I, m') ∧ itemsF m' (I + 1) S (up Gd I (jn x)) (up Ow I (jn y)) (upB Sd I false) Y ∧ askF m' (I + 1) Wn wd (fun b => up (Pr b) I (jn z))) ∨ (¬ cItem x y z G P I ∧ f_F_item x y z m = some (-1, m') ∧ m' = m)) := by
  have hP := g.2.1
  have hG := gg.1
  have hI := gi.1
  rw [e_F_item]
  by_cases hx : 0 ≤ x.toInt ∧ x.toInt < (G : Int)
  · by_cases hy : 0 ≤ y.toInt ∧ y.toInt < (P : Int)
    · by_cases hz : 0 ≤ z.toInt ∧ z.toInt ≤ 99
      · by_cases hI2 : I < 12
        · obtain ⟨q, hq, rfl⟩ := nI_get hx.1 hx.2
          obtain ⟨p, hp, rfl⟩ := nI_get hy.1 hy.2
          obtain ⟨v, hv, rfl⟩ := nI_get hz.1 (show z.toInt < ((100 : Nat) : Int) by omega)
          rw [jn_nI (show p < 2 ^ 31 by omega), jn_nI (show q < 2 ^ 31 by omega), jn_nI (show v < 2 ^ 31 by omega)]
          have q1 : nI I < 12 := nI_lt (b := 12) hI2 (by omega)
          have s0 : sm wItF m (jx_w1 (jx_w1 (jx_w1 m 27 I (nI q)) 28 I (nI p)) 26 3 (nI (I + 1))) := ((sm_w1 (by unfold wItF; omega)).w1 (by unfold wItF; omega)).w1 (by unfold wItF; omega)
          have e0 : f_Items_addItem (nI q) (nI p) m = some (nI I, jx_w1 (jx_w1 (jx_w1 m 27 I (nI q)) 28 I (nI p)) 26 3 (nI (I + 1))) := by
            rw [e_Items_addItem]
            simp [hi.1, q1, in_nI hI2 (by omega), nI_cl (show I < 2 ^ 31 by omega), w1_rd, nI_1, nI_pred]
          have hm3 : (jx_w1 (jx_w1 (jx_w1 m 27 I (nI q)) 28 I (nI p)) 26 3 (nI (I + 1))).1 26 3 = nI (I + 1) := w1_same _ _ _ _
          obtain ⟨m', r1, r2, r3⟩ := sp_14 (v := v) hI2 10 0 (by omega) (jx_w1 (jx_w1 (jx_w1 m 27 I (nI q)) 28 I (nI p)) 26 3 (nI (I + 1)))
          have e1 : f_Asking_startPrice (nI I) (nI v) (jx_w1 (jx_w1 (jx_w1 m 27 I (nI q)) 28 I (nI p)) 26 3 (nI (I + 1))) = some m' := by
            rw [e_Asking_startPrice, t_isItem, hm3, jb_t (by rw [nI_toInt (show I < 2 ^ 31 by omega), nI_toInt (show I + 1 < 2 ^ 31 by omega)]; omega), Option.bind_some]
            exact (ifnn ne10).trans r1
          have hne : ¬ nI I = -1 := oI_ne (show I < 2 ^ 31 by omega)
          refine ⟨m', s0.tr (r3.mono (by unfold wItF; omega)), Or.inl ⟨⟨hx, hy, hz, hI2⟩, ?_, ⟨?_, ?_, ?_, ?_, ?_⟩, ?_, ?_, ?_⟩⟩
          · simp [s_isGood hg gg, jb_t hx, s_pers h g, jb_t hy, s_wi_t (lo := 0) (hi := 99) hz, e0, hne, e1, e_F_item_61]
          · rw [(r3 26 3 (by omega)).1]; exact hm3
          · rw [(r3 26 4 (by omega)).1, bs_new]; simp [w1_rd, hi.2.1]
          · rw [(r3 26 9 (by omega)).1]; simp [w1_rd, hi.2.2.1]
          · intro i hi'
            rw [(r3 27 i (by omega)).1, (r3 28 i (by omega)).1]
            by_cases e : i = I
            · subst e
              rw [up_s, up_s]
              simp [w1_rd]
            · rw [up_n e, up_n e]
              have := hi.2.2.2.1 i (by omega)
              simp [w1_rd, e, this]
          · intro k hk
            have := hi.2.2.2.2 k hk
            rw [(r3 29 k (by omega)).1, (r3 30 k (by omega)).1, (r3 31 k (by omega)).1, (r3 32 k (by omega)).1]
            simp [w1_rd, this]
          · rw [(r3 33 3 (by omega)).1]; simp [w1_rd, ha.1]
          · intro p' q' hp' hq'
            rw [(r3 34 _ (by omega)).1]; simp [w1_rd, ha.2.1 p' q' hp' hq']
          · intro r i hr hi'
            rw [r2 r i hr (by omega)]
            dsimp only
            by_cases e : i = I
            · rw [if_pos ⟨e, Nat.zero_le _⟩, e, up_s]
            · rw [if_neg (fun z => e z.1), up_n e]
              simp [w1_rd, ha.2.2 r i hr (by omega)]
        · refine ⟨m, sm.rf, Or.inr ⟨fun q => hI2 q.2.2.2, ?_, rfl⟩⟩
          have q1 : ¬ nI I < 12 := nI_nlt (b := 12) (by omega) (by omega)
          simp [s_isGood hg gg, jb_t hx, s_pers h g, jb_t hy, s_wi_t (lo := 0) (hi := 99) hz, e_Items_addItem, hi.1, q1, e_F_item_61]
      · refine ⟨m, sm.rf, Or.inr ⟨fun q => hz q.2.2.1, ?_, rfl⟩⟩
        simp [s_isGood hg gg, jb_t hx, s_pers h g, jb_t hy, s_wi_f (lo := 0) (hi := 99) hz, e_F_item_32]
    · refine ⟨m, sm.rf, Or.inr ⟨fun q => hy q.2.1, ?_, rfl⟩⟩
      simp [s_isGood hg gg, jb_t hx, s_pers h g, jb_f hy, e_F_item_32]
  · refine ⟨m, sm.rf, Or.inr ⟨fun q => hx q.1, ?_, rfl⟩⟩
    simp [s_isGood hg gg, jb_f hx, e_F_item_32]
theorem M_item (h : mineM m T P D W A U L) (g : gMine T P D W A U L) (hg : goodsM m G K O C N) (gg : gGoods G K O C N) (hi : itemsM m I S Gd Ow Sd Y) (gi : gItems P I S Gd Ow Sd Y) (ha : askM m I Wn wd Pr) (x y z : Int32) : ∃ m', sm wItM m m' ∧
    ((cItem x y z G P I ∧ f_M_item x y z m = some (nI I, m') ∧ itemsM m' (I + 1) S (up Gd I (jn x)) (up Ow I (jn y)) (upB Sd I false) Y ∧ askM m' (I + 1) Wn wd (fun b => up (Pr b) I (jn z))) ∨ (¬ cItem x y z G P I ∧ f_M_item x y z m = some (-1, m') ∧ m' = jx_w1 m 63 0 0)) := by
  have hP := g.2.1
  have hG := gg.1
  have hI := gi.1
  have h1 := mineM_th h (v := 0)
  have hg1 := goodsM_th hg (v := 0)
  have hi1 := itemsM_th hi (v := 0)
  have s1 : sm wItM m (jx_w1 m 63 0 0) := sm_w1 (by unfold wItM; omega)
  rw [e_M_item]
  try dsimp only
  by_cases hx : 0 ≤ x.toInt ∧ x.toInt < (G : Int)
  · by_cases hy : 0 ≤ y.toInt ∧ y.toInt < (P : Int)
    · by_cases hz : 0 ≤ z.toInt ∧ z.toInt ≤ 99
      · by_cases hI2 : I < 12
        · obtain ⟨q, hq, rfl⟩ := nI_get hx.1 hx.2
          obtain ⟨p, hp, rfl⟩ := nI_get hy.1 hy.2
          obtain ⟨v, hv, rfl⟩ := nI_get hz.1 (show z.toInt < ((100 : Nat) : Int) by omega)
          rw [jn_nI (show p < 2 ^ 31 by omega), jn_nI (show q < 2 ^ 31 by omega), jn_nI (show v < 2 ^ 31 by omega)]
          have q1 : ¬ nI I = 12 := fun z => by have := (nI_eq (b := 12) (by omega) (by omega)).mp z; omega
          have s0 : sm wItM m (jx_w1 (jx_w1 (jx_w1 (jx_w1 m 63 0 0) 82 I (nI q)) 83 I (nI p)) 84 I 0) := ((s1.w1 (by unfold wItM; omega)).w1 (by unfold wItM; omega)).w1 (by unfold wItM; omega)
          obtain ⟨m', r1, r2, r3, r4⟩ := im_77 (v := v) hI2 10 0 (by omega) (jx_w1 (jx_w1 (jx_w1 (jx_w1 m 63 0 0) 82 I (nI q)) 83 I (nI p)) 84 I 0) (by simp [w1_rd, hi.1])
          have r1' : f_M_item_77 (nI v) 0 (jx_w1 (jx_w1 (jx_w1 (jx_w1 m 63 0 0) 82 I (nI q)) 83 I (nI p)) 84 I 0) = some (nI I, m') := r1
          refine ⟨m', s0.tr (r4.mono (by unfold wItM; omega)), Or.inl ⟨⟨hx, hy, hz, hI2⟩, ?_, ⟨?_, ?_, ?_, ?_⟩, ?_, ?_, ?_⟩⟩
          · simp [s_misGood hg1 gg, jb_t hx, s_mpers h1 g, jb_t hy, s_in_t (lo := 0) (hi := 99) hz, hi1.1, q1, in_nI hI2 (by omega), nI_cl (show I < 2 ^ 31 by omega), w1_rd, hi.1, show jx_01 0 = true from rfl, r1']
          · exact r3
          · rw [(r4 63 36 (by omega)).1]; simp [w1_rd, hi.2.1]
          · intro i hi'
            rw [(r4 82 i (by omega)).1, (r4 83 i (by omega)).1, (r4 84 i (by omega)).1]
            by_cases e : i = I
            · subst e
              rw [up_s, up_s, upB_s]
              simp [w1_rd, bi]
            · rw [up_n e, up_n e, upB_n e]
              have := hi.2.2.1 i (by omega)
              simp [w1_rd, e, this]
          · intro k hk
            have := hi.2.2.2 k hk
            rw [(r4 88 _ (by omega)).1, (r4 88 _ (by omega)).1, (r4 88 _ (by omega)).1, (r4 88 _ (by omega)).1, (r4 88 _ (by omega)).1]
            simp [w1_rd, this]
          · rw [(r4 63 34 (by omega)).1]; simp [w1_rd, ha.1]
          · intro p' q' hp' hq'
            rw [(r4 81 _ (by omega)).1]; simp [w1_rd, ha.2.1 p' q' hp' hq']
          · intro r i hr hi'
            rw [r2 r i hr (by omega)]
            dsimp only
            by_cases e : i = I
            · rw [if_pos ⟨e, Nat.zero_le _⟩, e, up_s]
            · rw [if_neg (fun z => e z.1), up_n e]
              simp [w1_rd, ha.2.2 r i hr (by omega)]
        · refine ⟨_, s1, Or.inr ⟨fun q => hI2 q.2.2.2, ?_, rfl⟩⟩
          have q1 : nI I = 12 := by rw [show I = 12 by omega]; rfl
          simp [s_misGood hg1 gg, jb_t hx, s_mpers h1 g, jb_t hy, s_in_t (lo := 0) (hi := 99) hz, hi1.1, q1, e_M_item_42]
      · refine ⟨_, s1, Or.inr ⟨fun q => hz q.2.2.1, ?_, rfl⟩⟩
        simp [s_misGood hg1 gg, jb_t hx, s_mpers h1 g, jb_t hy, s_in_f (lo := 0) (hi := 99) hz, e_M_item_42]
    · refine ⟨_, s1, Or.inr ⟨fun q => hy q.2.1, ?_, rfl⟩⟩
      simp [s_misGood hg1 gg, jb_t hx, s_mpers h1 g, jb_f hy, e_M_item_42]
  · refine ⟨_, s1, Or.inr ⟨fun q => hx q.1, ?_, rfl⟩⟩
    simp [s_misGood hg1 gg, jb_f hx, e_M_item_42]
theorem gItems_item (gi : gItems P I S Gd Ow Sd Y) (hI : I < 12) {q p : Nat} (hq : q < 10) (hp : p < P) : gItems P (I + 1) S (up Gd I q) (up Ow I p) (upB Sd I false) Y := by
  obtain ⟨g1, g2, g3, g4, g5⟩ := gi
  refine ⟨by omega, by omega, fun i hi => ?_, fun k hk => ?_, g5⟩
  · by_cases e : i = I
    · rw [e, up_s, up_s]; exact ⟨hq, hp⟩
    · rw [up_n e, up_n e]; exact g3 i (by omega)
  · have h4 := g4 k hk
    rw [upB_n (by omega), up_n (by omega)]
    exact ⟨by omega, h4.2⟩
theorem gItems_P {P' : Nat} (gi : gItems P I S Gd Ow Sd Y) (hP : P ≤ P') : gItems P' I S Gd Ow Sd Y := by
  obtain ⟨g1, g2, g3, g4, g5⟩ := gi
  refine ⟨g1, g2, fun i hi => ⟨(g3 i hi).1, by have := (g3 i hi).2; omega⟩, fun k hk => ?_, g5⟩
  have h4 := g4 k hk
  exact ⟨h4.1, by omega, by omega, h4.2.2.2⟩
end ITEMS
