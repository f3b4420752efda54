/-! GOODS, TESTS, ANSWERS: the picture and the small questions -/
theorem ne10 : ¬ (1 : Int32) = 0 := by decide
theorem eq00 : (0 : Int32) = 0 := rfl
def gGoods (G K : Nat) (O C : Nat → Nat) (N : Nat → Nat → Nat) : Prop :=
  G ≤ 10 ∧ K ≤ 6 ∧ (∀ g, g < G → 1 ≤ O g ∧ O g ≤ 9) ∧ (∀ t, t < K → 1 ≤ C t ∧ C t ≤ 9) ∧ (∀ g t, N g t ≤ 9) ∧ (∀ g t, (G ≤ g ∨ K ≤ t) → N g t = 0)
def goodsF (m : jx_Mem) (G K : Nat) (O C : Nat → Nat) (N : Nat → Nat → Nat) : Prop :=
  m.1 9 4 = nI G ∧ m.1 9 5 = nI K ∧ (∀ g, g < G → m.1 10 g = nI (O g)) ∧ (∀ t, t < K → m.1 11 t = nI (C t)) ∧ (∀ g t, g < 10 → t < 6 → m.1 12 (6 * g + t) = nI (N g t)) ∧
  (∀ t v, t < 6 → v < 10 → m.1 13 (10 * t + v) = nI (bs (fun g => N g t == v) G))
def goodsM (m : jx_Mem) (G K : Nat) (O C : Nat → Nat) (N : Nat → Nat → Nat) : Prop :=
  m.1 63 10 = nI G ∧ m.1 63 12 = nI K ∧ (∀ g, g < G → m.1 70 g = nI (O g)) ∧ (∀ t, t < K → m.1 71 t = nI (C t)) ∧ (∀ g t, g < 10 → t < 6 → m.1 72 (6 * g + t) = nI (N g t))
def dGF (a k : Nat) : Prop := (a = 9 ∧ (k = 4 ∨ k = 5)) ∨ a = 10 ∨ a = 11 ∨ a = 12 ∨ a = 13
def dGM (a k : Nat) : Prop := (a = 63 ∧ (k = 10 ∨ k = 12)) ∨ a = 70 ∨ a = 71 ∨ a = 72
/-- those of a set that answer so -/
def pt (N : Nat → Nat → Nat) (G S t v : Nat) : Nat := bs (fun g => S.testBit g && N g t == v) G
section GOODS
variable {m m' : jx_Mem} {G K : Nat} {O C : Nat → Nat} {N : Nat → Nat → Nat} {Z : Nat → Nat → Prop}
theorem goodsF_sm (h : goodsF m G K O C N) (hs : sm Z m m') (hz : ∀ a k, dGF a k → ¬ Z a k) : goodsF m' G K O C N :=
  ⟨(hs 9 4 (hz 9 4 (by unfold dGF; omega))).1.trans h.1, (hs 9 5 (hz 9 5 (by unfold dGF; omega))).1.trans h.2.1, fun g hg => (hs 10 g (hz 10 g (by unfold dGF; omega))).1.trans (h.2.2.1 g hg), fun t ht => (hs 11 t (hz 11 t (by unfold dGF; omega))).1.trans (h.2.2.2.1 t ht),
   fun g t hg ht => (hs 12 _ (hz 12 _ (by unfold dGF; omega))).1.trans (h.2.2.2.2.1 g t hg ht), fun t v ht hv => (hs 13 _ (hz 13 _ (by unfold dGF; omega))).1.trans (h.2.2.2.2.2 t v ht hv)⟩
theorem goodsM_sm (h : goodsM m G K O C N) (hs : sm Z m m') (hz : ∀ a k, dGM a k → ¬ Z a k) : goodsM m' G K O C N :=
  ⟨(hs 63 10 (hz 63 10 (by unfold dGM; omega))).1.trans h.1, (hs 63 12 (hz 63 12 (by unfold dGM; omega))).1.trans h.2.1, fun g hg => (hs 70 g (hz 70 g (by unfold dGM; omega))).1.trans (h.2.2.1 g hg), fun t ht => (hs 71 t (hz 71 t (by unfold dGM; omega))).1.trans (h.2.2.2.1 t ht),
   fun g t hg ht => (hs 72 _ (hz 72 _ (by unfold dGM; omega))).1.trans (h.2.2.2.2 g t hg ht)⟩
theorem goodsM_th (h : goodsM m G K O C N) {v : Int32} : goodsM (jx_w1 m 63 0 v) G K O C N :=
  goodsM_sm (Z := fun a k => a = 63 ∧ k = 0) h (sm_w1 ⟨rfl, rfl⟩) (by intro a k; unfold dGM; omega)
theorem s_isGood (h : goodsF m G K O C N) (g : gGoods G K O C N) (x : Int32) : f_Goods_isGood x m = some (jb (0 ≤ x.toInt ∧ x.toInt < (G : Int)), m) := by
  rw [t_isGood, h.1, nI_toInt (by have := g.1; omega)]
theorem s_isTest (h : goodsF m G K O C N) (g : gGoods G K O C N) (x : Int32) : f_Goods_isTest x m = some (jb (0 ≤ x.toInt ∧ x.toInt < (K : Int)), m) := by
  have h1 : f_Goods_isTest x m = some (jb (0 ≤ x.toInt ∧ x.toInt < (m.1 9 5).toInt), m) := by
    simp only [e_Goods_isTest, e_Goods_isTest_16, e_Goods_isTest_17, decide_eq_true_eq, i_lt, i_le, jb, Int32.reduceToInt]
    repeat' split
    all_goals first | rfl | omega | (exfalso; omega)
  rw [h1, h.2.1, nI_toInt (by have := g.2.1; omega)]
theorem s_misGood (h : goodsM m G K O C N) (g : gGoods G K O C N) (x : Int32) : f_M_isGood x m = some (jb (0 ≤ x.toInt ∧ x.toInt < (G : Int)), m) := by
  have hG := g.1
  rw [e_M_isGood, s_min, il_toInt, il_toInt, h.1, i_sub1 (lim_of (k := 10) hG (by omega)), nI_toInt (by omega), show (0 : Int64).toInt = 0 from rfl]
  rw [jb_congr (show (0 ≤ x.toInt ∧ x.toInt ≤ (G : Int) - 1) ↔ (0 ≤ x.toInt ∧ x.toInt < (G : Int)) by omega)]
  show (bif jx_01 (jb _) then _ else none) = _
  rw [jb_01]
  rfl
theorem s_misTest (h : goodsM m G K O C N) (g : gGoods G K O C N) (x : Int32) : f_M_isTest x m = some (jb (0 ≤ x.toInt ∧ x.toInt < (K : Int)), m) := by
  have hK := g.2.1
  rw [e_M_isTest, s_min, il_toInt, il_toInt, h.2.1, i_sub1 (lim_of (k := 6) hK (by omega)), nI_toInt (by omega), show (0 : Int64).toInt = 0 from rfl]
  rw [jb_congr (show (0 ≤ x.toInt ∧ x.toInt ≤ (K : Int) - 1) ↔ (0 ≤ x.toInt ∧ x.toInt < (K : Int)) by omega)]
  show (bif jx_01 (jb _) then _ else none) = _
  rw [jb_01]
  rfl
theorem in_N {p B : Nat} (hp : p < B) (hB : B < 2 ^ 31) : 0 ≤ (nI p).toInt ∧ (nI p).toInt < (B : Int) := by
  rw [nI_toInt (by omega)]; omega
theorem s_areGoods (h : goodsF m G K O C N) (g : gGoods G K O C N) (x : Int32) : f_Goods_areGoods x m = some (jb (1 ≤ x.toInt ∧ x.toInt < ((2 ^ G : Nat) : Int)), m) := by
  have hG := g.1
  have h2 := pw31 (show G < 31 by omega)
  rw [e_Goods_areGoods, h.1, sh1 (by omega)]
  simp only [e_Goods_areGoods_19, e_Goods_areGoods_20, decide_eq_true_eq, i_lt, i_le, jb, Int32.reduceToInt, nI_toInt h2]
  repeat' split
  all_goals first | rfl | omega | (exfalso; omega)
theorem s_areTests (h : goodsF m G K O C N) (g : gGoods G K O C N) (x : Int32) : f_Goods_areTests x m = some (jb (0 ≤ x.toInt ∧ x.toInt < ((2 ^ K : Nat) : Int)), m) := by
  have hK := g.2.1
  have h2 := pw31 (show K < 31 by omega)
  rw [e_Goods_areTests, h.2.1, sh1 (by omega)]
  simp only [e_Goods_areTests_18, e_Goods_areTests_19, decide_eq_true_eq, i_lt, i_le, jb, Int32.reduceToInt, nI_toInt h2]
  repeat' split
  all_goals first | rfl | omega | (exfalso; omega)
theorem s_mareGoods (h : goodsM m G K O C N) (g : gGoods G K O C N) (x : Int32) : f_M_areGoods x m = some (jb (1 ≤ x.toInt ∧ x.toInt < ((2 ^ G : Nat) : Int)), m) := by
  have hG := g.1
  have h2 := pw31 (show G < 31 by omega)
  rw [e_M_areGoods, s_min, il_toInt, il_toInt, h.1, sh1 (by omega), i_sub1 (lim_of (k := 2 ^ G) (Nat.le_refl _) h2), nI_toInt h2, show (1 : Int64).toInt = 1 from rfl]
  rw [jb_congr (show (1 ≤ x.toInt ∧ x.toInt ≤ ((2 ^ G : Nat) : Int) - 1) ↔ (1 ≤ x.toInt ∧ x.toInt < ((2 ^ G : Nat) : Int)) by omega)]
  show (bif jx_01 (jb _) then _ else none) = _
  rw [jb_01]
  rfl
theorem s_mareTests (h : goodsM m G K O C N) (g : gGoods G K O C N) (x : Int32) : f_M_areTests x m = some (jb (0 ≤ x.toInt ∧ x.toInt < ((2 ^ K : Nat) : Int)), m) := by
  have hK := g.2.1
  have h2 := pw31 (show K < 31 by omega)
  rw [e_M_areTests, s_min, il_toInt, il_toInt, h.2.1, sh1 (by omega), i_sub1 (lim_of (k := 2 ^ K) (Nat.le_refl _) h2), nI_toInt h2, show (0 : Int64).toInt = 0 from rfl]
  rw [jb_congr (show (0 ≤ x.toInt ∧ x.toInt ≤ ((2 ^ K : Nat) : Int) - 1) ↔ (0 ≤ x.toInt ∧ x.toInt < ((2 ^ K : Nat) : Int)) by omega)]
  show (bif jx_01 (jb _) then _ else none) = _
  rw [jb_01]
  rfl
theorem s_answerOf (h : goodsF m G K O C N) (gg : gGoods G K O C N) {g t : Nat} (hg : g < G) (ht : t < K) : f_Goods_answerOf (nI g) (nI t) m = some (nI (N g t), m) := by
  have hG := gg.1
  have hK := gg.2.1
  rw [e_Goods_answerOf, s_isGood h gg, jb_t (in_N hg (by omega))]
  simp [s_isTest h gg, jb_t (in_N ht (show K < 2 ^ 31 by omega)), ix6, in_nI (show 6 * g + t < 60 by omega) (by omega), nI_cl (show 6 * g + t < 2 ^ 31 by omega), e_Goods_answerOf_31, h.2.2.2.2.1 g t (by omega) (by omega)]
theorem s_manswerOf (h : goodsM m G K O C N) {g t : Nat} (hg : g < 10) (ht : t < 6) : f_M_answerOf (nI g) (nI t) m = some (nI (N g t), m) := by
  rw [e_M_answerOf]
  simp [xi6, in_nI (show 6 * g + t < 60 by omega) (by omega), nI_cl (show 6 * g + t < 2 ^ 31 by omega), h.2.2.2.2 g t hg ht]
theorem s_costOf (h : goodsF m G K O C N) (gg : gGoods G K O C N) {t : Nat} (ht : t < K) : f_Goods_costOf (nI t) m = some (nI (C t), m) := by
  have hK := gg.2.1
  rw [e_Goods_costOf, s_isTest h gg, jb_t (in_N ht (by omega))]
  simp [in_nI (show t < 6 by omega) (by omega), nI_cl (show t < 2 ^ 31 by omega), e_Goods_costOf_18, h.2.2.2.1 t ht]
theorem pt_lt (S t v : Nat) : pt N G S t v < 2 ^ G := bs_lt _ _
theorem pt_tb (S t v i : Nat) : (pt N G S t v).testBit i = (decide (i < G) && (S.testBit i && N i t == v)) := bs_tb _ _ _
theorem s_part (h : goodsF m G K O C N) (gg : gGoods G K O C N) {S t v : Nat} (hS : S < 2 ^ G) (ht : t < K) (hv : v < 10) : f_Goods_part (nI S) (nI t) (nI v) m = some (nI (pt N G S t v), m) := by
  have hG := gg.1
  have hK := gg.2.1
  have e : S &&& bs (fun g => N g t == v) G = pt N G S t v := by
    apply bs_eq (Nat.lt_of_le_of_lt Nat.and_le_left hS)
    intro i hi
    rw [Nat.testBit_and, bs_tb]
    simp [hi]
  rw [e_Goods_part, s_isTest h gg, jb_t (in_N ht (by omega))]
  simp only [Option.bind_some, s_wi_t (m := m) (x := nI v) (lo := 0) (hi := 9) (by rw [nI_toInt (by omega)]; show (0 : Int) ≤ v ∧ (v : Int) ≤ 9; omega), ix10, in_nI (show 10 * t + v < 60 by omega) (by omega), nI_cl (show 10 * t + v < 2 ^ 31 by omega), h.2.2.2.2.2 t v (by omega) hv, e_Goods_part_35, fa_and, e]
  rfl
theorem s_mpart (h : goodsM m G K O C N) (gg : gGoods G K O C N) {S t v : Nat} (hS : S < 2 ^ 31) (ht : t < 6) (hv : v < 10) : f_M_partOf (nI S) (nI t) (nI v) m = some (nI (pt N G S t v), m) := by
  have hG := gg.1
  rw [e_M_partOf]
  have h1 := lp_up (fun i x => f_M_partOf_6 (nI S) (nI t) (nI v) x i m) (fun n => nI (bs (fun g => S.testBit g && N g t == v) n)) G (by
    intro n hn
    rw [e_M_partOf_6]
    refine (ifn (by rw [h.1]; exact nI_ge (a := n) (b := G) hn (by omega))).trans ?_
    have hN := (gg.2.2.2.2.1 n t)
    by_cases c : S.testBit n = true
    · rw [s_mhas_t hS (by omega) c]
      simp only [Option.bind_some, s_manswerOf h (show n < 10 by omega) ht]
      by_cases d : N n t = v
      · simp only [d, e_M_partOf_45, not_true_eq_false, decide_false, Bool.false_eq_true, if_false]
        refine (ifn ne10).trans ?_
        rw [or_bs_t (by omega) (by simp [c, d]), nI_1]
      · have d2 : ¬ nI (N n t) = nI v := fun z => d ((nI_eq (by omega) (by omega)).mp z)
        simp only [d2, e_M_partOf_44, e_M_partOf_45, not_false_eq_true, decide_true, if_true]
        refine (ifn ne10).trans ?_
        rw [or_bs_f (by omega) (by simp [d]), nI_1]
    · have c2 : S.testBit n = false := by simpa using c
      rw [s_mhas_f hS (by omega) c2]
      simp only [Option.bind_some, e_M_partOf_44, e_M_partOf_45]
      rw [if_pos (by decide), or_bs_f (by omega) (by simp [c2]), nI_1]) 0 (by omega)
  refine h1.trans ?_
  rw [e_M_partOf_6]
  refine (ifp (by rw [h.1]; exact nI_le (a := G) (b := G) (Nat.le_refl _) (by omega))).trans ?_
  rfl
end GOODS
