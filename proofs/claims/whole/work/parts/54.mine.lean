/-! the mine: its picture in numbers, on both sides -/
def gDist (D : Nat → Nat → Nat) : Prop := (∀ i, i < 10 → D i i = 0) ∧ (∀ i j, i < 10 → j < 10 → D i j ≤ 999 ∧ D i j = D j i ∧ (i ≠ j → 1 ≤ D i j))
def gMine (T P : Nat) (D : Nat → Nat → Nat) (W A U L : Nat → Nat) : Prop :=
  T ≤ 16 ∧ P ≤ 8 ∧ gDist D ∧
  (∀ i j k, i < 10 → j < 10 → k < 10 → D i k ≤ D i j + D j k) ∧ (∀ i, i < 10 → W i ≤ 20) ∧ (∀ p, p < P → A p < 10 ∧ U p ≤ 999 ∧ L p ≤ 9)
def mineF (m : jx_Mem) (T P : Nat) (D : Nat → Nat → Nat) (W A U L : Nat → Nat) : Prop :=
  m.1 3 5 = nI T ∧ m.1 3 6 = nI P ∧ (∀ i j, i < 10 → j < 10 → m.1 4 (10 * i + j) = nI (D i j)) ∧ (∀ i, i < 10 → m.1 5 i = nI (W i)) ∧
  (∀ p, p < P → m.1 6 p = nI (A p) ∧ m.1 7 p = nI (U p) ∧ m.1 8 p = nI (L p))
def mineM (m : jx_Mem) (T P : Nat) (D : Nat → Nat → Nat) (W A U L : Nat → Nat) : Prop :=
  m.1 63 3 = nI T ∧ m.1 63 6 = nI P ∧ (∀ i j, i < 10 → j < 10 → i ≠ j → m.1 65 (10 * i + j) = nI (if D i j = 999 then 0 else D i j)) ∧ (∀ i, i < 10 → m.1 66 i = nI (W i)) ∧
  (∀ p, p < P → m.1 67 p = nI (A p) ∧ m.1 68 p = nI (U p) ∧ m.1 69 p = nI (L p))
def dMF (a k : Nat) : Prop := (a = 3 ∧ (k = 5 ∨ k = 6)) ∨ a = 4 ∨ a = 5 ∨ a = 6 ∨ a = 7 ∨ a = 8
def dMM (a k : Nat) : Prop := (a = 63 ∧ (k = 3 ∨ k = 6)) ∨ a = 65 ∨ a = 66 ∨ a = 67 ∨ a = 68 ∨ a = 69
theorem pl_nI {a : Nat} (h : a < 10) : 0 ≤ (nI a).toInt ∧ (nI a).toInt < 10 := by rw [nI_toInt (by omega)]; omega
theorem s_pl_t {x : Int32} {m : jx_Mem} (h : 0 ≤ x.toInt ∧ x.toInt < 10) : f_Mine_isPlace x m = some (1, m) := by rw [s_Mine_isPlace, jb_t h]
theorem s_pl_f {x : Int32} {m : jx_Mem} (h : ¬ (0 ≤ x.toInt ∧ x.toInt < 10)) : f_Mine_isPlace x m = some (0, m) := by rw [s_Mine_isPlace, jb_f h]
theorem s_mpl_t {x : Int32} {m : jx_Mem} (h : 0 ≤ x.toInt ∧ x.toInt < 10) : f_M_isPlace x m = some (1, m) := by rw [s_M_isPlace, jb_t h]
theorem s_mpl_f {x : Int32} {m : jx_Mem} (h : ¬ (0 ≤ x.toInt ∧ x.toInt < 10)) : f_M_isPlace x m = some (0, m) := by rw [s_M_isPlace, jb_f h]
theorem s_wi {x lo hi : Int32} {m : jx_Mem} : f_F_within x lo hi m = some (jb (lo.toInt ≤ x.toInt ∧ x.toInt ≤ hi.toInt), m) := by
  rw [s_F_within, jb_congr (show (lo ≤ x ∧ x ≤ hi) ↔ (lo.toInt ≤ x.toInt ∧ x.toInt ≤ hi.toInt) by rw [i_le, i_le])]
theorem s_min {x lo hi : Int64} {m : jx_Mem} : f_M_in x lo hi m = some (jb (lo.toInt ≤ x.toInt ∧ x.toInt ≤ hi.toInt), m) := s_M_in x lo hi m
theorem s_wi_t {x lo hi : Int32} {m : jx_Mem} (h : lo.toInt ≤ x.toInt ∧ x.toInt ≤ hi.toInt) : f_F_within x lo hi m = some (1, m) := by rw [s_wi, jb_t h]
theorem s_wi_f {x lo hi : Int32} {m : jx_Mem} (h : ¬ (lo.toInt ≤ x.toInt ∧ x.toInt ≤ hi.toInt)) : f_F_within x lo hi m = some (0, m) := by rw [s_wi, jb_f h]
theorem s_in_t {x : Int32} {lo hi : Int64} {m : jx_Mem} (h : lo.toInt ≤ x.toInt ∧ x.toInt ≤ hi.toInt) : f_M_in x.toInt64 lo hi m = some (1, m) := by rw [s_min, il_toInt, jb_t h]
theorem s_in_f {x : Int32} {lo hi : Int64} {m : jx_Mem} (h : ¬ (lo.toInt ≤ x.toInt ∧ x.toInt ≤ hi.toInt)) : f_M_in x.toInt64 lo hi m = some (0, m) := by rw [s_min, il_toInt, jb_f h]
section MINE
variable {m m' : jx_Mem} {T P : Nat} {D : Nat → Nat → Nat} {W A U L : Nat → Nat} {Z : Nat → Nat → Prop}
theorem mineF_sm (h : mineF m T P D W A U L) (hs : sm Z m m') (hz : ∀ a k, dMF a k → ¬ Z a k) : mineF m' T P D W A U L :=
  ⟨(hs 3 5 (hz 3 5 (by unfold dMF; omega))).1.trans h.1, (hs 3 6 (hz 3 6 (by unfold dMF; omega))).1.trans h.2.1, fun i j hi hj => (hs 4 _ (hz 4 _ (by unfold dMF; omega))).1.trans (h.2.2.1 i j hi hj), fun i hi => (hs 5 _ (hz 5 _ (by unfold dMF; omega))).1.trans (h.2.2.2.1 i hi),
   fun p hp => ⟨(hs 6 _ (hz 6 _ (by unfold dMF; omega))).1.trans (h.2.2.2.2 p hp).1, (hs 7 _ (hz 7 _ (by unfold dMF; omega))).1.trans (h.2.2.2.2 p hp).2.1, (hs 8 _ (hz 8 _ (by unfold dMF; omega))).1.trans (h.2.2.2.2 p hp).2.2⟩⟩
theorem mineM_sm (h : mineM m T P D W A U L) (hs : sm Z m m') (hz : ∀ a k, dMM a k → ¬ Z a k) : mineM m' T P D W A U L :=
  ⟨(hs 63 3 (hz 63 3 (by unfold dMM; omega))).1.trans h.1, (hs 63 6 (hz 63 6 (by unfold dMM; omega))).1.trans h.2.1, fun i j hi hj hn => (hs 65 _ (hz 65 _ (by unfold dMM; omega))).1.trans (h.2.2.1 i j hi hj hn), fun i hi => (hs 66 _ (hz 66 _ (by unfold dMM; omega))).1.trans (h.2.2.2.1 i hi),
   fun p hp => ⟨(hs 67 _ (hz 67 _ (by unfold dMM; omega))).1.trans (h.2.2.2.2 p hp).1, (hs 68 _ (hz 68 _ (by unfold dMM; omega))).1.trans (h.2.2.2.2 p hp).2.1, (hs 69 _ (hz 69 _ (by unfold dMM; omega))).1.trans (h.2.2.2.2 p hp).2.2⟩⟩
theorem mineM_th (h : mineM m T P D W A U L) {v : Int32} : mineM (jx_w1 m 63 0 v) T P D W A U L :=
  mineM_sm (Z := fun a k => a = 63 ∧ k = 0) h (sm_w1 ⟨rfl, rfl⟩) (by intro a k; unfold dMM; omega)
theorem s_dist (h : mineF m T P D W A U L) {a b : Nat} (ha : a < 10) (hb : b < 10) : f_Mine_distance (nI a) (nI b) m = some (nI (D a b), m) := by
  rw [e_Mine_distance, s_pl_t (pl_nI ha)]
  simp [s_pl_t (pl_nI hb), ix10, in_nI (show 10 * a + b < 100 by omega) (by omega), nI_cl (show 10 * a + b < 2 ^ 31 by omega), e_Mine_distance_33, h.2.2.1 a b ha hb]
theorem s_far (h : mineM m T P D W A U L) (g : gDist D) {a b : Nat} (ha : a < 10) (hb : b < 10) : f_M_farOf (nI a) (nI b) m = some (nI (D a b), m) := by
  rw [e_M_farOf]
  by_cases q : a = b
  · subst q
    simp [e_M_farOf_40, g.1 a ha]
    rfl
  · have q2 : ¬ nI a = nI b := fun z => q ((nI_eq (by omega) (by omega)).mp z)
    have h2 := h.2.2.1 a b ha hb q
    have h3 := g.2 a b ha hb
    simp only [q2, not_false_eq_true, decide_true, if_true, xi10, in_nI (show 10 * a + b < 100 by omega) (by omega), nI_cl (show 10 * a + b < 2 ^ 31 by omega), h2, e_M_farOf_40, cond_true]
    by_cases q3 : D a b = 999
    · simp only [q3, if_true, nI_0, not_true_eq_false, decide_false, Bool.false_eq_true, if_false]
      rfl
    · have q4 : ¬ nI (D a b) = 0 := nI_ne0 (by have := h3.2.2 q; omega) (by omega)
      simp only [q3, if_false, q4, not_false_eq_true, decide_true, if_true]
theorem s_pers (h : mineF m T P D W A U L) (g : gMine T P D W A U L) (x : Int32) : f_Mine_isPerson x m = some (jb (0 ≤ x.toInt ∧ x.toInt < (P : Int)), m) := by
  rw [s_Mine_isPerson, h.2.1, nI_toInt (by have := g.2.1; omega)]
theorem s_mpers (h : mineM m T P D W A U L) (g : gMine T P D W A U L) (x : Int32) : f_M_isPerson x m = some (jb (0 ≤ x.toInt ∧ x.toInt < (P : Int)), m) := by
  rw [s_M_isPerson (k := 8) (by rw [h.2.1]; exact lim_of g.2.1 (by omega)), h.2.1, nI_toInt (by have := g.2.1; omega)]
theorem in_P {p : Nat} (g : gMine T P D W A U L) (hp : p < P) : 0 ≤ (nI p).toInt ∧ (nI p).toInt < (P : Int) := by
  have := g.2.1
  rw [nI_toInt (by omega)]; omega
theorem s_placeOf (h : mineF m T P D W A U L) (g : gMine T P D W A U L) {p : Nat} (hp : p < P) : f_Mine_placeOf (nI p) m = some (nI (A p), m) := by
  have hP := g.2.1
  rw [e_Mine_placeOf, s_pers h g, jb_t (in_P g hp)]
  simp [in_nI (show p < 8 by omega) (by omega), nI_cl (show p < 2 ^ 31 by omega), (h.2.2.2.2 p hp).1, e_Mine_placeOf_18]
theorem s_purseOf (h : mineF m T P D W A U L) (g : gMine T P D W A U L) {p : Nat} (hp : p < P) : f_Mine_purseOf (nI p) m = some (nI (U p), m) := by
  have hP := g.2.1
  rw [e_Mine_purseOf, s_pers h g, jb_t (in_P g hp)]
  simp [in_nI (show p < 8 by omega) (by omega), nI_cl (show p < 2 ^ 31 by omega), (h.2.2.2.2 p hp).2.1, e_Mine_purseOf_18]
theorem s_loadOf (h : mineF m T P D W A U L) (g : gMine T P D W A U L) {p : Nat} (hp : p < P) : f_Mine_loadOf (nI p) m = some (nI (L p), m) := by
  have hP := g.2.1
  rw [e_Mine_loadOf, s_pers h g, jb_t (in_P g hp)]
  simp [in_nI (show p < 8 by omega) (by omega), nI_cl (show p < 2 ^ 31 by omega), (h.2.2.2.2 p hp).2.2, e_Mine_loadOf_18]
theorem s_farOut (h : mineF m T P D W A U L) (g : gMine T P D W A U L) {p : Nat} (hp : p < P) : f_Mine_farOut (nI p) m = some (nI (D 0 (A p)), m) := by
  rw [e_Mine_farOut, s_placeOf h g hp, Option.bind_some]
  show (f_Mine_distance (nI 0) _ _).bind _ = _
  rw [s_dist h (by omega) (g.2.2.2.2.2 p hp).1]
  rfl
theorem s_wallOf (h : mineF m T P D W A U L) {a : Nat} (ha : a < 10) : f_Mine_wallOf (nI a) m = some (nI (W a), m) := by
  rw [e_Mine_wallOf, s_pl_t (pl_nI ha)]
  simp [in_nI ha (by omega), nI_cl (show a < 2 ^ 31 by omega), h.2.2.2.1 a ha, e_Mine_wallOf_18]
theorem s_joined (h : mineF m T P D W A U L) (g : gMine T P D W A U L) {a b : Nat} (ha : a < 10) (hb : b < 10) : f_Mine_joined (nI a) (nI b) m = some (jb (D a b < 999), m) := by
  have h3 := (g.2.2.1.2 a b ha hb).1
  rw [e_Mine_joined, s_dist h ha hb, Option.bind_some]
  by_cases q : D a b < 999
  · refine (ifn (nI_ge (a := D a b) (b := 999) q (by omega))).trans ?_
    rw [e_Mine_joined_17, jb_t q]
    rfl
  · refine (ifp (nI_le (a := 999) (b := D a b) (by omega) (by omega))).trans ?_
    rw [e_Mine_joined_17, jb_f q]
    rfl
/-! far, wall, person, walk: what they answer -/
theorem F_far (h : mineF m T P D W A U L) (x y : Int32) : f_F_far x y m = some (if (0 ≤ x.toInt ∧ x.toInt < 10) ∧ 0 ≤ y.toInt ∧ y.toInt < 10 then nI (D (jn x) (jn y)) else -1, m) := by
  rw [e_F_far]
  by_cases hx : 0 ≤ x.toInt ∧ x.toInt < 10
  · by_cases hy : 0 ≤ y.toInt ∧ y.toInt < 10
    · obtain ⟨a, ha, rfl⟩ := nI_get hx.1 (show x.toInt < ((10 : Nat) : Int) from hx.2)
      obtain ⟨b, hb, rfl⟩ := nI_get hy.1 (show y.toInt < ((10 : Nat) : Int) from hy.2)
      rw [if_pos ⟨hx, hy⟩, jn_nI (by omega), jn_nI (by omega)]
      simp [s_pl_t hx, s_pl_t hy, s_dist h ha hb, e_F_far_35]
    · rw [if_neg (fun q => hy q.2)]
      simp [s_pl_t hx, s_pl_f hy, e_F_far_34, e_F_far_35]
  · rw [if_neg (fun q => hx q.1)]
    simp [s_pl_f hx, e_F_far_34, e_F_far_35]
theorem M_far (h : mineM m T P D W A U L) (g : gMine T P D W A U L) (x y : Int32) : f_M_far x y m = some (if (0 ≤ x.toInt ∧ x.toInt < 10) ∧ 0 ≤ y.toInt ∧ y.toInt < 10 then nI (D (jn x) (jn y)) else -1, jx_w1 m 63 0 0) := by
  have h1 := mineM_th h (v := 0)
  rw [e_M_far]
  dsimp only
  by_cases hx : 0 ≤ x.toInt ∧ x.toInt < 10
  · by_cases hy : 0 ≤ y.toInt ∧ y.toInt < 10
    · obtain ⟨a, ha, rfl⟩ := nI_get hx.1 (show x.toInt < ((10 : Nat) : Int) from hx.2)
      obtain ⟨b, hb, rfl⟩ := nI_get hy.1 (show y.toInt < ((10 : Nat) : Int) from hy.2)
      rw [if_pos ⟨hx, hy⟩, jn_nI (by omega), jn_nI (by omega)]
      simp [s_mpl_t hx, s_mpl_t hy, s_far h1 g.2.2.1 ha hb, e_M_far_29]
    · rw [if_neg (fun q => hy q.2)]
      simp [s_mpl_t hx, s_mpl_f hy, e_M_far_28, e_M_far_29]
  · rw [if_neg (fun q => hx q.1)]
    simp [s_mpl_f hx, e_M_far_28, e_M_far_29]
end MINE
