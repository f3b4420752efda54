/-! answer, sheet, apart -/
section GOODS3
variable {m m' : jx_Mem} {G K : Nat} {O C : Nat → Nat} {N : Nat → Nat → Nat}
def cAns (x y z : Int32) (G K : Nat) : Prop := (0 ≤ x.toInt ∧ x.toInt < (G : Int)) ∧ (0 ≤ y.toInt ∧ y.toInt < (K : Int)) ∧ (0 ≤ z.toInt ∧ z.toInt ≤ 9)
theorem F_answer (h : goodsF m G K O C N) (gg : gGoods G K O C N) (x y z : Int32) : ∃ m', sm (fun q _ => q = 12 ∨ q = 13) m m' ∧
    ((cAns x y z G K ∧ f_F_answer x y z m = some (nI (N (jn x) (jn y)), m') ∧ goodsF m' G K O C (u2 N (jn x) (jn y) (jn z))) ∨ (¬ cAns x y z G K ∧ f_F_answer x y z m = some (-1, m') ∧ m' = m)) := by
  have hG := gg.1
  have hK := gg.2.1
  rw [e_F_answer]
  by_cases hx : 0 ≤ x.toInt ∧ x.toInt < (G : Int)
  · by_cases hy : 0 ≤ y.toInt ∧ y.toInt < (K : Int)
    · by_cases hz : 0 ≤ z.toInt ∧ z.toInt ≤ 9
      · obtain ⟨g, hg, rfl⟩ := nI_get hx.1 hx.2
        obtain ⟨t, ht, rfl⟩ := nI_get hy.1 hy.2
        obtain ⟨v, hv, rfl⟩ := nI_get hz.1 (show z.toInt < ((10 : Nat) : Int) by omega)
        rw [jn_nI (show g < 2 ^ 31 by omega), jn_nI (show t < 2 ^ 31 by omega), jn_nI (show v < 2 ^ 31 by omega)]
        obtain ⟨m', q1, q2, q3⟩ := s_setAnswer h gg hg ht hv
        exact ⟨m', q3, Or.inl ⟨⟨hx, hy, hz⟩, by rw [q1]; rfl, q2⟩⟩
      · refine ⟨m, sm.rf, Or.inr ⟨fun q => hz q.2.2, ?_, rfl⟩⟩
        simp [e_Goods_setAnswer, s_isGood h gg, jb_t hx, s_isTest h gg, jb_t hy, s_wi_f (lo := 0) (hi := 9) hz, e_Goods_setAnswer_26]
    · refine ⟨m, sm.rf, Or.inr ⟨fun q => hy q.2.1, ?_, rfl⟩⟩
      simp [e_Goods_setAnswer, s_isGood h gg, jb_t hx, s_isTest h gg, jb_f hy, e_Goods_setAnswer_26]
  · refine ⟨m, sm.rf, Or.inr ⟨fun q => hx q.1, ?_, rfl⟩⟩
    simp [e_Goods_setAnswer, s_isGood h gg, jb_f hx, e_Goods_setAnswer_26]
theorem goodsM_ans (h : goodsM m G K O C N) {g t v : Nat} (ht : t < 6) : goodsM (jx_w1 m 72 (6 * g + t) (nI v)) G K O C (u2 N g t v) := by
  refine ⟨h.1, h.2.1, h.2.2.1, h.2.2.2.1, fun g' t' hg' ht' => ?_⟩
  rw [w1_rd]
  unfold u2
  by_cases c : g' = g ∧ t' = t
  · rw [if_pos c, if_pos ⟨rfl, by omega⟩]
  · rw [if_neg c, if_neg (by omega)]
    exact h.2.2.2.2 g' t' hg' ht'
theorem M_answer (h : goodsM m G K O C N) (gg : gGoods G K O C N) (x y z : Int32) : ∃ m', sm (fun q k => q = 72 ∨ (q = 63 ∧ k = 0)) m m' ∧
    ((cAns x y z G K ∧ f_M_answer x y z m = some (nI (N (jn x) (jn y)), m') ∧ goodsM m' G K O C (u2 N (jn x) (jn y) (jn z))) ∨ (¬ cAns x y z G K ∧ f_M_answer x y z m = some (-1, m') ∧ goodsM m' G K O C N)) := by
  have hG := gg.1
  have hK := gg.2.1
  have h1 := goodsM_th h (v := 0)
  have s1 : sm (fun q k => q = 72 ∨ (q = 63 ∧ k = 0)) m (jx_w1 m 63 0 0) := sm_w1 (by omega)
  rw [e_M_answer]
  dsimp only
  by_cases hx : 0 ≤ x.toInt ∧ x.toInt < (G : Int)
  · by_cases hy : 0 ≤ y.toInt ∧ y.toInt < (K : Int)
    · by_cases hz : 0 ≤ z.toInt ∧ z.toInt ≤ 9
      · obtain ⟨g, hg, rfl⟩ := nI_get hx.1 hx.2
        obtain ⟨t, ht, rfl⟩ := nI_get hy.1 hy.2
        obtain ⟨v, hv, rfl⟩ := nI_get hz.1 (show z.toInt < ((10 : Nat) : Int) by omega)
        rw [jn_nI (show g < 2 ^ 31 by omega), jn_nI (show t < 2 ^ 31 by omega), jn_nI (show v < 2 ^ 31 by omega)]
        refine ⟨jx_w1 (jx_w1 m 63 0 0) 72 (6 * g + t) (nI v), s1.w1 (by omega), Or.inl ⟨⟨hx, hy, hz⟩, ?_, goodsM_ans h1 (by omega)⟩⟩
        simp [s_misGood h1 gg, jb_t hx, s_misTest h1 gg, jb_t hy, s_in_t (lo := 0) (hi := 9) hz, s_manswerOf h1 (show g < 10 by omega) (show t < 6 by omega), xi6, in_nI (show 6 * g + t < 60 by omega) (by omega), nI_cl (show 6 * g + t < 2 ^ 31 by omega)]
      · refine ⟨_, s1, Or.inr ⟨fun q => hz q.2.2, ?_, h1⟩⟩
        simp [s_misGood h1 gg, jb_t hx, s_misTest h1 gg, jb_t hy, s_in_f (lo := 0) (hi := 9) hz, e_M_answer_33]
    · refine ⟨_, s1, Or.inr ⟨fun q => hy q.2.1, ?_, h1⟩⟩
      simp [s_misGood h1 gg, jb_t hx, s_misTest h1 gg, jb_f hy, e_M_answer_33]
  · refine ⟨_, s1, Or.inr ⟨fun q => hx q.1, ?_, h1⟩⟩
    simp [s_misGood h1 gg, jb_f hx, e_M_answer_33]
/-! a sheet -/
def ent (kind x : Int32) : Int32 := jx_mx 0 (jx_mn 9 (if kind = 0 then x.toInt8.toInt32 else if kind = 1 then x.toInt16.toInt32 else x))
def shv (kind n f step : Int32) (g : Nat) : Int32 := if kind = 3 ∨ n ≤ nI g then 0 else ent kind (f + nI g * step)
theorem mx9 (y : Int32) : 0 ≤ (jx_mx 0 (jx_mn 9 y)).toInt ∧ (jx_mx 0 (jx_mn 9 y)).toInt < ((10 : Nat) : Int) := by
  unfold jx_mx jx_mn
  by_cases h1 : y < 9
  · rw [if_pos h1]
    rw [i_lt] at h1
    by_cases h2 : 0 < y
    · rw [if_pos h2]
      rw [i_lt] at h2
      rw [show (9 : Int32).toInt = 9 from rfl] at h1
      rw [show (0 : Int32).toInt = 0 from rfl] at h2
      omega
    · rw [if_neg h2]
      decide
  · rw [if_neg h1]
    decide
theorem shv_lim (kind n f step : Int32) (g : Nat) : ∃ k, k < 10 ∧ shv kind n f step g = nI k := by
  unfold shv
  split
  · exact ⟨0, by omega, rfl⟩
  · exact nI_get (mx9 _).1 (mx9 _).2
def sv (kind n f step : Int32) (g : Nat) : Nat := jn (shv kind n f step g)
theorem sv_nI (kind n f step : Int32) (g : Nat) : shv kind n f step g = nI (sv kind n f step g) := by
  obtain ⟨k, hk, e⟩ := shv_lim kind n f step g
  unfold sv
  rw [e, jn_nI (by omega)]
theorem sv_lt (kind n f step : Int32) (g : Nat) : sv kind n f step g < 10 := by
  obtain ⟨k, hk, e⟩ := shv_lim kind n f step g
  unfold sv
  rw [e, jn_nI (by omega)]
  exact hk
def shN (N : Nat → Nat → Nat) (t : Nat) (s : Nat → Nat) (k : Nat) : Nat → Nat → Nat := fun g t' => if t' = t ∧ g < k then s g else N g t'
theorem shN_0 (t : Nat) (s : Nat → Nat) : shN N t s 0 = N := by
  funext g t'
  unfold shN
  rw [if_neg (by omega)]
theorem shN_s (t : Nat) (s : Nat → Nat) (k : Nat) : u2 (shN N t s k) k t (s k) = shN N t s (k + 1) := by
  funext g t'
  unfold u2 shN
  by_cases c : g = k ∧ t' = t
  · rw [if_pos c, if_pos ⟨c.2, by omega⟩, c.1]
  · rw [if_neg c]
    by_cases d : t' = t ∧ g < k
    · rw [if_pos d, if_pos ⟨d.1, by omega⟩]
    · rw [if_neg d, if_neg (by omega)]
theorem shN_g (gg : gGoods G K O C N) {t k : Nat} {s : Nat → Nat} (hs : ∀ g, s g < 10) (ht : t < K) (hk : k ≤ G) : gGoods G K O C (shN N t s k) := by
  refine ⟨gg.1, gg.2.1, gg.2.2.1, gg.2.2.2.1, fun g t' => ?_, fun g t' hq => ?_⟩
  · unfold shN
    split
    · have := hs g; omega
    · exact gg.2.2.2.2.1 g t'
  · unfold shN
    rw [if_neg (by omega)]
    exact gg.2.2.2.2.2 g t' hq
theorem s_entry (kind x : Int32) (m : jx_Mem) : f_Goods_entry kind x m = some (ent kind x, m) := by
  rw [e_Goods_entry]
  unfold ent
  by_cases h0 : kind = 0
  · simp [h0, e_Goods_entry_20]
  · by_cases h1 : kind = 1
    · simp [h1, e_Goods_entry_20]
    · simp [h0, h1, e_Goods_entry_20]
theorem fs_55 (gg : gGoods G K O C N) {t : Nat} (ht : t < K) (kind n f step : Int32) (hk : 0 ≤ n.toInt ∨ kind = 3) : ∀ (k g : Nat), g + k = G → ∀ m, goodsF m G K O C (shN N t (sv kind n f step) g) →
    ∃ m', f_Goods_readSheet_55 (nI t) kind f step (if kind = 3 then 0 else n) (nI (fb_sm (sv kind n f step) g)) (nI g) m = some (if kind = 3 then -3 else nI (fb_sm (sv kind n f step) G), m') ∧ goodsF m' G K O C (shN N t (sv kind n f step) G) ∧ sm (fun q _ => q = 12 ∨ q = 13) m m' := by
  have hG := gg.1
  intro k
  induction k with
  | zero =>
    intro g hg m h
    have hg2 : g = G := by omega
    subst hg2
    refine ⟨m, ?_, h, sm.rf⟩
    rw [e_Goods_readSheet_55, h.1]
    refine (ifp (nI_le (Nat.le_refl _) (by omega))).trans ?_
    by_cases c : kind = 3
    · rw [if_pos c]
      refine (ifn (fun z => z c)).trans ?_
      rw [e_Goods_readSheet_124]
    · rw [if_neg c]
      refine (ifp c).trans ?_
      rw [e_Goods_readSheet_124]
  | succ k ih =>
    intro g hg m h
    have hg2 : g < G := by omega
    obtain ⟨m1, q1, q2, q3⟩ := s_setAnswer h (shN_g gg (sv_lt kind n f step) ht (Nat.le_of_lt hg2)) hg2 ht (sv_lt kind n f step g)
    rw [shN_s] at q2
    obtain ⟨m2, r1, r2, r3⟩ := ih (g + 1) (by omega) m1 q2
    refine ⟨m2, ?_, r2, q3.tr r3⟩
    rw [← r1, e_Goods_readSheet_55, h.1]
    refine (ifn (nI_ge hg2 (by omega))).trans ?_
    have h87 : f_Goods_readSheet_87 (nI t) kind f step (if kind = 3 then 0 else n) (nI (fb_sm (sv kind n f step) g)) (nI g) (nI (sv kind n f step g)) m = f_Goods_readSheet_55 (nI t) kind f step (if kind = 3 then 0 else n) (nI (fb_sm (sv kind n f step) (g + 1))) (nI (g + 1)) m1 := by
      rw [e_Goods_readSheet_87, q1, Option.bind_some, nI_add, nI_1]
      rfl
    by_cases c : kind = 3
    · rw [if_pos c] at h87 ⊢
      refine (ifp (nI_pos' (by omega))).trans ?_
      rw [← h87, ← sv_nI]
      unfold shv
      rw [if_pos (Or.inl c)]
    · rw [if_neg c] at h87 ⊢
      by_cases d : n ≤ nI g
      · refine (ifp d).trans ?_
        rw [← h87, ← sv_nI]
        unfold shv
        rw [if_pos (Or.inr d)]
      · refine (ifn d).trans ?_
        rw [s_entry, Option.bind_some]
        dsimp only
        rw [← h87, ← sv_nI]
        unfold shv
        rw [if_neg (fun z => z.elim c d)]
theorem i_mul_s (f step : Int32) (g : Nat) : f + nI g * step + step = f + nI (g + 1) * step := by
  rw [← nI_1, Int32.add_mul, Int32.one_mul, Int32.add_assoc]
theorem ms_55 (gg : gGoods G K O C N) {t : Nat} (ht : t < K) (kind n f step : Int32) : ∀ (k g : Nat), g + k = G → ∀ m, goodsM m G K O C (shN N t (sv kind n f step) g) →
    ∃ m', f_M_sheet_55 (nI t) kind n step (nI (fb_sm (sv kind n f step) g)) (f + nI g * step) (nI g) m = some (if kind = 3 then -3 else nI (fb_sm (sv kind n f step) G), m') ∧ goodsM m' G K O C (shN N t (sv kind n f step) G) ∧ sm (fun q _ => q = 72) m m' := by
  have hG := gg.1
  have hK := gg.2.1
  intro k
  induction k with
  | zero =>
    intro g hg m h
    have hg2 : g = G := by omega
    subst hg2
    refine ⟨m, ?_, h, sm.rf⟩
    rw [e_M_sheet_55, h.1]
    refine (ifp (nI_le (Nat.le_refl _) (by omega))).trans ?_
    by_cases c : kind = 3
    · rw [if_pos c]
      refine (ifn (fun z => z c)).trans ?_
      rw [e_M_sheet_164]
    · rw [if_neg c]
      refine (ifp c).trans ?_
      rw [e_M_sheet_164]
  | succ k ih =>
    intro g hg m h
    have hg2 : g < G := by omega
    have q2 := goodsM_ans (g := g) (v := sv kind n f step g) h (show t < 6 by omega)
    rw [shN_s] at q2
    obtain ⟨m2, r1, r2, r3⟩ := ih (g + 1) (by omega) _ q2
    refine ⟨m2, ?_, r2, r3.pre rfl⟩
    have h126 : f_M_sheet_126 (nI t) kind n step (nI (fb_sm (sv kind n f step) g)) (f + nI g * step) (nI g) (nI (sv kind n f step g)) (6 * nI g + nI t) m = some (if kind = 3 then -3 else nI (fb_sm (sv kind n f step) G), m2) := by
      have e1 : shN N t (sv kind n f step) (g + 1) g t = sv kind n f step g := if_pos ⟨rfl, Nat.lt_succ_self g⟩
      rw [← r1, e_M_sheet_126, xi6, in_nI (show 6 * g + t < 60 by omega) (by omega), nI_cl (show 6 * g + t < 2 ^ 31 by omega)]
      show (f_M_answerOf (nI g) (nI t) _).bind _ = _
      rw [s_manswerOf q2 (by omega) (by omega), Option.bind_some, e1, nI_add, i_mul_s, nI_1]
      rfl
    have h87 : ∀ y, (¬ kind = 3 → ¬ n ≤ nI g → jx_mx 0 (jx_mn 9 y) = nI (sv kind n f step g)) → f_M_sheet_87 (nI t) kind n step (nI (fb_sm (sv kind n f step) g)) (f + nI g * step) (nI g) y m = some (if kind = 3 then -3 else nI (fb_sm (sv kind n f step) G), m2) := by
      intro y hy
      rw [e_M_sheet_87]
      by_cases c : kind = 3
      · refine (ifp c).trans ?_
        rw [e_M_sheet_111, ← h126, ← sv_nI]
        unfold shv
        rw [if_pos (Or.inl c)]
      · refine (ifn c).trans ?_
        by_cases d : n ≤ nI g
        · refine (ifn (fun z => by rw [i_le] at d; rw [i_lt] at z; omega)).trans ?_
          rw [e_M_sheet_111, ← h126, ← sv_nI]
          unfold shv
          rw [if_pos (Or.inr d)]
        · refine (ifp (by rw [i_le] at d; rw [i_lt]; omega)).trans ?_
          rw [hy c d, h126]
    have hv : ¬ kind = 3 → ¬ n ≤ nI g → ent kind (f + nI g * step) = nI (sv kind n f step g) := by
      intro c d
      rw [← sv_nI]
      unfold shv
      rw [if_neg (fun z => z.elim c d)]
    rw [e_M_sheet_55, h.1]
    refine (ifn (nI_ge hg2 (by omega))).trans ?_
    by_cases c0 : kind = 0
    · refine (ifn (fun z => z c0)).trans ?_
      apply h87
      intro c d
      rw [← hv c d]
      unfold ent
      rw [if_pos c0]
    · refine (ifp c0).trans ?_
      by_cases c1 : kind = 1
      · refine (ifn (fun z => z c1)).trans ?_
        apply h87
        intro c d
        rw [← hv c d]
        unfold ent
        rw [if_neg c0, if_pos c1]
      · refine (ifp c1).trans ?_
        apply h87
        intro c d
        rw [← hv c d]
        unfold ent
        rw [if_neg c0, if_neg c1]
def cSh (x y z : Int32) (K : Nat) : Prop := (0 ≤ x.toInt ∧ x.toInt < (K : Int)) ∧ (0 ≤ y.toInt ∧ y.toInt ≤ 3) ∧ z.toInt ≤ 10
theorem F_sheet (h : goodsF m G K O C N) (gg : gGoods G K O C N) (x y z f step : Int32) : ∃ m', sm (fun q _ => q = 12 ∨ q = 13) m m' ∧
    ((cSh x y z K ∧ (y = 3 ∨ 0 ≤ z.toInt) ∧ f_F_sheet x y z f step m = some (if y = 3 then -3 else nI (fb_sm (sv y z f step) G), m') ∧ goodsF m' G K O C (shN N (jn x) (sv y z f step) G)) ∨
     (cSh x y z K ∧ ¬ (y = 3 ∨ 0 ≤ z.toInt) ∧ f_F_sheet x y z f step m = some (-2, m') ∧ m' = m) ∨ (¬ cSh x y z K ∧ f_F_sheet x y z f step m = some (-1, m') ∧ m' = m)) := by
  have hG := gg.1
  have hK := gg.2.1
  rw [e_F_sheet, e_Goods_readSheet]
  by_cases hx : 0 ≤ x.toInt ∧ x.toInt < (K : Int)
  · by_cases hy : 0 ≤ y.toInt ∧ y.toInt ≤ 3
    · by_cases hz : z.toInt ≤ 10
      · have hz2 : z ≤ 10 := i_le.mpr hz
        by_cases c : y = 3 ∨ 0 ≤ z.toInt
        · obtain ⟨t, ht, rfl⟩ := nI_get hx.1 hx.2
          rw [jn_nI (show t < 2 ^ 31 by omega)]
          obtain ⟨m', q1, q2, q3⟩ := fs_55 gg ht y z f step c.symm G 0 (by omega) m (by rw [shN_0]; exact h)
          refine ⟨m', q3, Or.inl ⟨⟨hx, hy, hz⟩, c, ?_, q2⟩⟩
          have q4 : f_Goods_readSheet_37 (nI t) y z f step m = some (if y = 3 then -3 else nI (fb_sm (sv y z f step) G), m') := by
            rw [e_Goods_readSheet_37]
            by_cases d : y = 3
            · refine (ifn (fun w => w d)).trans ?_
              rw [if_pos d] at q1
              rw [e_Goods_readSheet_47]
              exact q1
            · refine (ifp d).trans ?_
              rw [if_neg d] at q1
              rw [e_Goods_readSheet_47]
              exact q1
          by_cases d : y = 3
          · subst d
            rw [s_isTest h gg, jb_t hx]
            simp [s_wi_t (m := m) (x := 3) (lo := 0) (hi := 3) (by decide), hz2, q4]
          · have hz3 : (0 : Int32) ≤ z := i_le.mpr (c.resolve_left d)
            simp [s_isTest h gg, jb_t hx, s_wi_t (lo := 0) (hi := 3) hy, hz2, q4, d, hz3]
        · have d : ¬ y = 3 := fun w => c (Or.inl w)
          have hz3 : ¬ (0 : Int32) ≤ z := fun w => c (Or.inr (i_le.mp w))
          refine ⟨m, sm.rf, Or.inr (Or.inl ⟨⟨hx, hy, hz⟩, c, ?_, rfl⟩)⟩
          simp [s_isTest h gg, jb_t hx, s_wi_t (lo := 0) (hi := 3) hy, hz2, d, hz3]
      · have hz2 : ¬ z ≤ 10 := fun w => hz (i_le.mp w)
        refine ⟨m, sm.rf, Or.inr (Or.inr ⟨fun q => hz q.2.2, ?_, rfl⟩)⟩
        simp [s_isTest h gg, jb_t hx, s_wi_t (lo := 0) (hi := 3) hy, hz2, e_Goods_readSheet_23]
    · refine ⟨m, sm.rf, Or.inr (Or.inr ⟨fun q => hy q.2.1, ?_, rfl⟩)⟩
      simp [s_isTest h gg, jb_t hx, s_wi_f (lo := 0) (hi := 3) hy, e_Goods_readSheet_23]
  · refine ⟨m, sm.rf, Or.inr (Or.inr ⟨fun q => hx q.1, ?_, rfl⟩)⟩
    simp [s_isTest h gg, jb_f hx, e_Goods_readSheet_23]
theorem M_sheet (h : goodsM m G K O C N) (gg : gGoods G K O C N) (x y z f step : Int32) : ∃ m', sm (fun q k => q = 72 ∨ (q = 63 ∧ k = 0)) m m' ∧
    ((cSh x y z K ∧ (y = 3 ∨ 0 ≤ z.toInt) ∧ f_M_sheet x y z f step m = some (if y = 3 then -3 else nI (fb_sm (sv y z f step) G), m') ∧ goodsM m' G K O C (shN N (jn x) (sv y z f step) G)) ∨
     (cSh x y z K ∧ ¬ (y = 3 ∨ 0 ≤ z.toInt) ∧ f_M_sheet x y z f step m = some (-2, m') ∧ goodsM m' G K O C N) ∨ (¬ cSh x y z K ∧ f_M_sheet x y z f step m = some (-1, m') ∧ goodsM m' G K O C N)) := by
  have hG := gg.1
  have hK := gg.2.1
  have h1 := goodsM_th h (v := 0)
  have s1 : sm (fun q k => q = 72 ∨ (q = 63 ∧ k = 0)) m (jx_w1 m 63 0 0) := sm_w1 (by omega)
  rw [e_M_sheet]
  dsimp only
  by_cases hx : 0 ≤ x.toInt ∧ x.toInt < (K : Int)
  · by_cases hy : 0 ≤ y.toInt ∧ y.toInt ≤ 3
    · by_cases hz : z.toInt ≤ 10
      · have hz2 : z ≤ 10 := i_le.mpr hz
        by_cases c : y = 3 ∨ 0 ≤ z.toInt
        · obtain ⟨t, ht, rfl⟩ := nI_get hx.1 hx.2
          rw [jn_nI (show t < 2 ^ 31 by omega)]
          obtain ⟨m', q1, q2, q3⟩ := ms_55 gg ht y z f step G 0 (by omega) (jx_w1 m 63 0 0) (by rw [shN_0]; exact h1)
          refine ⟨m', s1.tr (q3.mono (by omega)), Or.inl ⟨⟨hx, hy, hz⟩, c, ?_, q2⟩⟩
          have q4 : f_M_sheet_45 (nI t) y z f step (jx_w1 m 63 0 0) = some (if y = 3 then -3 else nI (fb_sm (sv y z f step) G), m') := by
            rw [e_M_sheet_45, ← q1, nI_0, Int32.zero_mul, Int32.add_zero]
            rfl
          by_cases d : y = 3
          · subst d
            rw [s_misTest h1 gg, jb_t hx]
            have q5 := s_in_t (m := jx_w1 m 63 0 0) (x := 3) (lo := 0) (hi := 3) (by decide)
            simp only [Option.bind_some, q5, q4]
            simp [hz2]
          · have hz3 : (0 : Int32) ≤ z := i_le.mpr (c.resolve_left d)
            simp [s_misTest h1 gg, jb_t hx, s_in_t (lo := 0) (hi := 3) hy, hz2, q4, d, hz3]
        · have d : ¬ y = 3 := fun w => c (Or.inl w)
          have hz3 : ¬ (0 : Int32) ≤ z := fun w => c (Or.inr (i_le.mp w))
          refine ⟨_, s1, Or.inr (Or.inl ⟨⟨hx, hy, hz⟩, c, ?_, h1⟩)⟩
          simp [s_misTest h1 gg, jb_t hx, s_in_t (lo := 0) (hi := 3) hy, hz2, d, hz3]
      · have hz2 : ¬ z ≤ 10 := fun w => hz (i_le.mp w)
        refine ⟨_, s1, Or.inr (Or.inr ⟨fun q => hz q.2.2, ?_, h1⟩)⟩
        simp [s_misTest h1 gg, jb_t hx, s_in_t (lo := 0) (hi := 3) hy, hz2, e_M_sheet_31]
    · refine ⟨_, s1, Or.inr (Or.inr ⟨fun q => hy q.2.1, ?_, h1⟩)⟩
      simp [s_misTest h1 gg, jb_t hx, s_in_f (lo := 0) (hi := 3) hy, e_M_sheet_31]
  · refine ⟨_, s1, Or.inr (Or.inr ⟨fun q => hx q.1, ?_, h1⟩)⟩
    simp [s_misTest h1 gg, jb_f hx, e_M_sheet_31]
/-! apart -/
def dif (N : Nat → Nat → Nat) (a b : Nat) : Nat → Bool := fun t => !(N a t == N b t)
theorem s_unlike (h : goodsF m G K O C N) (gg : gGoods G K O C N) {a b : Nat} (ha : a < G) (hb : b < G) : f_Goods_unlike (nI a) (nI b) m = some (nI (bs (dif N a b) K), m) := by
  have hG := gg.1
  have hK := gg.2.1
  rw [e_Goods_unlike]
  have h1 := lp_up (fun i x => f_Goods_unlike_5 (nI a) (nI b) x i m) (fun n => nI (bs (dif N a b) n)) K (by
    intro n hn
    rw [e_Goods_unlike_5, h.2.1]
    refine (ifn (nI_ge (a := n) (b := K) hn (by omega))).trans ?_
    rw [s_answerOf h gg ha hn, Option.bind_some, s_answerOf h gg hb hn, Option.bind_some]
    have hN := gg.2.2.2.2.1 a n
    have hN2 := gg.2.2.2.2.1 b n
    by_cases d : N a n = N b n
    · refine (ifp (by rw [d])).trans ?_
      rw [e_Goods_unlike_38, nI_1, bs_f (by simp [dif, d])]
    · refine (ifn (fun z => d ((nI_eq (by omega) (by omega)).mp z))).trans ?_
      rw [e_Goods_unlike_38, nI_1, or_bs_t (by omega) (by simp [dif, d])]) 0 (by omega)
  refine h1.trans ?_
  rw [e_Goods_unlike_5, h.2.1]
  exact ifp (nI_le (Nat.le_refl _) (by omega))
theorem s_parted (h : goodsM m G K O C N) (gg : gGoods G K O C N) {a b : Nat} (ha : a < 10) (hb : b < 10) : f_M_partedBy (nI a) (nI b) m = some (nI (bs (dif N a b) K), m) := by
  have hG := gg.1
  have hK := gg.2.1
  rw [e_M_partedBy]
  have h1 := lp_up (fun i x => f_M_partedBy_5 (nI a) (nI b) x i m) (fun n => nI (bs (dif N a b) n)) K (by
    intro n hn
    rw [e_M_partedBy_5, h.2.1]
    refine (ifn (nI_ge (a := n) (b := K) hn (by omega))).trans ?_
    rw [s_manswerOf h ha (by omega), Option.bind_some, s_manswerOf h hb (by omega), Option.bind_some]
    have hN := gg.2.2.2.2.1 a n
    have hN2 := gg.2.2.2.2.1 b n
    by_cases d : N a n = N b n
    · refine (ifp (by rw [d])).trans ?_
      rw [e_M_partedBy_40, nI_1, or_bs_f (by omega) (by simp [dif, d])]
    · refine (ifn (fun z => d ((nI_eq (by omega) (by omega)).mp z))).trans ?_
      rw [e_M_partedBy_40, nI_1, or_bs_t (by omega) (by simp [dif, d])]) 0 (by omega)
  refine h1.trans ?_
  rw [e_M_partedBy_5, h.2.1]
  exact ifp (nI_le (Nat.le_refl _) (by omega))
theorem F_apart (h : goodsF m G K O C N) (gg : gGoods G K O C N) (x y : Int32) : f_F_apart x y m = some (if (0 ≤ x.toInt ∧ x.toInt < (G : Int)) ∧ 0 ≤ y.toInt ∧ y.toInt < (G : Int) then nI (bs (dif N (jn x) (jn y)) K) else -1, m) := by
  have hG := gg.1
  rw [e_F_apart]
  by_cases hx : 0 ≤ x.toInt ∧ x.toInt < (G : Int)
  · by_cases hy : 0 ≤ y.toInt ∧ y.toInt < (G : Int)
    · obtain ⟨a, ha, rfl⟩ := nI_get hx.1 hx.2
      obtain ⟨b, hb, rfl⟩ := nI_get hy.1 hy.2
      rw [if_pos ⟨hx, hy⟩, jn_nI (show a < 2 ^ 31 by omega), jn_nI (show b < 2 ^ 31 by omega)]
      simp [s_isGood h gg, jb_t hx, jb_t hy, s_unlike h gg ha hb, e_F_apart_35]
    · rw [if_neg (fun q => hy q.2)]
      simp [s_isGood h gg, jb_t hx, jb_f hy, e_F_apart_34, e_F_apart_35]
  · rw [if_neg (fun q => hx q.1)]
    simp [s_isGood h gg, jb_f hx, e_F_apart_34, e_F_apart_35]
theorem M_apart (h : goodsM m G K O C N) (gg : gGoods G K O C N) (x y : Int32) : f_M_apart x y m = some (if (0 ≤ x.toInt ∧ x.toInt < (G : Int)) ∧ 0 ≤ y.toInt ∧ y.toInt < (G : Int) then nI (bs (dif N (jn x) (jn y)) K) else -1, jx_w1 m 63 0 0) := by
  have hG := gg.1
  have h1 := goodsM_th h (v := 0)
  rw [e_M_apart]
  dsimp only
  by_cases hx : 0 ≤ x.toInt ∧ x.toInt < (G : Int)
  · by_cases hy : 0 ≤ y.toInt ∧ y.toInt < (G : Int)
    · obtain ⟨a, ha, rfl⟩ := nI_get hx.1 hx.2
      obtain ⟨b, hb, rfl⟩ := nI_get hy.1 hy.2
      rw [if_pos ⟨hx, hy⟩, jn_nI (show a < 2 ^ 31 by omega), jn_nI (show b < 2 ^ 31 by omega)]
      simp [s_misGood h1 gg, jb_t hx, jb_t hy, s_parted h1 gg (show a < 10 by omega) (show b < 10 by omega), e_M_apart_31]
    · rw [if_neg (fun q => hy q.2)]
      simp [s_misGood h1 gg, jb_t hx, jb_f hy, e_M_apart_30, e_M_apart_31]
  · rw [if_neg (fun q => hx q.1)]
    simp [s_misGood h1 gg, jb_f hx, e_M_apart_30, e_M_apart_31]
end GOODS3
