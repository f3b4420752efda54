/-! good, test, answer, sheet, apart -/
theorem bt_nI {x i : Nat} (hi : i < 32) : bt (nI x) i = x.testBit i := by
  unfold bt nI
  show (BitVec.ofNat 32 x).getLsbD i = _
  rw [BitVec.getLsbD_ofNat]
  simp [hi]
theorem and_not {a b n : Nat} (ha : a < 2 ^ n) (hn : n ≤ 31) : nI a &&& (nI b ^^^ (-1)) = nI (bs (fun i => a.testBit i && !b.testBit i) n) := by
  apply b_ext
  intro i hi
  rw [b_and, b_xor, b_m1 i hi, bt_nI hi, bt_nI hi, bt_nI hi, bs_tb]
  by_cases h : i < n
  · simp [h]
  · rw [tb_ge ha (by omega)]; simp [h]
theorem or_bit {q : Nat → Bool} {n g : Nat} (hg : g < n) : nI (bs q n) ||| nI (2 ^ g) = nI (bs (fun i => q i || decide (g = i)) n) := by
  rw [fa_or]
  congr 1
  apply bs_eq (Nat.or_lt_two_pow (bs_lt _ _) (Nat.pow_lt_pow_right (by omega) hg))
  intro i hi
  rw [Nat.testBit_or, bs_tb, Nat.testBit_two_pow]
  simp [hi]
theorem and_bit {q : Nat → Bool} {n g : Nat} (hn : n ≤ 31) : nI (bs q n) &&& (nI (2 ^ g) ^^^ (-1)) = nI (bs (fun i => q i && !decide (g = i)) n) := by
  rw [and_not (bs_lt q n) hn]
  congr 1
  apply bs_congr
  intro i hi
  rw [bs_tb, Nat.testBit_two_pow]
  simp [hi]
theorem mul10 (a : Nat) : nI a * 10 = nI (10 * a) := by rw [show (10 : Int32) = nI 10 from rfl, pk_mul, Nat.mul_comm]
section GOODS2
variable {m m' : jx_Mem} {G K : Nat} {O C : Nat → Nat} {N : Nat → Nat → Nat}
theorem ag_33 (hG : G < 10) (hN : ∀ t, N G t = 0) : ∀ (k t : Nat), t + k = 6 → ∀ m : jx_Mem, m.1 9 4 = nI G → (∀ t' v, t' < 6 → v < 10 → m.1 13 (10 * t' + v) = nI (bs (fun g => N g t' == v) (if t' < t then G + 1 else G))) →
    ∃ m', f_Goods_addGood_33 (nI t) m = some (nI G, m') ∧ m'.1 9 4 = nI (G + 1) ∧ (∀ t' v, t' < 6 → v < 10 → m'.1 13 (10 * t' + v) = nI (bs (fun g => N g t' == v) (G + 1))) ∧ sm (fun q j => q = 13 ∨ (q = 9 ∧ j = 4)) m m' := by
  intro k
  induction k with
  | zero =>
    intro t ht m h1 h2
    have ht2 : t = 6 := by omega
    subst ht2
    refine ⟨jx_w1 m 9 4 (nI (G + 1)), ?_, w1_same _ _ _ _, fun t' v ht' hv => ?_, sm_w1 (by omega)⟩
    · rw [e_Goods_addGood_33]
      refine (ifp (by decide)).trans ?_
      dsimp only
      rw [w1_same, h1, nI_1, nI_pred]
    · rw [w1_cell (by omega), h2 t' v ht' hv, if_pos ht']
  | succ k ih =>
    intro t ht m h1 h2
    obtain ⟨m', r1, r2, r3, r4⟩ := ih (t + 1) (by omega) (jx_w1 m 13 (10 * t) (nI (bs (fun g => N g t == 0) (G + 1)))) (by rw [w1_cell (by omega)]; exact h1) (by
      intro t' v ht' hv
      rw [w1_rd]
      by_cases c : 10 * t' + v = 10 * t
      · have c1 : t' = t := by omega
        have c2 : v = 0 := by omega
        subst c1 c2
        rw [if_pos ⟨rfl, c⟩, if_pos (by omega)]
      · rw [if_neg (fun z => c z.2), h2 t' v ht' hv]
        by_cases c1 : t' = t
        · subst c1
          have c2 : v ≠ 0 := by omega
          rw [if_neg (by omega), if_pos (by omega), ← bs_f]
          rw [hN]
          simpa using fun z => c2 z.symm
        · by_cases c2 : t' < t
          · rw [if_pos c2, if_pos (by omega)]
          · rw [if_neg c2, if_neg (by omega)])
    refine ⟨m', ?_, r2, r3, r4.pre (by omega)⟩
    rw [← r1, e_Goods_addGood_33]
    refine (ifn (nI_ge (a := t) (b := 6) (by omega) (by omega))).trans ?_
    have h3 := h2 t 0 (by omega) (by omega)
    rw [if_neg (by omega), Nat.add_zero] at h3
    simp only [mul10, in_nI (show 10 * t < 60 by omega) (by omega), nI_cl (show 10 * t < 2 ^ 31 by omega), h3, h1, or_bs_t (p := fun g => N g t == 0) (n := G) (by omega) (by rw [hN]; rfl), nI_1]
    rfl
theorem F_good (h : goodsF m G K O C N) (gg : gGoods G K O C N) (x : Int32) : ∃ m', sm (fun q j => q = 10 ∨ q = 13 ∨ (q = 9 ∧ j = 4)) m m' ∧
    (((1 ≤ x.toInt ∧ x.toInt ≤ 9) ∧ G < 10 ∧ f_F_good x m = some (nI G, m') ∧ goodsF m' (G + 1) K (up O G (jn x)) C N) ∨ (¬ ((1 ≤ x.toInt ∧ x.toInt ≤ 9) ∧ G < 10) ∧ f_F_good x m = some (-1, m') ∧ m' = m)) := by
  rw [e_F_good, e_Goods_addGood]
  by_cases hx : 1 ≤ x.toInt ∧ x.toInt ≤ 9
  · by_cases hG : G < 10
    · obtain ⟨a, ha, rfl⟩ := nI_get (b := 10) (show 0 ≤ x.toInt by omega) (show x.toInt < ((10 : Nat) : Int) by omega)
      have hN : ∀ t, N G t = 0 := fun t => gg.2.2.2.2.2 G t (Or.inl (Nat.le_refl _))
      obtain ⟨m', r1, r2, r3, r4⟩ := ag_33 hG hN 6 0 (by omega) (jx_w1 m 10 G (nI a)) (by rw [w1_cell (by omega)]; exact h.1) (by
        intro t' v ht' hv
        rw [w1_cell (by omega), if_neg (by omega)]
        exact h.2.2.2.2.2 t' v ht' hv)
      have q1 : nI G < 10 := nI_lt (b := 10) hG (by omega)
      refine ⟨m', sm.pre (a := 10) (k := G) (v := nI a) (r4.mono (by omega)) (by omega), Or.inl ⟨hx, hG, ?_, r2, ?_, fun g hg => ?_, fun t ht => ?_, fun g t hg ht => ?_, r3⟩⟩
      · simp [s_wi_t (lo := 1) (hi := 9) hx, h.1, q1, in_nI hG (by omega), nI_cl (show G < 2 ^ 31 by omega)]
        rw [show (0 : Int32) = nI 0 from rfl, r1]
        rfl
      · rw [(r4 9 5 (by omega)).1, w1_cell (by omega)]; exact h.2.1
      · rw [(r4 10 g (by omega)).1, w1_rd, jn_nI (by omega)]
        unfold up
        by_cases c : g = G
        · rw [if_pos ⟨rfl, c⟩, if_pos c]
        · rw [if_neg (fun z => c z.2), if_neg c]; exact h.2.2.1 g (by omega)
      · rw [(r4 11 t (by omega)).1, w1_cell (by omega)]; exact h.2.2.2.1 t ht
      · rw [(r4 12 _ (by omega)).1, w1_cell (by omega)]; exact h.2.2.2.2.1 g t hg ht
    · have q1 : ¬ nI G < 10 := nI_nlt (b := 10) (by omega) (by have := gg.1; omega)
      refine ⟨m, sm.rf, Or.inr ⟨fun q => hG q.2, ?_, rfl⟩⟩
      simp [s_wi_t (lo := 1) (hi := 9) hx, h.1, q1, e_Goods_addGood_19]
  · refine ⟨m, sm.rf, Or.inr ⟨fun q => hx q.1, ?_, rfl⟩⟩
    simp [s_wi_f (lo := 1) (hi := 9) hx, e_Goods_addGood_19]
theorem M_good (h : goodsM m G K O C N) (gg : gGoods G K O C N) (x : Int32) : ∃ m', sm (fun q j => q = 70 ∨ (q = 63 ∧ (j = 0 ∨ j = 10))) m m' ∧
    (((1 ≤ x.toInt ∧ x.toInt ≤ 9) ∧ G < 10 ∧ f_M_good x m = some (nI G, m') ∧ goodsM m' (G + 1) K (up O G (jn x)) C N) ∨ (¬ ((1 ≤ x.toInt ∧ x.toInt ≤ 9) ∧ G < 10) ∧ f_M_good x m = some (-1, m') ∧ goodsM m' G K O C N)) := by
  have h1 := goodsM_th h (v := 0)
  have s1 : sm (fun q j => q = 70 ∨ (q = 63 ∧ (j = 0 ∨ j = 10))) m (jx_w1 m 63 0 0) := sm_w1 (by omega)
  rw [e_M_good]
  dsimp only
  by_cases hx : 1 ≤ x.toInt ∧ x.toInt ≤ 9
  · by_cases hG : G < 10
    · obtain ⟨a, ha, rfl⟩ := nI_get (b := 10) (show 0 ≤ x.toInt by omega) (show x.toInt < ((10 : Nat) : Int) by omega)
      have q1 : ¬ nI G = 10 := fun z => by have := (nI_eq (b := 10) (by omega) (by omega)).mp z; omega
      refine ⟨jx_w1 (jx_w1 (jx_w1 m 63 0 0) 70 G (nI a)) 63 10 (nI (G + 1)), (s1.w1 (by omega)).w1 (by omega), Or.inl ⟨hx, hG, ?_, w1_same _ _ _ _, ?_, fun g hg => ?_, h1.2.2.2.1, h1.2.2.2.2⟩⟩
      · simp [s_in_t (lo := 1) (hi := 9) hx, h1.1, q1, in_nI hG (by omega), nI_cl (show G < 2 ^ 31 by omega), w1_rd, nI_1, nI_pred, h.1]
      · rw [w1_idx (by omega), w1_cell (by omega)]; exact h1.2.1
      · rw [w1_cell (by omega), w1_rd, jn_nI (by omega)]
        unfold up
        by_cases c : g = G
        · rw [if_pos ⟨rfl, c⟩, if_pos c]
        · rw [if_neg (fun z => c z.2), if_neg c]; exact h1.2.2.1 g (by omega)
    · have q1 : nI G = 10 := by have := gg.1; rw [show G = 10 by omega]; rfl
      refine ⟨_, s1, Or.inr ⟨fun q => hG q.2, ?_, h1⟩⟩
      simp [s_in_t (lo := 1) (hi := 9) hx, h1.1, q1, e_M_good_26]
  · refine ⟨_, s1, Or.inr ⟨fun q => hx q.1, ?_, h1⟩⟩
    simp [s_in_f (lo := 1) (hi := 9) hx, e_M_good_26]
theorem F_test (h : goodsF m G K O C N) (gg : gGoods G K O C N) (x : Int32) : ∃ m', sm (fun q j => q = 11 ∨ (q = 9 ∧ j = 5)) m m' ∧
    (((1 ≤ x.toInt ∧ x.toInt ≤ 9) ∧ K < 6 ∧ f_F_test x m = some (nI K, m') ∧ goodsF m' G (K + 1) O (up C K (jn x)) N) ∨ (¬ ((1 ≤ x.toInt ∧ x.toInt ≤ 9) ∧ K < 6) ∧ f_F_test x m = some (-1, m') ∧ m' = m)) := by
  rw [e_F_test, e_Goods_addTest]
  by_cases hx : 1 ≤ x.toInt ∧ x.toInt ≤ 9
  · by_cases hG : K < 6
    · obtain ⟨a, ha, rfl⟩ := nI_get (b := 10) (show 0 ≤ x.toInt by omega) (show x.toInt < ((10 : Nat) : Int) by omega)
      have q1 : nI K < 6 := nI_lt (b := 6) hG (by omega)
      refine ⟨jx_w1 (jx_w1 m 11 K (nI a)) 9 5 (nI (K + 1)), (sm_w1 (by omega)).w1 (by omega), Or.inl ⟨hx, hG, ?_, ?_, w1_same _ _ _ _, h.2.2.1, fun g hg => ?_, h.2.2.2.2.1, h.2.2.2.2.2⟩⟩
      · simp [s_wi_t (lo := 1) (hi := 9) hx, h.2.1, q1, in_nI hG (by omega), nI_cl (show K < 2 ^ 31 by omega), w1_rd, nI_1, nI_pred]
      · rw [w1_idx (by omega), w1_cell (by omega)]; exact h.1
      · rw [w1_cell (by omega), w1_rd, jn_nI (by omega)]
        unfold up
        by_cases c : g = K
        · rw [if_pos ⟨rfl, c⟩, if_pos c]
        · rw [if_neg (fun z => c z.2), if_neg c]; exact h.2.2.2.1 g (by omega)
    · have q1 : ¬ nI K < 6 := nI_nlt (b := 6) (by omega) (by have := gg.2.1; omega)
      refine ⟨_, sm.rf, Or.inr ⟨fun q => hG q.2, ?_, rfl⟩⟩
      simp [s_wi_t (lo := 1) (hi := 9) hx, h.2.1, q1, e_Goods_addTest_19]
  · refine ⟨_, sm.rf, Or.inr ⟨fun q => hx q.1, ?_, rfl⟩⟩
    simp [s_wi_f (lo := 1) (hi := 9) hx, e_Goods_addTest_19]
theorem M_test (h : goodsM m G K O C N) (gg : gGoods G K O C N) (x : Int32) : ∃ m', sm (fun q j => q = 71 ∨ (q = 63 ∧ (j = 0 ∨ j = 12))) m m' ∧
    (((1 ≤ x.toInt ∧ x.toInt ≤ 9) ∧ K < 6 ∧ f_M_test x m = some (nI K, m') ∧ goodsM m' G (K + 1) O (up C K (jn x)) N) ∨ (¬ ((1 ≤ x.toInt ∧ x.toInt ≤ 9) ∧ K < 6) ∧ f_M_test x m = some (-1, m') ∧ goodsM m' G K O C N)) := by
  have h1 := goodsM_th h (v := 0)
  have s1 : sm (fun q j => q = 71 ∨ (q = 63 ∧ (j = 0 ∨ j = 12))) m (jx_w1 m 63 0 0) := sm_w1 (by omega)
  rw [e_M_test]
  dsimp only
  by_cases hx : 1 ≤ x.toInt ∧ x.toInt ≤ 9
  · by_cases hG : K < 6
    · obtain ⟨a, ha, rfl⟩ := nI_get (b := 10) (show 0 ≤ x.toInt by omega) (show x.toInt < ((10 : Nat) : Int) by omega)
      have q1 : ¬ nI K = 6 := fun z => by have := (nI_eq (b := 6) (by omega) (by omega)).mp z; omega
      refine ⟨jx_w1 (jx_w1 (jx_w1 m 63 0 0) 71 K (nI a)) 63 12 (nI (K + 1)), (s1.w1 (by omega)).w1 (by omega), Or.inl ⟨hx, hG, ?_, ?_, w1_same _ _ _ _, h1.2.2.1, fun g hg => ?_, h1.2.2.2.2⟩⟩
      · simp [s_in_t (lo := 1) (hi := 9) hx, h1.2.1, q1, in_nI hG (by omega), nI_cl (show K < 2 ^ 31 by omega), w1_rd, nI_1, nI_pred, h.2.1]
      · rw [w1_idx (by omega), w1_cell (by omega)]; exact h1.1
      · rw [w1_cell (by omega), w1_rd, jn_nI (by omega)]
        unfold up
        by_cases c : g = K
        · rw [if_pos ⟨rfl, c⟩, if_pos c]
        · rw [if_neg (fun z => c z.2), if_neg c]; exact h1.2.2.2.1 g (by omega)
    · have q1 : nI K = 6 := by have := gg.2.1; rw [show K = 6 by omega]; rfl
      refine ⟨_, s1, Or.inr ⟨fun q => hG q.2, ?_, h1⟩⟩
      simp [s_in_t (lo := 1) (hi := 9) hx, h1.2.1, q1, e_M_test_26]
  · refine ⟨_, s1, Or.inr ⟨fun q => hx q.1, ?_, h1⟩⟩
    simp [s_in_f (lo := 1) (hi := 9) hx, e_M_test_26]
theorem s_setAnswer (h : goodsF m G K O C N) (gg : gGoods G K O C N) {g t v : Nat} (hg : g < G) (ht : t < K) (hv : v < 10) : ∃ m', f_Goods_setAnswer (nI g) (nI t) (nI v) m = some (nI (N g t), m') ∧ goodsF m' G K O C (u2 N g t v) ∧ sm (fun q _ => q = 12 ∨ q = 13) m m' := by
  have hG := gg.1
  have hK := gg.2.1
  have hw := gg.2.2.2.2.1 g t
  have e1 := h.2.2.2.2.1 g t (by omega) (by omega)
  have e2 := h.2.2.2.2.2 t (N g t) (by omega) (by omega)
  have e3 := h.2.2.2.2.2 t v (by omega) hv
  refine ⟨jx_w1 (jx_w1 (jx_w1 m 13 (10 * t + N g t) (nI (bs (fun i => (N i t == N g t) && !decide (g = i)) G))) 13 (10 * t + v) (nI (bs (fun i => (if N g t = v then ((N i t == N g t) && !decide (g = i)) else N i t == v) || decide (g = i)) G))) 12 (6 * g + t) (nI v), ?_, ⟨h.1, h.2.1, h.2.2.1, h.2.2.2.1, fun g' t' hg' ht' => ?_, fun t' v' ht' hv' => ?_⟩, ((sm_w1 (by omega)).w1 (by omega)).w1 (by omega)⟩
  · rw [e_Goods_setAnswer, s_isGood h gg, jb_t (in_N hg (by omega))]
    have e4 : (jx_w1 m 13 (10 * t + N g t) (nI (bs (fun i => (N i t == N g t) && !decide (g = i)) G))).1 13 (10 * t + v) = nI (bs (fun i => if N g t = v then ((N i t == N g t) && !decide (g = i)) else N i t == v) G) := by
      rw [w1_rd]
      by_cases c : N g t = v
      · rw [if_pos ⟨rfl, by omega⟩]
        simp only [if_pos c]
      · rw [if_neg (by omega), e3]
        simp only [if_neg c]
    simp only [Option.bind_some, s_isTest h gg, jb_t (in_N ht (show K < 2 ^ 31 by omega)), s_wi_t (m := m) (x := nI v) (lo := 0) (hi := 9) (by rw [nI_toInt (by omega)]; show (0 : Int) ≤ v ∧ (v : Int) ≤ 9; omega), ix6, ix10, e1, in_nI (show 6 * g + t < 60 by omega) (by omega), nI_cl (show 6 * g + t < 2 ^ 31 by omega), in_nI (show 10 * t + N g t < 60 by omega) (by omega), nI_cl (show 10 * t + N g t < 2 ^ 31 by omega), in_nI (show 10 * t + v < 60 by omega) (by omega), nI_cl (show 10 * t + v < 2 ^ 31 by omega), e2, sh1 (show g < 31 by omega), and_bit (show G ≤ 31 by omega), e4, or_bit hg]
    rfl
  · rw [w1_rd]
    unfold u2
    by_cases c : g' = g ∧ t' = t
    · rw [if_pos c, if_pos ⟨rfl, by omega⟩]
    · rw [if_neg c, if_neg (by omega)]
      exact h.2.2.2.2.1 g' t' hg' ht'
  · rw [w1_cell (by omega), w1_rd]
    by_cases c : t' = t
    · subst c
      by_cases c1 : v' = v
      · subst c1
        rw [if_pos ⟨rfl, rfl⟩]
        congr 1
        apply bs_congr
        intro i hi
        unfold u2
        by_cases d : i = g
        · subst d; simp
        · have d2 : ¬ g = i := fun z => d z.symm
          by_cases e : N g t' = v'
          · simp [d, d2, e]
          · simp [d, d2, e]
      · rw [if_neg (by omega), w1_rd]
        by_cases c2 : v' = N g t'
        · rw [if_pos ⟨rfl, by omega⟩]
          congr 1
          apply bs_congr
          intro i hi
          unfold u2
          by_cases d : i = g
          · subst d
            have : ¬ v = v' := fun z => c1 z.symm
            simp [this]
          · have d2 : ¬ g = i := fun z => d z.symm
            simp [d, d2, c2]
        · rw [if_neg (by omega), h.2.2.2.2.2 t' v' ht' hv']
          congr 1
          apply bs_congr
          intro i hi
          unfold u2
          by_cases d : i = g
          · subst d
            have hA : ¬ v = v' := fun z => c1 z.symm
            have hB : ¬ N i t' = v' := fun z => c2 z.symm
            rw [if_pos ⟨rfl, rfl⟩, beq_false_of_ne hB, beq_false_of_ne hA]
          · simp [d]
    · rw [if_neg (by omega), w1_rd, if_neg (by omega), h.2.2.2.2.2 t' v' ht' hv']
      congr 1
      apply bs_congr
      intro i hi
      unfold u2
      simp [c]
end GOODS2
