/-! tree, asks: both sides -/
theorem fill_lp (L : Int32 → jx_Mem → Option jx_Mem) (c n : Nat) (v : Int32) (he : ∀ m, L (nI n) m = some m) (hs : ∀ i m, i < n → L (nI i) m = L (nI (i + 1)) (jx_w1 m c i v)) : ∀ k i, i + k = n → ∀ m, ∃ m', L (nI i) m = some m' ∧ (∀ j, m'.1 c j = if i ≤ j ∧ j < n then v else m.1 c j) ∧ sm (fun a j => a = c ∧ j < n) m m' := by
  intro k
  induction k with
  | zero =>
    intro i hi m
    have hi2 : i = n := by omega
    subst hi2
    exact ⟨m, he m, fun j => by rw [if_neg (by omega)], sm.rf⟩
  | succ k ih =>
    intro i hi m
    obtain ⟨m', r1, r2, r3⟩ := ih (i + 1) (by omega) (jx_w1 m c i v)
    refine ⟨m', by rw [hs i m (by omega)]; exact r1, fun j => ?_, r3.pre ⟨rfl, by omega⟩⟩
    rw [r2 j]
    by_cases d : j = i
    · subst d
      rw [if_neg (by omega), if_pos ⟨Nat.le_refl _, by omega⟩, w1_same]
    · rw [w1_idx d]
      by_cases e : i + 1 ≤ j ∧ j < n
      · rw [if_pos e, if_pos (by omega)]
      · rw [if_neg e, if_neg (by omega)]
theorem s_fill15 (v : Int32) (m : jx_Mem) : ∃ m', f_Arr_fill_r15 v m = some m' ∧ (∀ j, j < 1024 → m'.1 15 j = v) ∧ sm (fun a j => a = 15 ∧ j < 1024) m m' := by
  obtain ⟨m', r1, r2, r3⟩ := fill_lp (fun i m => f_Arr_fill_5_r15 v i 1024 m) 15 1024 v (by
    intro m
    rw [e_Arr_fill_5_r15]
    exact ifp (by decide)) (by
    intro i m hi
    rw [e_Arr_fill_5_r15]
    refine (ifn (nI_ge (b := 1024) hi (by omega))).trans ?_
    rw [in_nI hi (by omega), nI_cl (by omega), nI_1]
    rfl) 1024 0 (by omega) m
  refine ⟨m', by rw [e_Arr_fill_r15]; exact r1, fun j hj => ?_, r3⟩
  rw [r2 j, if_pos ⟨Nat.zero_le _, hj⟩]
theorem mxf_ge {f : Nat → Nat} {i : Nat} : ∀ {n}, i < n → f i ≤ mxf f n := by
  intro n
  induction n with
  | zero => intro h; omega
  | succ n ih =>
    intro h
    show f i ≤ max (mxf f n) (f n)
    by_cases c : i = n
    · subst c; omega
    · have := ih (by omega); omega
section ASKS
variable {m m' : jx_Mem} {G K : Nat} {O C : Nat → Nat} {N : Nat → Nat → Nat}
theorem s_grow (h : goodsF m G K O C N) (gg : gGoods G K O C N) {S : Nat} (hS : S < 2 ^ G) (h0 : 0 < S) : ∃ m', f_Tree_grow (nI S) m = some (nI (tT N G K O C S).1, m') ∧ memo m' N G K O C ∧ m'.1 15 S ≠ -1 ∧ sm w156 m m' := by
  have hG := gg.1
  have hK := gg.2.1
  obtain ⟨m1, q1, q2, q3⟩ := s_fill15 (-1) m
  have h1 : goodsF m1 G K O C N := goodsF_sm h q3 (by intro a k; unfold dGF; omega)
  have hp := pS_le (N := N) (G := G) (K := K) S
  obtain ⟨m2, r1, r2, r3, r4, r5⟩ := least_ok gg _ S 0 120 m1 rfl (by omega) (by omega) hS h0 h1 (fun R _ hR hn => absurd (q2 R (g1024 hG hR)) hn)
  refine ⟨m2, ?_, r2, r3, (q3.mono (by unfold w156; omega)).tr r4⟩
  rw [e_Tree_grow, q1, Option.bind_some]
  show (f_Tree_least 120 (nI S) (nI 0) m1).bind _ = _
  rw [r1]
  rfl
theorem s_first (hG : G ≤ 10) (hm : memo m N G K O C) {S : Nat} (hS : S < 2 ^ G) (h0 : 0 < S) (hf : m.1 15 S ≠ -1) : f_Tree_firstTest (nI S) m = some (oI (tT N G K O C S).2.1, m) := by
  have hS2 := g1024 hG hS
  rw [e_Tree_firstTest, s_isSet hS2, Option.bind_some]
  refine (ifn ne10).trans ?_
  rw [in_nI hS2 (by omega), nI_cl (by omega), cond_true]
  refine (ifn hf).trans ?_
  rw [cond_true, e_Tree_firstTest_27, (hm S h0 hS hf).2.1]
/-- coppers on the way of a good -/
def pathC (N : Nat → Nat → Nat) (G K : Nat) (O C : Nat → Nat) (g : Nat) : Nat → Nat → Nat
  | 0, _ => 0
  | f + 1, S => match (tT N G K O C S).2.1 with
    | none => 0
    | some t => C t + pathC N G K O C g f (pt N G S t (N g t))
/-- its tests, and what is left -/
def pathL (N : Nat → Nat → Nat) (G K : Nat) (O C : Nat → Nat) (g : Nat) : Nat → Nat → List Int64 × Nat
  | 0, S => ([], S)
  | f + 1, S => match (tT N G K O C S).2.1 with
    | none => ([], S)
    | some t => ((nI t).toInt64 :: (pathL N G K O C g f (pt N G S t (N g t))).1, (pathL N G K O C g f (pt N G S t (N g t))).2)
theorem pathL_len (g : Nat) : ∀ f S, (pathL N G K O C g f S).1.length ≤ f := by
  intro f
  induction f with
  | zero => intro S; exact Nat.le_refl _
  | succ f ih =>
    intro S
    unfold pathL
    cases (tT N G K O C S).2.1 with
    | none => exact Nat.zero_le _
    | some t => have := ih (pt N G S t (N g t)); simp only [List.length_cons]; omega
theorem pathC_le (gg : gGoods G K O C N) (g : Nat) : ∀ f S, S < 2 ^ G → S.testBit g = true → g < G → pathC N G K O C g f S ≤ 9 * f := by
  intro f
  induction f with
  | zero => intro S _ _ _; exact Nat.zero_le _
  | succ f ih =>
    intro S hS hs hg
    have h0 : 0 < S := by
      rcases Nat.eq_zero_or_pos S with z | z
      · rw [z] at hs; simp at hs
      · exact z
    unfold pathC
    cases hc : (tT N G K O C S).2.1 with
    | none => exact Nat.zero_le _
    | some t =>
      have := (tT_ok gg hS h0).2.2 t hc
      have h1 := (gg.2.2.2.1 t this.1).2
      have h2 := ih (pt N G S t (N g t)) (pt_lt _ _ _) (pt_in hg hs rfl) hg
      show C t + _ ≤ _
      omega
theorem tT_shape (hG : G ≤ 10) (hK : K ≤ 6) {S : Nat} (hS : S < 2 ^ G) (h0 : 0 < S) : ((tT N G K O C S).2.1 = none → (tT N G K O C S).2.2 = 0) ∧ ∀ t, (tT N G K O C S).2.1 = some t → (tT N G K O C S).2.2 = C t + mxP N G S t (fun R => (tT N G K O C R).2.2) 10 := by
  rw [tT_eq hG hK hS h0]
  have key : ∀ n, ((stT N G O C (tT N G K O C) S n).2.1 = none → (stT N G O C (tT N G K O C) S n).2.2 = 0) ∧ ∀ t, (stT N G O C (tT N G K O C) S n).2.1 = some t → (stT N G O C (tT N G K O C) S n).2.2 = C t + mxP N G S t (fun R => (tT N G K O C R).2.2) 10 := by
    intro n
    induction n with
    | zero => exact ⟨fun _ => rfl, fun t h => by cases h⟩
    | succ n ih =>
      rw [stT_s]
      split
      · exact ⟨fun h => (by cases h), fun t h => by cases h; rfl⟩
      · exact ih
  exact key K
theorem worst_path (gg : gGoods G K O C N) : ∀ f S, S < 2 ^ G → 0 < S → pS N G K S ≤ f → mxf (fun g => if S.testBit g = true then pathC N G K O C g f S else 0) G = (tT N G K O C S).2.2 := by
  have hG := gg.1
  have hK := gg.2.1
  intro f
  induction f with
  | zero =>
    intro S hS h0 hp
    have h1 := tT_bd gg 0 S hS h0 hp
    have h2 : mxf (fun g => if S.testBit g = true then pathC N G K O C g 0 S else 0) G ≤ 0 := mxf_le (fun v _ => by split <;> exact Nat.le_refl _)
    omega
  | succ f ih =>
    intro S hS h0 hp
    obtain ⟨s1, s2⟩ := tT_shape (N := N) (O := O) (C := C) hG hK hS h0
    cases hc : (tT N G K O C S).2.1 with
    | none =>
      have h2 : mxf (fun g => if S.testBit g = true then pathC N G K O C g (f + 1) S else 0) G ≤ 0 := mxf_le (fun v _ => by
        split
        · unfold pathC; rw [hc]; exact Nat.le_refl _
        · exact Nat.le_refl _)
      have := s1 hc
      omega
    | some t =>
      obtain ⟨ht, hpr⟩ := (tT_ok gg hS h0).2.2 t hc
      have e1 : ∀ g, pathC N G K O C g (f + 1) S = C t + pathC N G K O C g f (pt N G S t (N g t)) := fun g => by
        show (match (tT N G K O C S).2.1 with | none => 0 | some t => C t + pathC N G K O C g f (pt N G S t (N g t))) = _
        rw [hc]
      have hR : ∀ v, pt N G S t v ≠ 0 → mxf (fun g => if (pt N G S t v).testBit g = true then pathC N G K O C g f (pt N G S t v) else 0) G = (tT N G K O C (pt N G S t v)).2.2 := fun v hv => by
        have := pS_lt hG hS h0 ht hpr hv
        exact ih _ (pt_lt _ _ _) (by omega) (by omega)
      rw [s2 t hc]
      apply Nat.le_antisymm
      · apply mxf_le
        intro g hg
        split
        · rename_i sg
          rw [e1]
          have hin := pt_in (N := N) (t := t) hg sg rfl
          have hnz : pt N G S t (N g t) ≠ 0 := fun z => by rw [z] at hin; simp at hin
          have h1 := mxf_ge (f := fun g' => if (pt N G S t (N g t)).testBit g' = true then pathC N G K O C g' f (pt N G S t (N g t)) else 0) hg
          rw [hR _ hnz] at h1
          rw [if_pos hin] at h1
          have h2 := mxf_ge (f := fun v => if pt N G S t v = 0 then 0 else (tT N G K O C (pt N G S t v)).2.2) (n := 10) (i := N g t) (by have := gg.2.2.2.2.1 g t; omega)
          rw [if_neg hnz] at h2
          unfold mxP
          dsimp only
          omega
        · exact Nat.zero_le _
      · have hle : ∀ v, v < 10 → (if pt N G S t v = 0 then 0 else (tT N G K O C (pt N G S t v)).2.2) + C t ≤ mxf (fun g => if S.testBit g = true then pathC N G K O C g (f + 1) S else 0) G := by
          intro v hv
          obtain ⟨l1, l2⟩ := low_lt hG hS h0
          have hlow := mxf_ge (f := fun g => if S.testBit g = true then pathC N G K O C g (f + 1) S else 0) l1
          rw [if_pos l2, e1] at hlow
          by_cases c : pt N G S t v = 0
          · rw [if_pos c]; omega
          · rw [if_neg c, ← hR v c]
            have h3 : mxf (fun g => if (pt N G S t v).testBit g = true then pathC N G K O C g f (pt N G S t v) else 0) G ≤ mxf (fun g => if S.testBit g = true then pathC N G K O C g (f + 1) S else 0) G - C t := by
              apply mxf_le
              intro g hg
              split
              · rename_i sg
                obtain ⟨_, p2, p3⟩ := pt_sub sg
                have h4 := mxf_ge (f := fun g => if S.testBit g = true then pathC N G K O C g (f + 1) S else 0) hg
                rw [if_pos p2, e1, p3] at h4
                omega
              · exact Nat.zero_le _
            omega
        have hx : mxP N G S t (fun R => (tT N G K O C R).2.2) 10 ≤ mxf (fun g => if S.testBit g = true then pathC N G K O C g (f + 1) S else 0) G - C t := by
          unfold mxP
          apply mxf_le
          intro v hv
          have := hle v hv
          dsimp only
          omega
        have := hle 0 (by omega)
        omega
theorem s_costFor (h : goodsF m G K O C N) (gg : gGoods G K O C N) (hm : memo m N G K O C) {g : Nat} (hg : g < G) : ∀ f S x, f ≤ 6 → S < 2 ^ G → S.testBit g = true → m.1 15 S ≠ -1 → x ≤ 54 - 9 * f → f_Tree_costFor_8 (nI g) (nI S) (nI x) (nI (6 - f)) m = some (nI (x + pathC N G K O C g f S), m) := by
  have hG := gg.1
  intro f
  induction f with
  | zero =>
    intro S x _ hS hs hf _
    rw [e_Tree_costFor_8]
    refine (ifp (by decide)).trans ?_
    rw [e_Tree_costFor_72]
    rfl
  | succ f ih =>
    intro S x hf6 hS hs hf hx
    have h0 : 0 < S := by
      rcases Nat.eq_zero_or_pos S with z | z
      · rw [z] at hs; simp at hs
      · exact z
    rw [e_Tree_costFor_8]
    refine (ifn (nI_ge (a := 6 - (f + 1)) (b := 6) (by omega) (by omega))).trans ?_
    rw [s_first hG hm hS h0 hf, Option.bind_some]
    unfold pathC
    cases hc : (tT N G K O C S).2.1 with
    | none =>
      refine (ifnp rfl).trans ?_
      rw [e_Tree_costFor_72]
      rfl
    | some t =>
      obtain ⟨ht, hpr⟩ := (tT_ok gg hS h0).2.2 t hc
      have hK := gg.2.1
      have hin := pt_in (N := N) (t := t) hg hs rfl
      have hnz : pt N G S t (N g t) ≠ 0 := fun z => by rw [z] at hin; simp at hin
      have hC := (gg.2.2.2.1 t ht).2
      have hN := gg.2.2.2.2.1 g t
      refine (ifnn (oI_ne (show t < 2 ^ 31 by omega))).trans ?_
      show (f_Goods_costOf (nI t) m).bind _ = _
      rw [s_costOf h gg ht, Option.bind_some]
      show (f_Goods_answerOf (nI g) (nI t) m).bind _ = _
      rw [s_answerOf h gg hg ht, Option.bind_some]
      show (f_Goods_part (nI S) (nI t) (nI (N g t)) m).bind _ = _
      rw [s_part h gg hS ht (by omega), Option.bind_some]
      dsimp only
      rw [nI_add, nI_1, show 6 - (f + 1) + 1 = 6 - f by omega, ih _ _ (by omega) (pt_lt _ _ _) hin ((hm S h0 hS hf).2.2 t _ hc hnz) (by omega), Nat.add_assoc]
theorem s_dearest (h : goodsF m G K O C N) (gg : gGoods G K O C N) (hm : memo m N G K O C) {S : Nat} (hS : S < 2 ^ G) (h0 : 0 < S) (hf : m.1 15 S ≠ -1) : f_Tree_dearest (nI S) m = some (nI (tT N G K O C S).2.2, m) := by
  have hG := gg.1
  rw [e_Tree_dearest]
  have hle : ∀ n, n ≤ G → mxf (fun g => if S.testBit g = true then pathC N G K O C g 6 S else 0) n ≤ 54 := fun n hn => mxf_le (fun v hv => by
    split
    · rename_i q; exact pathC_le gg v 6 S hS q (by omega)
    · exact Nat.zero_le _)
  have h1 := lp_up (fun i x => f_Tree_dearest_4 (nI S) x i m) (fun n => nI (mxf (fun g => if S.testBit g = true then pathC N G K O C g 6 S else 0) n)) G (by
    intro n hn
    rw [e_Tree_dearest_4, e_Goods_goods, Option.bind_some, h.1]
    refine (ifn (nI_ge (a := n) (b := G) hn (by omega))).trans ?_
    have e1 : mxf (fun g => if S.testBit g = true then pathC N G K O C g 6 S else 0) (n + 1) = max (mxf (fun g => if S.testBit g = true then pathC N G K O C g 6 S else 0) n) (if S.testBit n = true then pathC N G K O C n 6 S else 0) := rfl
    rw [e1]
    by_cases c : S.testBit n = true
    · show (f_F_has (nI S) (nI n) m).bind _ = _
      rw [s_has_t (lt31 hS hG) (by omega) c, Option.bind_some, if_pos c]
      refine (ifn ne10).trans ?_
      have h2 := s_costFor h gg hm hn 6 S 0 (by omega) hS c hf (by omega)
      rw [e_Tree_costFor]
      show (f_Tree_costFor_8 (nI n) (nI S) (nI 0) (nI (6 - 6)) m).bind _ = _
      have h3 := hle n (by omega)
      have h4 := pathC_le gg n 6 S hS c hn
      rw [h2, Option.bind_some, e_Tree_dearest_34, nI_1, Nat.zero_add, mx_nI (by omega) (by omega)]
    · have c2 : S.testBit n = false := by simpa using c
      show (f_F_has (nI S) (nI n) m).bind _ = _
      rw [s_has_f (lt31 hS hG) (by omega) c2, Option.bind_some, if_neg c]
      refine (ifp eq00).trans ?_
      rw [e_Tree_dearest_34, nI_1, Nat.max_eq_left (Nat.zero_le _)]) 0 (Nat.zero_le _)
  refine h1.trans ?_
  rw [e_Tree_dearest_4, e_Goods_goods, Option.bind_some, h.1]
  refine (ifp (nI_le (Nat.le_refl _) (by omega))).trans ?_
  rw [worst_path gg 6 S hS h0 (Nat.le_trans (pS_le S) gg.2.1)]
def wTr (a k : Nat) : Prop := a = 15 ∨ a = 16 ∨ wRF a k
def wTrM (a k : Nat) : Prop := a = 73 ∨ a = 74 ∨ a = 75 ∨ wTM a k
theorem F_tree (h : goodsF m G K O C N) (gg : gGoods G K O C N) (x : Int32) : ∃ m', sm wTr m m' ∧
    ((cG x G ∧ f_F_tree x m = some (nI (tT N G K O C (jn x)).1, m') ∧ rF m' [(oI (tT N G K O C (jn x)).2.1).toInt64, (nI (tT N G K O C (jn x)).2.2).toInt64]) ∨ (¬ cG x G ∧ f_F_tree x m = some (-1, m') ∧ m' = m)) := by
  have hG := gg.1
  rw [e_F_tree]
  by_cases hx : 1 ≤ x.toInt ∧ x.toInt < ((2 ^ G : Nat) : Int)
  · obtain ⟨S, hS, rfl⟩ := nI_get (show 0 ≤ x.toInt by omega) hx.2
    have h0 : 0 < S := by have := hx.1; rw [nI_toInt (lt31 hS hG)] at this; omega
    rw [jn_nI (lt31 hS hG), s_aG_t h gg hx, Option.bind_some]
    obtain ⟨m1, q1, q2, q3, q4⟩ := s_grow h gg hS h0
    have h1 : goodsF m1 G K O C N := goodsF_sm h q4 (by intro a k; unfold dGF w156; omega)
    obtain ⟨m2, r1, r2, r3⟩ := s_tell2 (oI (tT N G K O C S).2.1).toInt64 (nI (tT N G K O C S).2.2).toInt64 m1
    refine ⟨m2, (q4.mono (by unfold w156 wTr; omega)).tr (r3.mono (fun a k z => Or.inr (Or.inr z))), Or.inl ⟨hx, ?_, r2⟩⟩
    refine (ifnn ne10).trans ?_
    rw [q1, Option.bind_some, s_first hG q2 hS h0 q3, Option.bind_some, s_dearest h1 gg q2 hS h0 q3, Option.bind_some]
    dsimp only
    rw [r1, Option.bind_some]
  · refine ⟨m, sm.rf, Or.inr ⟨hx, ?_, rfl⟩⟩
    rw [s_aG_f h gg hx, Option.bind_some]
    exact ifnp eq00
theorem df_self (S : Nat) : df G S S = 0 := df_0.mpr (fun _ _ h => h)
theorem M_tree (h : goodsM m G K O C N) (gg : gGoods G K O C N) (x : Int32) : ∃ m', sm wTrM m m' ∧
    ((cG x G ∧ f_M_tree x m = some (nI (tT N G K O C (jn x)).1, m') ∧ rM m' [(oI (tT N G K O C (jn x)).2.1).toInt64, (nI (tT N G K O C (jn x)).2.2).toInt64]) ∨ (¬ cG x G ∧ f_M_tree x m = some (-1, m') ∧ m' = jx_w1 m 63 0 0)) := by
  have hG := gg.1
  have h1 := goodsM_th h (v := 0)
  have s1 : sm wTrM m (jx_w1 m 63 0 0) := sm_w1 (by unfold wTrM wTM; omega)
  rw [e_M_tree]
  dsimp only
  by_cases hx : 1 ≤ x.toInt ∧ x.toInt < ((2 ^ G : Nat) : Int)
  · obtain ⟨S, hS, rfl⟩ := nI_get (show 0 ≤ x.toInt by omega) hx.2
    have h0 : 0 < S := by have := hx.1; rw [nI_toInt (lt31 hS hG)] at this; omega
    have hS2 := g1024 hG hS
    rw [jn_nI (lt31 hS hG), s_maG_t h1 gg hx, Option.bind_some]
    obtain ⟨m1, q1, q2, q3⟩ := s_trees h1 gg hS h0
    obtain ⟨t1, t2, t3⟩ := q2 S h0 hS (df_self S)
    obtain ⟨m2, r1, r2, r3⟩ := s_enters (oI (tT N G K O C S).2.1).toInt64 (rM_0 m1) (by simp)
    obtain ⟨m3, u1, u2, u3⟩ := s_enters (nI (tT N G K O C S).2.2).toInt64 r2 (by simp)
    have k1 : ∀ a, a = 73 ∨ a = 74 ∨ a = 75 → ∀ k, (jx_w1 m1 63 1 0).1 a k = m1.1 a k := fun a ha k => w1_cell (by omega)
    have k2 : ∀ a, a = 73 ∨ a = 74 ∨ a = 75 → ∀ k, m2.1 a k = m1.1 a k := fun a ha k => ((r3 a k (by unfold wRM; omega)).1).trans (k1 a ha k)
    have k3 : ∀ a, a = 73 ∨ a = 74 ∨ a = 75 → ∀ k, m3.1 a k = m1.1 a k := fun a ha k => ((u3 a k (by unfold wRM; omega)).1).trans (k2 a ha k)
    refine ⟨m3, ((s1.tr (q3.mono (by unfold wTb wTrM; omega))).w1 (by unfold wTrM wTM; omega)).tr ((r3.tr u3).mono (by unfold wRM wTrM wTM; omega)), Or.inl ⟨hx, ?_, u2⟩⟩
    refine (ifnn ne10).trans ?_
    rw [q1, Option.bind_some, in_nI hS2 (by omega), nI_cl (show S < 2 ^ 31 by omega)]
    dsimp only [cond_true]
    rw [k1 74 (by omega), t2, r1, Option.bind_some, k2 75 (by omega), t3, u1, Option.bind_some, k3 73 (by omega), t1]
  · refine ⟨_, s1, Or.inr ⟨hx, ?_, rfl⟩⟩
    rw [s_maG_f h1 gg hx, Option.bind_some]
    exact ifnp eq00
theorem tellPath_ok (h : goodsF m G K O C N) (gg : gGoods G K O C N) (hm : memo m N G K O C) {g : Nat} (hg : g < G) : ∀ f S m1 vs, f ≤ 6 → S < 2 ^ G → S.testBit g = true → m.1 15 S ≠ -1 → sm wRF m m1 → rF m1 vs → vs.length + f ≤ 6 →
    ∃ m', f_Tree_tellPath_10 (nI g) (nI S) (nI (6 - f)) m1 = some (nI (vs.length + (pathL N G K O C g f S).1.length), m') ∧ rF m' (vs ++ (pathL N G K O C g f S).1 ++ [(nI (pathL N G K O C g f S).2).toInt64]) ∧ sm wRF m m' := by
  have hG := gg.1
  have hK := gg.2.1
  have fin : ∀ S m1 vs, sm wRF m m1 → rF m1 vs → vs.length ≤ 6 → ∃ m', f_Tree_tellPath_70 (nI S) m1 = some (nI vs.length, m') ∧ rF m' (vs ++ [] ++ [(nI S).toInt64]) ∧ sm wRF m m' := by
    intro S m1 vs hs1 hr hl
    obtain ⟨m2, q1, q2, q3⟩ := s_Row_add (nI S).toInt64 hr (by omega)
    refine ⟨m2, ?_, by rw [List.append_nil]; exact q2, hs1.tr q3⟩
    rw [e_Tree_tellPath_70, q1, Option.bind_some, e_Row_size, Option.bind_some, q2.1, List.length_append]
    show some (nI (vs.length + 1) - 1, m2) = _
    rw [nI_pred]
  intro f
  induction f with
  | zero =>
    intro S m1 vs _ hS hs hf hs1 hr hl
    obtain ⟨m', q1, q2, q3⟩ := fin S m1 vs hs1 hr (by omega)
    refine ⟨m', ?_, q2, q3⟩
    rw [e_Tree_tellPath_10]
    exact (ifp (by decide)).trans q1
  | succ f ih =>
    intro S m1 vs hf6 hS hs hf hs1 hr hl
    have h0 : 0 < S := by
      rcases Nat.eq_zero_or_pos S with z | z
      · rw [z] at hs; simp at hs
      · exact z
    have h1 : goodsF m1 G K O C N := goodsF_sm h hs1 (by intro a k; unfold dGF wRF; omega)
    have hm1 : memo m1 N G K O C := by
      intro R a1 a2 a3
      have e15 : ∀ k, m1.1 15 k = m.1 15 k := fun k => (hs1 15 k (by unfold wRF; omega)).1
      have e16 : ∀ k, m1.1 16 k = m.1 16 k := fun k => (hs1 16 k (by unfold wRF; omega)).1
      rw [e15] at a3
      rw [e15, e16]
      obtain ⟨b1, b2, b3⟩ := hm R a1 a2 a3
      exact ⟨b1, b2, fun t v c1 c2 => by rw [e15]; exact b3 t v c1 c2⟩
    have hf1 : m1.1 15 S ≠ -1 := by rw [(hs1 15 S (by unfold wRF; omega)).1]; exact hf
    have e10 : f_Tree_tellPath_10 (nI g) (nI S) (nI (6 - (f + 1))) m1 = ((f_Tree_firstTest (nI S) m1).bind (fun p1 => if decide (¬ p1.1 = (-1)) = true then ((f_Row_add p1.1.toInt64 p1.2).bind (fun p2 => (f_Goods_answerOf (nI g) p1.1 p2).bind (fun p3 => (f_Goods_part (nI S) p1.1 p3.1 p3.2).bind (fun p4 => f_Tree_tellPath_10 (nI g) p4.1 (nI (6 - (f + 1)) + 1) p4.2)))) else (f_Tree_tellPath_70 (nI S) p1.2))) := by
      rw [e_Tree_tellPath_10]
      exact ifn (nI_ge (a := 6 - (f + 1)) (b := 6) (by omega) (by omega))
    rw [e10, s_first hG hm1 hS h0 hf1, Option.bind_some]
    unfold pathL
    cases hc : (tT N G K O C S).2.1 with
    | none =>
      obtain ⟨m', q1, q2, q3⟩ := fin S m1 vs hs1 hr (by omega)
      refine ⟨m', ?_, q2, q3⟩
      exact (ifnp rfl).trans q1
    | some t =>
      obtain ⟨ht, hpr⟩ := (tT_ok gg hS h0).2.2 t hc
      have hin := pt_in (N := N) (t := t) hg hs rfl
      have hnz : pt N G S t (N g t) ≠ 0 := fun z => by rw [z] at hin; simp at hin
      have hN := gg.2.2.2.2.1 g t
      obtain ⟨m2, q1, q2, q3⟩ := s_Row_add (nI t).toInt64 hr (by omega)
      have hs2 := hs1.tr q3
      have h2 : goodsF m2 G K O C N := goodsF_sm h hs2 (by intro a k; unfold dGF wRF; omega)
      obtain ⟨m', r1, r2, r3⟩ := ih (pt N G S t (N g t)) m2 (vs ++ [(nI t).toInt64]) (by omega) (pt_lt _ _ _) hin ((hm S h0 hS hf).2.2 t _ hc hnz) hs2 q2 (by rw [List.length_append]; simp only [List.length_cons, List.length_nil]; omega)
      refine ⟨m', ?_, ?_, r3⟩
      · refine (ifnn (oI_ne (show t < 2 ^ 31 by omega))).trans ?_
        show (f_Row_add (nI t).toInt64 m1).bind _ = _
        rw [q1, Option.bind_some]
        show (f_Goods_answerOf (nI g) (nI t) m2).bind _ = _
        rw [s_answerOf h2 gg hg ht, Option.bind_some]
        show (f_Goods_part (nI S) (nI t) (nI (N g t)) m2).bind _ = _
        rw [s_part h2 gg hS ht (by omega), Option.bind_some]
        dsimp only
        rw [nI_1, show 6 - (f + 1) + 1 = 6 - f by omega, r1, List.length_append]
        simp only [List.length_cons, List.length_nil]
        congr 3
        omega
      · simpa using r2
theorem asks_ok (gg : gGoods G K O C N) {w g : Nat} (hg : g < G) : ∀ f S m n vs, goodsM m G K O C N → (∀ R, 0 < R → R < 2 ^ G → df G R w = 0 → tbE m R (tT N G K O C R)) → pS N G K S ≤ f → S < 2 ^ G → S.testBit g = true → df G S w = 0 → n + f ≤ 6 → rM m vs → vs.length + f ≤ 6 →
    ∃ m', f_M_asks_46 (nI g) (nI S) (nI n) m = some (nI (n + (pathL N G K O C g f S).1.length), m') ∧ rM m' (vs ++ (pathL N G K O C g f S).1 ++ [(nI (pathL N G K O C g f S).2).toInt64]) ∧ sm wRM m m' := by
  have hG := gg.1
  have hK := gg.2.1
  have fin : ∀ S m n vs, goodsM m G K O C N → tbE m S (tT N G K O C S) → (tT N G K O C S).2.1 = none → S < 1024 → rM m vs → vs.length ≤ 6 → ∃ m', f_M_asks_46 (nI g) (nI S) (nI n) m = some (nI n, m') ∧ rM m' (vs ++ [] ++ [(nI S).toInt64]) ∧ sm wRM m m' := by
    intro S m n vs h ht hc hS hr hl
    obtain ⟨m2, q1, q2, q3⟩ := s_enters (nI S).toInt64 hr (by omega)
    refine ⟨m2, ?_, by rw [List.append_nil]; exact q2, q3⟩
    rw [e_M_asks_46, in_nI hS (by omega), nI_cl (show S < 2 ^ 31 by omega), ht.2.1, hc, cond_true]
    refine (ifp (show oI none < 0 by decide)).trans ?_
    rw [q1]
    rfl
  intro f
  induction f with
  | zero =>
    intro S m n vs h hT hp hS hs hw hn hr hl
    have h0 : 0 < S := by
      rcases Nat.eq_zero_or_pos S with z | z
      · rw [z] at hs; simp at hs
      · exact z
    have hc : (tT N G K O C S).2.1 = none := by
      cases hc : (tT N G K O C S).2.1 with
      | none => rfl
      | some t =>
        obtain ⟨ht, hpr⟩ := (tT_ok gg hS h0).2.2 t hc
        have : 0 < pS N G K S := fb_ct_pos.mpr ⟨t, ht, hpr⟩
        omega
    exact fin S m n vs h (hT S h0 hS hw) hc (g1024 hG hS) hr (by omega)
  | succ f ih =>
    intro S m n vs h hT hp hS hs hw hn hr hl
    have h0 : 0 < S := by
      rcases Nat.eq_zero_or_pos S with z | z
      · rw [z] at hs; simp at hs
      · exact z
    have hS2 := g1024 hG hS
    unfold pathL
    cases hc : (tT N G K O C S).2.1 with
    | none => exact fin S m n vs h (hT S h0 hS hw) hc hS2 hr (by omega)
    | some t =>
      obtain ⟨ht, hpr⟩ := (tT_ok gg hS h0).2.2 t hc
      have hin := pt_in (N := N) (t := t) hg hs rfl
      have hnz : pt N G S t (N g t) ≠ 0 := fun z => by rw [z] at hin; simp at hin
      have hN := gg.2.2.2.2.1 g t
      obtain ⟨m2, q1, q2, q3⟩ := s_enters (nI t).toInt64 hr (by omega)
      have h2 : goodsM m2 G K O C N := goodsM_sm h q3 (by intro a k; unfold dGM wRM; omega)
      have hlt := pS_lt hG hS h0 ht hpr hnz
      obtain ⟨_, hw2⟩ := pt_less (v := N g t) hG hS h0 hpr hw
      obtain ⟨m', r1, r2, r3⟩ := ih (pt N G S t (N g t)) m2 (n + 1) (vs ++ [(nI t).toInt64]) h2 (fun R a1 a2 a3 => by
        obtain ⟨b1, b2, b3⟩ := hT R a1 a2 a3
        refine ⟨?_, ?_, ?_⟩
        · rw [(q3 73 R (by unfold wRM; omega)).1]; exact b1
        · rw [(q3 74 R (by unfold wRM; omega)).1]; exact b2
        · rw [(q3 75 R (by unfold wRM; omega)).1]; exact b3) (by omega) (pt_lt _ _ _) hin hw2 (by omega) q2 (by rw [List.length_append]; simp only [List.length_cons, List.length_nil]; omega)
      refine ⟨m', ?_, ?_, q3.tr r3⟩
      · rw [e_M_asks_46, in_nI hS2 (by omega), nI_cl (show S < 2 ^ 31 by omega), (hT S h0 hS hw).2.1, hc, cond_true]
        refine (ifn (nI_pos (show t < 2 ^ 31 by omega))).trans ?_
        rw [cond_true]
        show (f_M_enters (nI t).toInt64 m).bind _ = _
        rw [q1, Option.bind_some]
        show (f_M_answerOf (nI g) (nI t) m2).bind _ = _
        rw [s_manswerOf h2 (by omega) (by omega), Option.bind_some]
        show (f_M_partOf (nI S) (nI t) (nI (N g t)) m2).bind _ = _
        rw [s_mpart h2 gg (lt31 hS hG) (by omega) (by omega), Option.bind_some]
        dsimp only
        rw [nI_1, r1]
        simp only [List.length_cons]
        congr 3
        omega
      · simpa using r2
def cAsk (x y : Int32) (G : Nat) : Prop := cG x G ∧ (0 ≤ y.toInt ∧ y.toInt < (G : Int)) ∧ (jn x).testBit (jn y) = true
theorem F_asks (h : goodsF m G K O C N) (gg : gGoods G K O C N) (x y : Int32) : ∃ m', sm wTr m m' ∧
    ((cAsk x y G ∧ f_F_asks x y m = some (nI (pathL N G K O C (jn y) 6 (jn x)).1.length, m') ∧ rF m' ((pathL N G K O C (jn y) 6 (jn x)).1 ++ [(nI (pathL N G K O C (jn y) 6 (jn x)).2).toInt64])) ∨ (¬ cAsk x y G ∧ f_F_asks x y m = some (-1, m') ∧ m' = m)) := by
  have hG := gg.1
  rw [e_F_asks]
  by_cases hx : 1 ≤ x.toInt ∧ x.toInt < ((2 ^ G : Nat) : Int)
  · obtain ⟨S, hS, rfl⟩ := nI_get (show 0 ≤ x.toInt by omega) hx.2
    have h0 : 0 < S := by have := hx.1; rw [nI_toInt (lt31 hS hG)] at this; omega
    rw [s_aG_t h gg hx, Option.bind_some]
    by_cases hy : 0 ≤ y.toInt ∧ y.toInt < (G : Int)
    · obtain ⟨g, hg, rfl⟩ := nI_get hy.1 hy.2
      unfold cAsk
      rw [jn_nI (lt31 hS hG), jn_nI (show g < 2 ^ 31 by omega)]
      by_cases c : S.testBit g = true
      · obtain ⟨m1, q1, q2, q3, q4⟩ := s_grow h gg hS h0
        have h1 : goodsF m1 G K O C N := goodsF_sm h q4 (by intro a k; unfold dGF w156; omega)
        obtain ⟨m2, r1, r2, r3⟩ := s_Row_clear m1
        obtain ⟨m3, u1, u2, u3⟩ := tellPath_ok h1 gg q2 hg 6 S m2 [] (by omega) hS c q3 r3 r2 (by simp)
        refine ⟨m3, (q4.mono (by unfold w156 wTr; omega)).tr (u3.mono (fun a k z => Or.inr (Or.inr z))), Or.inl ⟨⟨hx, hy, c⟩, ?_, by simpa using u2⟩⟩
        refine (ifn ne10).trans ?_
        rw [s_isGood h gg, jb_t hy, Option.bind_some]
        refine (ifn ne10).trans ?_
        rw [s_has_t (lt31 hS hG) (by omega) c, Option.bind_some]
        refine (ifnn ne10).trans ?_
        rw [q1, Option.bind_some, e_Tree_tellPath, r1, Option.bind_some]
        show (f_Tree_tellPath_10 (nI g) (nI S) (nI (6 - 6)) m2).bind _ = _
        rw [u1, Option.bind_some]
        simp
      · have c2 : S.testBit g = false := by simpa using c
        refine ⟨m, sm.rf, Or.inr ⟨fun q => c q.2.2, ?_, rfl⟩⟩
        refine (ifn ne10).trans ?_
        rw [s_isGood h gg, jb_t hy, Option.bind_some]
        refine (ifn ne10).trans ?_
        rw [s_has_f (lt31 hS hG) (by omega) c2, Option.bind_some]
        refine (ifnp eq00).trans ?_
        rw [e_F_asks_30]
    · refine ⟨m, sm.rf, Or.inr ⟨fun q => hy q.2.1, ?_, rfl⟩⟩
      refine (ifn ne10).trans ?_
      rw [s_isGood h gg, jb_f hy, Option.bind_some]
      refine (ifp eq00).trans ?_
      rw [e_F_asks_30]
  · refine ⟨m, sm.rf, Or.inr ⟨fun q => hx q.1, ?_, rfl⟩⟩
    rw [s_aG_f h gg hx, Option.bind_some]
    refine (ifp eq00).trans ?_
    rw [e_F_asks_30]
theorem M_asks (h : goodsM m G K O C N) (gg : gGoods G K O C N) (x y : Int32) : ∃ m', sm wTrM m m' ∧
    ((cAsk x y G ∧ f_M_asks x y m = some (nI (pathL N G K O C (jn y) 6 (jn x)).1.length, m') ∧ rM m' ((pathL N G K O C (jn y) 6 (jn x)).1 ++ [(nI (pathL N G K O C (jn y) 6 (jn x)).2).toInt64])) ∨ (¬ cAsk x y G ∧ f_M_asks x y m = some (-1, m') ∧ m' = jx_w1 m 63 0 0)) := by
  have hG := gg.1
  have h1 := goodsM_th h (v := 0)
  have s1 : sm wTrM m (jx_w1 m 63 0 0) := sm_w1 (by unfold wTrM wTM; omega)
  rw [e_M_asks]
  dsimp only
  by_cases hx : 1 ≤ x.toInt ∧ x.toInt < ((2 ^ G : Nat) : Int)
  · obtain ⟨S, hS, rfl⟩ := nI_get (show 0 ≤ x.toInt by omega) hx.2
    have h0 : 0 < S := by have := hx.1; rw [nI_toInt (lt31 hS hG)] at this; omega
    rw [s_maG_t h1 gg hx, Option.bind_some]
    by_cases hy : 0 ≤ y.toInt ∧ y.toInt < (G : Int)
    · obtain ⟨g, hg, rfl⟩ := nI_get hy.1 hy.2
      unfold cAsk
      rw [jn_nI (lt31 hS hG), jn_nI (show g < 2 ^ 31 by omega)]
      by_cases c : S.testBit g = true
      · obtain ⟨m1, q1, q2, q3⟩ := s_trees h1 gg hS h0
        have s2 : sm wTrM m (jx_w1 m1 63 1 0) := (s1.tr (q3.mono (by unfold wTb wTrM; omega))).w1 (by unfold wTrM wTM; omega)
        have h2 : goodsM (jx_w1 m1 63 1 0) G K O C N := goodsM_sm h s2 (by intro a k; unfold dGM wTrM wTM; omega)
        obtain ⟨m3, u1, u2, u3⟩ := asks_ok gg (w := S) hg 6 S (jx_w1 m1 63 1 0) 0 [] h2 (fun R a1 a2 a3 => by
          obtain ⟨b1, b2, b3⟩ := q2 R a1 a2 a3
          exact ⟨(w1_cell (by omega)).trans b1, (w1_cell (by omega)).trans b2, (w1_cell (by omega)).trans b3⟩) (Nat.le_trans (pS_le S) gg.2.1) hS c (df_self S) (by omega) (rM_0 m1) (by simp)
        refine ⟨m3, s2.tr (u3.mono (by unfold wRM wTrM wTM; omega)), Or.inl ⟨⟨hx, hy, c⟩, ?_, by simpa using u2⟩⟩
        refine (ifn ne10).trans ?_
        rw [s_misGood h1 gg, jb_t hy, Option.bind_some]
        refine (ifn ne10).trans ?_
        rw [s_mhas_t (lt31 hS hG) (by omega) c, Option.bind_some]
        refine (ifnn ne10).trans ?_
        rw [q1, Option.bind_some]
        show f_M_asks_46 (nI g) (nI S) (nI 0) _ = _
        rw [u1]
        simp
      · have c2 : S.testBit g = false := by simpa using c
        refine ⟨_, s1, Or.inr ⟨fun q => c q.2.2, ?_, rfl⟩⟩
        refine (ifn ne10).trans ?_
        rw [s_misGood h1 gg, jb_t hy, Option.bind_some]
        refine (ifn ne10).trans ?_
        rw [s_mhas_f (lt31 hS hG) (by omega) c2, Option.bind_some]
        refine (ifnp eq00).trans ?_
        rw [e_M_asks_29]
    · refine ⟨_, s1, Or.inr ⟨fun q => hy q.2.1, ?_, rfl⟩⟩
      refine (ifn ne10).trans ?_
      rw [s_misGood h1 gg, jb_f hy, Option.bind_some]
      refine (ifp eq00).trans ?_
      rw [e_M_asks_29]
  · refine ⟨_, s1, Or.inr ⟨fun q => hx q.1, ?_, rfl⟩⟩
    rw [s_maG_f h1 gg hx, Option.bind_some]
    refine (ifp eq00).trans ?_
    rw [e_M_asks_29]
end ASKS
