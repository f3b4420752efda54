/-! copper: the class, by what it keeps of TESTS taken and a GOOD -/
theorem s_fill17 (v : Int32) (m : jx_Mem) : ∃ m', f_Arr_fill_r17 v m = some m' ∧ (∀ j, j < 640 → m'.1 17 j = v) ∧ sm (fun a j => a = 17 ∧ j < 640) m m' := by
  obtain ⟨m', r1, r2, r3⟩ := fill_lp (fun i m => f_Arr_fill_5_r17 v i 640 m) 17 640 v (by
    intro m
    rw [e_Arr_fill_5_r17]
    exact ifp (by decide)) (by
    intro i m hi
    rw [e_Arr_fill_5_r17]
    refine (ifn (nI_ge (b := 640) hi (by omega))).trans ?_
    rw [in_nI hi (by omega), nI_cl (by omega), nI_1]
    rfl) 640 0 (by omega) m
  refine ⟨m', by rw [e_Arr_fill_r17]; exact r1, fun j hj => ?_, r3⟩
  rw [r2 j, if_pos ⟨Nat.zero_le _, hj⟩]
theorem fa_lo : ∀ S, S < 1024 → 0 < S → ∀ i, i < low S → S.testBit i = false := by
  intro S _ _ i hi
  exact fa_first_no (fun i => S.testBit i) 10 i hi
section COPPER
variable {m m' : jx_Mem} {G K : Nat} {O C : Nat → Nat} {N : Nat → Nat → Nat}
theorem s_lowest {S : Nat} (hS : S < 1024) (h0 : 0 < S) : f_Tree_lowest (nI S) m = some (nI (low S), m) := by
  obtain ⟨l1, l2⟩ := low_spec S hS h0
  have key : ∀ k i, i + k = low S → f_Tree_lowest_2 (nI S) (nI i) m = some (nI (low S), m) := by
    intro k
    induction k with
    | zero =>
      intro i hi
      have hi2 : i = low S := by omega
      rw [hi2, e_Tree_lowest_2]
      refine (ifn (nI_ge (b := 10) l1 (by omega))).trans ?_
      rw [s_has_t (by omega) (by omega) l2, Option.bind_some]
      exact ifn ne10
    | succ k ih =>
      intro i hi
      rw [e_Tree_lowest_2]
      refine (ifn (nI_ge (a := i) (b := 10) (by omega) (by omega))).trans ?_
      rw [s_has_f (by omega) (by omega) (fa_lo S hS h0 i (by omega)), Option.bind_some]
      refine (ifp eq00).trans ?_
      rw [nI_1]
      exact ih (i + 1) (by omega)
  rw [e_Tree_lowest]
  exact key (low S) 0 (by omega)
/-- a set, by TESTS taken: all of the first one that answer them as its lowest does -/
def isSa (N : Nat → Nat → Nat) (G K S0 b S : Nat) : Prop := S = sa N G K S0 b (low S)
/-- what is kept is right -/
def keptC (m : jx_Mem) (N : Nat → Nat → Nat) (G K : Nat) (O C : Nat → Nat) (S0 c0 : Nat) : Prop := ∀ b g, b < 2 ^ K → g < G → m.1 17 (10 * b + g) ≠ -1 → m.1 17 (10 * b + g) = nI (tV N G K O C (sa N G K S0 b g) (c0 - sumB b C K))
theorem sumB_or {b t : Nat} (ht : t < K) (hb : b.testBit t = false) : sumB (b ||| 2 ^ t) C K = sumB b C K + C t := by
  have h1 : sumB (b ||| 2 ^ t) C K = fb_sm (fun k => if k = t then C t else (if b.testBit k = true then C k else 0)) K := by
    unfold sumB
    apply fb_sm_cong
    intro k hk
    rw [Nat.testBit_or, Nat.testBit_two_pow]
    by_cases c : k = t
    · subst c; simp
    · have : ¬ t = k := fun z => c z.symm
      simp [c, this]
  have h2 := fb_sm_upd (fun k => if b.testBit k = true then C k else 0) (C t) ht
  rw [hb] at h2
  rw [h1]
  unfold sumB
  simp at h2
  omega
theorem isSa_part (hG : G ≤ 10) {S0 b S t v : Nat} (hS : S < 2 ^ G) (h0 : 0 < S) (ht : t < K) (hi : isSa N G K S0 b S) (hr : pt N G S t v ≠ 0) : isSa N G K S0 (b ||| 2 ^ t) (pt N G S t v) := by
  have hR := pt_lt (N := N) (G := G) S t v
  obtain ⟨l1, l2⟩ := low_lt hG hR (by omega)
  obtain ⟨_, p2, p3⟩ := pt_sub l2
  have hmem : ∀ o, o < G → (S.testBit o = true ↔ S0.testBit o = true ∧ eqT N b (low S) o K = true) := by
    intro o ho
    have : S.testBit o = (sa N G K S0 b (low S)).testBit o := by rw [← hi]
    rw [this]
    unfold sa
    rw [bs_tb]
    simp [ho]
  have q := ((hmem _ l1).mp p2).2
  refine bs_eq hR (fun o ho => ?_)
  have hor : ∀ t', (b ||| 2 ^ t).testBit t' = (b.testBit t' || decide (t = t')) := fun t' => by rw [Nat.testBit_or, Nat.testBit_two_pow]
  have hiff : (pt N G S t v).testBit o = true ↔ (S0.testBit o && eqT N (b ||| 2 ^ t) (low (pt N G S t v)) o K) = true := by
    rw [Bool.and_eq_true, eqT_iff]
    constructor
    · intro h
      obtain ⟨_, a2, a3⟩ := pt_sub h
      obtain ⟨b1, b2⟩ := (hmem o ho).mp a2
      refine ⟨b1, fun t' ht' hb => ?_⟩
      rw [hor, Bool.or_eq_true] at hb
      rcases hb with hb | hb
      · rw [eqT_iff.mp b2 t' ht' hb, ← eqT_iff.mp q t' ht' hb]
      · have := of_decide_eq_true hb
        subst this
        rw [a3, p3]
    · rintro ⟨b1, b2⟩
      refine pt_in ho ((hmem o ho).mpr ⟨b1, eqT_iff.mpr (fun t' ht' hb => ?_)⟩) ?_
      · rw [b2 t' ht' (by rw [hor, hb]; rfl), eqT_iff.mp q t' ht' hb]
      · rw [b2 t ht (by rw [hor]; simp), p3]
  cases c : (pt N G S t v).testBit o
  · cases d : (S0.testBit o && eqT N (b ||| 2 ^ t) (low (pt N G S t v)) o K)
    · rfl
    · rw [hiff.mpr d] at c; cases c
  · exact (hiff.mp c).symm
def w17 (a _ : Nat) : Prop := a = 17
theorem most_ok (gg : gGoods G K O C N) {S0 c0 : Nat} (hc0 : c0 ≤ 99) : ∀ p, ∀ S b c lev m, pS N G K S = p → 2 * p + 1 ≤ lev → S < 2 ^ G → 0 < S → b < 2 ^ K → isSa N G K S0 b S → c + sumB b C K = c0 → (∀ t, t < K → b.testBit t = true → prt N G S t = false) → goodsF m G K O C N → keptC m N G K O C S0 c0 →
    ∃ m', f_Tree_mostTold lev (nI S) (nI b) (nI c) m = some (nI (tV N G K O C S c), m') ∧ keptC m' N G K O C S0 c0 ∧ sm w17 m m' := by
  have hG := gg.1
  have hK := gg.2.1
  intro p
  induction p using Nat.strongRecOn with
  | _ p ih =>
    intro S b c lev m hp hl hS h0 hb hi hcs htk h hk
    have hS2 := g1024 hG hS
    have hb2 : b < 64 := Nat.lt_of_lt_of_le hb (Nat.le_trans (Nat.pow_le_pow_right (by omega) hK) (by decide))
    obtain ⟨l1, l2⟩ := low_lt hG hS h0
    obtain ⟨l, rfl⟩ : ∃ l, lev = l + 1 := ⟨lev - 1, by omega⟩
    have hval : tV N G K O C (sa N G K S0 b (low S)) (c0 - sumB b C K) = tV N G K O C S c := by
      rw [← hi, show c0 - sumB b C K = c by omega]
    have hbd := tV_ok (N := N) (O := O) (C := C) gg c hS h0
    rw [e_Tree_mostTold, s_bc, Option.bind_some]
    by_cases h1 : bc (nI S) = 1
    · refine ⟨m, ?_, hk, sm.rf⟩
      refine (ifnp h1).trans ?_
      rw [s_oftenOf h gg hS, tV_one gg c hS h0 h1]
      rfl
    · -- the parts
      have hparts : ∀ t, t < K → prt N G S t = true → C t ≤ c → ∀ m, goodsF m G K O C N → keptC m N G K O C S0 c0 → ∃ m', f_Tree_mostOfParts l (nI S) (nI t) (nI (b ||| 2 ^ t)) (nI (c - C t)) m = some (nI (smP N G S t (fun R => tV N G K O C R (c - C t)) 10), m') ∧ keptC m' N G K O C S0 c0 ∧ sm w17 m m' := by
        intro t ht hpr hct m h hk
        have hbt : b.testBit t = false := by
          cases q : b.testBit t
          · rfl
          · rw [htk t ht q] at hpr; cases hpr
        have hp1 : 1 ≤ p := by
          have : 0 < pS N G K S := fb_ct_pos.mpr ⟨t, ht, hpr⟩
          omega
        obtain ⟨l', rfl⟩ : ∃ l', l = l' + 1 := ⟨l - 1, by omega⟩
        have key : ∀ k v, v + k = 10 → ∀ m, goodsF m G K O C N → keptC m N G K O C S0 c0 → ∃ m', f_Tree_mostOfParts_6 (l' + 1) (nI S) (nI t) (nI (b ||| 2 ^ t)) (nI (c - C t)) (nI (smP N G S t (fun R => tV N G K O C R (c - C t)) v)) (nI v) m = some (nI (smP N G S t (fun R => tV N G K O C R (c - C t)) 10), m') ∧ keptC m' N G K O C S0 c0 ∧ sm w17 m m' := by
          intro k
          induction k with
          | zero =>
            intro v hv m h hk
            have hv2 : v = 10 := by omega
            subst hv2
            refine ⟨m, ?_, hk, sm.rf⟩
            rw [e_Tree_mostOfParts_6]
            exact ifp (by decide)
          | succ k ihk =>
            intro v hv m h hk
            by_cases d : pt N G S t v = 0
            · obtain ⟨m', r1, r2, r3⟩ := ihk (v + 1) (by omega) m h hk
              refine ⟨m', ?_, r2, r3⟩
              rw [e_Tree_mostOfParts_6]
              refine (ifn (nI_ge (a := v) (b := 10) (by omega) (by omega))).trans ?_
              rw [s_part h gg hS ht (by omega), Option.bind_some]
              refine (ifp (by rw [d]; rfl)).trans ?_
              rw [e_Tree_mostOfParts_45, nI_1, ← r1]
              have e1 : smP N G S t (fun R => tV N G K O C R (c - C t)) (v + 1) = smP N G S t (fun R => tV N G K O C R (c - C t)) v := by
                unfold smP
                rw [fb_sm_succ, if_pos d, Nat.add_zero]
              rw [e1]
            · have hlt := pS_lt hG hS h0 ht hpr d
              have hR := pt_lt (N := N) (G := G) S t v
              obtain ⟨m1, q1, q2, q3⟩ := ih _ (by omega) (pt N G S t v) (b ||| 2 ^ t) (c - C t) l' m rfl (by omega) hR (by omega) (Nat.or_lt_two_pow hb (Nat.pow_lt_pow_right (by omega) ht)) (isSa_part hG hS h0 ht hi d) (by rw [sumB_or ht hbt]; omega) (by
                intro t' ht' hq
                rw [Nat.testBit_or, Nat.testBit_two_pow, Bool.or_eq_true] at hq
                rcases hq with hq | hq
                · have := (prt_f hG hS h0).mp (htk t' ht' hq)
                  exact (prt_f hG hR (by omega)).mpr (fun g o hg ho sg so => this g o hg ho (pt_sub sg).2.1 (pt_sub so).2.1)
                · have := of_decide_eq_true hq
                  subst this
                  exact (prt_f hG hR (by omega)).mpr (fun g o hg ho sg so => by rw [(pt_sub sg).2.2, (pt_sub so).2.2])) h hk
              have h' : goodsF m1 G K O C N := goodsF_sm h q3 (by intro a k; unfold dGF w17; omega)
              obtain ⟨m', r1, r2, r3⟩ := ihk (v + 1) (by omega) m1 h' q2
              refine ⟨m', ?_, r2, q3.tr r3⟩
              rw [e_Tree_mostOfParts_6]
              refine (ifn (nI_ge (a := v) (b := 10) (by omega) (by omega))).trans ?_
              rw [s_part h gg hS ht (by omega), Option.bind_some]
              refine (ifn (fun z => d ((nI_eq (b := 0) (lt31 (pt_lt _ _ _) hG) (by omega)).mp z))).trans ?_
              rw [q1, Option.bind_some, e_Tree_mostOfParts_45, nI_1, nI_add, ← r1]
              have e1 : smP N G S t (fun R => tV N G K O C R (c - C t)) (v + 1) = smP N G S t (fun R => tV N G K O C R (c - C t)) v + tV N G K O C (pt N G S t v) (c - C t) := by
                unfold smP
                rw [fb_sm_succ, if_neg d]
              rw [e1]
        obtain ⟨m', r⟩ := key 10 0 (by omega) m h hk
        refine ⟨m', ?_, r.2⟩
        rw [e_Tree_mostOfParts]
        exact r.1
      -- the tests
      have htests : ∀ k t, t + k = K → ∀ m, goodsF m G K O C N → keptC m N G K O C S0 c0 → ∃ m', f_Tree_mostTold_70 (l + 1) (nI S) (nI b) (nI c) (nI (10 * b + low S)) (nI (stV N G O C (tV N G K O C) S c t)) (nI t) m = some (nI (tV N G K O C S c), m') ∧ keptC m' N G K O C S0 c0 ∧ sm w17 m m' := by
        intro k
        induction k with
        | zero =>
          intro t ht m h hk
          have ht2 : t = K := by omega
          subst ht2
          rw [← tV_eq hG hK c hS h0]
          refine ⟨jx_w1 m 17 (10 * b + low S) (nI (tV N G t O C S c)), ?_, ?_, sm_w1 rfl⟩
          · rw [e_Tree_mostTold_70, e_Goods_tests, Option.bind_some, h.2.1]
            refine (ifp (nI_le (Nat.le_refl _) (by omega))).trans ?_
            rw [in_nI (show 10 * b + low S < 640 by omega) (by omega), nI_cl (by omega)]
            rfl
          · intro b' g hb' hg hn
            rw [w1_rd] at hn ⊢
            by_cases e : 10 * b' + g = 10 * b + low S
            · have e1 : b' = b := by omega
              have e2 : g = low S := by omega
              rw [if_pos ⟨rfl, e⟩, e1, e2, hval]
            · rw [if_neg (fun z => e z.2)] at hn ⊢
              exact hk b' g hb' hg hn
        | succ k ihk =>
          intro t ht m h hk
          have ht2 : t < K := by omega
          have hC := gg.2.2.2.1 t ht2
          have e70 : f_Tree_mostTold_70 (l + 1) (nI S) (nI b) (nI c) (nI (10 * b + low S)) (nI (stV N G O C (tV N G K O C) S c t)) (nI t) m = ((f_F_has (nI b) (nI t) m).bind (fun p2 => if decide (¬ p2.1 = 0) = true then (f_Tree_mostTold_108 (l + 1) (nI S) (nI b) (nI c) (nI (10 * b + low S)) (nI (stV N G O C (tV N G K O C) S c t)) (nI t) p2.2) else ((f_Goods_costOf (nI t) p2.2).bind (fun p3 => if decide (nI c < p3.1) = true then (f_Tree_mostTold_108 (l + 1) (nI S) (nI b) (nI c) (nI (10 * b + low S)) (nI (stV N G O C (tV N G K O C) S c t)) (nI t) p3.2) else (f_Tree_mostTold_109 (l + 1) (nI S) (nI b) (nI c) (nI (10 * b + low S)) (nI (stV N G O C (tV N G K O C) S c t)) (nI t) 1 p3.2))))) := by
            rw [e_Tree_mostTold_70, e_Goods_tests, Option.bind_some, h.2.1]
            exact ifn (nI_ge ht2 (by omega))
          have hskip : ¬ (C t ≤ c ∧ prt N G S t = true) → ∃ m', f_Tree_mostTold_164 (l + 1) (nI S) (nI b) (nI c) (nI (10 * b + low S)) (nI (stV N G O C (tV N G K O C) S c t)) (nI t) m = some (nI (tV N G K O C S c), m') ∧ keptC m' N G K O C S0 c0 ∧ sm w17 m m' := by
            intro hn
            have es : stV N G O C (tV N G K O C) S c (t + 1) = stV N G O C (tV N G K O C) S c t := by rw [stV_s, if_neg hn]
            obtain ⟨m', r1, r2⟩ := ihk (t + 1) (by omega) m h hk
            refine ⟨m', ?_, r2⟩
            rw [e_Tree_mostTold_164, nI_1, ← r1, es]
          rw [e70]
          by_cases d : b.testBit t = true
          · obtain ⟨m', r1, r2⟩ := hskip (fun z => by rw [htk t ht2 d] at z; cases z.2)
            refine ⟨m', ?_, r2⟩
            rw [s_has_t (by omega) (by omega) d, Option.bind_some]
            refine (ifnn ne10).trans ?_
            rw [e_Tree_mostTold_108, e_Tree_mostTold_109]
            exact (ifp eq00).trans r1
          · have d2 : b.testBit t = false := by simpa using d
            rw [s_has_f (by omega) (by omega) d2, Option.bind_some]
            by_cases e : C t ≤ c
            · cases hpr : prt N G S t with
              | false =>
                obtain ⟨m', r1, r2⟩ := hskip (fun z => by rw [hpr] at z; cases z.2)
                refine ⟨m', ?_, r2⟩
                refine (ifnp eq00).trans ?_
                rw [s_costOf h gg ht2, Option.bind_some]
                refine (ifn (nI_nlt e (by omega))).trans ?_
                rw [e_Tree_mostTold_109]
                refine (ifn ne10).trans ?_
                rw [s_parts h gg hS h0 ht2, Option.bind_some, hpr]
                exact (ifp eq00).trans r1
              | true =>
                obtain ⟨m1, q1, q2, q3⟩ := hparts t ht2 hpr e m h hk
                have h' : goodsF m1 G K O C N := goodsF_sm h q3 (by intro a k; unfold dGF w17; omega)
                obtain ⟨m', r1, r2, r3⟩ := ihk (t + 1) (by omega) m1 h' q2
                have b1 := stV_ok (N := N) (O := O) (C := C) gg c hS h0 t (by omega)
                have b2 := smV_ok (N := N) (O := O) (C := C) gg S (c - C t) t 10 (by omega)
                refine ⟨m', ?_, r2, q3.tr r3⟩
                refine (ifnp eq00).trans ?_
                rw [s_costOf h gg ht2, Option.bind_some]
                refine (ifn (nI_nlt e (by omega))).trans ?_
                rw [e_Tree_mostTold_109]
                refine (ifn ne10).trans ?_
                rw [s_parts h gg hS h0 ht2, Option.bind_some, hpr]
                refine (ifn ne10).trans ?_
                show (f_Goods_costOf (nI t) m).bind _ = _
                rw [s_costOf h gg ht2, Option.bind_some]
                dsimp only
                rw [sh1 (show t < 31 by omega), fa_or, pk_sub e, q1, Option.bind_some, e_Tree_mostTold_164, nI_1]
                dsimp only
                rw [mx_nI (by omega) (by omega), ← r1, stV_s, if_pos ⟨e, hpr⟩]
            · obtain ⟨m', r1, r2⟩ := hskip (fun z => e z.1)
              refine ⟨m', ?_, r2⟩
              refine (ifnp eq00).trans ?_
              rw [s_costOf h gg ht2, Option.bind_some]
              refine (ifp (nI_lt (by omega) (by omega))).trans ?_
              rw [e_Tree_mostTold_108, e_Tree_mostTold_109]
              exact (ifp eq00).trans r1
      have hin : ∀ A : Option (Int32 × jx_Mem), (if decide (¬ (bc (nI S), m).1 = 1) = true then ((f_Tree_lowest (nI S) (bc (nI S), m).2).bind (fun p2 => if decide (((nI b * 10) + p2.1) < 0) = true then (f_Tree_mostTold_43 (l + 1) p2.2) else (if decide (((nI b * 10) + p2.1) < 640) = true then (bif jx_in ((nI b * 10) + p2.1) 640 then if decide ((p2.2.1 17 ((nI b * 10) + p2.1).toNatClampNeg) = (-1)) = true then (f_Tree_mostTold_70 (l + 1) (nI S) (nI b) (nI c) ((nI b * 10) + p2.1) 0 0 p2.2) else (bif jx_in ((nI b * 10) + p2.1) 640 then some (p2.2.1 17 ((nI b * 10) + p2.1).toNatClampNeg, p2.2) else none) else none) else (f_Tree_mostTold_43 (l + 1) p2.2)))) else A) = (if decide (m.1 17 (10 * b + low S) = (-1)) = true then (f_Tree_mostTold_70 (l + 1) (nI S) (nI b) (nI c) (nI (10 * b + low S)) 0 0 m) else some (m.1 17 (10 * b + low S), m)) := by
        intro A
        refine (ifnn h1).trans ?_
        show (f_Tree_lowest (nI S) m).bind _ = _
        rw [s_lowest hS2 h0, Option.bind_some]
        dsimp only
        rw [ix10]
        refine (ifn (nI_pos (show 10 * b + low S < 2 ^ 31 by omega))).trans ?_
        refine (ifp (nI_lt (b := 640) (show 10 * b + low S < 640 by omega) (by omega))).trans ?_
        rw [in_nI (show 10 * b + low S < 640 by omega) (by omega), nI_cl (show 10 * b + low S < 2 ^ 31 by omega)]
        rfl
      rw [hin]
      by_cases d : m.1 17 (10 * b + low S) = -1
      · obtain ⟨m', r1, r2⟩ := htests K 0 (by omega) m h hk
        refine ⟨m', ?_, r2⟩
        refine (ifp d).trans ?_
        have e0 : stV N G O C (tV N G K O C) S c 0 = 0 := by
          show baV G O S = 0
          unfold baV
          rw [if_neg h1]
        rw [e0] at r1
        exact r1
      · refine ⟨m, ?_, hk, sm.rf⟩
        refine (ifn d).trans ?_
        rw [hk b (low S) hb l1 d, hval]
theorem F_copper (h : goodsF m G K O C N) (gg : gGoods G K O C N) (x y : Int32) : ∃ m', sm w17 m m' ∧
    ((cCop x y G ∧ f_F_copper x y m = some (nI (tV N G K O C (jn x) (jn y)), m')) ∨ (¬ cCop x y G ∧ f_F_copper x y m = some (-1, m'))) := by
  have hG := gg.1
  have hK := gg.2.1
  rw [e_F_copper]
  by_cases hx : 1 ≤ x.toInt ∧ x.toInt < ((2 ^ G : Nat) : Int)
  · obtain ⟨S, hS, rfl⟩ := nI_get (show 0 ≤ x.toInt by omega) hx.2
    have h0 : 0 < S := by have := hx.1; rw [nI_toInt (lt31 hS hG)] at this; omega
    rw [s_aG_t h gg hx, Option.bind_some]
    by_cases hy : 0 ≤ y.toInt ∧ y.toInt ≤ 99
    · obtain ⟨c, hc, rfl⟩ := nI_get hy.1 (show y.toInt < ((100 : Nat) : Int) by omega)
      rw [jn_nI (lt31 hS hG), jn_nI (show c < 2 ^ 31 by omega)]
      obtain ⟨m1, q1, q2, q3⟩ := s_fill17 (-1) m
      have h1 : goodsF m1 G K O C N := goodsF_sm h q3 (by intro a k; unfold dGF; omega)
      have hp := pS_le (N := N) (G := G) (K := K) S
      have h64 : 2 ^ K ≤ 64 := Nat.le_trans (Nat.pow_le_pow_right (by omega) hK) (by decide)
      have hs0 : sumB 0 C K = 0 := by
        have : ∀ n, sumB 0 C n = 0 := by
          intro n
          induction n with
          | zero => rfl
          | succ n ih => rw [sumB_s, ih]; simp
        exact this K
      obtain ⟨m2, r1, r2, r3⟩ := most_ok gg (S0 := S) (c0 := c) (by omega) _ S 0 c 120 m1 rfl (by omega) hS h0 (Nat.two_pow_pos K) (by
        refine bs_eq hS (fun i hi => ?_)
        have : eqT N 0 (low S) i K = true := eqT_iff.mpr (fun t ht hb => by simp at hb)
        rw [this]; simp) (by rw [hs0]; rfl) (fun t ht hb => by simp at hb) h1 (fun b g hb hg hn => absurd (q2 (10 * b + g) (by omega)) hn)
      refine ⟨m2, (q3.mono (by unfold w17; omega)).tr r3, Or.inl ⟨⟨hx, hy⟩, ?_⟩⟩
      refine (ifn ne10).trans ?_
      rw [s_wi_t (lo := 0) (hi := 99) hy, Option.bind_some]
      refine (ifnn ne10).trans ?_
      rw [e_Tree_toldWithin, q1, Option.bind_some]
      show ((f_Tree_mostTold 120 (nI S) (nI 0) (nI c) m1).bind _).bind _ = _
      rw [r1]
      rfl
    · refine ⟨m, sm.rf, Or.inr ⟨fun q => hy q.2, ?_⟩⟩
      refine (ifn ne10).trans ?_
      rw [s_wi_f (lo := 0) (hi := 99) hy, Option.bind_some]
      refine (ifnp eq00).trans ?_
      rw [e_F_copper_21]
  · refine ⟨m, sm.rf, Or.inr ⟨fun q => hx q.1, ?_⟩⟩
    rw [s_aG_f h gg hx, Option.bind_some]
    refine (ifp eq00).trans ?_
    rw [e_F_copper_21]
end COPPER
