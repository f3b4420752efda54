/-! the best tree: the model's table -/
theorem ntz_y : ∀ S, S < 1024 → 0 < S → (nI S ^^^ (-1)) &&& (nI S - 1) = nI (2 ^ low S - 1) := by decide +kernel
theorem s_ntz {S : Nat} {m : jx_Mem} (hS : S < 1024) (h0 : 0 < S) : f_Int_numberOfTrailingZeros (nI S) m = some (nI (low S), m) := by
  have hl := (low_spec S hS h0).1
  rw [e_Int_numberOfTrailingZeros, ntz_y S hS h0]
  generalize low S = l at hl
  have h : l = 0 ∨ l = 1 ∨ l = 2 ∨ l = 3 ∨ l = 4 ∨ l = 5 ∨ l = 6 ∨ l = 7 ∨ l = 8 ∨ l = 9 := by omega
  rcases h with rfl | rfl | rfl | rfl | rfl | rfl | rfl | rfl | rfl | rfl
  · rfl
  · refine (ifp (by decide)).trans ((ifp (by decide)).trans ?_)
    rw [e_Int_numberOfTrailingZeros_34]
    refine (ifp (by decide)).trans ?_
    rw [e_Int_numberOfTrailingZeros_49]
    refine (ifp (by decide)).trans ?_
    rw [e_Int_numberOfTrailingZeros_62]
    refine (ifp (by decide)).trans ?_
    rw [e_Int_numberOfTrailingZeros_74]
    rfl
  · refine (ifp (by decide)).trans ((ifp (by decide)).trans ?_)
    rw [e_Int_numberOfTrailingZeros_34]
    refine (ifp (by decide)).trans ?_
    rw [e_Int_numberOfTrailingZeros_49]
    refine (ifp (by decide)).trans ?_
    rw [e_Int_numberOfTrailingZeros_62]
    refine (ifp (by decide)).trans ?_
    rw [e_Int_numberOfTrailingZeros_74]
    rfl
  · refine (ifp (by decide)).trans ((ifp (by decide)).trans ?_)
    rw [e_Int_numberOfTrailingZeros_34]
    refine (ifp (by decide)).trans ?_
    rw [e_Int_numberOfTrailingZeros_49]
    refine (ifp (by decide)).trans ?_
    rw [e_Int_numberOfTrailingZeros_62]
    refine (ifn (by decide)).trans ?_
    rw [e_Int_numberOfTrailingZeros_74]
    rfl
  · refine (ifp (by decide)).trans ((ifp (by decide)).trans ?_)
    rw [e_Int_numberOfTrailingZeros_34]
    refine (ifp (by decide)).trans ?_
    rw [e_Int_numberOfTrailingZeros_49]
    refine (ifp (by decide)).trans ?_
    rw [e_Int_numberOfTrailingZeros_62]
    refine (ifn (by decide)).trans ?_
    rw [e_Int_numberOfTrailingZeros_74]
    rfl
  · refine (ifp (by decide)).trans ((ifp (by decide)).trans ?_)
    rw [e_Int_numberOfTrailingZeros_34]
    refine (ifp (by decide)).trans ?_
    rw [e_Int_numberOfTrailingZeros_49]
    refine (ifn (by decide)).trans ?_
    rw [e_Int_numberOfTrailingZeros_62]
    refine (ifp (by decide)).trans ?_
    rw [e_Int_numberOfTrailingZeros_74]
    rfl
  · refine (ifp (by decide)).trans ((ifp (by decide)).trans ?_)
    rw [e_Int_numberOfTrailingZeros_34]
    refine (ifp (by decide)).trans ?_
    rw [e_Int_numberOfTrailingZeros_49]
    refine (ifn (by decide)).trans ?_
    rw [e_Int_numberOfTrailingZeros_62]
    refine (ifp (by decide)).trans ?_
    rw [e_Int_numberOfTrailingZeros_74]
    rfl
  · refine (ifp (by decide)).trans ((ifp (by decide)).trans ?_)
    rw [e_Int_numberOfTrailingZeros_34]
    refine (ifp (by decide)).trans ?_
    rw [e_Int_numberOfTrailingZeros_49]
    refine (ifn (by decide)).trans ?_
    rw [e_Int_numberOfTrailingZeros_62]
    refine (ifn (by decide)).trans ?_
    rw [e_Int_numberOfTrailingZeros_74]
    rfl
  · refine (ifp (by decide)).trans ((ifp (by decide)).trans ?_)
    rw [e_Int_numberOfTrailingZeros_34]
    refine (ifp (by decide)).trans ?_
    rw [e_Int_numberOfTrailingZeros_49]
    refine (ifn (by decide)).trans ?_
    rw [e_Int_numberOfTrailingZeros_62]
    refine (ifn (by decide)).trans ?_
    rw [e_Int_numberOfTrailingZeros_74]
    rfl
  · refine (ifp (by decide)).trans ((ifp (by decide)).trans ?_)
    rw [e_Int_numberOfTrailingZeros_34]
    refine (ifn (by decide)).trans ?_
    rw [e_Int_numberOfTrailingZeros_49]
    refine (ifp (by decide)).trans ?_
    rw [e_Int_numberOfTrailingZeros_62]
    refine (ifp (by decide)).trans ?_
    rw [e_Int_numberOfTrailingZeros_74]
    rfl
theorem df_0 {G a b : Nat} : df G a b = 0 ↔ ∀ i, i < G → a.testBit i = true → b.testBit i = true := by
  constructor
  · intro h i hi hn
    have h1 : (df G a b).testBit i = false := by rw [h]; simp
    rw [df_tb hi, hn] at h1
    revert h1; cases b.testBit i <;> simp
  · intro h
    apply Nat.eq_of_testBit_eq
    intro i
    unfold df
    rw [bs_tb, Nat.zero_testBit]
    by_cases hi : i < G
    · by_cases c : a.testBit i = true
      · simp [h i hi c]
      · simp [c]
    · simp [hi]
section TREES
variable {m m' : jx_Mem} {G K : Nat} {O C : Nat → Nat} {N : Nat → Nat → Nat}
theorem s_mparts (h : goodsM m G K O C N) (gg : gGoods G K O C N) {S t : Nat} (hS : S < 2 ^ G) (h0 : 0 < S) (ht : t < 6) : f_M_parts (nI S) (nI t) m = some (bi (prt N G S t), m) := by
  have hG := gg.1
  have hl := low_lt hG hS h0
  have hN := gg.2.2.2.2.1 (low S) t
  rw [e_M_parts, s_ntz (g1024 hG hS) h0, Option.bind_some, s_manswerOf h (by omega) ht, Option.bind_some, s_mpart h gg (lt31 hS hG) ht (by omega), Option.bind_some]
  unfold prt
  by_cases c : pt N G S t (N (low S) t) = S
  · refine (ifp (by rw [c])).trans ?_
    rw [e_M_parts_26, beq_iff_eq.mpr c]
    rfl
  · refine (ifn (fun z => c ((nI_eq (lt31 (pt_lt _ _ _) hG) (lt31 hS hG)).mp z))).trans ?_
    rw [e_M_parts_26, beq_false_of_ne c]
    rfl
/-- the table holds a set -/
def tbE (m : jx_Mem) (R : Nat) (r : Nat × Option Nat × Nat) : Prop := m.1 73 R = nI r.1 ∧ m.1 74 R = oI r.2.1 ∧ m.1 75 R = nI r.2.2
def tbM (m : jx_Mem) (N : Nat → Nat → Nat) (G K : Nat) (O C : Nat → Nat) (w z : Nat) : Prop := ∀ R, 0 < R → R < z → df G R w = 0 → tbE m R (tT N G K O C R)
theorem pt_less {S t v w : Nat} (hG : G ≤ 10) (hS : S < 2 ^ G) (h0 : 0 < S) (hp : prt N G S t = true) (hw : df G S w = 0) : pt N G S t v < S ∧ df G (pt N G S t v) w = 0 := by
  have hsub : ∀ i, i < G → (pt N G S t v).testBit i = true → S.testBit i = true := fun i _ h => (pt_sub h).2.1
  have h1 := sub_le (pt_lt S t v) hS hsub
  refine ⟨?_, df_0.mpr (fun i hi h => df_0.mp hw i hi (hsub i hi h))⟩
  rcases Nat.lt_or_ge (pt N G S t v) S with q | q
  · exact q
  · have e : pt N G S t v = S := by omega
    have : prt N G S t = false := (prt_f hG hS h0).mpr (fun g o hg ho sg so => by
      rw [← e] at sg so
      rw [(pt_sub sg).2.2, (pt_sub so).2.2])
    rw [this] at hp
    cases hp
theorem tr_85 (h : goodsM m G K O C N) (gg : gGoods G K O C N) {w S t : Nat} (hS : S < 2 ^ G) (h0 : 0 < S) (ht : t < K) (hp : prt N G S t = true) (hw : df G S w = 0) (hT : tbM m N G K O C w S) :
    f_M_trees_85 (nI w) (nI S) (nI t) (nI (C t * sumB S O G)) 0 0 m = f_M_trees_85 (nI w) (nI S) (nI t) (nI (C t * sumB S O G + smP N G S t (fun R => (tT N G K O C R).1) 10)) (nI (mxP N G S t (fun R => (tT N G K O C R).2.2) 10)) (nI 10) m := by
  have hG := gg.1
  have hK := gg.2.1
  have h1 := lp_up (fun i (p : Int32 × Int32) => f_M_trees_85 (nI w) (nI S) (nI t) p.1 p.2 i m) (fun n => (nI (C t * sumB S O G + smP N G S t (fun R => (tT N G K O C R).1) n), nI (mxP N G S t (fun R => (tT N G K O C R).2.2) n))) 10 (by
    intro n hn
    dsimp only
    rw [e_M_trees_85]
    refine (ifn (nI_ge (a := n) (b := 10) hn (by omega))).trans ?_
    rw [s_mpart h gg (lt31 hS hG) (by omega) hn, Option.bind_some]
    obtain ⟨l1, l2⟩ := pt_less (v := n) hG hS h0 hp hw
    have l3 := g1024 hG (pt_lt (N := N) (G := G) S t n)
    by_cases c : pt N G S t n = 0
    · refine (ifnp (by rw [c]; rfl)).trans ?_
      rw [e_M_trees_120]
      refine (ifnp (by rw [c]; rfl)).trans ?_
      rw [e_M_trees_145, Int32.add_zero, nI_1]
      have e1 : smP N G S t (fun R => (tT N G K O C R).1) (n + 1) = smP N G S t (fun R => (tT N G K O C R).1) n := by
        unfold smP
        rw [fb_sm_succ, if_pos c, Nat.add_zero]
      have e2 : mxP N G S t (fun R => (tT N G K O C R).2.2) (n + 1) = mxP N G S t (fun R => (tT N G K O C R).2.2) n := by
        unfold mxP
        show max _ (if pt N G S t n = 0 then 0 else _) = _
        rw [if_pos c]
        omega
      rw [e1, e2]
    · have c2 : ¬ nI (pt N G S t n) = 0 := nI_ne0 (by omega) (by omega)
      refine (ifnn c2).trans ?_
      obtain ⟨q1, q2, q3⟩ := hT _ (by omega) l1 l2
      have b0 := (tT_ok gg (pt_lt (N := N) (G := G) S t n) (by omega)).2.1
      have b1 : mxP N G S t (fun R => (tT N G K O C R).2.2) n ≤ 54 := by
        unfold mxP
        apply mxf_le
        intro v hv
        by_cases d : pt N G S t v = 0
        · rw [if_pos d]; exact Nat.zero_le _
        · rw [if_neg d]; exact (tT_ok gg (pt_lt _ _ _) (by omega)).2.1
      rw [in_nI l3 (by omega), nI_cl (show pt N G S t n < 2 ^ 31 by omega), q1]
      show f_M_trees_120 (nI w) (nI S) (nI t) _ (nI n) (nI (pt N G S t n)) _ _ m = _
      rw [e_M_trees_120]
      refine (ifnn c2).trans ?_
      rw [in_nI l3 (by omega), nI_cl (show pt N G S t n < 2 ^ 31 by omega), q3, nI_add, mx_nI (by omega) (by omega)]
      show f_M_trees_145 _ _ _ _ _ _ _ = _
      rw [e_M_trees_145, nI_1]
      have e1 : smP N G S t (fun R => (tT N G K O C R).1) (n + 1) = smP N G S t (fun R => (tT N G K O C R).1) n + (tT N G K O C (pt N G S t n)).1 := by
        unfold smP
        rw [fb_sm_succ, if_neg c]
      have e2 : mxP N G S t (fun R => (tT N G K O C R).2.2) (n + 1) = max (mxP N G S t (fun R => (tT N G K O C R).2.2) n) (tT N G K O C (pt N G S t n)).2.2 := by
        unfold mxP
        show max _ (if pt N G S t n = 0 then 0 else _) = _
        rw [if_neg c]
      rw [e1, e2, Nat.add_assoc]) 0 (Nat.zero_le _)
  exact h1
def wTb (a _ : Nat) : Prop := a = 73 ∨ a = 74 ∨ a = 75
theorem tbM_w {w z : Nat} (h : tbM m N G K O C w z) (hs : ∀ R, R < z → m'.1 73 R = m.1 73 R ∧ m'.1 74 R = m.1 74 R ∧ m'.1 75 R = m.1 75 R) : tbM m' N G K O C w z := by
  intro R h1 h2 h3
  obtain ⟨a, b, c⟩ := h R h1 h2 h3
  obtain ⟨d, e, f⟩ := hs R h2
  exact ⟨d.trans a, e.trans b, f.trans c⟩
theorem tr_41 (gg : gGoods G K O C N) {w S : Nat} (hS : S < 2 ^ G) (h0 : 0 < S) (hw : df G S w = 0) : ∀ (k t : Nat), t + k = K → ∀ m, goodsM m G K O C N → tbM m N G K O C w S → tbE m S (stT N G O C (tT N G K O C) S t) →
    ∃ m', f_M_trees_41 (nI w) (nI S) (nI t) m = f_M_trees_209 (nI w) (nI S) m' ∧ tbM m' N G K O C w S ∧ tbE m' S (stT N G O C (tT N G K O C) S K) ∧ sm wTb m m' := by
  have hG := gg.1
  have hK := gg.2.1
  have l3 := g1024 hG hS
  intro k
  induction k with
  | zero =>
    intro t ht m h hT hE
    have ht2 : t = K := by omega
    subst ht2
    refine ⟨m, ?_, hT, hE, sm.rf⟩
    rw [e_M_trees_41, h.2.1]
    exact ifp (nI_le (Nat.le_refl _) (by omega))
  | succ k ih =>
    intro t ht m h hT hE
    have ht2 : t < K := by omega
    have hst : f_M_trees_41 (nI w) (nI S) (nI t) m = (f_M_parts (nI S) (nI t) m).bind (fun p1 => if decide (¬ p1.1 = 0) = true then (bif jx_in (nI t) 6 then (f_M_sumOf_r70 (nI S) p1.2).bind (fun p2 => f_M_trees_85 (nI w) (nI S) (nI t) ((p1.2.1 71 (nI t).toNatClampNeg) * p2.1) 0 0 p2.2) else none) else (f_M_trees_203 (nI w) (nI S) (nI t) p1.2)) := by
      rw [e_M_trees_41, h.2.1]
      exact ifn (nI_ge ht2 (by omega))
    rw [hst, s_mparts h gg hS h0 (by omega), Option.bind_some]
    cases hp : prt N G S t with
    | false =>
      obtain ⟨m', r1, r2, r3, r4⟩ := ih (t + 1) (by omega) m h hT (by
        rw [stT_s, if_neg (fun z => by rw [hp] at z; cases z.1)]
        exact hE)
      refine ⟨m', ?_, r2, r3, r4⟩
      refine (ifnp eq00).trans ?_
      rw [e_M_trees_203, nI_1]
      exact r1
    | true =>
      have hb := stT_ok gg hS h0 ht2 hp
      have h85 : (if decide (¬ (bi true, m).1 = 0) = true then (bif jx_in (nI t) 6 then (f_M_sumOf_r70 (nI S) (bi true, m).2).bind (fun p2 => f_M_trees_85 (nI w) (nI S) (nI t) (((bi true, m).2.1 71 (nI t).toNatClampNeg) * p2.1) 0 0 p2.2) else none) else (f_M_trees_203 (nI w) (nI S) (nI t) (bi true, m).2)) = f_M_trees_85 (nI w) (nI S) (nI t) (nI (C t * sumB S O G + smP N G S t (fun R => (tT N G K O C R).1) 10)) (nI (mxP N G S t (fun R => (tT N G K O C R).2.2) 10)) (nI 10) m := by
        refine (ifnn ne10).trans ?_
        rw [in_nI (show t < 6 by omega) (by omega), nI_cl (show t < 2 ^ 31 by omega)]
        show (f_M_sumOf_r70 (nI S) m).bind _ = _
        rw [s_sum70 h gg hS, Option.bind_some]
        show f_M_trees_85 (nI w) (nI S) (nI t) ((m.1 71 t) * nI (sumB S O G)) 0 0 m = _
        rw [h.2.2.2.1 t ht2, pk_mul]
        exact tr_85 h gg hS h0 ht2 hp hw hT
      rw [h85, e_M_trees_85]
      have hend : ∀ A B : Option jx_Mem, (if decide ((10 : Int32) ≤ nI 10) = true then A else B) = A := fun A B => ifp (by decide)
      rw [hend, in_nI l3 (by omega), nI_cl (show S < 2 ^ 31 by omega), hE.2.1]
      have h173 : ∀ x y, f_M_trees_173 (nI w) (nI S) (nI t) (nI x) (nI y) m = f_M_trees_41 (nI w) (nI S) (nI (t + 1)) (jx_w1 (jx_w1 (jx_w1 m 74 S (nI t)) 73 S (nI x)) 75 S (nI (C t + y))) := by
        intro x y
        rw [e_M_trees_173, in_nI l3 (by omega), nI_cl (show S < 2 ^ 31 by omega), in_nI (show t < 6 by omega) (by omega), nI_cl (show t < 2 ^ 31 by omega)]
        show f_M_trees_203 (nI w) (nI S) (nI t) (jx_w1 (jx_w1 (jx_w1 m 74 S (nI t)) 73 S (nI x)) 75 S ((m.1 71 t) + nI y)) = _
        rw [h.2.2.2.1 t ht2, nI_add, e_M_trees_203, nI_1]
      have hnew : ∀ x y, tbM (jx_w1 (jx_w1 (jx_w1 m 74 S (nI t)) 73 S (nI x)) 75 S (nI (C t + y))) N G K O C w S ∧ tbE (jx_w1 (jx_w1 (jx_w1 m 74 S (nI t)) 73 S (nI x)) 75 S (nI (C t + y))) S (x, some t, C t + y) ∧ sm wTb m (jx_w1 (jx_w1 (jx_w1 m 74 S (nI t)) 73 S (nI x)) 75 S (nI (C t + y))) := by
        intro x y
        refine ⟨tbM_w hT (fun R hR => ?_), ?_, ((sm_w1 (by unfold wTb; omega)).w1 (by unfold wTb; omega)).w1 (by unfold wTb; omega)⟩
        · have hne : R ≠ S := by omega
          refine ⟨?_, ?_, ?_⟩ <;> simp [w1_rd, hne]
        · refine ⟨?_, ?_, ?_⟩ <;> simp [w1_rd, oI]
      have hgo : ∀ x y, stT N G O C (tT N G K O C) S (t + 1) = (x, some t, C t + y) → ∃ m', f_M_trees_173 (nI w) (nI S) (nI t) (nI x) (nI y) m = f_M_trees_209 (nI w) (nI S) m' ∧ tbM m' N G K O C w S ∧ tbE m' S (stT N G O C (tT N G K O C) S K) ∧ sm wTb m m' := by
        intro x y hxy
        obtain ⟨n1, n2, n3⟩ := hnew x y
        have h' : goodsM _ G K O C N := goodsM_sm h n3 (by intro a k; unfold dGM wTb; omega)
        obtain ⟨m', r1, r2, r3, r4⟩ := ih (t + 1) (by omega) _ h' n1 (by rw [hxy]; exact n2)
        exact ⟨m', (h173 x y).trans r1, r2, r3, n3.tr r4⟩
      cases hc : (stT N G O C (tT N G K O C) S t).2.1 with
      | none =>
        obtain ⟨m', r1, r2⟩ := hgo _ _ (by rw [stT_s, if_pos ⟨hp, Or.inl hc⟩])
        refine ⟨m', ?_, r2⟩
        refine Eq.trans ?_ r1
        rw [cond_true]
        exact ifp (show oI none < 0 by decide)
      | some q =>
        have hq : q < 2 ^ 31 := by
          have hb2 : ∀ n, n ≤ K → ∀ q, (stT N G O C (tT N G K O C) S n).2.1 = some q → q < n := by
            intro n
            induction n with
            | zero => intro _ q hq; cases hq
            | succ n ihn =>
              intro hn q hq
              rw [stT_s] at hq
              split at hq
              · cases hq; omega
              · have := ihn (by omega) q hq; omega
          have := hb2 t (by omega) q hc
          omega
        have hif : ∀ A B : Option jx_Mem, (if decide (oI (some q) < 0) = true then A else B) = B := fun A B => ifn (nI_pos hq)
        have hbd : (stT N G O C (tT N G K O C) S t).1 ≤ 899999910 := by
          have hb2 : ∀ n, n ≤ K → (stT N G O C (tT N G K O C) S n).1 ≤ 899999910 := by
            intro n
            induction n with
            | zero => intro _; exact Nat.zero_le _
            | succ n ihn =>
              intro hn
              rw [stT_s]
              split
              · rename_i z
                exact stT_ok gg hS h0 (by omega) z.1
              · exact ihn (by omega)
          exact hb2 t (by omega)
        by_cases c : C t * sumB S O G + smP N G S t (fun R => (tT N G K O C R).1) 10 < (stT N G O C (tT N G K O C) S t).1
        · obtain ⟨m', r1, r2⟩ := hgo _ _ (by rw [stT_s, if_pos ⟨hp, Or.inr c⟩])
          refine ⟨m', ?_, r2⟩
          refine Eq.trans ?_ r1
          show (if decide (oI (some q) < 0) = true then _ else (if decide (m.1 73 S ≤ nI _) = true then _ else _)) = _
          rw [hif, hE.1]
          exact ifn (nI_ge c (by omega))
        · obtain ⟨m', r1, r2, r3, r4⟩ := ih (t + 1) (by omega) m h hT (by
            rw [stT_s, if_neg (fun z => by
              rcases z.2 with z | z
              · rw [hc] at z; cases z
              · exact c z)]
            exact hE)
          refine ⟨m', ?_, r2, r3, r4⟩
          refine Eq.trans ?_ r1
          show (if decide (oI (some q) < 0) = true then _ else (if decide (m.1 73 S ≤ nI _) = true then _ else _)) = _
          rw [hif, hE.1]
          refine (ifp (nI_le (by omega) (by omega))).trans ?_
          rw [e_M_trees_203, nI_1]
theorem tr_2 (gg : gGoods G K O C N) {w : Nat} (hw : w < 2 ^ G) : ∀ (k S : Nat), S + k = w + 1 → 0 < S → ∀ m, goodsM m G K O C N → tbM m N G K O C w S →
    ∃ m', f_M_trees_2 (nI w) (nI S) m = some m' ∧ tbM m' N G K O C w (w + 1) ∧ sm wTb m m' := by
  have hG := gg.1
  have hK := gg.2.1
  have hw2 := g1024 hG hw
  intro k
  induction k with
  | zero =>
    intro S hS h0 m h hT
    have hS2 : S = w + 1 := by omega
    subst hS2
    refine ⟨m, ?_, hT, sm.rf⟩
    rw [e_M_trees_2]
    exact ifp (nI_lt (by omega) (by omega))
  | succ k ih =>
    intro S hS h0 m h hT
    have hS2 : S < 2 ^ G := by omega
    have e1 : f_M_trees_2 (nI w) (nI S) m = (if decide ((nI S &&& (nI w ^^^ (-1))) = 0) = true then (bif (jx_in (nI S) 1024 && true) then (let m1 := jx_w1 m 73 (nI S).toNatClampNeg 0; bif (jx_in (nI S) 1024 && true) then (let m2 := jx_w1 m1 75 (nI S).toNatClampNeg 0; bif (jx_in (nI S) 1024 && true) then (let m3 := jx_w1 m2 74 (nI S).toNatClampNeg (-1); f_M_trees_41 (nI w) (nI S) 0 m3) else none) else none) else none) else (f_M_trees_209 (nI w) (nI S) m)) := by
      rw [e_M_trees_2]
      exact ifn (nI_nlt (by omega) (by omega))
    rw [e1, df_nI hG hS2]
    by_cases c : df G S w = 0
    · have hT' : tbM (jx_w1 (jx_w1 (jx_w1 m 73 S 0) 75 S 0) 74 S (-1)) N G K O C w S := tbM_w hT (fun R hR => by
        have hne : R ≠ S := by omega
        refine ⟨?_, ?_, ?_⟩ <;> simp [w1_rd, hne])
      have s1 : sm wTb m (jx_w1 (jx_w1 (jx_w1 m 73 S 0) 75 S 0) 74 S (-1)) := ((sm_w1 (by unfold wTb; omega)).w1 (by unfold wTb; omega)).w1 (by unfold wTb; omega)
      have h' : goodsM _ G K O C N := goodsM_sm h s1 (by intro a k; unfold dGM wTb; omega)
      obtain ⟨m1, r1, r2, r3, r4⟩ := tr_41 (w := w) gg hS2 h0 c K 0 (by omega) _ h' hT' (by refine ⟨?_, ?_, ?_⟩ <;> simp [w1_rd, stT, oI] <;> rfl)
      have h'' : goodsM m1 G K O C N := goodsM_sm h' r4 (by intro a k; unfold dGM wTb; omega)
      obtain ⟨m2, q1, q2, q3⟩ := ih (S + 1) (by omega) (by omega) m1 h'' (by
        intro R h1 h2 h3
        by_cases d : R = S
        · subst d
          rw [tT_eq hG hK hS2 h0]
          exact r3
        · exact r2 R h1 (by omega) h3)
      refine ⟨m2, ?_, q2, (s1.tr r4).tr q3⟩
      refine (ifp (by rw [c]; rfl)).trans ?_
      rw [in_nI (show S < 1024 by omega) (by omega), nI_cl (show S < 2 ^ 31 by omega)]
      refine Eq.trans r1 ?_
      rw [e_M_trees_209, nI_1]
      exact q1
    · obtain ⟨m2, q1, q2, q3⟩ := ih (S + 1) (by omega) (by omega) m h (by
        intro R h1 h2 h3
        by_cases d : R = S
        · subst d; exact absurd h3 c
        · exact hT R h1 (by omega) h3)
      refine ⟨m2, ?_, q2, q3⟩
      refine (ifn (fun z => c ((nI_eq (b := 0) (lt31 (df_lt _ _ _) hG) (by omega)).mp z))).trans ?_
      rw [e_M_trees_209, nI_1]
      exact q1
theorem s_trees (h : goodsM m G K O C N) (gg : gGoods G K O C N) {w : Nat} (hw : w < 2 ^ G) (h0 : 0 < w) : ∃ m', f_M_trees (nI w) m = some m' ∧ (∀ R, 0 < R → R < 2 ^ G → df G R w = 0 → tbE m' R (tT N G K O C R)) ∧ sm wTb m m' := by
  obtain ⟨m', q1, q2, q3⟩ := tr_2 gg hw w 1 (by omega) (by omega) m h (fun R h1 h2 => by omega)
  refine ⟨m', by rw [e_M_trees]; exact q1, fun R h1 h2 h3 => q2 R h1 ?_ h3, q3⟩
  have := sub_le h2 hw (df_0.mp h3)
  omega
end TREES
