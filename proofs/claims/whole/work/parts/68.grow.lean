/-! the best tree: the class's, by what it keeps -/
section GROW
variable {m m' : jx_Mem} {G K : Nat} {O C : Nat → Nat} {N : Nat → Nat → Nat}
theorem s_isSet {S : Nat} (hS : S < 1024) : f_Tree_isSet (nI S) m = some (1, m) := by
  rw [e_Tree_isSet]
  refine (ifn (nI_pos (by omega))).trans ((ifn (nI_ge (b := 1024) hS (by omega))).trans ?_)
  rw [e_Tree_isSet_16]
  rfl
theorem s_parts (h : goodsF m G K O C N) (gg : gGoods G K O C N) {S t : Nat} (hS : S < 2 ^ G) (h0 : 0 < S) (ht : t < K) : f_Goods_parts (nI S) (nI t) m = some (bi (prt N G S t), m) := by
  have hG := gg.1
  have key : ∀ k v, v + k = 10 → (∀ v', v' < v → pt N G S t v' = 0) → f_Goods_parts_2 (nI S) (nI t) (nI v) m = some (bi (prt N G S t), m) := by
    intro k
    induction k with
    | zero =>
      intro v hv hz
      exfalso
      obtain ⟨l1, l2⟩ := low_lt hG hS h0
      have h1 := hz (N (low S) t) (by have := gg.2.2.2.2.1 (low S) t; omega)
      have h2 := pt_in (N := N) l1 l2 rfl (t := t)
      rw [h1] at h2
      simp at h2
    | succ k ih =>
      intro v hv hz
      rw [e_Goods_parts_2]
      refine (ifn (nI_ge (a := v) (b := 10) (by omega) (by omega))).trans ?_
      rw [s_part h gg hS ht (by omega), Option.bind_some]
      by_cases c : pt N G S t v = 0
      · refine (ifp (by rw [c]; rfl)).trans ?_
        rw [nI_1]
        exact ih (v + 1) (by omega) (fun v' hv' => by
          by_cases d : v' = v
          · rw [d]; exact c
          · exact hz v' (by omega))
      · refine (ifn (fun z => c ((nI_eq (b := 0) (lt31 (pt_lt _ _ _) hG) (by omega)).mp z))).trans ?_
        by_cases d : pt N G S t v = S
        · refine (ifp (by rw [d])).trans ?_
          have e : prt N G S t = false := (prt_f hG hS h0).mpr (fun g o hg ho sg so => by
            rw [← d] at sg so
            rw [(pt_sub sg).2.2, (pt_sub so).2.2])
          rw [e_Goods_parts_33, e]
          rfl
        · refine (ifn (fun z => d ((nI_eq (lt31 (pt_lt _ _ _) hG) (lt31 hS hG)).mp z))).trans ?_
          have e : prt N G S t = true := by
            cases q : prt N G S t
            · exfalso
              apply d
              have q2 := (prt_f hG hS h0).mp q
              obtain ⟨g, hg, sg⟩ := (nz_ex (pt_lt (N := N) (G := G) S t v)).mp c
              refine (bs_eq hS (fun i hi => ?_)).symm
              cases r : S.testBit i
              · simp
              · have := q2 i g hi hg r (pt_sub sg).2.1
                rw [(pt_sub sg).2.2] at this
                simp [this]
            · rfl
          rw [e_Goods_parts_33, e]
          rfl
  rw [e_Goods_parts]
  exact key 10 0 (by omega) (fun v' h => by omega)
def memo (m : jx_Mem) (N : Nat → Nat → Nat) (G K : Nat) (O C : Nat → Nat) : Prop := ∀ R, 0 < R → R < 2 ^ G → m.1 15 R ≠ -1 → m.1 15 R = nI (tT N G K O C R).1 ∧ m.1 16 R = oI (tT N G K O C R).2.1 ∧ ∀ t v, (tT N G K O C R).2.1 = some t → pt N G R t v ≠ 0 → m.1 15 (pt N G R t v) ≠ -1
def fil (m m' : jx_Mem) : Prop := ∀ R, m.1 15 R ≠ -1 → m'.1 15 R ≠ -1
def w156 (a _ : Nat) : Prop := a = 15 ∨ a = 16
theorem least_ok (gg : gGoods G K O C N) : ∀ p, ∀ S d lev m, pS N G K S = p → d + p ≤ 6 → 2 * p + 1 ≤ lev → S < 2 ^ G → 0 < S → goodsF m G K O C N → memo m N G K O C →
    ∃ m', f_Tree_least lev (nI S) (nI d) m = some (nI (tT N G K O C S).1, m') ∧ memo m' N G K O C ∧ m'.1 15 S ≠ -1 ∧ sm w156 m m' ∧ fil m m' := by
  have hG := gg.1
  have hK := gg.2.1
  intro p
  induction p using Nat.strongRecOn with
  | _ p ih =>
    intro S d lev m hp hd hl hS h0 h hm
    have hS2 := g1024 hG hS
    obtain ⟨l, rfl⟩ : ∃ l, lev = l + 1 := ⟨lev - 1, by omega⟩
    -- the parts of a test
    have hparts : ∀ t, t < K → prt N G S t = true → ∀ m, goodsF m G K O C N → memo m N G K O C → ∃ m', f_Tree_leastOfParts l (nI S) (nI t) (nI (d + 1)) m = some (nI (smP N G S t (fun R => (tT N G K O C R).1) 10), m') ∧ memo m' N G K O C ∧ (∀ v, pt N G S t v ≠ 0 → v < 10 → m'.1 15 (pt N G S t v) ≠ -1) ∧ sm w156 m m' ∧ fil m m' := by
      intro t ht hpr m h hm
      have hp1 : 1 ≤ p := by
        have : 0 < pS N G K S := fb_ct_pos.mpr ⟨t, ht, hpr⟩
        omega
      obtain ⟨l', rfl⟩ : ∃ l', l = l' + 1 := ⟨l - 1, by omega⟩
      have key : ∀ k v, v + k = 10 → ∀ m, goodsF m G K O C N → memo m N G K O C → (∀ v', pt N G S t v' ≠ 0 → v' < v → m.1 15 (pt N G S t v') ≠ -1) → ∃ m', f_Tree_leastOfParts_6 (l' + 1) (nI S) (nI t) (nI (d + 1)) (nI (smP N G S t (fun R => (tT N G K O C R).1) v)) (nI v) m = some (nI (smP N G S t (fun R => (tT N G K O C R).1) 10), m') ∧ memo m' N G K O C ∧ (∀ v', pt N G S t v' ≠ 0 → v' < 10 → m'.1 15 (pt N G S t v') ≠ -1) ∧ sm w156 m m' ∧ fil m m' := by
        intro k
        induction k with
        | zero =>
          intro v hv m h hm hf
          have hv2 : v = 10 := by omega
          subst hv2
          refine ⟨m, ?_, hm, hf, sm.rf, fun R hR => hR⟩
          rw [e_Tree_leastOfParts_6]
          exact ifp (by decide)
        | succ k ihk =>
          intro v hv m h hm hf
          by_cases c : pt N G S t v = 0
          · obtain ⟨m', r1, r2, r3, r4, r5⟩ := ihk (v + 1) (by omega) m h hm (fun v' h1 h2 => by
              by_cases e : v' = v
              · rw [e] at h1; exact absurd c h1
              · exact hf v' h1 (by omega))
            refine ⟨m', ?_, r2, r3, r4, r5⟩
            rw [e_Tree_leastOfParts_6]
            refine (ifn (nI_ge (a := v) (b := 10) (by omega) (by omega))).trans ?_
            rw [s_part h gg hS ht (by omega), Option.bind_some]
            refine (ifp (by rw [c]; rfl)).trans ?_
            rw [e_Tree_leastOfParts_43, nI_1, ← r1]
            have e1 : smP N G S t (fun R => (tT N G K O C R).1) (v + 1) = smP N G S t (fun R => (tT N G K O C R).1) v := by
              unfold smP
              rw [fb_sm_succ, if_pos c, Nat.add_zero]
            rw [e1]
          · have hlt := pS_lt hG hS h0 ht hpr c
            obtain ⟨m1, q1, q2, q3, q4, q5⟩ := ih _ (by omega) (pt N G S t v) (d + 1) l' m rfl (by omega) (by omega) (pt_lt _ _ _) (by omega) h hm
            have h' : goodsF m1 G K O C N := goodsF_sm h q4 (by intro a k; unfold dGF w156; omega)
            obtain ⟨m', r1, r2, r3, r4, r5⟩ := ihk (v + 1) (by omega) m1 h' q2 (fun v' h1 h2 => by
              by_cases e : v' = v
              · rw [e]; exact q3
              · exact q5 _ (hf v' h1 (by omega)))
            refine ⟨m', ?_, r2, r3, q4.tr r4, fun R hR => r5 R (q5 R hR)⟩
            rw [e_Tree_leastOfParts_6]
            refine (ifn (nI_ge (a := v) (b := 10) (by omega) (by omega))).trans ?_
            rw [s_part h gg hS ht (by omega), Option.bind_some]
            refine (ifn (fun z => c ((nI_eq (b := 0) (lt31 (pt_lt _ _ _) hG) (by omega)).mp z))).trans ?_
            rw [q1, Option.bind_some, e_Tree_leastOfParts_43, nI_1, nI_add, ← r1]
            have e1 : smP N G S t (fun R => (tT N G K O C R).1) (v + 1) = smP N G S t (fun R => (tT N G K O C R).1) v + (tT N G K O C (pt N G S t v)).1 := by
              unfold smP
              rw [fb_sm_succ, if_neg c]
            rw [e1]
      obtain ⟨m', r⟩ := key 10 0 (by omega) m h hm (fun v' _ h => by omega)
      refine ⟨m', ?_, r.2⟩
      rw [e_Tree_leastOfParts]
      exact r.1
    -- the tests
    have htests : ∀ k t, t + k = K → ∀ m, goodsF m G K O C N → memo m N G K O C → (∀ q v, (stT N G O C (tT N G K O C) S t).2.1 = some q → pt N G S q v ≠ 0 → m.1 15 (pt N G S q v) ≠ -1) → ∃ m', f_Tree_least_40 (l + 1) (nI S) (nI d) (nI (stT N G O C (tT N G K O C) S t).1) (oI (stT N G O C (tT N G K O C) S t).2.1) (nI t) m = some (nI (tT N G K O C S).1, m') ∧ memo m' N G K O C ∧ m'.1 15 S ≠ -1 ∧ sm w156 m m' ∧ fil m m' := by
      intro k
      induction k with
      | zero =>
        intro t ht m h hm hf
        have ht2 : t = K := by omega
        subst ht2
        have hb := tT_ok gg hS h0
        rw [← tT_eq hG hK hS h0] at hf ⊢
        have hne : nI (tT N G t O C S).1 ≠ -1 := oI_ne (by omega)
        refine ⟨jx_w1 (jx_w1 m 15 S (nI (tT N G t O C S).1)) 16 S (oI (tT N G t O C S).2.1), ?_, ?_, ?_, (sm_w1 (by unfold w156; omega)).w1 (by unfold w156; omega), ?_⟩
        · rw [e_Tree_least_40, e_Goods_tests, Option.bind_some, h.2.1]
          refine (ifp (nI_le (Nat.le_refl _) (by omega))).trans ?_
          rw [in_nI hS2 (by omega), nI_cl (show S < 2 ^ 31 by omega)]
          rfl
        · intro R h1 h2 h3
          rw [w1_cell (by omega)] at h3
          rw [w1_cell (by omega), w1_rd _ 16]
          by_cases e : R = S
          · subst e
            rw [w1_same, if_pos ⟨rfl, rfl⟩]
            refine ⟨rfl, rfl, fun q v hq hv => ?_⟩
            rw [w1_cell (by omega), w1_rd]
            split
            · exact hne
            · exact hf q v hq hv
          · rw [w1_idx e, if_neg (fun z => e z.2), w1_cell (by omega)]
            rw [w1_idx e] at h3
            obtain ⟨a1, a2, a3⟩ := hm R h1 h2 h3
            refine ⟨a1, a2, fun q v hq hv => ?_⟩
            rw [w1_cell (by omega), w1_rd]
            split
            · exact hne
            · exact a3 q v hq hv
        · rw [w1_cell (by omega), w1_same]; exact hne
        · intro R hR
          rw [w1_cell (by omega), w1_rd]
          split
          · exact hne
          · exact hR
      | succ k ihk =>
        intro t ht m h hm hf
        have ht2 : t < K := by omega
        have e40 : f_Tree_least_40 (l + 1) (nI S) (nI d) (nI (stT N G O C (tT N G K O C) S t).1) (oI (stT N G O C (tT N G K O C) S t).2.1) (nI t) m = ((f_Goods_parts (nI S) (nI t) m).bind (fun p2 => if decide (p2.1 = 0) = true then (f_Tree_least_115 (l + 1) (nI S) (nI d) (nI (stT N G O C (tT N G K O C) S t).1) (oI (stT N G O C (tT N G K O C) S t).2.1) (nI t) p2.2) else ((f_Goods_oftenOf (nI S) p2.2).bind (fun p3 => (f_Goods_costOf (nI t) p3.2).bind (fun p4 => (f_Tree_leastOfParts l (nI S) (nI t) (nI d + 1) p4.2).bind (fun p5 => if decide (oI (stT N G O C (tT N G K O C) S t).2.1 = (-1)) = true then (f_Tree_least_108 (l + 1) (nI S) (nI d) (nI t) ((p3.1 * p4.1) + p5.1) p5.2) else (if decide (nI (stT N G O C (tT N G K O C) S t).1 ≤ ((p3.1 * p4.1) + p5.1)) = true then (f_Tree_least_115 (l + 1) (nI S) (nI d) (nI (stT N G O C (tT N G K O C) S t).1) (oI (stT N G O C (tT N G K O C) S t).2.1) (nI t) p5.2) else (f_Tree_least_108 (l + 1) (nI S) (nI d) (nI t) ((p3.1 * p4.1) + p5.1) p5.2)))))))) := by
          rw [e_Tree_least_40, e_Goods_tests, Option.bind_some, h.2.1]
          exact ifn (nI_ge ht2 (by omega))
        rw [e40, s_parts h gg hS h0 ht2, Option.bind_some]
        cases hpr : prt N G S t with
        | false =>
          have es : stT N G O C (tT N G K O C) S (t + 1) = stT N G O C (tT N G K O C) S t := by rw [stT_s, if_neg (fun z => by rw [hpr] at z; cases z.1)]
          obtain ⟨m', r1, r2⟩ := ihk (t + 1) (by omega) m h hm (by rw [es]; exact hf)
          refine ⟨m', ?_, r2⟩
          refine (ifp eq00).trans ?_
          rw [e_Tree_least_115, nI_1, ← r1, es]
        | true =>
          obtain ⟨m1, q1, q2, q3, q4, q5⟩ := hparts t ht2 hpr m h hm
          have h' : goodsF m1 G K O C N := goodsF_sm h q4 (by intro a k; unfold dGF w156; omega)
          have hb := stT_ok gg hS h0 ht2 hpr
          have hin : ∀ A, (if decide ((bi true, m).1 = 0) = true then A else ((f_Goods_oftenOf (nI S) (bi true, m).2).bind (fun p3 => (f_Goods_costOf (nI t) p3.2).bind (fun p4 => (f_Tree_leastOfParts l (nI S) (nI t) (nI d + 1) p4.2).bind (fun p5 => if decide (oI (stT N G O C (tT N G K O C) S t).2.1 = (-1)) = true then (f_Tree_least_108 (l + 1) (nI S) (nI d) (nI t) ((p3.1 * p4.1) + p5.1) p5.2) else (if decide (nI (stT N G O C (tT N G K O C) S t).1 ≤ ((p3.1 * p4.1) + p5.1)) = true then (f_Tree_least_115 (l + 1) (nI S) (nI d) (nI (stT N G O C (tT N G K O C) S t).1) (oI (stT N G O C (tT N G K O C) S t).2.1) (nI t) p5.2) else (f_Tree_least_108 (l + 1) (nI S) (nI d) (nI t) ((p3.1 * p4.1) + p5.1) p5.2))))))) = (if decide (oI (stT N G O C (tT N G K O C) S t).2.1 = (-1)) = true then (f_Tree_least_108 (l + 1) (nI S) (nI d) (nI t) (nI (C t * sumB S O G + smP N G S t (fun R => (tT N G K O C R).1) 10)) m1) else (if decide (nI (stT N G O C (tT N G K O C) S t).1 ≤ nI (C t * sumB S O G + smP N G S t (fun R => (tT N G K O C R).1) 10)) = true then (f_Tree_least_115 (l + 1) (nI S) (nI d) (nI (stT N G O C (tT N G K O C) S t).1) (oI (stT N G O C (tT N G K O C) S t).2.1) (nI t) m1) else (f_Tree_least_108 (l + 1) (nI S) (nI d) (nI t) (nI (C t * sumB S O G + smP N G S t (fun R => (tT N G K O C R).1) 10)) m1))) := by
            intro A
            refine (ifn ne10).trans ?_
            show (f_Goods_oftenOf (nI S) m).bind _ = _
            rw [s_oftenOf h gg hS, Option.bind_some, s_costOf h gg ht2, Option.bind_some, nI_1]
            dsimp only
            rw [q1, Option.bind_some, pk_mul, nI_add, Nat.mul_comm (sumB S O G)]
          rw [hin]
          have hlt : ∀ n, n ≤ K → (stT N G O C (tT N G K O C) S n).1 ≤ 899999910 ∧ ∀ q, (stT N G O C (tT N G K O C) S n).2.1 = some q → q < n := by
            intro n
            induction n with
            | zero => intro _; exact ⟨Nat.zero_le _, fun q hq => by cases hq⟩
            | succ n ihn =>
              intro hn
              have i1 := ihn (by omega)
              rw [stT_s]
              split
              · rename_i z
                exact ⟨stT_ok gg hS h0 (by omega) z.1, fun q hq => by cases hq; omega⟩
              · exact ⟨i1.1, fun q hq => by have := i1.2 q hq; omega⟩
          have hgo : stT N G O C (tT N G K O C) S (t + 1) = (C t * sumB S O G + smP N G S t (fun R => (tT N G K O C R).1) 10, some t, C t + mxP N G S t (fun R => (tT N G K O C R).2.2) 10) → ∃ m', f_Tree_least_108 (l + 1) (nI S) (nI d) (nI t) (nI (C t * sumB S O G + smP N G S t (fun R => (tT N G K O C R).1) 10)) m1 = some (nI (tT N G K O C S).1, m') ∧ memo m' N G K O C ∧ m'.1 15 S ≠ -1 ∧ sm w156 m m' ∧ fil m m' := by
            intro es
            obtain ⟨m', r1, r2, r3, r4, r5⟩ := ihk (t + 1) (by omega) m1 h' q2 (by
              rw [es]
              intro q v hq hv
              cases hq
              refine q3 v hv ?_
              obtain ⟨g, hg, sg⟩ := (nz_ex (pt_lt (N := N) (G := G) S t v)).mp hv
              have := gg.2.2.2.2.1 g t
              have := (pt_sub sg).2.2
              omega)
            refine ⟨m', ?_, r2, r3, q4.tr r4, fun R hR => r5 R (q5 R hR)⟩
            rw [es] at r1
            rw [e_Tree_least_108, e_Tree_least_115, nI_1]
            exact r1
          cases hc : (stT N G O C (tT N G K O C) S t).2.1 with
          | none =>
            obtain ⟨m', r1, r2⟩ := hgo (by rw [stT_s, if_pos ⟨hpr, Or.inl hc⟩])
            refine ⟨m', ?_, r2⟩
            exact (ifp rfl).trans r1
          | some q =>
            have hq := (hlt t (by omega)).2 q hc
            by_cases c : C t * sumB S O G + smP N G S t (fun R => (tT N G K O C R).1) 10 < (stT N G O C (tT N G K O C) S t).1
            · obtain ⟨m', r1, r2⟩ := hgo (by rw [stT_s, if_pos ⟨hpr, Or.inr c⟩])
              refine ⟨m', ?_, r2⟩
              refine (ifn (oI_ne (show q < 2 ^ 31 by omega))).trans ?_
              have := (hlt t (by omega)).1
              exact (ifn (nI_ge c (by omega))).trans r1
            · have es : stT N G O C (tT N G K O C) S (t + 1) = stT N G O C (tT N G K O C) S t := by
                rw [stT_s, if_neg (fun z => by
                  rcases z.2 with z | z
                  · rw [hc] at z; cases z
                  · exact c z)]
              obtain ⟨m', r1, r2, r3, r4, r5⟩ := ihk (t + 1) (by omega) m1 h' q2 (by
                rw [es]
                intro q v hq hv
                exact q5 _ (hf q v hq hv))
              refine ⟨m', ?_, r2, r3, q4.tr r4, fun R hR => r5 R (q5 R hR)⟩
              refine (ifn (oI_ne (show q < 2 ^ 31 by omega))).trans ?_
              refine (ifp (nI_le (by omega) (by omega))).trans ?_
              rw [e_Tree_least_115, nI_1, ← r1, es, hc]
    rw [e_Tree_least, s_isSet hS2, Option.bind_some]
    have hb := tT_ok gg hS h0
    by_cases c : m.1 15 S = -1
    · obtain ⟨m', r1, r2⟩ := htests K 0 (by omega) m h hm (fun q v hq => by cases hq)
      refine ⟨m', ?_, r2⟩
      refine (ifn ne10).trans ?_
      refine (ifp (nI_le (b := 6) (by omega) (by omega))).trans ?_
      rw [in_nI hS2 (by omega), nI_cl (show S < 2 ^ 31 by omega), c]
      refine Eq.trans ?_ r1
      rw [cond_true]
      exact ifp rfl
    · refine ⟨m, ?_, hm, c, sm.rf, fun R hR => hR⟩
      refine (ifn ne10).trans ?_
      refine (ifp (nI_le (b := 6) (by omega) (by omega))).trans ?_
      rw [in_nI hS2 (by omega), nI_cl (show S < 2 ^ 31 by omega), cond_true]
      refine (ifn c).trans ?_
      rw [(hm S h0 hS c).1]
      rfl
end GROW
