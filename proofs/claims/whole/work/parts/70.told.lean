/-! copper: what can be told, its meaning -/
def baV (G : Nat) (O : Nat → Nat) (S : Nat) : Nat := if bc (nI S) = 1 then sumB S O G else 0
def stV (N : Nat → Nat → Nat) (G : Nat) (O C : Nat → Nat) (V : Nat → Nat → Nat) (S c : Nat) : Nat → Nat
  | 0 => baV G O S
  | t + 1 => if C t ≤ c ∧ prt N G S t = true then max (stV N G O C V S c t) (smP N G S t (fun R => V R (c - C t)) 10) else stV N G O C V S c t
def Vf (N : Nat → Nat → Nat) (G K : Nat) (O C : Nat → Nat) : Nat → Nat → Nat → Nat
  | 0, _, _ => 0
  | f + 1, S, c => stV N G O C (Vf N G K O C f) S c K
def tV (N : Nat → Nat → Nat) (G K : Nat) (O C : Nat → Nat) (S c : Nat) : Nat := Vf N G K O C 7 S c
theorem bc_one : ∀ S, S < 1024 → 0 < S → bc (nI S) = 1 → ∀ i, i < 10 → S.testBit i = true → i = low S := by decide +kernel
section TOLD
variable {N : Nat → Nat → Nat} {G K : Nat} {O C : Nat → Nat}
theorem stV_s (V : Nat → Nat → Nat) (S c t : Nat) : stV N G O C V S c (t + 1) = if C t ≤ c ∧ prt N G S t = true then max (stV N G O C V S c t) (smP N G S t (fun R => V R (c - C t)) 10) else stV N G O C V S c t := rfl
theorem stV_congr {V V' : Nat → Nat → Nat} {S c c' : Nat} : ∀ n, (∀ t, t < n → prt N G S t = true → (C t ≤ c ↔ C t ≤ c')) → (∀ t v, t < n → prt N G S t = true → C t ≤ c → pt N G S t v ≠ 0 → V (pt N G S t v) (c - C t) = V' (pt N G S t v) (c' - C t)) → stV N G O C V S c n = stV N G O C V' S c' n := by
  intro n
  induction n with
  | zero => intro _ _; rfl
  | succ n ih =>
    intro h0 h
    rw [stV_s, stV_s, ih (fun t ht => h0 t (by omega)) (fun t v ht => h t v (by omega))]
    by_cases c1 : prt N G S n = true
    · by_cases c2 : C n ≤ c
      · rw [if_pos ⟨c2, c1⟩, if_pos ⟨(h0 n (by omega) c1).mp c2, c1⟩, smP_congr (f := fun R => V R (c - C n)) (g := fun R => V' R (c' - C n)) (fun v _ hq => h n v (by omega) c1 c2 hq)]
      · rw [if_neg (fun z => c2 z.1), if_neg (fun z => c2 ((h0 n (by omega) c1).mpr z.1))]
    · rw [if_neg (fun z => c1 z.2), if_neg (fun z => c1 z.2)]
theorem Vf_fuel (hG : G ≤ 10) : ∀ f f' S c, S < 2 ^ G → 0 < S → pS N G K S < f → pS N G K S < f' → Vf N G K O C f S c = Vf N G K O C f' S c := by
  intro f
  induction f with
  | zero => intro f' S c _ _ h; omega
  | succ f ih =>
    intro f' S c hS h0 h1 h2
    cases f' with
    | zero => omega
    | succ f' =>
      show stV N G O C (Vf N G K O C f) S c K = stV N G O C (Vf N G K O C f') S c K
      apply stV_congr
      · intro t _ _; exact Iff.rfl
      · intro t v ht hp hc hr
        have := pS_lt hG hS h0 ht hp hr
        exact ih f' _ _ (pt_lt _ _ _) (by omega) (by omega) (by omega)
theorem tV_eq (hG : G ≤ 10) (hK : K ≤ 6) {S : Nat} (c : Nat) (hS : S < 2 ^ G) (h0 : 0 < S) : tV N G K O C S c = stV N G O C (tV N G K O C) S c K := by
  show stV N G O C (Vf N G K O C 6) S c K = stV N G O C (tV N G K O C) S c K
  apply stV_congr
  · intro t _ _; exact Iff.rfl
  · intro t v ht hp hc hr
    have h1 := pS_lt hG hS h0 ht hp hr
    have h2 := pS_le (N := N) (G := G) (K := K) S
    exact Vf_fuel hG 6 7 _ _ (pt_lt _ _ _) (by omega) (by omega) (by omega)
def yB : Nat → Nat
  | 0 => 90
  | p + 1 => 10 * yB p
theorem yB_ge : ∀ p, 90 ≤ yB p := by
  intro p
  induction p with
  | zero => exact Nat.le_refl _
  | succ p ih => show 90 ≤ 10 * yB p; omega
theorem baV_le (gg : gGoods G K O C N) (S : Nat) : baV G O S ≤ 90 := by
  have hG := gg.1
  unfold baV
  split
  · have : sumB S O G ≤ G * 9 := sumB_le (fun k hk => (gg.2.2.1 k hk).2)
    omega
  · exact Nat.zero_le _
theorem tV_bd (gg : gGoods G K O C N) : ∀ p S c, S < 2 ^ G → 0 < S → pS N G K S ≤ p → tV N G K O C S c ≤ yB p := by
  have hG := gg.1
  have hK := gg.2.1
  intro p
  induction p with
  | zero =>
    intro S c hS h0 hp
    rw [tV_eq hG hK c hS h0]
    have h1 : ∀ n, n ≤ K → stV N G O C (tV N G K O C) S c n = baV G O S := by
      intro n
      induction n with
      | zero => intro _; rfl
      | succ n ih =>
        intro hn
        have hz : fb_ct (fun t => prt N G S t) K = 0 := by unfold pS at hp; omega
        have := fb_ct_zero.mp hz n (by omega)
        rw [stV_s, if_neg (fun z => by rw [this] at z; cases z.2), ih (by omega)]
    rw [h1 K (Nat.le_refl _)]
    exact baV_le gg S
  | succ p ih =>
    intro S c hS h0 hp
    rw [tV_eq hG hK c hS h0]
    have h1 : ∀ n, n ≤ K → stV N G O C (tV N G K O C) S c n ≤ 10 * yB p := by
      intro n
      induction n with
      | zero =>
        intro _
        have := baV_le gg S
        have := yB_ge p
        show baV G O S ≤ _
        omega
      | succ n ihn =>
        intro hn
        have i1 := ihn (by omega)
        rw [stV_s]
        split
        · rename_i z
          have c2 : smP N G S n (fun R => tV N G K O C R (c - C n)) 10 ≤ 10 * yB p := by
            unfold smP
            apply fb_sm_bound
            intro v hv
            by_cases d : pt N G S n v = 0
            · rw [if_pos d]; exact Nat.zero_le _
            · rw [if_neg d]
              have := pS_lt hG hS h0 (show n < K by omega) z.2 d
              exact ih _ _ (pt_lt _ _ _) (by omega) (by omega)
          omega
        · exact i1
    exact h1 K (Nat.le_refl _)
theorem tV_ok (gg : gGoods G K O C N) {S : Nat} (c : Nat) (hS : S < 2 ^ G) (h0 : 0 < S) : tV N G K O C S c ≤ 90000000 := by
  have h1 := tV_bd gg 6 S c hS h0 (Nat.le_trans (pS_le S) gg.2.1)
  exact h1
theorem stV_ok (gg : gGoods G K O C N) {S : Nat} (c : Nat) (hS : S < 2 ^ G) (h0 : 0 < S) : ∀ n, n ≤ K → stV N G O C (tV N G K O C) S c n ≤ 900000000 := by
  intro n
  induction n with
  | zero => intro _; have := baV_le gg S; show baV G O S ≤ _; omega
  | succ n ih =>
    intro hn
    have i1 := ih (by omega)
    rw [stV_s]
    split
    · have c2 : smP N G S n (fun R => tV N G K O C R (c - C n)) 10 ≤ 10 * 90000000 := by
        unfold smP
        apply fb_sm_bound
        intro v hv
        by_cases d : pt N G S n v = 0
        · rw [if_pos d]; exact Nat.zero_le _
        · rw [if_neg d]; exact tV_ok gg _ (pt_lt _ _ _) (by omega)
      omega
    · exact i1
theorem smV_ok (gg : gGoods G K O C N) (S c t : Nat) : ∀ n, n ≤ 10 → smP N G S t (fun R => tV N G K O C R c) n ≤ 900000000 := by
  intro n hn
  have : smP N G S t (fun R => tV N G K O C R c) n ≤ n * 90000000 := by
    unfold smP
    apply fb_sm_bound
    intro v hv
    by_cases d : pt N G S t v = 0
    · rw [if_pos d]; exact Nat.zero_le _
    · rw [if_neg d]; exact tV_ok gg _ (pt_lt _ _ _) (by omega)
  have : n * 90000000 ≤ 900000000 := by omega
  omega
/-- what the tests that part a set cost -/
def pC (N : Nat → Nat → Nat) (G K : Nat) (C : Nat → Nat) (S : Nat) : Nat := fb_sm (fun t => if prt N G S t = true then C t else 0) K
theorem pC_lt {S t v : Nat} (hG : G ≤ 10) (hS : S < 2 ^ G) (h0 : 0 < S) (ht : t < K) (hp : prt N G S t = true) (hr : pt N G S t v ≠ 0) : pC N G K C (pt N G S t v) + C t ≤ pC N G K C S := by
  have hR := pt_lt (N := N) (G := G) S t v
  have hR0 : 0 < pt N G S t v := by omega
  have h1 : prt N G (pt N G S t v) t = false := (prt_f hG hR hR0).mpr (fun g o hg ho sg so => by rw [(pt_sub sg).2.2, (pt_sub so).2.2])
  have h3 := fb_sm_le (f := fun k => if prt N G (pt N G S t v) k = true then C k else 0) (g := fun k => if k = t then 0 else (if prt N G S k = true then C k else 0)) (n := K) (by
    intro k hk
    by_cases c : k = t
    · subst c
      simp [h1]
    · simp only [if_neg c]
      cases d : prt N G S k
      · have := (prt_f hG hS h0).mp d
        rw [(prt_f hG hR hR0).mpr (fun g o hg ho sg so => this g o hg ho (pt_sub sg).2.1 (pt_sub so).2.1)]
        exact Nat.le_refl _
      · cases prt N G (pt N G S t v) k <;> simp)
  have h4 := fb_sm_upd (fun k => if prt N G S k = true then C k else 0) 0 ht
  rw [if_pos hp] at h4
  unfold pC
  omega
theorem pC_le {S : Nat} (gg : gGoods G K O C N) : pC N G K C S ≤ 54 := by
  have hK := gg.2.1
  have : pC N G K C S ≤ K * 9 := fb_sm_bound (fun k hk => by
    split
    · exact (gg.2.2.2.1 k hk).2
    · exact Nat.zero_le _)
  omega
theorem pC_ge {S t : Nat} (ht : t < K) (hp : prt N G S t = true) : C t ≤ pC N G K C S := by
  have := fb_sm_part (fun t => if prt N G S t = true then C t else 0) ht
  rw [if_pos hp] at this
  unfold pC
  omega
theorem tV_big (hG : G ≤ 10) (hK : K ≤ 6) : ∀ p S c c', S < 2 ^ G → 0 < S → pS N G K S ≤ p → pC N G K C S ≤ c → pC N G K C S ≤ c' → tV N G K O C S c = tV N G K O C S c' := by
  intro p
  induction p with
  | zero =>
    intro S c c' hS h0 hp h1 h2
    rw [tV_eq hG hK c hS h0, tV_eq hG hK c' hS h0]
    apply stV_congr
    · intro t ht hpr
      have := pC_ge (C := C) ht hpr
      omega
    · intro t v ht hpr
      have : 0 < pS N G K S := fb_ct_pos.mpr ⟨t, ht, hpr⟩
      omega
  | succ p ih =>
    intro S c c' hS h0 hp h1 h2
    rw [tV_eq hG hK c hS h0, tV_eq hG hK c' hS h0]
    apply stV_congr
    · intro t ht hpr
      have := pC_ge (C := C) ht hpr
      omega
    · intro t v ht hpr hc hr
      have a1 := pS_lt hG hS h0 ht hpr hr
      have a2 := pC_lt (C := C) hG hS h0 ht hpr hr
      exact ih _ _ _ (pt_lt _ _ _) (by omega) (by omega) (by omega) (by omega)
theorem tV_54 (gg : gGoods G K O C N) {S : Nat} (c : Nat) (hS : S < 2 ^ G) (h0 : 0 < S) : tV N G K O C S c = tV N G K O C S (min c 54) := by
  have h := pC_le (S := S) gg
  by_cases d : c ≤ 54
  · rw [Nat.min_eq_left d]
  · rw [Nat.min_eq_right (by omega)]
    exact tV_big gg.1 gg.2.1 6 S _ _ hS h0 (Nat.le_trans (pS_le S) gg.2.1) (by omega) (by omega)
theorem tV_one (gg : gGoods G K O C N) {S : Nat} (c : Nat) (hS : S < 2 ^ G) (h0 : 0 < S) (h1 : bc (nI S) = 1) : tV N G K O C S c = sumB S O G := by
  have hG := gg.1
  rw [tV_eq hG gg.2.1 c hS h0]
  have hn : ∀ t, prt N G S t = false := fun t => (prt_f hG hS h0).mpr (fun g o hg ho sg so => by
    rw [bc_one S (g1024 hG hS) h0 h1 g (by omega) sg, bc_one S (g1024 hG hS) h0 h1 o (by omega) so])
  have : ∀ n, stV N G O C (tV N G K O C) S c n = baV G O S := by
    intro n
    induction n with
    | zero => rfl
    | succ n ih => rw [stV_s, if_neg (fun z => by rw [hn n] at z; cases z.2), ih]
  rw [this K]
  unfold baV
  rw [if_pos h1]
end TOLD
/-! the model's side -/
section TELLS
variable {m m' : jx_Mem} {G K : Nat} {O C : Nat → Nat} {N : Nat → Nat → Nat}
/-- the table holds all sets below z with up to q coppers, and z with less than y -/
def tdM (m : jx_Mem) (N : Nat → Nat → Nat) (G K : Nat) (O C : Nat → Nat) (w q z y : Nat) : Prop := ∀ R c, 0 < R → c ≤ q → df G R w = 0 → (R < z ∨ (R = z ∧ c < y)) → m.1 76 (55 * R + c) = nI (tV N G K O C R c)
theorem tl_64 (h : goodsM m G K O C N) (gg : gGoods G K O C N) {w q S c t : Nat} (hq : q ≤ 54) (hS : S < 2 ^ G) (h0 : 0 < S) (ht : t < K) (hc : c ≤ q) (hC : C t ≤ c) (hp : prt N G S t = true) (hw : df G S w = 0) (hT : tdM m N G K O C w q S 0) (x : Int32) :
    f_M_tells_64 (nI S) (nI c) x (nI t) 0 0 m = f_M_tells_129 (nI S) (nI c) (jx_mx x (nI (smP N G S t (fun R => tV N G K O C R (c - C t)) 10))) (nI t) m := by
  have hG := gg.1
  have hK := gg.2.1
  have h1 := lp_up (fun i y => f_M_tells_64 (nI S) (nI c) x (nI t) y i m) (fun n => nI (smP N G S t (fun R => tV N G K O C R (c - C t)) n)) 10 (by
    intro n hn
    rw [e_M_tells_64]
    refine (ifn (nI_ge (a := n) (b := 10) hn (by omega))).trans ?_
    rw [s_mpart h gg (lt31 hS hG) (by omega) hn, Option.bind_some]
    obtain ⟨l1, l2⟩ := pt_less (v := n) hG hS h0 hp hw
    have l3 := g1024 hG (pt_lt (N := N) (G := G) S t n)
    by_cases d : pt N G S t n = 0
    · refine (ifnp (by rw [d]; rfl)).trans ?_
      rw [e_M_tells_113, Int32.add_zero, nI_1]
      have e1 : smP N G S t (fun R => tV N G K O C R (c - C t)) (n + 1) = smP N G S t (fun R => tV N G K O C R (c - C t)) n := by
        unfold smP
        rw [fb_sm_succ, if_pos d, Nat.add_zero]
      rw [e1]
    · refine (ifnn (nI_ne0 (by omega) (by omega))).trans ?_
      have e2 : 55 * nI (pt N G S t n) + nI c - nI (C t) = nI (55 * pt N G S t n + (c - C t)) := by
        rw [xi55, pk_sub (by omega)]
        congr 1
        omega
      dsimp only
      rw [in_nI (show t < 6 by omega) (by omega), nI_cl (show t < 2 ^ 31 by omega), h.2.2.2.1 t ht, e2, in_nI (show 55 * pt N G S t n + (c - C t) < 56320 by omega) (by omega), nI_cl (by omega), hT _ (c - C t) (by omega) (by omega) l2 (Or.inl l1), cond_true, cond_true, e_M_tells_113, nI_add, nI_1]
      have e1 : smP N G S t (fun R => tV N G K O C R (c - C t)) (n + 1) = smP N G S t (fun R => tV N G K O C R (c - C t)) n + tV N G K O C (pt N G S t n) (c - C t) := by
        unfold smP
        rw [fb_sm_succ, if_neg d]
      rw [e1]) 0 (Nat.zero_le _)
  refine Eq.trans (b := f_M_tells_64 (nI S) (nI c) x (nI t) (nI (smP N G S t (fun R => tV N G K O C R (c - C t)) 10)) (nI 10) m) h1 ?_
  rw [e_M_tells_64]
  exact ifp (by decide)
theorem s_tells (h : goodsM m G K O C N) (gg : gGoods G K O C N) {w q S c : Nat} (hq : q ≤ 54) (hS : S < 2 ^ G) (h0 : 0 < S) (hc : c ≤ q) (hw : df G S w = 0) (hT : tdM m N G K O C w q S c) : f_M_tells (nI S) (nI c) m = some (jx_w1 m 76 (55 * S + c) (nI (tV N G K O C S c))) := by
  have hG := gg.1
  have hK := gg.2.1
  have hS2 := g1024 hG hS
  have h0T : tdM m N G K O C w q S 0 := fun R c' a1 a2 a3 a4 => hT R c' a1 a2 a3 (by omega)
  have h1 := lp_up (fun i y => f_M_tells_25 (nI S) (nI c) y i m) (fun n => nI (stV N G O C (tV N G K O C) S c n)) K (by
    intro n hn
    have hC := gg.2.2.2.1 n hn
    rw [e_M_tells_25, h.2.1]
    refine (ifn (nI_ge (a := n) (b := K) hn (by omega))).trans ?_
    rw [in_nI (show n < 6 by omega) (by omega), nI_cl (show n < 2 ^ 31 by omega), h.2.2.2.1 n hn, cond_true, stV_s]
    by_cases d : C n ≤ c
    · refine (ifn (nI_nlt d (by omega))).trans ?_
      rw [s_mparts h gg hS h0 (by omega), Option.bind_some]
      cases hp : prt N G S n with
      | true =>
        refine (ifnn ne10).trans ?_
        show f_M_tells_64 (nI S) (nI c) _ (nI n) 0 0 m = _
        have b1 := stV_ok (N := N) (O := O) (C := C) gg c hS h0 n (by omega)
        have b2 := smV_ok (N := N) (O := O) (C := C) gg S (c - C n) n 10 (by omega)
        rw [tl_64 h gg hq hS h0 hn hc d hp hw h0T, e_M_tells_129, nI_1, mx_nI (by omega) (by omega), if_pos ⟨d, rfl⟩]
      | false =>
        refine (ifnp eq00).trans ?_
        rw [e_M_tells_129, nI_1, if_neg (fun z => by cases z.2)]
    · refine (ifp (nI_lt (by omega) (by omega))).trans ?_
      rw [e_M_tells_129, nI_1, if_neg (fun z => d z.1)]) 0 (Nat.zero_le _)
  have h2 : f_M_tells_25 (nI S) (nI c) (nI (baV G O S)) 0 m = some (jx_w1 m 76 (55 * S + c) (nI (tV N G K O C S c))) := by
    refine Eq.trans (b := f_M_tells_25 (nI S) (nI c) (nI (stV N G O C (tV N G K O C) S c K)) (nI K) m) h1 ?_
    rw [e_M_tells_25, h.2.1]
    refine (ifp (nI_le (Nat.le_refl _) (by omega))).trans ?_
    rw [xi55, in_nI (show 55 * S + c < 56320 by omega) (by omega), nI_cl (by omega), tV_eq hG hK c hS h0]
    rfl
  rw [e_M_tells, s_bc, Option.bind_some]
  unfold baV at h2
  by_cases d : bc (nI S) = 1
  · rw [if_pos d] at h2
    refine (ifnp d).trans ?_
    rw [s_sum70 h gg hS, Option.bind_some, e_M_tells_21]
    exact h2
  · rw [if_neg d] at h2
    refine (ifnn d).trans ?_
    rw [e_M_tells_21]
    exact h2
theorem cp_46 (gg : gGoods G K O C N) {w q S : Nat} (hq : q ≤ 54) (hS : S < 2 ^ G) (h0 : 0 < S) (hw : df G S w = 0) (hwG : w < 2 ^ G) : ∀ (k c : Nat), c + k = q + 1 → ∀ m, goodsM m G K O C N → tdM m N G K O C w q S c →
    ∃ m', f_M_copper_46 (nI w) (nI q) (nI S) (nI c) m = f_M_copper_75 (nI w) (nI q) (nI S) m' ∧ tdM m' N G K O C w q (S + 1) 0 ∧ sm (fun a _ => a = 76) m m' := by
  have hG := gg.1
  intro k
  induction k with
  | zero =>
    intro c hc m h hT
    have hc2 : c = q + 1 := by omega
    subst hc2
    refine ⟨m, ?_, fun R c' a1 a2 a3 a4 => hT R c' a1 a2 a3 (by omega), sm.rf⟩
    rw [e_M_copper_46]
    exact ifp (nI_lt (by omega) (by omega))
  | succ k ih =>
    intro c hc m h hT
    have s1 : sm (fun a _ => a = 76) m (jx_w1 m 76 (55 * S + c) (nI (tV N G K O C S c))) := sm_w1 rfl
    have h' : goodsM _ G K O C N := goodsM_sm h s1 (by intro a k; unfold dGM; omega)
    obtain ⟨m', r1, r2, r3⟩ := ih (c + 1) (by omega) _ h' (by
      intro R c' a1 a2 a3 a4
      rw [w1_rd]
      by_cases d : R = S ∧ c' = c
      · rw [if_pos ⟨rfl, by rw [d.1, d.2]⟩, d.1, d.2]
      · rw [if_neg (by omega)]
        exact hT R c' a1 a2 a3 (by omega))
    refine ⟨m', ?_, r2, s1.tr r3⟩
    rw [e_M_copper_46]
    refine (ifn (nI_nlt (by omega) (by omega))).trans ?_
    rw [df_nI hG hS]
    refine (ifnp (by rw [hw]; rfl)).trans ?_
    rw [s_tells h gg hq hS h0 (by omega) hw hT, Option.bind_some, nI_1]
    exact r1
theorem cp_37 (gg : gGoods G K O C N) {w q : Nat} (hq : q ≤ 54) (hw : w < 2 ^ G) (hw0 : 0 < w) : ∀ (k S : Nat), S + k = w + 1 → 0 < S → ∀ m, goodsM m G K O C N → tdM m N G K O C w q S 0 →
    ∃ m', f_M_copper_37 (nI w) (nI q) (nI S) m = some (nI (tV N G K O C w q), m') ∧ sm (fun a _ => a = 76) m m' := by
  have hG := gg.1
  have hw2 := g1024 hG hw
  intro k
  induction k with
  | zero =>
    intro S hS h0 m h hT
    have hS2 : S = w + 1 := by omega
    subst hS2
    refine ⟨m, ?_, sm.rf⟩
    rw [e_M_copper_37]
    refine (ifp (nI_lt (by omega) (by omega))).trans ?_
    rw [xi55, in_nI (show 55 * w + q < 56320 by omega) (by omega), nI_cl (by omega), hT w q hw0 (Nat.le_refl _) (df_self w) (Or.inl (by omega))]
    rfl
  | succ k ih =>
    intro S hS h0 m h hT
    have hS2 : S < 2 ^ G := by omega
    have e37 : f_M_copper_37 (nI w) (nI q) (nI S) m = f_M_copper_46 (nI w) (nI q) (nI S) 0 m := by
      rw [e_M_copper_37]
      exact ifn (nI_nlt (by omega) (by omega))
    rw [e37]
    by_cases c : df G S w = 0
    · obtain ⟨m1, q1, q2, q3⟩ := cp_46 gg hq hS2 h0 c hw (q + 1) 0 (by omega) m h hT
      have h' : goodsM m1 G K O C N := goodsM_sm h q3 (by intro a k; unfold dGM; omega)
      obtain ⟨m2, r1, r2⟩ := ih (S + 1) (by omega) (by omega) m1 h' q2
      refine ⟨m2, ?_, q3.tr r2⟩
      refine Eq.trans (b := f_M_copper_75 (nI w) (nI q) (nI S) m1) q1 ?_
      rw [e_M_copper_75, nI_1]
      exact r1
    · obtain ⟨m2, r1, r2⟩ := ih (S + 1) (by omega) (by omega) m h (fun R c' a1 a2 a3 a4 => by
        by_cases d : R = S
        · subst d; exact absurd a3 c
        · exact hT R c' a1 a2 a3 (by omega))
      refine ⟨m2, ?_, r2⟩
      have e46 : f_M_copper_46 (nI w) (nI q) (nI S) 0 m = f_M_copper_75 (nI w) (nI q) (nI S) m := by
        rw [e_M_copper_46]
        refine (ifn (nI_pos (show q < 2 ^ 31 by omega))).trans ?_
        rw [df_nI hG hS2]
        exact ifnn (fun z => c ((nI_eq (b := 0) (lt31 (df_lt _ _ _) hG) (by omega)).mp z))
      rw [e46, e_M_copper_75, nI_1]
      exact r1
def cCop (x y : Int32) (G : Nat) : Prop := cG x G ∧ (0 ≤ y.toInt ∧ y.toInt ≤ 99)
theorem M_copper (h : goodsM m G K O C N) (gg : gGoods G K O C N) (x y : Int32) : ∃ m', sm (fun a k => a = 76 ∨ (a = 63 ∧ k = 0)) m m' ∧
    ((cCop x y G ∧ f_M_copper x y m = some (nI (tV N G K O C (jn x) (jn y)), m')) ∨ (¬ cCop x y G ∧ f_M_copper x y m = some (-1, m'))) := by
  have hG := gg.1
  have h1 := goodsM_th h (v := 0)
  have s1 : sm (fun a k => a = 76 ∨ (a = 63 ∧ k = 0)) m (jx_w1 m 63 0 0) := sm_w1 (by omega)
  rw [e_M_copper]
  dsimp only
  by_cases hx : 1 ≤ x.toInt ∧ x.toInt < ((2 ^ G : Nat) : Int)
  · obtain ⟨S, hS, rfl⟩ := nI_get (show 0 ≤ x.toInt by omega) hx.2
    have h0 : 0 < S := by have := hx.1; rw [nI_toInt (lt31 hS hG)] at this; omega
    rw [s_maG_t h1 gg hx, Option.bind_some]
    by_cases hy : 0 ≤ y.toInt ∧ y.toInt ≤ 99
    · obtain ⟨c, hc, rfl⟩ := nI_get hy.1 (show y.toInt < ((100 : Nat) : Int) by omega)
      rw [jn_nI (lt31 hS hG), jn_nI (show c < 2 ^ 31 by omega)]
      obtain ⟨m', q1, q2⟩ := cp_37 gg (q := min c 54) (by omega) hS h0 S 1 (by omega) (by omega) _ h1 (fun R c' a1 a2 a3 a4 => by omega)
      refine ⟨m', s1.tr (q2.mono (by omega)), Or.inl ⟨⟨hx, hy⟩, ?_⟩⟩
      refine (ifn ne10).trans ?_
      rw [s_in_t (lo := 0) (hi := 99) hy, Option.bind_some]
      refine (ifnn ne10).trans ?_
      rw [show (54 : Int32) = nI 54 from rfl, mn_nI (by omega) (by omega), tV_54 gg c hS h0]
      exact q1
    · refine ⟨_, s1, Or.inr ⟨fun q => hy q.2, ?_⟩⟩
      refine (ifn ne10).trans ?_
      rw [s_in_f (lo := 0) (hi := 99) hy, Option.bind_some]
      refine (ifnp eq00).trans ?_
      rw [e_M_copper_25]
  · refine ⟨_, s1, Or.inr ⟨fun q => hx q.1, ?_⟩⟩
    rw [s_maG_f h1 gg hx, Option.bind_some]
    refine (ifp eq00).trans ?_
    rw [e_M_copper_25]
end TELLS
