/-! crowds: numbers of fives -/
def dgr : Nat → Nat → Nat → Nat
  | 0, _, _ => 0
  | p + 1, b, w => if w = p then b % 5 else dgr p (b / 5) w
theorem dgr_s (p b w : Nat) : dgr (p + 1) b w = if w = p then b % 5 else dgr p (b / 5) w := rfl
theorem dgr_lt : ∀ p b w, dgr p b w < 5 := by
  intro p
  induction p with
  | zero => intro b w; exact Nat.zero_lt_succ 4
  | succ p ih =>
    intro b w
    rw [dgr_s]
    split
    · exact Nat.mod_lt _ (by omega)
    · exact ih _ _
def smS (vc : Nat → Nat → Nat) : Nat → Nat → Nat → Nat
  | 0, _, _ => 0
  | p + 1, b, e => smS vc p (b / 5) e + (b % 5) * vc p e
theorem smS_s (vc : Nat → Nat → Nat) (p b e : Nat) : smS vc (p + 1) b e = smS vc p (b / 5) e + (b % 5) * vc p e := rfl
theorem smS_sum (vc : Nat → Nat → Nat) (e : Nat) : ∀ p b, smS vc p b e = fb_sm (fun w => dgr p b w * vc w e) p := by
  intro p
  induction p with
  | zero => intro b; rfl
  | succ p ih =>
    intro b
    rw [smS_s, ih, fb_sm_succ, dgr_s, if_pos rfl]
    congr 1
    apply fb_sm_cong
    intro w hw
    rw [dgr_s, if_neg (by omega)]
theorem smS_le {vc : Nat → Nat → Nat} {e : Nat} (h : ∀ w, vc w e ≤ 60) : ∀ p b, smS vc p b e ≤ 240 * p := by
  intro p
  induction p with
  | zero => intro b; exact Nat.le_refl _
  | succ p ih =>
    intro b
    rw [smS_s]
    have h1 := ih (b / 5)
    have h2 : (b % 5) * vc p e ≤ 4 * 60 := Nat.mul_le_mul (by have := Nat.mod_lt b (show 5 > 0 by omega); omega) (h p)
    omega
def rsN (vc : Nat → Nat → Nat) (n : Nat) : Nat → Nat → Nat
  | 0, _ => 0
  | d + 1, e => rsN vc n d e + 4 * vc (n - (d + 1)) e
theorem rsN_s (vc : Nat → Nat → Nat) (n d e : Nat) : rsN vc n (d + 1) e = rsN vc n d e + 4 * vc (n - (d + 1)) e := rfl
theorem rsN_le {vc : Nat → Nat → Nat} {n e : Nat} (h : ∀ w, vc w e ≤ 60) : ∀ d, rsN vc n d e ≤ 240 * d := by
  intro d
  induction d with
  | zero => exact Nat.le_refl _
  | succ d ih =>
    rw [rsN_s]
    have := h (n - (d + 1))
    omega
theorem smS_child (vc : Nat → Nat → Nat) (p b c e : Nat) (hc : c < 5) : smS vc (p + 1) (5 * b + c) e = smS vc p b e + c * vc p e := by
  rw [smS_s, show (5 * b + c) / 5 = b by omega, show (5 * b + c) % 5 = c by omega]
theorem dgr_child (p b c w : Nat) (hc : c < 5) : dgr (p + 1) (5 * b + c) w = if w = p then c else dgr p b w := by
  rw [dgr_s, show (5 * b + c) / 5 = b by omega, show (5 * b + c) % 5 = c by omega]
/-- whatever comes behind adds no less than nothing and no more than four of each -/
theorem smS_block {vc : Nat → Nat → Nat} {n e : Nat} : ∀ d, d ≤ n → ∀ b i, i < 5 ^ d → smS vc (n - d) b e ≤ smS vc n (b * 5 ^ d + i) e ∧ smS vc n (b * 5 ^ d + i) e ≤ smS vc (n - d) b e + rsN vc n d e := by
  intro d
  induction d with
  | zero =>
    intro _ b i hi
    have : i = 0 := by
      rw [Nat.pow_zero] at hi
      omega
    subst this
    rw [Nat.pow_zero, Nat.mul_one, Nat.add_zero, Nat.sub_zero]
    exact ⟨Nat.le_refl _, Nat.le_add_right _ _⟩
  | succ d ih =>
    intro hd b i hi
    have h5 : 0 < 5 ^ d := Nat.pow_pos (by omega)
    rw [Nat.pow_succ] at hi
    have hc : i / 5 ^ d < 5 := by
      rw [Nat.div_lt_iff_lt_mul h5, Nat.mul_comm]
      exact hi
    have hm : i % 5 ^ d < 5 ^ d := Nat.mod_lt _ h5
    have hdm := Nat.div_add_mod i (5 ^ d)
    have e1 : b * 5 ^ (d + 1) + i = (5 * b + i / 5 ^ d) * 5 ^ d + i % 5 ^ d := by
      rw [Nat.pow_succ, Nat.add_mul]
      have h1 : 5 * b * 5 ^ d = b * (5 ^ d * 5) := by rw [Nat.mul_comm (5 ^ d) 5, ← Nat.mul_assoc, Nat.mul_comm 5 b]
      rw [h1, Nat.mul_comm (i / 5 ^ d) (5 ^ d)]
      omega
    have h2 := ih (by omega) (5 * b + i / 5 ^ d) (i % 5 ^ d) hm
    rw [e1, rsN_s]
    have h3 := smS_child vc (n - (d + 1)) b (i / 5 ^ d) e hc
    rw [show n - (d + 1) + 1 = n - d by omega] at h3
    rw [h3] at h2
    have h4 : (i / 5 ^ d) * vc (n - (d + 1)) e ≤ 4 * vc (n - (d + 1)) e := Nat.mul_le_mul_right _ (by omega)
    omega
def okK (vc : Nat → Nat → Nat) (V : Nat → Nat) (H n gv k : Nat) : Bool := !anyF (fun e => decide (V e + gv < smS vc n k e) || decide (smS vc n k e + gv < V e)) 0 H
def hpl (vc : Nat → Nat → Nat) (V : Nat → Nat) (H n gv d b : Nat) : Bool := anyF (fun e => decide (V e + gv < smS vc (n - d) b e) || decide (smS vc (n - d) b e + rsN vc n d e + gv < V e)) 0 H
theorem hpl_no {vc : Nat → Nat → Nat} {V : Nat → Nat} {H n gv d b i : Nat} (hd : d ≤ n) (hi : i < 5 ^ d) (h : hpl vc V H n gv d b = true) : okK vc V H n gv (b * 5 ^ d + i) = false := by
  unfold hpl at h
  obtain ⟨o, h1, h2, h3⟩ := anyF_iff.mp h
  have hb := smS_block (vc := vc) (n := n) (e := o) d hd b i hi
  rw [Bool.or_eq_true, decide_eq_true_eq, decide_eq_true_eq] at h3
  unfold okK
  have : anyF (fun e => decide (V e + gv < smS vc n (b * 5 ^ d + i) e) || decide (smS vc n (b * 5 ^ d + i) e + gv < V e)) 0 H = true := by
    rw [anyF_iff]
    refine ⟨o, h1, h2, ?_⟩
    rw [Bool.or_eq_true, decide_eq_true_eq, decide_eq_true_eq]
    omega
  rw [this]
  rfl
theorem hpl_0 {vc : Nat → Nat → Nat} {V : Nat → Nat} {H n gv b : Nat} (h : hpl vc V H n gv 0 b = false) : okK vc V H n gv b = true := by
  unfold hpl at h
  unfold okK
  rw [Nat.sub_zero] at h
  rw [show anyF (fun e => decide (V e + gv < smS vc n b e) || decide (smS vc n b e + gv < V e)) 0 H = false from h]
  rfl
/-- the first of them -/
def foB (q : Nat → Bool) (s : Nat) : Nat → Option Nat
  | 0 => none
  | l + 1 => match foB q s l with
    | some k => some k
    | none => if q (s + l) = true then some (s + l) else none
def orO (a b : Option Nat) : Option Nat := match a with
  | some k => some k
  | none => b
theorem foB_s (q : Nat → Bool) (s l : Nat) : foB q s (l + 1) = orO (foB q s l) (if q (s + l) = true then some (s + l) else none) := by
  rw [foB]
  cases foB q s l <;> rfl
theorem orO_as (a b c : Option Nat) : orO (orO a b) c = orO a (orO b c) := by cases a <;> rfl
theorem foB_add (q : Nat → Bool) (s l : Nat) : ∀ k, foB q s (l + k) = orO (foB q s l) (foB q (s + l) k) := by
  intro k
  induction k with
  | zero => rw [Nat.add_zero]; cases foB q s l <;> rfl
  | succ k ih => rw [← Nat.add_assoc, foB_s, ih, foB_s, orO_as, Nat.add_assoc]
theorem foB_none {q : Nat → Bool} {s : Nat} : ∀ {l : Nat}, (∀ i, i < l → q (s + i) = false) → foB q s l = none := by
  intro l
  induction l with
  | zero => intro _; rfl
  | succ l ih =>
    intro h
    rw [foB_s, ih (fun i hi => h i (by omega)), h l (by omega)]
    rfl
theorem foB_ct {q : Nat → Bool} : ∀ l, foB q 0 l = none ↔ fb_ct q l = 0 := by
  intro l
  rw [fb_ct_zero]
  constructor
  · intro h
    induction l with
    | zero => intro k hk; exact absurd hk (Nat.not_lt_zero k)
    | succ l ih =>
      rw [foB_s] at h
      cases hf : foB q 0 l with
      | some k => rw [hf] at h; cases h
      | none =>
        rw [hf] at h
        intro k hk
        by_cases c : k = l
        · rw [c]
          cases hq : q l with
          | false => rfl
          | true =>
            rw [Nat.zero_add, hq] at h
            cases h
        · exact ih hf k (by omega)
  · intro h
    exact foB_none (fun i hi => by rw [Nat.zero_add]; exact h i hi)
def rowC (n : Nat) (o : Option Nat) : List Int64 := match o with
  | none => []
  | some k => (List.range n).map (fun w => pI (dgr n k w))
def rowD (n k j : Nat) : List Int64 := (List.range j).map (fun w => pI (dgr n k w))
theorem rowD_s (n k j : Nat) : rowD n k (j + 1) = rowD n k j ++ [pI (dgr n k j)] := by
  unfold rowD
  rw [List.range_succ, List.map_append]
  rfl
theorem rowD_len (n k j : Nat) : (rowD n k j).length = j := by
  unfold rowD
  rw [List.length_map, List.length_range]
theorem s_fill57 (v : Int32) (m : jx_Mem) : ∃ m', f_Arr_fill_r57 v m = some m' ∧ (∀ j, j < 6 → m'.1 57 j = v) ∧ sm (fun a j => a = 57 ∧ j < 6) m m' := by
  obtain ⟨m', r1, r2, r3⟩ := fill_lp (fun i m => f_Arr_fill_5_r57 v i 6 m) 57 6 v (by
    intro m
    rw [e_Arr_fill_5_r57]
    exact ifp (by decide)) (by
    intro i m hi
    rw [e_Arr_fill_5_r57]
    refine (ifn (nI_ge (b := 6) hi (by omega))).trans ?_
    rw [in_nI hi (by omega), nI_cl (by omega), nI_1]
    rfl) 6 0 (by omega) m
  refine ⟨m', by rw [e_Arr_fill_r57]; exact r1, fun j hj => ?_, r3⟩
  rw [r2 j, if_pos ⟨Nat.zero_le _, hj⟩]
theorem s_fill58 (v : Int32) (m : jx_Mem) : ∃ m', f_Arr_fill_r58 v m = some m' ∧ (∀ j, j < 42 → m'.1 58 j = v) ∧ sm (fun a j => a = 58 ∧ j < 42) m m' := by
  obtain ⟨m', r1, r2, r3⟩ := fill_lp (fun i m => f_Arr_fill_5_r58 v i 42 m) 58 42 v (by
    intro m
    rw [e_Arr_fill_5_r58]
    exact ifp (by decide)) (by
    intro i m hi
    rw [e_Arr_fill_5_r58]
    refine (ifn (nI_ge (b := 42) hi (by omega))).trans ?_
    rw [in_nI hi (by omega), nI_cl (by omega), nI_1]
    rfl) 42 0 (by omega) m
  refine ⟨m', by rw [e_Arr_fill_r58]; exact r1, fun j hj => ?_, r3⟩
  rw [r2 j, if_pos ⟨Nat.zero_le _, hj⟩]
section CROWDS
variable {m m' : jx_Mem} {T P : Nat} {D : Nat → Nat → Nat} {W A U L : Nat → Nat} {H : Nat} {Y V : Nat → Nat} {n gv : Nat}
def vcE (D : Nat → Nat → Nat) (Y : Nat → Nat) : Nat → Nat → Nat := fun w e => vo (D w (Y e))
theorem vcE_le (w e : Nat) : vcE D Y w e ≤ 60 := vo_le _
theorem sub_leI {a b c : Nat} (ha : a < 2 ^ 30) (hb : b < 2 ^ 30) (hc : c < 2 ^ 31) : nI a - nI b ≤ nI c ↔ a ≤ c + b := by
  rw [i_le, pk_sub_toInt ha hb, nI_toInt hc]
  omega
theorem fr_21 (h : mineF m T P D W A U L) (g : gMine T P D W A U L) (hq : noiseF m H Y V) (gq : gNoise H Y V) (hn : n ≤ 6) {d : Nat} (hd : d < n) : ∀ (i e : Nat), e + i = H → ∀ m1, sm (fun a _ => a = 58) m m1 → (∀ d' e', d' ≤ d → e' < H → m1.1 58 (6 * (n - d') + e') = nI (rsN (vcE D Y) n d' e')) → (∀ e', e' < e → m1.1 58 (6 * (n - (d + 1)) + e') = nI (rsN (vcE D Y) n (d + 1) e')) →
    ∃ m2, f_Noise_findRests_21 (nI (n - (d + 1))) (nI e) m1 = f_Noise_findRests_15 (nI (n - (d + 1)) - 1) m2 ∧ sm (fun a _ => a = 58) m m2 ∧ (∀ d' e', d' ≤ d + 1 → e' < H → m2.1 58 (6 * (n - d') + e') = nI (rsN (vcE D Y) n d' e')) := by
  have hH := gq.1
  intro i
  induction i with
  | zero =>
    intro e he m1 hs h1 h2
    refine ⟨m1, ?_, hs, fun d' e' q1 q2 => ?_⟩
    · rw [e_Noise_findRests_21, (hs 52 3 (by omega)).1, hq.1]
      refine (ifp (nI_le (by omega) (by omega))).trans ?_
      rw [neg1]
    · by_cases c : d' = d + 1
      · rw [c]; exact h2 e' (by omega)
      · exact h1 d' e' (by omega) q2
  | succ i ih =>
    intro e he m1 hs h1 h2
    have hm1 : mineF m1 T P D W A U L := mineF_sm h hs (by intro a k; unfold dMF; omega)
    have hY := (gq.2 e (by omega)).1
    obtain ⟨m2, r1, r2⟩ := ih (e + 1) (by omega) (jx_w1 m1 58 (6 * (n - (d + 1)) + e) (nI (rsN (vcE D Y) n (d + 1) e))) (hs.w1 rfl) (by
      intro d' e' q1 q2
      rw [w1_idx (by omega)]
      exact h1 d' e' q1 q2) (by
      intro e' q2
      rw [w1_rd]
      by_cases c : e' = e
      · rw [if_pos ⟨rfl, by omega⟩, c]
      · rw [if_neg (by omega)]; exact h2 e' (by omega))
    refine ⟨m2, ?_, r2⟩
    have h58 := h1 d e (Nat.le_refl _) (by omega)
    rw [← r1, e_Noise_findRests_21, (hs 52 3 (by omega)).1, hq.1]
    refine (ifn (nI_ge (a := e) (b := H) (by omega) (by omega))).trans ?_
    rw [nI_1, show n - (d + 1) + 1 = n - d by omega, ix6, ix6, in_nI (show 6 * (n - d) + e < 42 by omega) (by omega), nI_cl (show 6 * (n - d) + e < 2 ^ 31 by omega), in_nI (show e < 6 by omega) (by omega), nI_cl (show e < 2 ^ 31 by omega), cond_true, cond_true, (hs 53 e (by omega)).1, (hq.2 e (by omega)).1, s_voice hm1 g (by omega) hY, Option.bind_some, in_nI (show 6 * (n - (d + 1)) + e < 42 by omega) (by omega), nI_cl (show 6 * (n - (d + 1)) + e < 2 ^ 31 by omega), h58, show (4 : Int32) * nI (vo (D (n - (d + 1)) (Y e))) = nI (4 * vo (D (n - (d + 1)) (Y e))) from pk_mul 4 _, nI_add, nI_1]
    rfl
theorem fr_15 (h : mineF m T P D W A U L) (g : gMine T P D W A U L) (hq : noiseF m H Y V) (gq : gNoise H Y V) (hn : n ≤ 6) : ∀ (i d : Nat), d + i = n → ∀ m1, sm (fun a _ => a = 58) m m1 → (∀ d' e', d' ≤ d → e' < H → m1.1 58 (6 * (n - d') + e') = nI (rsN (vcE D Y) n d' e')) →
    ∃ m2, f_Noise_findRests_15 (nI (n - d) - 1) m1 = some m2 ∧ sm (fun a _ => a = 58) m m2 ∧ (∀ d' e', d' ≤ n → e' < H → m2.1 58 (6 * (n - d') + e') = nI (rsN (vcE D Y) n d' e')) := by
  intro i
  induction i with
  | zero =>
    intro d hd m1 hs h1
    refine ⟨m1, ?_, hs, fun d' e' q1 q2 => h1 d' e' (by omega) q2⟩
    rw [show n - d = 0 by omega, e_Noise_findRests_15]
    exact ifp (by decide)
  | succ i ih =>
    intro d hd m1 hs h1
    obtain ⟨m2, r1, r2, r3⟩ := fr_21 h g hq gq hn (show d < n by omega) H 0 (by omega) m1 hs h1 (fun e' he' => absurd he' (Nat.not_lt_zero e'))
    obtain ⟨m3, t1, t2⟩ := ih (d + 1) (by omega) m2 r2 r3
    refine ⟨m3, ?_, t2⟩
    rw [← t1, ← r1, show n - d = (n - (d + 1)) + 1 by omega, nI_pred, e_Noise_findRests_15]
    exact ifn (nI_pos (by omega))
theorem sh_2 (h : mineF m T P D W A U L) (g : gMine T P D W A U L) (hq : noiseF m H Y V) (gq : gNoise H Y V) {p : Nat} (hp : p < 10) (x : Int32) : ∀ (i e : Nat), e + i = H → ∀ m1, sm (fun a _ => a = 57) m m1 → ∃ m2, f_Noise_shout_2 (nI p) x (nI e) m1 = some m2 ∧ sm (fun a _ => a = 57) m1 m2 ∧ ∀ e', e' < H → m2.1 57 e' = if e ≤ e' then m1.1 57 e' + x * nI (vcE D Y p e') else m1.1 57 e' := by
  have hH := gq.1
  intro i
  induction i with
  | zero =>
    intro e he m1 hs
    refine ⟨m1, ?_, sm.rf, fun e' he' => by rw [if_neg (by omega)]⟩
    rw [e_Noise_shout_2, (hs 52 3 (by omega)).1, hq.1]
    exact ifp (nI_le (by omega) (by omega))
  | succ i ih =>
    intro e he m1 hs
    have hm1 : mineF m1 T P D W A U L := mineF_sm h hs (by intro a k; unfold dMF; omega)
    have hY := (gq.2 e (by omega)).1
    obtain ⟨m2, r1, r2, r3⟩ := ih (e + 1) (by omega) (jx_w1 m1 57 e (m1.1 57 e + x * nI (vcE D Y p e))) (hs.w1 rfl)
    refine ⟨m2, ?_, r2.pre rfl, fun e' he' => ?_⟩
    · rw [← r1, e_Noise_shout_2, (hs 52 3 (by omega)).1, hq.1]
      refine (ifn (nI_ge (a := e) (b := H) (by omega) (by omega))).trans ?_
      rw [in_nI (show e < 6 by omega) (by omega), nI_cl (show e < 2 ^ 31 by omega), cond_true, cond_true, (hs 53 e (by omega)).1, (hq.2 e (by omega)).1, s_voice hm1 g hp hY, Option.bind_some, nI_1]
      rfl
    · rw [r3 e' he', w1_rd]
      by_cases c : e' = e
      · rw [if_neg (by omega), if_pos ⟨rfl, c⟩, if_pos (by omega), c]
      · by_cases d : e + 1 ≤ e'
        · rw [if_pos d, if_neg (fun z => c z.2), if_pos (by omega)]
        · rw [if_neg d, if_neg (fun z => c z.2), if_neg (by omega)]
def fndF (m : jx_Mem) (n : Nat) (o : Option Nat) : Prop := match o with
  | none => m.1 52 10 = 0
  | some k => m.1 52 10 = 1 ∧ ∀ w, w < n → m.1 56 w = nI (dgr n k w)
def wFi (a k : Nat) : Prop := a = 55 ∨ a = 56 ∨ a = 57 ∨ (a = 52 ∧ k = 10)
theorem s_hopeless (hq : noiseF m H Y V) (gq : gNoise H Y V) (hn : n ≤ 6) (hg : gv ≤ 99) (h9 : m.1 52 9 = nI gv) {d b : Nat} (hd : d ≤ n) (h58 : ∀ e, e < H → m.1 58 (6 * (n - d) + e) = nI (rsN (vcE D Y) n d e)) (h57 : ∀ e, e < H → m.1 57 e = nI (smS (vcE D Y) (n - d) b e)) : f_Noise_isHopeless (nI (n - d)) m = some (bi (hpl (vcE D Y) V H n gv d b), m) := by
  have hH := gq.1
  have inner := lp_any (fun e => f_Noise_isHopeless_2 (nI (n - d)) e m) (fun e => decide (V e + gv < smS (vcE D Y) (n - d) b e) || decide (smS (vcE D Y) (n - d) b e + rsN (vcE D Y) n d e + gv < V e)) (some ((1 : Int32), m)) (some ((0 : Int32), m)) H (by
    rw [e_Noise_isHopeless_2, hq.1]
    exact ifp (nI_le (Nat.le_refl _) (by omega))) (by
    intro e he
    have b1 : smS (vcE D Y) (n - d) b e ≤ 240 * (n - d) := smS_le (fun w => vcE_le w e) _ _
    have b2 : rsN (vcE D Y) n d e ≤ 240 * d := rsN_le (fun w => vcE_le w e) _
    have hV := (gq.2 e he).2
    rw [e_Noise_isHopeless_2, hq.1]
    refine (ifn (nI_ge (a := e) (b := H) he (by omega))).trans ?_
    rw [ix6, in_nI (show e < 6 by omega) (by omega), nI_cl (show e < 2 ^ 31 by omega), in_nI (show 6 * (n - d) + e < 42 by omega) (by omega), nI_cl (show 6 * (n - d) + e < 2 ^ 31 by omega), (hq.2 e he).2, h9, h57 e he, h58 e he, nI_add, nI_add]
    simp only [cond_true]
    by_cases c : V e + gv < smS (vcE D Y) (n - d) b e
    · refine (ifp (nI_lt c (by omega))).trans ?_
      rw [e_Noise_isHopeless_64, decide_eq_true c, Bool.true_or, if_pos rfl]
    · refine (ifn (nI_nlt (by omega) (by omega))).trans ?_
      rw [decide_eq_false c, Bool.false_or]
      by_cases c2 : smS (vcE D Y) (n - d) b e + rsN (vcE D Y) n d e + gv < V e
      · refine (ifn (fun z => by have := (sub_leI (by omega) (by omega) (by omega)).mp z; omega)).trans ?_
        rw [e_Noise_isHopeless_64, decide_eq_true c2, if_pos rfl]
      · refine (ifp ((sub_leI (by omega) (by omega) (by omega)).mpr (by omega))).trans ?_
        rw [nI_1, decide_eq_false c2, if_neg (by decide)]) H 0 (by omega)
  rw [e_Noise_isHopeless]
  refine Eq.trans inner ?_
  unfold hpl
  cases anyF (fun e => decide (V e + gv < smS (vcE D Y) (n - d) b e) || decide (smS (vcE D Y) (n - d) b e + rsN (vcE D Y) n d e + gv < V e)) 0 H <;> rfl
theorem s_keepFirst {k : Nat} (hn : n ≤ 6) (h8 : m.1 52 8 = nI n) (h55 : ∀ w, w < n → m.1 55 w = nI (dgr n k w)) {o : Option Nat} (ho : fndF m n o) : ∃ m2, f_Noise_keepFirst m = some m2 ∧ sm (fun a k => a = 56 ∨ (a = 52 ∧ k = 10)) m m2 ∧ fndF m2 n (orO o (some k)) := by
  cases o with
  | some k0 =>
    refine ⟨m, ?_, sm.rf, ho⟩
    rw [e_Noise_keepFirst, ho.1]
    refine (ifnn ne10).trans ?_
    rw [e_Noise_keepFirst_29]
  | none =>
    have ho2 : m.1 52 10 = 0 := ho
    refine ⟨jx_wc (jx_w1 m 52 10 1) 55 0 56 0 n, ?_, ?_, ?_, fun w hw => ?_⟩
    · rw [e_Noise_keepFirst, ho2]
      refine (ifnp eq00).trans ?_
      try dsimp only
      rw [w1_idx (show 8 ≠ 10 by omega), h8, decide_eq_false (nI_pos (show n < 2 ^ 31 by omega)), nI_cl (show n < 2 ^ 31 by omega), show (0 : Int32).toNatClampNeg = 0 from rfl, decide_eq_true (show 0 + n ≤ 6 by omega)]
      show f_Noise_keepFirst_29 _ = _
      rw [e_Noise_keepFirst_29]
    · intro a k hz
      refine ⟨?_, rfl⟩
      rw [wc_rd, if_neg (by omega), w1_rd, if_neg (by omega)]
    · rw [wc_rd, if_neg (by omega), w1_same]
    · rw [wc_rd, if_pos (by omega), w1_cell (by omega), show 0 + (w - 0) = w by omega]
      exact h55 w hw
theorem fill_ok (h : mineF m T P D W A U L) (g : gMine T P D W A U L) (hq : noiseF m H Y V) (gq : gNoise H Y V) (hn : n ≤ 6) (hg : gv ≤ 99) (h8 : m.1 52 8 = nI n) (h9 : m.1 52 9 = nI gv) (h58 : ∀ d e, d ≤ n → e < H → m.1 58 (6 * (n - d) + e) = nI (rsN (vcE D Y) n d e)) :
    ∀ d, d ≤ n → ∀ b lev, d < lev → ∀ (m1 : jx_Mem) (o : Option Nat), sm wFi m m1 → (∀ w, w < n - d → m1.1 55 w = nI (dgr (n - d) b w)) → (∀ e, e < H → m1.1 57 e = nI (smS (vcE D Y) (n - d) b e)) → fndF m1 n o →
    ∃ m2, f_Noise_fill lev (nI (n - d)) m1 = some (nI (fb_ct (fun i => okK (vcE D Y) V H n gv (b * 5 ^ d + i)) (5 ^ d)), m2) ∧ sm wFi m m2 ∧ (∀ w, w < n - d → m2.1 55 w = nI (dgr (n - d) b w)) ∧ (∀ e, e < H → m2.1 57 e = nI (smS (vcE D Y) (n - d) b e)) ∧ fndF m2 n (orO o (foB (okK (vcE D Y) V H n gv) (b * 5 ^ d) (5 ^ d))) := by
  have hH := gq.1
  intro d
  induction d with
  | zero =>
    intro _ b lev hlev m1 o hs h55 h57 ho
    obtain ⟨l, rfl⟩ : ∃ l, lev = l + 1 := ⟨lev - 1, by omega⟩
    have hq1 : noiseF m1 H Y V := noiseF_sm hq hs (by intro a k; unfold dNF wFi; omega)
    have h81 : m1.1 52 8 = nI n := (hs 52 8 (by unfold wFi; omega)).1.trans h8
    have h91 : m1.1 52 9 = nI gv := (hs 52 9 (by unfold wFi; omega)).1.trans h9
    have hh := s_hopeless hq1 gq hn hg h91 (Nat.zero_le n) (fun e he => (hs 58 _ (by unfold wFi; omega)).1.trans (h58 0 e (Nat.zero_le _) he)) h57
    have one : fb_ct (fun i => okK (vcE D Y) V H n gv (b * 5 ^ 0 + i)) (5 ^ 0) = if okK (vcE D Y) V H n gv b = true then 1 else 0 := by
      rw [Nat.pow_zero, Nat.mul_one]
      show 0 + _ = _
      rw [Nat.zero_add]
      rfl
    have onef : foB (okK (vcE D Y) V H n gv) (b * 5 ^ 0) (5 ^ 0) = if okK (vcE D Y) V H n gv b = true then some b else none := by
      rw [Nat.pow_zero, Nat.mul_one]
      rfl
    rw [one, onef, e_Noise_fill, h81]
    have e0 : ∀ X Y : Option (Int32 × jx_Mem), (if decide (nI n < nI (n - 0)) = true then X else Y) = Y := fun X Y => ifn (nI_nlt (by omega) (by omega))
    rw [e0, hh, Option.bind_some]
    cases hc : hpl (vcE D Y) V H n gv 0 b with
    | true =>
      have hno := hpl_no (i := 0) (Nat.zero_le n) (by rw [Nat.pow_zero]; omega) hc
      rw [Nat.pow_zero, Nat.mul_one, Nat.add_zero] at hno
      refine ⟨m1, ?_, hs, h55, h57, ?_⟩
      · refine (ifn (show ¬ bi true = 0 from ne10)).trans ?_
        rw [e_Noise_fill_16, hno]
        rfl
      · rw [hno]
        cases o <;> exact ho
    | false =>
      have hyes := hpl_0 hc
      rw [Nat.sub_zero] at h55
      obtain ⟨m2, r1, r2, r3⟩ := s_keepFirst hn h81 h55 ho
      refine ⟨m2, ?_, hs.tr (r2.mono (by unfold wFi; omega)), fun w hw => (r2 55 w (by omega)).1.trans (by rw [Nat.sub_zero] at hw ⊢; exact h55 w hw), fun e he => (r2 57 e (by omega)).1.trans (h57 e he), ?_⟩
      · refine (ifp (show bi false = 0 from rfl)).trans ?_
        try dsimp only
        rw [h81]
        refine (ifnp (by rw [Nat.sub_zero])).trans ?_
        rw [r1, hyes]
        rfl
      · rw [hyes]
        exact r3
  | succ d ih =>
    intro hd b lev hlev m1 o hs h55 h57 ho
    obtain ⟨l, rfl⟩ : ∃ l, lev = l + 1 := ⟨lev - 1, by omega⟩
    have hq1 : noiseF m1 H Y V := noiseF_sm hq hs (by intro a k; unfold dNF wFi; omega)
    have h81 : m1.1 52 8 = nI n := (hs 52 8 (by unfold wFi; omega)).1.trans h8
    have h91 : m1.1 52 9 = nI gv := (hs 52 9 (by unfold wFi; omega)).1.trans h9
    have h5 : 0 < 5 ^ d := Nat.pow_pos (by omega)
    have hh := s_hopeless hq1 gq hn hg h91 hd (fun e he => (hs 58 _ (by unfold wFi; omega)).1.trans (h58 (d + 1) e hd he)) h57
    rw [e_Noise_fill, h81]
    have e0 : ∀ X Y : Option (Int32 × jx_Mem), (if decide (nI n < nI (n - (d + 1))) = true then X else Y) = Y := fun X Y => ifn (nI_nlt (by omega) (by omega))
    rw [e0, hh, Option.bind_some]
    cases hc : hpl (vcE D Y) V H n gv (d + 1) b with
    | true =>
      have hno : ∀ i, i < 5 ^ (d + 1) → okK (vcE D Y) V H n gv (b * 5 ^ (d + 1) + i) = false := fun i hi => hpl_no hd hi hc
      refine ⟨m1, ?_, hs, h55, h57, ?_⟩
      · refine (ifn (show ¬ bi true = 0 from ne10)).trans ?_
        rw [e_Noise_fill_16, fb_ct_zero.mpr hno]
        rfl
      · rw [foB_none hno]
        cases o <;> exact ho
    | false =>
      have inner : ∀ (i c : Nat), c + i = 5 → ∀ m2, sm wFi m m2 → (∀ w, w < n - (d + 1) → m2.1 55 w = nI (dgr (n - (d + 1)) b w)) → (∀ e, e < H → m2.1 57 e = nI (smS (vcE D Y) (n - (d + 1)) b e)) → fndF m2 n (orO o (foB (okK (vcE D Y) V H n gv) (b * 5 ^ (d + 1)) (c * 5 ^ d))) →
          ∃ m3, f_Noise_fill_36 (l + 1) (nI (n - (d + 1))) (nI (fb_ct (fun i => okK (vcE D Y) V H n gv (b * 5 ^ (d + 1) + i)) (c * 5 ^ d))) (nI c) m2 = some (nI (fb_ct (fun i => okK (vcE D Y) V H n gv (b * 5 ^ (d + 1) + i)) (5 * 5 ^ d)), m3) ∧ sm wFi m m3 ∧ (∀ w, w < n - (d + 1) → m3.1 55 w = nI (dgr (n - (d + 1)) b w)) ∧ (∀ e, e < H → m3.1 57 e = nI (smS (vcE D Y) (n - (d + 1)) b e)) ∧ fndF m3 n (orO o (foB (okK (vcE D Y) V H n gv) (b * 5 ^ (d + 1)) (5 * 5 ^ d))) := by
        intro i
        induction i with
        | zero =>
          intro c hci m2 hs2 k55 k57 ko
          have : c = 5 := by omega
          subst this
          refine ⟨m2, ?_, hs2, k55, k57, ko⟩
          rw [e_Noise_fill_36]
          exact ifp (by decide)
        | succ i ihc =>
          intro c hci m2 hs2 k55 k57 ko
          have hc5 : c < 5 := by omega
          have hs3 : sm wFi m (jx_w1 m2 55 (n - (d + 1)) (nI c)) := hs2.w1 (by unfold wFi; omega)
          have hm3 : mineF (jx_w1 m2 55 (n - (d + 1)) (nI c)) T P D W A U L := mineF_sm h hs3 (by intro a k; unfold dMF wFi; omega)
          have hq3 : noiseF (jx_w1 m2 55 (n - (d + 1)) (nI c)) H Y V := noiseF_sm hq hs3 (by intro a k; unfold dNF wFi; omega)
          obtain ⟨m4, a1, a2, a3⟩ := sh_2 hm3 g hq3 gq (show n - (d + 1) < 10 by omega) (nI c) H 0 (by omega) _ sm.rf
          have hs4 : sm wFi m m4 := hs3.tr (a2.mono (by unfold wFi; omega))
          have k574 : ∀ e, e < H → m4.1 57 e = nI (smS (vcE D Y) (n - d) (5 * b + c) e) := by
            intro e he
            rw [a3 e he, if_pos (Nat.zero_le _), w1_cell (by omega), k57 e he, pk_mul, nI_add]
            have := smS_child (vcE D Y) (n - (d + 1)) b c e hc5
            rw [show n - (d + 1) + 1 = n - d by omega] at this
            rw [this]
          have k554 : ∀ w, w < n - d → m4.1 55 w = nI (dgr (n - d) (5 * b + c) w) := by
            intro w hw
            have := dgr_child (n - (d + 1)) b c w hc5
            rw [show n - (d + 1) + 1 = n - d by omega] at this
            rw [this, (a2 55 w (by omega)).1, w1_rd]
            by_cases z : w = n - (d + 1)
            · rw [if_pos ⟨rfl, z⟩, if_pos z]
            · rw [if_neg (fun y => z y.2), if_neg z]
              exact k55 w (by omega)
          have ko4 : fndF m4 n (orO o (foB (okK (vcE D Y) V H n gv) (b * 5 ^ (d + 1)) (c * 5 ^ d))) := by
            cases hoo : orO o (foB (okK (vcE D Y) V H n gv) (b * 5 ^ (d + 1)) (c * 5 ^ d)) with
            | none =>
              rw [hoo] at ko
              exact ((a2 52 10 (by omega)).1.trans (w1_cell (by omega))).trans ko
            | some k0 =>
              rw [hoo] at ko
              exact ⟨((a2 52 10 (by omega)).1.trans (w1_cell (by omega))).trans ko.1, fun w hw => ((a2 56 w (by omega)).1.trans (w1_cell (by omega))).trans (ko.2 w hw)⟩
          obtain ⟨m5, b1, b2, b3, b4, b5⟩ := ih (by omega) (5 * b + c) l (by omega) m4 _ hs4 k554 k574 ko4
          have hm5 : mineF m5 T P D W A U L := mineF_sm h b2 (by intro a k; unfold dMF wFi; omega)
          have hq5 : noiseF m5 H Y V := noiseF_sm hq b2 (by intro a k; unfold dNF wFi; omega)
          obtain ⟨m6, c1, c2, c3⟩ := sh_2 hm5 g hq5 gq (show n - (d + 1) < 10 by omega) (-(nI c)) H 0 (by omega) m5 sm.rf
          have hpow : (5 * b + c) * 5 ^ d = b * 5 ^ (d + 1) + c * 5 ^ d := by
            rw [Nat.pow_succ, Nat.add_mul]
            congr 1
            rw [Nat.mul_comm (5 ^ d) 5, ← Nat.mul_assoc, Nat.mul_comm 5 b]
          have k576 : ∀ e, e < H → m6.1 57 e = nI (smS (vcE D Y) (n - (d + 1)) b e) := by
            intro e he
            have := smS_child (vcE D Y) (n - (d + 1)) b c e hc5
            rw [show n - (d + 1) + 1 = n - d by omega] at this
            rw [c3 e he, if_pos (Nat.zero_le _), b4 e he, this, Int32.neg_mul, ← Int32.sub_eq_add_neg, pk_mul, pk_sub (by omega), Nat.add_sub_cancel]
          have k556 : ∀ w, w < n - (d + 1) → m6.1 55 w = nI (dgr (n - (d + 1)) b w) := by
            intro w hw
            have := dgr_child (n - (d + 1)) b c w hc5
            rw [show n - (d + 1) + 1 = n - d by omega, if_neg (by omega)] at this
            rw [(c2 55 w (by omega)).1, b3 w (by omega), this]
          have ko6 : fndF m6 n (orO o (foB (okK (vcE D Y) V H n gv) (b * 5 ^ (d + 1)) ((c + 1) * 5 ^ d))) := by
            rw [orO_as, hpow, ← foB_add, show c * 5 ^ d + 5 ^ d = (c + 1) * 5 ^ d by rw [Nat.add_mul, Nat.one_mul]] at b5
            cases hoo : orO o (foB (okK (vcE D Y) V H n gv) (b * 5 ^ (d + 1)) ((c + 1) * 5 ^ d)) with
            | none =>
              rw [hoo] at b5
              exact (c2 52 10 (by omega)).1.trans b5
            | some k0 =>
              rw [hoo] at b5
              exact ⟨(c2 52 10 (by omega)).1.trans b5.1, fun w hw => (c2 56 w (by omega)).1.trans (b5.2 w hw)⟩
          obtain ⟨m7, d1, d2⟩ := ihc (c + 1) (by omega) m6 (b2.tr (c2.mono (by unfold wFi; omega))) k556 k576 ko6
          refine ⟨m7, ?_, d2⟩
          rw [← d1, e_Noise_fill_36]
          refine (ifn (nI_nlt (a := 4) (b := c) (by omega) (by omega))).trans ?_
          rw [in_nI (show n - (d + 1) < 6 by omega) (by omega), nI_cl (show n - (d + 1) < 2 ^ 31 by omega)]
          simp only [Bool.and_true, cond_true]
          rw [e_Noise_shout]
          show (f_Noise_shout_2 (nI (n - (d + 1))) (nI c) (nI 0) (jx_w1 m2 55 (n - (d + 1)) (nI c))).bind _ = _
          rw [a1, Option.bind_some, nI_1, show n - (d + 1) + 1 = n - d by omega, b1, Option.bind_some, e_Noise_shout]
          show (f_Noise_shout_2 (nI (n - (d + 1))) (-(nI c)) (nI 0) m5).bind _ = _
          rw [c1, Option.bind_some, nI_1, nI_add, show (c + 1) * 5 ^ d = c * 5 ^ d + 5 ^ d by rw [Nat.add_mul, Nat.one_mul], fb_ct_split]
          congr 3
          apply fb_ct_cong
          intro j _
          rw [hpow, Nat.add_assoc]
      obtain ⟨m3, i1, i2, i3, i4, i5⟩ := inner 5 0 (by omega) m1 hs h55 h57 (by rw [Nat.zero_mul]; cases o <;> exact ho)
      refine ⟨m3, ?_, i2, i3, i4, ?_⟩
      · refine (ifp (show bi false = 0 from rfl)).trans ?_
        try dsimp only
        rw [h81]
        refine (ifnn (fun z => by have := (nI_eq (by omega) (by omega)).mp z; omega)).trans ?_
        rw [Nat.zero_mul] at i1
        rw [Nat.pow_succ, Nat.mul_comm (5 ^ d) 5]
        rw [Nat.pow_succ, Nat.mul_comm (5 ^ d) 5] at i1
        exact i1
      · rw [Nat.pow_succ, Nat.mul_comm (5 ^ d) 5]
        rw [Nat.pow_succ, Nat.mul_comm (5 ^ d) 5] at i5
        exact i5
end CROWDS
