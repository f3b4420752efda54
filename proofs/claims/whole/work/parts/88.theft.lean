/-! thefts: what they are; the class -/
def thf : List cT → List cT
  | [] => []
  | [_] => []
  | a :: b :: r => if b.2.2 < a.2.2 then (a.2.1, b.2.1, a.2.2 - b.2.2) :: thf (b :: r) else thf (b :: r)
def stp (o : Option cT) (x : cT) : List cT := match o with
  | none => []
  | some a => if x.2.2 < a.2.2 then [(a.2.1, x.2.1, a.2.2 - x.2.2)] else []
theorem thf_snoc (x : cT) : ∀ l : List cT, thf (l ++ [x]) = thf l ++ stp l.getLast? x := by
  intro l
  induction l with
  | nil => rfl
  | cons a r ih =>
    cases r with
    | nil =>
      show thf [a, x] = thf [a] ++ stp (some a) x
      unfold thf stp
      dsimp only
      split <;> rfl
    | cons b r =>
      have e1 : thf ((a :: b :: r) ++ [x]) = if b.2.2 < a.2.2 then (a.2.1, b.2.1, a.2.2 - b.2.2) :: thf ((b :: r) ++ [x]) else thf ((b :: r) ++ [x]) := rfl
      have e2 : thf (a :: b :: r) = if b.2.2 < a.2.2 then (a.2.1, b.2.1, a.2.2 - b.2.2) :: thf (b :: r) else thf (b :: r) := rfl
      rw [e1, e2, ih, List.getLast?_cons_cons]
      split <;> rfl
theorem thf_len : ∀ l : List cT, (thf l).length ≤ l.length - 1 := by
  intro l
  induction l with
  | nil => exact Nat.le_refl _
  | cons a r ih =>
    cases r with
    | nil => exact Nat.le_refl _
    | cons b r =>
      have e2 : thf (a :: b :: r) = if b.2.2 < a.2.2 then (a.2.1, b.2.1, a.2.2 - b.2.2) :: thf (b :: r) else thf (b :: r) := rfl
      rw [e2]
      simp only [List.length_cons] at ih ⊢
      split
      · rw [List.length_cons]; omega
      · omega
def pw (w : Nat) : cT → Bool := fun y => decide (y.1 = w)
def fw (s : List cT) (w k : Nat) : List cT := (s.take k).filter (pw w)
theorem fw_s {s : List cT} {w k : Nat} (h : k < s.length) : fw s w (k + 1) = fw s w k ++ (if (gC s k).1 = w then [gC s k] else []) := by
  unfold fw
  rw [take_gC h, List.filter_append]
  congr 1
  by_cases c : (gC s k).1 = w
  · rw [if_pos c, List.filter_cons_of_pos (by simp [pw, c])]; rfl
  · rw [if_neg c, List.filter_cons_of_neg (by simp [pw, c])]; rfl
theorem fw_all (s : List cT) (w : Nat) : fw s w s.length = s.filter (pw w) := by
  unfold fw
  rw [List.take_length]
def caO (s : List cT) (p : Nat) : Nat → Option Nat
  | 0 => none
  | j + 1 => if (gC s j).1 = p then some j else caO s p j
theorem caO_lt {s : List cT} {p : Nat} : ∀ k j, caO s p k = some j → j < k ∧ (gC s j).1 = p := by
  intro k
  induction k with
  | zero => intro j h; cases h
  | succ k ih =>
    intro j h
    unfold caO at h
    split at h
    · cases h; rename_i c; exact ⟨by omega, c⟩
    · have := ih j h; exact ⟨by omega, this.2⟩
theorem caO_last {s : List cT} {p : Nat} : ∀ k, k ≤ s.length → (fw s p k).getLast? = (caO s p k).map (gC s) := by
  intro k
  induction k with
  | zero => intro _; rfl
  | succ k ih =>
    intro hk
    rw [fw_s (by omega)]
    unfold caO
    by_cases c : (gC s k).1 = p
    · rw [if_pos c, if_pos c, List.getLast?_append]
      rfl
    · rw [if_neg c, if_neg c, List.append_nil]
      exact ih (by omega)
/-- the theft that count k tells, if it tells one -/
def tev (s : List cT) (k : Nat) : List cT := stp ((caO s (gC s k).1 k).map (gC s)) (gC s k)
theorem tev_s {s : List cT} {w k : Nat} (h : k < s.length) : thf (fw s w (k + 1)) = thf (fw s w k) ++ (if (gC s k).1 = w then tev s k else []) := by
  rw [fw_s h]
  by_cases c : (gC s k).1 = w
  · rw [if_pos c, if_pos c, thf_snoc, caO_last k (by omega)]
    unfold tev
    rw [c]
  · rw [if_neg c, if_neg c, List.append_nil, List.append_nil]
def tk (s : List cT) (k : Nat) : Nat := match caO s (gC s k).1 k with
  | none => 0
  | some j => (gC s j).2.2 - (gC s k).2.2
theorem tev_cases (s : List cT) (k : Nat) : (tk s k = 0 ∧ tev s k = []) ∨ (0 < tk s k ∧ ∃ j, j < k ∧ caO s (gC s k).1 k = some j ∧ tev s k = [((gC s j).2.1, (gC s k).2.1, tk s k)]) := by
  unfold tev tk
  cases hc : caO s (gC s k).1 k with
  | none => exact Or.inl ⟨rfl, rfl⟩
  | some j =>
    dsimp only [Option.map]
    unfold stp
    dsimp only
    by_cases c : (gC s k).2.2 < (gC s j).2.2
    · rw [if_pos c]
      exact Or.inr ⟨by omega, j, (caO_lt k j hc).1, rfl, rfl⟩
    · rw [if_neg c]
      exact Or.inl ⟨by omega, rfl⟩
def sumT (L : List cT) : Nat := (L.map (fun t => t.2.2)).sum
theorem sumT_snoc (L : List cT) (t : cT) : sumT (L ++ [t]) = sumT L + t.2.2 := by
  unfold sumT
  rw [List.map_append, List.sum_append]
  simp
theorem tk_le {s : List cT} (hb : ∀ x, x ∈ s → x.2.2 ≤ 99) {k : Nat} (hk : k < s.length) : tk s k ≤ 99 := by
  unfold tk
  cases hc : caO s (gC s k).1 k with
  | none => exact Nat.zero_le _
  | some j =>
    have := hb _ (gC_mem (show j < s.length by have := (caO_lt k j hc).1; omega))
    dsimp only
    omega
theorem sumT_fw {s : List cT} (hb : ∀ x, x ∈ s → x.2.2 ≤ 99) (w : Nat) : ∀ k, k ≤ s.length → sumT (thf (fw s w k)) ≤ 99 * k ∧ (thf (fw s w k)).length ≤ k := by
  intro k
  induction k with
  | zero => intro _; exact ⟨Nat.le_refl _, Nat.le_refl _⟩
  | succ k ih =>
    intro hk
    have h1 := ih (by omega)
    have h2 := tk_le hb (show k < s.length by omega)
    rw [tev_s (by omega)]
    by_cases c : (gC s k).1 = w
    · rw [if_pos c]
      rcases tev_cases s k with ⟨q1, q2⟩ | ⟨q1, j, _, _, q2⟩
      · rw [q2, List.append_nil]; omega
      · rw [q2, sumT_snoc, List.length_append]
        simp only [List.length_singleton]
        omega
    · rw [if_neg c, List.append_nil]; omega
/-- the first count that tells a theft -/
def frO (s : List cT) (w : Nat) : Nat → Option Nat
  | 0 => none
  | k + 1 => match frO s w k with
    | some q => some q
    | none => if (gC s k).1 = w ∧ 0 < tk s k then some k else none
theorem frO_ok {s : List cT} {w : Nat} : ∀ k, k ≤ s.length → (frO s w k = none ∧ thf (fw s w k) = []) ∨ ∃ k0 j0 r, frO s w k = some k0 ∧ k0 < k ∧ j0 < k0 ∧ caO s (gC s k0).1 k0 = some j0 ∧ thf (fw s w k) = ((gC s j0).2.1, (gC s k0).2.1, tk s k0) :: r := by
  intro k
  induction k with
  | zero => intro _; exact Or.inl ⟨rfl, rfl⟩
  | succ k ih =>
    intro hk
    rw [tev_s (by omega)]
    unfold frO
    rcases ih (by omega) with ⟨h1, h2⟩ | ⟨k0, j0, r, h1, h2, h3, h4, h5⟩
    · rw [h1, h2]
      dsimp only
      by_cases c : (gC s k).1 = w
      · rw [if_pos c]
        rcases tev_cases s k with ⟨q1, q2⟩ | ⟨q1, j, q3, q4, q2⟩
        · rw [if_neg (fun z => by have := z.2; omega), q2]
          exact Or.inl ⟨rfl, rfl⟩
        · rw [if_pos ⟨c, q1⟩, q2]
          exact Or.inr ⟨k, j, [], rfl, by omega, q3, q4, rfl⟩
      · rw [if_neg (fun z => c z.1), if_neg c]
        exact Or.inl ⟨rfl, rfl⟩
    · rw [h1, h5]
      dsimp only
      exact Or.inr ⟨k0, j0, r ++ (if (gC s k).1 = w then tev s k else []), rfl, by omega, h3, h4, rfl⟩
/-! who was there -/
def prB (B : Nat → Nat → Nat) (w f t : Nat) : Nat → Nat
  | 0 => 0
  | n + 1 => if B 1 n = w ∧ B 2 n ≤ t ∧ f ≤ B 3 n then prB B w f t n ||| 2 ^ (B 0 n) else prB B w f t n
theorem prB_s (B : Nat → Nat → Nat) (w f t n : Nat) : prB B w f t (n + 1) = if B 1 n = w ∧ B 2 n ≤ t ∧ f ≤ B 3 n then prB B w f t n ||| 2 ^ (B 0 n) else prB B w f t n := rfl
theorem prB_lt {B : Nat → Nat → Nat} {w f t : Nat} : ∀ n, (∀ k, k < n → B 0 k < 8) → prB B w f t n < 2 ^ 8 := by
  intro n
  induction n with
  | zero => intro _; exact Nat.two_pow_pos 8
  | succ n ih =>
    intro h
    have h1 := ih (fun k hk => h k (by omega))
    unfold prB
    split
    · exact or_lt8 h1 (h n (by omega))
    · exact h1
theorem mx_sub {a b : Nat} (ha : a < 2 ^ 30) (hb : b < 2 ^ 30) : jx_mx 0 (nI a - nI b) = nI (a - b) := by
  by_cases c : b ≤ a
  · rw [pk_sub c]
    have := mx_nI (a := 0) (b := a - b) (by omega) (by omega)
    rw [Nat.zero_max] at this
    exact this
  · have h1 : nI a - nI b < 0 := pk_sneg hb (by omega)
    unfold jx_mx
    rw [if_neg (fun z => by have p := i_lt.mp z; have q := i_lt.mp h1; omega), show a - b = 0 by omega]
    rfl
section THEFT
variable {m m' : jx_Mem} {T P : Nat} {D : Nat → Nat → Nat} {W A U L : Nat → Nat}
variable {c : List cT} {ns nc : Nat} {B X : Nat → Nat → Nat}
theorem s_present (hb : stayF m ns B) (gb : gStay P ns B) (hP : P ≤ 8) {w f t : Nat} (hw : w < 10) (hf : f ≤ 999) (ht : t ≤ 999) : f_Watch_present (nI w) (nI f) (nI t) m = some (nI (prB B w f t ns), m) := by
  have hn := gb.1
  have key := lp_up (fun i x => f_Watch_present_6 (nI w) (nI f) (nI t) x i m) (fun n => nI (prB B w f t n)) ns (by
    intro n hn2
    obtain ⟨b0, b1, b2, b3⟩ := hb.2 n hn2
    obtain ⟨g0, g1, g2, g3⟩ := gb.2 n hn2
    rw [e_Watch_present_6, hb.1]
    refine (ifn (nI_ge (a := n) (b := ns) hn2 (by omega))).trans ?_
    rw [in_nI (show n < 20 by omega) (by omega), nI_cl (by omega), b0, b1, b2, b3]
    simp only [cond_true]
    rw [prB_s]
    by_cases c1 : B 1 n = w
    · refine (ifnp (by rw [c1])).trans ?_
      by_cases c2 : B 2 n ≤ t
      · refine (ifn (nI_nlt c2 (by omega))).trans ?_
        by_cases c3 : f ≤ B 3 n
        · refine (ifn (nI_nlt c3 (by omega))).trans ?_
          rw [if_pos ⟨c1, c2, c3⟩, e_Watch_present_62, nI_1, sh1 (by omega), fa_or]
        · refine (ifp (nI_lt (by omega) (by omega))).trans ?_
          rw [if_neg (fun z => c3 z.2.2), e_Watch_present_62, nI_1]
      · refine (ifp (nI_lt (by omega) (by omega))).trans ?_
        rw [if_neg (fun z => c2 z.2.1), e_Watch_present_62, nI_1]
    · refine (ifnn (fun z => c1 ((nI_eq (by omega) (by omega)).mp z))).trans ?_
      rw [if_neg (fun z => c1 z.1), e_Watch_present_62, nI_1]) 0 (Nat.zero_le _)
  rw [e_Watch_present]
  refine Eq.trans (b := f_Watch_present_6 (nI w) (nI f) (nI t) (nI (prB B w f t ns)) (nI ns) m) key ?_
  rw [e_Watch_present_6, hb.1]
  exact ifp (nI_le (Nat.le_refl _) (by omega))
theorem s_there (hb : stayM m ns B) (gb : gStay P ns B) (hP : P ≤ 8) {w f t : Nat} (hw : w < 10) (hf : f ≤ 999) (ht : t ≤ 999) : f_M_there (nI w) (nI f) (nI t) m = some (nI (prB B w f t ns), m) := by
  have hn := gb.1
  have key := lp_up (fun i x => f_M_there_6 (nI w) (nI f) (nI t) x i m) (fun n => nI (prB B w f t n)) ns (by
    intro n hn2
    obtain ⟨b0, b1, b2, b3⟩ := hb.2 n hn2
    obtain ⟨g0, g1, g2, g3⟩ := gb.2 n hn2
    have or0 : ∀ v : Nat, nI v ||| 0 = nI v := fun v => by have := fa_or v 0; rw [Nat.or_zero] at this; exact this
    rw [e_M_there_6, hb.1]
    refine (ifn (nI_ge (a := n) (b := ns) hn2 (by omega))).trans ?_
    rw [in_nI (show n < 20 by omega) (by omega), nI_cl (by omega), b0, b1, b2, b3]
    simp only [cond_true]
    rw [prB_s]
    by_cases c1 : B 1 n = w
    · refine (ifnp (by rw [c1])).trans ?_
      by_cases c2 : B 2 n ≤ t
      · refine (ifn (nI_nlt c2 (by omega))).trans ?_
        by_cases c3 : f ≤ B 3 n
        · refine (ifn (nI_nlt c3 (by omega))).trans ?_
          rw [if_pos ⟨c1, c2, c3⟩, e_M_there_63, nI_1, sh1 (by omega), fa_or]
        · refine (ifp (nI_lt (by omega) (by omega))).trans ?_
          rw [if_neg (fun z => c3 z.2.2), e_M_there_62, e_M_there_63, nI_1, or0]
      · refine (ifp (nI_lt (by omega) (by omega))).trans ?_
        rw [if_neg (fun z => c2 z.2.1), e_M_there_62, e_M_there_63, nI_1, or0]
    · refine (ifnn (fun z => c1 ((nI_eq (by omega) (by omega)).mp z))).trans ?_
      rw [if_neg (fun z => c1 z.1), e_M_there_62, e_M_there_63, nI_1, or0]) 0 (Nat.zero_le _)
  rw [e_M_there]
  refine Eq.trans (b := f_M_there_6 (nI w) (nI f) (nI t) (nI (prB B w f t ns)) (nI ns) m) key ?_
  rw [e_M_there_6, hb.1]
  exact ifp (nI_le (Nat.le_refl _) (by omega))
theorem gCi (g : gCnt c) {k : Nat} (hk : k < c.length) : (gC (isC c) k).1 < 10 ∧ (gC (isC c) k).2.1 ≤ 999 ∧ (gC (isC c) k).2.2 ≤ 99 := g.2 _ ((isC_mem _ c).mp (gC_mem (by rw [isC_len]; exact hk)))
theorem s_ahead (h : cntF m c) (g : gCnt c) {k : Nat} (hk : k < c.length) : f_Watch_countAhead (nI k) m = some (oI (caO (isC c) (gC (isC c) k).1 k), m) := by
  have g1 := g.1
  have hl := isC_len c
  have key : ∀ j, j ≤ k → f_Watch_countAhead_4 (nI k) (nI j - 1) m = some (oI (caO (isC c) (gC (isC c) k).1 j), m) := by
    intro j
    induction j with
    | zero =>
      intro _
      rw [e_Watch_countAhead_4]
      exact ifp (by decide)
    | succ j ih =>
      intro hj
      have b1 := (gCi g (show j < c.length by omega)).1
      have b2 := (gCi g hk).1
      rw [nI_pred, e_Watch_countAhead_4]
      refine (ifn (nI_pos (by omega))).trans ?_
      rw [in_nI (show j < 16 by omega) (by omega), in_nI (show k < 16 by omega) (by omega), nI_cl (show j < 2 ^ 31 by omega), nI_cl (show k < 2 ^ 31 by omega), cond_true, cond_true, (h.2 j (by omega)).1, (h.2 k (by omega)).1]
      unfold caO
      by_cases d : (gC (isC c) j).1 = (gC (isC c) k).1
      · refine (ifnp (by rw [d])).trans ?_
        rw [if_pos d]
        rfl
      · refine (ifnn (fun z => d ((nI_eq (by omega) (by omega)).mp z))).trans ?_
        rw [if_neg d, neg1, ih (by omega)]
  rw [e_Watch_countAhead]
  exact key k (Nat.le_refl k)
theorem s_takenBy (h : cntF m c) (g : gCnt c) {k : Nat} (hk : k < c.length) : f_Watch_takenBy (nI k) m = some (nI (tk (isC c) k), m) := by
  have g1 := g.1
  have hl := isC_len c
  rw [e_Watch_takenBy, s_ahead h g hk, Option.bind_some]
  unfold tk
  cases hc : caO (isC c) (gC (isC c) k).1 k with
  | none =>
    refine (ifnp rfl).trans ?_
    rw [e_Watch_takenBy_32]
    rfl
  | some j =>
    have hj := (caO_lt k j hc).1
    have b1 := (gCi g (show j < c.length by omega)).2.2
    have b2 := (gCi g hk).2.2
    refine (ifnn (oI_ne (show j < 2 ^ 31 by omega))).trans ?_
    show (bif jx_in (nI j) 16 then bif jx_in (nI k) 16 then f_Watch_takenBy_32 (jx_mx 0 (m.1 41 (nI j).toNatClampNeg - m.1 41 (nI k).toNatClampNeg)) m else none else none) = _
    rw [in_nI (show j < 16 by omega) (by omega), in_nI (show k < 16 by omega) (by omega), nI_cl (show j < 2 ^ 31 by omega), nI_cl (show k < 2 ^ 31 by omega), cond_true, cond_true, (h.2 j (by omega)).2.2, (h.2 k (by omega)).2.2, mx_sub (by omega) (by omega), e_Watch_takenBy_32]
theorem s_suspBy (h : cntF m c) (g : gCnt c) (hb : stayF m ns B) (gb : gStay P ns B) (hP : P ≤ 8) {k j : Nat} (hk : k < c.length) (hc : caO (isC c) (gC (isC c) k).1 k = some j) : f_Watch_suspectsBy (nI k) m = some (nI (prB B (gC (isC c) k).1 (gC (isC c) j).2.1 (gC (isC c) k).2.1 ns), m) := by
  have g1 := g.1
  have hl := isC_len c
  have hj := (caO_lt k j hc).1
  have b1 := (gCi g (show j < c.length by omega)).2.1
  have b2 := gCi g hk
  rw [e_Watch_suspectsBy, s_ahead h g hk, Option.bind_some, hc]
  refine (ifnn (oI_ne (show j < 2 ^ 31 by omega))).trans ?_
  show (bif jx_in (nI k) 16 then bif jx_in (nI j) 16 then bif jx_in (nI k) 16 then (f_Watch_present (m.1 39 (nI k).toNatClampNeg) (m.1 40 (nI j).toNatClampNeg) (m.1 40 (nI k).toNatClampNeg) m).bind (fun p2 => some (p2.1, p2.2)) else none else none else none) = _
  rw [in_nI (show j < 16 by omega) (by omega), in_nI (show k < 16 by omega) (by omega), nI_cl (show j < 2 ^ 31 by omega), nI_cl (show k < 2 ^ 31 by omega), cond_true, cond_true, cond_true, (h.2 j (by omega)).2.1, (h.2 k (by omega)).1, (h.2 k (by omega)).2.1, s_present hb gb hP b2.1 b1 b2.2.1]
  rfl
/-! missing, suspects: the class -/
def thW (c : List cT) (w : Nat) : List cT := thf (isC (c.filter (pw w)))
theorem thW_fw (c : List cT) (w : Nat) : thf (fw (isC c) w c.length) = thW c w := by
  unfold thW
  rw [← isC_fil, ← fw_all, isC_len]
def rowT (L : List cT) : List Int64 := match L with
  | [] => []
  | t :: r => [pI t.1, pI t.2.1, pI (sumT (t :: r))]
theorem F_missing (h : cntF m c) (g : gCnt c) (x : Int32) : ∃ m', sm wRF m m' ∧
    (((0 ≤ x.toInt ∧ x.toInt < 10) ∧ f_F_missing x m = some (nI (thW c (jn x)).length, m') ∧ rF m' (rowT (thW c (jn x)))) ∨ (¬ (0 ≤ x.toInt ∧ x.toInt < 10) ∧ f_F_missing x m = some (-1, m') ∧ m' = m)) := by
  have g1 := g.1
  have hl := isC_len c
  have hb : ∀ x, x ∈ isC c → x.2.2 ≤ 99 := fun x hx => (g.2 x ((isC_mem x c).mp hx)).2.2
  rw [e_F_missing]
  by_cases hx : 0 ≤ x.toInt ∧ x.toInt < 10
  · obtain ⟨w, hw, rfl⟩ := nI_get hx.1 (show x.toInt < ((10 : Nat) : Int) from hx.2)
    rw [jn_nI (show w < 2 ^ 31 by omega), ← thW_fw]
    have key := lp_up (fun i (x : List cT × Option Nat) => f_Watch_tellThefts_11 (nI w) (nI x.1.length) (oI x.2) (nI (sumT x.1)) i m) (fun k => (thf (fw (isC c) w k), frO (isC c) w k)) c.length (by
      intro k hk
      have b1 := (gCi g hk).1
      have bS := sumT_fw hb w k (by omega)
      have bk := tk_le hb (show k < (isC c).length by omega)
      try dsimp only
      rw [e_Watch_tellThefts_11, h.1]
      refine (ifn (nI_ge (a := k) (b := c.length) hk (by omega))).trans ?_
      rw [in_nI (show k < 16 by omega) (by omega), nI_cl (show k < 2 ^ 31 by omega), cond_true, (h.2 k (by omega)).1, tev_s (by omega)]
      by_cases d : (gC (isC c) k).1 = w
      · refine (ifnp (by rw [d])).trans ?_
        rw [s_takenBy h g hk, Option.bind_some, if_pos d]
        rcases tev_cases (isC c) k with ⟨q1, q2⟩ | ⟨q1, j, q3, q4, q2⟩
        · refine (ifp (by rw [q1]; exact nI_le (a := 0) (b := 0) (Nat.le_refl _) (by omega))).trans ?_
          have e1 : frO (isC c) w (k + 1) = frO (isC c) w k := by
            rw [frO]
            cases frO (isC c) w k with
            | none => dsimp only; rw [if_neg (fun z => by have := z.2; omega)]
            | some q => rfl
          rw [e_Watch_tellThefts_67, nI_1, q2, List.append_nil, e1]
        · refine (ifn (nI_ge (a := 0) (b := tk (isC c) k) q1 (by omega))).trans ?_
          rw [q2, sumT_snoc, List.length_append]
          rcases frO_ok k (show k ≤ (isC c).length by omega) with ⟨h1, h2⟩ | ⟨k0, j0, r, h1, h2, h3, h4, h5⟩
          · rw [h2]
            have e1 : frO (isC c) w (k + 1) = some k := by
              rw [frO, h1]
              dsimp only
              rw [if_pos ⟨d, q1⟩]
            refine (ifnp (by rfl)).trans ?_
            rw [e_Watch_tellThefts_51, s_takenBy h g hk, Option.bind_some, e_Watch_tellThefts_67, nI_1, nI_1, nI_add, e1]
            rfl
          · have e1 : frO (isC c) w (k + 1) = some k0 := by rw [frO, h1]
            have hlen : 0 < (thf (fw (isC c) w k)).length := by rw [h5]; simp
            refine (ifnn (nI_ne0 hlen (by omega))).trans ?_
            rw [e_Watch_tellThefts_51, s_takenBy h g hk, Option.bind_some, e_Watch_tellThefts_67, nI_1, nI_1, nI_add, e1, h1]
            rfl
      · refine (ifnn (fun z => d ((nI_eq (by omega) (by omega)).mp z))).trans ?_
        have e1 : frO (isC c) w (k + 1) = frO (isC c) w k := by
          rw [frO]
          cases frO (isC c) w k with
          | none => dsimp only; rw [if_neg (fun z => d z.1)]
          | some q => rfl
        rw [e_Watch_tellThefts_67, nI_1, if_neg d, List.append_nil, e1]) 0 (Nat.zero_le _)
    have bS := sumT_fw hb w c.length (by omega)
    have e0 : f_Watch_tellThefts (nI w) m = (f_Row_clear m).bind (fun p1 => if decide (¬ oI (frO (isC c) w c.length) = (-1)) = true then ((f_Watch_countAhead (oI (frO (isC c) w c.length)) p1).bind (fun p2 => f_Watch_tellThefts_93 (nI (thf (fw (isC c) w c.length)).length) (oI (frO (isC c) w c.length)) (nI (sumT (thf (fw (isC c) w c.length)))) p2.1 p2.2)) else (f_Watch_tellThefts_93 (nI (thf (fw (isC c) w c.length)).length) (oI (frO (isC c) w c.length)) (nI (sumT (thf (fw (isC c) w c.length)))) (-1) p1)) := by
      rw [e_Watch_tellThefts]
      refine Eq.trans key ?_
      try dsimp only
      rw [e_Watch_tellThefts_11, h.1]
      exact ifp (nI_le (Nat.le_refl _) (by omega))
    obtain ⟨m1, r1, r2, r3⟩ := s_Row_clear m
    have h1 : cntF m1 c := cntF_sm h r3 (by intro a k; unfold dWF wRF; omega)
    rcases frO_ok (w := w) c.length (show c.length ≤ (isC c).length by omega) with ⟨p1, p2⟩ | ⟨k0, j0, r, p1, p2, p3, p4, p5⟩
    · refine ⟨m1, r3, Or.inl ⟨hx, ?_, ?_⟩⟩
      · have e1 : f_Watch_tellThefts (nI w) m = some (nI (thf (fw (isC c) w c.length)).length, m1) := by
          rw [e0, r1, Option.bind_some, p1]
          refine (ifnp rfl).trans ?_
          rw [e_Watch_tellThefts_93]
          refine (ifp rfl).trans ?_
          rw [e_Watch_tellThefts_128]
        simp [s_pl_t hx, e1, e_F_missing_27]
      · rw [p2]; exact r2
    · have b1 := (gCi g (show j0 < c.length by omega)).2.1
      have b2 := (gCi g (show k0 < c.length by omega)).2.1
      obtain ⟨m2, q1, q2, q3⟩ := s_tell2 (pI (gC (isC c) j0).2.1) (pI (gC (isC c) k0).2.1) m1
      obtain ⟨m3, t1, t2, t3⟩ := s_Row_add (pI (sumT (thf (fw (isC c) w c.length)))) q2 (by simp)
      refine ⟨m3, (r3.tr q3).tr t3, Or.inl ⟨hx, ?_, ?_⟩⟩
      · have e1 : f_Watch_tellThefts (nI w) m = some (nI (thf (fw (isC c) w c.length)).length, m3) := by
          rw [e0, r1, Option.bind_some, p1]
          refine (ifnn (oI_ne (show k0 < 2 ^ 31 by omega))).trans ?_
          show (f_Watch_countAhead (nI k0) m1).bind (fun p2 => f_Watch_tellThefts_93 (nI (thf (fw (isC c) w c.length)).length) (nI k0) (nI (sumT (thf (fw (isC c) w c.length)))) p2.1 p2.2) = _
          rw [s_ahead h1 g (by omega), Option.bind_some, p4]
          try dsimp only
          rw [e_Watch_tellThefts_93]
          refine (ifn (oI_ne (show j0 < 2 ^ 31 by omega))).trans ?_
          show (bif jx_in (nI j0) 16 then bif jx_in (nI k0) 16 then (f_Row_tell_JJ ((m1.1 40 (nI j0).toNatClampNeg).toInt64) ((m1.1 40 (nI k0).toNatClampNeg).toInt64) m1).bind (fun p1 => (f_Row_add (pI (sumT (thf (fw (isC c) w c.length)))) p1).bind (fun p2 => f_Watch_tellThefts_128 (nI (thf (fw (isC c) w c.length)).length) p2)) else none else none) = _
          rw [in_nI (show j0 < 16 by omega) (by omega), in_nI (show k0 < 16 by omega) (by omega), nI_cl (show j0 < 2 ^ 31 by omega), nI_cl (show k0 < 2 ^ 31 by omega), cond_true, cond_true, (h1.2 j0 (by omega)).2.1, (h1.2 k0 (by omega)).2.1]
          show (f_Row_tell_JJ (pI (gC (isC c) j0).2.1) (pI (gC (isC c) k0).2.1) m1).bind _ = _
          rw [q1, Option.bind_some, t1, Option.bind_some, e_Watch_tellThefts_128]
        simp [s_pl_t hx, e1, e_F_missing_27]
      · rw [p5] at t2 ⊢
        exact t2
  · refine ⟨m, sm.rf, Or.inr ⟨hx, ?_, rfl⟩⟩
    simp [s_pl_f hx, e_F_missing_27]
def cSus (x y : Int32) : Prop := (0 ≤ x.toInt ∧ x.toInt < 10) ∧ 0 ≤ y.toInt
def susV (c : List cT) (B : Nat → Nat → Nat) (ns w k : Nat) : Int32 := if k < (thW c w).length then nI (prB B w (gC (thW c w) k).1 (gC (thW c w) k).2.1 ns) else -2
theorem F_suspects (h : cntF m c) (g : gCnt c) (hb : stayF m ns B) (gb : gStay P ns B) (hP : P ≤ 8) (x y : Int32) : f_F_suspects x y m = some (@ite _ (cSus x y) (Classical.propDecidable _) (susV c B ns (jn x) (jn y)) (-1), m) := by
  have g1 := g.1
  have hl := isC_len c
  have hb2 : ∀ x, x ∈ isC c → x.2.2 ≤ 99 := fun x hx => (g.2 x ((isC_mem x c).mp hx)).2.2
  rw [e_F_suspects]
  by_cases hx : 0 ≤ x.toInt ∧ x.toInt < 10
  · by_cases hy : 0 ≤ y.toInt
    · obtain ⟨w, hw, rfl⟩ := nI_get hx.1 (show x.toInt < ((10 : Nat) : Int) from hx.2)
      have hy31 := Int32.toInt_lt y
      obtain ⟨q, hq, rfl⟩ := nI_get hy (show y.toInt < ((2 ^ 31 : Nat) : Int) by omega)
      rw [if_pos ⟨hx, hy⟩, jn_nI (show w < 2 ^ 31 by omega), jn_nI hq]
      have key : ∀ i k, k + i = c.length → ∀ L, L = thf (fw (isC c) w k) → L.length ≤ q → f_Watch_suspectsOf_5 (nI w) (nI q) (nI L.length) (nI k) m = some (susV c B ns w q, m) := by
        intro i
        induction i with
        | zero =>
          intro k hk L hL hLq
          have : k = c.length := by omega
          subst this
          rw [e_Watch_suspectsOf_5, h.1]
          refine (ifp (nI_le (Nat.le_refl _) (by omega))).trans ?_
          unfold susV
          rw [thW_fw] at hL
          rw [← hL, if_neg (by omega)]
        | succ i ih =>
          intro k hk L hL hLq
          have hk2 : k < c.length := by omega
          have b1 := (gCi g hk2).1
          have bS := sumT_fw hb2 w k (by omega)
          have bk := tk_le hb2 (show k < (isC c).length by omega)
          have hs := tev_s (s := isC c) (w := w) (k := k) (by omega)
          rw [← hL] at hs bS
          rw [e_Watch_suspectsOf_5, h.1]
          refine (ifn (nI_ge (a := k) (b := c.length) hk2 (by omega))).trans ?_
          rw [in_nI (show k < 16 by omega) (by omega), nI_cl (show k < 2 ^ 31 by omega), cond_true, (h.2 k (by omega)).1]
          by_cases d : (gC (isC c) k).1 = w
          · refine (ifnp (by rw [d])).trans ?_
            rw [s_takenBy h g hk2, Option.bind_some]
            rw [if_pos d] at hs
            rcases tev_cases (isC c) k with ⟨q1, q2⟩ | ⟨q1, j, q3, q4, q2⟩
            · refine (ifp (by rw [q1]; exact nI_le (a := 0) (b := 0) (Nat.le_refl _) (by omega))).trans ?_
              rw [q2, List.append_nil] at hs
              rw [e_Watch_suspectsOf_49, nI_1]
              exact ih (k + 1) (by omega) L hs.symm hLq
            · refine (ifn (nI_ge (a := 0) (b := tk (isC c) k) q1 (by omega))).trans ?_
              rw [q2] at hs
              by_cases e : L.length = q
              · refine (ifnp (by rw [e])).trans ?_
                try dsimp only
                rw [s_suspBy h g hb gb hP hk2 q4]
                have hfin : ∃ r, thW c w = L ++ [((gC (isC c) j).2.1, (gC (isC c) k).2.1, tk (isC c) k)] ++ r := by
                  have pre : ∀ n, k + 1 + n ≤ c.length → ∃ r, thf (fw (isC c) w (k + 1 + n)) = L ++ [((gC (isC c) j).2.1, (gC (isC c) k).2.1, tk (isC c) k)] ++ r := by
                    intro n
                    induction n with
                    | zero => intro _; exact ⟨[], by rw [Nat.add_zero, hs, List.append_nil]⟩
                    | succ n ihn =>
                      intro hn
                      obtain ⟨r, hr⟩ := ihn (by omega)
                      refine ⟨r ++ (if (gC (isC c) (k + 1 + n)).1 = w then tev (isC c) (k + 1 + n) else []), ?_⟩
                      rw [← Nat.add_assoc, tev_s (by omega), hr, List.append_assoc, List.append_assoc]
                  obtain ⟨r, hr⟩ := pre (c.length - (k + 1)) (by omega)
                  rw [show k + 1 + (c.length - (k + 1)) = c.length by omega, thW_fw] at hr
                  exact ⟨r, hr⟩
                obtain ⟨r, hr⟩ := hfin
                unfold susV
                have e1 : gC (thW c w) q = ((gC (isC c) j).2.1, (gC (isC c) k).2.1, tk (isC c) k) := by
                  rw [hr, ← e]
                  unfold gC
                  rw [List.getD_eq_getElem?_getD, List.append_assoc, List.getElem?_append_right (Nat.le_refl _), Nat.sub_self]
                  rfl
                rw [if_pos (by rw [hr]; simp; omega), e1, d]
                rfl
              · refine (ifnn (fun z => e ((nI_eq (by omega) hq).mp z))).trans ?_
                rw [e_Watch_suspectsOf_49, nI_1, nI_1]
                have := ih (k + 1) (by omega) (L ++ [((gC (isC c) j).2.1, (gC (isC c) k).2.1, tk (isC c) k)]) hs.symm (by simp; omega)
                rw [List.length_append, List.length_singleton] at this
                exact this
          · refine (ifnn (fun z => d ((nI_eq (by omega) (by omega)).mp z))).trans ?_
            rw [if_neg d, List.append_nil] at hs
            rw [e_Watch_suspectsOf_49, nI_1]
            exact ih (k + 1) (by omega) L hs.symm hLq
      have e1 : f_Watch_suspectsOf (nI w) (nI q) m = some (susV c B ns w q, m) := by
        rw [e_Watch_suspectsOf]
        exact key c.length 0 (by omega) [] rfl (Nat.zero_le _)
      have q0 : ¬ nI q < 0 := nI_pos hq
      simp [s_pl_t hx, q0, e1, e_F_suspects_28]
    · rw [if_neg (fun q => hy q.2)]
      have q0 : y < 0 := i_lt.mpr (show y.toInt < 0 by omega)
      simp [s_pl_t hx, q0, e_F_suspects_27, e_F_suspects_28]
  · rw [if_neg (fun q => hx q.1)]
    simp [s_pl_f hx, e_F_suspects_27, e_F_suspects_28]
end THEFT
