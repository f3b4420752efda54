/-! gang -/
def blL (s : List cT) (B : Nat → Nat → Nat) (ns : Nat) : Nat → List Nat
  | 0 => []
  | k + 1 => blL s B ns k ++ (tev s k).map (fun e => prB B (gC s k).1 e.1 e.2.1 ns)
theorem blL_s (s : List cT) (B : Nat → Nat → Nat) (ns k : Nat) : blL s B ns (k + 1) = blL s B ns k ++ (tev s k).map (fun e => prB B (gC s k).1 e.1 e.2.1 ns) := rfl
theorem blL_len (s : List cT) (B : Nat → Nat → Nat) (ns : Nat) : ∀ k, (blL s B ns k).length ≤ k := by
  intro k
  induction k with
  | zero => exact Nat.le_refl _
  | succ k ih =>
    rw [blL_s, List.length_append, List.length_map]
    rcases tev_cases s k with ⟨_, q2⟩ | ⟨_, j, _, _, q2⟩
    · rw [q2]; simp; omega
    · rw [q2]; simp; omega
theorem blL_mem {c : List cT} {B : Nat → Nat → Nat} {ns : Nat} (g : gCnt c) (v : Nat) : ∀ k, k ≤ c.length → (v ∈ blL (isC c) B ns k ↔ ∃ w, w < 10 ∧ ∃ e, e ∈ thf (fw (isC c) w k) ∧ v = prB B w e.1 e.2.1 ns) := by
  intro k
  induction k with
  | zero =>
    intro _
    constructor
    · intro h; cases h
    · rintro ⟨w, _, e, he, _⟩; cases he
  | succ k ih =>
    intro hk
    have h1 := ih (by omega)
    have b := (gCi g (show k < c.length by omega)).1
    rw [blL_s, List.mem_append, h1, List.mem_map]
    constructor
    · rintro (⟨w, hw, e, he, hv⟩ | ⟨e, he, hv⟩)
      · refine ⟨w, hw, e, ?_, hv⟩
        rw [tev_s (by rw [isC_len]; omega)]
        exact List.mem_append.mpr (Or.inl he)
      · refine ⟨(gC (isC c) k).1, b, e, ?_, hv.symm⟩
        rw [tev_s (by rw [isC_len]; omega), if_pos rfl]
        exact List.mem_append.mpr (Or.inr he)
    · rintro ⟨w, hw, e, he, hv⟩
      rw [tev_s (by rw [isC_len]; omega)] at he
      rcases List.mem_append.mp he with he | he
      · exact Or.inl ⟨w, hw, e, he, hv⟩
      · by_cases d : (gC (isC c) k).1 = w
        · rw [if_pos d] at he
          exact Or.inr ⟨e, he, by rw [d]; exact hv.symm⟩
        · rw [if_neg d] at he
          cases he
def gngP (c : List cT) (B : Nat → Nat → Nat) (ns z : Nat) : Prop := ∀ w, w < 10 → ∀ e, e ∈ thW c w → prB B w e.1 e.2.1 ns &&& z ≠ 0
noncomputable def gngB (c : List cT) (B : Nat → Nat → Nat) (ns z : Nat) : Bool := @decide (gngP c B ns z) (Classical.propDecidable _)
theorem gngB_t {c : List cT} {B : Nat → Nat → Nat} {ns z : Nat} (h : gngP c B ns z) : gngB c B ns z = true := @decide_eq_true _ (Classical.propDecidable _) h
theorem gngB_f {c : List cT} {B : Nat → Nat → Nat} {ns z : Nat} (h : ¬ gngP c B ns z) : gngB c B ns z = false := @decide_eq_false _ (Classical.propDecidable _) h
def fwr (n : Nat) : Option Nat → Bool
  | none => true
  | some b => decide (bc (nI n) < bc (nI b))
theorem fwr_some (n b : Nat) : fwr n (some b) = decide (bc (nI n) < bc (nI b)) := rfl
def gs (G : Nat → Bool) : Nat → Option Nat
  | 0 => none
  | n + 1 => if (fwr n (gs G n) && G n) = true then some n else gs G n
theorem gs_s (G : Nat → Bool) (n : Nat) : gs G (n + 1) = if (fwr n (gs G n) && G n) = true then some n else gs G n := rfl
theorem gs_lt {G : Nat → Bool} : ∀ n b, gs G n = some b → b < n := by
  intro n
  induction n with
  | zero => intro b h; cases h
  | succ n ih =>
    intro b h
    rw [gs_s] at h
    split at h
    · cases h; omega
    · have := ih b h; omega
section GANG
variable {m m' : jx_Mem} {T P : Nat} {D : Nat → Nat → Nat} {W A U L : Nat → Nat}
variable {c : List cT} {ns nc : Nat} {B X : Nat → Nat → Nat}
def w49 (a _ : Nat) : Prop := a = 49
theorem and0 {v z : Nat} (hv : v < 2 ^ 31) : nI v &&& nI z = 0 ↔ v &&& z = 0 := by
  rw [fa_and]
  constructor
  · intro h
    have hl : v &&& z ≤ v := Nat.and_le_left
    exact (nI_eq (b := 0) (by omega) (by omega)).mp h
  · intro h
    rw [h]
    rfl
theorem sg_4 (h : cntF m c) (g : gCnt c) (hb : stayF m ns B) (gb : gStay P ns B) (hP : P ≤ 8) : ∀ (i k : Nat), k + i = c.length → ∀ m1, sm w49 m m1 → (∀ j, j < (blL (isC c) B ns k).length → m1.1 49 j = nI ((blL (isC c) B ns k).getD j 0)) →
    ∃ m2, f_Watch_smallestGang_4 (nI (blL (isC c) B ns k).length) (nI k) m1 = f_Watch_smallestGang_44 (nI (blL (isC c) B ns c.length).length) (-1) 0 m2 ∧ sm w49 m m2 ∧ (∀ j, j < (blL (isC c) B ns c.length).length → m2.1 49 j = nI ((blL (isC c) B ns c.length).getD j 0)) := by
  have g1 := g.1
  have hb2 : ∀ x, x ∈ isC c → x.2.2 ≤ 99 := fun x hx => (g.2 x ((isC_mem x c).mp hx)).2.2
  intro i
  induction i with
  | zero =>
    intro k hk m1 hs h49
    have : k = c.length := by omega
    subst this
    refine ⟨m1, ?_, hs, h49⟩
    rw [e_Watch_smallestGang_4, (hs 38 4 (by unfold w49; omega)).1, h.1]
    exact ifp (nI_le (Nat.le_refl _) (by omega))
  | succ i ih =>
    intro k hk m1 hs h49
    have hk2 : k < c.length := by omega
    have h1 : cntF m1 c := cntF_sm h hs (by intro a k; unfold dWF w49; omega)
    have hb1 : stayF m1 ns B := stayF_sm hb hs (by intro a k; unfold dWF w49; omega)
    have bk := tk_le hb2 (show k < (isC c).length by rw [isC_len]; omega)
    have hl := blL_len (isC c) B ns k
    rw [e_Watch_smallestGang_4, h1.1]
    have e0 : ∀ X Y : Option (Int32 × jx_Mem), (if decide (nI c.length ≤ nI k) = true then X else Y) = Y := fun X Y => ifn (nI_ge (a := k) (b := c.length) hk2 (by omega))
    rw [e0, s_takenBy h1 g hk2, Option.bind_some]
    try dsimp only
    rcases tev_cases (isC c) k with ⟨q1, q2⟩ | ⟨q1, j, q3, q4, q2⟩
    · have e1 : blL (isC c) B ns (k + 1) = blL (isC c) B ns k := by rw [blL_s, q2, List.map_nil, List.append_nil]
      obtain ⟨m2, r1, r2⟩ := ih (k + 1) (by omega) m1 hs (by rw [e1]; exact h49)
      refine ⟨m2, ?_, r2⟩
      rw [← r1, e1]
      refine (ifp (by rw [q1]; exact nI_le (a := 0) (b := 0) (Nat.le_refl _) (by omega))).trans ?_
      rw [e_Watch_smallestGang_34, nI_1]
    · have e1 : blL (isC c) B ns (k + 1) = blL (isC c) B ns k ++ [prB B (gC (isC c) k).1 (gC (isC c) j).2.1 (gC (isC c) k).2.1 ns] := by rw [blL_s, q2]; rfl
      obtain ⟨m2, r1, r2⟩ := ih (k + 1) (by omega) (jx_w1 m1 49 (blL (isC c) B ns k).length (nI (prB B (gC (isC c) k).1 (gC (isC c) j).2.1 (gC (isC c) k).2.1 ns))) (hs.w1 rfl) (by
        rw [e1]
        intro j' hj'
        rw [List.length_append, List.length_singleton] at hj'
        rw [w1_rd, List.getD_eq_getElem?_getD]
        by_cases d : j' = (blL (isC c) B ns k).length
        · rw [if_pos ⟨rfl, d⟩, d, List.getElem?_append_right (Nat.le_refl _), Nat.sub_self]
          rfl
        · rw [if_neg (fun z => d z.2), List.getElem?_append_left (by omega), ← List.getD_eq_getElem?_getD]
          exact h49 j' (by omega))
      refine ⟨m2, ?_, r2⟩
      rw [← r1, e1, List.length_append]
      refine (ifn (nI_ge (a := 0) (b := tk (isC c) k) q1 (by omega))).trans ?_
      rw [s_suspBy h1 g hb1 gb hP hk2 q4, Option.bind_some, in_nI (show (blL (isC c) B ns k).length < 16 by omega) (by omega), nI_cl (show (blL (isC c) B ns k).length < 2 ^ 31 by omega)]
      show f_Watch_smallestGang_34 _ _ _ = _
      rw [e_Watch_smallestGang_34, nI_1, nI_1]
      rfl
theorem s_meets {Ls : List Nat} (hl : Ls.length ≤ 16) (hv : ∀ v, v ∈ Ls → v < 2 ^ 8) (h49 : ∀ j, j < Ls.length → m.1 49 j = nI (Ls.getD j 0)) (z : Nat) : f_Watch_meetsAll (nI z) (nI Ls.length) m = some (bi (!anyF (fun j => Ls.getD j 0 &&& z == 0) 0 Ls.length), m) := by
  have inner := lp_any (fun j => f_Watch_meetsAll_2 (nI z) (nI Ls.length) j m) (fun j => Ls.getD j 0 &&& z == 0) (some ((0 : Int32), m)) (some ((1 : Int32), m)) Ls.length (by
    rw [e_Watch_meetsAll_2]
    exact ifp (nI_le (Nat.le_refl _) (by omega))) (by
    intro j hj
    have hm : Ls.getD j 0 ∈ Ls := by
      rw [List.getD_eq_getElem?_getD, List.getElem?_eq_getElem hj]
      exact List.getElem_mem hj
    have hb := hv _ hm
    rw [e_Watch_meetsAll_2]
    refine (ifn (nI_ge (a := j) (b := Ls.length) hj (by omega))).trans ?_
    rw [in_nI (show j < 16 by omega) (by omega), nI_cl (show j < 2 ^ 31 by omega), cond_true, h49 j hj]
    by_cases d : Ls.getD j 0 &&& z = 0
    · refine (ifnp ((and0 (by omega)).mpr d)).trans ?_
      rw [d]
      rfl
    · refine (ifnn (fun y => d ((and0 (by omega)).mp y))).trans ?_
      rw [nI_1, if_neg (by simpa using d)]) Ls.length 0 (by omega)
  rw [e_Watch_meetsAll]
  refine Eq.trans inner ?_
  cases anyF (fun j => Ls.getD j 0 &&& z == 0) 0 Ls.length <;> rfl
theorem meets_gng (g : gCnt c) (z : Nat) : (!anyF (fun j => (blL (isC c) B ns c.length).getD j 0 &&& z == 0) 0 (blL (isC c) B ns c.length).length) = gngB c B ns z := by
  by_cases d : gngP c B ns z
  · rw [gngB_t d]
    cases hA : anyF (fun j => (blL (isC c) B ns c.length).getD j 0 &&& z == 0) 0 (blL (isC c) B ns c.length).length with
    | false => rfl
    | true =>
      exfalso
      obtain ⟨o, _, o2, o3⟩ := anyF_iff.mp hA
      have hm : (blL (isC c) B ns c.length).getD o 0 ∈ blL (isC c) B ns c.length := by
        rw [List.getD_eq_getElem?_getD, List.getElem?_eq_getElem (by omega)]
        exact List.getElem_mem _
      obtain ⟨w, hw, e, he, hv⟩ := (blL_mem g _ c.length (Nat.le_refl _)).mp hm
      rw [thW_fw] at he
      rw [hv] at o3
      exact d w hw e he (by simpa using o3)
  · rw [gngB_f d]
    cases hA : anyF (fun j => (blL (isC c) B ns c.length).getD j 0 &&& z == 0) 0 (blL (isC c) B ns c.length).length with
    | true => rfl
    | false =>
      exfalso
      apply d
      intro w hw e he hv
      rw [← thW_fw] at he
      have hm := (blL_mem g (prB B w e.1 e.2.1 ns) c.length (Nat.le_refl _)).mpr ⟨w, hw, e, he, rfl⟩
      obtain ⟨o, ho, hoe⟩ := List.getElem_of_mem hm
      have : anyF (fun j => (blL (isC c) B ns c.length).getD j 0 &&& z == 0) 0 (blL (isC c) B ns c.length).length = true := by
        rw [anyF_iff]
        refine ⟨o, Nat.zero_le _, by omega, ?_⟩
        rw [List.getD_eq_getElem?_getD, List.getElem?_eq_getElem ho, Option.getD_some, hoe, hv]
        rfl
      rw [hA] at this
      cases this
theorem pw8 (hP : P ≤ 8) : 2 ^ P ≤ 256 := Nat.pow_le_pow_right (by omega) hP
theorem bc_cmp (a b : Int32) {X Y : Option (Int32 × jx_Mem)} : (if decide (b ≤ a) = true then X else Y) = if a < b then Y else X := by
  by_cases h : a < b
  · rw [if_pos h]
    exact ifn (fun z => by have p := i_lt.mp h; have q := i_le.mp z; omega)
  · rw [if_neg h]
    exact ifp (i_le.mpr (by have : ¬ a.toInt < b.toInt := fun z => h (i_lt.mpr z); omega))
def wGgF (a k : Nat) : Prop := a = 49 ∨ wRF a k
theorem F_gang (hm : mineF m T P D W A U L) (gm : gMine T P D W A U L) (h : cntF m c) (g : gCnt c) (hb : stayF m ns B) (gb : gStay P ns B) : ∃ m', sm wGgF m m' ∧
    ((∃ b, gs (gngB c B ns) (2 ^ P) = some b ∧ f_F_gang m = some (bc (nI b), m') ∧ rF m' [pI b]) ∨ (gs (gngB c B ns) (2 ^ P) = none ∧ f_F_gang m = some (-2, m') ∧ sm w49 m m')) := by
  have hP := gm.2.1
  have h8 := pw8 hP
  have g1 := g.1
  obtain ⟨m1, r1, r2, r3⟩ := sg_4 h g hb gb hP c.length 0 (by omega) m sm.rf (fun j hj => absurd hj (Nat.not_lt_zero j))
  have hm1 : mineF m1 T P D W A U L := mineF_sm hm r2 (by intro a k; unfold dMF w49; omega)
  have hlen := blL_len (isC c) B ns c.length
  have hv8 : ∀ v, v ∈ blL (isC c) B ns c.length → v < 2 ^ 8 := fun v hv => by
    obtain ⟨w, _, e, _, hv2⟩ := (blL_mem g v c.length (Nat.le_refl _)).mp hv
    rw [hv2]
    exact prB_lt ns (fun k hk => by have := (gb.2 k hk).1; omega)
  have key := lp_up (fun i x => f_Watch_smallestGang_44 (nI (blL (isC c) B ns c.length).length) x i m1) (fun n => oI (gs (gngB c B ns) n)) (2 ^ P) (by
    intro n hn
    have hme := s_meets (m := m1) (by omega) hv8 r3 n
    rw [meets_gng g] at hme
    have f78 : f_Watch_smallestGang_78 (nI (blL (isC c) B ns c.length).length) (oI (gs (gngB c B ns) n)) (nI n) 1 m1 = f_Watch_smallestGang_44 (nI (blL (isC c) B ns c.length).length) (if gngB c B ns n = true then nI n else oI (gs (gngB c B ns) n)) (nI (n + 1)) m1 := by
      rw [e_Watch_smallestGang_78]
      refine (ifn ne10).trans ?_
      rw [hme, Option.bind_some]
      cases gngB c B ns n with
      | false =>
        refine (ifp (show bi false = 0 from rfl)).trans ?_
        rw [e_Watch_smallestGang_96, nI_1]
        rfl
      | true =>
        refine (ifn (show ¬ bi true = 0 from ne10)).trans ?_
        rw [e_Watch_smallestGang_96, nI_1]
        rfl
    rw [e_Watch_smallestGang_44, e_Mine_people, Option.bind_some, hm1.2.1]
    try dsimp only
    rw [sh1 (by omega)]
    refine (ifn (nI_ge (a := n) (b := 2 ^ P) hn (by omega))).trans ?_
    rw [gs_s]
    cases hq : gs (gngB c B ns) n with
    | none =>
      refine (ifp rfl).trans ?_
      rw [hq] at f78
      rw [e_Watch_smallestGang_73, f78]
      cases gngB c B ns n <;> rfl
    | some b =>
      have hb2 := gs_lt n b hq
      refine (ifn (oI_ne (show b < 2 ^ 31 by omega))).trans ?_
      rw [s_bc, Option.bind_some]
      try dsimp only
      rw [s_bc, Option.bind_some]
      try dsimp only
      rw [bc_cmp]
      rw [hq] at f78
      show (if bc (nI n) < bc (nI b) then _ else _) = _
      rw [fwr_some]
      by_cases d : bc (nI n) < bc (nI b)
      · rw [if_pos d, e_Watch_smallestGang_73, f78, decide_eq_true d]
        cases gngB c B ns n <;> rfl
      · rw [if_neg d, e_Watch_smallestGang_78, decide_eq_false d]
        refine (ifp eq00).trans ?_
        rw [e_Watch_smallestGang_96, nI_1]
        rfl) 0 (Nat.zero_le _)
  have e0 : f_Watch_smallestGang m = some (oI (gs (gngB c B ns) (2 ^ P)), m1) := by
    rw [e_Watch_smallestGang]
    refine Eq.trans r1 ?_
    refine Eq.trans key ?_
    try dsimp only
    rw [e_Watch_smallestGang_44, e_Mine_people, Option.bind_some, hm1.2.1]
    try dsimp only
    rw [sh1 (by omega)]
    exact ifp (nI_le (Nat.le_refl _) (by omega))
  rw [e_F_gang, e0, Option.bind_some]
  cases hq : gs (gngB c B ns) (2 ^ P) with
  | none =>
    refine ⟨m1, r2.mono (fun _ _ z => Or.inl z), Or.inr ⟨rfl, ?_, r2⟩⟩
    exact ifn (show ¬ (0 : Int32) ≤ -1 by decide)
  | some b =>
    have hb2 := gs_lt _ b hq
    obtain ⟨m2, t1, t2, t3⟩ := s_tell1 (pI b) m1
    refine ⟨m2, (r2.mono (fun _ _ z => Or.inl z)).tr (t3.mono (fun _ _ z => Or.inr z)), Or.inl ⟨b, rfl, ?_, t2⟩⟩
    refine (ifp (nI_pos' (show b < 2 ^ 31 by omega))).trans ?_
    show (f_Row_tell_J (pI b) m1).bind _ = _
    rw [t1, Option.bind_some]
    show (f_Int_bitCount (nI b) m2).bind _ = _
    rw [s_bc]
    rfl
/-! the model's gang -/
theorem mg_2 (hc : cntM m c) (g : gCnt c) (hb : stayM m ns B) (gb : gStay P ns B) (hP : P ≤ 8) (z : Nat) : ∀ (i w : Nat), w + i = 10 → ∀ m1, sm wFt m m1 →
    ∃ m2, sm wFt m m2 ∧ ((∀ w', w ≤ w' → w' < 10 → ∀ e, e ∈ thW c w' → prB B w' e.1 e.2.1 ns &&& z ≠ 0) → f_M_isGang_2 (nI z) (nI w) m1 = some (1, m2)) ∧ (¬ (∀ w', w ≤ w' → w' < 10 → ∀ e, e ∈ thW c w' → prB B w' e.1 e.2.1 ns &&& z ≠ 0) → f_M_isGang_2 (nI z) (nI w) m1 = some (0, m2)) := by
  have g1 := g.1
  intro i
  induction i with
  | zero =>
    intro w hw m1 hs
    have : w = 10 := by omega
    subst this
    refine ⟨m1, hs, fun _ => ?_, fun d => absurd (fun w' h1 h2 => by omega) d⟩
    rw [e_M_isGang_2]
    exact ifp (by decide)
  | succ i ih =>
    intro w hw m1 hs
    have hc1 : cntM m1 c := cntM_sm hc hs (by intro a k; unfold dWM wFt; omega)
    obtain ⟨m2, r1, r2, r3⟩ := s_finds hc1 g (show w < 10 by omega)
    have hs2 := hs.tr r2
    have hb2 : stayM m2 ns B := stayM_sm hb hs2 (by intro a k; unfold dWM wFt; omega)
    have hlw : (thW c w).length ≤ 15 := by
      have h1 := thf_len (isC (c.filter (pw w)))
      have h2 := List.length_filter_le (pw w) c
      rw [isC_len] at h1
      unfold thW
      omega
    obtain ⟨m3, t1, t2, t3⟩ := ih (w + 1) (by omega) m2 hs2
    have inner := lp_any (fun j => f_M_isGang_15 (nI z) (nI w) j m2) (fun j => prB B w (gC (thW c w) j).1 (gC (thW c w) j).2.1 ns &&& z == 0) (some ((0 : Int32), m2)) (f_M_isGang_2 (nI z) (nI (w + 1)) m2) (thW c w).length (by
      rw [e_M_isGang_15, r3.1]
      refine (ifp (nI_le (Nat.le_refl _) (by omega))).trans ?_
      rw [nI_1]) (by
      intro j hj
      have hmb := thW_bd g (gC_mem hj)
      have hpl : prB B w (gC (thW c w) j).1 (gC (thW c w) j).2.1 ns < 2 ^ 8 := prB_lt ns (fun k hk => by have := (gb.2 k hk).1; omega)
      rw [e_M_isGang_15, r3.1]
      refine (ifn (nI_ge (a := j) (b := (thW c w).length) hj (by omega))).trans ?_
      rw [in_nI (show j < 16 by omega) (by omega), nI_cl (show j < 2 ^ 31 by omega), cond_true, cond_true, (r3.2.2 j hj).1, (r3.2.2 j hj).2, s_there hb2 gb hP (by omega) hmb.1 hmb.2, Option.bind_some]
      by_cases d : prB B w (gC (thW c w) j).1 (gC (thW c w) j).2.1 ns &&& z = 0
      · refine (ifnp ((and0 (by omega)).mpr d)).trans ?_
        rw [d]
        rfl
      · refine (ifnn (fun y => d ((and0 (by omega)).mp y))).trans ?_
        rw [nI_1, if_neg (by simpa using d)]) (thW c w).length 0 (by omega)
    have e0 : f_M_isGang_2 (nI z) (nI w) m1 = f_M_isGang_15 (nI z) (nI w) (nI 0) m2 := by
      rw [e_M_isGang_2]
      refine (ifn (nI_ge (a := w) (b := 10) (by omega) (by omega))).trans ?_
      rw [r1, Option.bind_some]
      rfl
    by_cases d : ∀ e, e ∈ thW c w → prB B w e.1 e.2.1 ns &&& z ≠ 0
    · have hA : ¬ anyF (fun j => prB B w (gC (thW c w) j).1 (gC (thW c w) j).2.1 ns &&& z == 0) 0 (thW c w).length = true := by
        rw [anyF_iff]
        rintro ⟨o, _, o2, o3⟩
        exact d _ (gC_mem (show o < (thW c w).length by omega)) (by simpa using o3)
      try dsimp only at inner
      rw [if_neg hA] at inner
      refine ⟨m3, t1, fun q => ?_, fun q => ?_⟩
      · rw [e0]
        exact inner.trans (t2 (fun w' h1 h2 => q w' (by omega) h2))
      · rw [e0]
        refine inner.trans (t3 (fun y => q (fun w' h1 h2 e he => ?_)))
        by_cases dd : w' = w
        · rw [dd] at he ⊢; exact d e he
        · exact y w' (by omega) h2 e he
    · have hA : anyF (fun j => prB B w (gC (thW c w) j).1 (gC (thW c w) j).2.1 ns &&& z == 0) 0 (thW c w).length = true := by
        rw [anyF_iff]
        apply Classical.byContradiction
        intro y
        apply d
        intro e he hv
        obtain ⟨o, ho, hoe⟩ := List.getElem_of_mem he
        refine y ⟨o, Nat.zero_le _, by omega, ?_⟩
        have : gC (thW c w) o = e := by
          unfold gC
          rw [List.getD_eq_getElem?_getD, List.getElem?_eq_getElem ho, Option.getD_some, hoe]
        rw [this, hv]
        rfl
      try dsimp only at inner
      rw [if_pos hA] at inner
      refine ⟨m2, hs2, fun q => absurd (q w (Nat.le_refl _) (by omega)) d, fun q => ?_⟩
      rw [e0]
      exact inner
theorem s_isGang (hc : cntM m c) (g : gCnt c) (hb : stayM m ns B) (gb : gStay P ns B) (hP : P ≤ 8) (z : Nat) : ∃ m2, sm wFt m m2 ∧ f_M_isGang (nI z) m = some (bi (gngB c B ns z), m2) := by
  obtain ⟨m2, r1, r2, r3⟩ := mg_2 hc g hb gb hP z 10 0 (by omega) m sm.rf
  refine ⟨m2, r1, ?_⟩
  rw [e_M_isGang]
  by_cases d : gngP c B ns z
  · rw [gngB_t d]
    exact r2 (fun w' _ h2 => d w' h2)
  · rw [gngB_f d]
    exact r3 (fun q => d (fun w' h2 => q w' (Nat.zero_le _) h2))
def wGgM (a k : Nat) : Prop := wFt a k ∨ wTM a k
theorem M_gang (hm : mineM m T P D W A U L) (gm : gMine T P D W A U L) (hc : cntM m c) (g : gCnt c) (hb : stayM m ns B) (gb : gStay P ns B) : ∃ m', sm wGgM m m' ∧
    ((∃ b, gs (gngB c B ns) (2 ^ P) = some b ∧ f_M_gang m = some (bc (nI b), m') ∧ rM m' [pI b]) ∨ (gs (gngB c B ns) (2 ^ P) = none ∧ f_M_gang m = some (-2, m') ∧ sm wSuM m m')) := by
  have hP := gm.2.1
  have h8 := pw8 hP
  have s1 : sm wSuM m (jx_w1 m 63 0 0) := sm_w1 (Or.inr ⟨rfl, rfl⟩)
  have key : ∀ (i n : Nat), n + i = 2 ^ P → ∀ m1, sm wSuM m m1 → ∃ m2, sm wSuM m m2 ∧ f_M_gang_9 (oI (gs (gngB c B ns) n)) (nI n) m1 = f_M_gang_9 (oI (gs (gngB c B ns) (2 ^ P))) (nI (2 ^ P)) m2 := by
    intro i
    induction i with
    | zero =>
      intro n hn m1 hs
      have : n = 2 ^ P := by omega
      subst this
      exact ⟨m1, hs, rfl⟩
    | succ i ih =>
      intro n hn m1 hs
      have hm1 : mineM m1 T P D W A U L := mineM_sm hm hs (by intro a k; unfold dMM wSuM wFt; omega)
      have hc1 : cntM m1 c := cntM_sm hc hs (by intro a k; unfold dWM wSuM wFt; omega)
      have hb1 : stayM m1 ns B := stayM_sm hb hs (by intro a k; unfold dWM wSuM wFt; omega)
      obtain ⟨m2, r1, r2⟩ := s_isGang hc1 g hb1 gb hP n
      have hs2 : sm wSuM m m2 := hs.tr (r1.mono (fun _ _ z => Or.inl z))
      have f34 : ∀ x, f_M_gang_34 x (nI n) m1 = f_M_gang_9 (if gngB c B ns n = true then nI n else x) (nI (n + 1)) m2 := by
        intro x
        rw [e_M_gang_34, r2, Option.bind_some]
        cases gngB c B ns n with
        | false =>
          refine (ifp (show bi false = 0 from rfl)).trans ?_
          rw [e_M_gang_44, nI_1]
          rfl
        | true =>
          refine (ifn (show ¬ bi true = 0 from ne10)).trans ?_
          rw [e_M_gang_44, nI_1]
          rfl
      rw [e_M_gang_9, hm1.2.1, sh1 (show P < 31 by omega)]
      have e0 : ∀ X Y : Option (Int32 × jx_Mem), (if decide (nI (2 ^ P) ≤ nI n) = true then X else Y) = Y := fun X Y => ifn (nI_ge (a := n) (b := 2 ^ P) (by omega) (by omega))
      rw [e0]
      cases hq : gs (gngB c B ns) n with
      | none =>
        have e1 : gs (gngB c B ns) (n + 1) = if gngB c B ns n = true then some n else none := by
          rw [gs_s, hq]
          rfl
        obtain ⟨m3, t1, t2⟩ := ih (n + 1) (by omega) m2 hs2
        refine ⟨m3, t1, ?_⟩
        rw [← t2, e1]
        refine (ifp (by decide)).trans ?_
        rw [f34]
        cases gngB c B ns n <;> rfl
      | some b =>
        have hb2 := gs_lt n b hq
        have e2 : ∀ X Y : Option (Int32 × jx_Mem), (if decide (oI (some b) < 0) = true then X else Y) = Y := fun X Y => ifn (nI_pos (show b < 2 ^ 31 by omega))
        rw [e2, s_bc, Option.bind_some]
        try dsimp only
        rw [s_bc, Option.bind_some]
        try dsimp only
        rw [bc_cmp]
        by_cases d : bc (nI n) < bc (nI b)
        · have e1 : gs (gngB c B ns) (n + 1) = if gngB c B ns n = true then some n else some b := by
            rw [gs_s, hq, fwr_some]
            rw [decide_eq_true d]
            rfl
          obtain ⟨m3, t1, t2⟩ := ih (n + 1) (by omega) m2 hs2
          refine ⟨m3, t1, ?_⟩
          rw [← t2, e1]
          refine (if_pos (show bc (nI n) < bc (oI (some b)) from d)).trans ?_
          rw [f34]
          cases gngB c B ns n <;> rfl
        · have e1 : gs (gngB c B ns) (n + 1) = some b := by
            rw [gs_s, hq, fwr_some]
            rw [decide_eq_false d]
            rfl
          obtain ⟨m3, t1, t2⟩ := ih (n + 1) (by omega) m1 hs
          refine ⟨m3, t1, ?_⟩
          rw [← t2, e1]
          refine (if_neg (show ¬ bc (nI n) < bc (oI (some b)) from d)).trans ?_
          rw [e_M_gang_44, nI_1]
  obtain ⟨m2, k1, k2⟩ := key (2 ^ P) 0 (by omega) (jx_w1 m 63 0 0) s1
  have hm2 : mineM m2 T P D W A U L := mineM_sm hm k1 (by intro a k; unfold dMM wSuM wFt; omega)
  have e0 : f_M_gang m = f_M_gang_9 (oI (gs (gngB c B ns) (2 ^ P))) (nI (2 ^ P)) m2 := by
    rw [e_M_gang]
    exact k2
  rw [e0, e_M_gang_9, hm2.2.1, sh1 (show P < 31 by omega)]
  have e1 : ∀ X Y : Option (Int32 × jx_Mem), (if decide (nI (2 ^ P) ≤ nI (2 ^ P)) = true then X else Y) = X := fun X Y => ifp (nI_le (Nat.le_refl _) (by omega))
  rw [e1]
  cases hq : gs (gngB c B ns) (2 ^ P) with
  | none =>
    refine ⟨m2, k1.mono (fun a k z => by unfold wSuM at z; unfold wGgM wTM; rcases z with z | z; exact Or.inl z; exact Or.inr (by omega)), Or.inr ⟨rfl, ?_, k1⟩⟩
    exact ifn (show ¬ (0 : Int32) ≤ -1 by decide)
  | some b =>
    have hb2 := gs_lt _ b hq
    obtain ⟨m3, t1, t2, t3⟩ := s_enters (pI b) (rM_0 m2) (by simp)
    have s3 : sm wGgM m m3 := (k1.mono (fun a k z => by unfold wSuM at z; unfold wGgM wTM; rcases z with z | z; exact Or.inl z; exact Or.inr (by omega))).tr ((sm_w1 (Or.inr (by unfold wTM; omega))).tr (t3.mono (fun a k z => Or.inr (by unfold wRM at z; unfold wTM; omega))))
    refine ⟨m3, s3, Or.inl ⟨b, rfl, ?_, t2⟩⟩
    refine (ifp (nI_pos' (show b < 2 ^ 31 by omega))).trans ?_
    show (f_M_enters (pI b) (jx_w1 m2 63 1 0)).bind _ = _
    rw [t1, Option.bind_some]
    show (f_Int_bitCount (nI b) m3).bind _ = _
    rw [s_bc]
    rfl
end GANG
