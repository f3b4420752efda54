/-! loud, loudest, heard, gas -/
def vo (d : Nat) : Nat := if d < 999 then 60 / (1 + d) else 0
theorem vo_le (d : Nat) : vo d ≤ 60 := by
  unfold vo
  split
  · exact Nat.div_le_self 60 _
  · exact Nat.zero_le _
def ldA (D : Nat → Nat → Nat) (A : Nat → Nat) (P w : Nat) : Nat := fb_sm (fun p => vo (D (A p) w)) P
theorem ldA_le (D : Nat → Nat → Nat) (A : Nat → Nat) {P w : Nat} (hP : P ≤ 8) : ldA D A P w ≤ 480 := by
  have : ldA D A P w ≤ P * 60 := fb_sm_bound (fun k _ => vo_le _)
  omega
/-- the loudest of the places below n, how many are as loud -/
def lq (f : Nat → Nat) : Nat → Nat × Nat
  | 0 => (0, 0)
  | n + 1 => if n = 0 then (0, 1) else if f (lq f n).1 < f n then (n, 1) else if f n = f (lq f n).1 then ((lq f n).1, (lq f n).2 + 1) else lq f n
theorem lq_s (f : Nat → Nat) (n : Nat) : lq f (n + 1) = if n = 0 then (0, 1) else if f (lq f n).1 < f n then (n, 1) else if f n = f (lq f n).1 then ((lq f n).1, (lq f n).2 + 1) else lq f n := rfl
theorem lq_lt (f : Nat → Nat) : ∀ n, (lq f n).1 ≤ n ∧ (lq f n).2 ≤ n ∧ (0 < n → (lq f n).1 < n) := by
  intro n
  induction n with
  | zero => exact ⟨Nat.le_refl _, Nat.le_refl _, fun h => absurd h (Nat.lt_irrefl 0)⟩
  | succ n ih =>
    rw [lq_s]
    split
    · exact ⟨by show (0 : Nat) ≤ _; omega, by show (1 : Nat) ≤ _; omega, fun _ => by show (0 : Nat) < _; omega⟩
    · split
      · exact ⟨by show n ≤ _; omega, by show (1 : Nat) ≤ _; omega, fun _ => by show n < _; omega⟩
      · split
        · exact ⟨by show (lq f n).1 ≤ _; omega, by show (lq f n).2 + 1 ≤ _; omega, fun _ => by show (lq f n).1 < _; omega⟩
        · exact ⟨by omega, by omega, fun _ => by omega⟩
section NOISE
variable {m m' : jx_Mem} {T P : Nat} {D : Nat → Nat → Nat} {W A U L : Nat → Nat}
theorem s_voice (h : mineF m T P D W A U L) (g : gMine T P D W A U L) {a b : Nat} (ha : a < 10) (hb : b < 10) : f_Noise_voice (nI a) (nI b) m = some (nI (vo (D a b)), m) := by
  have h3 := (g.2.2.1.2 a b ha hb).1
  rw [e_Noise_voice, s_dist h ha hb, Option.bind_some]
  unfold vo
  refine (ifn (nI_pos (show D a b < 2 ^ 31 by omega))).trans ?_
  by_cases c : D a b < 999
  · refine (ifp (nI_lt (b := 999) c (by omega))).trans ?_
    show (bif !(decide ((nI 1 + nI (D a b)) = 0)) then f_Noise_voice_31 (nI 60 / (nI 1 + nI (D a b))) m else none) = _
    rw [nI_add, decide_eq_false (nI_ne0 (by omega) (by omega)), pk_div (by omega) (by omega) (by omega), e_Noise_voice_31, if_pos c]
    rfl
  · refine (ifn (nI_nlt (b := 999) (by omega) (by omega))).trans ?_
    rw [e_Noise_voice_21, e_Noise_voice_31, if_neg c]
    rfl
theorem s_sounds {d : Nat} (hd : d ≤ 999) : f_M_sounds (nI d) m = some (nI (vo d), m) := by
  rw [e_M_sounds]
  unfold vo
  by_cases c : d < 999
  · refine (ifnn (fun z => by have := (nI_eq (b := 999) (by omega) (by omega)).mp z; omega)).trans ?_
    show (bif !(decide ((nI 1 + nI d) = 0)) then f_M_sounds_17 (nI 60 / (nI 1 + nI d)) m else none) = _
    rw [nI_add, decide_eq_false (nI_ne0 (by omega) (by omega)), pk_div (by omega) (by omega) (by omega), e_M_sounds_17, if_pos c]
    rfl
  · refine (ifnp (by rw [show d = 999 by omega]; rfl)).trans ?_
    rw [e_M_sounds_17, if_neg c]
    rfl
theorem s_loudAt (h : mineF m T P D W A U L) (g : gMine T P D W A U L) {w : Nat} (hw : w < 10) : f_Noise_loudAt (nI w) m = some (nI (ldA D A P w), m) := by
  have hP := g.2.1
  rw [e_Noise_loudAt]
  have h1 := lp_up (fun i x => f_Noise_loudAt_4 (nI w) x i m) (fun n => nI (fb_sm (fun p => vo (D (A p) w)) n)) P (by
    intro n hn
    rw [e_Noise_loudAt_4, e_Mine_people, Option.bind_some, h.2.1]
    refine (ifn (nI_ge (a := n) (b := P) hn (by omega))).trans ?_
    rw [s_placeOf h g hn, Option.bind_some, s_voice h g (g.2.2.2.2.2 n hn).1 hw, Option.bind_some, nI_add, nI_1]
    rfl) 0 (Nat.zero_le _)
  refine h1.trans ?_
  rw [e_Noise_loudAt_4, e_Mine_people, Option.bind_some, h.2.1]
  exact ifp (nI_le (Nat.le_refl _) (by omega))
theorem s_mloudAt (h : mineM m T P D W A U L) (g : gMine T P D W A U L) {w : Nat} (hw : w < 10) : f_M_loudAt (nI w) m = some (nI (ldA D A P w), m) := by
  have hP := g.2.1
  rw [e_M_loudAt]
  have h1 := lp_up (fun i x => f_M_loudAt_4 (nI w) x i m) (fun n => nI (fb_sm (fun p => vo (D (A p) w)) n)) P (by
    intro n hn
    have hA := (g.2.2.2.2.2 n hn).1
    rw [e_M_loudAt_4, h.2.1]
    refine (ifn (nI_ge (a := n) (b := P) hn (by omega))).trans ?_
    rw [in_nI (show n < 8 by omega) (by omega), nI_cl (by omega), (h.2.2.2.2 n hn).1, s_far h g.2.2.1 hA hw, cond_true, Option.bind_some, s_sounds (g.2.2.1.2 (A n) w hA hw).1, Option.bind_some, nI_add, nI_1]
    rfl) 0 (Nat.zero_le _)
  refine h1.trans ?_
  rw [e_M_loudAt_4, h.2.1]
  exact ifp (nI_le (Nat.le_refl _) (by omega))
theorem F_loud (h : mineF m T P D W A U L) (g : gMine T P D W A U L) (x : Int32) : f_F_loud x m = some (if 0 ≤ x.toInt ∧ x.toInt < 10 then nI (ldA D A P (jn x)) else -1, m) := by
  rw [e_F_loud]
  by_cases hx : 0 ≤ x.toInt ∧ x.toInt < 10
  · obtain ⟨a, ha, rfl⟩ := nI_get hx.1 (show x.toInt < ((10 : Nat) : Int) from hx.2)
    rw [if_pos hx, jn_nI (by omega)]
    simp [s_pl_t hx, s_loudAt h g ha, e_F_loud_23]
  · rw [if_neg hx]
    simp [s_pl_f hx, e_F_loud_23]
theorem M_loud (h : mineM m T P D W A U L) (g : gMine T P D W A U L) (x : Int32) : f_M_loud x m = some (if 0 ≤ x.toInt ∧ x.toInt < 10 then nI (ldA D A P (jn x)) else -1, jx_w1 m 63 0 0) := by
  have h1 := mineM_th h (v := 0)
  rw [e_M_loud]
  dsimp only
  by_cases hx : 0 ≤ x.toInt ∧ x.toInt < 10
  · obtain ⟨a, ha, rfl⟩ := nI_get hx.1 (show x.toInt < ((10 : Nat) : Int) from hx.2)
    rw [if_pos hx, jn_nI (by omega)]
    simp [s_mpl_t hx, s_mloudAt h1 g ha, e_M_loud_21]
  · rw [if_neg hx]
    simp [s_mpl_f hx, e_M_loud_21]
theorem F_loudest (h : mineF m T P D W A U L) (g : gMine T P D W A U L) : ∃ m', sm wRF m m' ∧ f_F_loudest m = some (nI (lq (ldA D A P) 10).1, m') ∧ rF m' [(nI (ldA D A P (lq (ldA D A P) 10).1)).toInt64, (nI (lq (ldA D A P) 10).2).toInt64] := by
  have hP := g.2.1
  obtain ⟨m', q1, q2, q3⟩ := s_tell2 (nI (ldA D A P (lq (ldA D A P) 10).1)).toInt64 (nI (lq (ldA D A P) 10).2).toInt64 m
  refine ⟨m', q3, ?_, q2⟩
  have key : ∀ k n, 1 ≤ n → n + k = 10 → f_Noise_tellLoudest_14 (nI (lq (ldA D A P) n).1) (nI (ldA D A P (lq (ldA D A P) n).1)) (nI (lq (ldA D A P) n).2) (nI n) m = some (nI (lq (ldA D A P) 10).1, m') := by
    intro k
    induction k with
    | zero =>
      intro n _ hn
      have hn2 : n = 10 := by omega
      subst hn2
      rw [e_Noise_tellLoudest_14]
      refine (ifp (by decide)).trans ?_
      rw [q1]
      rfl
    | succ k ih =>
      intro n h1 hn
      have l1 := lq_lt (ldA D A P) n
      have b1 := ldA_le D A (P := P) (w := n) hP
      have b2 := ldA_le D A (P := P) (w := (lq (ldA D A P) n).1) hP
      rw [e_Noise_tellLoudest_14]
      refine (ifn (nI_ge (a := n) (b := 10) (by omega) (by omega))).trans ?_
      rw [s_loudAt h g (by omega), Option.bind_some, ← ih (n + 1) (by omega) (by omega), lq_s, if_neg (show ¬ n = 0 by omega)]
      by_cases c : ldA D A P (lq (ldA D A P) n).1 < ldA D A P n
      · rw [if_pos c]
        refine (ifn (nI_ge c (by omega))).trans ?_
        rw [e_Noise_tellLoudest_56, nI_1]
        rfl
      · rw [if_neg c]
        refine (ifp (nI_le (by omega) (by omega))).trans ?_
        by_cases d : ldA D A P n = ldA D A P (lq (ldA D A P) n).1
        · rw [if_pos d]
          refine (ifnp (by rw [d])).trans ?_
          rw [e_Noise_tellLoudest_56, nI_1, nI_1]
        · rw [if_neg d]
          refine (ifnn (fun z => d ((nI_eq (by omega) (by omega)).mp z))).trans ?_
          rw [e_Noise_tellLoudest_56, nI_1]
  rw [e_F_loudest, e_Noise_tellLoudest]
  show ((f_Noise_loudAt (nI 0) m).bind _).bind _ = _
  rw [s_loudAt h g (by omega), Option.bind_some]
  show (f_Noise_tellLoudest_14 (nI (lq (ldA D A P) 1).1) (nI (ldA D A P (lq (ldA D A P) 1).1)) (nI (lq (ldA D A P) 1).2) (nI 1) m).bind _ = _
  rw [key 9 1 (by omega) (by omega)]
  rfl
theorem M_loudest (h : mineM m T P D W A U L) (g : gMine T P D W A U L) : ∃ m', sm wTM m m' ∧ f_M_loudest m = some (nI (lq (ldA D A P) 10).1, m') ∧ rM m' [(nI (ldA D A P (lq (ldA D A P) 10).1)).toInt64, (nI (lq (ldA D A P) 10).2).toInt64] := by
  have hP := g.2.1
  have h1 := mineM_th h (v := 0)
  have s1 : sm wTM m (jx_w1 m 63 0 0) := sm_w1 (by unfold wTM; omega)
  have s2 : sm wTM m (jx_w1 (jx_w1 m 63 0 0) 63 1 0) := s1.w1 (by unfold wTM; omega)
  have h2 : mineM (jx_w1 (jx_w1 m 63 0 0) 63 1 0) T P D W A U L := mineM_sm h s2 (by intro a k; unfold dMM wTM; omega)
  obtain ⟨m2, q1, q2, q3⟩ := s_enters (nI (ldA D A P (lq (ldA D A P) 10).1)).toInt64 (rM_0 (jx_w1 m 63 0 0)) (by simp)
  obtain ⟨m3, r1, r2, r3⟩ := s_enters (nI (lq (ldA D A P) 10).2).toInt64 q2 (by simp)
  refine ⟨m3, s2.tr ((q3.tr r3).mono (by unfold wRM wTM; omega)), ?_, r2⟩
  have l10 := (lq_lt (ldA D A P) 10).2.2 (by omega)
  rw [e_M_loudest]
  have key := lp_up (fun i (x : Int32 × Int32) => f_M_loudest_11 x.1 x.2 i (jx_w1 m 63 0 0)) (fun n => (nI (lq (ldA D A P) n).1, nI (lq (ldA D A P) n).2)) 10 (by
    intro n hn
    dsimp only
    have l1 := lq_lt (ldA D A P) n
    have b1 := ldA_le D A (P := P) (w := n) hP
    have b2 := ldA_le D A (P := P) (w := (lq (ldA D A P) n).1) hP
    rw [e_M_loudest_11]
    refine (ifn (nI_ge (a := n) (b := 10) hn (by omega))).trans ?_
    rw [s_mloudAt h1 g hn, Option.bind_some, lq_s]
    have hl : (lq (ldA D A P) n).1 < 10 := by omega
    have e59 : ∀ y, f_M_loudest_59 (nI (lq (ldA D A P) n).1) (nI n) (nI (ldA D A P n)) y (jx_w1 m 63 0 0) = f_M_loudest_11 (if ldA D A P (lq (ldA D A P) n).1 < ldA D A P n then nI n else nI (lq (ldA D A P) n).1) y (nI (n + 1)) (jx_w1 m 63 0 0) := by
      intro y
      rw [e_M_loudest_59, s_mloudAt h1 g hl, Option.bind_some]
      by_cases c : ldA D A P (lq (ldA D A P) n).1 < ldA D A P n
      · refine (ifn (nI_ge c (by omega))).trans ?_
        rw [e_M_loudest_75, nI_1, if_pos c]
      · refine (ifp (nI_le (by omega) (by omega))).trans ?_
        rw [e_M_loudest_75, nI_1, if_neg c]
    by_cases c0 : n = 0
    · subst c0
      refine (ifp rfl).trans ?_
      rw [e_M_loudest_38, e59]
      rw [if_neg (show ¬ ldA D A P (lq (ldA D A P) 0).1 < ldA D A P 0 from Nat.lt_irrefl _), if_pos rfl]
      rfl
    · refine (ifn (fun z => c0 ((nI_eq (b := 0) (by omega) (by omega)).mp z))).trans ?_
      rw [s_mloudAt h1 g hl, Option.bind_some, if_neg c0]
      by_cases c : ldA D A P (lq (ldA D A P) n).1 < ldA D A P n
      · refine (ifn (nI_ge c (by omega))).trans ?_
        rw [e_M_loudest_38, e59, if_pos c, if_pos c]
        rfl
      · refine (ifp (nI_le (by omega) (by omega))).trans ?_
        rw [s_mloudAt h1 g hl, Option.bind_some, if_neg c]
        by_cases d : ldA D A P n = ldA D A P (lq (ldA D A P) n).1
        · refine (ifnp (by rw [d])).trans ?_
          rw [e59, if_neg c, if_pos d, nI_1]
        · refine (ifnn (fun z => d ((nI_eq (by omega) (by omega)).mp z))).trans ?_
          rw [e59, if_neg c, if_neg d]) 0 (Nat.zero_le _)
  refine Eq.trans (b := f_M_loudest_11 (nI (lq (ldA D A P) 10).1) (nI (lq (ldA D A P) 10).2) (nI 10) (jx_w1 m 63 0 0)) key ?_
  rw [e_M_loudest_11]
  refine (ifp (by decide)).trans ?_
  dsimp only
  rw [s_mloudAt h2 g l10, Option.bind_some, q1, Option.bind_some, r1]
  rfl
end NOISE
/-! what was heard -/
def gNoise (H : Nat) (Y V : Nat → Nat) : Prop := H ≤ 6 ∧ ∀ k, k < H → Y k < 10 ∧ V k ≤ 999
def noiseF (m : jx_Mem) (H : Nat) (Y V : Nat → Nat) : Prop := m.1 52 3 = nI H ∧ ∀ k, k < H → m.1 53 k = nI (Y k) ∧ m.1 54 k = nI (V k)
def noiseM (m : jx_Mem) (H : Nat) (Y V : Nat → Nat) : Prop := m.1 63 59 = nI H ∧ ∀ k, k < H → m.1 105 k = nI (Y k) ∧ m.1 106 k = nI (V k)
def dNF (a k : Nat) : Prop := (a = 52 ∧ k = 3) ∨ a = 53 ∨ a = 54
def dNM (a k : Nat) : Prop := (a = 63 ∧ k = 59) ∨ a = 105 ∨ a = 106
section HEARD
variable {m m' : jx_Mem} {H : Nat} {Y V : Nat → Nat} {Z : Nat → Nat → Prop}
theorem noiseF_sm (h : noiseF m H Y V) (hs : sm Z m m') (hz : ∀ a k, dNF a k → ¬ Z a k) : noiseF m' H Y V :=
  ⟨(hs 52 3 (hz 52 3 (by unfold dNF; omega))).1.trans h.1, fun k hk => ⟨(hs 53 k (hz 53 k (by unfold dNF; omega))).1.trans (h.2 k hk).1, (hs 54 k (hz 54 k (by unfold dNF; omega))).1.trans (h.2 k hk).2⟩⟩
theorem noiseM_sm (h : noiseM m H Y V) (hs : sm Z m m') (hz : ∀ a k, dNM a k → ¬ Z a k) : noiseM m' H Y V :=
  ⟨(hs 63 59 (hz 63 59 (by unfold dNM; omega))).1.trans h.1, fun k hk => ⟨(hs 105 k (hz 105 k (by unfold dNM; omega))).1.trans (h.2 k hk).1, (hs 106 k (hz 106 k (by unfold dNM; omega))).1.trans (h.2 k hk).2⟩⟩
theorem noiseM_th (h : noiseM m H Y V) {v : Int32} : noiseM (jx_w1 m 63 0 v) H Y V :=
  noiseM_sm (Z := fun a k => a = 63 ∧ k = 0) h (sm_w1 ⟨rfl, rfl⟩) (by intro a k; unfold dNM; omega)
def cHe (x y : Int32) (H : Nat) : Prop := (0 ≤ x.toInt ∧ x.toInt < 10) ∧ (0 ≤ y.toInt ∧ y.toInt ≤ 999) ∧ H < 6
theorem F_heard (h : noiseF m H Y V) (g : gNoise H Y V) (x y : Int32) : ∃ m', sm (fun q k => q = 53 ∨ q = 54 ∨ (q = 52 ∧ k = 3)) m m' ∧
    ((cHe x y H ∧ f_F_heard x y m = some (nI (H + 1), m') ∧ noiseF m' (H + 1) (up Y H (jn x)) (up V H (jn y))) ∨ (¬ cHe x y H ∧ f_F_heard x y m = some (-1, m') ∧ m' = m)) := by
  rw [e_F_heard, e_Noise_addHeard]
  by_cases hx : 0 ≤ x.toInt ∧ x.toInt < 10
  · by_cases hy : 0 ≤ y.toInt ∧ y.toInt ≤ 999
    · by_cases hP : H < 6
      · obtain ⟨a, ha, rfl⟩ := nI_get hx.1 (show x.toInt < ((10 : Nat) : Int) from hx.2)
        obtain ⟨u, hu, rfl⟩ := nI_get hy.1 (show y.toInt < ((1000 : Nat) : Int) by omega)
        rw [jn_nI (show a < 2 ^ 31 by omega), jn_nI (show u < 2 ^ 31 by omega)]
        refine ⟨jx_w1 (jx_w1 (jx_w1 m 53 H (nI a)) 54 H (nI u)) 52 3 (nI (H + 1)), ((sm_w1 (by omega)).w1 (by omega)).w1 (by omega), Or.inl ⟨⟨hx, hy, hP⟩, ?_, w1_same _ _ _ _, fun p hp => ?_⟩⟩
        · have q1 : nI H < 6 := nI_lt (b := 6) hP (by omega)
          simp [s_pl_t hx, s_wi_t (lo := 0) (hi := 999) hy, h.1, q1, in_nI hP (by omega), nI_cl (show H < 2 ^ 31 by omega), w1_rd, nI_1]
        · by_cases q : p = H
          · subst q
            rw [up_s, up_s]
            refine ⟨?_, ?_⟩ <;> simp [w1_rd]
          · rw [up_n q, up_n q]
            have := h.2 p (by omega)
            simp [w1_rd, q, this]
      · refine ⟨m, sm.rf, Or.inr ⟨fun q => hP q.2.2, ?_, rfl⟩⟩
        have q1 : ¬ nI H < 6 := nI_nlt (b := 6) (by omega) (by have := g.1; omega)
        simp [s_pl_t hx, s_wi_t (lo := 0) (hi := 999) hy, h.1, q1, e_Noise_addHeard_31]
    · refine ⟨m, sm.rf, Or.inr ⟨fun q => hy q.2.1, ?_, rfl⟩⟩
      simp [s_pl_t hx, s_wi_f (lo := 0) (hi := 999) hy, e_Noise_addHeard_31]
  · refine ⟨m, sm.rf, Or.inr ⟨fun q => hx q.1, ?_, rfl⟩⟩
    simp [s_pl_f hx, e_Noise_addHeard_31]
theorem M_heard (h : noiseM m H Y V) (g : gNoise H Y V) (x y : Int32) : ∃ m', sm (fun q k => q = 105 ∨ q = 106 ∨ (q = 63 ∧ (k = 0 ∨ k = 59))) m m' ∧
    ((cHe x y H ∧ f_M_heard x y m = some (nI (H + 1), m') ∧ noiseM m' (H + 1) (up Y H (jn x)) (up V H (jn y))) ∨ (¬ cHe x y H ∧ f_M_heard x y m = some (-1, m') ∧ noiseM m' H Y V)) := by
  have h1 := noiseM_th h (v := 0)
  have s1 : sm (fun q k => q = 105 ∨ q = 106 ∨ (q = 63 ∧ (k = 0 ∨ k = 59))) m (jx_w1 m 63 0 0) := sm_w1 (by omega)
  rw [e_M_heard]
  dsimp only
  by_cases hx : 0 ≤ x.toInt ∧ x.toInt < 10
  · by_cases hy : 0 ≤ y.toInt ∧ y.toInt ≤ 999
    · by_cases hP : H < 6
      · obtain ⟨a, ha, rfl⟩ := nI_get hx.1 (show x.toInt < ((10 : Nat) : Int) from hx.2)
        obtain ⟨u, hu, rfl⟩ := nI_get hy.1 (show y.toInt < ((1000 : Nat) : Int) by omega)
        rw [jn_nI (show a < 2 ^ 31 by omega), jn_nI (show u < 2 ^ 31 by omega)]
        refine ⟨jx_w1 (jx_w1 (jx_w1 (jx_w1 m 63 0 0) 105 H (nI a)) 106 H (nI u)) 63 59 (nI (H + 1)), ((s1.w1 (by omega)).w1 (by omega)).w1 (by omega), Or.inl ⟨⟨hx, hy, hP⟩, ?_, w1_same _ _ _ _, fun p hp => ?_⟩⟩
        · have q1 : ¬ nI H = 6 := fun z => by have := (nI_eq (b := 6) (by omega) (by omega)).mp z; omega
          simp [s_mpl_t hx, s_in_t (lo := 0) (hi := 999) hy, h1.1, q1, in_nI hP (by omega), nI_cl (show H < 2 ^ 31 by omega), w1_rd, nI_1, h.1]
        · by_cases q : p = H
          · subst q
            rw [up_s, up_s]
            refine ⟨?_, ?_⟩ <;> simp [w1_rd]
          · rw [up_n q, up_n q]
            have := h.2 p (by omega)
            simp [w1_rd, q, this]
      · refine ⟨_, s1, Or.inr ⟨fun q => hP q.2.2, ?_, h1⟩⟩
        have q1 : nI H = 6 := by have := g.1; rw [show H = 6 by omega]; rfl
        simp [s_mpl_t hx, s_in_t (lo := 0) (hi := 999) hy, h1.1, q1, e_M_heard_33]
    · refine ⟨_, s1, Or.inr ⟨fun q => hy q.2.1, ?_, h1⟩⟩
      simp [s_mpl_t hx, s_in_f (lo := 0) (hi := 999) hy, e_M_heard_33]
  · refine ⟨_, s1, Or.inr ⟨fun q => hx q.1, ?_, h1⟩⟩
    simp [s_mpl_f hx, e_M_heard_33]
end HEARD
/-! gas -/
def gAir (Q : Nat → Nat) : Prop := Q 0 ≤ 9999 ∧ (1 ≤ Q 1 ∧ Q 1 ≤ 99) ∧ (1 ≤ Q 2 ∧ Q 2 ≤ 9999) ∧ (1 ≤ Q 3 ∧ Q 3 ≤ 9999)
def airF (m : jx_Mem) (Q : Nat → Nat) : Prop := ∀ i, i < 4 → m.1 59 (1 + i) = nI (Q i)
def airM (m : jx_Mem) (Q : Nat → Nat) : Prop := ∀ i, i < 4 → m.1 63 (63 + i) = nI (Q i)
def dAF (a k : Nat) : Prop := a = 59 ∧ 1 ≤ k ∧ k ≤ 4
def dAM (a k : Nat) : Prop := a = 63 ∧ 63 ≤ k ∧ k ≤ 66
section GAS
variable {m m' : jx_Mem} {Q : Nat → Nat} {Z : Nat → Nat → Prop}
theorem airF_sm (h : airF m Q) (hs : sm Z m m') (hz : ∀ a k, dAF a k → ¬ Z a k) : airF m' Q := fun i hi => (hs 59 (1 + i) (hz 59 (1 + i) (by unfold dAF; omega))).1.trans (h i hi)
theorem airM_sm (h : airM m Q) (hs : sm Z m m') (hz : ∀ a k, dAM a k → ¬ Z a k) : airM m' Q := fun i hi => (hs 63 (63 + i) (hz 63 (63 + i) (by unfold dAM; omega))).1.trans (h i hi)
def cGas (x v : Int32) : Prop := (x = 0 ∧ 0 ≤ v.toInt ∧ v.toInt ≤ 9999) ∨ (x = 1 ∧ 1 ≤ v.toInt ∧ v.toInt ≤ 99) ∨ (x = 2 ∧ 1 ≤ v.toInt ∧ v.toInt ≤ 9999) ∨ (x = 3 ∧ 1 ≤ v.toInt ∧ v.toInt ≤ 9999)
theorem airF_up (h : airF m Q) {i v : Nat} : airF (jx_w1 m 59 (1 + i) (nI v)) (up Q i v) := by
  intro j hj
  rw [w1_rd]
  unfold up
  by_cases c : j = i
  · rw [if_pos ⟨rfl, by omega⟩, if_pos c]
  · rw [if_neg (by omega), if_neg c]; exact h j hj
theorem F_gas (h : airF m Q) (x v : Int32) : ∃ m', sm (fun q k => q = 59 ∧ 1 ≤ k ∧ k ≤ 4) m m' ∧
    ((cGas x v ∧ f_F_gas x v m = some (nI (Q (jn x)), m') ∧ airF m' (up Q (jn x) (jn v))) ∨ (¬ cGas x v ∧ f_F_gas x v m = some (-1, m') ∧ m' = m)) := by
  have hv : ∀ n : Nat, n ≤ 9999 → 0 ≤ v.toInt → v.toInt ≤ (n : Int) → v = nI (jn v) := fun n _ h1 h2 => lim_nI (k := n) ⟨h1, h2⟩
  rw [e_F_gas, e_Air_set]
  by_cases c0 : x = 0
  · subst c0
    by_cases d : 0 ≤ v.toInt ∧ v.toInt ≤ 9999
    · refine ⟨jx_w1 m 59 1 v, sm_w1 (by omega), Or.inl ⟨Or.inl ⟨rfl, d⟩, ?_, ?_⟩⟩
      · have := h 0 (by omega)
        simp [s_wi_t (lo := 0) (hi := 9999) d, e_Air_set_113]
        exact this
      · rw [hv 9999 (by omega) d.1 d.2, jn_nI (by have := lim_le (x := v) (k := 9999) d; omega)]
        exact airF_up (i := 0) h
    · refine ⟨m, sm.rf, Or.inr ⟨fun q => ?_, ?_, rfl⟩⟩
      · rcases q with q | q | q | q
        · exact d q.2
        · exact absurd q.1 (by decide)
        · exact absurd q.1 (by decide)
        · exact absurd q.1 (by decide)
      · simp [s_wi_f (lo := 0) (hi := 9999) d, e_Air_set_30, e_Air_set_58, e_Air_set_87, e_Air_set_113]
  · by_cases c1 : x = 1
    · subst c1
      by_cases d : 1 ≤ v.toInt ∧ v.toInt ≤ 99
      · refine ⟨jx_w1 m 59 2 v, sm_w1 (by omega), Or.inl ⟨Or.inr (Or.inl ⟨rfl, d⟩), ?_, ?_⟩⟩
        · have := h 1 (by omega)
          simp [s_wi_t (lo := 1) (hi := 99) d, e_Air_set_30, e_Air_set_113]
          exact this
        · rw [hv 99 (by omega) (by omega) d.2, jn_nI (by have := lim_le (x := v) (k := 99) ⟨by omega, d.2⟩; omega)]
          exact airF_up (i := 1) h
      · refine ⟨m, sm.rf, Or.inr ⟨fun q => ?_, ?_, rfl⟩⟩
        · rcases q with q | q | q | q
          · exact absurd q.1 (by decide)
          · exact d q.2
          · exact absurd q.1 (by decide)
          · exact absurd q.1 (by decide)
        · simp [s_wi_f (lo := 1) (hi := 99) d, e_Air_set_30, e_Air_set_58, e_Air_set_87, e_Air_set_113]
    · by_cases c2 : x = 2
      · subst c2
        by_cases d : 1 ≤ v.toInt ∧ v.toInt ≤ 9999
        · refine ⟨jx_w1 m 59 3 v, sm_w1 (by omega), Or.inl ⟨Or.inr (Or.inr (Or.inl ⟨rfl, d⟩)), ?_, ?_⟩⟩
          · have := h 2 (by omega)
            simp [s_wi_t (lo := 1) (hi := 9999) d, e_Air_set_30, e_Air_set_58, e_Air_set_113]
            exact this
          · rw [hv 9999 (by omega) (by omega) d.2, jn_nI (by have := lim_le (x := v) (k := 9999) ⟨by omega, d.2⟩; omega)]
            exact airF_up (i := 2) h
        · refine ⟨m, sm.rf, Or.inr ⟨fun q => ?_, ?_, rfl⟩⟩
          · rcases q with q | q | q | q
            · exact absurd q.1 (by decide)
            · exact absurd q.1 (by decide)
            · exact d q.2
            · exact absurd q.1 (by decide)
          · simp [s_wi_f (lo := 1) (hi := 9999) d, e_Air_set_30, e_Air_set_58, e_Air_set_87, e_Air_set_113]
      · by_cases c3 : x = 3
        · subst c3
          by_cases d : 1 ≤ v.toInt ∧ v.toInt ≤ 9999
          · refine ⟨jx_w1 m 59 4 v, sm_w1 (by omega), Or.inl ⟨Or.inr (Or.inr (Or.inr ⟨rfl, d⟩)), ?_, ?_⟩⟩
            · have := h 3 (by omega)
              simp [s_wi_t (lo := 1) (hi := 9999) d, e_Air_set_30, e_Air_set_58, e_Air_set_87, e_Air_set_113]
              exact this
            · rw [hv 9999 (by omega) (by omega) d.2, jn_nI (by have := lim_le (x := v) (k := 9999) ⟨by omega, d.2⟩; omega)]
              exact airF_up (i := 3) h
          · refine ⟨m, sm.rf, Or.inr ⟨fun q => ?_, ?_, rfl⟩⟩
            · rcases q with q | q | q | q
              · exact absurd q.1 (by decide)
              · exact absurd q.1 (by decide)
              · exact absurd q.1 (by decide)
              · exact d q.2
            · simp [s_wi_f (lo := 1) (hi := 9999) d, e_Air_set_30, e_Air_set_58, e_Air_set_87, e_Air_set_113]
        · refine ⟨m, sm.rf, Or.inr ⟨fun q => ?_, ?_, rfl⟩⟩
          · rcases q with q | q | q | q
            · exact c0 q.1
            · exact c1 q.1
            · exact c2 q.1
            · exact c3 q.1
          · simp [c0, c1, c2, c3, e_Air_set_30, e_Air_set_58, e_Air_set_87, e_Air_set_113]
end GAS
