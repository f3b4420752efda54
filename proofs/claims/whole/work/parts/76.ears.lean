/-! ear, sound -/
def gEars (E : Nat → Nat) : Prop := ∀ i, i < 4 → E i ≤ 9
def earsF (m : jx_Mem) (E : Nat → Nat) : Prop := ∀ i, i < 4 → m.1 61 i = nI (E i)
def earsM (m : jx_Mem) (E : Nat → Nat) : Prop := ∀ i, i < 4 → m.1 108 i = nI (E i)
section EARS
variable {m m' : jx_Mem} {T P : Nat} {D : Nat → Nat → Nat} {W A U L : Nat → Nat} {E : Nat → Nat} {Z : Nat → Nat → Prop}
theorem earsF_sm (h : earsF m E) (hs : sm Z m m') (hz : ∀ k, ¬ Z 61 k) : earsF m' E := fun i hi => (hs 61 i (hz i)).1.trans (h i hi)
theorem earsM_sm (h : earsM m E) (hs : sm Z m m') (hz : ∀ k, ¬ Z 108 k) : earsM m' E := fun i hi => (hs 108 i (hz i)).1.trans (h i hi)
def cEar (x v : Int32) (E : Nat → Nat) : Prop := (0 ≤ x.toInt ∧ x.toInt ≤ 3) ∧ (0 ≤ v.toInt ∧ v.toInt ≤ 9) ∧ fb_sm E 4 - E (jn x) + jn v ≠ 0
theorem ear_sum (E : Nat → Nat) {k : Nat} (hk : k < 4) : fb_sm (fun i => if i = k then 0 else E i) 4 = fb_sm E 4 - E k := by
  have := fb_sm_upd E 0 hk
  omega
theorem F_ear (h : earsF m E) (g : gEars E) (x v : Int32) : ∃ m', sm (fun q _ => q = 61) m m' ∧
    ((cEar x v E ∧ f_F_ear x v m = some (nI (E (jn x)), m') ∧ earsF m' (up E (jn x) (jn v))) ∨ (¬ cEar x v E ∧ f_F_ear x v m = some (-1, m') ∧ m' = m)) := by
  rw [e_F_ear, e_Ears_setChance]
  by_cases hx : 0 ≤ x.toInt ∧ x.toInt ≤ 3
  · by_cases hv : 0 ≤ v.toInt ∧ v.toInt ≤ 9
    · obtain ⟨k, hk, rfl⟩ := nI_get hx.1 (show x.toInt < ((4 : Nat) : Int) by omega)
      obtain ⟨w, hw, rfl⟩ := nI_get hv.1 (show v.toInt < ((10 : Nat) : Int) by omega)
      unfold cEar
      rw [jn_nI (show k < 2 ^ 31 by omega), jn_nI (show w < 2 ^ 31 by omega)]
      have hs : fb_sm E 4 ≤ 36 := fb_sm_bound (fun i hi => g i hi)
      have key := lp_up (fun i y => f_Ears_setChance_26 (nI k) (nI w) y i m) (fun n => nI (fb_sm (fun i => if i = k then 0 else E i) n)) 4 (by
        intro n hn
        rw [e_Ears_setChance_26]
        refine (ifn (nI_nlt (a := 3) (b := n) (by omega) (by omega))).trans ?_
        by_cases c : n = k
        · refine (ifnp (by rw [c])).trans ?_
          rw [e_Ears_setChance_50, Int32.add_zero, nI_1, fb_sm_succ, if_pos c]
          rfl
        · refine (ifnn (fun z => c ((nI_eq (by omega) (by omega)).mp z))).trans ?_
          rw [in_nI hn (by omega), nI_cl (by omega), cond_true, h n hn, e_Ears_setChance_50, nI_add, nI_1, fb_sm_succ, if_neg c]) 0 (Nat.zero_le _)
      have key2 : f_Ears_setChance_26 (nI k) (nI w) 0 0 m = (if decide (¬ (nI (fb_sm E 4 - E k) + nI w) = 0) = true then (bif jx_in (nI k) 4 then bif (jx_in (nI k) 4 && true) then (let m1 := jx_w1 m 61 (nI k).toNatClampNeg (nI w); some (m.1 61 (nI k).toNatClampNeg, m1)) else none else none) else (some (((-1) : Int32), m))) := by
        refine Eq.trans (b := f_Ears_setChance_26 (nI k) (nI w) (nI (fb_sm (fun i => if i = k then 0 else E i) 4)) (nI 4) m) key ?_
        rw [e_Ears_setChance_26, ear_sum E hk]
        exact ifp (by decide)
      rw [s_wi_t (lo := 0) (hi := 3) hx, Option.bind_some]
      have e0 : (if decide (((1 : Int32), m).1 = 0) = true then f_Ears_setChance_19 ((1 : Int32), m).2 else ((f_F_within (nI w) 0 9 ((1 : Int32), m).2).bind (fun p2 => if decide (¬ p2.1 = 0) = true then (f_Ears_setChance_26 (nI k) (nI w) 0 0 p2.2) else (f_Ears_setChance_19 p2.2)))) = f_Ears_setChance_26 (nI k) (nI w) 0 0 m := by
        refine (ifn ne10).trans ?_
        show (f_F_within (nI w) 0 9 m).bind _ = _
        rw [s_wi_t (lo := 0) (hi := 9) hv, Option.bind_some]
        exact ifnn ne10
      rw [e0, key2, nI_add]
      by_cases c : fb_sm E 4 - E k + w = 0
      · refine ⟨m, sm.rf, Or.inr ⟨fun q => q.2.2 c, ?_, rfl⟩⟩
        have e1 : ∀ X Y : Option (Int32 × jx_Mem), (if decide (¬ nI (fb_sm E 4 - E k + w) = 0) = true then X else Y) = Y := fun X Y => ifnp (by rw [c]; rfl)
        rw [e1]
        rfl
      · refine ⟨jx_w1 m 61 k (nI w), sm_w1 rfl, Or.inl ⟨⟨hx, hv, c⟩, ?_, fun i hi => ?_⟩⟩
        · have e1 : ∀ X Y : Option (Int32 × jx_Mem), (if decide (¬ nI (fb_sm E 4 - E k + w) = 0) = true then X else Y) = X := fun X Y => ifnn (nI_ne0 (by omega) (by omega))
          rw [e1, in_nI hk (by omega), nI_cl (show k < 2 ^ 31 by omega), h k hk]
          rfl
        · rw [w1_rd]
          unfold up
          by_cases d : i = k
          · rw [if_pos ⟨rfl, d⟩, if_pos d]
          · rw [if_neg (fun z => d z.2), if_neg d]; exact h i hi
    · refine ⟨m, sm.rf, Or.inr ⟨fun q => hv q.2.1, ?_, rfl⟩⟩
      simp [s_wi_t (lo := 0) (hi := 3) hx, s_wi_f (lo := 0) (hi := 9) hv, e_Ears_setChance_19]
  · refine ⟨m, sm.rf, Or.inr ⟨fun q => hx q.1, ?_, rfl⟩⟩
    simp [s_wi_f (lo := 0) (hi := 3) hx, e_Ears_setChance_19]
theorem M_ear (h : earsM m E) (g : gEars E) (x v : Int32) : ∃ m', sm (fun q k => q = 108 ∨ (q = 63 ∧ k = 0)) m m' ∧
    ((cEar x v E ∧ f_M_ear x v m = some (nI (E (jn x)), m') ∧ earsM m' (up E (jn x) (jn v))) ∨ (¬ cEar x v E ∧ f_M_ear x v m = some (-1, m') ∧ earsM m' E)) := by
  have s1 : sm (fun q k => q = 108 ∨ (q = 63 ∧ k = 0)) m (jx_w1 m 63 0 0) := sm_w1 (by omega)
  have h1 : earsM (jx_w1 m 63 0 0) E := fun i hi => (w1_cell (by omega)).trans (h i hi)
  rw [e_M_ear]
  dsimp only
  by_cases hx : 0 ≤ x.toInt ∧ x.toInt ≤ 3
  · by_cases hv : 0 ≤ v.toInt ∧ v.toInt ≤ 9
    · obtain ⟨k, hk, rfl⟩ := nI_get hx.1 (show x.toInt < ((4 : Nat) : Int) by omega)
      obtain ⟨w, hw, rfl⟩ := nI_get hv.1 (show v.toInt < ((10 : Nat) : Int) by omega)
      unfold cEar
      rw [jn_nI (show k < 2 ^ 31 by omega), jn_nI (show w < 2 ^ 31 by omega)]
      have hs : fb_sm E 4 ≤ 36 := fb_sm_bound (fun i hi => g i hi)
      have hpart := fb_sm_part E hk
      have hle : E k ≤ fb_sm E 4 := by omega
      rw [s_in_t (lo := 0) (hi := 3) hx, Option.bind_some]
      have e4 : nI (E 0) + nI (E 1) + nI (E 2) + nI (E 3) = nI (fb_sm E 4) := by
        rw [nI_add, nI_add, nI_add]
        show _ = nI (0 + E 0 + E 1 + E 2 + E 3)
        rw [Nat.zero_add]
      have e0 : ∀ X : Option (Int32 × jx_Mem), (if decide (((1 : Int32), jx_w1 m 63 0 0).1 = 0) = true then X else ((f_M_in (nI w).toInt64 0 9 ((1 : Int32), jx_w1 m 63 0 0).2).bind (fun p2 => if decide (p2.1 = 0) = true then (f_M_ear_68 p2.2) else (bif jx_in (0 : Int32) 4 then bif jx_in (1 : Int32) 4 then bif jx_in (2 : Int32) 4 then bif jx_in (3 : Int32) 4 then bif jx_in (nI k) 4 then if decide (¬ ((((((p2.2.1 108 (0 : Int32).toNatClampNeg) + (p2.2.1 108 (1 : Int32).toNatClampNeg)) + (p2.2.1 108 (2 : Int32).toNatClampNeg)) + (p2.2.1 108 (3 : Int32).toNatClampNeg)) - (p2.2.1 108 (nI k).toNatClampNeg)) + nI w) = 0) = true then (bif jx_in (nI k) 4 then bif (jx_in (nI k) 4 && true) then (let m2 := jx_w1 p2.2 108 (nI k).toNatClampNeg (nI w); some (p2.2.1 108 (nI k).toNatClampNeg, m2)) else none else none) else (f_M_ear_68 p2.2) else none else none else none else none else none)))) = (if decide (¬ nI (fb_sm E 4 - E k + w) = 0) = true then some (nI (E k), jx_w1 (jx_w1 m 63 0 0) 108 k (nI w)) else f_M_ear_68 (jx_w1 m 63 0 0)) := by
        intro X
        refine (ifn ne10).trans ?_
        show (f_M_in (nI w).toInt64 0 9 (jx_w1 m 63 0 0)).bind _ = _
        rw [s_in_t (lo := 0) (hi := 9) hv, Option.bind_some]
        refine (ifn ne10).trans ?_
        dsimp only
        rw [in_nI hk (by omega), nI_cl (show k < 2 ^ 31 by omega), show (0 : Int32).toNatClampNeg = 0 from rfl, show (1 : Int32).toNatClampNeg = 1 from rfl, show (2 : Int32).toNatClampNeg = 2 from rfl, show (3 : Int32).toNatClampNeg = 3 from rfl, h1 0 (by omega), h1 1 (by omega), h1 2 (by omega), h1 3 (by omega), h1 k hk, e4, pk_sub hle, nI_add]
        rfl
      rw [e0]
      by_cases c : fb_sm E 4 - E k + w = 0
      · refine ⟨_, s1, Or.inr ⟨fun q => q.2.2 c, ?_, h1⟩⟩
        refine (ifnp (by rw [c]; rfl)).trans ?_
        rw [e_M_ear_68]
      · refine ⟨jx_w1 (jx_w1 m 63 0 0) 108 k (nI w), s1.w1 (by omega), Or.inl ⟨⟨hx, hv, c⟩, ?_, fun i hi => ?_⟩⟩
        · exact ifnn (nI_ne0 (by omega) (by omega))
        · rw [w1_rd]
          unfold up
          by_cases d : i = k
          · rw [if_pos ⟨rfl, d⟩, if_pos d]
          · rw [if_neg (fun z => d z.2), if_neg d]; exact h1 i hi
    · refine ⟨_, s1, Or.inr ⟨fun q => hv q.2.1, ?_, h1⟩⟩
      rw [s_in_t (lo := 0) (hi := 3) hx, Option.bind_some]
      refine (ifn ne10).trans ?_
      rw [s_in_f (lo := 0) (hi := 9) hv, Option.bind_some]
      refine (ifp eq00).trans ?_
      rw [e_M_ear_68]
  · refine ⟨_, s1, Or.inr ⟨fun q => hx q.1, ?_, h1⟩⟩
    rw [s_in_f (lo := 0) (hi := 3) hx, Option.bind_some]
    refine (ifp eq00).trans ?_
    rw [e_M_ear_68]
/-! sound -/
def sdS (D : Nat → Nat → Nat) (W : Nat → Nat) (a b : Nat) : Nat → Bool := fun w => decide (D w b = D a b) && decide (W w = W a)
def cPP (x y : Int32) : Prop := (0 ≤ x.toInt ∧ x.toInt < 10) ∧ 0 ≤ y.toInt ∧ y.toInt < 10
theorem F_sound (h : mineF m T P D W A U L) (g : gMine T P D W A U L) (x y : Int32) : ∃ m', sm wRF m m' ∧
    ((cPP x y ∧ D (jn x) (jn y) < 999 ∧ f_F_sound x y m = some (0, m') ∧ rF m' [pI (D (jn x) (jn y)), pI (2 * W (jn x)), pI (bs (sdS D W (jn x) (jn y)) 10)]) ∨ (cPP x y ∧ ¬ D (jn x) (jn y) < 999 ∧ f_F_sound x y m = some (-2, m') ∧ m' = m) ∨ (¬ cPP x y ∧ f_F_sound x y m = some (-1, m') ∧ m' = m)) := by
  rw [e_F_sound, e_Ears_tellSound]
  by_cases hx : 0 ≤ x.toInt ∧ x.toInt < 10
  · by_cases hy : 0 ≤ y.toInt ∧ y.toInt < 10
    · obtain ⟨a, ha, rfl⟩ := nI_get hx.1 (show x.toInt < ((10 : Nat) : Int) from hx.2)
      obtain ⟨b, hb, rfl⟩ := nI_get hy.1 (show y.toInt < ((10 : Nat) : Int) from hy.2)
      rw [jn_nI (show a < 2 ^ 31 by omega), jn_nI (show b < 2 ^ 31 by omega)]
      have hD := (g.2.2.1.2 a b ha hb).1
      by_cases c : D a b < 999
      · obtain ⟨m1, q1, q2, q3⟩ := s_tell2 (pI (D a b)) (pI (2 * W a)) m
        obtain ⟨m2, r1, r2, r3⟩ := s_Row_add (pI (bs (sdS D W a b) 10)) q2 (by simp)
        refine ⟨m2, q3.tr r3, Or.inl ⟨⟨hx, hy⟩, c, ?_, r2⟩⟩
        have key := lp_up (fun i z => f_Ears_tellSound_52 (nI a) (nI b) (nI (D a b)) z i m) (fun n => nI (bs (sdS D W a b) n)) 10 (by
          intro n hn
          have hDn := (g.2.2.1.2 n b hn hb).1
          have hWn := g.2.2.2.2.1 n hn
          have hWa := g.2.2.2.2.1 a ha
          rw [e_Ears_tellSound_52]
          refine (ifn (nI_ge (a := n) (b := 10) hn (by omega))).trans ?_
          rw [s_dist h hn hb, Option.bind_some]
          by_cases d : D n b = D a b
          · refine (ifnp (by rw [d])).trans ?_
            rw [s_wallOf h hn, Option.bind_some, s_wallOf h ha, Option.bind_some]
            by_cases e : W n = W a
            · refine (ifnp (by rw [e])).trans ?_
              rw [e_Ears_tellSound_103, nI_1, or_bs_t (by omega) (by simp [sdS, d, e])]
            · refine (ifnn (fun z => e ((nI_eq (by omega) (by omega)).mp z))).trans ?_
              rw [e_Ears_tellSound_103, nI_1, bs_f (by simp [sdS, e])]
          · refine (ifnn (fun z => d ((nI_eq (by omega) (by omega)).mp z))).trans ?_
            rw [e_Ears_tellSound_103, nI_1, bs_f (by simp [sdS, d])]) 0 (Nat.zero_le _)
        have key2 : f_Ears_tellSound_52 (nI a) (nI b) (nI (D a b)) 0 0 m = some (0, m2) := by
          refine Eq.trans (b := f_Ears_tellSound_52 (nI a) (nI b) (nI (D a b)) (nI (bs (sdS D W a b) 10)) (nI 10) m) key ?_
          rw [e_Ears_tellSound_52]
          refine (ifp (by decide)).trans ?_
          rw [s_wallOf h ha, Option.bind_some]
          dsimp only
          rw [show (2 : Int32) * nI (W a) = nI (2 * W a) from pk_mul 2 (W a)]
          show (f_Row_tell_JJ (pI (D a b)) (pI (2 * W a)) m).bind _ = _
          rw [q1, Option.bind_some]
          show (f_Row_add (pI (bs (sdS D W a b) 10)) m1).bind _ = _
          rw [r1]
          rfl
        have q4 : nI (D a b) < 999 := nI_lt (b := 999) c (by omega)
        simp [s_pl_t hx, s_pl_t hy, s_dist h ha hb, q4, key2]
      · refine ⟨m, sm.rf, Or.inr (Or.inl ⟨⟨hx, hy⟩, c, ?_, rfl⟩)⟩
        have q4 : ¬ nI (D a b) < 999 := nI_nlt (b := 999) (by omega) (by omega)
        simp [s_pl_t hx, s_pl_t hy, s_dist h ha hb, q4]
    · refine ⟨m, sm.rf, Or.inr (Or.inr ⟨fun q => hy q.2, ?_, rfl⟩)⟩
      simp [s_pl_t hx, s_pl_f hy, e_Ears_tellSound_22]
  · refine ⟨m, sm.rf, Or.inr (Or.inr ⟨fun q => hx q.1, ?_, rfl⟩)⟩
    simp [s_pl_f hx, e_Ears_tellSound_22]
theorem M_sound (h : mineM m T P D W A U L) (g : gMine T P D W A U L) (x y : Int32) : ∃ m', sm wTM m m' ∧
    ((cPP x y ∧ D (jn x) (jn y) < 999 ∧ f_M_sound x y m = some (0, m') ∧ rM m' [pI (D (jn x) (jn y)), pI (2 * W (jn x)), pI (bs (sdS D W (jn x) (jn y)) 10)]) ∨ (cPP x y ∧ ¬ D (jn x) (jn y) < 999 ∧ f_M_sound x y m = some (-2, m') ∧ m' = jx_w1 m 63 0 0) ∨ (¬ cPP x y ∧ f_M_sound x y m = some (-1, m') ∧ m' = jx_w1 m 63 0 0)) := by
  have h1 := mineM_th h (v := 0)
  have s1 : sm wTM m (jx_w1 m 63 0 0) := sm_w1 (by unfold wTM; omega)
  have s2 : sm wTM m (jx_w1 (jx_w1 m 63 0 0) 63 1 0) := s1.w1 (by unfold wTM; omega)
  rw [e_M_sound]
  dsimp only
  by_cases hx : 0 ≤ x.toInt ∧ x.toInt < 10
  · by_cases hy : 0 ≤ y.toInt ∧ y.toInt < 10
    · obtain ⟨a, ha, rfl⟩ := nI_get hx.1 (show x.toInt < ((10 : Nat) : Int) from hx.2)
      obtain ⟨b, hb, rfl⟩ := nI_get hy.1 (show y.toInt < ((10 : Nat) : Int) from hy.2)
      rw [jn_nI (show a < 2 ^ 31 by omega), jn_nI (show b < 2 ^ 31 by omega)]
      have hD := (g.2.2.1.2 a b ha hb).1
      by_cases c : D a b < 999
      · obtain ⟨m1, q1, q2, q3⟩ := s_enters (pI (D a b)) (rM_0 (jx_w1 m 63 0 0)) (by simp)
        obtain ⟨m2, r1, r2, r3⟩ := s_enters (pI (2 * W a)) q2 (by simp)
        obtain ⟨m3, t1, t2, t3⟩ := s_enters (pI (bs (sdS D W a b) 10)) r2 (by simp)
        have hw66 : m1.1 66 a = nI (W a) := by
          rw [(q3 66 a (by unfold wRM; omega)).1, w1_cell (by omega)]
          exact h1.2.2.2.1 a ha
        refine ⟨m3, s2.tr (((q3.tr r3).tr t3).mono (by unfold wRM wTM; omega)), Or.inl ⟨⟨hx, hy⟩, c, ?_, t2⟩⟩
        have key := lp_up (fun i z => f_M_sound_44 (nI a) (nI b) (nI (D a b)) z i (jx_w1 m 63 0 0)) (fun n => nI (bs (sdS D W a b) n)) 10 (by
          intro n hn
          have hDn := (g.2.2.1.2 n b hn hb).1
          have hWn := g.2.2.2.2.1 n hn
          have hWa := g.2.2.2.2.1 a ha
          rw [e_M_sound_44]
          refine (ifn (nI_ge (a := n) (b := 10) hn (by omega))).trans ?_
          rw [s_far h1 g.2.2.1 hn hb, Option.bind_some]
          by_cases d : D n b = D a b
          · refine (ifnp (by rw [d])).trans ?_
            rw [in_nI hn (by omega), in_nI ha (by omega), nI_cl (show n < 2 ^ 31 by omega), nI_cl (show a < 2 ^ 31 by omega), cond_true, cond_true, h1.2.2.2.1 n hn, h1.2.2.2.1 a ha]
            by_cases e : W n = W a
            · refine (ifnp (by rw [e])).trans ?_
              rw [e_M_sound_88, nI_1, or_bs_t (by omega) (by simp [sdS, d, e])]
            · refine (ifnn (fun z => e ((nI_eq (by omega) (by omega)).mp z))).trans ?_
              rw [e_M_sound_87, e_M_sound_88, nI_1, or_bs_f (by omega) (by simp [sdS, e])]
          · refine (ifnn (fun z => d ((nI_eq (by omega) (by omega)).mp z))).trans ?_
            rw [e_M_sound_87, e_M_sound_88, nI_1, or_bs_f (by omega) (by simp [sdS, d])]) 0 (Nat.zero_le _)
        have key2 : f_M_sound_44 (nI a) (nI b) (nI (D a b)) 0 0 (jx_w1 m 63 0 0) = some (0, m3) := by
          refine Eq.trans (b := f_M_sound_44 (nI a) (nI b) (nI (D a b)) (nI (bs (sdS D W a b) 10)) (nI 10) (jx_w1 m 63 0 0)) key ?_
          rw [e_M_sound_44]
          refine (ifp (by decide)).trans ?_
          dsimp only
          show (f_M_enters (pI (D a b)) _).bind _ = _
          rw [q1, Option.bind_some, in_nI ha (by omega), nI_cl (show a < 2 ^ 31 by omega), cond_true, hw66, show (2 : Int32) * nI (W a) = nI (2 * W a) from pk_mul 2 (W a)]
          show (f_M_enters (pI (2 * W a)) m1).bind _ = _
          rw [r1, Option.bind_some]
          show (f_M_enters (pI (bs (sdS D W a b) 10)) m2).bind _ = _
          rw [t1]
          rfl
        have q4 : ¬ nI (D a b) = 999 := fun z => by have := (nI_eq (b := 999) (by omega) (by omega)).mp z; omega
        simp [s_mpl_t hx, s_mpl_t hy, s_far h1 g.2.2.1 ha hb, q4, key2]
      · refine ⟨_, s1, Or.inr (Or.inl ⟨⟨hx, hy⟩, c, ?_, rfl⟩)⟩
        have q4 : nI (D a b) = 999 := by rw [show D a b = 999 by omega]; rfl
        simp [s_mpl_t hx, s_mpl_t hy, s_far h1 g.2.2.1 ha hb, q4]
    · refine ⟨_, s1, Or.inr (Or.inr ⟨fun q => hy q.2, ?_, rfl⟩)⟩
      simp [s_mpl_t hx, s_mpl_f hy, e_M_sound_19]
  · refine ⟨_, s1, Or.inr (Or.inr ⟨fun q => hx q.1, ?_, rfl⟩)⟩
    simp [s_mpl_f hx, e_M_sound_19]
end EARS
