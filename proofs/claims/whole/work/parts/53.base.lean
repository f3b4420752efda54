/-! Nat pictures of small ints, loops, what a call leaves as it was, the ROW -/
theorem in_nI {k n : Nat} (h : k < n) (hn : n < 2 ^ 31) : jx_in (nI k) n = true :=
  jx_in_iff.mpr (by rw [nI_toInt (by omega)]; omega)
theorem nI_get {x : Int32} {b : Nat} (h0 : 0 ≤ x.toInt) (h1 : x.toInt < (b : Int)) : ∃ n, n < b ∧ x = nI n := by
  have h2 : lim x b := ⟨h0, by omega⟩
  refine ⟨jn x, ?_, lim_nI h2⟩
  have := lim_jn h2
  omega
theorem nI_ix (c a b : Nat) : nI a * nI c + nI b = nI (c * a + b) := by rw [pk_mul, nI_add, Nat.mul_comm]
theorem nI_xi (c a b : Nat) : nI c * nI a + nI b = nI (c * a + b) := by rw [pk_mul, nI_add]
theorem ix10 (a b : Nat) : nI a * 10 + nI b = nI (10 * a + b) := nI_ix 10 a b
theorem xi10 (a b : Nat) : 10 * nI a + nI b = nI (10 * a + b) := nI_xi 10 a b
theorem ix6 (a b : Nat) : nI a * 6 + nI b = nI (6 * a + b) := nI_ix 6 a b
theorem xi6 (a b : Nat) : 6 * nI a + nI b = nI (6 * a + b) := nI_xi 6 a b
theorem ix12 (a b : Nat) : nI a * 12 + nI b = nI (12 * a + b) := nI_ix 12 a b
theorem xi12 (a b : Nat) : 12 * nI a + nI b = nI (12 * a + b) := nI_xi 12 a b
theorem xi55 (a b : Nat) : 55 * nI a + nI b = nI (55 * a + b) := nI_xi 55 a b
theorem nI_cl {n : Nat} (h : n < 2 ^ 31) : (nI n).toNatClampNeg = n := nI_clamp h
theorem dn {p : Prop} [Decidable p] (h : ¬ p) : ¬ decide p = true := fun q => h (of_decide_eq_true q)
theorem ifn {α : Type} {p : Prop} [Decidable p] {x y : α} (h : ¬ p) : (if decide p = true then x else y) = y := if_neg (dn h)
theorem ifp {α : Type} {p : Prop} [Decidable p] {x y : α} (h : p) : (if decide p = true then x else y) = x := if_pos (decide_eq_true h)
def jr {α : Type} (s : Nat → α → α) (a : α) : Nat → α
  | 0 => a
  | n + 1 => s n (jr s a n)
theorem jr_0 {α : Type} (s : Nat → α → α) (a : α) : jr s a 0 = a := rfl
theorem jr_s {α : Type} (s : Nat → α → α) (a : α) (n : Nat) : jr s a (n + 1) = s n (jr s a n) := rfl
theorem jr_loop {α β : Type} (L : Int32 → α → β) (s : Nat → α → α) (a : α) (b : Nat) (h : ∀ n, n < b → L (nI n) (jr s a n) = L (nI (n + 1)) (s n (jr s a n))) : L 0 a = L (nI b) (jr s a b) := by
  have h2 : ∀ k, k ≤ b → L (nI 0) a = L (nI k) (jr s a k) := by
    intro k
    induction k with
    | zero => intro _; rfl
    | succ k ih => intro hk; rw [ih (by omega), h k (by omega)]; rfl
  exact h2 b (Nat.le_refl b)
theorem jr_congr {α : Type} {s t : Nat → α → α} {a : α} {b : Nat} (h : ∀ n, n < b → ∀ x, s n x = t n x) : jr s a b = jr t a b := by
  induction b with
  | zero => rfl
  | succ b ih => rw [jr_s, jr_s, ih (fun n hn => h n (by omega)), h b (by omega)]
theorem jr_inv {α : Type} {s : Nat → α → α} {a : α} (I : Nat → α → Prop) (h0 : I 0 a) (hs : ∀ n x, I n x → I (n + 1) (s n x)) : ∀ n, I n (jr s a n) := by
  intro n
  induction n with
  | zero => exact h0
  | succ n ih => exact hs n _ ih
theorem jr_invB {α : Type} {s : Nat → α → α} {a : α} {b : Nat} (I : Nat → α → Prop) (h0 : I 0 a) (hs : ∀ n x, n < b → I n x → I (n + 1) (s n x)) : ∀ n, n ≤ b → I n (jr s a n) := by
  intro n
  induction n with
  | zero => intro _; exact h0
  | succ n ih => intro hn; exact hs n _ (by omega) (ih (by omega))
/-- what is written lies in W -/
def sm (W : Nat → Nat → Prop) (m m' : jx_Mem) : Prop := ∀ a k, ¬ W a k → m'.1 a k = m.1 a k ∧ m'.2 a k = m.2 a k
theorem sm.rf {W : Nat → Nat → Prop} {m : jx_Mem} : sm W m m := fun _ _ _ => ⟨rfl, rfl⟩
theorem sm.tr {W : Nat → Nat → Prop} {a b c : jx_Mem} (h1 : sm W a b) (h2 : sm W b c) : sm W a c := fun q k hq => ⟨(h2 q k hq).1.trans (h1 q k hq).1, (h2 q k hq).2.trans (h1 q k hq).2⟩
theorem sm.mono {W V : Nat → Nat → Prop} {a b : jx_Mem} (h : sm W a b) (hw : ∀ q k, W q k → V q k) : sm V a b := fun q k hq => h q k (fun z => hq (hw q k z))
theorem sm_w1 {W : Nat → Nat → Prop} {m : jx_Mem} {a k : Nat} {v : Int32} (h : W a k) : sm W m (jx_w1 m a k v) := by
  intro q j hq
  refine ⟨?_, rfl⟩
  rw [w1_rd, if_neg]
  rintro ⟨rfl, rfl⟩
  exact hq h
theorem sm_w2 {W : Nat → Nat → Prop} {m : jx_Mem} {a k : Nat} {v : Int64} (h : W a k) : sm W m (jx_w2 m a k v) := by
  intro q j hq
  refine ⟨rfl, ?_⟩
  rw [w2_rd, if_neg]
  rintro ⟨rfl, rfl⟩
  exact hq h
theorem sm.w1 {W : Nat → Nat → Prop} {m m' : jx_Mem} {a k : Nat} {v : Int32} (h1 : sm W m m') (h : W a k) : sm W m (jx_w1 m' a k v) := h1.tr (sm_w1 h)
theorem sm.pre {W : Nat → Nat → Prop} {m m' : jx_Mem} {a k : Nat} {v : Int32} (h1 : sm W (jx_w1 m a k v) m') (h : W a k) : sm W m m' := (sm_w1 h).tr h1
theorem w1_same (m : jx_Mem) (a k : Nat) (v : Int32) : (jx_w1 m a k v).1 a k = v := by rw [w1_rd, if_pos ⟨rfl, rfl⟩]
theorem w1_cell {m : jx_Mem} {a k a' k' : Nat} {v : Int32} (h : a' ≠ a) : (jx_w1 m a k v).1 a' k' = m.1 a' k' := by rw [w1_rd, if_neg (fun q => h q.1)]
theorem w1_idx {m : jx_Mem} {a k k' : Nat} {v : Int32} (h : k' ≠ k) : (jx_w1 m a k v).1 a k' = m.1 a k' := by rw [w1_rd, if_neg (fun q => h q.2)]
theorem w2_same (m : jx_Mem) (a k : Nat) (v : Int64) : (jx_w2 m a k v).2 a k = v := by rw [w2_rd, if_pos ⟨rfl, rfl⟩]
/-! the ROW -/
def rF (m : jx_Mem) (vs : List Int64) : Prop := m.1 1 1 = nI vs.length ∧ ∀ i, i < vs.length → m.2 2 i = vs.getD i 0
def rM (m : jx_Mem) (vs : List Int64) : Prop := m.1 63 1 = nI vs.length ∧ ∀ i, i < vs.length → m.2 64 i = vs.getD i 0
def wRF (a k : Nat) : Prop := (a = 1 ∧ k = 1) ∨ a = 2
def wRM (a k : Nat) : Prop := (a = 63 ∧ k = 1) ∨ a = 64
theorem rF_sm {W : Nat → Nat → Prop} {m m' : jx_Mem} {vs : List Int64} (h : rF m vs) (hs : sm W m m') (h1 : ¬ W 1 1) (h2 : ∀ k, ¬ W 2 k) : rF m' vs :=
  ⟨(hs 1 1 h1).1.trans h.1, fun i hi => (hs 2 i (h2 i)).2.trans (h.2 i hi)⟩
theorem rM_sm {W : Nat → Nat → Prop} {m m' : jx_Mem} {vs : List Int64} (h : rM m vs) (hs : sm W m m') (h1 : ¬ W 63 1) (h2 : ∀ k, ¬ W 64 k) : rM m' vs :=
  ⟨(hs 63 1 h1).1.trans h.1, fun i hi => (hs 64 i (h2 i)).2.trans (h.2 i hi)⟩
theorem s_Row_clear (m : jx_Mem) : ∃ m', f_Row_clear m = some m' ∧ rF m' [] ∧ sm wRF m m' :=
  ⟨_, e_Row_clear m, ⟨w1_same m 1 1 0, fun i hi => absurd hi (Nat.not_lt_zero i)⟩, sm_w1 (Or.inl ⟨rfl, rfl⟩)⟩
theorem s_Row_add {m : jx_Mem} {vs : List Int64} (v : Int64) (h : rF m vs) (hl : vs.length < 12) : ∃ m', f_Row_add v m = some m' ∧ rF m' (vs ++ [v]) ∧ sm wRF m m' := by
  have h1 : ¬ (12 : Int32) ≤ m.1 1 1 := by rw [h.1]; exact nI_ge (a := vs.length) (b := 12) hl (by omega)
  have h2 : jx_in (m.1 1 1) 12 = true := by rw [h.1]; exact in_nI hl (by omega)
  refine ⟨jx_w1 (jx_w2 m 2 vs.length v) 1 1 (nI (vs.length + 1)), ?_, ⟨?_, ?_⟩, (sm_w2 (Or.inr rfl)).w1 (Or.inl ⟨rfl, rfl⟩)⟩
  · rw [e_Row_add, if_neg (by simpa using h1), h2, h.1, nI_cl (by omega)]
    show f_Row_add_32 _ = _
    rw [e_Row_add_32, w2_one, h.1, nI_1]
  · rw [w1_same, List.length_append]; rfl
  · intro i hi
    rw [List.length_append] at hi
    show (jx_w2 m 2 vs.length v).2 2 i = _
    rw [w2_rd]
    by_cases q : i = vs.length
    · rw [if_pos ⟨rfl, q⟩, q]; simp
    · rw [if_neg (fun z => q z.2)]
      have : i < vs.length := by simp at hi; omega
      rw [h.2 i this]
      simp [List.getD_eq_getElem?_getD, List.getElem?_append_left this]
theorem s_tell1 (v : Int64) (m : jx_Mem) : ∃ m', f_Row_tell_J v m = some m' ∧ rF m' [v] ∧ sm wRF m m' := by
  obtain ⟨m1, e1, h1, s1⟩ := s_Row_clear m
  obtain ⟨m2, e2, h2, s2⟩ := s_Row_add v h1 (by decide)
  refine ⟨m2, ?_, h2, s1.tr s2⟩
  rw [e_Row_tell_J, e1, Option.bind_some, e2]
  rfl
theorem s_tell2 (v w : Int64) (m : jx_Mem) : ∃ m', f_Row_tell_JJ v w m = some m' ∧ rF m' [v, w] ∧ sm wRF m m' := by
  obtain ⟨m1, e1, h1, s1⟩ := s_Row_clear m
  obtain ⟨m2, e2, h2, s2⟩ := s_Row_add v h1 (by decide)
  obtain ⟨m3, e3, h3, s3⟩ := s_Row_add w h2 (by simp)
  refine ⟨m3, ?_, h3, (s1.tr s2).tr s3⟩
  rw [e_Row_tell_JJ, e1, Option.bind_some, e2, Option.bind_some, e3]
  rfl
theorem s_enters {m : jx_Mem} {vs : List Int64} (v : Int64) (h : rM m vs) (hl : vs.length < 24) : ∃ m', f_M_enters v m = some m' ∧ rM m' (vs ++ [v]) ∧ sm wRM m m' := by
  have h2 : jx_in (m.1 63 1) 24 = true := by rw [h.1]; exact in_nI hl (by omega)
  refine ⟨jx_w1 (jx_w2 m 64 vs.length v) 63 1 (nI (vs.length + 1)), ?_, ⟨?_, ?_⟩, (sm_w2 (Or.inr rfl)).w1 (Or.inl ⟨rfl, rfl⟩)⟩
  · rw [e_M_enters, h2, h.1, nI_cl (by omega)]
    show some _ = _
    rw [w2_one, h.1, nI_1]
  · rw [w1_same, List.length_append]; rfl
  · intro i hi
    rw [List.length_append] at hi
    show (jx_w2 m 64 vs.length v).2 64 i = _
    rw [w2_rd]
    by_cases q : i = vs.length
    · rw [if_pos ⟨rfl, q⟩, q]; simp
    · rw [if_neg (fun z => q z.2)]
      have : i < vs.length := by simp at hi; omega
      rw [h.2 i this]
      simp [List.getD_eq_getElem?_getD, List.getElem?_append_left this]
theorem rM_0 (m : jx_Mem) : rM (jx_w1 m 63 1 0) [] := ⟨w1_same m 63 1 0, fun i hi => absurd hi (Nat.not_lt_zero i)⟩
