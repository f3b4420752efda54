/-! counts as lists; counted, been, clink -/
abbrev cT := Nat × Nat × Nat
def gC (s : List cT) (k : Nat) : cT := s.getD k (0, 0, 0)
theorem gC_cons (y : cT) (r : List cT) (k : Nat) : gC (y :: r) (k + 1) = gC r k := rfl
theorem gC_0 (y : cT) (r : List cT) : gC (y :: r) 0 = y := rfl
theorem gC_get {s : List cT} {k : Nat} (h : k < s.length) : s[k]? = some (gC s k) := by
  unfold gC
  rw [List.getD_eq_getElem?_getD, List.getElem?_eq_getElem h]
  rfl
theorem gC_mem {s : List cT} {k : Nat} (h : k < s.length) : gC s k ∈ s := List.mem_of_getElem? (gC_get h)
theorem gC_td {s : List cT} {q : Nat} (x : cT) (hq : q ≤ s.length) (k : Nat) : gC (s.take q ++ x :: s.drop q) k = if k < q then gC s k else if k = q then x else gC s (k - 1) := by
  have hl : (s.take q).length = q := by rw [List.length_take]; omega
  unfold gC
  rw [List.getD_eq_getElem?_getD, List.getD_eq_getElem?_getD, List.getD_eq_getElem?_getD]
  by_cases c : k < q
  · rw [if_pos c, List.getElem?_append_left (by omega), List.getElem?_take, if_pos c]
  · rw [if_neg c, List.getElem?_append_right (by omega), hl]
    by_cases d : k = q
    · rw [if_pos d, d, Nat.sub_self]; rfl
    · rw [if_neg d]
      obtain ⟨j, hj⟩ : ∃ j, k - q = j + 1 := ⟨k - q - 1, by omega⟩
      rw [hj, List.getElem?_cons_succ, List.getElem?_drop, show q + j = k - 1 by omega]
theorem gC_snoc (s : List cT) (x : cT) (k : Nat) : k < s.length + 1 → gC (s ++ [x]) k = if k < s.length then gC s k else x := by
  intro hk
  unfold gC
  rw [List.getD_eq_getElem?_getD, List.getD_eq_getElem?_getD]
  by_cases c : k < s.length
  · rw [if_pos c, List.getElem?_append_left c]
  · have : k = s.length := by omega
    rw [if_neg c, List.getElem?_append_right (by omega), this, Nat.sub_self]
    rfl
theorem take_gC {s : List cT} {k : Nat} (h : k < s.length) : s.take (k + 1) = s.take k ++ [gC s k] := by
  rw [List.take_succ, gC_get h]
  rfl
def insC (x : cT) : List cT → List cT
  | [] => [x]
  | y :: r => if x.2.1 < y.2.1 then x :: y :: r else y :: insC x r
theorem insC_len (x : cT) : ∀ s : List cT, (insC x s).length = s.length + 1 := by
  intro s
  induction s with
  | nil => rfl
  | cons y r ih =>
    unfold insC
    split
    · rfl
    · rw [List.length_cons, ih, List.length_cons]
theorem insC_mem (x z : cT) : ∀ s : List cT, z ∈ insC x s ↔ z = x ∨ z ∈ s := by
  intro s
  induction s with
  | nil => simp [insC]
  | cons y r ih =>
    unfold insC
    split
    · simp
    · simp only [List.mem_cons, ih]
      constructor
      · rintro (h | h | h)
        · exact Or.inr (Or.inl h)
        · exact Or.inl h
        · exact Or.inr (Or.inr h)
      · rintro (h | h | h)
        · exact Or.inr (Or.inl h)
        · exact Or.inl h
        · exact Or.inr (Or.inr h)
theorem insC_at (x : cT) : ∀ (s : List cT) (q : Nat), q ≤ s.length → (∀ k, k < q → (gC s k).2.1 ≤ x.2.1) → (∀ k, q ≤ k → k < s.length → x.2.1 < (gC s k).2.1) → insC x s = s.take q ++ x :: s.drop q := by
  intro s
  induction s with
  | nil =>
    intro q hq _ _
    have : q = 0 := by simpa using hq
    subst this
    rfl
  | cons y r ih =>
    intro q hq h1 h2
    cases q with
    | zero =>
      have := h2 0 (Nat.le_refl _) (by simp)
      rw [gC_0] at this
      unfold insC
      rw [if_pos this]
      rfl
    | succ q =>
      have := h1 0 (by omega)
      rw [gC_0] at this
      unfold insC
      rw [if_neg (by omega), ih q (by simpa using hq) (fun k hk => h1 (k + 1) (by omega)) (fun k hk hk2 => h2 (k + 1) (by omega) (by simpa using hk2))]
      rfl
def srtd (s : List cT) : Prop := s.Pairwise (fun a b => a.2.1 ≤ b.2.1)
theorem srtd_gC {s : List cT} (h : srtd s) {i j : Nat} (hij : i < j) (hj : j < s.length) : (gC s i).2.1 ≤ (gC s j).2.1 := by
  have h1 := List.pairwise_iff_getElem.mp h i j (by omega) hj hij
  have e1 : gC s i = s[i] := by
    unfold gC
    rw [List.getD_eq_getElem?_getD, List.getElem?_eq_getElem (show i < s.length by omega)]
    rfl
  have e2 : gC s j = s[j] := by
    unfold gC
    rw [List.getD_eq_getElem?_getD, List.getElem?_eq_getElem hj]
    rfl
  rw [e1, e2]
  exact h1
theorem insC_srtd (x : cT) : ∀ s : List cT, srtd s → srtd (insC x s) := by
  intro s
  induction s with
  | nil => intro _; exact List.pairwise_singleton _ _
  | cons y r ih =>
    intro h
    unfold srtd at h
    rw [List.pairwise_cons] at h
    unfold insC
    split
    · rename_i c
      unfold srtd
      rw [List.pairwise_cons, List.pairwise_cons]
      refine ⟨fun z hz => ?_, h⟩
      rcases List.mem_cons.mp hz with rfl | hz
      · omega
      · have := h.1 z hz; omega
    · rename_i c
      unfold srtd
      rw [List.pairwise_cons]
      refine ⟨fun z hz => ?_, ih h.2⟩
      rcases (insC_mem x z r).mp hz with rfl | hz
      · omega
      · exact h.1 z hz
theorem insC_all (x : cT) (l : List cT) (h : ∀ y, y ∈ l → x.2.1 < y.2.1) : insC x l = x :: l := by
  cases l with
  | nil => rfl
  | cons y r =>
    unfold insC
    rw [if_pos (h y (by simp))]
theorem insC_fil (p : cT → Bool) (x : cT) : ∀ s : List cT, srtd s → (insC x s).filter p = if p x = true then insC x (s.filter p) else s.filter p := by
  intro s
  induction s with
  | nil =>
    intro _
    unfold insC
    by_cases c : p x = true
    · rw [if_pos c]; simp [c, insC]
    · rw [if_neg c]; simp [c]
  | cons y r ih =>
    intro h
    have hc := h
    unfold srtd at h
    rw [List.pairwise_cons] at h
    have h2 := ih h.2
    rw [insC]
    by_cases c : x.2.1 < y.2.1
    · rw [if_pos c]
      by_cases d : p x = true
      · rw [if_pos d, List.filter_cons_of_pos d, insC_all x]
        intro z hz
        have hz2 := (List.mem_filter.mp hz).1
        rcases List.mem_cons.mp hz2 with rfl | hz2
        · exact c
        · have := h.1 z hz2; omega
      · rw [if_neg d, List.filter_cons_of_neg d]
    · rw [if_neg c]
      by_cases e : p y = true
      · rw [List.filter_cons_of_pos e, List.filter_cons_of_pos e, h2]
        by_cases d : p x = true
        · rw [if_pos d, if_pos d, insC, if_neg c]
        · rw [if_neg d, if_neg d]
      · rw [List.filter_cons_of_neg e, List.filter_cons_of_neg e, h2]
def isC (c : List cT) : List cT := c.foldl (fun s x => insC x s) []
theorem isC_snoc (c : List cT) (x : cT) : isC (c ++ [x]) = insC x (isC c) := by
  unfold isC
  rw [List.foldl_append]
  rfl
theorem fold_srtd : ∀ (c s : List cT), srtd s → srtd (c.foldl (fun s x => insC x s) s) := by
  intro c
  induction c with
  | nil => intro s h; exact h
  | cons x r ih => intro s h; exact ih _ (insC_srtd x s h)
theorem isC_srtd (c : List cT) : srtd (isC c) := fold_srtd c [] List.Pairwise.nil
theorem fold_len : ∀ (c s : List cT), (c.foldl (fun s x => insC x s) s).length = c.length + s.length := by
  intro c
  induction c with
  | nil => intro s; simp
  | cons x r ih => intro s; rw [List.foldl_cons, ih, insC_len, List.length_cons]; omega
theorem isC_len (c : List cT) : (isC c).length = c.length := by
  unfold isC
  rw [fold_len]
  rfl
theorem fold_fil (p : cT → Bool) : ∀ (c s : List cT), srtd s → (c.foldl (fun s x => insC x s) s).filter p = (c.filter p).foldl (fun s x => insC x s) (s.filter p) := by
  intro c
  induction c with
  | nil => intro s _; rfl
  | cons x r ih =>
    intro s h
    rw [List.foldl_cons, ih _ (insC_srtd x s h), insC_fil p x s h]
    by_cases d : p x = true
    · rw [if_pos d, List.filter_cons_of_pos d, List.foldl_cons]
    · rw [if_neg d, List.filter_cons_of_neg d]
theorem isC_fil (p : cT → Bool) (c : List cT) : (isC c).filter p = isC (c.filter p) := fold_fil p c [] List.Pairwise.nil
theorem fold_mem (z : cT) : ∀ (c s : List cT), z ∈ c.foldl (fun s x => insC x s) s ↔ z ∈ c ∨ z ∈ s := by
  intro c
  induction c with
  | nil => intro s; simp
  | cons x r ih =>
    intro s
    rw [List.foldl_cons, ih, insC_mem]
    simp only [List.mem_cons]
    constructor
    · rintro (h | h | h)
      · exact Or.inl (Or.inr h)
      · exact Or.inl (Or.inl h)
      · exact Or.inr h
    · rintro ((h | h) | h)
      · exact Or.inr (Or.inl h)
      · exact Or.inl h
      · exact Or.inr (Or.inr h)
theorem isC_mem (z : cT) (c : List cT) : z ∈ isC c ↔ z ∈ c := by
  unfold isC
  rw [fold_mem]
  simp
/-! pictures -/
def lsC (m : jx_Mem) (a b d : Nat) (s : List cT) : Prop := ∀ k, k < s.length → m.1 a k = nI (gC s k).1 ∧ m.1 b k = nI (gC s k).2.1 ∧ m.1 d k = nI (gC s k).2.2
def cntF (m : jx_Mem) (c : List cT) : Prop := m.1 38 4 = nI c.length ∧ lsC m 39 40 41 (isC c)
def cntM (m : jx_Mem) (c : List cT) : Prop := m.1 63 38 = nI c.length ∧ lsC m 89 90 91 c
def gCnt (c : List cT) : Prop := c.length ≤ 16 ∧ ∀ x, x ∈ c → x.1 < 10 ∧ x.2.1 ≤ 999 ∧ x.2.2 ≤ 99
def gStay (P n : Nat) (B : Nat → Nat → Nat) : Prop := n ≤ 20 ∧ ∀ k, k < n → B 0 k < P ∧ B 1 k < 10 ∧ B 2 k ≤ 999 ∧ B 3 k ≤ 999
def stayF (m : jx_Mem) (n : Nat) (B : Nat → Nat → Nat) : Prop := m.1 38 9 = nI n ∧ ∀ k, k < n → m.1 42 k = nI (B 0 k) ∧ m.1 43 k = nI (B 1 k) ∧ m.1 44 k = nI (B 2 k) ∧ m.1 45 k = nI (B 3 k)
def stayM (m : jx_Mem) (n : Nat) (B : Nat → Nat → Nat) : Prop := m.1 63 42 = nI n ∧ ∀ k, k < n → m.1 92 k = nI (B 0 k) ∧ m.1 93 k = nI (B 1 k) ∧ m.1 94 k = nI (B 2 k) ∧ m.1 95 k = nI (B 3 k)
def gClk (n : Nat) (X : Nat → Nat → Nat) : Prop := n ≤ 6 ∧ ∀ k, k < n → X 0 k < 10 ∧ X 1 k ≤ 999 ∧ 1 ≤ X 2 k ∧ X 2 k ≤ 99
def clkF (m : jx_Mem) (n : Nat) (X : Nat → Nat → Nat) : Prop := m.1 38 13 = nI n ∧ ∀ k, k < n → m.1 46 k = nI (X 0 k) ∧ m.1 47 k = nI (X 1 k) ∧ m.1 48 k = nI (X 2 k)
def clkM (m : jx_Mem) (n : Nat) (X : Nat → Nat → Nat) : Prop := m.1 63 52 = nI n ∧ ∀ k, k < n → m.1 99 k = nI (X 0 k) ∧ m.1 100 k = nI (X 1 k) ∧ m.1 101 k = nI (X 2 k)
def dWF (a k : Nat) : Prop := (a = 38 ∧ (k = 4 ∨ k = 9 ∨ k = 13)) ∨ (39 ≤ a ∧ a ≤ 48)
def dWM (a k : Nat) : Prop := (a = 63 ∧ (k = 38 ∨ k = 42 ∨ k = 52)) ∨ (89 ≤ a ∧ a ≤ 95) ∨ (99 ≤ a ∧ a ≤ 101)
section WATCH
variable {m m' : jx_Mem} {T P : Nat} {D : Nat → Nat → Nat} {W A U L : Nat → Nat} {Z : Nat → Nat → Prop}
variable {c : List cT} {ns nc : Nat} {B X : Nat → Nat → Nat}
theorem cntF_sm (h : cntF m c) (hs : sm Z m m') (hz : ∀ a k, dWF a k → ¬ Z a k) : cntF m' c :=
  ⟨(hs 38 4 (hz 38 4 (by unfold dWF; omega))).1.trans h.1, fun k hk => ⟨(hs 39 k (hz 39 k (by unfold dWF; omega))).1.trans (h.2 k hk).1, (hs 40 k (hz 40 k (by unfold dWF; omega))).1.trans (h.2 k hk).2.1, (hs 41 k (hz 41 k (by unfold dWF; omega))).1.trans (h.2 k hk).2.2⟩⟩
theorem cntM_sm (h : cntM m c) (hs : sm Z m m') (hz : ∀ a k, dWM a k → ¬ Z a k) : cntM m' c :=
  ⟨(hs 63 38 (hz 63 38 (by unfold dWM; omega))).1.trans h.1, fun k hk => ⟨(hs 89 k (hz 89 k (by unfold dWM; omega))).1.trans (h.2 k hk).1, (hs 90 k (hz 90 k (by unfold dWM; omega))).1.trans (h.2 k hk).2.1, (hs 91 k (hz 91 k (by unfold dWM; omega))).1.trans (h.2 k hk).2.2⟩⟩
theorem stayF_sm (h : stayF m ns B) (hs : sm Z m m') (hz : ∀ a k, dWF a k → ¬ Z a k) : stayF m' ns B :=
  ⟨(hs 38 9 (hz 38 9 (by unfold dWF; omega))).1.trans h.1, fun k hk => ⟨(hs 42 k (hz 42 k (by unfold dWF; omega))).1.trans (h.2 k hk).1, (hs 43 k (hz 43 k (by unfold dWF; omega))).1.trans (h.2 k hk).2.1, (hs 44 k (hz 44 k (by unfold dWF; omega))).1.trans (h.2 k hk).2.2.1, (hs 45 k (hz 45 k (by unfold dWF; omega))).1.trans (h.2 k hk).2.2.2⟩⟩
theorem stayM_sm (h : stayM m ns B) (hs : sm Z m m') (hz : ∀ a k, dWM a k → ¬ Z a k) : stayM m' ns B :=
  ⟨(hs 63 42 (hz 63 42 (by unfold dWM; omega))).1.trans h.1, fun k hk => ⟨(hs 92 k (hz 92 k (by unfold dWM; omega))).1.trans (h.2 k hk).1, (hs 93 k (hz 93 k (by unfold dWM; omega))).1.trans (h.2 k hk).2.1, (hs 94 k (hz 94 k (by unfold dWM; omega))).1.trans (h.2 k hk).2.2.1, (hs 95 k (hz 95 k (by unfold dWM; omega))).1.trans (h.2 k hk).2.2.2⟩⟩
theorem clkF_sm (h : clkF m nc X) (hs : sm Z m m') (hz : ∀ a k, dWF a k → ¬ Z a k) : clkF m' nc X :=
  ⟨(hs 38 13 (hz 38 13 (by unfold dWF; omega))).1.trans h.1, fun k hk => ⟨(hs 46 k (hz 46 k (by unfold dWF; omega))).1.trans (h.2 k hk).1, (hs 47 k (hz 47 k (by unfold dWF; omega))).1.trans (h.2 k hk).2.1, (hs 48 k (hz 48 k (by unfold dWF; omega))).1.trans (h.2 k hk).2.2⟩⟩
theorem clkM_sm (h : clkM m nc X) (hs : sm Z m m') (hz : ∀ a k, dWM a k → ¬ Z a k) : clkM m' nc X :=
  ⟨(hs 63 52 (hz 63 52 (by unfold dWM; omega))).1.trans h.1, fun k hk => ⟨(hs 99 k (hz 99 k (by unfold dWM; omega))).1.trans (h.2 k hk).1, (hs 100 k (hz 100 k (by unfold dWM; omega))).1.trans (h.2 k hk).2.1, (hs 101 k (hz 101 k (by unfold dWM; omega))).1.trans (h.2 k hk).2.2⟩⟩
def wCtF (a k : Nat) : Prop := a = 39 ∨ a = 40 ∨ a = 41 ∨ (a = 38 ∧ k = 4)
theorem ac_51 {s : List cT} (hn : s.length < 16) (hso : srtd s) (hb : ∀ k, k < s.length → (gC s k).2.1 ≤ 999) {p mi v : Nat} (hmi : mi ≤ 999) : ∀ q, q ≤ s.length → ∀ m1, m1.1 38 4 = nI s.length → (∀ k, k < q → m1.1 39 k = nI (gC s k).1 ∧ m1.1 40 k = nI (gC s k).2.1 ∧ m1.1 41 k = nI (gC s k).2.2) → (∀ k, q < k → k < s.length + 1 → m1.1 39 k = nI (gC s (k - 1)).1 ∧ m1.1 40 k = nI (gC s (k - 1)).2.1 ∧ m1.1 41 k = nI (gC s (k - 1)).2.2) → (∀ k, q ≤ k → k < s.length → mi < (gC s k).2.1) →
    ∃ m2, f_Watch_addCount_51 (nI p) (nI mi) (nI v) (nI q) m1 = some (nI (s.length + 1), m2) ∧ m2.1 38 4 = nI (s.length + 1) ∧ lsC m2 39 40 41 (insC (p, mi, v) s) ∧ sm wCtF m1 m2 := by
  intro q
  have fin : ∀ q, q ≤ s.length → (∀ k, k < q → (gC s k).2.1 ≤ mi) → ∀ m1 : jx_Mem, m1.1 38 4 = nI s.length → (∀ k, k < q → m1.1 39 k = nI (gC s k).1 ∧ m1.1 40 k = nI (gC s k).2.1 ∧ m1.1 41 k = nI (gC s k).2.2) → (∀ k, q < k → k < s.length + 1 → m1.1 39 k = nI (gC s (k - 1)).1 ∧ m1.1 40 k = nI (gC s (k - 1)).2.1 ∧ m1.1 41 k = nI (gC s (k - 1)).2.2) → (∀ k, q ≤ k → k < s.length → mi < (gC s k).2.1) →
      ∃ m2, f_Watch_addCount_123 (nI p) (nI mi) (nI v) (nI q) m1 = some (nI (s.length + 1), m2) ∧ m2.1 38 4 = nI (s.length + 1) ∧ lsC m2 39 40 41 (insC (p, mi, v) s) ∧ sm wCtF m1 m2 := by
    intro q hq h1 m1 h0 ha hb2 hc
    refine ⟨jx_w1 (jx_w1 (jx_w1 (jx_w1 m1 39 q (nI p)) 40 q (nI mi)) 41 q (nI v)) 38 4 (nI (s.length + 1)), ?_, w1_same _ _ _ _, ?_, (((sm_w1 (by unfold wCtF; omega)).w1 (by unfold wCtF; omega)).w1 (by unfold wCtF; omega)).w1 (by unfold wCtF; omega)⟩
    · rw [e_Watch_addCount_123]
      simp [in_nI (show q < 16 by omega) (show 16 < 2 ^ 31 by omega), nI_cl (show q < 2 ^ 31 by omega), w1_rd, h0, nI_1]
    · rw [insC_at (p, mi, v) s q hq h1 hc]
      intro k hk
      rw [List.length_append, List.length_cons, List.length_take, List.length_drop] at hk
      rw [gC_td (p, mi, v) hq k]
      by_cases c1 : k < q
      · rw [if_pos c1]
        have := ha k c1
        simp [w1_rd, show ¬ k = q by omega, this]
      · rw [if_neg c1]
        by_cases c2 : k = q
        · rw [if_pos c2, c2]
          simp [w1_rd]
        · rw [if_neg c2]
          have := hb2 k (by omega) (by omega)
          simp [w1_rd, c2, this]
  induction q with
  | zero =>
    intro hq m1 h0 ha hb2 hc
    obtain ⟨m2, r1, r2⟩ := fin 0 hq (fun k hk => absurd hk (Nat.not_lt_zero k)) m1 h0 ha hb2 hc
    refine ⟨m2, ?_, r2⟩
    rw [e_Watch_addCount_51]
    exact (ifp (by decide)).trans r1
  | succ q ih =>
    intro hq m1 h0 ha hb2 hc
    have h40 := (ha q (by omega)).2.1
    have hqb := hb q (by omega)
    rw [e_Watch_addCount_51]
    have e0 : ∀ X Y : Option (Int32 × jx_Mem), (if decide (nI (q + 1) ≤ 0) = true then X else Y) = Y := fun X Y => ifn (nI_ge (a := 0) (b := q + 1) (by omega) (by omega))
    rw [e0, nI_pred, in_nI (show q < 16 by omega) (by omega), nI_cl (show q < 2 ^ 31 by omega), cond_true, h40]
    by_cases d : (gC s q).2.1 ≤ mi
    · obtain ⟨m2, r1, r2⟩ := fin (q + 1) hq (fun k hk => by
        by_cases e : k = q
        · rw [e]; exact d
        · have := srtd_gC hso (show k < q by omega) (by omega); omega) m1 h0 ha hb2 hc
      exact ⟨m2, (ifp (nI_le d (by omega))).trans r1, r2⟩
    · have hq3 := ha q (by omega)
      obtain ⟨m2, r1, r2, r3, r4⟩ := ih (by omega) (jx_w1 (jx_w1 (jx_w1 m1 39 (q + 1) (nI (gC s q).1)) 40 (q + 1) (nI (gC s q).2.1)) 41 (q + 1) (nI (gC s q).2.2)) (by simp [w1_rd, h0]) (by
        intro k hk
        have := ha k (by omega)
        simp [w1_rd, show ¬ k = q + 1 by omega, this]) (by
        intro k hk hk2
        by_cases e : k = q + 1
        · rw [e, Nat.add_sub_cancel]
          simp [w1_rd]
        · have := hb2 k (by omega) hk2
          simp [w1_rd, e, this]) (by
        intro k hk hk2
        by_cases e : k = q
        · rw [e]; omega
        · exact hc k (by omega) hk2)
      refine ⟨m2, ?_, r2, r3, (((sm_w1 (by unfold wCtF; omega)).w1 (by unfold wCtF; omega)).w1 (by unfold wCtF; omega)).tr r4⟩
      refine (ifn (nI_ge (by omega) (by omega))).trans ?_
      rw [← r1, cond_true, in_nI (show q + 1 < 16 by omega) (by omega), nI_cl (show q + 1 < 2 ^ 31 by omega), pk_m1, hq3.1]
      simp only [cond_true, Bool.and_true]
      rw [w1_cell (show 40 ≠ 39 by omega), h40, w1_cell (show 41 ≠ 40 by omega), w1_cell (show 41 ≠ 39 by omega), hq3.2.2]
def cCt (x y z : Int32) (n : Nat) : Prop := (0 ≤ x.toInt ∧ x.toInt < 10) ∧ (0 ≤ y.toInt ∧ y.toInt ≤ 999) ∧ (0 ≤ z.toInt ∧ z.toInt ≤ 99) ∧ n < 16
theorem F_counted (h : cntF m c) (g : gCnt c) (x y z : Int32) : ∃ m', sm wCtF m m' ∧
    ((cCt x y z c.length ∧ f_F_counted x y z m = some (nI (c.length + 1), m') ∧ cntF m' (c ++ [(jn x, jn y, jn z)])) ∨ (¬ cCt x y z c.length ∧ f_F_counted x y z m = some (-1, m') ∧ m' = m)) := by
  have g1 := g.1
  rw [e_F_counted, e_Watch_addCount]
  by_cases hx : 0 ≤ x.toInt ∧ x.toInt < 10
  · by_cases hy : 0 ≤ y.toInt ∧ y.toInt ≤ 999
    · by_cases hz : 0 ≤ z.toInt ∧ z.toInt ≤ 99
      · by_cases hn : c.length < 16
        · obtain ⟨p, hp, rfl⟩ := nI_get hx.1 (show x.toInt < ((10 : Nat) : Int) from hx.2)
          obtain ⟨mi, hmi, rfl⟩ := nI_get hy.1 (show y.toInt < ((1000 : Nat) : Int) by omega)
          obtain ⟨v, hv, rfl⟩ := nI_get hz.1 (show z.toInt < ((100 : Nat) : Int) by omega)
          rw [jn_nI (show p < 2 ^ 31 by omega), jn_nI (show mi < 2 ^ 31 by omega), jn_nI (show v < 2 ^ 31 by omega)]
          have hl := isC_len c
          obtain ⟨m2, r1, r2, r3, r4⟩ := ac_51 (s := isC c) (by omega) (isC_srtd c) (fun k hk => (g.2 _ ((isC_mem _ c).mp (gC_mem hk))).2.1) (p := p) (v := v) (show mi ≤ 999 by omega) c.length (by omega) m (by rw [hl]; exact h.1) (fun k hk => h.2 k (by omega)) (fun k hk hk2 => by omega) (fun k hk hk2 => by omega)
          rw [hl] at r1 r2
          refine ⟨m2, r4, Or.inl ⟨⟨hx, hy, hz, hn⟩, ?_, ?_, ?_⟩⟩
          · have q1 : nI c.length < 16 := nI_lt (b := 16) hn (by omega)
            simp [s_pl_t hx, s_wi_t (lo := 0) (hi := 999) hy, s_wi_t (lo := 0) (hi := 99) hz, h.1, q1, r1]
          · rw [List.length_append]; exact r2
          · rw [isC_snoc]; exact r3
        · refine ⟨m, sm.rf, Or.inr ⟨fun q => hn q.2.2.2, ?_, rfl⟩⟩
          have q1 : ¬ nI c.length < 16 := nI_nlt (b := 16) (by omega) (by omega)
          simp [s_pl_t hx, s_wi_t (lo := 0) (hi := 999) hy, s_wi_t (lo := 0) (hi := 99) hz, h.1, q1]
      · refine ⟨m, sm.rf, Or.inr ⟨fun q => hz q.2.2.1, ?_, rfl⟩⟩
        simp [s_pl_t hx, s_wi_t (lo := 0) (hi := 999) hy, s_wi_f (lo := 0) (hi := 99) hz, e_Watch_addCount_32]
    · refine ⟨m, sm.rf, Or.inr ⟨fun q => hy q.2.1, ?_, rfl⟩⟩
      simp [s_pl_t hx, s_wi_f (lo := 0) (hi := 999) hy, e_Watch_addCount_32]
  · refine ⟨m, sm.rf, Or.inr ⟨fun q => hx q.1, ?_, rfl⟩⟩
    simp [s_pl_f hx, e_Watch_addCount_32]
theorem s_minute (x : Int32) : f_M_isMinute x m = some (jb (0 ≤ x.toInt ∧ x.toInt ≤ 999), m) := by
  rw [e_M_isMinute, s_min, il_toInt, Option.bind_some]
  show (bif jx_01 (jb _) then _ else none) = _
  rw [jb_01]
  rfl
def wCtM (a k : Nat) : Prop := a = 89 ∨ a = 90 ∨ a = 91 ∨ (a = 63 ∧ (k = 0 ∨ k = 38))
theorem M_counted (h : cntM m c) (g : gCnt c) (x y z : Int32) : ∃ m', sm wCtM m m' ∧
    ((cCt x y z c.length ∧ f_M_counted x y z m = some (nI (c.length + 1), m') ∧ cntM m' (c ++ [(jn x, jn y, jn z)])) ∨ (¬ cCt x y z c.length ∧ f_M_counted x y z m = some (-1, m') ∧ m' = jx_w1 m 63 0 0)) := by
  have g1 := g.1
  have s1 : sm wCtM m (jx_w1 m 63 0 0) := sm_w1 (by unfold wCtM; omega)
  rw [e_M_counted]
  try dsimp only
  by_cases hx : 0 ≤ x.toInt ∧ x.toInt < 10
  · by_cases hy : 0 ≤ y.toInt ∧ y.toInt ≤ 999
    · by_cases hz : 0 ≤ z.toInt ∧ z.toInt ≤ 99
      · by_cases hn : c.length < 16
        · obtain ⟨p, hp, rfl⟩ := nI_get hx.1 (show x.toInt < ((10 : Nat) : Int) from hx.2)
          obtain ⟨mi, hmi, rfl⟩ := nI_get hy.1 (show y.toInt < ((1000 : Nat) : Int) by omega)
          obtain ⟨v, hv, rfl⟩ := nI_get hz.1 (show z.toInt < ((100 : Nat) : Int) by omega)
          rw [jn_nI (show p < 2 ^ 31 by omega), jn_nI (show mi < 2 ^ 31 by omega), jn_nI (show v < 2 ^ 31 by omega)]
          have q1 : ¬ nI c.length = 16 := fun z => by have := (nI_eq (b := 16) (by omega) (by omega)).mp z; omega
          refine ⟨jx_w1 (jx_w1 (jx_w1 (jx_w1 (jx_w1 m 63 0 0) 89 c.length (nI p)) 90 c.length (nI mi)) 91 c.length (nI v)) 63 38 (nI (c.length + 1)), (((s1.w1 (by unfold wCtM; omega)).w1 (by unfold wCtM; omega)).w1 (by unfold wCtM; omega)).w1 (by unfold wCtM; omega), Or.inl ⟨⟨hx, hy, hz, hn⟩, ?_, ?_, ?_⟩⟩
          · simp [s_mpl_t hx, s_minute, jb_t hy, s_in_t (lo := 0) (hi := 99) hz, w1_rd, h.1, q1, in_nI hn (show 16 < 2 ^ 31 by omega), nI_cl (show c.length < 2 ^ 31 by omega), nI_1]
          · rw [List.length_append]; exact w1_same _ _ _ _
          · intro k hk
            rw [List.length_append, List.length_singleton] at hk
            rw [gC_snoc c _ k hk]
            by_cases e : k < c.length
            · rw [if_pos e]
              have := h.2 k e
              simp [w1_rd, show ¬ k = c.length by omega, this]
            · rw [if_neg e, show k = c.length by omega]
              simp [w1_rd]
        · refine ⟨_, s1, Or.inr ⟨fun q => hn q.2.2.2, ?_, rfl⟩⟩
          have q1 : nI c.length = 16 := by rw [show c.length = 16 by omega]; rfl
          simp [s_mpl_t hx, s_minute, jb_t hy, s_in_t (lo := 0) (hi := 99) hz, w1_rd, h.1, q1, e_M_counted_40]
      · refine ⟨_, s1, Or.inr ⟨fun q => hz q.2.2.1, ?_, rfl⟩⟩
        simp [s_mpl_t hx, s_minute, jb_t hy, s_in_f (lo := 0) (hi := 99) hz, e_M_counted_40]
    · refine ⟨_, s1, Or.inr ⟨fun q => hy q.2.1, ?_, rfl⟩⟩
      simp [s_mpl_t hx, s_minute, jb_f hy, e_M_counted_40]
  · refine ⟨_, s1, Or.inr ⟨fun q => hx q.1, ?_, rfl⟩⟩
    simp [s_mpl_f hx, e_M_counted_40]
/-! been -/
def upT (B : Nat → Nat → Nat) (n a b d e : Nat) : Nat → Nat → Nat := fun j k => if k = n then (if j = 0 then a else if j = 1 then b else if j = 2 then d else e) else B j k
theorem upT_n {B : Nat → Nat → Nat} {n a b d e j k : Nat} (h : k ≠ n) : upT B n a b d e j k = B j k := if_neg h
theorem upT_s {B : Nat → Nat → Nat} {n a b d e j : Nat} : upT B n a b d e j n = (if j = 0 then a else if j = 1 then b else if j = 2 then d else e) := if_pos rfl
def cBn (x y z w : Int32) (P n : Nat) : Prop := (0 ≤ x.toInt ∧ x.toInt < (P : Int)) ∧ (0 ≤ y.toInt ∧ y.toInt < 10) ∧ (0 ≤ z.toInt ∧ z.toInt ≤ 999) ∧ (z.toInt ≤ w.toInt ∧ w.toInt ≤ 999) ∧ n < 20
def wBnF (a k : Nat) : Prop := a = 42 ∨ a = 43 ∨ a = 44 ∨ a = 45 ∨ (a = 38 ∧ k = 9)
def wBnM (a k : Nat) : Prop := a = 92 ∨ a = 93 ∨ a = 94 ∨ a = 95 ∨ (a = 63 ∧ (k = 0 ∨ k = 42))
theorem F_been (h : mineF m T P D W A U L) (g : gMine T P D W A U L) (hb : stayF m ns B) (gb : gStay P ns B) (x y z w : Int32) : ∃ m', sm wBnF m m' ∧
    ((cBn x y z w P ns ∧ f_F_been x y z w m = some (nI (ns + 1), m') ∧ stayF m' (ns + 1) (upT B ns (jn x) (jn y) (jn z) (jn w))) ∨ (¬ cBn x y z w P ns ∧ f_F_been x y z w m = some (-1, m') ∧ m' = m)) := by
  have hP := g.2.1
  have hn20 := gb.1
  rw [e_F_been, e_Watch_addStay]
  by_cases hx : 0 ≤ x.toInt ∧ x.toInt < (P : Int)
  · by_cases hy : 0 ≤ y.toInt ∧ y.toInt < 10
    · by_cases hn : ns < 20
      · have q1 : nI ns < 20 := nI_lt (b := 20) hn (by omega)
        by_cases hz : 0 ≤ z.toInt ∧ z.toInt ≤ 999
        · by_cases hw : z.toInt ≤ w.toInt ∧ w.toInt ≤ 999
          · obtain ⟨p, hp, rfl⟩ := nI_get hx.1 hx.2
            obtain ⟨a, ha, rfl⟩ := nI_get hy.1 (show y.toInt < ((10 : Nat) : Int) from hy.2)
            obtain ⟨f, hf, rfl⟩ := nI_get hz.1 (show z.toInt < ((1000 : Nat) : Int) by omega)
            obtain ⟨t, ht, rfl⟩ := nI_get (show 0 ≤ w.toInt by omega) (show w.toInt < ((1000 : Nat) : Int) by omega)
            rw [jn_nI (show p < 2 ^ 31 by omega), jn_nI (show a < 2 ^ 31 by omega), jn_nI (show f < 2 ^ 31 by omega), jn_nI (show t < 2 ^ 31 by omega)]
            refine ⟨jx_w1 (jx_w1 (jx_w1 (jx_w1 (jx_w1 m 42 ns (nI p)) 43 ns (nI a)) 44 ns (nI f)) 45 ns (nI t)) 38 9 (nI (ns + 1)), ((((sm_w1 (by unfold wBnF; omega)).w1 (by unfold wBnF; omega)).w1 (by unfold wBnF; omega)).w1 (by unfold wBnF; omega)).w1 (by unfold wBnF; omega), Or.inl ⟨⟨hx, hy, hz, hw, hn⟩, ?_, w1_same _ _ _ _, fun k hk => ?_⟩⟩
            · simp [s_pers h g, jb_t hx, s_pl_t hy, hb.1, q1, s_wi_t (lo := 0) (hi := 999) hz, s_wi_t (lo := nI f) (hi := 999) hw, in_nI hn (show 20 < 2 ^ 31 by omega), nI_cl (show ns < 2 ^ 31 by omega), w1_rd, nI_1]
            · by_cases e : k = ns
              · subst e
                simp only [upT_s]
                simp [w1_rd]
              · have := hb.2 k (by omega)
                simp only [upT_n e]
                simp [w1_rd, e, this]
          · refine ⟨m, sm.rf, Or.inr ⟨fun q => hw q.2.2.2.1, ?_, rfl⟩⟩
            simp [s_pers h g, jb_t hx, s_pl_t hy, hb.1, q1, s_wi_t (lo := 0) (hi := 999) hz, s_wi_f (x := w) (lo := z) (hi := 999) hw, e_Watch_addStay_56]
        · refine ⟨m, sm.rf, Or.inr ⟨fun q => hz q.2.2.1, ?_, rfl⟩⟩
          simp [s_pers h g, jb_t hx, s_pl_t hy, hb.1, q1, s_wi_f (lo := 0) (hi := 999) hz, e_Watch_addStay_56]
      · refine ⟨m, sm.rf, Or.inr ⟨fun q => hn q.2.2.2.2, ?_, rfl⟩⟩
        have q1 : ¬ nI ns < 20 := nI_nlt (b := 20) (by omega) (by omega)
        simp [s_pers h g, jb_t hx, s_pl_t hy, hb.1, q1, e_Watch_addStay_31]
    · refine ⟨m, sm.rf, Or.inr ⟨fun q => hy q.2.1, ?_, rfl⟩⟩
      simp [s_pers h g, jb_t hx, s_pl_f hy, e_Watch_addStay_31]
  · refine ⟨m, sm.rf, Or.inr ⟨fun q => hx q.1, ?_, rfl⟩⟩
    simp [s_pers h g, jb_f hx, e_Watch_addStay_31]
theorem M_been (h : mineM m T P D W A U L) (g : gMine T P D W A U L) (hb : stayM m ns B) (gb : gStay P ns B) (x y z w : Int32) : ∃ m', sm wBnM m m' ∧
    ((cBn x y z w P ns ∧ f_M_been x y z w m = some (nI (ns + 1), m') ∧ stayM m' (ns + 1) (upT B ns (jn x) (jn y) (jn z) (jn w))) ∨ (¬ cBn x y z w P ns ∧ f_M_been x y z w m = some (-1, m') ∧ m' = jx_w1 m 63 0 0)) := by
  have hP := g.2.1
  have hn20 := gb.1
  have h1 := mineM_th h (v := 0)
  have s1 : sm wBnM m (jx_w1 m 63 0 0) := sm_w1 (by unfold wBnM; omega)
  rw [e_M_been]
  try dsimp only
  by_cases hx : 0 ≤ x.toInt ∧ x.toInt < (P : Int)
  · by_cases hy : 0 ≤ y.toInt ∧ y.toInt < 10
    · by_cases hz : 0 ≤ z.toInt ∧ z.toInt ≤ 999
      · by_cases hw : z.toInt ≤ w.toInt ∧ w.toInt ≤ 999
        · have hw2 : (z.toInt64).toInt ≤ w.toInt ∧ w.toInt ≤ (999 : Int64).toInt := by rw [il_toInt]; exact hw
          by_cases hn : ns < 20
          · have q1 : ¬ nI ns = 20 := fun z => by have := (nI_eq (b := 20) (by omega) (by omega)).mp z; omega
            obtain ⟨p, hp, rfl⟩ := nI_get hx.1 hx.2
            obtain ⟨a, ha, rfl⟩ := nI_get hy.1 (show y.toInt < ((10 : Nat) : Int) from hy.2)
            obtain ⟨f, hf, rfl⟩ := nI_get hz.1 (show z.toInt < ((1000 : Nat) : Int) by omega)
            obtain ⟨t, ht, rfl⟩ := nI_get (show 0 ≤ w.toInt by omega) (show w.toInt < ((1000 : Nat) : Int) by omega)
            rw [jn_nI (show p < 2 ^ 31 by omega), jn_nI (show a < 2 ^ 31 by omega), jn_nI (show f < 2 ^ 31 by omega), jn_nI (show t < 2 ^ 31 by omega)]
            refine ⟨jx_w1 (jx_w1 (jx_w1 (jx_w1 (jx_w1 (jx_w1 m 63 0 0) 92 ns (nI p)) 93 ns (nI a)) 94 ns (nI f)) 95 ns (nI t)) 63 42 (nI (ns + 1)), ((((s1.w1 (by unfold wBnM; omega)).w1 (by unfold wBnM; omega)).w1 (by unfold wBnM; omega)).w1 (by unfold wBnM; omega)).w1 (by unfold wBnM; omega), Or.inl ⟨⟨hx, hy, hz, hw, hn⟩, ?_, w1_same _ _ _ _, fun k hk => ?_⟩⟩
            · simp [s_mpers h1 g, jb_t hx, s_mpl_t hy, s_minute, jb_t hz, s_in_t hw2, w1_rd, hb.1, q1, in_nI hn (show 20 < 2 ^ 31 by omega), nI_cl (show ns < 2 ^ 31 by omega), nI_1]
            · by_cases e : k = ns
              · subst e
                simp only [upT_s]
                simp [w1_rd]
              · have := hb.2 k (by omega)
                simp only [upT_n e]
                simp [w1_rd, e, this]
          · refine ⟨_, s1, Or.inr ⟨fun q => hn q.2.2.2.2, ?_, rfl⟩⟩
            have q1 : nI ns = 20 := by rw [show ns = 20 by omega]; rfl
            simp [s_mpers h1 g, jb_t hx, s_mpl_t hy, s_minute, jb_t hz, s_in_t hw2, w1_rd, hb.1, q1, e_M_been_50]
        · have hw2 : ¬ ((z.toInt64).toInt ≤ w.toInt ∧ w.toInt ≤ (999 : Int64).toInt) := by rw [il_toInt]; exact hw
          refine ⟨_, s1, Or.inr ⟨fun q => hw q.2.2.2.1, ?_, rfl⟩⟩
          simp [s_mpers h1 g, jb_t hx, s_mpl_t hy, s_minute, jb_t hz, s_in_f hw2, e_M_been_50]
      · refine ⟨_, s1, Or.inr ⟨fun q => hz q.2.2.1, ?_, rfl⟩⟩
        simp [s_mpers h1 g, jb_t hx, s_mpl_t hy, s_minute, jb_f hz, e_M_been_50]
    · refine ⟨_, s1, Or.inr ⟨fun q => hy q.2.1, ?_, rfl⟩⟩
      simp [s_mpers h1 g, jb_t hx, s_mpl_f hy, e_M_been_50]
  · refine ⟨_, s1, Or.inr ⟨fun q => hx q.1, ?_, rfl⟩⟩
    simp [s_mpers h1 g, jb_f hx, e_M_been_50]
/-! clink -/
def cCk (x y z : Int32) (n : Nat) : Prop := (0 ≤ x.toInt ∧ x.toInt < 10) ∧ (0 ≤ y.toInt ∧ y.toInt ≤ 999) ∧ (1 ≤ z.toInt ∧ z.toInt ≤ 99) ∧ n < 6
def wCkF (a k : Nat) : Prop := a = 46 ∨ a = 47 ∨ a = 48 ∨ (a = 38 ∧ k = 13)
def wCkM (a k : Nat) : Prop := a = 99 ∨ a = 100 ∨ a = 101 ∨ (a = 63 ∧ (k = 0 ∨ k = 52))
theorem F_clink (hb : clkF m nc X) (gb : gClk nc X) (x y z : Int32) : ∃ m', sm wCkF m m' ∧
    ((cCk x y z nc ∧ f_F_clink x y z m = some (nI (nc + 1), m') ∧ clkF m' (nc + 1) (upT X nc (jn x) (jn y) (jn z) 0)) ∨ (¬ cCk x y z nc ∧ f_F_clink x y z m = some (-1, m') ∧ m' = m)) := by
  have hn6 := gb.1
  rw [e_F_clink, e_Watch_addClink]
  by_cases hx : 0 ≤ x.toInt ∧ x.toInt < 10
  · by_cases hy : 0 ≤ y.toInt ∧ y.toInt ≤ 999
    · by_cases hz : 1 ≤ z.toInt ∧ z.toInt ≤ 99
      · by_cases hn : nc < 6
        · have q1 : nI nc < 6 := nI_lt (b := 6) hn (by omega)
          obtain ⟨p, hp, rfl⟩ := nI_get hx.1 (show x.toInt < ((10 : Nat) : Int) from hx.2)
          obtain ⟨f, hf, rfl⟩ := nI_get hy.1 (show y.toInt < ((1000 : Nat) : Int) by omega)
          obtain ⟨t, ht, rfl⟩ := nI_get (show 0 ≤ z.toInt by omega) (show z.toInt < ((100 : Nat) : Int) by omega)
          rw [jn_nI (show p < 2 ^ 31 by omega), jn_nI (show f < 2 ^ 31 by omega), jn_nI (show t < 2 ^ 31 by omega)]
          refine ⟨jx_w1 (jx_w1 (jx_w1 (jx_w1 m 46 nc (nI p)) 47 nc (nI f)) 48 nc (nI t)) 38 13 (nI (nc + 1)), (((sm_w1 (by unfold wCkF; omega)).w1 (by unfold wCkF; omega)).w1 (by unfold wCkF; omega)).w1 (by unfold wCkF; omega), Or.inl ⟨⟨hx, hy, hz, hn⟩, ?_, w1_same _ _ _ _, fun k hk => ?_⟩⟩
          · simp [s_pl_t hx, s_wi_t (lo := 0) (hi := 999) hy, s_wi_t (lo := 1) (hi := 99) hz, hb.1, q1, in_nI hn (show 6 < 2 ^ 31 by omega), nI_cl (show nc < 2 ^ 31 by omega), w1_rd, nI_1]
          · by_cases e : k = nc
            · subst e
              simp only [upT_s]
              simp [w1_rd]
            · have := hb.2 k (by omega)
              simp only [upT_n e]
              simp [w1_rd, e, this]
        · refine ⟨m, sm.rf, Or.inr ⟨fun q => hn q.2.2.2, ?_, rfl⟩⟩
          have q1 : ¬ nI nc < 6 := nI_nlt (b := 6) (by omega) (by omega)
          simp [s_pl_t hx, s_wi_t (lo := 0) (hi := 999) hy, s_wi_t (lo := 1) (hi := 99) hz, hb.1, q1]
      · refine ⟨m, sm.rf, Or.inr ⟨fun q => hz q.2.2.1, ?_, rfl⟩⟩
        simp [s_pl_t hx, s_wi_t (lo := 0) (hi := 999) hy, s_wi_f (lo := 1) (hi := 99) hz, e_Watch_addClink_32]
    · refine ⟨m, sm.rf, Or.inr ⟨fun q => hy q.2.1, ?_, rfl⟩⟩
      simp [s_pl_t hx, s_wi_f (lo := 0) (hi := 999) hy, e_Watch_addClink_32]
  · refine ⟨m, sm.rf, Or.inr ⟨fun q => hx q.1, ?_, rfl⟩⟩
    simp [s_pl_f hx, e_Watch_addClink_32]
theorem M_clink (hb : clkM m nc X) (gb : gClk nc X) (x y z : Int32) : ∃ m', sm wCkM m m' ∧
    ((cCk x y z nc ∧ f_M_clink x y z m = some (nI (nc + 1), m') ∧ clkM m' (nc + 1) (upT X nc (jn x) (jn y) (jn z) 0)) ∨ (¬ cCk x y z nc ∧ f_M_clink x y z m = some (-1, m') ∧ m' = jx_w1 m 63 0 0)) := by
  have hn6 := gb.1
  have s1 : sm wCkM m (jx_w1 m 63 0 0) := sm_w1 (by unfold wCkM; omega)
  rw [e_M_clink]
  try dsimp only
  by_cases hx : 0 ≤ x.toInt ∧ x.toInt < 10
  · by_cases hy : 0 ≤ y.toInt ∧ y.toInt ≤ 999
    · by_cases hz : 1 ≤ z.toInt ∧ z.toInt ≤ 99
      · by_cases hn : nc < 6
        · have q1 : ¬ nI nc = 6 := fun z => by have := (nI_eq (b := 6) (by omega) (by omega)).mp z; omega
          obtain ⟨p, hp, rfl⟩ := nI_get hx.1 (show x.toInt < ((10 : Nat) : Int) from hx.2)
          obtain ⟨f, hf, rfl⟩ := nI_get hy.1 (show y.toInt < ((1000 : Nat) : Int) by omega)
          obtain ⟨t, ht, rfl⟩ := nI_get (show 0 ≤ z.toInt by omega) (show z.toInt < ((100 : Nat) : Int) by omega)
          rw [jn_nI (show p < 2 ^ 31 by omega), jn_nI (show f < 2 ^ 31 by omega), jn_nI (show t < 2 ^ 31 by omega)]
          refine ⟨jx_w1 (jx_w1 (jx_w1 (jx_w1 (jx_w1 m 63 0 0) 99 nc (nI p)) 100 nc (nI f)) 101 nc (nI t)) 63 52 (nI (nc + 1)), (((s1.w1 (by unfold wCkM; omega)).w1 (by unfold wCkM; omega)).w1 (by unfold wCkM; omega)).w1 (by unfold wCkM; omega), Or.inl ⟨⟨hx, hy, hz, hn⟩, ?_, w1_same _ _ _ _, fun k hk => ?_⟩⟩
          · simp [s_mpl_t hx, s_minute, jb_t hy, s_in_t (lo := 1) (hi := 99) hz, w1_rd, hb.1, q1, in_nI hn (show 6 < 2 ^ 31 by omega), nI_cl (show nc < 2 ^ 31 by omega), nI_1]
          · by_cases e : k = nc
            · subst e
              simp only [upT_s]
              simp [w1_rd]
            · have := hb.2 k (by omega)
              simp only [upT_n e]
              simp [w1_rd, e, this]
        · refine ⟨_, s1, Or.inr ⟨fun q => hn q.2.2.2, ?_, rfl⟩⟩
          have q1 : nI nc = 6 := by rw [show nc = 6 by omega]; rfl
          simp [s_mpl_t hx, s_minute, jb_t hy, s_in_t (lo := 1) (hi := 99) hz, w1_rd, hb.1, q1, e_M_clink_40]
      · refine ⟨_, s1, Or.inr ⟨fun q => hz q.2.2.1, ?_, rfl⟩⟩
        simp [s_mpl_t hx, s_minute, jb_t hy, s_in_f (lo := 1) (hi := 99) hz, e_M_clink_40]
    · refine ⟨_, s1, Or.inr ⟨fun q => hy q.2.1, ?_, rfl⟩⟩
      simp [s_mpl_t hx, s_minute, jb_f hy, e_M_clink_40]
  · refine ⟨_, s1, Or.inr ⟨fun q => hx q.1, ?_, rfl⟩⟩
    simp [s_mpl_f hx, e_M_clink_40]
end WATCH
