/-! the model reads the rule's text -/
def qM (tl : Nat) (tx : Nat → Nat) (e : Nat) (m : jx_Mem) (p k : Nat) (o : List Nat) : Prop :=
  m.1 63 24 = nI p ∧ m.1 63 26 = nI k ∧ m.1 63 25 = nI e ∧ (m.1 78 1 = nI o.length ∧ ∀ i, i < o.length → m.1 77 (48 + i) = nI (o.getD i 0)) ∧ (∀ i, i < tl → m.1 80 i = nI (tx i)) ∧ e ≤ tl ∧ tl ≤ 60 ∧ e ≤ 40 ∧ ∀ i, tx i < 256
def wMu (a k : Nat) : Prop := (a = 63 ∧ (k = 24 ∨ k = 26)) ∨ (a = 78 ∧ k = 1) ∨ (a = 77 ∧ 48 ≤ k)
def scn (ch : Nat → Nat) (c : Nat) : Nat → Nat → Option Nat
  | _, 0 => none
  | i, j + 1 => if ch i = c then some i else scn ch c (i + 1) j
section READM
variable {m m' : jx_Mem} {tl : Nat} {tx : Nat → Nat} {e p k : Nat} {o : List Nat}
theorem scan {q n : Nat} {ch : Nat → Nat} {fl : Int32 → jx_Mem → Option (Int32 × jx_Mem)} (h : qM tl tx e m p k o) (hp : p ≤ e) (hn : n ≤ 6) (hch : ∀ i, i < n → jx_chr q (nI i) = nI (ch i) ∧ ch i < 256)
    (he : ∀ x, fl x m = if decide (nI n ≤ x) = true then (f_M_among_46 m) else (if decide ((m.1 63 25) ≤ (m.1 63 24)) = true then (f_M_among_46 m) else (bif jx_in x n then bif jx_in (m.1 63 24) 60 then if decide (¬ (jx_chr q x) = (m.1 80 (m.1 63 24).toNatClampNeg)) = true then (fl (x + 1) m) else (some (x, m)) else none else none))) : fl 0 m = some (oI (if p < e then scn ch (tx p) 0 n else none), m) := by
  obtain ⟨h1, h2, h3, h4, h5, h6, h7, h8, h9⟩ := h
  have key : ∀ j i, i + j = n → fl (nI i) m = some (oI (if p < e then scn ch (tx p) i j else none), m) := by
    intro j
    induction j with
    | zero =>
      intro i hi
      have : i = n := by omega
      subst this
      rw [he, e_M_among_46]
      refine (ifp (nI_le (Nat.le_refl _) (by omega))).trans ?_
      split <;> rfl
    | succ j ih =>
      intro i hi
      rw [he, e_M_among_46, h1, h3]
      refine (ifn (nI_ge (a := i) (b := n) (by omega) (by omega))).trans ?_
      by_cases c : p < e
      · rw [if_pos c]
        refine (ifn (nI_ge (a := p) (b := e) c (by omega))).trans ?_
        rw [in_nI (show i < n by omega) (by omega), in_nI (show p < 60 by omega) (by omega), cond_true, cond_true, nI_cl (by omega), h5 p (by omega), (hch i (by omega)).1]
        have hc := (hch i (by omega)).2
        have hx := h9 p
        show _ = some (oI (if ch i = tx p then some i else scn ch (tx p) (i + 1) j), m)
        by_cases d : ch i = tx p
        · rw [if_pos d]
          exact ifnp (by rw [d])
        · rw [if_neg d]
          refine (ifnn (fun z => d ((nI_eq (by omega) (by omega)).mp z))).trans ?_
          rw [nI_1, ih (i + 1) (by omega), if_pos c]
      · rw [if_neg c]
        exact ifp (nI_le (a := e) (b := p) (by omega) (by omega))
  exact key n 0 (by omega)
def chL (l : List Nat) (i : Nat) : Nat := l.getD i 0
theorem am_900 (h : qM tl tx e m p k o) (hp : p ≤ e) : f_M_among_r900 m = some (oI (if p < e ∧ sgX (tx p) < 6 then some (sgX (tx p)) else none), m) := by
  rw [e_M_among_r900, scan (fl := f_M_among_2_r900) (q := 0) (n := 6) (ch := chL [108, 117, 110, 102, 119, 107]) h hp (by omega) (by
    intro i hi
    rcases (show i = 0 ∨ i = 1 ∨ i = 2 ∨ i = 3 ∨ i = 4 ∨ i = 5 by omega) with rfl | rfl | rfl | rfl | rfl | rfl <;> exact ⟨by decide, by decide⟩) (fun x => e_M_among_2_r900 x m)]
  have hs : ∀ c, scn (chL [108, 117, 110, 102, 119, 107]) c 0 6 = if sgX c < 6 then some (sgX c) else none := by
    intro c
    show (if 108 = c then some 0 else if 117 = c then some 1 else if 110 = c then some 2 else if 102 = c then some 3 else if 119 = c then some 4 else if 107 = c then some 5 else none) = _
    unfold sgX
    repeat' split
    all_goals first | rfl | omega
  rw [hs]
  by_cases c : p < e
  · by_cases d : sgX (tx p) < 6
    · rw [if_pos c, if_pos d, if_pos ⟨c, d⟩]
    · rw [if_pos c, if_neg d, if_neg (fun z => d z.2)]
  · rw [if_neg c, if_neg (fun z => c z.1)]
theorem am_903 (h : qM tl tx e m p k o) (hp : p ≤ e) : f_M_among_r903 m = some (oI (if p < e then (if tx p = 33 then some 0 else if tx p = 45 then some 1 else none) else none), m) := by
  rw [e_M_among_r903, scan (fl := f_M_among_2_r903) (q := 3) (n := 2) (ch := chL [33, 45]) h hp (by omega) (by
    intro i hi
    rcases (show i = 0 ∨ i = 1 by omega) with rfl | rfl <;> exact ⟨by decide, by decide⟩) (fun x => e_M_among_2_r903 x m)]
  have hs : ∀ c, scn (chL [33, 45]) c 0 2 = if c = 33 then some 0 else if c = 45 then some 1 else none := by
    intro c
    show (if 33 = c then some 0 else if 45 = c then some 1 else none) = _
    repeat' split
    all_goals first | rfl | omega
  rw [hs]
theorem am_901 (h : qM tl tx e m p k o) (hp : p ≤ e) : f_M_among_r901 m = some (oI (if p < e ∧ tx p = 40 then some 0 else none), m) := by
  rw [e_M_among_r901, scan (fl := f_M_among_2_r901) (q := 1) (n := 1) (ch := chL [40]) h hp (by omega) (by
    intro i hi
    rcases (show i = 0 by omega) with rfl; exact ⟨by decide, by decide⟩) (fun x => e_M_among_2_r901 x m)]
  have hs : ∀ c, scn (chL [40]) c 0 1 = if c = 40 then some 0 else none := by
    intro c
    show (if 40 = c then some 0 else none) = _
    repeat' split
    all_goals first | rfl | omega
  rw [hs]
  by_cases c : p < e
  · by_cases d : tx p = 40
    · rw [if_pos c, if_pos d, if_pos ⟨c, d⟩]
    · rw [if_pos c, if_neg d, if_neg (fun z => d z.2)]
  · rw [if_neg c, if_neg (fun z => c z.1)]
theorem am_902 (h : qM tl tx e m p k o) (hp : p ≤ e) : f_M_among_r902 m = some (oI (if p < e ∧ tx p = 41 then some 0 else none), m) := by
  rw [e_M_among_r902, scan (fl := f_M_among_2_r902) (q := 2) (n := 1) (ch := chL [41]) h hp (by omega) (by
    intro i hi
    rcases (show i = 0 by omega) with rfl; exact ⟨by decide, by decide⟩) (fun x => e_M_among_2_r902 x m)]
  have hs : ∀ c, scn (chL [41]) c 0 1 = if c = 41 then some 0 else none := by
    intro c
    show (if 41 = c then some 0 else none) = _
    repeat' split
    all_goals first | rfl | omega
  rw [hs]
  by_cases c : p < e
  · by_cases d : tx p = 41
    · rw [if_pos c, if_pos d, if_pos ⟨c, d⟩]
    · rw [if_pos c, if_neg d, if_neg (fun z => d z.2)]
  · rw [if_neg c, if_neg (fun z => c z.1)]
/-- a search for an operator of a rank -/
def amO (tx : Nat → Nat) (e r p : Nat) (v : Int32) : Prop := (v < 0 ↔ ¬ (p < e ∧ lvB (tx p) = r + 1))
theorem amO_of {x : Option Nat} {r : Nat} (hx : ∀ i, x = some i → i < 6) (h : x = none ↔ ¬ (p < e ∧ lvB (tx p) = r + 1)) : amO tx e r p (oI x) := by
  unfold amO
  rw [← h]
  cases x with
  | none => exact ⟨fun _ => rfl, fun _ => by decide⟩
  | some i =>
    have := hx i rfl
    refine ⟨fun z => absurd ((nI_ltI (a := i) (b := 0) (by omega) (by omega)).mp z) (by omega), fun z => by cases z⟩
theorem amO_iff {x : Option Nat} {r : Nat} (h : x = none ↔ ¬ lvB (tx p) = r + 1) : (if p < e then x else none) = none ↔ ¬ (p < e ∧ lvB (tx p) = r + 1) := by
  by_cases c : p < e
  · rw [if_pos c, h]
    exact ⟨fun z q => z q.2, fun z q => z ⟨c, q⟩⟩
  · rw [if_neg c]
    exact ⟨fun _ z => c z.1, fun _ => rfl⟩
theorem lvB_is (c l : Nat) : (lvB c = l + 1) ↔ ((c = 124 ∧ l = 0) ∨ (c = 38 ∧ l = 1) ∨ ((c = 60 ∨ c = 61 ∨ c = 62) ∧ l = 2) ∨ ((c = 43 ∨ c = 45) ∧ l = 3) ∨ (c = 42 ∧ l = 4)) := by
  unfold lvB
  repeat' split
  all_goals omega
theorem am_904 (h : qM tl tx e m p k o) (hp : p ≤ e) : ∃ v, f_M_among_r904 m = some (v, m) ∧ amO tx e 0 p v := by
  refine ⟨_, (e_M_among_r904 m).trans (scan (fl := f_M_among_2_r904) (q := 4) (n := 1) (ch := chL [124]) h hp (by omega) (by
    intro i hi
    rcases (show i = 0 by omega) with rfl; exact ⟨by decide, by decide⟩) (fun x => e_M_among_2_r904 x m)), ?_⟩
  have hs : ∀ c, scn (chL [124]) c 0 1 = if 124 = c then some 0 else none := fun c => rfl
  rw [hs]
  refine amO_of (fun i hi => ?_) ?_
  · repeat' split at hi
    all_goals first | cases hi; omega | cases hi
  · refine amO_iff ?_
    rw [lvB_is]
    repeat' split
    all_goals first | exact ⟨(fun z => by cases z), fun z => (z (by omega)).elim⟩ | exact ⟨fun _ z => by omega, fun _ => rfl⟩
theorem am_905 (h : qM tl tx e m p k o) (hp : p ≤ e) : ∃ v, f_M_among_r905 m = some (v, m) ∧ amO tx e 1 p v := by
  refine ⟨_, (e_M_among_r905 m).trans (scan (fl := f_M_among_2_r905) (q := 5) (n := 1) (ch := chL [38]) h hp (by omega) (by
    intro i hi
    rcases (show i = 0 by omega) with rfl; exact ⟨by decide, by decide⟩) (fun x => e_M_among_2_r905 x m)), ?_⟩
  have hs : ∀ c, scn (chL [38]) c 0 1 = if 38 = c then some 0 else none := fun c => rfl
  rw [hs]
  refine amO_of (fun i hi => ?_) ?_
  · repeat' split at hi
    all_goals first | cases hi; omega | cases hi
  · refine amO_iff ?_
    rw [lvB_is]
    repeat' split
    all_goals first | exact ⟨(fun z => by cases z), fun z => (z (by omega)).elim⟩ | exact ⟨fun _ z => by omega, fun _ => rfl⟩
theorem am_908 (h : qM tl tx e m p k o) (hp : p ≤ e) : ∃ v, f_M_among_r908 m = some (v, m) ∧ amO tx e 4 p v := by
  refine ⟨_, (e_M_among_r908 m).trans (scan (fl := f_M_among_2_r908) (q := 8) (n := 1) (ch := chL [42]) h hp (by omega) (by
    intro i hi
    rcases (show i = 0 by omega) with rfl; exact ⟨by decide, by decide⟩) (fun x => e_M_among_2_r908 x m)), ?_⟩
  have hs : ∀ c, scn (chL [42]) c 0 1 = if 42 = c then some 0 else none := fun c => rfl
  rw [hs]
  refine amO_of (fun i hi => ?_) ?_
  · repeat' split at hi
    all_goals first | cases hi; omega | cases hi
  · refine amO_iff ?_
    rw [lvB_is]
    repeat' split
    all_goals first | exact ⟨(fun z => by cases z), fun z => (z (by omega)).elim⟩ | exact ⟨fun _ z => by omega, fun _ => rfl⟩
theorem am_907 (h : qM tl tx e m p k o) (hp : p ≤ e) : ∃ v, f_M_among_r907 m = some (v, m) ∧ amO tx e 3 p v := by
  refine ⟨_, (e_M_among_r907 m).trans (scan (fl := f_M_among_2_r907) (q := 7) (n := 2) (ch := chL [43, 45]) h hp (by omega) (by
    intro i hi
    rcases (show i = 0 ∨ i = 1 by omega) with rfl | rfl <;> exact ⟨by decide, by decide⟩) (fun x => e_M_among_2_r907 x m)), ?_⟩
  have hs : ∀ c, scn (chL [43, 45]) c 0 2 = if 43 = c then some 0 else if 45 = c then some 1 else none := fun c => rfl
  rw [hs]
  refine amO_of (fun i hi => ?_) ?_
  · repeat' split at hi
    all_goals first | cases hi; omega | cases hi
  · refine amO_iff ?_
    rw [lvB_is]
    repeat' split
    all_goals first | exact ⟨(fun z => by cases z), fun z => (z (by omega)).elim⟩ | exact ⟨fun _ z => by omega, fun _ => rfl⟩
theorem am_906 (h : qM tl tx e m p k o) (hp : p ≤ e) : ∃ v, f_M_among_r906 m = some (v, m) ∧ amO tx e 2 p v := by
  refine ⟨_, (e_M_among_r906 m).trans (scan (fl := f_M_among_2_r906) (q := 6) (n := 3) (ch := chL [60, 62, 61]) h hp (by omega) (by
    intro i hi
    rcases (show i = 0 ∨ i = 1 ∨ i = 2 by omega) with rfl | rfl | rfl <;> exact ⟨by decide, by decide⟩) (fun x => e_M_among_2_r906 x m)), ?_⟩
  have hs : ∀ c, scn (chL [60, 62, 61]) c 0 3 = if 60 = c then some 0 else if 62 = c then some 1 else if 61 = c then some 2 else none := fun c => rfl
  rw [hs]
  refine amO_of (fun i hi => ?_) ?_
  · repeat' split at hi
    all_goals first | cases hi; omega | cases hi
  · refine amO_iff ?_
    rw [lvB_is]
    repeat' split
    all_goals first | exact ⟨(fun z => by cases z), fun z => (z (by omega)).elim⟩ | exact ⟨fun _ z => by omega, fun _ => rfl⟩
theorem s_mdig (h : qM tl tx e m p k o) (hp : p ≤ e) : f_M_isDigit m = some (jb (p < e ∧ 48 ≤ tx p ∧ tx p ≤ 57), m) := by
  obtain ⟨h1, h2, h3, h4, h5, h6, h7, h8, h9⟩ := h
  rw [e_M_isDigit, e_M_isDigit_37, h1, h3]
  have f0 : f_M_isDigit_38 0 m = some (0, m) := by rw [e_M_isDigit_38]; rfl
  have f1 : f_M_isDigit_38 1 m = some (1, m) := by rw [e_M_isDigit_38]; rfl
  by_cases c : p < e
  · refine (ifn (nI_ge (a := p) (b := e) c (by omega))).trans ?_
    rw [in_nI (show p < 60 by omega) (by omega), cond_true, nI_cl (by omega), h5 p (by omega), s_min, Option.bind_some]
    have hx := h9 p
    have ei : (nI (tx p)).toInt64.toInt = (tx p : Int) := by rw [il_toInt, nI_toInt (by omega)]
    rw [ei]
    have e48 : ((48 : Int64).toInt ≤ (tx p : Int) ∧ (tx p : Int) ≤ (57 : Int64).toInt) ↔ (48 ≤ tx p ∧ tx p ≤ 57) := by
      show ((48 : Int) ≤ (tx p : Int) ∧ (tx p : Int) ≤ 57) ↔ _
      omega
    by_cases d : 48 ≤ tx p ∧ tx p ≤ 57
    · rw [jb_t (e48.mpr d), jb_t ⟨c, d⟩]
      refine (ifn ne10).trans ?_
      rw [e_M_isDigit_38]
      rfl
    · rw [jb_f (fun z => d (e48.mp z)), jb_f (fun z => d z.2)]
      refine (ifp eq00).trans ?_
      rw [e_M_isDigit_37, f0]
  · rw [jb_f (fun z => c z.1), f0]
    exact ifp (nI_le (a := e) (b := p) (by omega) (by omega))
theorem s_marks (h : qM tl tx e m p k o) (hl : o.length < 48) (c : Nat) : ∃ m', f_M_marks (nI c) m = some m' ∧ qM tl tx e m' p k (o ++ [c]) ∧ sm wMu m m' := by
  obtain ⟨h1, h2, h3, h4, h5, h6⟩ := h
  have el : (o ++ [c]).length = o.length + 1 := by rw [List.length_append]; rfl
  refine ⟨jx_w1 (jx_w1 m 77 (48 + o.length) (nI c)) 78 1 (nI (o.length + 1)), ?_, ⟨h1, h2, h3, ⟨by rw [el]; rfl, fun i hi => ?_⟩, h5, h6⟩, (sm_w1 (by unfold wMu; omega)).w1 (by unfold wMu; omega)⟩
  · rw [e_M_marks, show (1 : Int32).toNatClampNeg = 1 from rfl, show jx_in (1 : Int32) 2 = true from rfl, cond_true, cond_true, h4.1, show (48 : Int32) + nI o.length = nI (48 + o.length) from nI_add 48 o.length, in_nI (show 48 + o.length < 96 by omega) (by omega), nI_cl (by omega)]
    show some (jx_w1 (jx_w1 m 77 (48 + o.length) (nI c)) 78 1 (m.1 78 1 + 1)) = _
    rw [h4.1, nI_1]
  · rw [el] at hi
    rw [getD_snoc _ _ _ hi, w1_rd, if_neg (by omega), w1_rd]
    by_cases d : i = o.length
    · rw [if_pos ⟨rfl, by omega⟩, if_pos d]
    · rw [if_neg (by omega), if_neg d]
      exact h4.2 i (by omega)
theorem qM_p (h : qM tl tx e m p k o) (p' : Nat) : qM tl tx e (jx_w1 m 63 24 (nI p')) p' k o :=
  ⟨rfl, h.2.1, h.2.2.1, h.2.2.2.1, h.2.2.2.2.1, h.2.2.2.2.2⟩
theorem qM_k (h : qM tl tx e m p k o) (k' : Nat) : qM tl tx e (jx_w1 m 63 26 (nI k')) p k' o :=
  ⟨h.1, rfl, h.2.2.1, h.2.2.2.1, h.2.2.2.2.1, h.2.2.2.2.2⟩
end READM
