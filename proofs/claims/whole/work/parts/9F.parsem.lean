/-! the model's descent is the reading in numbers -/
section PARSEM
variable {tl : Nat} {tx : Nat → Nat} {e : Nat}
def okP (tl : Nat) (tx : Nat → Nat) (e r : Nat) (c : Option Bool) (m : jx_Mem) (p k : Nat) (o : List Nat) (x : Option (Int32 × jx_Mem)) : Prop :=
  ∃ b p' k' o' m', x = some (jb (b = true), m') ∧ qM tl tx e m' p' k' o' ∧ Pr tx e r c p k o b p' k' o' ∧ sm wMu m m'
theorem okP_eq {r : Nat} {c : Option Bool} {m : jx_Mem} {p k : Nat} {o : List Nat} {x y : Option (Int32 × jx_Mem)} (h : x = y) (hy : okP tl tx e r c m p k o y) : okP tl tx e r c m p k o x := by rw [h]; exact hy
theorem Pr_wf {r : Nat} {c : Option Bool} {p k : Nat} {o : List Nat} {b : Bool} {p' k' : Nat} {o' : List Nat} (h : Pr tx e r c p k o b p' k' o') (hp : p ≤ e) : p ≤ p' ∧ p' ≤ e ∧ o'.length + p ≤ o.length + p' ∧ (b = true → k' = k) := by
  obtain ⟨a, b, c, d⟩ := (h _ (wf_clo tx e)) hp
  exact ⟨a, b, c, fun z => (d z).1⟩
theorem f138 (lev : Nat) (b : Bool) (m : jx_Mem) : f_M_ranked_138 (lev + 1) (jb (b = true)) m = some (jb (b = true), m) := by
  rw [e_M_ranked_138, jb_01]
  rfl
theorem jb_true : jb (true = true) = 1 := rfl
theorem jb_false : jb (false = true) = 0 := rfl
theorem lp_gen {lev r : Nat} (hr : r < 5)
    (hA : ∀ m p k o, qM tl tx e m p k o → p ≤ e → k ≤ 5 → o.length ≤ p → 8 * (5 - k) + (e - p) + (6 - (r + 1)) + 2 ≤ lev → okP tl tx e (r + 1) none m p k o (f_M_ranked lev (nI (r + 1)) m))
    (L : Int32 → Int32 → jx_Mem → Option (Int32 × jx_Mem)) (L' : Int32 → jx_Mem → Option (Int32 × jx_Mem)) (am : jx_Mem → Option (Int32 × jx_Mem))
    (ham : ∀ m p k o, qM tl tx e m p k o → p ≤ e → ∃ v, am m = some (v, m) ∧ amO tx e r p v)
    (hL : ∀ x3 x4 m, L x3 x4 m = if decide (x3 = 0) = true then (f_M_ranked_138 (lev + 1) x3 m) else (if decide (x4 = 0) = true then (f_M_ranked_138 (lev + 1) x3 m) else ((am m).bind (fun p1 => if decide (p1.1 < 0) = true then (f_M_ranked_138 (lev + 1) x3 p1.2) else (bif jx_in (p1.2.1 63 24) 60 then let m1 := jx_w1 p1.2 63 24 ((p1.2.1 63 24) + 1); (f_M_ranked lev (nI r + 1) m1).bind (fun p2 => if decide (p2.1 = 0) = true then (L' p2.1 p2.2) else ((f_M_marks (2000 + (p1.2.1 80 (p1.2.1 63 24).toNatClampNeg)) p2.2).bind (fun p3 => L' p2.1 p3))) else none)))))
    (hL' : ∀ x3 m, L' x3 m = L x3 (jb (decide (r ≠ 2) = true)) m) :
    ∀ n m p k o more, e - p ≤ n → qM tl tx e m p k o → p ≤ e → k ≤ 5 → o.length ≤ p → 8 * (5 - k) + (e - p) + (6 - r) + 2 ≤ lev + 1 → okP tl tx e r (some more) m p k o (L 1 (jb (more = true)) m) := by
  intro n
  induction n with
  | zero =>
    intro m p k o more hn h hp hk ho hlev
    have stop : ∀ c : Bool, (c = false ∨ ¬ (p < e ∧ lvB (tx p) = r + 1)) → okP tl tx e r (some c) m p k o (f_M_ranked_138 (lev + 1) 1 m) := fun c hc => ⟨true, p, k, o, m, f138 lev true m, h, fun Q hQ => hQ.2.2.2.2.2.2.2.2.2.2.1 r c p k o hc, sm.rf⟩
    have st := stop more (Or.inr (by omega))
    refine okP_eq ((hL _ _ _).trans (ifn ne10)) ?_
    cases more with
    | false => exact okP_eq (ifp rfl) st
    | true =>
      refine okP_eq (ifn ne10) ?_
      obtain ⟨v, e1, e2⟩ := ham m p k o h hp
      rw [e1, Option.bind_some]
      exact okP_eq (ifp (e2.mpr (by omega))) st
  | succ n ih =>
    intro m p k o more hn h hp hk ho hlev
    have stop : ∀ c : Bool, (c = false ∨ ¬ (p < e ∧ lvB (tx p) = r + 1)) → okP tl tx e r (some c) m p k o (f_M_ranked_138 (lev + 1) 1 m) := fun c hc => ⟨true, p, k, o, m, f138 lev true m, h, fun Q hQ => hQ.2.2.2.2.2.2.2.2.2.2.1 r c p k o hc, sm.rf⟩
    refine okP_eq ((hL _ _ _).trans (ifn ne10)) ?_
    cases more with
    | false => exact okP_eq (ifp rfl) (stop false (Or.inl rfl))
    | true =>
      refine okP_eq (ifn ne10) ?_
      obtain ⟨v, e1, e2⟩ := ham m p k o h hp
      rw [e1, Option.bind_some]
      by_cases c : p < e ∧ lvB (tx p) = r + 1
      · refine okP_eq (ifn (fun z => (e2.mp z) c)) ?_
        have e40 := h.2.2.2.2.2.2.2.1
        have hx := h.2.2.2.2.2.2.2.2 p
        have etl := h.2.2.2.2.2.1
        show okP tl tx e r (some true) m p k o (bif jx_in (m.1 63 24) 60 then (f_M_ranked lev (nI r + 1) (jx_w1 m 63 24 (m.1 63 24 + 1))).bind (fun p2 => if decide (p2.1 = 0) = true then (L' p2.1 p2.2) else ((f_M_marks (2000 + (m.1 80 (m.1 63 24).toNatClampNeg)) p2.2).bind (fun p3 => L' p2.1 p3))) else none)
        rw [h.1, in_nI (show p < 60 by omega) (by omega), cond_true, nI_cl (by omega), h.2.2.2.2.1 p (by omega), nI_1, nI_1, show (2000 : Int32) + nI (tx p) = nI (2000 + tx p) from nI_add 2000 (tx p)]
        have s1 : sm wMu m (jx_w1 m 63 24 (nI (p + 1))) := sm_w1 (by unfold wMu; omega)
        obtain ⟨b1, p1, k1, o1, m1, r1, r2, r3, r4⟩ := hA _ (p + 1) k o (qM_p h (p + 1)) (by omega) hk (by omega) (by omega)
        have w := Pr_wf r3 (by omega)
        rw [r1, Option.bind_some]
        cases b1 with
        | false =>
          refine ⟨false, p1, k1, o1, m1, ?_, r2, fun Q hQ => hQ.2.2.2.2.2.2.2.2.2.2.2.2 r p k o p1 k1 o1 c.1 c.2 (r3 Q hQ), s1.tr r4⟩
          refine (ifp rfl).trans ((hL' _ _).trans ((hL _ _ _).trans ((ifp rfl).trans ?_)))
          exact f138 lev false m1
        | true =>
          have wk := w.2.2.2 rfl
          subst wk
          obtain ⟨m2, t1, t2, t3⟩ := s_marks r2 (by omega) (2000 + tx p)
          have el : (o1 ++ [2000 + tx p]).length = o1.length + 1 := by rw [List.length_append]; rfl
          obtain ⟨b2, p2, k2, o2, m3, u1, u2, u3, u4⟩ := ih m2 p1 k1 (o1 ++ [2000 + tx p]) (decide (r ≠ 2)) (by omega) t2 w.2.1 hk (by rw [el]; omega) (by omega)
          refine ⟨b2, p2, k2, o2, m3, ?_, u2, fun Q hQ => hQ.2.2.2.2.2.2.2.2.2.2.2.1 r p k1 o p1 k1 o1 b2 p2 k2 o2 c.1 c.2 (r3 Q hQ) (u3 Q hQ), ((s1.tr r4).tr t3).tr u4⟩
          refine (ifn ne10).trans ?_
          rw [t1, Option.bind_some, hL']
          exact u1
      · exact okP_eq (ifp (e2.mpr c)) (stop true (Or.inr c))
theorem rk_gen {lev r : Nat} (hr : r < 5)
    (hA : ∀ m p k o, qM tl tx e m p k o → p ≤ e → k ≤ 5 → o.length ≤ p → 8 * (5 - k) + (e - p) + (6 - (r + 1)) + 2 ≤ lev → okP tl tx e (r + 1) none m p k o (f_M_ranked lev (nI (r + 1)) m))
    (L : Int32 → Int32 → jx_Mem → Option (Int32 × jx_Mem)) (L' : Int32 → jx_Mem → Option (Int32 × jx_Mem)) (am : jx_Mem → Option (Int32 × jx_Mem))
    (ham : ∀ m p k o, qM tl tx e m p k o → p ≤ e → ∃ v, am m = some (v, m) ∧ amO tx e r p v)
    (hL : ∀ x3 x4 m, L x3 x4 m = if decide (x3 = 0) = true then (f_M_ranked_138 (lev + 1) x3 m) else (if decide (x4 = 0) = true then (f_M_ranked_138 (lev + 1) x3 m) else ((am m).bind (fun p1 => if decide (p1.1 < 0) = true then (f_M_ranked_138 (lev + 1) x3 p1.2) else (bif jx_in (p1.2.1 63 24) 60 then let m1 := jx_w1 p1.2 63 24 ((p1.2.1 63 24) + 1); (f_M_ranked lev (nI r + 1) m1).bind (fun p2 => if decide (p2.1 = 0) = true then (L' p2.1 p2.2) else ((f_M_marks (2000 + (p1.2.1 80 (p1.2.1 63 24).toNatClampNeg)) p2.2).bind (fun p3 => L' p2.1 p3))) else none)))))
    (hL' : ∀ x3 m, L' x3 m = L x3 (jb (decide (r ≠ 2) = true)) m)
    (m : jx_Mem) (p k : Nat) (o : List Nat) (h : qM tl tx e m p k o) (hp : p ≤ e) (hk : k ≤ 5) (ho : o.length ≤ p) (hlev : 8 * (5 - k) + (e - p) + (6 - r) + 2 ≤ lev + 1) : okP tl tx e r none m p k o ((f_M_ranked lev (nI r + 1) m).bind (fun p1 => L p1.1 1 p1.2)) := by
  obtain ⟨b1, p1, k1, o1, m1, r1, r2, r3, r4⟩ := hA m p k o h hp hk ho (by omega)
  have w := Pr_wf r3 hp
  rw [nI_1, r1, Option.bind_some]
  cases b1 with
  | false =>
    refine ⟨false, p1, k1, o1, m1, ?_, r2, fun Q hQ => hQ.2.2.2.2.2.2.2.2.2.1 r p k o p1 k1 o1 hr (r3 Q hQ), r4⟩
    refine (hL _ _ _).trans ((ifp rfl).trans ?_)
    exact f138 lev false m1
  | true =>
    have wk := w.2.2.2 rfl
    subst wk
    obtain ⟨b2, p2, k2, o2, m3, u1, u2, u3, u4⟩ := lp_gen hr hA L L' am ham hL hL' e m1 p1 k1 o1 true (by omega) r2 w.2.1 hk (by omega) (by omega)
    exact ⟨b2, p2, k2, o2, m3, u1, u2, fun Q hQ => hQ.2.2.2.2.2.2.2.2.1 r p k1 o p1 k1 o1 b2 p2 k2 o2 hr (r3 Q hQ) (u3 Q hQ), r4.tr u4⟩
theorem nv_s (t : Nat → Nat) (p d : Nat) : nv t p (d + 1) = nv t p d * 10 + (t (p + d) - 48) := rfl
theorem num_gen {lev p k : Nat} {o : List Nat} (hol : o.length ≤ p) (m0 : jx_Mem) : ∀ n d m, d + n = 3 → (∀ i, i < d → p + i < e ∧ (48 ≤ tx (p + i) ∧ tx (p + i) ≤ 57)) → p + d ≤ e → qM tl tx e m (p + d) k o → sm wMu m0 m → (1 ≤ d ∨ (p < e ∧ 48 ≤ tx p ∧ tx p ≤ 57)) → okP tl tx e 5 none m0 p k o (f_M_thing__11 (lev + 1) (nI (nv tx p d)) (nI d) m) := by
  have fin : ∀ d m, 1 ≤ d → d ≤ 3 → (∀ i, i < d → p + i < e ∧ (48 ≤ tx (p + i) ∧ tx (p + i) ≤ 57)) → (d = 3 ∨ ¬ (p + d < e ∧ (48 ≤ tx (p + d) ∧ tx (p + d) ≤ 57))) → qM tl tx e m (p + d) k o → sm wMu m0 m → okP tl tx e 5 none m0 p k o (f_M_thing__57 (lev + 1) (nI (nv tx p d)) m) := by
    intro d m h1 h3 hd hn h hs
    have e40 := h.2.2.2.2.2.2.2.1
    have := hd 0 (by omega)
    obtain ⟨m1, t1, t2, t3⟩ := s_marks h (by omega) (nv tx p d)
    refine ⟨true, p + d, k, o ++ [nv tx p d], m1, ?_, t2, fun Q hQ => hQ.2.2.1 p k o d h1 h3 hd hn, hs.tr t3⟩
    rw [e_M_thing__57, t1]
    rfl
  intro n
  induction n with
  | zero =>
    intro d m hdn hd hpe h hs _
    refine okP_eq ((e_M_thing__11 _ _ _ _).trans (ifp (nI_le (a := 3) (b := d) (by omega) (by omega)))) ?_
    exact fin d m (by omega) (by omega) hd (Or.inl (by omega)) h hs
  | succ n ih =>
    intro d m hdn hd hpe h hs h1
    refine okP_eq ((e_M_thing__11 _ _ _ _).trans (ifn (nI_ge (a := d) (b := 3) (by omega) (by omega)))) ?_
    rw [s_mdig h hpe, Option.bind_some]
    by_cases c : p + d < e ∧ (48 ≤ tx (p + d) ∧ tx (p + d) ≤ 57)
    · rw [jb_t c]
      refine okP_eq (ifn ne10) ?_
      have e40 := h.2.2.2.2.2.2.2.1
      have etl := h.2.2.2.2.2.1
      have vl : nv tx p (d + 1) < 1000 := nv_lt (by omega) (fun i hi => (by
        by_cases z : i < d
        · exact (hd i z).2
        · rw [show i = d by omega]; exact c.2))
      show okP tl tx e 5 none m0 p k o (bif jx_in (m.1 63 24) 60 then f_M_thing__11 (lev + 1) (((10 * nI (nv tx p d)) + (m.1 80 (m.1 63 24).toNatClampNeg)) - 48) (nI d + 1) (jx_w1 m 63 24 (m.1 63 24 + 1)) else none)
      rw [h.1, in_nI (show p + d < 60 by omega) (by omega), cond_true, nI_cl (by omega), h.2.2.2.2.1 (p + d) (by omega), nI_1, nI_1]
      have ev : (10 * nI (nv tx p d) + nI (tx (p + d))) - 48 = nI (nv tx p (d + 1)) := by
        rw [show (10 : Int32) * nI (nv tx p d) + nI (tx (p + d)) = nI (10 * nv tx p d + tx (p + d)) from nI_xi 10 _ _, show nI (10 * nv tx p d + tx (p + d)) - 48 = nI (10 * nv tx p d + tx (p + d) - 48) from pk_sub (show 48 ≤ 10 * nv tx p d + tx (p + d) by omega), nv_s]
        congr 1
        omega
      rw [ev]
      exact ih (d + 1) _ (by omega) (fun i hi => (by
        by_cases z : i < d
        · exact hd i z
        · rw [show i = d by omega]; exact c)) (by omega) (qM_p h (p + (d + 1))) (hs.w1 (by unfold wMu; omega)) (Or.inl (by omega))
    · rw [jb_f c]
      refine okP_eq (ifp eq00) ?_
      have d1 : 1 ≤ d := by
        rcases h1 with z | z
        · exact z
        · by_cases q : d = 0
          · subst q
            exact absurd z c
          · omega
      exact fin d m d1 (by omega) hd (Or.inr c) h hs
theorem parse_ok : ∀ lev,
    (∀ r m p k o, r ≤ 5 → qM tl tx e m p k o → p ≤ e → k ≤ 5 → o.length ≤ p → 8 * (5 - k) + (e - p) + (6 - r) + 2 ≤ lev → okP tl tx e r none m p k o (f_M_ranked lev (nI r) m)) ∧
    (∀ m p k o, qM tl tx e m p k o → p ≤ e → k ≤ 5 → o.length ≤ p → 8 * (5 - k) + (e - p) + 2 ≤ lev → okP tl tx e 5 none m p k o (f_M_ahead lev m)) ∧
    (∀ m p k o, qM tl tx e m p k o → p ≤ e → k ≤ 5 → o.length ≤ p → 8 * (5 - k) + (e - p) + 1 ≤ lev → ¬ (p < e ∧ (tx p = 33 ∨ tx p = 45)) → okP tl tx e 5 none m p k o (f_M_thing_ lev m)) := by
  intro lev
  induction lev with
  | zero =>
    refine ⟨fun r m p k o _ _ _ _ _ z => absurd z (by omega), fun m p k o _ _ _ _ z => absurd z (by omega), fun m p k o _ _ _ _ z => absurd z (by omega)⟩
  | succ lev ih =>
    obtain ⟨ihA, ihB, ihC⟩ := ih
    refine ⟨?_, ?_, ?_⟩
    · intro r m p k o hr h hp hk ho hlev
      have hA : ∀ r, r < 5 → ∀ m p k o, qM tl tx e m p k o → p ≤ e → k ≤ 5 → o.length ≤ p → 8 * (5 - k) + (e - p) + (6 - (r + 1)) + 2 ≤ lev → okP tl tx e (r + 1) none m p k o (f_M_ranked lev (nI (r + 1)) m) := fun r hr m p k o a b c d f => ihA (r + 1) m p k o (by omega) a b c d f
      rcases (show r = 0 ∨ r = 1 ∨ r = 2 ∨ r = 3 ∨ r = 4 ∨ r = 5 by omega) with rfl | rfl | rfl | rfl | rfl | rfl
      · refine okP_eq ((e_M_ranked _ _ _).trans ((ifnn (by decide)).trans ((ifnp (by decide)).trans (e_M_ranked_51_r904 lev (nI 0) m)))) ?_
        refine rk_gen (r := 0) (by omega) (hA 0 (by omega)) (f_M_ranked_63_r904 (lev + 1) (nI 0)) (f_M_ranked_123_r904 (lev + 1) (nI 0)) f_M_among_r904 (fun m p k o a b => am_904 a b) (fun x3 x4 m => e_M_ranked_63_r904 lev (nI 0) x3 x4 m) (fun x3 m => ?_) m p k o h hp hk ho hlev
        exact (e_M_ranked_123_r904 lev (nI 0) x3 m).trans ((ifn (by decide)).trans (e_M_ranked_133_r904 lev (nI 0) x3 1 m))
      · refine okP_eq ((e_M_ranked _ _ _).trans ((ifnn (by decide)).trans ((ifnn (by decide)).trans ((ifnp (by decide)).trans (e_M_ranked_51_r905 lev (nI 1) m))))) ?_
        refine rk_gen (r := 1) (by omega) (hA 1 (by omega)) (f_M_ranked_63_r905 (lev + 1) (nI 1)) (f_M_ranked_123_r905 (lev + 1) (nI 1)) f_M_among_r905 (fun m p k o a b => am_905 a b) (fun x3 x4 m => e_M_ranked_63_r905 lev (nI 1) x3 x4 m) (fun x3 m => ?_) m p k o h hp hk ho hlev
        exact (e_M_ranked_123_r905 lev (nI 1) x3 m).trans ((ifn (by decide)).trans (e_M_ranked_133_r905 lev (nI 1) x3 1 m))
      · refine okP_eq ((e_M_ranked _ _ _).trans ((ifnn (by decide)).trans ((ifnn (by decide)).trans ((ifnn (by decide)).trans ((ifnp (by decide)).trans (e_M_ranked_51_r906 lev (nI 2) m)))))) ?_
        refine rk_gen (r := 2) (by omega) (hA 2 (by omega)) (f_M_ranked_63_r906 (lev + 1) (nI 2)) (f_M_ranked_123_r906 (lev + 1) (nI 2)) f_M_among_r906 (fun m p k o a b => am_906 a b) (fun x3 x4 m => e_M_ranked_63_r906 lev (nI 2) x3 x4 m) (fun x3 m => ?_) m p k o h hp hk ho hlev
        exact (e_M_ranked_123_r906 lev (nI 2) x3 m).trans ((ifp (by decide)).trans (e_M_ranked_133_r906 lev (nI 2) x3 0 m))
      · refine okP_eq ((e_M_ranked _ _ _).trans ((ifnn (by decide)).trans ((ifnn (by decide)).trans ((ifnn (by decide)).trans ((ifnn (by decide)).trans ((ifnp (by decide)).trans (e_M_ranked_51_r907 lev (nI 3) m))))))) ?_
        refine rk_gen (r := 3) (by omega) (hA 3 (by omega)) (f_M_ranked_63_r907 (lev + 1) (nI 3)) (f_M_ranked_123_r907 (lev + 1) (nI 3)) f_M_among_r907 (fun m p k o a b => am_907 a b) (fun x3 x4 m => e_M_ranked_63_r907 lev (nI 3) x3 x4 m) (fun x3 m => ?_) m p k o h hp hk ho hlev
        exact (e_M_ranked_123_r907 lev (nI 3) x3 m).trans ((ifn (by decide)).trans (e_M_ranked_133_r907 lev (nI 3) x3 1 m))
      · refine okP_eq ((e_M_ranked _ _ _).trans ((ifnn (by decide)).trans ((ifnn (by decide)).trans ((ifnn (by decide)).trans ((ifnn (by decide)).trans ((ifnn (by decide)).trans (e_M_ranked_51_r908 lev (nI 4) m))))))) ?_
        refine rk_gen (r := 4) (by omega) (hA 4 (by omega)) (f_M_ranked_63_r908 (lev + 1) (nI 4)) (f_M_ranked_123_r908 (lev + 1) (nI 4)) f_M_among_r908 (fun m p k o a b => am_908 a b) (fun x3 x4 m => e_M_ranked_63_r908 lev (nI 4) x3 x4 m) (fun x3 m => ?_) m p k o h hp hk ho hlev
        exact (e_M_ranked_123_r908 lev (nI 4) x3 m).trans ((ifn (by decide)).trans (e_M_ranked_133_r908 lev (nI 4) x3 1 m))
      · refine okP_eq ((e_M_ranked _ _ _).trans (ifnp (by decide))) ?_
        obtain ⟨b1, p1, k1, o1, m1, r1, r2, r3, r4⟩ := ihB m p k o h hp hk ho (by omega)
        refine ⟨b1, p1, k1, o1, m1, ?_, r2, r3, r4⟩
        rw [r1, Option.bind_some]
        show (bif jx_01 (jb (b1 = true)) then _ else _) = _
        rw [jb_01]
        rfl
    · intro m p k o h hp hk ho hlev
      rw [e_M_ahead, am_903 h hp, Option.bind_some]
      by_cases c : p < e ∧ (tx p = 33 ∨ tx p = 45)
      · obtain ⟨i, hi, ei⟩ : ∃ i, i < 2 ∧ ((if p < e then (if tx p = 33 then some 0 else if tx p = 45 then some 1 else none) else none) = some i ∧ (i = 0 ↔ tx p = 33)) := by
          rw [if_pos c.1]
          rcases c.2 with z | z
          · rw [if_pos z]; exact ⟨0, by omega, rfl, ⟨fun _ => z, fun _ => rfl⟩⟩
          · rw [if_neg (by omega), if_pos z]; exact ⟨1, by omega, rfl, ⟨fun q => by omega, fun q => by omega⟩⟩
        rw [ei.1]
        refine okP_eq (ifp (nI_le (a := 0) (b := i) (by omega) (by omega))) ?_
        show okP tl tx e 5 none m p k o ((f_M_ahead lev (jx_w1 m 63 24 (m.1 63 24 + 1))).bind (fun p2 => if decide (p2.1 = 0) = true then (f_M_ahead_54 (lev + 1) p2.1 p2.2) else (if decide (¬ nI i = 0) = true then (f_M_ahead_50 (lev + 1) p2.1 126 2000 p2.2) else (f_M_ahead_50 (lev + 1) p2.1 33 2000 p2.2))))
        rw [h.1, nI_1]
        have e40 := h.2.2.2.2.2.2.2.1
        have s1 : sm wMu m (jx_w1 m 63 24 (nI (p + 1))) := sm_w1 (by unfold wMu; omega)
        obtain ⟨b1, p1, k1, o1, m1, r1, r2, r3, r4⟩ := ihB _ (p + 1) k o (qM_p h (p + 1)) (by omega) hk (by omega) (by omega)
        have w := Pr_wf r3 (by omega)
        rw [r1, Option.bind_some]
        cases b1 with
        | false =>
          refine ⟨false, p1, k1, o1, m1, ?_, r2, fun Q hQ => hQ.2.1 p k o p1 k1 o1 c.1 c.2 (r3 Q hQ), s1.tr r4⟩
          refine (ifp rfl).trans ?_
          rw [e_M_ahead_54]
          rfl
        | true =>
          obtain ⟨m2, t1, t2, t3⟩ := s_marks r2 (by omega) (2000 + (if tx p = 33 then 33 else 126))
          refine ⟨true, p1, k1, _, m2, ?_, t2, fun Q hQ => hQ.1 p k o p1 k1 o1 c.1 c.2 (r3 Q hQ), (s1.tr r4).tr t3⟩
          refine (ifn ne10).trans ?_
          by_cases z : tx p = 33
          · rw [if_pos z] at t1
            refine (ifnp (by rw [ei.2.mpr z]; rfl)).trans ?_
            rw [e_M_ahead_50, show (2000 : Int32) + 33 = nI (2000 + 33) from rfl, t1, Option.bind_some, e_M_ahead_54]
            rfl
          · rw [if_neg z] at t1
            refine (ifnn (fun q => z (ei.2.mp ((nI_eq (b := 0) (by omega) (by omega)).mp q)))).trans ?_
            rw [e_M_ahead_50, show (2000 : Int32) + 126 = nI (2000 + 126) from rfl, t1, Option.bind_some, e_M_ahead_54]
            rfl
      · have en : (if p < e then (if tx p = 33 then some 0 else if tx p = 45 then some 1 else none) else none) = (none : Option Nat) := by
          by_cases q : p < e
          · rw [if_pos q, if_neg (fun z => c ⟨q, Or.inl z⟩), if_neg (fun z => c ⟨q, Or.inr z⟩)]
          · rw [if_neg q]
        rw [en]
        refine okP_eq (ifn (show ¬ (0 : Int32) ≤ -1 by decide)) ?_
        obtain ⟨b1, p1, k1, o1, m1, r1, r2, r3, r4⟩ := ihC m p k o h hp hk ho (by omega) c
        refine ⟨b1, p1, k1, o1, m1, ?_, r2, r3, r4⟩
        rw [r1, Option.bind_some]
        show (bif jx_01 (jb (b1 = true)) then _ else _) = _
        rw [jb_01]
        rfl
    · intro m p k o h hp hk ho hlev hu
      have e40 := h.2.2.2.2.2.2.2.1
      rw [e_M_thing_, s_mdig h hp, Option.bind_some]
      by_cases cd : p < e ∧ 48 ≤ tx p ∧ tx p ≤ 57
      · rw [jb_t cd]
        refine okP_eq (ifn ne10) ?_
        exact num_gen ho m 3 0 m rfl (fun i hi => absurd hi (Nat.not_lt_zero i)) hp h sm.rf (Or.inr cd)
      · rw [jb_f cd]
        refine okP_eq (ifp eq00) ?_
        rw [am_900 h hp, Option.bind_some]
        by_cases cg : p < e ∧ sgX (tx p) < 6
        · rw [if_pos cg]
          refine okP_eq (ifn (fun z => absurd ((nI_ltI (a := sgX (tx p)) (b := 0) (by omega) (by omega)).mp z) (by omega))) ?_
          show okP tl tx e 5 none m p k o ((f_M_marks (1000 + nI (sgX (tx p))) m).bind (fun p6 => some ((1 : Int32), jx_w1 p6 63 24 (p6.1 63 24 + 1))))
          obtain ⟨m1, t1, t2, t3⟩ := s_marks h (by omega) (1000 + sgX (tx p))
          rw [show (1000 : Int32) + nI (sgX (tx p)) = nI (1000 + sgX (tx p)) from nI_add 1000 _, t1, Option.bind_some, t2.1, nI_1]
          exact ⟨true, p + 1, k, _, _, rfl, qM_p t2 (p + 1), fun Q hQ => hQ.2.2.2.1 p k o cg.1 cg.2, t3.w1 (by unfold wMu; omega)⟩
        · rw [if_neg cg]
          refine okP_eq (ifp (show (-1 : Int32) < 0 by decide)) ?_
          rw [am_901 h hp, Option.bind_some]
          have no : ¬ (p < e ∧ tx p = 40 ∧ k ≠ 5) → Pr tx e 5 none p k o false p k o := fun hn Q hQ => hQ.2.2.2.2.2.2.2.1 p k o (fun z => by
            rcases z.2 with q | q | q | q | q
            · exact hu ⟨z.1, Or.inl q⟩
            · exact hu ⟨z.1, Or.inr q⟩
            · exact cd ⟨z.1, q⟩
            · exact cg ⟨z.1, q⟩
            · exact hn ⟨z.1, q⟩)
          by_cases cp : p < e ∧ tx p = 40
          · rw [if_pos cp]
            refine okP_eq (ifn (show ¬ (nI 0) < 0 by decide)) ?_
            show okP tl tx e 5 none m p k o (if decide (¬ (m.1 63 26) = 5) = true then ((f_M_ranked lev 0 (jx_w1 (jx_w1 m 63 24 (m.1 63 24 + 1)) 63 26 (m.1 63 26 + 1))).bind (fun p4 => if decide (p4.1 = 0) = true then (f_M_thing__152 (lev + 1) p4.2) else ((f_M_among_r902 p4.2).bind (fun p5 => if decide (0 ≤ p5.1) = true then (some ((1 : Int32), jx_w1 (jx_w1 p5.2 63 24 (p5.2.1 63 24 + 1)) 63 26 (p5.2.1 63 26 - 1))) else (f_M_thing__152 (lev + 1) p5.2))))) else (f_M_thing__113 (lev + 1) m))
            rw [h.1, h.2.1, nI_1, nI_1]
            by_cases k5 : k = 5
            · refine okP_eq (ifnp (by rw [k5]; rfl)) ?_
              exact ⟨false, p, k, o, m, e_M_thing__113 _ _, h, no (fun z => z.2.2 k5), sm.rf⟩
            · refine okP_eq (ifnn (fun z => k5 ((nI_eq (b := 5) (by omega) (by omega)).mp z))) ?_
              have s1 : sm wMu m (jx_w1 (jx_w1 m 63 24 (nI (p + 1))) 63 26 (nI (k + 1))) := (sm_w1 (by unfold wMu; omega)).w1 (by unfold wMu; omega)
              obtain ⟨b1, p1, k1, o1, m1, r1, r2, r3, r4⟩ := ihA 0 _ (p + 1) (k + 1) o (by omega) (qM_k (qM_p h (p + 1)) (k + 1)) (by omega) (by omega) (by omega) (by omega)
              have w := Pr_wf r3 (by omega)
              rw [show f_M_ranked lev 0 (jx_w1 (jx_w1 m 63 24 (nI (p + 1))) 63 26 (nI (k + 1))) = _ from r1, Option.bind_some]
              cases b1 with
              | false =>
                refine ⟨false, p1, k1, o1, m1, (ifp rfl).trans (e_M_thing__152 _ _), r2, fun Q hQ => hQ.2.2.2.2.2.1 p k o p1 k1 o1 cp.1 cp.2 k5 (r3 Q hQ), s1.tr r4⟩
              | true =>
                refine okP_eq (ifn ne10) ?_
                rw [am_902 r2 w.2.1, Option.bind_some]
                by_cases cc : p1 < e ∧ tx p1 = 41
                · rw [if_pos cc]
                  refine ⟨true, p1 + 1, k1 - 1, o1, jx_w1 (jx_w1 m1 63 24 (nI (p1 + 1))) 63 26 (nI (k1 - 1)), (ifp (show (0 : Int32) ≤ nI 0 by decide)).trans ?_, qM_k (qM_p r2 (p1 + 1)) (k1 - 1), fun Q hQ => hQ.2.2.2.2.1 p k o p1 k1 o1 cp.1 cp.2 k5 (r3 Q hQ) cc.1 cc.2, ((s1.tr r4).w1 (by unfold wMu; omega)).w1 (by unfold wMu; omega)⟩
                  show some ((1 : Int32), jx_w1 (jx_w1 m1 63 24 (m1.1 63 24 + 1)) 63 26 (m1.1 63 26 - 1)) = _
                  have wk := w.2.2.2 rfl
                  rw [r2.1, r2.2.1, nI_1, nIp (by omega)]
                  rfl
                · rw [if_neg cc]
                  exact ⟨false, p1, k1, o1, m1, (ifn (show ¬ (0 : Int32) ≤ -1 by decide)).trans (e_M_thing__152 _ _), r2, fun Q hQ => hQ.2.2.2.2.2.2.1 p k o p1 k1 o1 cp.1 cp.2 k5 (r3 Q hQ) cc, s1.tr r4⟩
          · rw [if_neg cp]
            refine okP_eq (ifp (show (-1 : Int32) < 0 by decide)) ?_
            exact ⟨false, p, k, o, m, e_M_thing__113 _ _, h, no (fun z => cp ⟨z.1, z.2.1⟩), sm.rf⟩
end PARSEM
