/-! the law's three cases that catch -/
section LT
variable {m : jx_Mem}
theorem InvP_109 {P : Nat} (h : InvP P m) (w : Int64) : InvP P (jx_w2 m 109 0 w) := by
  have hs : sm (fun a k => a = 109 ∧ k = 0) m (jx_w2 m 109 0 w) := sm_w2 ⟨rfl, rfl⟩
  obtain ⟨k1, k2, k3⟩ := keep3 h hs (by intro a k; unfold wRF wRM; omega)
  obtain ⟨h1, h2, h3, h4, h5, h6, h7, h8, h9, h10, h11, h12, h13, h14⟩ := h
  refine ⟨miI_sm h1 hs ?_, itI_sm h2 hs ?_, stI_sm h3 hs ?_, goI_sm h4 hs ?_, noI_sm h5 hs ?_, aiI_sm h6 hs ?_, eaI_sm h7 hs ?_, txI_sm h8 hs ?_, ctI_sm h9 hs ?_, ckI_sm h10 hs ?_, coI_sm h11 hs ?_, k1, k2, k3⟩
  · intro a k; unfold dMF dMM; omega
  · intro a k; unfold dIF dIM dKF dKM; omega
  · intro a k; unfold dsW; omega
  · intro a k; unfold dGF dGM; omega
  · intro a k; unfold dNF dNM; omega
  · intro a k; unfold dAF dAM; omega
  · intro a k; omega
  · intro a k; unfold dTF dTM; omega
  · intro a k; unfold dcW; omega
  · intro a k; unfold dkW; omega
  · intro a k; unfold dCF dCM; omega
theorem w109 (m : jx_Mem) (w : Int64) : (jx_w2 m 109 0 w).2 109 0 = w := by
  show jx_up m.2 109 0 w 109 0 = w
  rw [jx_up_selfL]
  show (if 0 = 0 then w else _) = w
  rfl
theorem T_of2 (h : Inv m) (x y : Int32) : ∃ P, m.1 3 6 = nI P ∧ P ≤ 8 ∧ ((cOf x y P ∧ ∃ v m2, f_F_of x y m = some (v, m) ∧ f_M_of x y (jx_w2 m 109 0 v.toInt64) = some (v, m2) ∧ m2.1 63 0 = 0 ∧ m2.2 109 0 = v.toInt64 ∧ Inv m2) ∨ (¬ cOf x y P ∧ ∃ m2, f_M_of x y m = some (0, m2) ∧ m2.1 63 0 = 1 ∧ Inv m2)) := by
  obtain ⟨P, h⟩ := h
  obtain ⟨T, D, W, A, U, L, gm, mF, mM⟩ := h.1
  refine ⟨P, mF.2.1, gm.2.1, ?_⟩
  rcases M_of mM gm x y with ⟨c, -⟩ | ⟨c, e2⟩
  · have h2 := InvP_109 h (ofV A U L x y).toInt64
    have mM2 : mineM (jx_w2 m 109 0 (ofV A U L x y).toInt64) T P D W A U L := mineM_sm mM (sm_w2 (W := fun a k => a = 109 ∧ k = 0) ⟨rfl, rfl⟩) (by intro a k; unfold dMM; omega)
    rcases M_of mM2 gm x y with ⟨-, e2⟩ | ⟨c2, -⟩
    · exact Or.inl ⟨c, _, _, F_of mF gm c, e2, rfl, w109 m _, Inv_of (InvP_th h2 0)⟩
    · exact absurd c c2
  · exact Or.inr ⟨c, _, e2, rfl, Inv_of (InvP_th2 h 0 1)⟩
theorem T_thing2 (h : Inv m) (x y : Int32) : ∃ I, m.1 26 3 = nI I ∧ I ≤ 12 ∧ ((cThing x y I ∧ ∃ v m2, f_F_thing x y m = some (v, m) ∧ f_M_thing_II x y (jx_w2 m 109 0 v.toInt64) = some (v, m2) ∧ m2.1 63 0 = 0 ∧ m2.2 109 0 = v.toInt64 ∧ Inv m2) ∨ (¬ cThing x y I ∧ ∃ m2, f_M_thing_II x y m = some (0, m2) ∧ m2.1 63 0 = 1 ∧ Inv m2)) := by
  obtain ⟨P, h⟩ := h
  obtain ⟨I, S, Gd, Ow, Sd, Y, Wn, wd, Pr, gi, iF, iM, ga, aF, aM⟩ := h.2.1
  refine ⟨I, iF.1, gi.1, ?_⟩
  rcases M_thing iM gi aM x y with ⟨c, -⟩ | ⟨c, e2⟩
  · have h2 := InvP_109 h (thV Gd Ow Sd Pr x y).toInt64
    have hs := sm_w2 (m := m) (v := (thV Gd Ow Sd Pr x y).toInt64) (W := fun a k => a = 109 ∧ k = 0) ⟨rfl, rfl⟩
    have iM2 := itemsM_sm iM hs (by intro a k; unfold dIM; omega)
    have aM2 := askM_sm aM hs (by intro a k; unfold dKM; omega)
    rcases M_thing iM2 gi aM2 x y with ⟨-, e2⟩ | ⟨c2, -⟩
    · exact Or.inl ⟨c, _, _, F_thing iF gi aF c, e2, rfl, w109 m _, Inv_of (InvP_th h2 0)⟩
    · exact absurd c c2
  · exact Or.inr ⟨c, _, e2, rfl, Inv_of (InvP_th2 h 0 1)⟩
theorem T_row2 (h : Inv m) (x : Int32) : ∃ vs : List Int64, m.1 1 1 = nI vs.length ∧ vs.length ≤ 12 ∧ ((cRow x vs ∧ ∃ v m2, f_F_row x m = some (v, m) ∧ f_M_row x (jx_w2 m 109 0 v) = some (v, m2) ∧ m2.1 63 0 = 0 ∧ m2.2 109 0 = v ∧ Inv m2) ∨ (¬ cRow x vs ∧ ∃ m2, f_M_row x m = some (0, m2) ∧ m2.1 63 0 = 1 ∧ Inv m2)) := by
  obtain ⟨P, h⟩ := h
  obtain ⟨vs, hl, rf, rm⟩ := h.2.2.2.2.2.2.2.2.2.2.2.1
  refine ⟨vs, rf.1, hl, ?_⟩
  rcases M_row rm hl x with ⟨c, -⟩ | ⟨c, e2⟩
  · have h2 := InvP_109 h (vs.getD (jn x) 0)
    have rm2 := rM_sm rm (sm_w2 (m := m) (v := vs.getD (jn x) 0) (W := fun a k => a = 109 ∧ k = 0) ⟨rfl, rfl⟩) (by omega) (by intro k; omega)
    rcases M_row rm2 hl x with ⟨-, e2⟩ | ⟨c2, -⟩
    · exact Or.inl ⟨c, _, _, F_row rf hl c, e2, rfl, w109 m _, Inv_of (InvP_th h2 0)⟩
    · exact absurd c c2
  · exact Or.inr ⟨c, _, e2, rfl, Inv_of (InvP_th2 h 0 1)⟩
end LT
theorem lg_cmp_self (x : Int64) : lg_cmp x x = 0 := by
  unfold lg_cmp
  rw [if_neg (by rw [gt_iff_lt, Int64.lt_iff_toInt_lt]; omega), if_pos rfl]
section LS
variable {p : Program} {l : Launch} {e : Env} {R : Room} {s : State} {m : MethodId} {args : Array Value} {below : List Frame} {meth : Method} {c : Code} {Q : State → Prop} {b L : Nat} {xs : Nat → Int32} {ad adV : Nat → Nat} {D : va_G} {cs : ClassId × ClassId × ClassId} {A : Nat → Prop} {X : Heap → State → Prop} {μ μ' μ1 μ2 : jx_Mem} {H : Heap} {ls : Array Slot} {k n cells slots mc ms pc : Nat} {st rest : List Value}
theorem jx_after4 {Qc : Array Value → State → Outcome → State → Prop} {a : Array Value} {v : Option Value} {st0 : List Value} (hA : ∀ q, A q → s.heap.size ≤ q) (hXK : jx_XK A X) (hr : va_Run p l e R s m args below meth c H [] cells slots mc ms (F0 m pc ls st0) rest (Qc a) A) (hQ : ∀ st oc t, Qc a st oc t → oc = .returned v ∧ jx_P ad D cs A X μ' t.heap t ∧ va_F A st t) (hW : jx_P ad D cs A X μ H s)
    (kk : ∀ H1 : Heap, jx_P ad D cs A X μ' H1 s → H.size ≤ H1.size → (∀ q : Nat, q < H.size → ¬ A q → H1[q]? = H[q]?) → W p l e R s m args below meth c H1 [] (cells + mc) (slots + ms) Q (F0 m (pc + 3) ls (v.toList ++ rest))) : W p l e R s m args below meth c H [] cells slots Q (F0 m pc ls st0) := by
  intro T hT XT
  obtain ⟨v', st₀, t, T', L, h0, X', hL, e1, e2, hq, st⟩ := hr T hT XT
  obtain ⟨hv, hP, hz, hk⟩ := hQ _ _ _ hq
  cases hv
  rw [h0] at hz hk
  have hk1 : ∀ q : Nat, q < H.size → ¬ A q → T'.heap[q]? = H[q]? := fun q h1 h2 => by rw [e1]; exact hk q h1 h2
  have hX1 : X T'.heap s := hXK.2.2 H T'.heap s hk1 hW.2.2.2.2
  have kk2 := W.forget (locs := []) (L := L) (fun q hq => hA _ (hL q hq)) (kk T'.heap ⟨by rw [e1]; exact hP.1, hP.2.1, hW.2.2.1, hW.2.2.2.1, hX1⟩ (by rw [e1]; exact hz) hk1)
  obtain ⟨t2, a1, b1⟩ := kk2 T' rfl X'
  exact ⟨t2, st t2 a1, b1⟩
theorem l_callS (C : lC p s m c b L xs A) {idx maxL : Nat} {y : MethodName} {bs : ByteArray} {hh : List (Nat × Nat × Nat × Nat)} {as : List Value} {v : Int32} (hM : Met l y (wws y bs maxL hh) wR (va_Pc as (fun U => jx_P ad D cs A (jx_X2 ad adV A) μ U.heap U)) (jx_Q ad D cs A (jx_X2 ad adV A) (some (.int v)) μ') 1 6 A)
    (hcw : Cond.codeWith y bs maxL (some .int) hh ∈ jx_tbl) (hst : Cond.static y ∈ jx_tbl) (hin : Cond.initialized y.cls ∈ jx_tbl) (hlk : Cond.methodLink "FairByEarLaw" idx y ∈ jx_tbl) (hy : y.cls ≠ "java/lang/invoke/MethodHandle" ∧ y.cls ≠ "java/lang/invoke/VarHandle") (hn : (parseMethodDescriptor y.desc).map (fun d => d.parameters.length) = some as.length) (hmx : maxL ≤ 5) (hdec : decode code pc = .ok (.invokestatic idx, 3)) (hsize : ls.size = 8) (hrest : (rest.map fun v => v.category).sum ≤ 8) (hf : cells + 1 ≤ room_1.cells ∧ slots + 6 ≤ room_1.slots)
    (hW : jx_P ad D cs A (jx_X2 ad adV A) μ H s) (hS : va_S A s.heap H [])
    (kk : ∀ H1 : Heap, jx_P ad D cs A (jx_X2 ad adV A) μ' H1 s → va_S A s.heap H1 [] → W p l e room_1 s m #[Value.ref b] below meth c H1 [] (cells + 1) (slots + 6) Q (F0 m (pc + 3) ls (.int v :: rest))) : W p l e room_1 s m #[Value.ref b] below meth c H [] cells slots Q (F0 m pc ls (as.reverse ++ rest)) := by
  have hXK := jx_X2_XK ad adV A
  obtain ⟨hx, hb, hml, hown, hts, hXs, hbl, hL, hA⟩ := C
  have hG : GoodIn jx_tbl (wws y bs maxL hh) := by
    intro w hw
    rcases List.mem_cons.mp hw with rfl | hw
    · exact ⟨hcw, good_of_word (List.mem_filter.mp hcw).2⟩
    · exact ⟨hw, good_of_word (List.mem_filter.mp hw).2⟩
  have hro : wR.frames + 1 ≤ room_1.frames ∧ 8 + (maxL + 11) + wR.locals ≤ room_1.locals := ⟨by decide, by show 8 + (maxL + 11) + 900 ≤ 84000; omega⟩
  have hsw : vx_CSW room_1 s #[Value.ref b] "FairByEarLaw" idx y bs maxL (some .int) hh (wws y bs maxL hh) wR 1 6 as.length := by
    refine ⟨⟨rfl, rfl, hro.1, hro.2, pay_in hts hG, List.mem_cons_self⟩, hts _ hcw, hts _ hin, hy, fun sig h => ?_, hts _ hlk, hts _ hst⟩
    rw [h] at hn
    exact (Option.some.inj hn).symm
  refine jx_after4 (v := some (.int v)) (fun q h => (hA q).mp h) hXK (vx_runSW (As := as) (rest := rest) ⟨hx, hb, hml, hown, hts⟩ hM hsw ⟨jx_blind hXK _, fun U hU hw => ⟨rfl, jx_P_end hXK hW hU hw⟩⟩ rfl rfl hsize rfl (lv_room hrest) hdec hf) (fun st oc t q => q) hW (fun H1 hP h1 h2 => ?_)
  exact kk H1 hP ⟨Nat.le_trans hS.1 h1, fun q q1 q2 => (h2 q (Nat.lt_of_lt_of_le q1 hS.1) q2).trans (hS.2.1 q q1 q2), fun q hq => by cases hq⟩
end LS
