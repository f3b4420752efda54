/-! steps -/
section STEPS
variable {m m' m1 m2 : jx_Mem} {Z : Nat → Nat → Prop}
def InvP (P : Nat) (m : jx_Mem) : Prop := miI P m ∧ itI P m ∧ stI P m ∧ goI m ∧ noI m ∧ aiI m ∧ eaI m ∧ txI m ∧ ctI m ∧ ckI m ∧ coI m ∧ roI m ∧ zwF m ∧ spM m
def lowS (a _ : Nat) : Prop := a < 63
def higS (a _ : Nat) : Prop := 63 ≤ a
theorem Inv_mi {P : Nat} (h : InvP P m) (hs : sm (fun a k => (dMF a k ∨ dMM a k) ∨ wScr a k) m m') (h_mi : miI P m') (hr : roI m') (hz : zwF m') (hp : spM m') : InvP P m' := by
  obtain ⟨mi, it, st, go, no, ai, ea, tx, ct, ck, co, ro, zw, sp⟩ := h
  refine ⟨h_mi, itI_sm it hs ?_, stI_sm st hs ?_, goI_sm go hs ?_, noI_sm no hs ?_, aiI_sm ai hs ?_, eaI_sm ea hs ?_, txI_sm tx hs ?_, ctI_sm ct hs ?_, ckI_sm ck hs ?_, coI_sm co hs ?_, hr, hz, hp⟩
  · intro a k; unfold dIF dIM dKF dKM dMF dMM wScr; omega
  · intro a k; unfold dMF dMM dsW wScr; omega
  · intro a k; unfold dGF dGM dMF dMM wScr; omega
  · intro a k; unfold dMF dMM dNF dNM wScr; omega
  · intro a k; unfold dAF dAM dMF dMM wScr; omega
  · intro a k; unfold dMF dMM wScr; omega
  · intro a k; unfold dMF dMM dTF dTM wScr; omega
  · intro a k; unfold dMF dMM dcW wScr; omega
  · intro a k; unfold dMF dMM dkW wScr; omega
  · intro a k; unfold dCF dCM dMF dMM wScr; omega
theorem Inv_it {P : Nat} (h : InvP P m) (hs : sm (fun a k => (dIF a k ∨ dIM a k ∨ dKF a k ∨ dKM a k ∨ a = 35) ∨ wScr a k) m m') (h_it : itI P m') (hr : roI m') (hz : zwF m') (hp : spM m') : InvP P m' := by
  obtain ⟨mi, it, st, go, no, ai, ea, tx, ct, ck, co, ro, zw, sp⟩ := h
  refine ⟨miI_sm mi hs ?_, h_it, stI_sm st hs ?_, goI_sm go hs ?_, noI_sm no hs ?_, aiI_sm ai hs ?_, eaI_sm ea hs ?_, txI_sm tx hs ?_, ctI_sm ct hs ?_, ckI_sm ck hs ?_, coI_sm co hs ?_, hr, hz, hp⟩
  · intro a k; unfold dIF dIM dKF dKM dMF dMM wScr; omega
  · intro a k; unfold dIF dIM dKF dKM dsW wScr; omega
  · intro a k; unfold dGF dGM dIF dIM dKF dKM wScr; omega
  · intro a k; unfold dIF dIM dKF dKM dNF dNM wScr; omega
  · intro a k; unfold dAF dAM dIF dIM dKF dKM wScr; omega
  · intro a k; unfold dIF dIM dKF dKM wScr; omega
  · intro a k; unfold dIF dIM dKF dKM dTF dTM wScr; omega
  · intro a k; unfold dIF dIM dKF dKM dcW wScr; omega
  · intro a k; unfold dIF dIM dKF dKM dkW wScr; omega
  · intro a k; unfold dCF dCM dIF dIM dKF dKM wScr; omega
theorem Inv_st {P : Nat} (h : InvP P m) (hs : sm (fun a k => (dsW a k) ∨ wScr a k) m m') (h_st : stI P m') (hr : roI m') (hz : zwF m') (hp : spM m') : InvP P m' := by
  obtain ⟨mi, it, st, go, no, ai, ea, tx, ct, ck, co, ro, zw, sp⟩ := h
  refine ⟨miI_sm mi hs ?_, itI_sm it hs ?_, h_st, goI_sm go hs ?_, noI_sm no hs ?_, aiI_sm ai hs ?_, eaI_sm ea hs ?_, txI_sm tx hs ?_, ctI_sm ct hs ?_, ckI_sm ck hs ?_, coI_sm co hs ?_, hr, hz, hp⟩
  · intro a k; unfold dMF dMM dsW wScr; omega
  · intro a k; unfold dIF dIM dKF dKM dsW wScr; omega
  · intro a k; unfold dGF dGM dsW wScr; omega
  · intro a k; unfold dNF dNM dsW wScr; omega
  · intro a k; unfold dAF dAM dsW wScr; omega
  · intro a k; unfold dsW wScr; omega
  · intro a k; unfold dTF dTM dsW wScr; omega
  · intro a k; unfold dcW dsW wScr; omega
  · intro a k; unfold dkW dsW wScr; omega
  · intro a k; unfold dCF dCM dsW wScr; omega
theorem Inv_go {P : Nat} (h : InvP P m) (hs : sm (fun a k => (dGF a k ∨ dGM a k) ∨ wScr a k) m m') (h_go : goI m') (hr : roI m') (hz : zwF m') (hp : spM m') : InvP P m' := by
  obtain ⟨mi, it, st, go, no, ai, ea, tx, ct, ck, co, ro, zw, sp⟩ := h
  refine ⟨miI_sm mi hs ?_, itI_sm it hs ?_, stI_sm st hs ?_, h_go, noI_sm no hs ?_, aiI_sm ai hs ?_, eaI_sm ea hs ?_, txI_sm tx hs ?_, ctI_sm ct hs ?_, ckI_sm ck hs ?_, coI_sm co hs ?_, hr, hz, hp⟩
  · intro a k; unfold dGF dGM dMF dMM wScr; omega
  · intro a k; unfold dGF dGM dIF dIM dKF dKM wScr; omega
  · intro a k; unfold dGF dGM dsW wScr; omega
  · intro a k; unfold dGF dGM dNF dNM wScr; omega
  · intro a k; unfold dAF dAM dGF dGM wScr; omega
  · intro a k; unfold dGF dGM wScr; omega
  · intro a k; unfold dGF dGM dTF dTM wScr; omega
  · intro a k; unfold dGF dGM dcW wScr; omega
  · intro a k; unfold dGF dGM dkW wScr; omega
  · intro a k; unfold dCF dCM dGF dGM wScr; omega
theorem Inv_no {P : Nat} (h : InvP P m) (hs : sm (fun a k => (dNF a k ∨ dNM a k) ∨ wScr a k) m m') (h_no : noI m') (hr : roI m') (hz : zwF m') (hp : spM m') : InvP P m' := by
  obtain ⟨mi, it, st, go, no, ai, ea, tx, ct, ck, co, ro, zw, sp⟩ := h
  refine ⟨miI_sm mi hs ?_, itI_sm it hs ?_, stI_sm st hs ?_, goI_sm go hs ?_, h_no, aiI_sm ai hs ?_, eaI_sm ea hs ?_, txI_sm tx hs ?_, ctI_sm ct hs ?_, ckI_sm ck hs ?_, coI_sm co hs ?_, hr, hz, hp⟩
  · intro a k; unfold dMF dMM dNF dNM wScr; omega
  · intro a k; unfold dIF dIM dKF dKM dNF dNM wScr; omega
  · intro a k; unfold dNF dNM dsW wScr; omega
  · intro a k; unfold dGF dGM dNF dNM wScr; omega
  · intro a k; unfold dAF dAM dNF dNM wScr; omega
  · intro a k; unfold dNF dNM wScr; omega
  · intro a k; unfold dNF dNM dTF dTM wScr; omega
  · intro a k; unfold dNF dNM dcW wScr; omega
  · intro a k; unfold dNF dNM dkW wScr; omega
  · intro a k; unfold dCF dCM dNF dNM wScr; omega
theorem Inv_ai {P : Nat} (h : InvP P m) (hs : sm (fun a k => (dAF a k ∨ dAM a k) ∨ wScr a k) m m') (h_ai : aiI m') (hr : roI m') (hz : zwF m') (hp : spM m') : InvP P m' := by
  obtain ⟨mi, it, st, go, no, ai, ea, tx, ct, ck, co, ro, zw, sp⟩ := h
  refine ⟨miI_sm mi hs ?_, itI_sm it hs ?_, stI_sm st hs ?_, goI_sm go hs ?_, noI_sm no hs ?_, h_ai, eaI_sm ea hs ?_, txI_sm tx hs ?_, ctI_sm ct hs ?_, ckI_sm ck hs ?_, coI_sm co hs ?_, hr, hz, hp⟩
  · intro a k; unfold dAF dAM dMF dMM wScr; omega
  · intro a k; unfold dAF dAM dIF dIM dKF dKM wScr; omega
  · intro a k; unfold dAF dAM dsW wScr; omega
  · intro a k; unfold dAF dAM dGF dGM wScr; omega
  · intro a k; unfold dAF dAM dNF dNM wScr; omega
  · intro a k; unfold dAF dAM wScr; omega
  · intro a k; unfold dAF dAM dTF dTM wScr; omega
  · intro a k; unfold dAF dAM dcW wScr; omega
  · intro a k; unfold dAF dAM dkW wScr; omega
  · intro a k; unfold dAF dAM dCF dCM wScr; omega
theorem Inv_ea {P : Nat} (h : InvP P m) (hs : sm (fun a k => (a = 61 ∨ a = 108) ∨ wScr a k) m m') (h_ea : eaI m') (hr : roI m') (hz : zwF m') (hp : spM m') : InvP P m' := by
  obtain ⟨mi, it, st, go, no, ai, ea, tx, ct, ck, co, ro, zw, sp⟩ := h
  refine ⟨miI_sm mi hs ?_, itI_sm it hs ?_, stI_sm st hs ?_, goI_sm go hs ?_, noI_sm no hs ?_, aiI_sm ai hs ?_, h_ea, txI_sm tx hs ?_, ctI_sm ct hs ?_, ckI_sm ck hs ?_, coI_sm co hs ?_, hr, hz, hp⟩
  · intro a k; unfold dMF dMM wScr; omega
  · intro a k; unfold dIF dIM dKF dKM wScr; omega
  · intro a k; unfold dsW wScr; omega
  · intro a k; unfold dGF dGM wScr; omega
  · intro a k; unfold dNF dNM wScr; omega
  · intro a k; unfold dAF dAM wScr; omega
  · intro a k; unfold dTF dTM wScr; omega
  · intro a k; unfold dcW wScr; omega
  · intro a k; unfold dkW wScr; omega
  · intro a k; unfold dCF dCM wScr; omega
theorem Inv_tx {P : Nat} (h : InvP P m) (hs : sm (fun a k => (dTF a k ∨ dTM a k) ∨ wScr a k) m m') (h_tx : txI m') (hr : roI m') (hz : zwF m') (hp : spM m') : InvP P m' := by
  obtain ⟨mi, it, st, go, no, ai, ea, tx, ct, ck, co, ro, zw, sp⟩ := h
  refine ⟨miI_sm mi hs ?_, itI_sm it hs ?_, stI_sm st hs ?_, goI_sm go hs ?_, noI_sm no hs ?_, aiI_sm ai hs ?_, eaI_sm ea hs ?_, h_tx, ctI_sm ct hs ?_, ckI_sm ck hs ?_, coI_sm co hs ?_, hr, hz, hp⟩
  · intro a k; unfold dMF dMM dTF dTM wScr; omega
  · intro a k; unfold dIF dIM dKF dKM dTF dTM wScr; omega
  · intro a k; unfold dTF dTM dsW wScr; omega
  · intro a k; unfold dGF dGM dTF dTM wScr; omega
  · intro a k; unfold dNF dNM dTF dTM wScr; omega
  · intro a k; unfold dAF dAM dTF dTM wScr; omega
  · intro a k; unfold dTF dTM wScr; omega
  · intro a k; unfold dTF dTM dcW wScr; omega
  · intro a k; unfold dTF dTM dkW wScr; omega
  · intro a k; unfold dCF dCM dTF dTM wScr; omega
theorem Inv_ct {P : Nat} (h : InvP P m) (hs : sm (fun a k => (dcW a k) ∨ wScr a k) m m') (h_ct : ctI m') (hr : roI m') (hz : zwF m') (hp : spM m') : InvP P m' := by
  obtain ⟨mi, it, st, go, no, ai, ea, tx, ct, ck, co, ro, zw, sp⟩ := h
  refine ⟨miI_sm mi hs ?_, itI_sm it hs ?_, stI_sm st hs ?_, goI_sm go hs ?_, noI_sm no hs ?_, aiI_sm ai hs ?_, eaI_sm ea hs ?_, txI_sm tx hs ?_, h_ct, ckI_sm ck hs ?_, coI_sm co hs ?_, hr, hz, hp⟩
  · intro a k; unfold dMF dMM dcW wScr; omega
  · intro a k; unfold dIF dIM dKF dKM dcW wScr; omega
  · intro a k; unfold dcW dsW wScr; omega
  · intro a k; unfold dGF dGM dcW wScr; omega
  · intro a k; unfold dNF dNM dcW wScr; omega
  · intro a k; unfold dAF dAM dcW wScr; omega
  · intro a k; unfold dcW wScr; omega
  · intro a k; unfold dTF dTM dcW wScr; omega
  · intro a k; unfold dcW dkW wScr; omega
  · intro a k; unfold dCF dCM dcW wScr; omega
theorem Inv_ck {P : Nat} (h : InvP P m) (hs : sm (fun a k => (dkW a k) ∨ wScr a k) m m') (h_ck : ckI m') (hr : roI m') (hz : zwF m') (hp : spM m') : InvP P m' := by
  obtain ⟨mi, it, st, go, no, ai, ea, tx, ct, ck, co, ro, zw, sp⟩ := h
  refine ⟨miI_sm mi hs ?_, itI_sm it hs ?_, stI_sm st hs ?_, goI_sm go hs ?_, noI_sm no hs ?_, aiI_sm ai hs ?_, eaI_sm ea hs ?_, txI_sm tx hs ?_, ctI_sm ct hs ?_, h_ck, coI_sm co hs ?_, hr, hz, hp⟩
  · intro a k; unfold dMF dMM dkW wScr; omega
  · intro a k; unfold dIF dIM dKF dKM dkW wScr; omega
  · intro a k; unfold dkW dsW wScr; omega
  · intro a k; unfold dGF dGM dkW wScr; omega
  · intro a k; unfold dNF dNM dkW wScr; omega
  · intro a k; unfold dAF dAM dkW wScr; omega
  · intro a k; unfold dkW wScr; omega
  · intro a k; unfold dTF dTM dkW wScr; omega
  · intro a k; unfold dcW dkW wScr; omega
  · intro a k; unfold dCF dCM dkW wScr; omega
theorem Inv_co {P : Nat} (h : InvP P m) (hs : sm (fun a k => (dCF a k ∨ dCM a k ∨ dTF a k ∨ dTM a k ∨ wRu a k ∨ a = 77 ∨ a = 78 ∨ (a = 63 ∧ (k = 24 ∨ k = 25 ∨ k = 26))) ∨ wScr a k) m m') (h_co : coI m') (h_tx : txI m') (hr : roI m') (hz : zwF m') (hp : spM m') : InvP P m' := by
  obtain ⟨mi, it, st, go, no, ai, ea, tx, ct, ck, co, ro, zw, sp⟩ := h
  refine ⟨miI_sm mi hs ?_, itI_sm it hs ?_, stI_sm st hs ?_, goI_sm go hs ?_, noI_sm no hs ?_, aiI_sm ai hs ?_, eaI_sm ea hs ?_, h_tx, ctI_sm ct hs ?_, ckI_sm ck hs ?_, h_co, hr, hz, hp⟩
  · intro a k; unfold dCF dCM dMF dMM dTF dTM wRu wScr; omega
  · intro a k; unfold dCF dCM dIF dIM dKF dKM dTF dTM wRu wScr; omega
  · intro a k; unfold dCF dCM dTF dTM dsW wRu wScr; omega
  · intro a k; unfold dCF dCM dGF dGM dTF dTM wRu wScr; omega
  · intro a k; unfold dCF dCM dNF dNM dTF dTM wRu wScr; omega
  · intro a k; unfold dAF dAM dCF dCM dTF dTM wRu wScr; omega
  · intro a k; unfold dCF dCM dTF dTM wRu wScr; omega
  · intro a k; unfold dCF dCM dTF dTM dcW wRu wScr; omega
  · intro a k; unfold dCF dCM dTF dTM dkW wRu wScr; omega
theorem Inv_mt {P : Nat} (h : InvP P m) (hs : sm (fun a k => (dMF a k ∨ dMM a k ∨ dIF a k ∨ dIM a k ∨ dKF a k ∨ dKM a k ∨ a = 35) ∨ wScr a k) m m') (h_mi : miI P m') (h_it : itI P m') (hr : roI m') (hz : zwF m') (hp : spM m') : InvP P m' := by
  obtain ⟨mi, it, st, go, no, ai, ea, tx, ct, ck, co, ro, zw, sp⟩ := h
  refine ⟨h_mi, h_it, stI_sm st hs ?_, goI_sm go hs ?_, noI_sm no hs ?_, aiI_sm ai hs ?_, eaI_sm ea hs ?_, txI_sm tx hs ?_, ctI_sm ct hs ?_, ckI_sm ck hs ?_, coI_sm co hs ?_, hr, hz, hp⟩
  · intro a k; unfold dIF dIM dKF dKM dMF dMM dsW wScr; omega
  · intro a k; unfold dGF dGM dIF dIM dKF dKM dMF dMM wScr; omega
  · intro a k; unfold dIF dIM dKF dKM dMF dMM dNF dNM wScr; omega
  · intro a k; unfold dAF dAM dIF dIM dKF dKM dMF dMM wScr; omega
  · intro a k; unfold dIF dIM dKF dKM dMF dMM wScr; omega
  · intro a k; unfold dIF dIM dKF dKM dMF dMM dTF dTM wScr; omega
  · intro a k; unfold dIF dIM dKF dKM dMF dMM dcW wScr; omega
  · intro a k; unfold dIF dIM dKF dKM dMF dMM dkW wScr; omega
  · intro a k; unfold dCF dCM dIF dIM dKF dKM dMF dMM wScr; omega
theorem keep3 {P : Nat} (h : InvP P m) (hs : sm Z m m') (hz : ∀ a k, Z a k → ¬ (wRF a k ∨ wRM a k ∨ a = 50 ∨ a = 104)) : roI m' ∧ zwF m' ∧ spM m' := by
  obtain ⟨mi, it, st, go, no, ai, ea, tx, ct, ck, co, ro, zw, sp⟩ := h
  exact ⟨roI_sm ro hs (fun a k q z => hz a k z (q.elim Or.inl (fun q => Or.inr (Or.inl q)))), zwF_sm zw hs (fun a k q z => hz a k z (Or.inr (Or.inr (Or.inl q)))), spM_sm sp hs (fun a k q z => hz a k z (Or.inr (Or.inr (Or.inr q))))⟩
theorem InvP_th {P : Nat} (h : InvP P m) (v : Int32) : InvP P (jx_w1 m 63 0 v) := by
  have hs : sm (fun a k => a = 63 ∧ k = 0) m (jx_w1 m 63 0 v) := sm_w1 ⟨rfl, rfl⟩
  obtain ⟨k1, k2, k3⟩ := keep3 h hs (by intro a k; unfold wRF wRM; omega)
  exact Inv_ea h (hs.mono (by intro a k; unfold wScr; omega)) (eaI_sm h.2.2.2.2.2.2.1 hs (by intro a k; omega)) k1 k2 k3
theorem mineM_lo {T : Nat} {P : Nat} {D : Nat → Nat → Nat} {W : Nat → Nat} {A : Nat → Nat} {U : Nat → Nat} {L : Nat → Nat} (h : mineM m T P D W A U L) (hs : sm lowS m m') : mineM m' T P D W A U L := mineM_sm h hs (by intro a k; unfold dMM lowS; omega)
theorem mineF_hi {T : Nat} {P : Nat} {D : Nat → Nat → Nat} {W : Nat → Nat} {A : Nat → Nat} {U : Nat → Nat} {L : Nat → Nat} (h : mineF m T P D W A U L) (hs : sm higS m m') : mineF m' T P D W A U L := mineF_sm h hs (by intro a k; unfold dMF higS; omega)
theorem goodsM_lo {G : Nat} {K : Nat} {O : Nat → Nat} {C : Nat → Nat} {N : Nat → Nat → Nat} (h : goodsM m G K O C N) (hs : sm lowS m m') : goodsM m' G K O C N := goodsM_sm h hs (by intro a k; unfold dGM lowS; omega)
theorem goodsF_hi {G : Nat} {K : Nat} {O : Nat → Nat} {C : Nat → Nat} {N : Nat → Nat → Nat} (h : goodsF m G K O C N) (hs : sm higS m m') : goodsF m' G K O C N := goodsF_sm h hs (by intro a k; unfold dGF higS; omega)
theorem noiseM_lo {H : Nat} {Y : Nat → Nat} {V : Nat → Nat} (h : noiseM m H Y V) (hs : sm lowS m m') : noiseM m' H Y V := noiseM_sm h hs (by intro a k; unfold dNM lowS; omega)
theorem noiseF_hi {H : Nat} {Y : Nat → Nat} {V : Nat → Nat} (h : noiseF m H Y V) (hs : sm higS m m') : noiseF m' H Y V := noiseF_sm h hs (by intro a k; unfold dNF higS; omega)
theorem airM_lo {Q : Nat → Nat} (h : airM m Q) (hs : sm lowS m m') : airM m' Q := airM_sm h hs (by intro a k; unfold dAM lowS; omega)
theorem airF_hi {Q : Nat → Nat} (h : airF m Q) (hs : sm higS m m') : airF m' Q := airF_sm h hs (by intro a k; unfold dAF higS; omega)
theorem itemsM_lo {I : Nat} {S : Nat} {Gd : Nat → Nat} {Ow : Nat → Nat} {Sd : Nat → Bool} {Y : Nat → Nat → Nat} (h : itemsM m I S Gd Ow Sd Y) (hs : sm lowS m m') : itemsM m' I S Gd Ow Sd Y := itemsM_sm h hs (by intro a k; unfold dIM lowS; omega)
theorem itemsF_hi {I : Nat} {S : Nat} {Gd : Nat → Nat} {Ow : Nat → Nat} {Sd : Nat → Bool} {Y : Nat → Nat → Nat} (h : itemsF m I S Gd Ow Sd Y) (hs : sm higS m m') : itemsF m' I S Gd Ow Sd Y := itemsF_sm h hs (by intro a k; unfold dIF higS; omega)
theorem textM_lo {tl : Nat} {tx : Nat → Nat} (h : textM m tl tx) (hs : sm lowS m m') : textM m' tl tx := textM_sm h hs (by intro a k; unfold dTM lowS; omega)
theorem textF_hi {tl : Nat} {tx : Nat → Nat} (h : textF m tl tx) (hs : sm higS m m') : textF m' tl tx := textF_sm h hs (by intro a k; unfold dTF higS; omega)
theorem cntM_lo {c : List cT} (h : cntM m c) (hs : sm lowS m m') : cntM m' c := cntM_sm h hs (by intro a k; unfold dWM lowS; omega)
theorem cntF_hi {c : List cT} (h : cntF m c) (hs : sm higS m m') : cntF m' c := cntF_sm h hs (by intro a k; unfold dWF higS; omega)
theorem stayM_lo {n : Nat} {B : Nat → Nat → Nat} (h : stayM m n B) (hs : sm lowS m m') : stayM m' n B := stayM_sm h hs (by intro a k; unfold dWM lowS; omega)
theorem stayF_hi {n : Nat} {B : Nat → Nat → Nat} (h : stayF m n B) (hs : sm higS m m') : stayF m' n B := stayF_sm h hs (by intro a k; unfold dWF higS; omega)
theorem clkM_lo {n : Nat} {X : Nat → Nat → Nat} (h : clkM m n X) (hs : sm lowS m m') : clkM m' n X := clkM_sm h hs (by intro a k; unfold dWM lowS; omega)
theorem clkF_hi {n : Nat} {X : Nat → Nat → Nat} (h : clkF m n X) (hs : sm higS m m') : clkF m' n X := clkF_sm h hs (by intro a k; unfold dWF higS; omega)
theorem earsM_lo {E : Nat → Nat} (h : earsM m E) (hs : sm lowS m m') : earsM m' E := earsM_sm h hs (by intro k; unfold lowS; omega)
theorem earsF_hi {E : Nat → Nat} (h : earsF m E) (hs : sm higS m m') : earsF m' E := earsF_sm h hs (by intro k; unfold higS; omega)
theorem askM_lo {I : Nat} {Wn : Nat → Nat → Nat} {wd : Nat} {Pr : Nat → Nat → Nat} (h : askM m I Wn wd Pr) (hs : sm lowS m m') : askM m' I Wn wd Pr := askM_sm h hs (by intro a k; unfold dKM lowS; omega)
theorem askF_hi {I : Nat} {Wn : Nat → Nat → Nat} {wd : Nat} {Pr : Nat → Nat → Nat} (h : askF m I Wn wd Pr) (hI : I ≤ 12) (hs : sm higS m m') : askF m' I Wn wd Pr := askF_sm h hI hs (by intro a k; unfold dKF higS; omega)
theorem codeM_lo {cs : List Nat} (h : codeM m cs) (hl : cs.length ≤ 40) (hs : sm lowS m m') : codeM m' cs := codeM_sm h hl hs (by intro a k; unfold dCM lowS; omega)
theorem codeF_hi {cs : List Nat} (h : codeF m cs) (hs : sm higS m m') : codeF m' cs := codeF_sm h hs (by intro a k; unfold dCF higS; omega)
theorem rM_lo {vs : List Int64} (h : rM m vs) (hs : sm lowS m m') : rM m' vs := rM_sm h hs (by unfold lowS; omega) (by intro k; unfold lowS; omega)
theorem rF_hi {vs : List Int64} (h : rF m vs) (hs : sm higS m m') : rF m' vs := rF_sm h hs (by unfold higS; omega) (by intro k; unfold higS; omega)
theorem zwF_hi (h : zwF m) (hs : sm higS m m') : zwF m' := zwF_sm h hs (by intro a k; unfold higS; omega)
theorem spM_lo (h : spM m) (hs : sm lowS m m') : spM m' := spM_sm h hs (by intro a k; unfold lowS; omega)
def Step2 (f g : jx_Mem → Option (Int32 × jx_Mem)) (m : jx_Mem) : Prop := ∃ v m1 m2, f m = some (v, m1) ∧ g m1 = some (v, m2) ∧ Inv m2
variable {f g : jx_Mem → Option (Int32 × jx_Mem)} {v : Int32} {vs : List Int64} {P : Nat} {ZF ZM : Nat → Nat → Prop}
theorem Inv_of (h : InvP P m) : Inv m := ⟨P, h⟩
theorem InvP_scr (h : InvP P m) (hs : sm wScr m m') (hr : roI m') (hz : zwF m') (hp : spM m') : InvP P m' :=
  Inv_ea h (hs.mono (fun _ _ z => Or.inr z)) (eaI_sm h.2.2.2.2.2.2.1 hs (by intro a k; unfold wScr; omega)) hr hz hp
theorem stp_row (h : InvP P m) (hl : vs.length ≤ 12) (e1 : f m = some (v, m1)) (s1 : sm ZF m m1) (r1 : rF m1 vs) (e2 : g m1 = some (v, m2)) (s2 : sm ZM m1 m2) (r2 : rM m2 vs) (hF : ∀ a k, ZF a k → wScr a k ∧ a < 63 ∧ a ≠ 50) (hM : ∀ a k, ZM a k → wScr a k ∧ 63 ≤ a ∧ a ≠ 104) : Step2 f g m := by
  have s1' : sm lowS m m1 := s1.mono (fun a k z => (hF a k z).2.1)
  have s2' : sm higS m1 m2 := s2.mono (fun a k z => (hM a k z).2.1)
  refine ⟨v, m1, m2, e1, e2, Inv_of (InvP_scr h ((s1.mono (fun a k z => (hF a k z).1)).tr (s2.mono (fun a k z => (hM a k z).1))) ⟨vs, hl, rF_hi r1 s2', r2⟩ ?_ ?_)⟩
  · exact zwF_hi (zwF_sm h.2.2.2.2.2.2.2.2.2.2.2.2.1 s1 (fun a k q z => (hF a k z).2.2 q)) s2'
  · exact spM_sm (spM_lo h.2.2.2.2.2.2.2.2.2.2.2.2.2 s1') s2 (fun a k q z => (hM a k z).2.2 q)
theorem stp_no (h : InvP P m) (e1 : f m = some (v, m)) (e2 : g m = some (v, jx_w1 m 63 0 0)) : Step2 f g m :=
  ⟨v, m, _, e1, e2, Inv_of (InvP_th h 0)⟩
theorem stp_scr (h : InvP P m) (e1 : f m = some (v, m1)) (s1 : sm ZF m m1) (e2 : g m1 = some (v, m2)) (s2 : sm ZM m1 m2) (hF : ∀ a k, ZF a k → wScr a k ∧ ¬ (wRF a k ∨ wRM a k ∨ a = 50 ∨ a = 104)) (hM : ∀ a k, ZM a k → wScr a k ∧ ¬ (wRF a k ∨ wRM a k ∨ a = 50 ∨ a = 104)) : Step2 f g m := by
  have hs : sm (fun a k => wScr a k ∧ ¬ (wRF a k ∨ wRM a k ∨ a = 50 ∨ a = 104)) m m2 := (s1.mono hF).tr (s2.mono hM)
  obtain ⟨k1, k2, k3⟩ := keep3 h hs (fun a k z => z.2)
  exact ⟨v, m1, m2, e1, e2, Inv_of (InvP_scr h (hs.mono (fun a k z => z.1)) k1 k2 k3)⟩
end STEPS
