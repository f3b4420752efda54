/-! what holds between two calls -/
section INV
variable {m m' m1 m2 : jx_Mem} {Z : Nat → Nat → Prop}
def goI (m : jx_Mem) : Prop := ∃ G K O C N, gGoods G K O C N ∧ goodsF m G K O C N ∧ goodsM m G K O C N
def noI (m : jx_Mem) : Prop := ∃ H Y V, gNoise H Y V ∧ noiseF m H Y V ∧ noiseM m H Y V
def aiI (m : jx_Mem) : Prop := ∃ Q, gAir Q ∧ airF m Q ∧ airM m Q
def eaI (m : jx_Mem) : Prop := ∃ E, gEars E ∧ earsF m E ∧ earsM m E
def itI (P : Nat) (m : jx_Mem) : Prop := ∃ I S Gd Ow Sd Y Wn wd Pr, gItems P I S Gd Ow Sd Y ∧ itemsF m I S Gd Ow Sd Y ∧ itemsM m I S Gd Ow Sd Y ∧ gAsk I Wn wd Pr ∧ askF m I Wn wd Pr ∧ askM m I Wn wd Pr
def txI (m : jx_Mem) : Prop := ∃ tl tx, gText tl tx ∧ textF m tl tx ∧ textM m tl tx
def ctI (m : jx_Mem) : Prop := ∃ c, gCnt c ∧ cntF m c ∧ cntM m c
def stI (P : Nat) (m : jx_Mem) : Prop := ∃ n B, gStay P n B ∧ stayF m n B ∧ stayM m n B
def ckI (m : jx_Mem) : Prop := ∃ n X, gClk n X ∧ clkF m n X ∧ clkM m n X
def coI (m : jx_Mem) : Prop := ∃ cs, gCode cs ∧ codeF m cs ∧ codeM m cs
def roI (m : jx_Mem) : Prop := ∃ vs : List Int64, vs.length ≤ 12 ∧ rF m vs ∧ rM m vs
def miI (P : Nat) (m : jx_Mem) : Prop := ∃ T D W A U L, gMine T P D W A U L ∧ mineF m T P D W A U L ∧ mineM m T P D W A U L
def dcW (a k : Nat) : Prop := (a = 38 ∧ k = 4) ∨ (39 ≤ a ∧ a ≤ 41) ∨ (a = 63 ∧ k = 38) ∨ (89 ≤ a ∧ a ≤ 91)
def dsW (a k : Nat) : Prop := (a = 38 ∧ k = 9) ∨ (42 ≤ a ∧ a ≤ 45) ∨ (a = 63 ∧ k = 42) ∨ (92 ≤ a ∧ a ≤ 95)
def dkW (a k : Nat) : Prop := (a = 38 ∧ k = 13) ∨ (46 ≤ a ∧ a ≤ 48) ∨ (a = 63 ∧ k = 52) ∨ (99 ≤ a ∧ a ≤ 101)
theorem goI_sm (h : goI m) (hs : sm Z m m') (hz : ∀ a k, dGF a k ∨ dGM a k → ¬ Z a k) : goI m' := by
  obtain ⟨G, K, O, C, N, g, a, b⟩ := h
  exact ⟨G, K, O, C, N, g, goodsF_sm a hs (fun a k q => hz a k (Or.inl q)), goodsM_sm b hs (fun a k q => hz a k (Or.inr q))⟩
theorem noI_sm (h : noI m) (hs : sm Z m m') (hz : ∀ a k, dNF a k ∨ dNM a k → ¬ Z a k) : noI m' := by
  obtain ⟨H, Y, V, g, a, b⟩ := h
  exact ⟨H, Y, V, g, noiseF_sm a hs (fun a k q => hz a k (Or.inl q)), noiseM_sm b hs (fun a k q => hz a k (Or.inr q))⟩
theorem aiI_sm (h : aiI m) (hs : sm Z m m') (hz : ∀ a k, dAF a k ∨ dAM a k → ¬ Z a k) : aiI m' := by
  obtain ⟨Q, g, a, b⟩ := h
  exact ⟨Q, g, airF_sm a hs (fun a k q => hz a k (Or.inl q)), airM_sm b hs (fun a k q => hz a k (Or.inr q))⟩
theorem eaI_sm (h : eaI m) (hs : sm Z m m') (hz : ∀ a k, a = 61 ∨ a = 108 → ¬ Z a k) : eaI m' := by
  obtain ⟨E, g, a, b⟩ := h
  exact ⟨E, g, earsF_sm a hs (fun k => hz 61 k (Or.inl rfl)), earsM_sm b hs (fun k => hz 108 k (Or.inr rfl))⟩
theorem itI_sm {P : Nat} (h : itI P m) (hs : sm Z m m') (hz : ∀ a k, dIF a k ∨ dIM a k ∨ dKF a k ∨ dKM a k → ¬ Z a k) : itI P m' := by
  obtain ⟨I, S, Gd, Ow, Sd, Y, Wn, wd, Pr, g, a, b, g2, c, d⟩ := h
  exact ⟨I, S, Gd, Ow, Sd, Y, Wn, wd, Pr, g, itemsF_sm a hs (fun a k q => hz a k (Or.inl q)), itemsM_sm b hs (fun a k q => hz a k (Or.inr (Or.inl q))), g2, askF_sm c g.1 hs (fun a k q => hz a k (Or.inr (Or.inr (Or.inl q)))), askM_sm d hs (fun a k q => hz a k (Or.inr (Or.inr (Or.inr q))))⟩
theorem txI_sm (h : txI m) (hs : sm Z m m') (hz : ∀ a k, dTF a k ∨ dTM a k → ¬ Z a k) : txI m' := by
  obtain ⟨tl, tx, g, a, b⟩ := h
  exact ⟨tl, tx, g, textF_sm a hs (fun a k q => hz a k (Or.inl q)), textM_sm b hs (fun a k q => hz a k (Or.inr q))⟩
theorem coI_sm (h : coI m) (hs : sm Z m m') (hz : ∀ a k, dCF a k ∨ dCM a k → ¬ Z a k) : coI m' := by
  obtain ⟨cs, g, a, b⟩ := h
  exact ⟨cs, g, codeF_sm a hs (fun a k q => hz a k (Or.inl q)), codeM_sm b g.1 hs (fun a k q => hz a k (Or.inr q))⟩
theorem roI_sm (h : roI m) (hs : sm Z m m') (hz : ∀ a k, wRF a k ∨ wRM a k → ¬ Z a k) : roI m' := by
  obtain ⟨vs, g, a, b⟩ := h
  exact ⟨vs, g, rF_sm a hs (hz 1 1 (by unfold wRF; omega)) (fun k => hz 2 k (by unfold wRF; omega)), rM_sm b hs (hz 63 1 (by unfold wRM; omega)) (fun k => hz 64 k (by unfold wRM; omega))⟩
theorem miI_sm {P : Nat} (h : miI P m) (hs : sm Z m m') (hz : ∀ a k, dMF a k ∨ dMM a k → ¬ Z a k) : miI P m' := by
  obtain ⟨T, D, W, A, U, L, g, a, b⟩ := h
  exact ⟨T, D, W, A, U, L, g, mineF_sm a hs (fun a k q => hz a k (Or.inl q)), mineM_sm b hs (fun a k q => hz a k (Or.inr q))⟩
theorem lsC_sm {a b d : Nat} {l : List cT} (h : lsC m a b d l) (hs : sm Z m m') (ha : ∀ k, ¬ Z a k) (hb : ∀ k, ¬ Z b k) (hd : ∀ k, ¬ Z d k) : lsC m' a b d l :=
  fun k hk => ⟨(hs a k (ha k)).1.trans (h k hk).1, (hs b k (hb k)).1.trans (h k hk).2.1, (hs d k (hd k)).1.trans (h k hk).2.2⟩
theorem ctI_sm (h : ctI m) (hs : sm Z m m') (hz : ∀ a k, dcW a k → ¬ Z a k) : ctI m' := by
  obtain ⟨c, g, a, b⟩ := h
  refine ⟨c, g, ⟨(hs 38 4 (hz _ _ (by unfold dcW; omega))).1.trans a.1, lsC_sm a.2 hs (fun k => hz _ _ (by unfold dcW; omega)) (fun k => hz _ _ (by unfold dcW; omega)) (fun k => hz _ _ (by unfold dcW; omega))⟩, ⟨(hs 63 38 (hz _ _ (by unfold dcW; omega))).1.trans b.1, lsC_sm b.2 hs (fun k => hz _ _ (by unfold dcW; omega)) (fun k => hz _ _ (by unfold dcW; omega)) (fun k => hz _ _ (by unfold dcW; omega))⟩⟩
theorem stI_sm {P : Nat} (h : stI P m) (hs : sm Z m m') (hz : ∀ a k, dsW a k → ¬ Z a k) : stI P m' := by
  obtain ⟨n, B, g, a, b⟩ := h
  have f : ∀ a k, dsW a k → m'.1 a k = m.1 a k := fun a k q => (hs a k (hz a k q)).1
  refine ⟨n, B, g, ⟨(f 38 9 (by unfold dsW; omega)).trans a.1, fun k hk => ?_⟩, ⟨(f 63 42 (by unfold dsW; omega)).trans b.1, fun k hk => ?_⟩⟩
  · rw [f 42 k (by unfold dsW; omega), f 43 k (by unfold dsW; omega), f 44 k (by unfold dsW; omega), f 45 k (by unfold dsW; omega)]
    exact a.2 k hk
  · rw [f 92 k (by unfold dsW; omega), f 93 k (by unfold dsW; omega), f 94 k (by unfold dsW; omega), f 95 k (by unfold dsW; omega)]
    exact b.2 k hk
theorem ckI_sm (h : ckI m) (hs : sm Z m m') (hz : ∀ a k, dkW a k → ¬ Z a k) : ckI m' := by
  obtain ⟨n, X, g, a, b⟩ := h
  have f : ∀ a k, dkW a k → m'.1 a k = m.1 a k := fun a k q => (hs a k (hz a k q)).1
  refine ⟨n, X, g, ⟨(f 38 13 (by unfold dkW; omega)).trans a.1, fun k hk => ?_⟩, ⟨(f 63 52 (by unfold dkW; omega)).trans b.1, fun k hk => ?_⟩⟩
  · rw [f 46 k (by unfold dkW; omega), f 47 k (by unfold dkW; omega), f 48 k (by unfold dkW; omega)]
    exact a.2 k hk
  · rw [f 99 k (by unfold dkW; omega), f 100 k (by unfold dkW; omega), f 101 k (by unfold dkW; omega)]
    exact b.2 k hk
theorem zwF_sm (h : zwF m) (hs : sm Z m m') (hz : ∀ a k, a = 50 → ¬ Z a k) : zwF m' := fun k h0 h1 => (hs 50 k (hz 50 k rfl)).1.trans (h k h0 h1)
theorem spM_sm (h : spM m) (hs : sm Z m m') (hz : ∀ a k, a = 104 → ¬ Z a k) : spM m' := fun q h0 => (hs 104 q (hz 104 q rfl)).1.trans (h q h0)
def Inv (m : jx_Mem) : Prop := ∃ P, miI P m ∧ itI P m ∧ stI P m ∧ goI m ∧ noI m ∧ aiI m ∧ eaI m ∧ txI m ∧ ctI m ∧ ckI m ∧ coI m ∧ roI m ∧ zwF m ∧ spM m
/-- cells that no picture reads, and the row's -/
def wScr (a k : Nat) : Prop := (a = 1 ∧ k = 1) ∨ a = 2 ∨ a = 15 ∨ a = 16 ∨ a = 17 ∨ a = 24 ∨ a = 25 ∨ a = 36 ∨ a = 37 ∨ (a = 35 ∧ 120 ≤ k) ∨ (49 ≤ a ∧ a ≤ 51) ∨ (55 ≤ a ∧ a ≤ 58) ∨ (a = 52 ∧ 8 ≤ k) ∨ a = 62 ∨ (a = 63 ∧ (k = 0 ∨ k = 1 ∨ k = 50 ∨ k = 51)) ∨ a = 64 ∨ (73 ≤ a ∧ a ≤ 76) ∨ a = 79 ∨ a = 86 ∨ a = 87 ∨ (96 ≤ a ∧ a ≤ 98) ∨ (102 ≤ a ∧ a ≤ 104) ∨ a = 107
theorem Inv_scr (h : Inv m) (hs : sm wScr m m') (hr : roI m') (hz : zwF m') (hp : spM m') : Inv m' := by
  obtain ⟨P, mi, it, st, go, no, ai, ea, tx, ct, ck, co, ro, zw, sp⟩ := h
  refine ⟨P, miI_sm mi hs ?_, itI_sm it hs ?_, stI_sm st hs ?_, goI_sm go hs ?_, noI_sm no hs ?_, aiI_sm ai hs ?_, eaI_sm ea hs ?_, txI_sm tx hs ?_, ctI_sm ct hs ?_, ckI_sm ck hs ?_, coI_sm co hs ?_, hr, hz, hp⟩
  · intro a k; unfold dMF dMM wScr; omega
  · intro a k; unfold dIF dIM dKF dKM wScr; omega
  · intro a k; unfold dsW wScr; omega
  · intro a k; unfold dGF dGM wScr; omega
  · intro a k; unfold dNF dNM wScr; omega
  · intro a k; unfold dAF dAM wScr; omega
  · intro a k; unfold wScr; omega
  · intro a k; unfold dTF dTM wScr; omega
  · intro a k; unfold dcW wScr; omega
  · intro a k; unfold dkW wScr; omega
  · intro a k; unfold dCF dCM wScr; omega
end INV
