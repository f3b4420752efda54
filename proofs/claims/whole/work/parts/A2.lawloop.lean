/-! the law's loop -/
def lOffs : Array Int := #[220, 269, 306, 343, 392, 429, 497, 522, 547, 596, 669, 706, 743, 768, 805, 830, 867, 904, 929, 954, 967, 1004, 1017, 1066, 1115, 1183, 1208, 1233, 1246, 1283, 1296, 1345, 1406, 1431, 1468, 1481, 1530, 1543, 1568, 1581, 1618, 1655, 1692, 1705, 1718, 1755, 1792, 1841, 1890, 1915, 1940]
theorem l_d : decode code 23 = .ok (.iload 4, 2) ∧ decode code 25 = .ok (.aload_n 0, 1) ∧ decode code 26 = .ok (.arraylength, 1) ∧ decode code 27 = .ok (.bipush 6, 2) ∧ decode code 29 = .ok (.isub, 1) ∧ decode code 30 = .ok (.if_icmp .gt 2011, 3) ∧ decode code 33 = .ok (.aload_n 0, 1) ∧ decode code 34 = .ok (.iload 4, 2) ∧ decode code 36 = .ok (.iaload, 1) ∧ decode code 37 = .ok (.bipush 63, 2) ∧ decode code 39 = .ok (.iand, 1) ∧ decode code 40 = .ok (.tableswitch 1995 0 50 lOffs, 220) ∧ decode code 2035 = .ok (.iinc 4 6, 3) ∧ decode code 2038 = .ok (.goto (-2015), 3) ∧ decode code 2041 = .ok (.iconst 1, 1) ∧ decode code 2042 = .ok (.ireturn, 1) := by
  repeat' apply And.intro
  all_goals decide +kernel
theorem l_offs : ∀ q, q < 51 → lOffs[q]? = some ((lTg.getD q 0 : Int) - 40) := by decide +kernel
theorem l_nat (x : Int32) : x = nI x.toBitVec.toNat := by
  apply Int32.toBitVec_inj.mp
  show x.toBitVec = BitVec.ofNat 32 x.toBitVec.toNat
  rw [BitVec.ofNat_toNat, BitVec.setWidth_eq]
theorem l_and63 (x : Int32) : ∃ q, q < 64 ∧ x &&& nI 63 = nI q := by
  refine ⟨x.toBitVec.toNat % 64, Nat.mod_lt _ (by decide), ?_⟩
  have h := fa_mask x.toBitVec.toNat 6
  rw [← l_nat x] at h
  exact h
theorem l_gt {k L : Nat} (hk : k ≤ 4000) (hL : L ≤ 3072) : nI k > nI L - nI 6 ↔ ¬ k + 6 ≤ L := by
  have h1 := nI_toInt (n := k) (by omega)
  have h2 := nI_toInt (n := L) (by omega)
  have h3 := nI_toInt (n := 6) (by omega)
  rw [gt_iff_lt, Int32.lt_iff_toInt_lt, fb_subI (by rw [h2, h3]; omega) (by rw [h2, h3]; omega), h1, h2, h3]
  omega
section LL
variable {p : Program} {l : Launch} {e : Env} {s : State} {m : MethodId} {below : List Frame} {meth : Method} {c : Code} {b L : Nat} {xs : Nat → Int32} {ad adV : Nat → Nat} {D : va_G} {cs : ClassId × ClassId × ClassId} {A : Nat → Prop} {μ : jx_Mem} {H : Heap} {ls : Array Slot} {k cells slots : Nat}
theorem l_head (C : lC p s m c b L xs A) (hr : meth.sig.returnType = ret) (hlocks : meth.locks = false) (hk : k ≤ 4000) (hcells : cells ≤ 601024) (hslots : slots ≤ 7293034) (hS : va_S A s.heap H []) (hl : lv_has ls 8 (lv5 b ad k))
    (kk : k + 6 ≤ L → W p l e room_1 s m #[Value.ref b] below meth c H [] cells slots (lw_Z below #[Value.ref b] s) (F0 m 33 ls [])) : W p l e room_1 s m #[Value.ref b] below meth c H [] cells slots (lw_Z below #[Value.ref b] s) (F0 m 23 ls []) := by
  obtain ⟨d23, d25, d26, d27, d29, d30, -, -, -, -, -, -, -, -, d2041, d2042⟩ := l_d
  obtain ⟨hx, hb, hml, hown, hts, hXs, hbl, hL, hA⟩ := C
  have hbA : ¬ A b := fun q => absurd ((hA b).mp q) (Nat.not_le.mpr hbl)
  refine lv_iload hx hb d23 (lv_at hl 4 rfl) ?_
  refine lv_aload_n hx hb d25 rfl (lv_at hl 0 rfl) ?_
  refine va_slen hx hb hXs hbl hbA hS d26 ?_
  refine lv_bipush (v := nI 6) hx hb d27 rfl ?_
  refine lv_isub hx hb d29 ?_
  refine lv_icmp_gt hx hb d30 (tgt := 2041) rfl (fun q => ?_) (fun q => kk ?_)
  · exact lv_iconst (v := 1) hx hb d2041 rfl (W.widen hcells hslots (lw_ret hx hb hr hlocks d2042))
  · by_cases h : k + 6 ≤ L
    · exact h
    · exact absurd ((l_gt hk hL).mpr h) q
theorem l_body (ht : l.stackTraces = false) (C : lC p s m c b L xs A) (hI : Inv μ) (hk : k + 6 ≤ L) (hl : lv_has ls 8 (lv5 b ad k)) (hf : cells + 1 ≤ room_1.cells ∧ slots + 6 ≤ room_1.slots)
    (hW : jx_P ad D cs A (jx_X2 ad adV A) μ H s) (hS : va_S A s.heap H [])
    (kk : ∀ (μ2 : jx_Mem) (H1 : Heap) (ls1 : Array Slot), Inv μ2 → jx_P ad D cs A (jx_X2 ad adV A) μ2 H1 s → va_S A s.heap H1 [] → lv_has ls1 8 (lv5 b ad (k + 6)) → W p l e room_1 s m #[Value.ref b] below meth c H1 [] (cells + 1) (slots + 6) (lw_Z below #[Value.ref b] s) (F0 m 23 ls1 [])) : W p l e room_1 s m #[Value.ref b] below meth c H [] cells slots (lw_Z below #[Value.ref b] s) (F0 m 33 ls []) := by
  obtain ⟨-, -, -, -, -, -, d33, d34, d36, d37, d39, d40, d2035, d2038, -, -⟩ := l_d
  have C1 := C
  obtain ⟨hx, hb, hml, hown, hts, hXs, hbl, hL, hA⟩ := C
  have hbA : ¬ A b := fun q => absurd ((hA b).mp q) (Nat.not_le.mpr hbl)
  have k2 : ∀ (μ2 : jx_Mem) (H1 : Heap) (ls1 : Array Slot), Inv μ2 → jx_P ad D cs A (jx_X2 ad adV A) μ2 H1 s → va_S A s.heap H1 [] → lv_has ls1 8 (lv5 b ad k) → W p l e room_1 s m #[Value.ref b] below meth c H1 [] (cells + 1) (slots + 6) (lw_Z below #[Value.ref b] s) (F0 m 2035 ls1 []) := by
    intro μ2 H1 ls1 hI1 hW1 hS1 hl1
    refine lv_iinc (k := 4) (v := nI (k + 6)) (lv' := [(4, .int (nI (k + 6))), (0, .ref b), (1, .ref (ad 0)), (2, .ref (ad 63)), (3, .ref (ad 109))]) hx hb d2035 hl1 rfl (nI_add k 6) (by decide) rfl (fun ls2 hl2 => ?_)
    refine lv_goto hx hb d2038 (tgt := 23) rfl ?_
    exact kk μ2 H1 ls2 hI1 hW1 hS1 (lv_sub hl2 [1, 2, 3, 4, 0] rfl)
  have hkk : (nI k).toNatClampNeg = k := nI_clamp (by omega)
  refine lv_aload_n hx hb d33 rfl (lv_at hl 0 rfl) ?_
  refine lv_iload hx hb d34 (lv_at hl 4 rfl) ?_
  refine va_sld hx hb hXs hbl hbA hS (jx_in_vp (jx_in_t (by rw [nI_toInt (by omega)]; omega) (by rw [nI_toInt (by omega)]; omega))) d36 ?_
  rw [hkk]
  refine lv_bipush (v := nI 63) hx hb d37 rfl ?_
  refine lv_iand hx hb d39 ?_
  obtain ⟨q, hq, e1⟩ := l_and63 (xs k)
  rw [e1]
  have e2 := nI_toInt (n := q) (by omega)
  by_cases h : q < 51
  · refine lv_tableIn hx hb d40 (tgt := lTg.getD q 0) (off := (lTg.getD q 0 : Int) - 40) (by rw [e2]; omega) (by rw [e2]; omega) ?_ (by omega) ?_
    · rw [e2, show ((q : Int) - 0).toNat = q by omega]
      exact l_offs q h
    · exact lq_all ht C1 hI hk hl hf hW hS k2 q h
  · refine lv_tableOut hx hb d40 (tgt := 2035) (Or.inr (by rw [e2]; omega)) rfl ?_
    exact W.widen (Nat.le_add_right _ _) (Nat.le_add_right _ _) (k2 μ H ls hI hW hS hl)
theorem l_loop (ht : l.stackTraces = false) (C : lC p s m c b L xs A) (hr : meth.sig.returnType = ret) (hlocks : meth.locks = false) : ∀ (d k cells slots : Nat) (H : Heap) (μ : jx_Mem) (ls : Array Slot), L < k + 6 * d + 6 → k ≤ 4000 → cells + d ≤ 601024 → slots + 6 * d ≤ 7293034 → Inv μ → jx_P ad D cs A (jx_X2 ad adV A) μ H s → va_S A s.heap H [] → lv_has ls 8 (lv5 b ad k) →
    W p l e room_1 s m #[Value.ref b] below meth c H [] cells slots (lw_Z below #[Value.ref b] s) (F0 m 23 ls []) := by
  intro d
  induction d with
  | zero => intro k cells slots H μ ls h1 h2 h3 h4 hI hW hS hl; exact l_head C hr hlocks h2 (by omega) (by omega) hS hl (fun q => absurd q (by omega))
  | succ d ih =>
    intro k cells slots H μ ls h1 h2 h3 h4 hI hW hS hl
    refine l_head C hr hlocks h2 (by omega) (by omega) hS hl (fun q => ?_)
    have hL := C.2.2.2.2.2.2.2.1
    exact l_body ht C hI q hl ⟨by show cells + 1 ≤ 601024; omega, by show slots + 6 ≤ 7293034; omega⟩ hW hS (fun μ2 H1 ls1 hI1 hW1 hS1 hl1 => ih (k + 6) (cells + 1) (slots + 6) H1 μ2 ls1 (by omega) (by omega) (by omega) (by omega) hI1 hW1 hS1 hl1)
end LL
