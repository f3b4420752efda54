theorem st_good {y : MethodName} {b : ByteArray} {n : Nat} {r : Option FieldType} (hc : Cond.code y b n r ∈ jx_tbl) : GoodIn jx_tbl (st_ws y b n r) := by
  intro w hw
  rcases List.mem_cons.mp hw with rfl | hw
  · exact ⟨hc, good_of_word (List.mem_filter.mp hc).2⟩
  · exact ⟨hw, good_of_word (List.mem_filter.mp hw).2⟩
/-- what the world holds beside the cells: the reference's String constants, two statics -/
def jx_X (ad adV : Nat → Nat) (A : Nat → Prop) (H : Heap) (U : State) : Prop :=
  (∀ (k : Nat) (t : Nat × String), jx_stx[k]? = some t → vk_R "FairByEarModel" t.1 t.2 (ad (900 + k)) U) ∧ vk_S 9 (jx_str.map List.length) jx_str (fun k => ad (900 + k)) adV A U H ∧ va_Z "java/lang/String" "COMPACT_STRINGS" "Z" (.int 1) A U H ∧ va_Zq "jdk/internal/util/Preconditions" "SIOOBE_FORMATTER" "Ljava/util/function/BiFunction;" A U H
theorem jx_X_XK (ad adV : Nat → Nat) (A : Nat → Prop) : jx_XK A (jx_X ad adV A) := by
  refine ⟨fun H s U hW h => ⟨fun k t hk => (h.1 k t hk).warm hW, vk_S.moved hW.alike h.2.1, va_Z.moved hW.alike h.2.2.1, va_Zq.moved hW.alike h.2.2.2⟩, fun H u U hv h => ?_, fun H H1 U hq h => ⟨h.1, h.2.1.kept hq, h.2.2.1.kept hq, h.2.2.2.kept hq⟩⟩
  have hal : u.vm.Alike U.vm := by rw [hv]; exact Vm.Alike.refl _
  exact ⟨fun k t hk => (h.1 k t hk).same hv.symm, vk_S.moved hal h.2.1, va_Z.moved hal h.2.2.1, va_Zq.moved hal h.2.2.2⟩
theorem st_d1 : decode prog_31_method_11_code 0 = .ok (.iload_n 0, 1) ∧ decode prog_31_method_11_code 1 = .ok (.ifCond .lt 8, 3) ∧ decode prog_31_method_11_code 4 = .ok (.iload_n 0, 1) ∧ decode prog_31_method_11_code 5 = .ok (.iload_n 1, 1) ∧ decode prog_31_method_11_code 6 = .ok (.if_icmp .lt 10, 3) ∧ decode prog_31_method_11_code 16 = .ok (.iload_n 0, 1) ∧ decode prog_31_method_11_code 17 = .ok (.ireturn, 1) := by decide +kernel
theorem st_d2 : decode prog_22_method_155_code 0 = .ok (.iload_n 0, 1) ∧ decode prog_22_method_155_code 1 = .ok (.iload_n 1, 1) ∧ decode prog_22_method_155_code 2 = .ok (.getstatic 1053, 3) ∧ decode prog_22_method_155_code 5 = .ok (.invokestatic 1059, 3) ∧ decode prog_22_method_155_code 8 = .ok (.pop, 1) ∧ decode prog_22_method_155_code 9 = .ok (.return_, 1) := by decide +kernel
theorem st_d3 : decode prog_23_method_2_code 0 = .ok (.iload_n 1, 1) ∧ decode prog_23_method_2_code 1 = .ok (.aload_n 0, 1) ∧ decode prog_23_method_2_code 2 = .ok (.arraylength, 1) ∧ decode prog_23_method_2_code 3 = .ok (.invokestatic 9, 3) ∧ decode prog_23_method_2_code 6 = .ok (.aload_n 0, 1) ∧ decode prog_23_method_2_code 7 = .ok (.iload_n 1, 1) ∧ decode prog_23_method_2_code 8 = .ok (.baload, 1) ∧ decode prog_23_method_2_code 9 = .ok (.sipush 255, 3) ∧ decode prog_23_method_2_code 12 = .ok (.iand, 1) ∧ decode prog_23_method_2_code 13 = .ok (.i2c, 1) ∧ decode prog_23_method_2_code 14 = .ok (.ireturn, 1) := by decide +kernel
theorem st_d4 : decode prog_22_method_154_code 0 = .ok (.getstatic 38, 3) ∧ decode prog_22_method_154_code 3 = .ok (.ifCond .eq 14, 3) ∧ decode prog_22_method_154_code 6 = .ok (.aload_n 0, 1) ∧ decode prog_22_method_154_code 7 = .ok (.getfield 15, 3) ∧ decode prog_22_method_154_code 10 = .ok (.ifCond .ne 7, 3) ∧ decode prog_22_method_154_code 13 = .ok (.iconst 1, 1) ∧ decode prog_22_method_154_code 14 = .ok (.goto 4, 3) ∧ decode prog_22_method_154_code 18 = .ok (.ireturn, 1) := by decide +kernel
theorem st_d5 : decode prog_22_method_56_code 0 = .ok (.aload_n 0, 1) ∧ decode prog_22_method_56_code 1 = .ok (.invokevirtual 492, 3) ∧ decode prog_22_method_56_code 4 = .ok (.ifCond .eq 12, 3) ∧ decode prog_22_method_56_code 7 = .ok (.aload_n 0, 1) ∧ decode prog_22_method_56_code 8 = .ok (.getfield 9, 3) ∧ decode prog_22_method_56_code 11 = .ok (.iload_n 1, 1) ∧ decode prog_22_method_56_code 12 = .ok (.invokestatic 495, 3) ∧ decode prog_22_method_56_code 15 = .ok (.ireturn, 1) := by decide +kernel
theorem st_d6 : decode prog_22_method_152_code 0 = .ok (.getstatic 38, 3) ∧ decode prog_22_method_152_code 3 = .ok (.ifCond .eq 10, 3) ∧ decode prog_22_method_152_code 6 = .ok (.aload_n 0, 1) ∧ decode prog_22_method_152_code 7 = .ok (.getfield 15, 3) ∧ decode prog_22_method_152_code 10 = .ok (.goto 4, 3) ∧ decode prog_22_method_152_code 14 = .ok (.ireturn, 1) := by decide +kernel
theorem st_d7 : decode prog_22_method_54_code 0 = .ok (.aload_n 0, 1) ∧ decode prog_22_method_54_code 1 = .ok (.getfield 9, 3) ∧ decode prog_22_method_54_code 4 = .ok (.arraylength, 1) ∧ decode prog_22_method_54_code 5 = .ok (.aload_n 0, 1) ∧ decode prog_22_method_54_code 6 = .ok (.invokevirtual 335, 3) ∧ decode prog_22_method_54_code 9 = .ok (.ishr, 1) ∧ decode prog_22_method_54_code 10 = .ok (.ireturn, 1) := by decide +kernel
set_option maxHeartbeats 4000000 in
theorem st_c1 (l : Launch) (i n : Int32) (fv : Value) (h0 : ¬ i < 0) (h1 : i < n) : Met l st_y1 (st_ws st_y1 prog_31_method_11_code 3 (some .int)) (st_rm 0 0) (va_Pc [.int i, .int n, fv] (fun _ => fv.category = 1)) (vp_Si (fun r => r = i)) 0 0 (fun _ => False) := by
  refine Met.ofW (cc := prog_31_method_11_code) (maxL := 3) (ret := (some .int)) (by decide +kernel) rfl ?_
  intro p e s m args below meth c s₁ B hml hv
  obtain ⟨rfl, hfc⟩ := hv
  have hx := B.exec
  have hb := B.bytes
  have hr := B.returns
  have hlocks := B.notSynchronized
  obtain ⟨d0, d1, d4, d5, d6, d16, d17⟩ := st_d1
  have hl := lv_entry ([.int i, .int n, fv]) (n := 3) (by cases fv <;> first | exact Nat.le_of_ble_eq_true rfl | exact absurd hfc (by simp [Value.category]))
  rw [lg_entry_eq]
  generalize (lg_sl ([.int i, .int n, fv]) ++ List.replicate (3 - (lg_sl ([.int i, .int n, fv])).length) Slot.unset).toArray = ls at hl ⊢
  have hl : lv_has ls 3 [(0, .int i), (1, .int n), (2, fv)] := hl
  refine lv_iload_n hx hb d0 rfl (lv_at hl 0 rfl) ?_
  refine lv_if_lt hx hb d1 (tgt := 9) rfl (fun q => absurd q h0) (fun _ => ?_)
  refine lv_iload_n hx hb d4 rfl (lv_at hl 0 rfl) ?_
  refine lv_iload_n hx hb d5 rfl (lv_at hl 1 rfl) ?_
  refine lv_icmp_lt hx hb d6 (tgt := 16) rfl (fun _ => ?_) (fun q => absurd h1 q)
  refine lv_iload_n hx hb d16 rfl (lv_at hl 0 rfl) ?_
  exact W.iret (v := i) hx hb hr (fun t ht _ => ⟨i, rfl, rfl, ht⟩) (fun _ q => by cases q) d17
set_option maxHeartbeats 4000000 in
theorem st_c2 (l : Launch) (ad adV : Nat → Nat) (A : Nat → Prop) (i n : Int32) (h0 : ¬ i < 0) (h1 : i < n) : Met l st_y2 (st_ws st_y2 prog_22_method_155_code 2 none) (st_rm 1 22) (va_Pc [.int i, .int n] (fun U => jx_X ad adV A U.heap U)) (va_Sv (fun _ => True)) 0 0 (fun _ => False) := by
  refine Met.ofW (cc := prog_22_method_155_code) (maxL := 2) (ret := none) (by decide +kernel) rfl ?_
  intro p e s m args below meth c s₁ B hml hv
  obtain ⟨rfl, hX⟩ := hv
  have hx := B.exec
  have hb := B.bytes
  have hr := B.returns
  have hts0 := atoms_spec (ws := st_ws st_y2 prog_22_method_155_code 2 none) B.pre
  have hts : ∀ w ∈ jx_tbl, w.before _ s = true := fun w hw => hts0 w (List.mem_cons_of_mem _ hw)
  have hown : s.vm.findClass "java/lang/String" = some m.cls := findClass_of_methodNamed B.named
  have hlocks := B.notSynchronized
  obtain ⟨d0, d1, d2, d5, d8, d9⟩ := st_d2
  have hl := lv_entry ([.int i, .int n]) (n := 2) (Nat.le_of_ble_eq_true rfl)
  rw [lg_entry_eq]
  generalize (lg_sl ([.int i, .int n]) ++ List.replicate (2 - (lg_sl ([.int i, .int n])).length) Slot.unset).toArray = ls at hl ⊢
  have hl : lv_has ls 2 [(0, .int i), (1, .int n)] := hl
  refine lv_iload_n hx hb d0 rfl (lv_at hl 0 rfl) ?_
  refine lv_iload_n hx hb d1 rfl (lv_at hl 1 rfl) ?_
  have key : ∀ fv : Value, fv.category = 1 → va_Z "jdk/internal/util/Preconditions" "SIOOBE_FORMATTER" "Ljava/util/function/BiFunction;" fv A s s.heap → W p l e (headSpec (st_ws st_y2 prog_22_method_155_code 2 none) (st_rm 1 22)).room s m ([Value.int i, .int n]).toArray below meth c s.heap [] 0 0 (MQ below (va_Sv (fun _ => True)) ([Value.int i, .int n]).toArray s 0 0 (fun _ => False)) (F0 m 2 ls [.int n, .int i]) := by
    intro fv hfv hZ
    refine va_gets hx hb hZ va_S.rf hown (hts _ st_f1) (fun _ q => q) d2 ?_
    refine vp_callSi (W.runS (As := [.int i, .int n, fv]) (rest := []) ⟨hx, hb, hml, hown, hts⟩ (st_c1 l i n fv h0 h1) ⟨callB_of 3 hts (st_good st_m1) rfl rfl rfl (hts _ st_i1) (hts _ st_k1) (by decide +kernel) ⟨Nat.le_of_ble_eq_true rfl, Nat.le_of_ble_eq_true rfl⟩, hts _ st_s1⟩ ⟨fun a U g mk q => q, fun U _ _ => ⟨rfl, hfv⟩⟩ rfl rfl hl.1 rfl (lv_room (Nat.le_of_ble_eq_true rfl)) d5 ⟨Nat.zero_le _, Nat.zero_le _⟩) (fun r hr1 => ?_)
    refine lv_pop hx hb d8 rfl ?_
    exact W.vret hx hb hr (fun t ht _ => ⟨rfl, trivial, ht⟩) (fun _ q => by cases q) d9
  rcases hX.2.2.2 with hZ | ⟨t, hZ⟩
  · exact key .null rfl hZ
  · exact key (.ref t) rfl hZ

theorem st_lt {k : Nat} {t : List Int32} (h : jx_str[k]? = some t) : k < 9 := (List.getElem?_eq_some_iff.mp h).1
theorem st_len {k : Nat} {t : List Int32} (h : jx_str[k]? = some t) : (jx_str.map List.length).getD k 0 = t.length ∧ jx_str.getD k [] = t := by
  constructor
  · rw [List.getD_eq_getElem?_getD, List.getElem?_map, h]; rfl
  · rw [List.getD_eq_getElem?_getD, h]; rfl
theorem st_small {k : Nat} {t : List Int32} (h : jx_str[k]? = some t) : t.length < 100 ∧ ∀ b ∈ t, b &&& 255 = b := by
  have key : jx_str.all (fun t => decide (t.length < 100) && t.all (fun b => decide (b &&& 255 = b))) = true := by decide +kernel
  have h1 := List.all_eq_true.mp key t (List.mem_of_getElem? h)
  simp only [Bool.and_eq_true, decide_eq_true_eq] at h1
  exact ⟨h1.1, fun b hb => of_decide_eq_true (List.all_eq_true.mp h1.2 b hb)⟩
set_option maxHeartbeats 4000000 in
theorem st_c3 (l : Launch) (ad adV : Nat → Nat) (A : Nat → Prop) {k : Nat} {tx : List Int32} (hk : jx_str[k]? = some tx) (i : Int32) (hin : jx_in i tx.length = true) : Met l st_y3 (st_ws st_y3 prog_23_method_2_code 2 (some .char)) (st_rm 2 43) (va_Pc [.ref (adV k), .int i] (fun U => jx_X ad adV A U.heap U)) (vp_Si (fun r => r = tx.getD i.toNatClampNeg 0)) 0 0 (fun _ => False) := by
  refine Met.ofW (cc := prog_23_method_2_code) (maxL := 2) (ret := (some .char)) (by decide +kernel) rfl ?_
  intro p e s m args below meth c s₁ B hml hv
  obtain ⟨rfl, hX⟩ := hv
  have hx := B.exec
  have hb := B.bytes
  have hr := B.returns
  have hts0 := atoms_spec (ws := st_ws st_y3 prog_23_method_2_code 2 (some .char)) B.pre
  have hts : ∀ w ∈ jx_tbl, w.before _ s = true := fun w hw => hts0 w (List.mem_cons_of_mem _ hw)
  have hown : s.vm.findClass "java/lang/StringLatin1" = some m.cls := findClass_of_methodNamed B.named
  have hlocks := B.notSynchronized
  obtain ⟨d0, d1, d2, d3, d6, d7, d8, d9, d12, d13, d14⟩ := st_d3
  have hT := (hX.2.1.1 k (st_lt hk)).2.2.2
  rw [(st_len hk).1, (st_len hk).2] at hT
  have hvin := jx_in_vp hin
  have hl := lv_entry ([.ref (adV k), .int i]) (n := 2) (Nat.le_of_ble_eq_true rfl)
  rw [lg_entry_eq]
  generalize (lg_sl ([.ref (adV k), .int i]) ++ List.replicate (2 - (lg_sl ([.ref (adV k), .int i])).length) Slot.unset).toArray = ls at hl ⊢
  have hl : lv_has ls 2 [(0, .ref (adV k)), (1, .int i)] := hl
  refine lv_iload_n hx hb d0 rfl (lv_at hl 1 rfl) ?_
  refine lv_aload_n hx hb d1 rfl (lv_at hl 0 rfl) ?_
  refine va_tlen hx hb hT va_S.rf rfl d2 ?_
  have h0 : ¬ i < 0 := fun q => hvin (Or.inl q)
  have h1 : i < Int32.ofNat tx.length := by
    have hs := (st_small hk).1
    have h2 : i.toNatClampNeg < tx.length := Nat.not_le.mp (fun q => hvin (Or.inr q))
    obtain ⟨j, hj, rfl⟩ := nI_of h0
    rw [nI_clamp hj] at h2
    exact nI_lt h2 (by omega)
  refine va_csv (W.runS (As := [.int i, .int (Int32.ofNat tx.length)]) (rest := []) ⟨hx, hb, hml, hown, hts⟩ (st_c2 l ad adV A i (Int32.ofNat tx.length) h0 h1) ⟨callB_of 2 hts (st_good st_m2) rfl rfl rfl (hts _ st_i2) (hts _ st_k2) (by decide +kernel) ⟨Nat.le_of_ble_eq_true rfl, Nat.le_of_ble_eq_true rfl⟩, hts _ st_s2⟩ ⟨fun a U g mk q => ⟨q.1, (jx_X_XK ad adV A).2.1 U.heap U (U.calling g mk a) rfl q.2⟩, fun U hU hw => ⟨rfl, by show jx_X ad adV A U.heap U; rw [hU]; exact (jx_X_XK ad adV A).1 s.heap s U hw hX⟩⟩ rfl rfl hl.1 rfl (lv_room (Nat.le_of_ble_eq_true rfl)) d3 ⟨Nat.zero_le _, Nat.zero_le _⟩) (fun _ => ?_)
  refine lv_aload_n hx hb d6 rfl (lv_at hl 0 rfl) ?_
  refine lv_iload_n hx hb d7 rfl (lv_at hl 1 rfl) ?_
  refine va_tb hx hb hT va_S.rf hvin rfl d8 ?_
  refine lv_sipush (v := 255) hx hb d9 (by decide) ?_
  refine lv_iand hx hb d12 ?_
  refine lv_i2c hx hb d13 (sc_c2 _) ?_
  have hmem : tx.getD i.toNatClampNeg 0 ∈ tx := by
    have h2 : i.toNatClampNeg < tx.length := Nat.not_le.mp (fun q => hvin (Or.inr q))
    rw [List.getD_eq_getElem?_getD, List.getElem?_eq_getElem h2]
    exact List.getElem_mem h2
  exact W.zret hx hb hr (sc_nar _) (fun t ht _ => ⟨_, rfl, (st_small hk).2 _ hmem, ht⟩) (fun _ q => by cases q) d14
set_option maxHeartbeats 4000000 in
theorem st_c4 (l : Launch) (ad adV : Nat → Nat) (A : Nat → Prop) {k : Nat} (hk : k < 9) : Met l st_y4 (st_ws st_y4 prog_22_method_154_code 1 (some .boolean)) (st_rm 0 0) (va_Pc [.ref (ad (900 + k))] (fun U => jx_X ad adV A U.heap U)) (vp_Si (fun r => r = 1)) 0 0 (fun _ => False) := by
  refine Met.ofW (cc := prog_22_method_154_code) (maxL := 1) (ret := (some .boolean)) (by decide +kernel) rfl ?_
  intro p e s m args below meth c s₁ B hml hv
  obtain ⟨rfl, hX⟩ := hv
  have hx := B.exec
  have hb := B.bytes
  have hr := B.returns
  have hts0 := atoms_spec (ws := st_ws st_y4 prog_22_method_154_code 1 (some .boolean)) B.pre
  have hts : ∀ w ∈ jx_tbl, w.before _ s = true := fun w hw => hts0 w (List.mem_cons_of_mem _ hw)
  have hown : s.vm.findClass "java/lang/String" = some m.cls := findClass_of_methodNamed B.named
  have hlocks := B.notSynchronized
  obtain ⟨d0, d3, d6, d7, d10, d13, d14, d18⟩ := st_d4
  have hl := lv_entry ([.ref (ad (900 + k))]) (n := 1) (Nat.le_of_ble_eq_true rfl)
  rw [lg_entry_eq]
  generalize (lg_sl ([.ref (ad (900 + k))]) ++ List.replicate (1 - (lg_sl ([.ref (ad (900 + k))])).length) Slot.unset).toArray = ls at hl ⊢
  have hl : lv_has ls 1 [(0, .ref (ad (900 + k)))] := hl
  refine va_gets hx hb hX.2.2.1 va_S.rf hown (hts _ st_f2) (fun _ q => q) d0 ?_
  refine lv_if_eq hx hb d3 (tgt := 17) rfl (fun q => absurd q (by decide)) (fun _ => ?_)
  refine lv_aload_n hx hb d6 rfl (lv_at hl 0 rfl) ?_
  refine vk_getf hx hb (hX.2.1.1 k hk).2.1 va_S.rf hown (hts _ st_f4) (fun _ q => q) d7 ?_
  refine lv_if_ne hx hb d10 (tgt := 17) rfl (fun q => absurd rfl q) (fun _ => ?_)
  refine lv_iconst (v := 1) hx hb d13 (by decide) ?_
  refine lv_goto hx hb d14 (tgt := 18) rfl ?_
  exact W.zret hx hb hr (by decide) (fun t ht _ => ⟨_, rfl, rfl, ht⟩) (fun _ q => by cases q) d18
set_option maxHeartbeats 4000000 in
theorem st_c5 (l : Launch) (ad adV : Nat → Nat) (A : Nat → Prop) {k : Nat} {tx : List Int32} (hk : jx_str[k]? = some tx) (i : Int32) (hin : jx_in i tx.length = true) : Met l st_y5 (st_ws st_y5 prog_22_method_56_code 2 (some .char)) (st_rm 3 64) (va_Pc [.ref (ad (900 + k)), .int i] (fun U => jx_X ad adV A U.heap U)) (vp_Si (fun r => r = tx.getD i.toNatClampNeg 0)) 0 0 (fun _ => False) := by
  refine Met.ofW (cc := prog_22_method_56_code) (maxL := 2) (ret := (some .char)) (by decide +kernel) rfl ?_
  intro p e s m args below meth c s₁ B hml hv
  obtain ⟨rfl, hX⟩ := hv
  have hx := B.exec
  have hb := B.bytes
  have hr := B.returns
  have hts0 := atoms_spec (ws := st_ws st_y5 prog_22_method_56_code 2 (some .char)) B.pre
  have hts : ∀ w ∈ jx_tbl, w.before _ s = true := fun w hw => hts0 w (List.mem_cons_of_mem _ hw)
  have hown : s.vm.findClass "java/lang/String" = some m.cls := findClass_of_methodNamed B.named
  have hlocks := B.notSynchronized
  obtain ⟨d0, d1, d4, d7, d8, d11, d12, d15⟩ := st_d5
  have hvin := jx_in_vp hin
  have hl := lv_entry ([.ref (ad (900 + k)), .int i]) (n := 2) (Nat.le_of_ble_eq_true rfl)
  rw [lg_entry_eq]
  generalize (lg_sl ([.ref (ad (900 + k)), .int i]) ++ List.replicate (2 - (lg_sl ([.ref (ad (900 + k)), .int i])).length) Slot.unset).toArray = ls at hl ⊢
  have hl : lv_has ls 2 [(0, .ref (ad (900 + k))), (1, .int i)] := hl
  have hbl : ∀ av : List Value, FrameBlind (va_Pc av (fun U => jx_X ad adV A U.heap U)) := fun av a U g mk q => ⟨q.1, (jx_X_XK ad adV A).2.1 U.heap U (U.calling g mk a) rfl q.2⟩
  refine lv_aload_n hx hb d0 rfl (lv_at hl 0 rfl) ?_
  refine vp_callSi (W.runV (C := "java/lang/String") (b := ad (900 + k)) (As := []) (rest := []) ⟨hx, hb, hml, hown, hts⟩ (st_c4 l ad adV A (st_lt hk)) ⟨callB_of 0 hts (st_good st_m4) rfl rfl rfl (hts _ st_i2) (hts _ st_k4) (by decide +kernel) ⟨Nat.le_of_ble_eq_true rfl, Nat.le_of_ble_eq_true rfl⟩, hts _ st_n4.1, hts _ st_n4.2⟩ ⟨hbl _, vk_recv (adK := fun k => ad (900 + k)) (i := k) hX.2.1 (st_lt hk) va_S.rf, fun U hU hw => ⟨rfl, by show jx_X ad adV A U.heap U; rw [hU]; exact (jx_X_XK ad adV A).1 s.heap s U hw hX⟩⟩ rfl rfl hl.1 rfl (lv_room (Nat.le_of_ble_eq_true rfl)) d1 ⟨Nat.zero_le _, Nat.zero_le _⟩) (fun r hr1 => ?_)
  subst hr1
  refine lv_if_eq hx hb d4 (tgt := 16) rfl (fun q => absurd q (by decide)) (fun _ => ?_)
  refine lv_aload_n hx hb d7 rfl (lv_at hl 0 rfl) ?_
  refine vk_getf hx hb (hX.2.1.1 k (st_lt hk)).2.2.1 va_S.rf hown (hts _ st_f3) (fun _ q => q) d8 ?_
  refine lv_iload_n hx hb d11 rfl (lv_at hl 1 rfl) ?_
  refine vp_callSi (W.runS (As := [.ref (adV k), .int i]) (rest := []) ⟨hx, hb, hml, hown, hts⟩ (st_c3 l ad adV A hk i hin) ⟨callB_of 2 hts (st_good st_m3) rfl rfl rfl (hts _ st_i3) (hts _ st_k3) (by decide +kernel) ⟨Nat.le_of_ble_eq_true rfl, Nat.le_of_ble_eq_true rfl⟩, hts _ st_s3⟩ ⟨hbl _, fun U hU hw => ⟨rfl, by show jx_X ad adV A U.heap U; rw [hU]; exact (jx_X_XK ad adV A).1 s.heap s U hw hX⟩⟩ rfl rfl hl.1 rfl (lv_room (Nat.le_of_ble_eq_true rfl)) d12 ⟨Nat.zero_le _, Nat.zero_le _⟩) (fun r hr1 => ?_)
  subst hr1
  have hmem : tx.getD i.toNatClampNeg 0 ∈ tx := by
    have h2 : i.toNatClampNeg < tx.length := Nat.not_le.mp (fun q => hvin (Or.inr q))
    rw [List.getD_eq_getElem?_getD, List.getElem?_eq_getElem h2]
    exact List.getElem_mem h2
  have hn : narrow .char (.int (tx.getD i.toNatClampNeg 0)) = .int (tx.getD i.toNatClampNeg 0) := by
    have := sc_nar (tx.getD i.toNatClampNeg 0)
    rwa [(st_small hk).2 _ hmem] at this
  exact W.zret hx hb hr hn (fun t ht _ => ⟨_, rfl, rfl, ht⟩) (fun _ q => by cases q) d15
set_option maxHeartbeats 4000000 in
theorem st_c6 (l : Launch) (ad adV : Nat → Nat) (A : Nat → Prop) {k : Nat} (hk : k < 9) : Met l st_y6 (st_ws st_y6 prog_22_method_152_code 1 (some .byte)) (st_rm 0 0) (va_Pc [.ref (ad (900 + k))] (fun U => jx_X ad adV A U.heap U)) (vp_Si (fun r => r = 0)) 0 0 (fun _ => False) := by
  refine Met.ofW (cc := prog_22_method_152_code) (maxL := 1) (ret := (some .byte)) (by decide +kernel) rfl ?_
  intro p e s m args below meth c s₁ B hml hv
  obtain ⟨rfl, hX⟩ := hv
  have hx := B.exec
  have hb := B.bytes
  have hr := B.returns
  have hts0 := atoms_spec (ws := st_ws st_y6 prog_22_method_152_code 1 (some .byte)) B.pre
  have hts : ∀ w ∈ jx_tbl, w.before _ s = true := fun w hw => hts0 w (List.mem_cons_of_mem _ hw)
  have hown : s.vm.findClass "java/lang/String" = some m.cls := findClass_of_methodNamed B.named
  have hlocks := B.notSynchronized
  obtain ⟨d0, d3, d6, d7, d10, d14⟩ := st_d6
  have hl := lv_entry ([.ref (ad (900 + k))]) (n := 1) (Nat.le_of_ble_eq_true rfl)
  rw [lg_entry_eq]
  generalize (lg_sl ([.ref (ad (900 + k))]) ++ List.replicate (1 - (lg_sl ([.ref (ad (900 + k))])).length) Slot.unset).toArray = ls at hl ⊢
  have hl : lv_has ls 1 [(0, .ref (ad (900 + k)))] := hl
  refine va_gets hx hb hX.2.2.1 va_S.rf hown (hts _ st_f2) (fun _ q => q) d0 ?_
  refine lv_if_eq hx hb d3 (tgt := 13) rfl (fun q => absurd q (by decide)) (fun _ => ?_)
  refine lv_aload_n hx hb d6 rfl (lv_at hl 0 rfl) ?_
  refine vk_getf hx hb (hX.2.1.1 k hk).2.1 va_S.rf hown (hts _ st_f4) (fun _ q => q) d7 ?_
  refine lv_goto hx hb d10 (tgt := 14) rfl ?_
  exact W.zret hx hb hr (by decide) (fun t ht _ => ⟨_, rfl, rfl, ht⟩) (fun _ q => by cases q) d14
set_option maxHeartbeats 4000000 in
theorem st_c7 (l : Launch) (ad adV : Nat → Nat) (A : Nat → Prop) {k : Nat} {tx : List Int32} (hk : jx_str[k]? = some tx) : Met l st_y7 (st_ws st_y7 prog_22_method_54_code 1 (some .int)) (st_rm 1 20) (va_Pc [.ref (ad (900 + k))] (fun U => jx_X ad adV A U.heap U)) (vp_Si (fun r => r = Int32.ofNat tx.length)) 0 0 (fun _ => False) := by
  refine Met.ofW (cc := prog_22_method_54_code) (maxL := 1) (ret := (some .int)) (by decide +kernel) rfl ?_
  intro p e s m args below meth c s₁ B hml hv
  obtain ⟨rfl, hX⟩ := hv
  have hx := B.exec
  have hb := B.bytes
  have hr := B.returns
  have hts0 := atoms_spec (ws := st_ws st_y7 prog_22_method_54_code 1 (some .int)) B.pre
  have hts : ∀ w ∈ jx_tbl, w.before _ s = true := fun w hw => hts0 w (List.mem_cons_of_mem _ hw)
  have hown : s.vm.findClass "java/lang/String" = some m.cls := findClass_of_methodNamed B.named
  have hlocks := B.notSynchronized
  obtain ⟨d0, d1, d4, d5, d6, d9, d10⟩ := st_d7
  have hT := (hX.2.1.1 k (st_lt hk)).2.2.2
  rw [(st_len hk).1, (st_len hk).2] at hT
  have hl := lv_entry ([.ref (ad (900 + k))]) (n := 1) (Nat.le_of_ble_eq_true rfl)
  rw [lg_entry_eq]
  generalize (lg_sl ([.ref (ad (900 + k))]) ++ List.replicate (1 - (lg_sl ([.ref (ad (900 + k))])).length) Slot.unset).toArray = ls at hl ⊢
  have hl : lv_has ls 1 [(0, .ref (ad (900 + k)))] := hl
  refine lv_aload_n hx hb d0 rfl (lv_at hl 0 rfl) ?_
  refine vk_getf hx hb (hX.2.1.1 k (st_lt hk)).2.2.1 va_S.rf hown (hts _ st_f3) (fun _ q => q) d1 ?_
  refine va_tlen hx hb hT va_S.rf rfl d4 ?_
  refine lv_aload_n hx hb d5 rfl (lv_at hl 0 rfl) ?_
  refine vp_callSi (W.runV (C := "java/lang/String") (b := ad (900 + k)) (As := []) (rest := [.int (Int32.ofNat tx.length)]) ⟨hx, hb, hml, hown, hts⟩ (st_c6 l ad adV A (st_lt hk)) ⟨callB_of 0 hts (st_good st_m6) rfl rfl rfl (hts _ st_i2) (hts _ st_k6) (by decide +kernel) ⟨Nat.le_of_ble_eq_true rfl, Nat.le_of_ble_eq_true rfl⟩, hts _ st_n6.1, hts _ st_n6.2⟩ ⟨fun a U g mk q => ⟨q.1, (jx_X_XK ad adV A).2.1 U.heap U (U.calling g mk a) rfl q.2⟩, vk_recv (adK := fun k => ad (900 + k)) (i := k) hX.2.1 (st_lt hk) va_S.rf, fun U hU hw => ⟨rfl, by show jx_X ad adV A U.heap U; rw [hU]; exact (jx_X_XK ad adV A).1 s.heap s U hw hX⟩⟩ rfl rfl hl.1 rfl (lv_room (Nat.le_of_ble_eq_true rfl)) d6 ⟨Nat.zero_le _, Nat.zero_le _⟩) (fun r hr1 => ?_)
  subst hr1
  refine lv_ishr hx hb d9 ?_
  exact W.iret hx hb hr (fun t ht _ => ⟨_, rfl, sb_shr0 _, ht⟩) (fun _ q => by cases q) d10
/-- the calls of the JDK's own text keep their word -/
theorem jx_str_ok (l : Launch) (ad adV : Nat → Nat) (A : Nat → Prop) : jx_StrOK l ad A (jx_X ad adV A) := by
  intro p e R s m args below meth c Q M C0 hA
  have C1 := C0
  obtain ⟨hx, hb, hml, hown, hts⟩ := C0
  have hbl : ∀ av : List Value, FrameBlind (va_Pc av (fun U => jx_X ad adV A U.heap U)) := fun av a U g mk q => ⟨q.1, (jx_X_XK ad adV A).2.1 U.heap U (U.calling g mk a) rfl q.2⟩
  have rec1 : ∀ (q : Nat) (t : List Int32) (H : Heap), jx_str[q - 900]? = some t → 900 ≤ q → jx_X ad adV A H s → ∃ cell : Cell, H[ad q]? = some cell ∧ cell.vm.isStatics = false ∧ s.vm.findClass "java/lang/String" = some cell.cls := by
    intro q t H ht hq hX
    obtain ⟨cell, h1, h2, h3, -⟩ := (hX.2.1.1 (q - 900) (st_lt ht)).1
    dsimp only at h1
    rw [show 900 + (q - 900) = q by omega] at h1
    exact ⟨cell, h1, h2, h3⟩
  refine ⟨?_, ?_, ?_⟩
  · intro q t idx pc H locs ls rest hq ht hR hX hS hsz hcat hlink hdec kk
    have hM := st_c7 l ad adV A ht
    rw [show 900 + (q - 900) = q by omega] at hM
    refine vp_callSi (W.runV (C := "java/lang/String") (b := ad q) (As := []) (rest := rest) C1 hM ⟨callB_of 0 hts (st_good st_m7) rfl rfl rfl (hts _ st_i2) (hts _ hlink) (by decide +kernel) ⟨Nat.le_trans (by decide) hR.1, Nat.le_trans (by decide) hR.2⟩, hts _ st_n7.1, hts _ st_n7.2⟩ ⟨hbl _, rec1 q t H ht hq hX, fun U hU hw => ⟨rfl, by show jx_X ad adV A U.heap U; rw [hU]; exact (jx_X_XK ad adV A).1 H s U hw hX⟩⟩ rfl rfl hsz rfl (lv_room hcat) hdec ⟨Nat.zero_le _, Nat.zero_le _⟩) (fun r hr1 => ?_)
    subst hr1
    exact kk
  · intro q t x idx pc H locs ls rest hq ht hin hR hX hS hsz hcat hlink hdec kk
    have hM := st_c5 l ad adV A ht x hin
    rw [show 900 + (q - 900) = q by omega] at hM
    refine vp_callSi (W.runV (C := "java/lang/String") (b := ad q) (As := [.int x]) (rest := rest) C1 hM ⟨callB_of 1 hts (st_good st_m5) rfl rfl rfl (hts _ st_i2) (hts _ hlink) (by decide +kernel) ⟨Nat.le_trans (by decide) hR.1, Nat.le_trans (by decide) hR.2⟩, hts _ st_n5.1, hts _ st_n5.2⟩ ⟨hbl _, rec1 q t H ht hq hX, fun U hU hw => ⟨rfl, by show jx_X ad adV A U.heap U; rw [hU]; exact (jx_X_XK ad adV A).1 H s U hw hX⟩⟩ rfl rfl hsz rfl (lv_room hcat) hdec ⟨Nat.zero_le _, Nat.zero_le _⟩) (fun r hr1 => ?_)
    subst hr1
    exact kk
  · intro q t idx pc H locs ls rest hq ht hidx hcls hX hdec kk
    have hZ := hX.1 (q - 900) t ht
    rw [show 900 + (q - 900) = q by omega, hidx] at hZ
    rw [hcls] at hown
    exact va_ldcS hx hb hown hZ hdec kk
