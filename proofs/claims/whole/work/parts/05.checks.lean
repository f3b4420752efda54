/-! what is checked of each element; h: the place of its link among the tables' words -/
def jx_at (h : Nat) (w : Cond) : Bool := decide (lw_tbl[h]? = some w) && goodWord w
def jx_nestAt (h : Nat) (w : Cond) : Bool := decide (lw_tbl[h]? = some w) && jx_isNest w
theorem jx_at_mem {h : Nat} {w : Cond} (q : jx_at h w = true) : w ∈ jx_tbl := by
  unfold jx_at at q
  simp only [Bool.and_eq_true, decide_eq_true_eq] at q
  exact List.mem_filter.mpr ⟨List.mem_of_getElem? q.1, q.2⟩
theorem jx_nestAt_mem {h : Nat} {w : Cond} (q : jx_nestAt h w = true) : w ∈ jx_nest := by
  unfold jx_nestAt at q
  simp only [Bool.and_eq_true, decide_eq_true_eq] at q
  exact List.mem_filter.mpr ⟨List.mem_of_getElem? q.1, q.2⟩
def jx_one (el : jx_El) (n : Nat) : Bool := Nat.beq (jx_len el) n
def jx_tgt (el : jx_El) (off : Int) : Bool := match jx_inf el with
  | [t] => Nat.beq (jx_len el) 3 && decide ((jx_pc el : Int) + off = (t : Int))
  | _ => false
def jx_ixOk (el : jx_El) (i n : Nat) : Bool := match jx_inf el with
  | [k] => Nat.beq k i && Nat.beq (jx_len el) n
  | _ => false
def jx_loc (el : jx_El) (i n m w : Nat) : Bool := match jx_inf el with
  | [k] => Nat.beq k i && (Nat.beq (jx_len el) n && Nat.ble (i + w) m)
  | _ => false
def jx_fld (own : String) (el : jx_El) (idx h : Nat) : Bool := match jx_inf el with
  | k :: ci :: _ => match jx_cl[ci]? with
    | some (C, T, N) => Nat.blt k N && (decide ((T k).1 = C) && jx_at h (Cond.fieldLink own idx C (T k).2.1 (T k).2.2.1))
    | none => false
  | _ => false
def jx_pfl (el : jx_El) : Bool := match jx_inf el with
  | [k, ci, z] => match jx_cl[ci]? with
    | some (_, T, _) => decide ((T k).2.2.2 = false) && decide (parseFieldDescriptor (T k).2.2.1 = some (bif Nat.beq z 0 then .int else .boolean))
    | none => false
  | _ => false
def jx_rkOk (M M' : jx_M) (mode : Nat) : Bool := match mode with
  | 0 => Nat.ble (M'.2.2.2.2.2.1 + 1) M.2.2.2.2.2.1
  | 1 => Nat.ble (M'.2.2.2.2.2.1 + 121) M.2.2.2.2.2.1
  | _ => Nat.ble M'.2.2.2.2.2.1 M.2.2.2.2.2.1
def jx_yOk (y : MethodName) : Bool := decide (y.cls ≠ "java/lang/invoke/MethodHandle") && (decide (y.cls ≠ "java/lang/invoke/VarHandle") && plainName y.cls)
/-- a method's own words -/
def jx_mOk (M : jx_M) (hs : List Nat) : Bool := match hs with
  | [h1, h2, h3, h4] => (jx_yOk M.1 && Nat.ble M.2.2.1 40) && (jx_at h1 (Cond.code M.1 M.2.1 M.2.2.1 M.2.2.2.1) && (jx_at h2 (Cond.initialized M.1.cls) && (bif M.2.2.2.2.1 then jx_at h3 (Cond.static M.1) else (jx_at h3 (Cond.instanceMethod M.1) && jx_at h4 (Cond.selects M.1.cls M.1 M.1)))))
  | _ => false
def jx_cllV (M : jx_M) (el : jx_El) (idx h : Nat) : Bool := match jx_inf el with
  | [j, mode, _, na, ci, ml] => match jx_ms[j]?, jx_cl[ci]? with
    | some M', some (C, _, _) => decide (M'.1.cls = C) && (decide (M'.2.2.2.2.1 = false) && (Nat.beq M'.2.2.1 ml && (decide ((parseMethodDescriptor M'.1.desc).map (fun d => d.parameters.length) = some (na - 1)) && (Nat.ble 1 na && (jx_rkOk M M' mode && jx_at h (Cond.methodLink M.1.cls idx M'.1))))))
    | _, _ => false
  | [1] => jx_at h (Cond.methodLink M.1.cls idx ⟨"java/lang/String", "length", "()I"⟩) && Nat.ble 4 M.2.2.2.2.2.1
  | [2] => jx_at h (Cond.methodLink M.1.cls idx ⟨"java/lang/String", "charAt", "(I)C"⟩) && Nat.ble 4 M.2.2.2.2.2.1
  | _ => false
def jx_cllS (M : jx_M) (el : jx_El) (idx h : Nat) : Bool := match jx_inf el with
  | [j, mode, _, na, ml] => match jx_ms[j]? with
    | some M' => decide (M'.2.2.2.2.1 = true) && (Nat.beq M'.2.2.1 ml && (decide ((parseMethodDescriptor M'.1.desc).map (fun d => d.parameters.length) = some na) && (jx_rkOk M M' mode && (jx_at h (Cond.methodLink M.1.cls idx M'.1) || jx_nestAt h (Cond.methodLinkNest M.1.cls idx M'.1 "FairByEar")))))
    | none => false
  | [0] => jx_at h (Cond.methodLink M.1.cls idx arraycopyName)
  | [3] => jx_at h (Cond.methodLink M.1.cls idx Lib.Math.abs.name)
  | [4] => jx_at h (Cond.methodLink M.1.cls idx Lib.Math.max.name)
  | [5] => jx_at h (Cond.methodLink M.1.cls idx Lib.Math.min.name)
  | _ => false
def jx_ksOk : List Value → List Nat → List (Int × Int) → Nat → Bool
  | [], [], [], _ => true
  | .int k :: vs, t :: ts, q :: qs, pc => decide (k.toInt = q.1) && (decide ((pc : Int) + q.2 = (t : Int)) && jx_ksOk vs ts qs pc)
  | _, _, _, _ => false
def jx_swOk (el : jx_El) (d : Int) (ps : Array (Int × Int)) : Bool := match jx_inf el with
  | dt :: ts => decide ((jx_pc el : Int) + d = (dt : Int)) && (((ps.toList.zip (ps.toList.drop 1)).all (fun (a, next) => a.1 < next.1)) && jx_ksOk (jx_vals el) ts ps.toList (jx_pc el))
  | _ => false
def jx_tsOk : List Value → List Nat → List Int → Nat → Int → Bool
  | [], [], [], _, _ => true
  | .int k :: vs, t :: ts, q :: qs, pc, lo => decide (k.toInt = lo) && (decide ((pc : Int) + q = (t : Int)) && jx_tsOk vs ts qs pc (lo + 1))
  | _, _, _, _, _ => false
def jx_tbOk (el : jx_El) (d lo hi : Int) (offs : Array Int) : Bool := match jx_inf el with
  | dt :: ts => decide ((jx_pc el : Int) + d = (dt : Int)) && (decide (hi = lo + (offs.toList.length : Int) - 1) && jx_tsOk (jx_vals el) ts offs.toList (jx_pc el) lo)
  | _ => false
def jx_cst (el : jx_El) (v : Value) (n : Nat) : Bool := match jx_vals el with
  | [w] => decide (w = v) && Nat.beq (jx_len el) n
  | _ => false
def jx_ldcOk (own : String) (el : jx_El) (idx n h : Nat) : Bool := Nat.beq (jx_len el) n && (match jx_vals el with
  | [.int v] => jx_at h (Cond.constant own idx v)
  | [.ref q] => Nat.beq n 2 && (Nat.ble 900 q && (match jx_stx[q - 900]? with
    | some t => Nat.beq t.1 idx && decide (own = "FairByEarModel")
    | none => false))
  | _ => false)
def jx_okx (M : jx_M) (el : jx_El) (h : Nat) : Bool :=
  match jx_ins el with
  | .iconst n => jx_cst el (.int (Int32.ofInt n)) 1
  | .bipush n => jx_cst el (.int (Int8.ofInt n).toInt32) 2
  | .sipush n => jx_cst el (.int (Int16.ofInt n).toInt32) 3
  | .lconst n => jx_cst el (.long (Int64.ofNat n)) 1
  | .ldc i => jx_ldcOk M.1.cls el i 2 h
  | .ldc_w i => jx_ldcOk M.1.cls el i 3 h
  | .ldc2_w i => jx_one el 3 && (match jx_vals el with
    | [.long v] => jx_at h (Cond.constantLong M.1.cls i v)
    | _ => false)
  | .iload i => jx_ixOk el i 2
  | .iload_n i => jx_ixOk el i 1
  | .lload i => jx_ixOk el i 2
  | .lload_n i => jx_ixOk el i 1
  | .aload i => jx_ixOk el i 2
  | .aload_n i => jx_ixOk el i 1
  | .istore i => jx_loc el i 2 M.2.2.1 1
  | .istore_n i => jx_loc el i 1 M.2.2.1 1
  | .lstore i => jx_loc el i 2 M.2.2.1 2
  | .lstore_n i => jx_loc el i 1 M.2.2.1 2
  | .astore i => jx_loc el i 2 M.2.2.1 1
  | .astore_n i => jx_loc el i 1 M.2.2.1 1
  | .iinc i n => jx_loc el i 3 M.2.2.1 1 && (match jx_vals el with | [.int c] => decide (Int32.ofInt n = c) | _ => false)
  | .ifCond _ off => jx_tgt el off
  | .if_icmp _ off => jx_tgt el off
  | .goto off => jx_tgt el off
  | .lookupswitch d ps => jx_swOk el d ps
  | .tableswitch d lo hi offs => jx_tbOk el d lo hi offs
  | .getfield i => jx_one el 3 && jx_fld M.1.cls el i h
  | .putfield i => jx_one el 3 && (jx_fld M.1.cls el i h && jx_pfl el)
  | .invokevirtual i => jx_one el 3 && jx_cllV M el i h
  | .invokestatic i => jx_one el 3 && jx_cllS M el i h
  | .ireturn => match jx_inf el with
    | [1] => decide (M.2.2.2.1 = some .boolean) && jx_one el 1
    | _ => decide (M.2.2.2.1 = some .int) && jx_one el 1
  | .lreturn => decide (M.2.2.2.1 = some .long) && jx_one el 1
  | .return_ => decide (M.2.2.2.1 = none) && jx_one el 1
  | _ => jx_one el 1
def jx_raw (el : jx_El) : Bool := match jx_ins el with
  | .new _ => true
  | .invokespecial _ => true
  | .athrow => true
  | _ => false
/-- an element is as the class file has it -/
def jx_ok (M : jx_M) (el : jx_El) (h : Nat) : Bool := jx_raw el || (decide (decode M.2.1 (jx_pc el) = .ok (jx_ins el, jx_len el)) && jx_okx M el h)
def jx_okL (M : jx_M) : List jx_El → List Nat → Bool
  | [], _ => true
  | el :: k, [] => jx_ok M el 0 && jx_okL M k []
  | el :: k, h :: hs => jx_ok M el h && jx_okL M k hs
theorem jx_okL_all {M : jx_M} : ∀ (C : List jx_El) (hs : List Nat), jx_okL M C hs = true → ∀ el ∈ C, ∃ h, jx_ok M el h = true := by
  intro C
  induction C with
  | nil => intro hs _ el hel; cases hel
  | cons e k ih =>
    intro hs hh el hel
    cases hs with
    | nil =>
      simp only [jx_okL, Bool.and_eq_true] at hh
      rcases List.mem_cons.mp hel with rfl | hel
      · exact ⟨0, hh.1⟩
      · exact ih [] hh.2 el hel
    | cons h hs =>
      simp only [jx_okL, Bool.and_eq_true] at hh
      rcases List.mem_cons.mp hel with rfl | hel
      · exact ⟨h, hh.1⟩
      · exact ih hs hh.2 el hel
