/-! A small machine of our own over the cells of one fair and one reference: what a method does, as a function -/
abbrev jx_Mem : Type := (Nat → Nat → Int32) × (Nat → Nat → Int64)
abbrev jx_Lv : Type := List (Nat × Value)
/-- what a step does: goes on (if so), jumps, ends (if so), or calls -/
abbrev jx_Act : Type := (Bool × jx_Lv × List Value × jx_Mem) ⊕ (List (Bool × Nat) × Option Nat × jx_Lv × List Value) ⊕ (Bool × Option Value) ⊕ (Nat × Nat × Nat × List Value × List Value)
def jx_get : jx_Lv → Nat → Option Value
  | [], _ => none
  | q :: r, i => bif Nat.beq q.1 i then some q.2 else jx_get r i
def jx_set1 (lv : jx_Lv) (i : Nat) (v : Value) : jx_Lv := (i, v) :: lv.filter (fun q => !(q.1 == i) && !(q.1 + 1 == i && q.2.category == 2))
def jx_set2 (lv : jx_Lv) (i : Nat) (v : Value) : jx_Lv := (i, v) :: lv.filter (fun q => !(q.1 == i) && (!(q.1 == i + 1) && !(q.1 + 1 == i && q.2.category == 2)))
def jx_trim (ks : List Nat) (lv : jx_Lv) : jx_Lv := ks.filterMap (fun i => (jx_get lv i).map (fun v => (i, v)))
def jx_up {α : Type} (f : Nat → Nat → α) (a k : Nat) (v : α) : Nat → Nat → α := fun a' k' => if a' = a ∧ k' = k then v else f a' k'
def jx_in (x : Int32) (n : Nat) : Bool := !(decide (x < 0)) && decide (x.toNatClampNeg < n)
def jx_01 (v : Int32) : Bool := decide (v = 0) || decide (v = 1)
def jx_cpy (f : Nat → Nat → Int32) (s sp d dp n : Nat) : Nat → Nat → Int32 := fun a k => if a = d ∧ dp ≤ k ∧ k < dp + n then f s (sp + (k - dp)) else f a k
def jx_cat : List Value → Nat
  | [] => 0
  | v :: r => v.category + jx_cat r
def jx_pop : Nat → List Value → List Value → Option (List Value × List Value)
  | 0, st, acc => some (acc, st)
  | _ + 1, [], _ => none
  | n + 1, v :: st, acc => jx_pop n st (v :: acc)
def jx_shape (i : Nat) : Option jx_Sh := jx_sh[i]?
def jx_go (b : Bool) (lv : jx_Lv) (st : List Value) (μ : jx_Mem) : Option jx_Act := some (.inl (b, lv, st, μ))
def jx_push (el : jx_El) (lv : jx_Lv) (st : List Value) (μ : jx_Mem) : Option jx_Act := match jx_vals el with
  | [v] => jx_go true lv (v :: st) μ
  | _ => none
def jx_ldI (el : jx_El) (lv : jx_Lv) (st : List Value) (μ : jx_Mem) : Option jx_Act := match jx_inf el with
  | [i] => match jx_get lv i with
    | some (.int x) => jx_go true lv (.int x :: st) μ
    | _ => none
  | _ => none
def jx_ldL (el : jx_El) (lv : jx_Lv) (st : List Value) (μ : jx_Mem) : Option jx_Act := match jx_inf el with
  | [i] => match jx_get lv i with
    | some (.long x) => jx_go true lv (.long x :: st) μ
    | _ => none
  | _ => none
def jx_ldA (el : jx_El) (lv : jx_Lv) (st : List Value) (μ : jx_Mem) : Option jx_Act := match jx_inf el with
  | [i] => match jx_get lv i with
    | some (.ref x) => jx_go true lv (.ref x :: st) μ
    | _ => none
  | _ => none
def jx_stI (el : jx_El) (lv : jx_Lv) (st : List Value) (μ : jx_Mem) : Option jx_Act := match jx_inf el with
  | [i] => match st with
    | .int x :: r => jx_go true (jx_set1 lv i (.int x)) r μ
    | _ => none
  | _ => none
def jx_stL (el : jx_El) (lv : jx_Lv) (st : List Value) (μ : jx_Mem) : Option jx_Act := match jx_inf el with
  | [i] => match st with
    | .long x :: r => jx_go true (jx_set2 lv i (.long x)) r μ
    | _ => none
  | _ => none
def jx_stA (el : jx_El) (lv : jx_Lv) (st : List Value) (μ : jx_Mem) : Option jx_Act := match jx_inf el with
  | [i] => match st with
    | .ref x :: r => jx_go true (jx_set1 lv i (.ref x)) r μ
    | _ => none
  | _ => none
def jx_iinc (el : jx_El) (lv : jx_Lv) (st : List Value) (μ : jx_Mem) : Option jx_Act := match jx_inf el with
  | [i] => match jx_vals el with
    | [.int c] => match jx_get lv i with
      | some (.int x) => jx_go true (jx_set1 lv i (.int (x + c))) st μ
      | _ => none
    | _ => none
  | _ => none
def jx_bin (f : Int32 → Int32 → Int32) (g : Int32 → Bool) (lv : jx_Lv) (st : List Value) (μ : jx_Mem) : Option jx_Act := match st with
  | .int y :: .int x :: r => jx_go (g y) lv (.int (f x y) :: r) μ
  | _ => none
def jx_binL (f : Int64 → Int64 → Int64) (g : Int64 → Bool) (lv : jx_Lv) (st : List Value) (μ : jx_Mem) : Option jx_Act := match st with
  | .long y :: .long x :: r => jx_go (g y) lv (.long (f x y) :: r) μ
  | _ => none
def jx_shL (f : Int64 → Int32 → Int64) (lv : jx_Lv) (st : List Value) (μ : jx_Mem) : Option jx_Act := match st with
  | .int y :: .long x :: r => jx_go true lv (.long (f x y) :: r) μ
  | _ => none
def jx_un (f : Int32 → Int32) (lv : jx_Lv) (st : List Value) (μ : jx_Mem) : Option jx_Act := match st with
  | .int x :: r => jx_go true lv (.int (f x) :: r) μ
  | _ => none
def jx_if1 (f : Int32 → Bool) (el : jx_El) (lv : jx_Lv) (st : List Value) : Option jx_Act := match jx_inf el with
  | [t] => match st with
    | .int x :: r => some (.inr (.inl ([(f x, t)], none, lv, r)))
    | _ => none
  | _ => none
def jx_if2 (f : Int32 → Int32 → Bool) (el : jx_El) (lv : jx_Lv) (st : List Value) : Option jx_Act := match jx_inf el with
  | [t] => match st with
    | .int y :: .int x :: r => some (.inr (.inl ([(f x y, t)], none, lv, r)))
    | _ => none
  | _ => none
def jx_goto (el : jx_El) (lv : jx_Lv) (st : List Value) : Option jx_Act := match jx_inf el with
  | [t] => some (.inr (.inl ([], some t, lv, st)))
  | _ => none
def jx_cases (x : Int32) : List Value → List Nat → List (Bool × Nat)
  | .int k :: vs, t :: ts => (decide (x = k), t) :: jx_cases x vs ts
  | _, _ => []
def jx_switch (el : jx_El) (lv : jx_Lv) (st : List Value) : Option jx_Act := match jx_inf el with
  | d :: ts => match st with
    | .int x :: r => some (.inr (.inl (jx_cases x (jx_vals el) ts, some d, lv, r)))
    | _ => none
  | _ => none
def jx_getf (el : jx_El) (lv : jx_Lv) (st : List Value) (μ : jx_Mem) : Option jx_Act := match jx_inf el with
  | [k, ci] => match st with
    | .ref i :: r => match jx_shape i with
      | some (.inl (c, fs)) => bif Nat.beq c ci then (match fs[k]? with
        | some none => jx_go true lv (.int (μ.1 i k) :: r) μ
        | some (some a) => jx_go true lv (.ref a :: r) μ
        | none => none) else none
      | _ => none
    | _ => none
  | _ => none
def jx_putf (el : jx_El) (lv : jx_Lv) (st : List Value) (μ : jx_Mem) : Option jx_Act := match jx_inf el with
  | [k, ci, z] => match st with
    | .int v :: .ref i :: r => match jx_shape i with
      | some (.inl (c, fs)) => bif Nat.beq c ci then (match fs[k]? with
        | some none => jx_go (bif Nat.beq z 0 then true else jx_01 v) lv r (jx_up μ.1 i k v, μ.2)
        | _ => none) else none
      | _ => none
    | _ => none
  | _ => none
def jx_ald (kd : Nat) (lv : jx_Lv) (st : List Value) (μ : jx_Mem) : Option jx_Act := match st with
  | .int x :: .ref i :: r => match jx_shape i with
    | some (.inr (c, n)) => bif Nat.beq c kd then jx_go (jx_in x n) lv (.int (μ.1 i x.toNatClampNeg) :: r) μ else none
    | _ => none
  | _ => none
def jx_aldL (lv : jx_Lv) (st : List Value) (μ : jx_Mem) : Option jx_Act := match st with
  | .int x :: .ref i :: r => match jx_shape i with
    | some (.inr (c, n)) => bif Nat.beq c 1 then jx_go (jx_in x n) lv (.long (μ.2 i x.toNatClampNeg) :: r) μ else none
    | _ => none
  | _ => none
def jx_ast (kd : Nat) (lv : jx_Lv) (st : List Value) (μ : jx_Mem) : Option jx_Act := match st with
  | .int v :: .int x :: .ref i :: r => match jx_shape i with
    | some (.inr (c, n)) => bif Nat.beq c kd then jx_go (jx_in x n && (bif Nat.beq kd 0 then true else jx_01 v)) lv r (jx_up μ.1 i x.toNatClampNeg v, μ.2) else none
    | _ => none
  | _ => none
def jx_astL (lv : jx_Lv) (st : List Value) (μ : jx_Mem) : Option jx_Act := match st with
  | .long v :: .int x :: .ref i :: r => match jx_shape i with
    | some (.inr (c, n)) => bif Nat.beq c 1 then jx_go (jx_in x n) lv r (μ.1, jx_up μ.2 i x.toNatClampNeg v) else none
    | _ => none
  | _ => none
def jx_alen (lv : jx_Lv) (st : List Value) (μ : jx_Mem) : Option jx_Act := match st with
  | .ref i :: r => match jx_shape i with
    | some (.inr (_, n)) => jx_go true lv (.int (Int32.ofNat n) :: r) μ
    | _ => none
  | _ => none
def jx_copy (lv : jx_Lv) (st : List Value) (μ : jx_Mem) : Option jx_Act := match st with
  | .int n :: .int dp :: .ref d :: .int sp :: .ref s :: r => match jx_shape s, jx_shape d with
    | some (.inr (c, ns)), some (.inr (c2, nd)) => bif Nat.beq c 0 && (Nat.beq c2 0 && Nat.ble (jx_cat r) 8) then
        jx_go ((!(decide (sp < 0)) && (!(decide (dp < 0)) && !(decide (n < 0)))) && (decide (sp.toNatClampNeg + n.toNatClampNeg ≤ ns) && decide (dp.toNatClampNeg + n.toNatClampNeg ≤ nd))) lv r (jx_cpy μ.1 s sp.toNatClampNeg d dp.toNatClampNeg n.toNatClampNeg, μ.2) else none
    | _, _ => none
  | _ => none
def jx_slen (lv : jx_Lv) (st : List Value) (μ : jx_Mem) : Option jx_Act := match st with
  | .ref q :: r => bif Nat.ble 900 q && Nat.ble (jx_cat r) 8 then (match jx_str[q - 900]? with
    | some t => jx_go true lv (.int (Int32.ofNat t.length) :: r) μ
    | none => none) else none
  | _ => none
def jx_schar (lv : jx_Lv) (st : List Value) (μ : jx_Mem) : Option jx_Act := match st with
  | .int x :: .ref q :: r => bif Nat.ble 900 q && Nat.ble (jx_cat r) 8 then (match jx_str[q - 900]? with
    | some t => jx_go (jx_in x t.length) lv (.int (t.getD x.toNatClampNeg 0) :: r) μ
    | none => none) else none
  | _ => none
def jx_mx (x y : Int32) : Int32 := if x < y then y else x
def jx_mn (x y : Int32) : Int32 := if y < x then y else x
def jx_ab (x : Int32) : Int32 := if 0 ≤ x then x else 0 - x
def jx_mth2 (f : Int32 → Int32 → Int32) (lv : jx_Lv) (st : List Value) (μ : jx_Mem) : Option jx_Act := match st with
  | .int y :: .int x :: r => bif Nat.ble (jx_cat r) 8 then jx_go true lv (.int (f x y) :: r) μ else none
  | _ => none
def jx_mth1 (f : Int32 → Int32) (lv : jx_Lv) (st : List Value) (μ : jx_Mem) : Option jx_Act := match st with
  | .int x :: r => bif Nat.ble (jx_cat r) 8 then jx_go true lv (.int (f x) :: r) μ else none
  | _ => none
def jx_callV (el : jx_El) (lv : jx_Lv) (st : List Value) (μ : jx_Mem) : Option jx_Act := match jx_inf el with
  | [j, mode, rk, na, ci, ml] => match jx_pop na st [] with
    | some (.ref i :: as, r) => match jx_shape i with
      | some (.inl (c, _)) => bif Nat.beq c ci && (Nat.ble (jx_cat r) 8 && Nat.ble (jx_cat (.ref i :: as)) ml) then some (.inr (.inr (.inr (j, mode, rk, .ref i :: as, r)))) else none
      | _ => none
    | _ => none
  | [1] => jx_slen lv st μ
  | [2] => jx_schar lv st μ
  | _ => none
def jx_callS (el : jx_El) (lv : jx_Lv) (st : List Value) (μ : jx_Mem) : Option jx_Act := match jx_inf el with
  | [j, mode, rk, na, ml] => match jx_pop na st [] with
    | some (as, r) => bif Nat.ble (jx_cat r) 8 && Nat.ble (jx_cat as) ml then some (.inr (.inr (.inr (j, mode, rk, as, r)))) else none
    | _ => none
  | [0] => jx_copy lv st μ
  | [3] => jx_mth1 jx_ab lv st μ
  | [4] => jx_mth2 jx_mx lv st μ
  | [5] => jx_mth2 jx_mn lv st μ
  | _ => none
def jx_act (el : jx_El) (lv : jx_Lv) (st : List Value) (μ : jx_Mem) : Option jx_Act :=
  match jx_ins el with
  | .iconst _ => jx_push el lv st μ
  | .bipush _ => jx_push el lv st μ
  | .sipush _ => jx_push el lv st μ
  | .lconst _ => jx_push el lv st μ
  | .ldc _ => jx_push el lv st μ
  | .ldc_w _ => jx_push el lv st μ
  | .ldc2_w _ => jx_push el lv st μ
  | .iload _ => jx_ldI el lv st μ
  | .iload_n _ => jx_ldI el lv st μ
  | .lload _ => jx_ldL el lv st μ
  | .lload_n _ => jx_ldL el lv st μ
  | .aload _ => jx_ldA el lv st μ
  | .aload_n _ => jx_ldA el lv st μ
  | .istore _ => jx_stI el lv st μ
  | .istore_n _ => jx_stI el lv st μ
  | .lstore _ => jx_stL el lv st μ
  | .lstore_n _ => jx_stL el lv st μ
  | .astore _ => jx_stA el lv st μ
  | .astore_n _ => jx_stA el lv st μ
  | .iinc _ _ => jx_iinc el lv st μ
  | .iadd => jx_bin (fun x y => x + y) (fun _ => true) lv st μ
  | .isub => jx_bin (fun x y => x - y) (fun _ => true) lv st μ
  | .imul => jx_bin (fun x y => x * y) (fun _ => true) lv st μ
  | .iand => jx_bin (fun x y => x &&& y) (fun _ => true) lv st μ
  | .ior => jx_bin (fun x y => x ||| y) (fun _ => true) lv st μ
  | .ixor => jx_bin (fun x y => x ^^^ y) (fun _ => true) lv st μ
  | .idiv => jx_bin (fun x y => x / y) (fun y => !(decide (y = 0))) lv st μ
  | .irem => jx_bin (fun x y => x - x / y * y) (fun y => !(decide (y = 0))) lv st μ
  | .ishl => jx_bin (fun x y => x <<< (y &&& 31)) (fun _ => true) lv st μ
  | .ishr => jx_bin (fun x y => x >>> (y &&& 31)) (fun _ => true) lv st μ
  | .iushr => jx_bin (fun x y => (x.toUInt32 >>> (y.toUInt32 &&& Int32.toUInt32 31)).toInt32) (fun _ => true) lv st μ
  | .ineg => jx_un (fun x => -x) lv st μ
  | .i2b => jx_un (fun x => x.toInt8.toInt32) lv st μ
  | .i2s => jx_un (fun x => x.toInt16.toInt32) lv st μ
  | .i2l => match st with
    | .int x :: r => jx_go true lv (.long x.toInt64 :: r) μ
    | _ => none
  | .land => jx_binL (fun x y => x &&& y) (fun _ => true) lv st μ
  | .lor => jx_binL (fun x y => x ||| y) (fun _ => true) lv st μ
  | .ldiv => jx_binL (fun x y => x / y) (fun y => !(decide (y = 0))) lv st μ
  | .lrem => jx_binL (fun x y => x - x / y * y) (fun y => !(decide (y = 0))) lv st μ
  | .lshl => jx_shL (fun x y => x <<< (y.toInt64 &&& 63)) lv st μ
  | .lushr => jx_shL (fun x y => (x.toUInt64 >>> (y.toInt64.toUInt64 &&& Int64.toUInt64 63)).toInt64) lv st μ
  | .lcmp => match st with
    | .long y :: .long x :: r => jx_go true lv (.int (lg_cmp x y) :: r) μ
    | _ => none
  | .dup => match st with
    | v :: r => bif Nat.beq v.category 1 then jx_go true lv (v :: v :: r) μ else none
    | _ => none
  | .dup2 => match st with
    | v :: w :: r => bif Nat.beq v.category 1 && Nat.beq w.category 1 then jx_go true lv (v :: w :: v :: w :: r) μ else none
    | _ => none
  | .pop => match st with
    | v :: r => bif Nat.beq v.category 1 then jx_go true lv r μ else none
    | _ => none
  | .ifCond .eq _ => jx_if1 (fun x => decide (x = 0)) el lv st
  | .ifCond .ne _ => jx_if1 (fun x => decide (¬ x = 0)) el lv st
  | .ifCond .lt _ => jx_if1 (fun x => decide (x < 0)) el lv st
  | .ifCond .ge _ => jx_if1 (fun x => decide (0 ≤ x)) el lv st
  | .ifCond .gt _ => jx_if1 (fun x => decide (0 < x)) el lv st
  | .ifCond .le _ => jx_if1 (fun x => decide (x ≤ 0)) el lv st
  | .if_icmp .eq _ => jx_if2 (fun x y => decide (x = y)) el lv st
  | .if_icmp .ne _ => jx_if2 (fun x y => decide (¬ x = y)) el lv st
  | .if_icmp .lt _ => jx_if2 (fun x y => decide (x < y)) el lv st
  | .if_icmp .ge _ => jx_if2 (fun x y => decide (y ≤ x)) el lv st
  | .if_icmp .gt _ => jx_if2 (fun x y => decide (y < x)) el lv st
  | .if_icmp .le _ => jx_if2 (fun x y => decide (x ≤ y)) el lv st
  | .goto _ => jx_goto el lv st
  | .tableswitch _ _ _ _ => jx_switch el lv st
  | .lookupswitch _ _ => jx_switch el lv st
  | .getfield _ => jx_getf el lv st μ
  | .putfield _ => jx_putf el lv st μ
  | .iaload => jx_ald 0 lv st μ
  | .baload => jx_ald 2 lv st μ
  | .laload => jx_aldL lv st μ
  | .iastore => jx_ast 0 lv st μ
  | .bastore => jx_ast 2 lv st μ
  | .lastore => jx_astL lv st μ
  | .arraylength => jx_alen lv st μ
  | .invokevirtual _ => jx_callV el lv st μ
  | .invokestatic _ => jx_callS el lv st μ
  | .ireturn => match st with
    | [.int v] => some (.inr (.inr (.inl ((match jx_inf el with | [1] => jx_01 v | _ => true), some (.int v)))))
    | _ => none
  | .lreturn => match st with
    | [.long v] => some (.inr (.inr (.inl (true, some (.long v)))))
    | _ => none
  | .return_ => match st with
    | [] => some (.inr (.inr (.inl (true, none))))
    | _ => none
  | _ => none
def jx_cd (j : Nat) : List jx_El := match jx_ms[j]? with
  | some M => M.2.2.2.2.2.2
  | none => []
def jx_seek (pc : Nat) : List jx_El → List jx_El
  | [] => []
  | e :: k => bif Nat.beq e.1 pc then e :: k else jx_seek pc k
def jx_pick : List (Bool × Nat) → Option Nat → Option Nat
  | [], d => d
  | q :: r, d => bif q.1 then some q.2 else jx_pick r d
def jx_lev : Nat → Nat → Option Nat
  | 0, _ => some 0
  | 1, _ => some 120
  | _ + 2, 0 => none
  | _ + 2, n + 1 => some n
def jx_ret (rk : Nat) (v : Option Value) (st : List Value) : Option (List Value) := match rk, v with
  | 0, none => some st
  | 1, some (.int x) => some (.int x :: st)
  | 2, some (.long x) => some (.long x :: st)
  | _, _ => none
def jx_arr (el : jx_El) (lv : jx_Lv) : jx_Lv := match jx_keep el with
  | none => lv
  | some ks => jx_trim ks lv
def jx_run : Nat → Nat → Nat → Nat → jx_Lv → List Value → jx_Mem → Option (Option Value × jx_Mem)
  | 0, _, _, _, _, _, _ => none
  | n + 1, j, lev, pc, lv, st, μ =>
    match jx_seek pc (jx_cd j) with
    | [] => none
    | el :: _ => match jx_act el (jx_arr el lv) st μ with
      | none => none
      | some (.inl (b, lv', st', μ')) => bif b then jx_run n j lev (pc + jx_len el) lv' st' μ' else none
      | some (.inr (.inl (sw, d, lv', st'))) => match jx_pick sw d with
        | some t => jx_run n j lev t lv' st' μ
        | none => jx_run n j lev (pc + jx_len el) lv' st' μ
      | some (.inr (.inr (.inl (b, v)))) => bif b then some (v, μ) else none
      | some (.inr (.inr (.inr (j', mode, rk, args, rest)))) => match jx_lev mode lev with
        | none => none
        | some lev' => match jx_run n j' lev' 0 (lv_args 0 args) [] μ with
          | none => none
          | some r => match jx_ret rk r.1 rest with
            | none => none
            | some st' => jx_run n j lev (pc + jx_len el) (jx_arr el lv) st' r.2
