/-! each step of our machine, by the kit's rows -/
theorem jx_go_inv {b : Bool} {lv lv' : jx_Lv} {st st' : List Value} {μ μ' : jx_Mem} (h : jx_go b lv st μ = some (.inl (true, lv', st', μ'))) : b = true ∧ lv' = lv ∧ st' = st ∧ μ' = μ := by
  unfold jx_go at h
  simp only [Option.some.injEq, Sum.inl.injEq, Prod.mk.injEq] at h
  exact ⟨h.1, h.2.1.symm, h.2.2.1.symm, h.2.2.2.symm⟩
theorem jx_push_inv {el : jx_El} {lv lv' : jx_Lv} {st st' : List Value} {μ μ' : jx_Mem} (h : jx_push el lv st μ = some (.inl (true, lv', st', μ'))) : ∃ v, jx_vals el = [v] ∧ lv' = lv ∧ st' = v :: st ∧ μ' = μ := by
  unfold jx_push at h
  split at h
  next v hv => obtain ⟨-, h1, h2, h3⟩ := jx_go_inv h; exact ⟨v, hv, h1, h2, h3⟩
  next => cases h
theorem jx_ldI_inv {el : jx_El} {lv lv' : jx_Lv} {st st' : List Value} {μ μ' : jx_Mem} (h : jx_ldI el lv st μ = some (.inl (true, lv', st', μ'))) : ∃ (i : Nat) (x : Int32), jx_inf el = [i] ∧ jx_get lv i = some (.int x) ∧ lv' = lv ∧ st' = .int x :: st ∧ μ' = μ := by
  unfold jx_ldI at h
  split at h
  next i hi =>
    split at h
    next x hx => obtain ⟨-, h1, h2, h3⟩ := jx_go_inv h; exact ⟨i, x, hi, hx, h1, h2, h3⟩
    next => cases h
  next => cases h
theorem jx_stI_inv {el : jx_El} {lv lv' : jx_Lv} {st st' : List Value} {μ μ' : jx_Mem} (h : jx_stI el lv st μ = some (.inl (true, lv', st', μ'))) : ∃ (i : Nat) (x : Int32), jx_inf el = [i] ∧ st = .int x :: st' ∧ lv' = jx_set1 lv i (.int x) ∧ μ' = μ := by
  unfold jx_stI at h
  split at h
  next i hi =>
    split at h
    next x r => obtain ⟨-, h1, h2, h3⟩ := jx_go_inv h; subst h2; exact ⟨i, x, hi, rfl, h1, h3⟩
    next => cases h
  next => cases h
theorem jx_ldL_inv {el : jx_El} {lv lv' : jx_Lv} {st st' : List Value} {μ μ' : jx_Mem} (h : jx_ldL el lv st μ = some (.inl (true, lv', st', μ'))) : ∃ (i : Nat) (x : Int64), jx_inf el = [i] ∧ jx_get lv i = some (.long x) ∧ lv' = lv ∧ st' = .long x :: st ∧ μ' = μ := by
  unfold jx_ldL at h
  split at h
  next i hi =>
    split at h
    next x hx => obtain ⟨-, h1, h2, h3⟩ := jx_go_inv h; exact ⟨i, x, hi, hx, h1, h2, h3⟩
    next => cases h
  next => cases h
theorem jx_stL_inv {el : jx_El} {lv lv' : jx_Lv} {st st' : List Value} {μ μ' : jx_Mem} (h : jx_stL el lv st μ = some (.inl (true, lv', st', μ'))) : ∃ (i : Nat) (x : Int64), jx_inf el = [i] ∧ st = .long x :: st' ∧ lv' = jx_set2 lv i (.long x) ∧ μ' = μ := by
  unfold jx_stL at h
  split at h
  next i hi =>
    split at h
    next x r => obtain ⟨-, h1, h2, h3⟩ := jx_go_inv h; subst h2; exact ⟨i, x, hi, rfl, h1, h3⟩
    next => cases h
  next => cases h
theorem jx_ldA_inv {el : jx_El} {lv lv' : jx_Lv} {st st' : List Value} {μ μ' : jx_Mem} (h : jx_ldA el lv st μ = some (.inl (true, lv', st', μ'))) : ∃ (i : Nat) (x : Nat), jx_inf el = [i] ∧ jx_get lv i = some (.ref x) ∧ lv' = lv ∧ st' = .ref x :: st ∧ μ' = μ := by
  unfold jx_ldA at h
  split at h
  next i hi =>
    split at h
    next x hx => obtain ⟨-, h1, h2, h3⟩ := jx_go_inv h; exact ⟨i, x, hi, hx, h1, h2, h3⟩
    next => cases h
  next => cases h
theorem jx_stA_inv {el : jx_El} {lv lv' : jx_Lv} {st st' : List Value} {μ μ' : jx_Mem} (h : jx_stA el lv st μ = some (.inl (true, lv', st', μ'))) : ∃ (i : Nat) (x : Nat), jx_inf el = [i] ∧ st = .ref x :: st' ∧ lv' = jx_set1 lv i (.ref x) ∧ μ' = μ := by
  unfold jx_stA at h
  split at h
  next i hi =>
    split at h
    next x r => obtain ⟨-, h1, h2, h3⟩ := jx_go_inv h; subst h2; exact ⟨i, x, hi, rfl, h1, h3⟩
    next => cases h
  next => cases h
theorem jx_iinc_inv {el : jx_El} {lv lv' : jx_Lv} {st st' : List Value} {μ μ' : jx_Mem} (h : jx_iinc el lv st μ = some (.inl (true, lv', st', μ'))) : ∃ (i : Nat) (x c : Int32), jx_inf el = [i] ∧ jx_vals el = [.int c] ∧ jx_get lv i = some (.int x) ∧ lv' = jx_set1 lv i (.int (x + c)) ∧ st' = st ∧ μ' = μ := by
  unfold jx_iinc at h
  split at h
  next i hi =>
    split at h
    next c hc =>
      split at h
      next x hx => obtain ⟨-, h1, h2, h3⟩ := jx_go_inv h; exact ⟨i, x, c, hi, hc, hx, h1, h2, h3⟩
      next => cases h
    next => cases h
  next => cases h
theorem jx_bin_inv {f : Int32 → Int32 → Int32} {g : Int32 → Bool} {lv lv' : jx_Lv} {st st' : List Value} {μ μ' : jx_Mem} (h : jx_bin f g lv st μ = some (.inl (true, lv', st', μ'))) : ∃ (x y : Int32) (r : List Value), st = .int y :: .int x :: r ∧ g y = true ∧ lv' = lv ∧ st' = .int (f x y) :: r ∧ μ' = μ := by
  unfold jx_bin at h
  split at h
  next y x r => obtain ⟨h0, h1, h2, h3⟩ := jx_go_inv h; exact ⟨x, y, r, rfl, h0, h1, h2, h3⟩
  next => cases h
theorem jx_binL_inv {f : Int64 → Int64 → Int64} {g : Int64 → Bool} {lv lv' : jx_Lv} {st st' : List Value} {μ μ' : jx_Mem} (h : jx_binL f g lv st μ = some (.inl (true, lv', st', μ'))) : ∃ (x y : Int64) (r : List Value), st = .long y :: .long x :: r ∧ g y = true ∧ lv' = lv ∧ st' = .long (f x y) :: r ∧ μ' = μ := by
  unfold jx_binL at h
  split at h
  next y x r => obtain ⟨h0, h1, h2, h3⟩ := jx_go_inv h; exact ⟨x, y, r, rfl, h0, h1, h2, h3⟩
  next => cases h
theorem jx_shL_inv {f : Int64 → Int32 → Int64} {lv lv' : jx_Lv} {st st' : List Value} {μ μ' : jx_Mem} (h : jx_shL f lv st μ = some (.inl (true, lv', st', μ'))) : ∃ (x : Int64) (y : Int32) (r : List Value), st = .int y :: .long x :: r ∧ lv' = lv ∧ st' = .long (f x y) :: r ∧ μ' = μ := by
  unfold jx_shL at h
  split at h
  next y x r => obtain ⟨h0, h1, h2, h3⟩ := jx_go_inv h; exact ⟨x, y, r, rfl, h1, h2, h3⟩
  next => cases h
theorem jx_un_inv {f : Int32 → Int32} {lv lv' : jx_Lv} {st st' : List Value} {μ μ' : jx_Mem} (h : jx_un f lv st μ = some (.inl (true, lv', st', μ'))) : ∃ (x : Int32) (r : List Value), st = .int x :: r ∧ lv' = lv ∧ st' = .int (f x) :: r ∧ μ' = μ := by
  unfold jx_un at h
  split at h
  next x r => obtain ⟨h0, h1, h2, h3⟩ := jx_go_inv h; exact ⟨x, r, rfl, h1, h2, h3⟩
  next => cases h
theorem jx_mth2_inv {f : Int32 → Int32 → Int32} {lv lv' : jx_Lv} {st st' : List Value} {μ μ' : jx_Mem} (h : jx_mth2 f lv st μ = some (.inl (true, lv', st', μ'))) : ∃ (x y : Int32) (r : List Value), st = .int y :: .int x :: r ∧ jx_cat r ≤ 8 ∧ lv' = lv ∧ st' = .int (f x y) :: r ∧ μ' = μ := by
  unfold jx_mth2 at h
  split at h
  next y x r =>
    cases hb : Nat.ble (jx_cat r) 8 with
    | true => rw [hb] at h; obtain ⟨h0, h1, h2, h3⟩ := jx_go_inv h; exact ⟨x, y, r, rfl, Nat.le_of_ble_eq_true hb, h1, h2, h3⟩
    | false => rw [hb] at h; cases h
  next => cases h
theorem jx_mth1_inv {f : Int32 → Int32} {lv lv' : jx_Lv} {st st' : List Value} {μ μ' : jx_Mem} (h : jx_mth1 f lv st μ = some (.inl (true, lv', st', μ'))) : ∃ (x : Int32) (r : List Value), st = .int x :: r ∧ jx_cat r ≤ 8 ∧ lv' = lv ∧ st' = .int (f x) :: r ∧ μ' = μ := by
  unfold jx_mth1 at h
  split at h
  next x r =>
    cases hb : Nat.ble (jx_cat r) 8 with
    | true => rw [hb] at h; obtain ⟨h0, h1, h2, h3⟩ := jx_go_inv h; exact ⟨x, r, rfl, Nat.le_of_ble_eq_true hb, h1, h2, h3⟩
    | false => rw [hb] at h; cases h
  next => cases h
theorem jx_getf_inv {el : jx_El} {lv lv' : jx_Lv} {st st' : List Value} {μ μ' : jx_Mem} (h : jx_getf el lv st μ = some (.inl (true, lv', st', μ'))) : ∃ (k ci i : Nat) (r : List Value) (fs : List (Option Nat)) (x : Option Nat), jx_inf el = [k, ci] ∧ st = .ref i :: r ∧ jx_shape i = some (.inl (ci, fs)) ∧ fs[k]? = some x ∧ lv' = lv ∧ st' = (match x with | none => .int (μ.1 i k) | some a => .ref a) :: r ∧ μ' = μ := by
  unfold jx_getf at h
  split at h
  next k ci hi =>
    split at h
    next i r =>
      split at h
      next c fs hs =>
        cases hb : Nat.beq c ci with
        | false => rw [hb] at h; cases h
        | true =>
          rw [hb] at h
          have hc := Nat.eq_of_beq_eq_true hb
          subst hc
          dsimp only [cond_true] at h
          split at h
          next hf => obtain ⟨h0, h1, h2, h3⟩ := jx_go_inv h; exact ⟨k, c, i, r, fs, none, hi, rfl, hs, hf, h1, h2, h3⟩
          next a hf => obtain ⟨h0, h1, h2, h3⟩ := jx_go_inv h; exact ⟨k, c, i, r, fs, some a, hi, rfl, hs, hf, h1, h2, h3⟩
          next => cases h
      next => cases h
    next => cases h
  next => cases h
theorem jx_putf_inv {el : jx_El} {lv lv' : jx_Lv} {st st' : List Value} {μ μ' : jx_Mem} (h : jx_putf el lv st μ = some (.inl (true, lv', st', μ'))) : ∃ (k ci z i : Nat) (v : Int32) (r : List Value) (fs : List (Option Nat)), jx_inf el = [k, ci, z] ∧ st = .int v :: .ref i :: r ∧ jx_shape i = some (.inl (ci, fs)) ∧ fs[k]? = some none ∧ (bif Nat.beq z 0 then true else jx_01 v) = true ∧ lv' = lv ∧ st' = r ∧ μ' = (jx_up μ.1 i k v, μ.2) := by
  unfold jx_putf at h
  split at h
  next k ci z hi =>
    split at h
    next v i r =>
      split at h
      next c fs hs =>
        cases hb : Nat.beq c ci with
        | false => rw [hb] at h; cases h
        | true =>
          rw [hb] at h
          have hc := Nat.eq_of_beq_eq_true hb
          subst hc
          dsimp only [cond_true] at h
          split at h
          next hf => obtain ⟨h0, h1, h2, h3⟩ := jx_go_inv h; exact ⟨k, c, z, i, v, r, fs, hi, rfl, hs, hf, h0, h1, h2, h3⟩
          next => cases h
      next => cases h
    next => cases h
  next => cases h
theorem jx_ald_inv {kd : Nat} {lv lv' : jx_Lv} {st st' : List Value} {μ μ' : jx_Mem} (h : jx_ald kd lv st μ = some (.inl (true, lv', st', μ'))) : ∃ (i n : Nat) (x : Int32) (r : List Value), st = .int x :: .ref i :: r ∧ jx_shape i = some (.inr (kd, n)) ∧ jx_in x n = true ∧ lv' = lv ∧ st' = .int (μ.1 i x.toNatClampNeg) :: r ∧ μ' = μ := by
  unfold jx_ald at h
  split at h
  next x i r =>
    split at h
    next c n hs =>
      cases hb : Nat.beq c kd with
      | false => rw [hb] at h; cases h
      | true =>
        rw [hb] at h
        have hc := Nat.eq_of_beq_eq_true hb
        subst hc
        obtain ⟨h0, h1, h2, h3⟩ := jx_go_inv h
        exact ⟨i, n, x, r, rfl, hs, h0, h1, h2, h3⟩
    next => cases h
  next => cases h
theorem jx_aldL_inv {lv lv' : jx_Lv} {st st' : List Value} {μ μ' : jx_Mem} (h : jx_aldL lv st μ = some (.inl (true, lv', st', μ'))) : ∃ (i n : Nat) (x : Int32) (r : List Value), st = .int x :: .ref i :: r ∧ jx_shape i = some (.inr (1, n)) ∧ jx_in x n = true ∧ lv' = lv ∧ st' = .long (μ.2 i x.toNatClampNeg) :: r ∧ μ' = μ := by
  unfold jx_aldL at h
  split at h
  next x i r =>
    split at h
    next c n hs =>
      cases hb : Nat.beq c 1 with
      | false => rw [hb] at h; cases h
      | true =>
        rw [hb] at h
        have hc := Nat.eq_of_beq_eq_true hb
        subst hc
        obtain ⟨h0, h1, h2, h3⟩ := jx_go_inv h
        exact ⟨i, n, x, r, rfl, hs, h0, h1, h2, h3⟩
    next => cases h
  next => cases h
theorem jx_ast_inv {kd : Nat} {lv lv' : jx_Lv} {st st' : List Value} {μ μ' : jx_Mem} (h : jx_ast kd lv st μ = some (.inl (true, lv', st', μ'))) : ∃ (i n : Nat) (x v : Int32) (r : List Value), st = .int v :: .int x :: .ref i :: r ∧ jx_shape i = some (.inr (kd, n)) ∧ jx_in x n = true ∧ (bif Nat.beq kd 0 then true else jx_01 v) = true ∧ lv' = lv ∧ st' = r ∧ μ' = (jx_up μ.1 i x.toNatClampNeg v, μ.2) := by
  unfold jx_ast at h
  split at h
  next v x i r =>
    split at h
    next c n hs =>
      cases hb : Nat.beq c kd with
      | false => rw [hb] at h; cases h
      | true =>
        rw [hb] at h
        have hc := Nat.eq_of_beq_eq_true hb
        subst hc
        obtain ⟨h0, h1, h2, h3⟩ := jx_go_inv h
        rw [Bool.and_eq_true] at h0
        exact ⟨i, n, x, v, r, rfl, hs, h0.1, h0.2, h1, h2, h3⟩
    next => cases h
  next => cases h
theorem jx_astL_inv {lv lv' : jx_Lv} {st st' : List Value} {μ μ' : jx_Mem} (h : jx_astL lv st μ = some (.inl (true, lv', st', μ'))) : ∃ (i n : Nat) (x : Int32) (v : Int64) (r : List Value), st = .long v :: .int x :: .ref i :: r ∧ jx_shape i = some (.inr (1, n)) ∧ jx_in x n = true ∧ lv' = lv ∧ st' = r ∧ μ' = (μ.1, jx_up μ.2 i x.toNatClampNeg v) := by
  unfold jx_astL at h
  split at h
  next v x i r =>
    split at h
    next c n hs =>
      cases hb : Nat.beq c 1 with
      | false => rw [hb] at h; cases h
      | true =>
        rw [hb] at h
        have hc := Nat.eq_of_beq_eq_true hb
        subst hc
        obtain ⟨h0, h1, h2, h3⟩ := jx_go_inv h
        exact ⟨i, n, x, v, r, rfl, hs, h0, h1, h2, h3⟩
    next => cases h
  next => cases h
theorem jx_alen_inv {lv lv' : jx_Lv} {st st' : List Value} {μ μ' : jx_Mem} (h : jx_alen lv st μ = some (.inl (true, lv', st', μ'))) : ∃ (i kd n : Nat) (r : List Value), st = .ref i :: r ∧ jx_shape i = some (.inr (kd, n)) ∧ lv' = lv ∧ st' = .int (Int32.ofNat n) :: r ∧ μ' = μ := by
  unfold jx_alen at h
  split at h
  next i r =>
    split at h
    next kd n hs => obtain ⟨h0, h1, h2, h3⟩ := jx_go_inv h; exact ⟨i, kd, n, r, rfl, hs, h1, h2, h3⟩
    next => cases h
  next => cases h
theorem jx_copy_inv {lv lv' : jx_Lv} {st st' : List Value} {μ μ' : jx_Mem} (h : jx_copy lv st μ = some (.inl (true, lv', st', μ'))) : ∃ (n dp sp : Int32) (d q nd ns : Nat) (r : List Value), st = .int n :: .int dp :: .ref d :: .int sp :: .ref q :: r ∧ jx_shape q = some (.inr (0, ns)) ∧ jx_shape d = some (.inr (0, nd)) ∧ jx_cat r ≤ 8 ∧ ¬ sp < 0 ∧ ¬ dp < 0 ∧ ¬ n < 0 ∧ sp.toNatClampNeg + n.toNatClampNeg ≤ ns ∧ dp.toNatClampNeg + n.toNatClampNeg ≤ nd ∧ lv' = lv ∧ st' = r ∧ μ' = (jx_cpy μ.1 q sp.toNatClampNeg d dp.toNatClampNeg n.toNatClampNeg, μ.2) := by
  unfold jx_copy at h
  split at h
  next n dp d sp q r =>
    split at h
    next c ns c2 nd hs1 hs2 =>
      cases hb : (Nat.beq c 0 && (Nat.beq c2 0 && Nat.ble (jx_cat r) 8)) with
      | false => rw [hb] at h; cases h
      | true =>
        rw [hb] at h
        simp only [Bool.and_eq_true] at hb
        have e1 := Nat.eq_of_beq_eq_true hb.1
        have e2 := Nat.eq_of_beq_eq_true hb.2.1
        subst e1; subst e2
        obtain ⟨h0, h1, h2, h3⟩ := jx_go_inv h
        simp only [Bool.and_eq_true, Bool.not_eq_true', decide_eq_false_iff_not, decide_eq_true_eq] at h0
        exact ⟨n, dp, sp, d, q, nd, ns, r, rfl, hs1, hs2, Nat.le_of_ble_eq_true hb.2.2, h0.1.1, h0.1.2.1, h0.1.2.2, h0.2.1, h0.2.2, h1, h2, h3⟩
    next => cases h
  next => cases h
theorem jx_cpy_row (f : Nat → Nat → Int32) (q sp d dp n : Nat) {a : Nat} (h : a ≠ d) : f a = jx_cpy f q sp d dp n a := by
  funext k
  unfold jx_cpy
  rw [if_neg (fun e => h e.1)]
theorem jx_cpy_self (f : Nat → Nat → Int32) (q sp d dp n : Nat) : jx_cpy f q sp d dp n d = va_cpy (f q) (f d) sp dp n := by
  funext k
  unfold jx_cpy va_cpy
  by_cases h : dp ≤ k ∧ k < dp + n
  · rw [if_pos ⟨rfl, h⟩, if_pos h]
  · rw [if_neg (fun e => h e.2), if_neg h]
theorem jx_clok : ∀ (ci : Nat) (C : String) (T : u_T) (N : Nat), jx_cl[ci]? = some (C, T, N) → ∃ ty : Nat → FieldType, (∀ k, k < N → parseFieldDescriptor (T k).2.2.1 = some (ty k)) ∧ ∀ a, a < N → ∀ b, b < N → a ≠ b → (T a).2.1 ≠ (T b).2.1 := by
  intro ci C T N h
  match ci with
  | 0 => cases h; exact ⟨jx_ty0, jx_ok0, jx_nm0⟩
  | 1 => cases h; exact ⟨jx_ty1, jx_ok1, jx_nm1⟩
  | 2 => cases h; exact ⟨jx_ty2, jx_ok2, jx_nm2⟩
  | 3 => cases h; exact ⟨jx_ty3, jx_ok3, jx_nm3⟩
  | 4 => cases h; exact ⟨jx_ty4, jx_ok4, jx_nm4⟩
  | 5 => cases h; exact ⟨jx_ty5, jx_ok5, jx_nm5⟩
  | 6 => cases h; exact ⟨jx_ty6, jx_ok6, jx_nm6⟩
  | 7 => cases h; exact ⟨jx_ty7, jx_ok7, jx_nm7⟩
  | 8 => cases h; exact ⟨jx_ty8, jx_ok8, jx_nm8⟩
  | 9 => cases h; exact ⟨jx_ty9, jx_ok9, jx_nm9⟩
  | 10 => cases h; exact ⟨jx_ty10, jx_ok10, jx_nm10⟩
  | 11 => cases h; exact ⟨jx_ty11, jx_ok11, jx_nm11⟩
  | 12 => cases h; exact ⟨jx_ty12, jx_ok12, jx_nm12⟩
  | n + 13 => exact absurd h (by simp [jx_cl])
theorem jx_in_of {C : String} {T : u_T} {N : Nat} (hs : List Nat) (h : (List.range N).all (fun k => jx_at (hs.getD k 0) (u_lay C T k)) = true) : ∀ w ∈ u_ws C T N, w ∈ jx_tbl := by
  intro w hw
  obtain ⟨k, hk, rfl⟩ := List.mem_map.mp hw
  exact jx_at_mem (List.all_eq_true.mp h k hk)
theorem jx_in0_ : ∀ w ∈ u_ws "FairByEar$Air" jx_T0 5, w ∈ jx_tbl := jx_in_of [450, 452, 454, 456, 458] (by decide +kernel)
theorem jx_in1_ : ∀ w ∈ u_ws "FairByEar$Asking" jx_T1 7, w ∈ jx_tbl := jx_in_of [326, 328, 330, 332, 334, 336, 338] (by decide +kernel)
theorem jx_in2_ : ∀ w ∈ u_ws "FairByEar$Ears" jx_T2 3, w ∈ jx_tbl := jx_in_of [470, 472, 474] (by decide +kernel)
theorem jx_in3_ : ∀ w ∈ u_ws "FairByEar$Goods" jx_T3 6, w ∈ jx_tbl := jx_in_of [191, 193, 195, 197, 199, 201] (by decide +kernel)
theorem jx_in4_ : ∀ w ∈ u_ws "FairByEar$Items" jx_T4 10, w ∈ jx_tbl := jx_in_of [292, 294, 296, 298, 300, 302, 304, 306, 308, 310] (by decide +kernel)
theorem jx_in5_ : ∀ w ∈ u_ws "FairByEar$Mine" jx_T5 7, w ∈ jx_tbl := jx_in_of [163, 165, 167, 169, 171, 173, 175] (by decide +kernel)
theorem jx_in6_ : ∀ w ∈ u_ws "FairByEar$Noise" jx_T6 11, w ∈ jx_tbl := jx_in_of [416, 418, 420, 422, 424, 426, 428, 430, 432, 434, 436] (by decide +kernel)
theorem jx_in7_ : ∀ w ∈ u_ws "FairByEar$Row" jx_T7 2, w ∈ jx_tbl := jx_in_of [141, 143] (by decide +kernel)
theorem jx_in8_ : ∀ w ∈ u_ws "FairByEar$Rule" jx_T8 15, w ∈ jx_tbl := jx_in_of [244, 246, 248, 250, 252, 254, 256, 258, 260, 262, 264, 266, 268, 270, 272] (by decide +kernel)
theorem jx_in9_ : ∀ w ∈ u_ws "FairByEar$Tree" jx_T9 4, w ∈ jx_tbl := jx_in_of [214, 216, 218, 220] (by decide +kernel)
theorem jx_in10_ : ∀ w ∈ u_ws "FairByEar$Watch" jx_T10 17, w ∈ jx_tbl := jx_in_of [364, 366, 368, 370, 372, 374, 376, 378, 380, 382, 384, 386, 388, 390, 392, 394, 396] (by decide +kernel)
theorem jx_in11_ : ∀ w ∈ u_ws "FairByEar" jx_T11 11, w ∈ jx_tbl := jx_in_of [488, 490, 492, 494, 496, 498, 500, 502, 504, 506, 508] (by decide +kernel)
theorem jx_in12_ : ∀ w ∈ u_ws "FairByEarModel" jx_T12 68, w ∈ jx_tbl := jx_in_of [2111, 2113, 2115, 2117, 2119, 2121, 2123, 2125, 2127, 2129, 2131, 2133, 2135, 2137, 2139, 2141, 2143, 2145, 2147, 2149, 2151, 2153, 2155, 2157, 2159, 2161, 2163, 2165, 2167, 2169, 2171, 2173, 2175, 2177, 2179, 2181, 2183, 2185, 2187, 2189, 2191, 2193, 2195, 2197, 2199, 2201, 2203, 2205, 2207, 2209, 2211, 2213, 2215, 2217, 2219, 2221, 2223, 2225, 2227, 2229, 2231, 2233, 2235, 2237, 2239, 2241, 2243, 2245] (by decide +kernel)
theorem jx_inT : ∀ (ci : Nat) (C : String) (T : u_T) (N : Nat), jx_cl[ci]? = some (C, T, N) → ∀ w ∈ u_ws C T N, w ∈ jx_tbl := by
  intro ci C T N h
  match ci with
  | 0 => cases h; exact jx_in0_
  | 1 => cases h; exact jx_in1_
  | 2 => cases h; exact jx_in2_
  | 3 => cases h; exact jx_in3_
  | 4 => cases h; exact jx_in4_
  | 5 => cases h; exact jx_in5_
  | 6 => cases h; exact jx_in6_
  | 7 => cases h; exact jx_in7_
  | 8 => cases h; exact jx_in8_
  | 9 => cases h; exact jx_in9_
  | 10 => cases h; exact jx_in10_
  | 11 => cases h; exact jx_in11_
  | 12 => cases h; exact jx_in12_
  | n + 13 => exact absurd h (by simp [jx_cl])
theorem jx_shN : ∀ (i ci : Nat) (fs : List (Option Nat)) (C : String) (T : u_T) (N : Nat), jx_shape i = some (.inl (ci, fs)) → jx_cl[ci]? = some (C, T, N) → fs.length = N := by
  intro i ci fs C T N h hc
  have key : jx_sh.all (fun sh => match sh with
    | .inl (c, f) => (match jx_cl[c]? with | some q => Nat.beq f.length q.2.2 | none => true)
    | _ => true) = true := by decide +kernel
  have h1 := List.all_eq_true.mp key _ (List.mem_of_getElem? h)
  dsimp only at h1
  rw [hc] at h1
  exact Nat.eq_of_beq_eq_true h1
