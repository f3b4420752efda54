/-! a step that jumps; a step that ends -/
theorem jx_go_nr {b : Bool} {lv : jx_Lv} {st : List Value} {μ : jx_Mem} {z} (h : jx_go b lv st μ = some (.inr z)) : False := by unfold jx_go at h; cases h
theorem jx_push_nr  {el : jx_El} {lv : jx_Lv} {st : List Value} {μ : jx_Mem} {z} (h : jx_push el lv st μ = some (.inr z)) : False := by
  unfold jx_push at h
  (try simp only [Bool.cond_eq_ite] at h)
  repeat' split at h
  all_goals first | (exact jx_go_nr h) | (cases h; done)
theorem jx_ldI_nr  {el : jx_El} {lv : jx_Lv} {st : List Value} {μ : jx_Mem} {z} (h : jx_ldI el lv st μ = some (.inr z)) : False := by
  unfold jx_ldI at h
  (try simp only [Bool.cond_eq_ite] at h)
  repeat' split at h
  all_goals first | (exact jx_go_nr h) | (cases h; done)
theorem jx_ldL_nr  {el : jx_El} {lv : jx_Lv} {st : List Value} {μ : jx_Mem} {z} (h : jx_ldL el lv st μ = some (.inr z)) : False := by
  unfold jx_ldL at h
  (try simp only [Bool.cond_eq_ite] at h)
  repeat' split at h
  all_goals first | (exact jx_go_nr h) | (cases h; done)
theorem jx_ldA_nr  {el : jx_El} {lv : jx_Lv} {st : List Value} {μ : jx_Mem} {z} (h : jx_ldA el lv st μ = some (.inr z)) : False := by
  unfold jx_ldA at h
  (try simp only [Bool.cond_eq_ite] at h)
  repeat' split at h
  all_goals first | (exact jx_go_nr h) | (cases h; done)
theorem jx_stI_nr  {el : jx_El} {lv : jx_Lv} {st : List Value} {μ : jx_Mem} {z} (h : jx_stI el lv st μ = some (.inr z)) : False := by
  unfold jx_stI at h
  (try simp only [Bool.cond_eq_ite] at h)
  repeat' split at h
  all_goals first | (exact jx_go_nr h) | (cases h; done)
theorem jx_stL_nr  {el : jx_El} {lv : jx_Lv} {st : List Value} {μ : jx_Mem} {z} (h : jx_stL el lv st μ = some (.inr z)) : False := by
  unfold jx_stL at h
  (try simp only [Bool.cond_eq_ite] at h)
  repeat' split at h
  all_goals first | (exact jx_go_nr h) | (cases h; done)
theorem jx_stA_nr  {el : jx_El} {lv : jx_Lv} {st : List Value} {μ : jx_Mem} {z} (h : jx_stA el lv st μ = some (.inr z)) : False := by
  unfold jx_stA at h
  (try simp only [Bool.cond_eq_ite] at h)
  repeat' split at h
  all_goals first | (exact jx_go_nr h) | (cases h; done)
theorem jx_iinc_nr  {el : jx_El} {lv : jx_Lv} {st : List Value} {μ : jx_Mem} {z} (h : jx_iinc el lv st μ = some (.inr z)) : False := by
  unfold jx_iinc at h
  (try simp only [Bool.cond_eq_ite] at h)
  repeat' split at h
  all_goals first | (exact jx_go_nr h) | (cases h; done)
theorem jx_bin_nr {f : Int32 → Int32 → Int32} {g : Int32 → Bool} {el : jx_El} {lv : jx_Lv} {st : List Value} {μ : jx_Mem} {z} (h : jx_bin f g lv st μ = some (.inr z)) : False := by
  unfold jx_bin at h
  (try simp only [Bool.cond_eq_ite] at h)
  repeat' split at h
  all_goals first | (exact jx_go_nr h) | (cases h; done)
theorem jx_binL_nr {f : Int64 → Int64 → Int64} {g : Int64 → Bool} {el : jx_El} {lv : jx_Lv} {st : List Value} {μ : jx_Mem} {z} (h : jx_binL f g lv st μ = some (.inr z)) : False := by
  unfold jx_binL at h
  (try simp only [Bool.cond_eq_ite] at h)
  repeat' split at h
  all_goals first | (exact jx_go_nr h) | (cases h; done)
theorem jx_shL_nr {f : Int64 → Int32 → Int64} {el : jx_El} {lv : jx_Lv} {st : List Value} {μ : jx_Mem} {z} (h : jx_shL f lv st μ = some (.inr z)) : False := by
  unfold jx_shL at h
  (try simp only [Bool.cond_eq_ite] at h)
  repeat' split at h
  all_goals first | (exact jx_go_nr h) | (cases h; done)
theorem jx_un_nr {f : Int32 → Int32} {el : jx_El} {lv : jx_Lv} {st : List Value} {μ : jx_Mem} {z} (h : jx_un f lv st μ = some (.inr z)) : False := by
  unfold jx_un at h
  (try simp only [Bool.cond_eq_ite] at h)
  repeat' split at h
  all_goals first | (exact jx_go_nr h) | (cases h; done)
theorem jx_getf_nr  {el : jx_El} {lv : jx_Lv} {st : List Value} {μ : jx_Mem} {z} (h : jx_getf el lv st μ = some (.inr z)) : False := by
  unfold jx_getf at h
  (try simp only [Bool.cond_eq_ite] at h)
  repeat' split at h
  all_goals first | (exact jx_go_nr h) | (cases h; done)
theorem jx_putf_nr  {el : jx_El} {lv : jx_Lv} {st : List Value} {μ : jx_Mem} {z} (h : jx_putf el lv st μ = some (.inr z)) : False := by
  unfold jx_putf at h
  (try simp only [Bool.cond_eq_ite] at h)
  repeat' split at h
  all_goals first | (exact jx_go_nr h) | (cases h; done)
theorem jx_ald_nr {k : Nat} {el : jx_El} {lv : jx_Lv} {st : List Value} {μ : jx_Mem} {z} (h : jx_ald k lv st μ = some (.inr z)) : False := by
  unfold jx_ald at h
  (try simp only [Bool.cond_eq_ite] at h)
  repeat' split at h
  all_goals first | (exact jx_go_nr h) | (cases h; done)
theorem jx_aldL_nr  {el : jx_El} {lv : jx_Lv} {st : List Value} {μ : jx_Mem} {z} (h : jx_aldL lv st μ = some (.inr z)) : False := by
  unfold jx_aldL at h
  (try simp only [Bool.cond_eq_ite] at h)
  repeat' split at h
  all_goals first | (exact jx_go_nr h) | (cases h; done)
theorem jx_ast_nr {k : Nat} {el : jx_El} {lv : jx_Lv} {st : List Value} {μ : jx_Mem} {z} (h : jx_ast k lv st μ = some (.inr z)) : False := by
  unfold jx_ast at h
  (try simp only [Bool.cond_eq_ite] at h)
  repeat' split at h
  all_goals first | (exact jx_go_nr h) | (cases h; done)
theorem jx_astL_nr  {el : jx_El} {lv : jx_Lv} {st : List Value} {μ : jx_Mem} {z} (h : jx_astL lv st μ = some (.inr z)) : False := by
  unfold jx_astL at h
  (try simp only [Bool.cond_eq_ite] at h)
  repeat' split at h
  all_goals first | (exact jx_go_nr h) | (cases h; done)
theorem jx_alen_nr  {el : jx_El} {lv : jx_Lv} {st : List Value} {μ : jx_Mem} {z} (h : jx_alen lv st μ = some (.inr z)) : False := by
  unfold jx_alen at h
  (try simp only [Bool.cond_eq_ite] at h)
  repeat' split at h
  all_goals first | (exact jx_go_nr h) | (cases h; done)
theorem jx_copy_nr  {el : jx_El} {lv : jx_Lv} {st : List Value} {μ : jx_Mem} {z} (h : jx_copy lv st μ = some (.inr z)) : False := by
  unfold jx_copy at h
  (try simp only [Bool.cond_eq_ite] at h)
  repeat' split at h
  all_goals first | (exact jx_go_nr h) | (cases h; done)
theorem jx_slen_nr  {el : jx_El} {lv : jx_Lv} {st : List Value} {μ : jx_Mem} {z} (h : jx_slen lv st μ = some (.inr z)) : False := by
  unfold jx_slen at h
  (try simp only [Bool.cond_eq_ite] at h)
  repeat' split at h
  all_goals first | (exact jx_go_nr h) | (cases h; done)
theorem jx_schar_nr  {el : jx_El} {lv : jx_Lv} {st : List Value} {μ : jx_Mem} {z} (h : jx_schar lv st μ = some (.inr z)) : False := by
  unfold jx_schar at h
  (try simp only [Bool.cond_eq_ite] at h)
  repeat' split at h
  all_goals first | (exact jx_go_nr h) | (cases h; done)
theorem jx_mth1_nr {f : Int32 → Int32} {el : jx_El} {lv : jx_Lv} {st : List Value} {μ : jx_Mem} {z} (h : jx_mth1 f lv st μ = some (.inr z)) : False := by
  unfold jx_mth1 at h
  (try simp only [Bool.cond_eq_ite] at h)
  repeat' split at h
  all_goals first | (exact jx_go_nr h) | (cases h; done)
theorem jx_mth2_nr {f : Int32 → Int32 → Int32} {el : jx_El} {lv : jx_Lv} {st : List Value} {μ : jx_Mem} {z} (h : jx_mth2 f lv st μ = some (.inr z)) : False := by
  unfold jx_mth2 at h
  (try simp only [Bool.cond_eq_ite] at h)
  repeat' split at h
  all_goals first | (exact jx_go_nr h) | (cases h; done)
theorem jx_callV_inr {el : jx_El} {lv : jx_Lv} {st : List Value} {μ : jx_Mem} {z} (h : jx_callV el lv st μ = some (.inr z)) : ∃ y, z = .inr (.inr y) := by
  unfold jx_callV at h
  (try simp only [Bool.cond_eq_ite] at h)
  repeat' split at h
  all_goals first | (exact absurd h (fun q => jx_slen_nr (el := el) q)) | (exact absurd h (fun q => jx_schar_nr (el := el) q)) | (cases h; done) | (cases h; exact ⟨_, rfl⟩)
theorem jx_callS_inr {el : jx_El} {lv : jx_Lv} {st : List Value} {μ : jx_Mem} {z} (h : jx_callS el lv st μ = some (.inr z)) : ∃ y, z = .inr (.inr y) := by
  unfold jx_callS at h
  (try simp only [Bool.cond_eq_ite] at h)
  repeat' split at h
  all_goals first | (exact absurd h (fun q => jx_copy_nr (el := el) q)) | (exact absurd h (fun q => jx_mth1_nr (el := el) q)) | (exact absurd h (fun q => jx_mth2_nr (el := el) q)) | (cases h; done) | (cases h; exact ⟨_, rfl⟩)
def jx_isR : Instr → Bool
  | .ifCond _ _ => true
  | .if_icmp _ _ => true
  | .goto _ => true
  | .tableswitch _ _ _ _ => true
  | .lookupswitch _ _ => true
  | .ireturn => true
  | .lreturn => true
  | .return_ => true
  | .invokevirtual _ => true
  | .invokestatic _ => true
  | _ => false
set_option maxHeartbeats 4000000 in
theorem jx_act_inr {el : jx_El} {lv : jx_Lv} {st : List Value} {μ : jx_Mem} {z} (h : jx_act el lv st μ = some (.inr z)) : jx_isR (jx_ins el) = true := by
  unfold jx_act at h
  cases hins : jx_ins el <;> rw [hins] at h <;> (try dsimp only at h) <;> first | rfl | (cases h; done) | (exact absurd h (fun q => jx_push_nr q)) | (exact absurd h (fun q => jx_ldI_nr q)) | (exact absurd h (fun q => jx_ldL_nr q)) | (exact absurd h (fun q => jx_ldA_nr q)) | (exact absurd h (fun q => jx_stI_nr q)) | (exact absurd h (fun q => jx_stL_nr q)) | (exact absurd h (fun q => jx_stA_nr q)) | (exact absurd h (fun q => jx_iinc_nr q)) | (exact absurd h (fun q => jx_bin_nr (el := el) q)) | (exact absurd h (fun q => jx_binL_nr (el := el) q)) | (exact absurd h (fun q => jx_shL_nr (el := el) q)) | (exact absurd h (fun q => jx_un_nr (el := el) q)) | (exact absurd h (fun q => jx_getf_nr q)) | (exact absurd h (fun q => jx_putf_nr q)) | (exact absurd h (fun q => jx_ald_nr (el := el) q)) | (exact absurd h (fun q => jx_aldL_nr (el := el) q)) | (exact absurd h (fun q => jx_ast_nr (el := el) q)) | (exact absurd h (fun q => jx_astL_nr (el := el) q)) | (exact absurd h (fun q => jx_alen_nr (el := el) q)) | (exfalso; (try simp only [Bool.cond_eq_ite] at h); (repeat' (split at h)); all_goals first | (exact jx_go_nr h) | (cases h; done))
theorem jx_if1_inv {f : Int32 → Bool} {el : jx_El} {lv lv' : jx_Lv} {st st' : List Value} {sw : List (Bool × Nat)} {d : Option Nat} (h : jx_if1 f el lv st = some (.inr (.inl (sw, d, lv', st')))) : ∃ (t : Nat) (x : Int32), jx_inf el = [t] ∧ st = .int x :: st' ∧ sw = [(f x, t)] ∧ d = none ∧ lv' = lv := by
  unfold jx_if1 at h
  split at h
  next t hi =>
    split at h
    next x r => cases h; exact ⟨t, x, hi, rfl, rfl, rfl, rfl⟩
    next => cases h
  next => cases h
theorem jx_if2_inv {f : Int32 → Int32 → Bool} {el : jx_El} {lv lv' : jx_Lv} {st st' : List Value} {sw : List (Bool × Nat)} {d : Option Nat} (h : jx_if2 f el lv st = some (.inr (.inl (sw, d, lv', st')))) : ∃ (t : Nat) (x y : Int32), jx_inf el = [t] ∧ st = .int y :: .int x :: st' ∧ sw = [(f x y, t)] ∧ d = none ∧ lv' = lv := by
  unfold jx_if2 at h
  split at h
  next t hi =>
    split at h
    next y x r => cases h; exact ⟨t, x, y, hi, rfl, rfl, rfl, rfl⟩
    next => cases h
  next => cases h
theorem jx_goto_inv {el : jx_El} {lv lv' : jx_Lv} {st st' : List Value} {sw : List (Bool × Nat)} {d : Option Nat} (h : jx_goto el lv st = some (.inr (.inl (sw, d, lv', st')))) : ∃ t : Nat, jx_inf el = [t] ∧ st' = st ∧ sw = [] ∧ d = some t ∧ lv' = lv := by
  unfold jx_goto at h
  split at h
  next t hi => cases h; exact ⟨t, hi, rfl, rfl, rfl, rfl⟩
  next => cases h
theorem jx_switch_inv {el : jx_El} {lv lv' : jx_Lv} {st st' : List Value} {sw : List (Bool × Nat)} {d : Option Nat} (h : jx_switch el lv st = some (.inr (.inl (sw, d, lv', st')))) : ∃ (dt : Nat) (ts : List Nat) (x : Int32), jx_inf el = dt :: ts ∧ st = .int x :: st' ∧ sw = jx_cases x (jx_vals el) ts ∧ d = some dt ∧ lv' = lv := by
  unfold jx_switch at h
  split at h
  next dt ts hi =>
    split at h
    next x r => cases h; exact ⟨dt, ts, x, hi, rfl, rfl, rfl, rfl⟩
    next => cases h
  next => cases h
theorem jx_tgt_inv {el : jx_El} {off : Int} {t : Nat} (hk : jx_tgt el off = true) (hi : jx_inf el = [t]) : jx_len el = 3 ∧ (jx_pc el : Int) + off = (t : Int) := by
  unfold jx_tgt at hk
  rw [hi] at hk
  simp only [Bool.and_eq_true, decide_eq_true_eq] at hk
  exact ⟨Nat.eq_of_beq_eq_true hk.1, hk.2⟩
theorem jx_ks_pick (pc : Nat) (x : Int32) (d : Int) (dt : Nat) (hd : (pc : Int) + d = (dt : Int)) : ∀ (ps : List (Int × Int)) (vs : List Value) (ts : List Nat), jx_ksOk vs ts ps pc = true → ∃ t : Nat, jx_pick (jx_cases x vs ts) (some dt) = some t ∧ (pc : Int) + Op.lookupswitch.offset ps d x.toInt = (t : Int) := by
  intro ps
  induction ps with
  | nil =>
    intro vs ts h
    match vs, ts with
    | [], [] => exact ⟨dt, rfl, hd⟩
    | [], _ :: _ => cases h
    | .int _ :: _, [] => cases h
    | .int _ :: _, _ :: _ => cases h
    | .long _ :: _, _ => cases h
    | .float _ :: _, _ => cases h
    | .double _ :: _, _ => cases h
    | .null :: _, _ => cases h
    | .ref _ :: _, _ => cases h
    | .retAddr _ :: _, _ => cases h
  | cons q qs ih =>
    intro vs ts h
    match vs, ts with
    | [], [] => cases h
    | [], _ :: _ => cases h
    | .int _ :: _, [] => cases h
    | .int k :: vs, t :: ts =>
      simp only [jx_ksOk, Bool.and_eq_true, decide_eq_true_eq] at h
      obtain ⟨h1, h2, h3⟩ := h
      obtain ⟨t2, e1, e2⟩ := ih vs ts h3
      by_cases hx : x = k
      · refine ⟨t, by simp [jx_cases, jx_pick, hx], ?_⟩
        rw [show q = (q.1, q.2) from rfl, Op.lookupswitch.offset_cons, if_pos (by rw [hx]; exact h1.symm)]
        exact h2
      · refine ⟨t2, by simp [jx_cases, jx_pick, hx]; exact e1, ?_⟩
        rw [show q = (q.1, q.2) from rfl, Op.lookupswitch.offset_cons, if_neg (fun e => hx (Int32.toInt_inj.mp (by rw [h1]; exact e.symm)))]
        exact e2
    | .long _ :: _, _ => cases h
    | .float _ :: _, _ => cases h
    | .double _ :: _, _ => cases h
    | .null :: _, _ => cases h
    | .ref _ :: _, _ => cases h
    | .retAddr _ :: _, _ => cases h
theorem jx_ts_pick (pc : Nat) (x : Int32) (dt : Nat) : ∀ (qs : List Int) (vs : List Value) (ts : List Nat) (lo : Int), jx_tsOk vs ts qs pc lo = true → ((x.toInt < lo ∨ lo + (qs.length : Int) ≤ x.toInt) → jx_pick (jx_cases x vs ts) (some dt) = some dt) ∧ (lo ≤ x.toInt → x.toInt < lo + (qs.length : Int) → ∃ (off : Int) (t : Nat), qs[(x.toInt - lo).toNat]? = some off ∧ jx_pick (jx_cases x vs ts) (some dt) = some t ∧ (pc : Int) + off = (t : Int)) := by
  intro qs
  induction qs with
  | nil =>
    intro vs ts lo h
    match vs, ts with
    | [], [] => exact ⟨fun _ => rfl, fun h1 h2 => by simp at h2; omega⟩
    | [], _ :: _ => cases h
    | .int _ :: _, [] => cases h
    | .int _ :: _, _ :: _ => cases h
    | .long _ :: _, _ => cases h
    | .float _ :: _, _ => cases h
    | .double _ :: _, _ => cases h
    | .null :: _, _ => cases h
    | .ref _ :: _, _ => cases h
    | .retAddr _ :: _, _ => cases h
  | cons q qs ih =>
    intro vs ts lo h
    match vs, ts with
    | [], [] => cases h
    | [], _ :: _ => cases h
    | .int _ :: _, [] => cases h
    | .int k :: vs, t :: ts =>
      simp only [jx_tsOk, Bool.and_eq_true, decide_eq_true_eq] at h
      obtain ⟨h1, h2, h3⟩ := h
      obtain ⟨e1, e2⟩ := ih vs ts (lo + 1) h3
      rw [List.length_cons]
      by_cases hx : x = k
      · have hxl : x.toInt = lo := by rw [hx]; exact h1
        refine ⟨fun hh => by omega, fun _ _ => ⟨q, t, ?_, by simp [jx_cases, jx_pick, hx], h2⟩⟩
        rw [show (x.toInt - lo).toNat = 0 by omega]
        rfl
      · have hxl : x.toInt ≠ lo := fun e => hx (Int32.toInt_inj.mp (by rw [h1]; exact e))
        have hp : jx_pick (jx_cases x (.int k :: vs) (t :: ts)) (some dt) = jx_pick (jx_cases x vs ts) (some dt) := by simp [jx_cases, jx_pick, hx]
        rw [hp]
        refine ⟨fun hh => e1 (by omega), fun h4 h5 => ?_⟩
        obtain ⟨off, t2, g1, g2, g3⟩ := e2 (by omega) (by omega)
        refine ⟨off, t2, ?_, g2, g3⟩
        rw [show (x.toInt - lo).toNat = (x.toInt - (lo + 1)).toNat + 1 by omega]
        exact g1
    | .long _ :: _, _ => cases h
    | .float _ :: _, _ => cases h
    | .double _ :: _, _ => cases h
    | .null :: _, _ => cases h
    | .ref _ :: _, _ => cases h
    | .retAddr _ :: _, _ => cases h
section JXJ
variable {p : Program} {l : Launch} {e : Env} {R : Room} {s : State} {m : MethodId} {args : Array Value} {below : List Frame} {meth : Method} {c : Code} {Q : State → Prop} {ad : Nat → Nat} {D : va_G} {cs : ClassId × ClassId × ClassId} {A : Nat → Prop} {X : Heap → State → Prop} {M : jx_M} {H0 : Heap} {el : jx_El} {h : Nat} {lv lv' : jx_Lv} {st st' : List Value} {μ μ' : jx_Mem}
set_option maxHeartbeats 4000000 in
theorem jx_jump_ok (C0 : jx_Cx p s m args c M) (hok : jx_ok M el h = true) {sw : List (Bool × Nat)} {d : Option Nat} (hact : jx_act el lv st μ = some (.inr (.inl (sw, d, lv', st'))))
    (kt : ∀ t, jx_pick sw d = some t → jx_Go p l e R s m args below meth c Q ad D cs A X M H0 t lv' st' μ) (kf : jx_pick sw d = none → jx_Go p l e R s m args below meth c Q ad D cs A X M H0 (jx_pc el + jx_len el) lv' st' μ) : jx_Go p l e R s m args below meth c Q ad D cs A X M H0 (jx_pc el) lv st μ := by
  obtain ⟨hx, hb, hml, hown, hts⟩ := C0
  intro H locs ls hl hW hS
  have hraw : jx_raw el = false := by
    cases hr : jx_raw el with
    | false => rfl
    | true =>
      unfold jx_raw at hr
      unfold jx_act at hact
      cases hins : jx_ins el <;> rw [hins] at hr hact <;> first | (cases hr; done) | (cases hact; done)
  obtain ⟨hdec, hok⟩ := jx_ok_dec hok hraw
  have hact0 := hact
  unfold jx_act at hact
  unfold jx_okx at hok
  cases hins : jx_ins el with
  | ifCond cd off =>
    rw [hins] at hact hok hdec
    dsimp only at hok
    cases cd with
    | eq =>
      dsimp only at hact
      obtain ⟨t, x, hi, rfl, rfl, rfl, rfl⟩ := jx_if1_inv hact
      obtain ⟨hlen, ht⟩ := jx_tgt_inv hok hi
      rw [hlen] at hdec kf
      exact lv_if_eq hx hb hdec ht (fun hc => kt t (by simp [jx_pick, hc]) H locs ls hl hW hS) (fun hc => kf (by simp [jx_pick, hc]) H locs ls hl hW hS)
    | ne =>
      dsimp only at hact
      obtain ⟨t, x, hi, rfl, rfl, rfl, rfl⟩ := jx_if1_inv hact
      obtain ⟨hlen, ht⟩ := jx_tgt_inv hok hi
      rw [hlen] at hdec kf
      exact lv_if_ne hx hb hdec ht (fun hc => kt t (by simp [jx_pick, hc]) H locs ls hl hW hS) (fun hc => kf (by simp [jx_pick, hc]) H locs ls hl hW hS)
    | lt =>
      dsimp only at hact
      obtain ⟨t, x, hi, rfl, rfl, rfl, rfl⟩ := jx_if1_inv hact
      obtain ⟨hlen, ht⟩ := jx_tgt_inv hok hi
      rw [hlen] at hdec kf
      exact lv_if_lt hx hb hdec ht (fun hc => kt t (by simp [jx_pick, hc]) H locs ls hl hW hS) (fun hc => kf (by simp [jx_pick, hc]) H locs ls hl hW hS)
    | ge =>
      dsimp only at hact
      obtain ⟨t, x, hi, rfl, rfl, rfl, rfl⟩ := jx_if1_inv hact
      obtain ⟨hlen, ht⟩ := jx_tgt_inv hok hi
      rw [hlen] at hdec kf
      exact lv_if_ge hx hb hdec ht (fun hc => kt t (by simp [jx_pick, hc]) H locs ls hl hW hS) (fun hc => kf (by simp [jx_pick, hc]) H locs ls hl hW hS)
    | gt =>
      dsimp only at hact
      obtain ⟨t, x, hi, rfl, rfl, rfl, rfl⟩ := jx_if1_inv hact
      obtain ⟨hlen, ht⟩ := jx_tgt_inv hok hi
      rw [hlen] at hdec kf
      exact lv_if_gt hx hb hdec ht (fun hc => kt t (by simp [jx_pick, hc]) H locs ls hl hW hS) (fun hc => kf (by simp [jx_pick, hc]) H locs ls hl hW hS)
    | le =>
      dsimp only at hact
      obtain ⟨t, x, hi, rfl, rfl, rfl, rfl⟩ := jx_if1_inv hact
      obtain ⟨hlen, ht⟩ := jx_tgt_inv hok hi
      rw [hlen] at hdec kf
      exact lv_if_le hx hb hdec ht (fun hc => kt t (by simp [jx_pick, hc]) H locs ls hl hW hS) (fun hc => kf (by simp [jx_pick, hc]) H locs ls hl hW hS)
  | if_icmp cd off =>
    rw [hins] at hact hok hdec
    dsimp only at hok
    cases cd with
    | eq =>
      dsimp only at hact
      obtain ⟨t, x, y, hi, rfl, rfl, rfl, rfl⟩ := jx_if2_inv hact
      obtain ⟨hlen, ht⟩ := jx_tgt_inv hok hi
      rw [hlen] at hdec kf
      exact lv_icmp_eq hx hb hdec ht (fun hc => kt t (by simp [jx_pick, hc]) H locs ls hl hW hS) (fun hc => kf (by simp [jx_pick, hc]) H locs ls hl hW hS)
    | ne =>
      dsimp only at hact
      obtain ⟨t, x, y, hi, rfl, rfl, rfl, rfl⟩ := jx_if2_inv hact
      obtain ⟨hlen, ht⟩ := jx_tgt_inv hok hi
      rw [hlen] at hdec kf
      exact lv_icmp_ne hx hb hdec ht (fun hc => kt t (by simp [jx_pick, hc]) H locs ls hl hW hS) (fun hc => kf (by simp [jx_pick, hc]) H locs ls hl hW hS)
    | lt =>
      dsimp only at hact
      obtain ⟨t, x, y, hi, rfl, rfl, rfl, rfl⟩ := jx_if2_inv hact
      obtain ⟨hlen, ht⟩ := jx_tgt_inv hok hi
      rw [hlen] at hdec kf
      exact lv_icmp_lt hx hb hdec ht (fun hc => kt t (by simp [jx_pick, hc]) H locs ls hl hW hS) (fun hc => kf (by simp [jx_pick, hc]) H locs ls hl hW hS)
    | ge =>
      dsimp only at hact
      obtain ⟨t, x, y, hi, rfl, rfl, rfl, rfl⟩ := jx_if2_inv hact
      obtain ⟨hlen, ht⟩ := jx_tgt_inv hok hi
      rw [hlen] at hdec kf
      exact lv_icmp_ge hx hb hdec ht (fun hc => kt t (by simp [jx_pick, hc]) H locs ls hl hW hS) (fun hc => kf (by simp [jx_pick, hc]) H locs ls hl hW hS)
    | gt =>
      dsimp only at hact
      obtain ⟨t, x, y, hi, rfl, rfl, rfl, rfl⟩ := jx_if2_inv hact
      obtain ⟨hlen, ht⟩ := jx_tgt_inv hok hi
      rw [hlen] at hdec kf
      exact lv_icmp_gt hx hb hdec ht (fun hc => kt t (by simp [jx_pick, hc]) H locs ls hl hW hS) (fun hc => kf (by simp [jx_pick, hc]) H locs ls hl hW hS)
    | le =>
      dsimp only at hact
      obtain ⟨t, x, y, hi, rfl, rfl, rfl, rfl⟩ := jx_if2_inv hact
      obtain ⟨hlen, ht⟩ := jx_tgt_inv hok hi
      rw [hlen] at hdec kf
      exact lv_icmp_le hx hb hdec ht (fun hc => kt t (by simp [jx_pick, hc]) H locs ls hl hW hS) (fun hc => kf (by simp [jx_pick, hc]) H locs ls hl hW hS)
  | goto off =>
    rw [hins] at hact hok hdec
    dsimp only at hact hok
    obtain ⟨t, hi, rfl, rfl, rfl, rfl⟩ := jx_goto_inv hact
    obtain ⟨hlen, ht⟩ := jx_tgt_inv hok hi
    rw [hlen] at hdec
    exact lv_goto hx hb hdec ht (kt t rfl H locs ls hl hW hS)
  | lookupswitch d0 ps =>
    rw [hins] at hact hok hdec
    dsimp only at hact hok
    obtain ⟨dt, ts, x, hi, rfl, rfl, rfl, rfl⟩ := jx_switch_inv hact
    unfold jx_swOk at hok
    rw [hi] at hok
    simp only [Bool.and_eq_true, decide_eq_true_eq] at hok
    obtain ⟨t, h1, h2⟩ := jx_ks_pick (jx_pc el) x d0 dt hok.1 ps.toList (jx_vals el) ts hok.2.2
    exact lv_lookup hx hb hdec hok.2.1 rfl h2 (kt t h1 H locs ls hl hW hS)
  | tableswitch d0 lo hi offs =>
    rw [hins] at hact hok hdec
    dsimp only at hact hok
    obtain ⟨dt, ts, x, hi1, rfl, rfl, rfl, rfl⟩ := jx_switch_inv hact
    unfold jx_tbOk at hok
    rw [hi1] at hok
    simp only [Bool.and_eq_true, decide_eq_true_eq] at hok
    obtain ⟨e1, e2⟩ := jx_ts_pick (jx_pc el) x dt offs.toList (jx_vals el) ts lo hok.2.2
    by_cases hin : x.toInt < lo ∨ hi < x.toInt
    · exact lv_tableOut hx hb hdec hin hok.1 (kt dt (e1 (by omega)) H locs ls hl hW hS)
    · obtain ⟨off, t, g1, g2, g3⟩ := e2 (by omega) (by omega)
      exact lv_tableIn hx hb hdec (by omega) (by omega) (by rw [← Array.getElem?_toList]; exact g1) g3 (kt t g2 H locs ls hl hW hS)
  | ireturn => exfalso; rw [hins] at hact; dsimp only at hact; split at hact <;> cases hact
  | lreturn => exfalso; rw [hins] at hact; dsimp only at hact; split at hact <;> cases hact
  | return_ => exfalso; rw [hins] at hact; dsimp only at hact; split at hact <;> cases hact
  | invokevirtual i => exfalso; rw [hins] at hact; dsimp only at hact; obtain ⟨z, hz⟩ := jx_callV_inr hact; cases hz
  | invokestatic i => exfalso; rw [hins] at hact; dsimp only at hact; obtain ⟨z, hz⟩ := jx_callS_inr hact; cases hz
  | _ => exfalso; have hz := jx_act_inr hact0; rw [hins] at hz; cases hz
end JXJ
