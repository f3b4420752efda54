/-! of an element -/
def jx_pc (el : jx_El) : Nat := el.1
def jx_len (el : jx_El) : Nat := el.2.1
def jx_ins (el : jx_El) : Instr := el.2.2.1
def jx_inf (el : jx_El) : List Nat := el.2.2.2.1
def jx_vals (el : jx_El) : List Value := el.2.2.2.2.1
def jx_keep (el : jx_El) : Option (List Nat) := el.2.2.2.2.2
def jx_tbl : List Cond := lw_tbl.filter goodWord
def jx_isNest : Cond → Bool
  | .methodLinkNest _ _ _ _ => true
  | _ => false
def jx_nest : List Cond := lw_tbl.filter jx_isNest
