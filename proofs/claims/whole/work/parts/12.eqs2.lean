set_option maxRecDepth 100000 in
theorem e_Rule_valueFor_124 (x1 : Int32) (x2 : Int32) (x3 : Int32) (x4 : Int32) (m : jx_Mem) : f_Rule_valueFor_124 x1 x2 x3 x4 m = if decide (x2 < 2) = true then (f_Rule_valueFor_160 x1 x2 x3 m) else (bif jx_in ((x2 + (-1)) - 1) 40 then bif jx_in (x2 + (-1)) 40 then (f_Rule_between (-x4) (m.1 32 ((x2 + (-1)) - 1).toNatClampNeg) (m.1 32 (x2 + (-1)).toNatClampNeg) m).bind (fun p1 => bif (jx_in ((x2 + (-1)) - 1) 40 && true) then (let m1 := jx_w1 p1.2 32 ((x2 + (-1)) - 1).toNatClampNeg p1.1; f_Rule_valueFor_160 x1 (x2 + (-1)) x3 m1) else none) else none else none) := (jx_V_K jx_kI jx_h88 jx_w88_ 400 124 _ _ m).trans rfl
set_option maxRecDepth 100000 in
theorem e_Rule_valueFor_124b (x1 : Int32) (x2 : Int32) (x3 : Int32) (x4 : Int32) (m : jx_Mem) : f_Rule_valueFor_124 x1 x2 x3 x4 m = if decide (x2 < 2) = true then (f_Rule_valueFor_160 x1 x2 x3 m) else (bif jx_in ((x2 + (-1)) - 1) 40 then bif jx_in (x2 + (-1)) 40 then (f_Rule_between (-x4) (m.1 32 ((x2 + (-1)) - 1).toNatClampNeg) (m.1 32 (x2 + (-1)).toNatClampNeg) m).bind (fun p1 => bif (jx_in ((x2 + (-1)) - 1) 40 && true) then (let m1 := jx_w1 p1.2 32 ((x2 + (-1)) - 1).toNatClampNeg p1.1; f_Rule_valueFor_160 x1 (x2 + (-1)) x3 m1) else none) else none else none) := by
  generalize hz : x2 + (-1) = z
  subst hz
  refine (jx_V_K jx_kI jx_h88 jx_w88_ 400 124 _ _ m).trans ?_
  with_unfolding_all rfl
