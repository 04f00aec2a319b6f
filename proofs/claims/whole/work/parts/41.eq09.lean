set_option maxRecDepth 100000 in
theorem ePx_mostAlike_0 (d : Nat) (x1 : Int32) (I : Ad → Nat → Int32) (J : Ad → Nat → Int64) : ev d mPx_mostAlike 0 [vR (0, 0), vI x1, vU, vU] [] (hh I J) = ev d mPx_mostAlike 4 [vR (0, 0), vI x1, vI 0, vI 0] [] (hh I J) := (sy_go ckPx_mostAlike d 2000 0 _ _ _).trans rfl
set_option maxRecDepth 100000 in
theorem ePx_mostAlike_4 (d : Nat) (x1 : Int32) (x2 : Int32) (x3 : Int32) (I : Ad → Nat → Int32) (J : Ad → Nat → Int64) : ev d mPx_mostAlike 4 [vR (0, 0), vI x1, vI x2, vI x3] [] (hh I J) = if x3 < 9 then if ((x1 * 9) + x3) < 0 ∨ 27 ≤ ((x1 * 9) + x3).toNatClampNeg then none else ev d mPx_mostAlike 4 [vR (0, 0), vI x1, vI (if x2 < (I (36, 0) (((x1 * 9) + x3).toNatClampNeg)) then (I (36, 0) (((x1 * 9) + x3).toNatClampNeg)) else x2), vI (x3 + 1)] [] (hh I J) else some (some (vI x2), hh I J) := (sy_go ckPx_mostAlike d 2000 4 _ _ _).trans rfl
set_option maxRecDepth 100000 in
theorem ePx_drawn_0 (d : Nat) (x0 : Int32) (I : Ad → Nat → Int32) (J : Ad → Nat → Int64) : ev d mPx_drawn 0 [vI x0] [] (hh I J) = some (some (vI ((((x0.toInt64 * 1103515245) + 12345) &&& 2147483647).toInt32)), hh I J) := (sy_go ckPx_drawn d 2000 0 _ _ _).trans rfl
