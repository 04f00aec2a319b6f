set_option maxRecDepth 100000 in
theorem eAr_fill_9_0 (d : Nat) (n : Nat) (x1 : Int32) (I : Ad → Nat → Int32) (J : Ad → Nat → Int64) : ev d mAr_fill 0 [vR (9, n), vI x1, vU, vU] [] (hh I J) = ev d mAr_fill 5 [vR (9, n), vI x1, vI 0, vI 8] [] (hh I J) := (syT_go tqAr_fill ckAr_fill d 2000 0 _ _ _).trans rfl
set_option maxRecDepth 100000 in
theorem eAr_fill_9_5 (d : Nat) (n : Nat) (x1 : Int32) (x2 : Int32) (x3 : Int32) (I : Ad → Nat → Int32) (J : Ad → Nat → Int64) : ev d mAr_fill 5 [vR (9, n), vI x1, vI x2, vI x3] [] (hh I J) = if x2 < x3 then if x2 < 0 ∨ 8 ≤ x2.toNatClampNeg then none else ev d mAr_fill 5 [vR (9, n), vI x1, vI (x2 + 1), vI x3] [] (hh (up2 I (9, n) x2.toNatClampNeg x1) J) else some (none, hh I J) := (syT_go tqAr_fill ckAr_fill d 2000 5 _ _ _).trans rfl
set_option maxRecDepth 100000 in
theorem eAr_fill_10_0 (d : Nat) (n : Nat) (x1 : Int32) (I : Ad → Nat → Int32) (J : Ad → Nat → Int64) : ev d mAr_fill 0 [vR (10, n), vI x1, vU, vU] [] (hh I J) = ev d mAr_fill 5 [vR (10, n), vI x1, vI 0, vI 64] [] (hh I J) := (syT_go tqAr_fill ckAr_fill d 2000 0 _ _ _).trans rfl
set_option maxRecDepth 100000 in
theorem eAr_fill_10_5 (d : Nat) (n : Nat) (x1 : Int32) (x2 : Int32) (x3 : Int32) (I : Ad → Nat → Int32) (J : Ad → Nat → Int64) : ev d mAr_fill 5 [vR (10, n), vI x1, vI x2, vI x3] [] (hh I J) = if x2 < x3 then if x2 < 0 ∨ 64 ≤ x2.toNatClampNeg then none else ev d mAr_fill 5 [vR (10, n), vI x1, vI (x2 + 1), vI x3] [] (hh (up2 I (10, n) x2.toNatClampNeg x1) J) else some (none, hh I J) := (syT_go tqAr_fill ckAr_fill d 2000 5 _ _ _).trans rfl
set_option maxRecDepth 100000 in
theorem eAr_fill_12_0 (d : Nat) (n : Nat) (x1 : Int32) (I : Ad → Nat → Int32) (J : Ad → Nat → Int64) : ev d mAr_fill 0 [vR (12, n), vI x1, vU, vU] [] (hh I J) = ev d mAr_fill 5 [vR (12, n), vI x1, vI 0, vI 8] [] (hh I J) := (syT_go tqAr_fill ckAr_fill d 2000 0 _ _ _).trans rfl
set_option maxRecDepth 100000 in
theorem eAr_fill_12_5 (d : Nat) (n : Nat) (x1 : Int32) (x2 : Int32) (x3 : Int32) (I : Ad → Nat → Int32) (J : Ad → Nat → Int64) : ev d mAr_fill 5 [vR (12, n), vI x1, vI x2, vI x3] [] (hh I J) = if x2 < x3 then if x2 < 0 ∨ 8 ≤ x2.toNatClampNeg then none else ev d mAr_fill 5 [vR (12, n), vI x1, vI (x2 + 1), vI x3] [] (hh (up2 I (12, n) x2.toNatClampNeg x1) J) else some (none, hh I J) := (syT_go tqAr_fill ckAr_fill d 2000 5 _ _ _).trans rfl
set_option maxRecDepth 100000 in
theorem eAr_fill_18_0 (d : Nat) (n : Nat) (x1 : Int32) (I : Ad → Nat → Int32) (J : Ad → Nat → Int64) : ev d mAr_fill 0 [vR (18, n), vI x1, vU, vU] [] (hh I J) = ev d mAr_fill 5 [vR (18, n), vI x1, vI 0, vI 3] [] (hh I J) := (syT_go tqAr_fill ckAr_fill d 2000 0 _ _ _).trans rfl
set_option maxRecDepth 100000 in
theorem eAr_fill_18_5 (d : Nat) (n : Nat) (x1 : Int32) (x2 : Int32) (x3 : Int32) (I : Ad → Nat → Int32) (J : Ad → Nat → Int64) : ev d mAr_fill 5 [vR (18, n), vI x1, vI x2, vI x3] [] (hh I J) = if x2 < x3 then if x2 < 0 ∨ 3 ≤ x2.toNatClampNeg then none else ev d mAr_fill 5 [vR (18, n), vI x1, vI (x2 + 1), vI x3] [] (hh (up2 I (18, n) x2.toNatClampNeg x1) J) else some (none, hh I J) := (syT_go tqAr_fill ckAr_fill d 2000 5 _ _ _).trans rfl
set_option maxRecDepth 100000 in
theorem eAr_fill_19_0 (d : Nat) (n : Nat) (x1 : Int32) (I : Ad → Nat → Int32) (J : Ad → Nat → Int64) : ev d mAr_fill 0 [vR (19, n), vI x1, vU, vU] [] (hh I J) = ev d mAr_fill 5 [vR (19, n), vI x1, vI 0, vI 3] [] (hh I J) := (syT_go tqAr_fill ckAr_fill d 2000 0 _ _ _).trans rfl
set_option maxRecDepth 100000 in
theorem eAr_fill_19_5 (d : Nat) (n : Nat) (x1 : Int32) (x2 : Int32) (x3 : Int32) (I : Ad → Nat → Int32) (J : Ad → Nat → Int64) : ev d mAr_fill 5 [vR (19, n), vI x1, vI x2, vI x3] [] (hh I J) = if x2 < x3 then if x2 < 0 ∨ 3 ≤ x2.toNatClampNeg then none else ev d mAr_fill 5 [vR (19, n), vI x1, vI (x2 + 1), vI x3] [] (hh (up2 I (19, n) x2.toNatClampNeg x1) J) else some (none, hh I J) := (syT_go tqAr_fill ckAr_fill d 2000 5 _ _ _).trans rfl
set_option maxRecDepth 100000 in
theorem eAr_fill_21_0 (d : Nat) (n : Nat) (x1 : Int32) (I : Ad → Nat → Int32) (J : Ad → Nat → Int64) : ev d mAr_fill 0 [vR (21, n), vI x1, vU, vU] [] (hh I J) = ev d mAr_fill 5 [vR (21, n), vI x1, vI 0, vI 3] [] (hh I J) := (syT_go tqAr_fill ckAr_fill d 2000 0 _ _ _).trans rfl
set_option maxRecDepth 100000 in
theorem eAr_fill_21_5 (d : Nat) (n : Nat) (x1 : Int32) (x2 : Int32) (x3 : Int32) (I : Ad → Nat → Int32) (J : Ad → Nat → Int64) : ev d mAr_fill 5 [vR (21, n), vI x1, vI x2, vI x3] [] (hh I J) = if x2 < x3 then if x2 < 0 ∨ 3 ≤ x2.toNatClampNeg then none else ev d mAr_fill 5 [vR (21, n), vI x1, vI (x2 + 1), vI x3] [] (hh (up2 I (21, n) x2.toNatClampNeg x1) J) else some (none, hh I J) := (syT_go tqAr_fill ckAr_fill d 2000 5 _ _ _).trans rfl
set_option maxRecDepth 100000 in
theorem eAr_fill_22_0 (d : Nat) (n : Nat) (x1 : Int32) (I : Ad → Nat → Int32) (J : Ad → Nat → Int64) : ev d mAr_fill 0 [vR (22, n), vI x1, vU, vU] [] (hh I J) = ev d mAr_fill 5 [vR (22, n), vI x1, vI 0, vI 6] [] (hh I J) := (syT_go tqAr_fill ckAr_fill d 2000 0 _ _ _).trans rfl
set_option maxRecDepth 100000 in
theorem eAr_fill_22_5 (d : Nat) (n : Nat) (x1 : Int32) (x2 : Int32) (x3 : Int32) (I : Ad → Nat → Int32) (J : Ad → Nat → Int64) : ev d mAr_fill 5 [vR (22, n), vI x1, vI x2, vI x3] [] (hh I J) = if x2 < x3 then if x2 < 0 ∨ 6 ≤ x2.toNatClampNeg then none else ev d mAr_fill 5 [vR (22, n), vI x1, vI (x2 + 1), vI x3] [] (hh (up2 I (22, n) x2.toNatClampNeg x1) J) else some (none, hh I J) := (syT_go tqAr_fill ckAr_fill d 2000 5 _ _ _).trans rfl
set_option maxRecDepth 100000 in
theorem eAr_fill_23_0 (d : Nat) (n : Nat) (x1 : Int32) (I : Ad → Nat → Int32) (J : Ad → Nat → Int64) : ev d mAr_fill 0 [vR (23, n), vI x1, vU, vU] [] (hh I J) = ev d mAr_fill 5 [vR (23, n), vI x1, vI 0, vI 6] [] (hh I J) := (syT_go tqAr_fill ckAr_fill d 2000 0 _ _ _).trans rfl
set_option maxRecDepth 100000 in
theorem eAr_fill_23_5 (d : Nat) (n : Nat) (x1 : Int32) (x2 : Int32) (x3 : Int32) (I : Ad → Nat → Int32) (J : Ad → Nat → Int64) : ev d mAr_fill 5 [vR (23, n), vI x1, vI x2, vI x3] [] (hh I J) = if x2 < x3 then if x2 < 0 ∨ 6 ≤ x2.toNatClampNeg then none else ev d mAr_fill 5 [vR (23, n), vI x1, vI (x2 + 1), vI x3] [] (hh (up2 I (23, n) x2.toNatClampNeg x1) J) else some (none, hh I J) := (syT_go tqAr_fill ckAr_fill d 2000 5 _ _ _).trans rfl
set_option maxRecDepth 100000 in
theorem eAr_fill_30_0 (d : Nat) (x1 : Int32) (I : Ad → Nat → Int32) (J : Ad → Nat → Int64) : ev d mAr_fill 0 [vR (30, 0), vI x1, vU, vU] [] (hh I J) = ev d mAr_fill 5 [vR (30, 0), vI x1, vI 0, vI 384] [] (hh I J) := (syT_go tqAr_fill ckAr_fill d 2000 0 _ _ _).trans rfl
set_option maxRecDepth 100000 in
theorem eAr_fill_30_5 (d : Nat) (x1 : Int32) (x2 : Int32) (x3 : Int32) (I : Ad → Nat → Int32) (J : Ad → Nat → Int64) : ev d mAr_fill 5 [vR (30, 0), vI x1, vI x2, vI x3] [] (hh I J) = if x2 < x3 then if x2 < 0 ∨ 384 ≤ x2.toNatClampNeg then none else ev d mAr_fill 5 [vR (30, 0), vI x1, vI (x2 + 1), vI x3] [] (hh (up2 I (30, 0) x2.toNatClampNeg x1) J) else some (none, hh I J) := (syT_go tqAr_fill ckAr_fill d 2000 5 _ _ _).trans rfl
set_option maxRecDepth 100000 in
theorem eAr_fill_31_0 (d : Nat) (x1 : Int32) (I : Ad → Nat → Int32) (J : Ad → Nat → Int64) : ev d mAr_fill 0 [vR (31, 0), vI x1, vU, vU] [] (hh I J) = ev d mAr_fill 5 [vR (31, 0), vI x1, vI 0, vI 64] [] (hh I J) := (syT_go tqAr_fill ckAr_fill d 2000 0 _ _ _).trans rfl
set_option maxRecDepth 100000 in
theorem eAr_fill_31_5 (d : Nat) (x1 : Int32) (x2 : Int32) (x3 : Int32) (I : Ad → Nat → Int32) (J : Ad → Nat → Int64) : ev d mAr_fill 5 [vR (31, 0), vI x1, vI x2, vI x3] [] (hh I J) = if x2 < x3 then if x2 < 0 ∨ 64 ≤ x2.toNatClampNeg then none else ev d mAr_fill 5 [vR (31, 0), vI x1, vI (x2 + 1), vI x3] [] (hh (up2 I (31, 0) x2.toNatClampNeg x1) J) else some (none, hh I J) := (syT_go tqAr_fill ckAr_fill d 2000 5 _ _ _).trans rfl
set_option maxRecDepth 100000 in
theorem eAr_fill_36_0 (d : Nat) (x1 : Int32) (I : Ad → Nat → Int32) (J : Ad → Nat → Int64) : ev d mAr_fill 0 [vR (36, 0), vI x1, vU, vU] [] (hh I J) = ev d mAr_fill 5 [vR (36, 0), vI x1, vI 0, vI 27] [] (hh I J) := (syT_go tqAr_fill ckAr_fill d 2000 0 _ _ _).trans rfl
set_option maxRecDepth 100000 in
theorem eAr_fill_36_5 (d : Nat) (x1 : Int32) (x2 : Int32) (x3 : Int32) (I : Ad → Nat → Int32) (J : Ad → Nat → Int64) : ev d mAr_fill 5 [vR (36, 0), vI x1, vI x2, vI x3] [] (hh I J) = if x2 < x3 then if x2 < 0 ∨ 27 ≤ x2.toNatClampNeg then none else ev d mAr_fill 5 [vR (36, 0), vI x1, vI (x2 + 1), vI x3] [] (hh (up2 I (36, 0) x2.toNatClampNeg x1) J) else some (none, hh I J) := (syT_go tqAr_fill ckAr_fill d 2000 5 _ _ _).trans rfl
