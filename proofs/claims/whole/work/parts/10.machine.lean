/-! A SMALL MACHINE of my own: values, heap, acts (what an instruction does), runs, their limit 'ev', and 'sy', which goes on to a cut -/
abbrev Ad : Type := Nat × Nat
abbrev Vl : Type := Int32 ⊕ (Int64 ⊕ (Ad ⊕ Bool))
abbrev vI (x : Int32) : Vl := .inl x
abbrev vL (x : Int64) : Vl := .inr (.inl x)
abbrev vR (a : Ad) : Vl := .inr (.inr (.inl a))
abbrev vN : Vl := .inr (.inr (.inr true))
abbrev vU : Vl := .inr (.inr (.inr false))
abbrev Hp : Type := (List Ad × List Ad) × ((Ad → Nat → Option Ad) × ((Ad → Nat → Int32) × (Ad → Nat → Int64)))
abbrev Rs : Type := Option Vl × Hp
abbrev Kf : Type := Nat → List Vl → List Vl → Hp → Option Rs
abbrev Cf : Type := Nat → List Vl → Hp → Option Rs
abbrev Act : Type := Kf → Cf → List Vl → List Vl → Hp → Option Rs
/-- one cell's place changes -/
def up2 {α : Type} (f : Ad → Nat → α) (a : Ad) (k : Nat) (x : α) : Ad → Nat → α := fun b j => if b = a ∧ j = k then x else f b j
/-- one row changes -/
def upA {α : Type} (f : Ad → Nat → α) (a : Ad) (g : Nat → α) : Ad → Nat → α := fun b => if b = a then g else f b
abbrev gA (h : Hp) : List Ad := h.1.1
abbrev gP (h : Hp) : List Ad := h.1.2
abbrev gR (h : Hp) : Ad → Nat → Option Ad := h.2.1
abbrev gI (h : Hp) : Ad → Nat → Int32 := h.2.2.1
abbrev gJ (h : Hp) : Ad → Nat → Int64 := h.2.2.2
def stR (h : Hp) (a : Ad) (k : Nat) (v : Option Ad) : Hp := match h with
  | (p, (r, q)) => (p, (up2 r a k v, q))
def stI (h : Hp) (a : Ad) (k : Nat) (v : Int32) : Hp := match h with
  | (p, (r, (i, j))) => (p, (r, (up2 i a k v, j)))
def stJ (h : Hp) (a : Ad) (k : Nat) (v : Int64) : Hp := match h with
  | (p, (r, (i, j))) => (p, (r, (i, up2 j a k v)))
def stA (h : Hp) (a : Ad) (g : Nat → Int32) : Hp := match h with
  | (p, (r, (i, j))) => (p, (r, (upA i a g, j)))
/-- behind a call, once all is made, the references are the caller's -/
def mrg (h h' : Hp) : Hp := match h with
  | ((al, []), (r, _)) => ((al, []), (r, h'.2.2))
  | _ => h'
/-- a long's place behind which its second half stands is gone when that half is written -/
def fixp : List Vl → Nat → List Vl
  | ls, 0 => ls
  | ls, j + 1 => match nthD ls j vU with
    | .inr (.inl _) => ls.set j vU
    | _ => ls
def popN : Nat → List Vl → List Vl → List Vl × List Vl
  | 0, acc, st => (acc, st)
  | n + 1, acc, v :: st => popN n (v :: acc) st
  | _ + 1, acc, [] => (acc, [])
def catV : Vl → Nat
  | .inr (.inl _) => 2
  | _ => 1
def catS : List Vl → Nat
  | [] => 0
  | v :: l => catV v + catS l
def expL : List Vl → List Vl
  | [] => []
  | .inr (.inl x) :: l => vL x :: vU :: expL l
  | v :: l => v :: expL l
def padL : Nat → List Vl → List Vl
  | 0, l => l
  | n + 1, [] => vU :: padL n []
  | n + 1, v :: l => v :: padL n l
/-- what a call brings, by its kind -/
def bV (o : Option Rs) (f : Hp → Option Rs) : Option Rs := match o with
  | some (none, h) => f h
  | _ => none
def bI (o : Option Rs) (f : Int32 → Hp → Option Rs) : Option Rs := match o with
  | some (some (.inl x), h) => f x h
  | _ => none
def bL (o : Option Rs) (f : Int64 → Hp → Option Rs) : Option Rs := match o with
  | some (some (.inr (.inl x)), h) => f x h
  | _ => none
def bR (o : Option Rs) (f : Ad → Hp → Option Rs) (g : Hp → Option Rs) : Option Rs := match o with
  | some (some (.inr (.inr (.inl a))), h) => f a h
  | some (some (.inr (.inr (.inr true))), h) => g h
  | _ => none
/-! the kinds of cells, by the slot: 0 an object of a class; 1 int, 2 byte, 3 boolean, 4 long, 5 Rule, 6 Scene arrays of a length -/
def kdc (kd : Nat × Nat) (t x : Nat) : Bool := Nat.beq kd.1 t && Nat.beq kd.2 x
/-- locals that nobody reads any more are forgotten -/
def msk : List Bool → List Vl → List Vl
  | [], l => l
  | _, [] => []
  | b :: bs, v :: l => (bif b then v else vU) :: msk bs l
theorem msk_idem : ∀ (m : List Bool) (l : List Vl), msk m (msk m l) = msk m l
  | [], _ => rfl
  | _ :: _, [] => rfl
  | b :: bs, v :: l => by
    simp only [msk, msk_idem bs l]
    cases b <;> rfl
/-! acts -/
def a_ms (mk : List Bool) (act : Act) : Act := fun F C ls st h => act F C (msk mk ls) st h
def a_bad : Act := fun _ _ _ _ _ => none
def a_cI (nx : Nat) (v : Int32) : Act := fun F _ ls st h => F nx ls (vI v :: st) h
def a_cL (nx : Nat) (v : Int64) : Act := fun F _ ls st h => F nx ls (vL v :: st) h
def a_cS (nx k : Nat) : Act := fun F _ ls st h => F nx ls (vR (99, k) :: st) h
def a_cN (nx : Nat) : Act := fun F _ ls st h => F nx ls (vN :: st) h
def a_ild (nx i : Nat) : Act := fun F _ ls st h => match nthD ls i vU with
  | .inl x => F nx ls (vI x :: st) h
  | _ => none
def a_lld (nx i : Nat) : Act := fun F _ ls st h => match nthD ls i vU with
  | .inr (.inl x) => F nx ls (vL x :: st) h
  | _ => none
def a_ald (nx i : Nat) : Act := fun F _ ls st h => match nthD ls i vU with
  | .inr (.inr (.inl a)) => F nx ls (vR a :: st) h
  | .inr (.inr (.inr true)) => F nx ls (vN :: st) h
  | _ => none
def a_ist (nx i : Nat) : Act := fun F _ ls st h => match st with
  | .inl x :: st => F nx ((fixp ls i).set i (vI x)) st h
  | _ => none
def a_lst (nx i : Nat) : Act := fun F _ ls st h => match st with
  | .inr (.inl x) :: st => F nx (((fixp ls i).set i (vL x)).set (i + 1) vU) st h
  | _ => none
def a_ast (nx i : Nat) : Act := fun F _ ls st h => match st with
  | .inr (.inr (.inl a)) :: st => F nx ((fixp ls i).set i (vR a)) st h
  | .inr (.inr (.inr true)) :: st => F nx ((fixp ls i).set i vN) st h
  | _ => none
def a_inc (nx i : Nat) (n : Int32) : Act := fun F _ ls st h => match nthD ls i vU with
  | .inl x => F nx ((fixp ls i).set i (vI (x + n))) st h
  | _ => none
def a_b2 (f : Int32 → Int32 → Int32) (nx : Nat) : Act := fun F _ ls st h => match st with
  | .inl y :: .inl x :: st => F nx ls (vI (f x y) :: st) h
  | _ => none
def a_d2 (f : Int32 → Int32 → Int32) (nx : Nat) : Act := fun F _ ls st h => match st with
  | .inl y :: .inl x :: st => if y = 0 then none else F nx ls (vI (f x y) :: st) h
  | _ => none
def a_b2l (f : Int64 → Int64 → Int64) (nx : Nat) : Act := fun F _ ls st h => match st with
  | .inr (.inl y) :: .inr (.inl x) :: st => F nx ls (vL (f x y) :: st) h
  | _ => none
def a_d2l (f : Int64 → Int64 → Int64) (nx : Nat) : Act := fun F _ ls st h => match st with
  | .inr (.inl y) :: .inr (.inl x) :: st => if y = 0 then none else F nx ls (vL (f x y) :: st) h
  | _ => none
def a_s2l (f : Int64 → Int32 → Int64) (nx : Nat) : Act := fun F _ ls st h => match st with
  | .inl y :: .inr (.inl x) :: st => F nx ls (vL (f x y) :: st) h
  | _ => none
def a_lcmp (nx : Nat) : Act := fun F _ ls st h => match st with
  | .inr (.inl y) :: .inr (.inl x) :: st => F nx ls (vI (lg_cmp x y) :: st) h
  | _ => none
def a_i2l (nx : Nat) : Act := fun F _ ls st h => match st with
  | .inl x :: st => F nx ls (vL x.toInt64 :: st) h
  | _ => none
def a_l2i (nx : Nat) : Act := fun F _ ls st h => match st with
  | .inr (.inl x) :: st => F nx ls (vI x.toInt32 :: st) h
  | _ => none
def a_i2b (nx : Nat) : Act := fun F _ ls st h => match st with
  | .inl x :: st => F nx ls (vI x.toInt8.toInt32 :: st) h
  | _ => none
def a_dup (nx : Nat) : Act := fun F _ ls st h => match st with
  | .inl x :: st => F nx ls (vI x :: vI x :: st) h
  | .inr (.inr (.inl a)) :: st => F nx ls (vR a :: vR a :: st) h
  | _ => none
def a_dup2 (nx : Nat) : Act := fun F _ ls st h => match st with
  | .inl x :: .inr (.inr (.inl a)) :: st => F nx ls (vI x :: vR a :: vI x :: vR a :: st) h
  | _ => none
def a_pop (nx : Nat) : Act := fun F _ ls st h => match st with
  | .inl _ :: st => F nx ls st h
  | _ => none
def a_ieq (nx t : Nat) : Act := fun F _ ls st h => match st with
  | .inl y :: .inl x :: st => if x = y then F t ls st h else F nx ls st h
  | _ => none
def a_ine (nx t : Nat) : Act := fun F _ ls st h => match st with
  | .inl y :: .inl x :: st => if x = y then F nx ls st h else F t ls st h
  | _ => none
def a_ilt (nx t : Nat) : Act := fun F _ ls st h => match st with
  | .inl y :: .inl x :: st => if x < y then F t ls st h else F nx ls st h
  | _ => none
def a_ige (nx t : Nat) : Act := fun F _ ls st h => match st with
  | .inl y :: .inl x :: st => if x < y then F nx ls st h else F t ls st h
  | _ => none
def a_igt (nx t : Nat) : Act := fun F _ ls st h => match st with
  | .inl y :: .inl x :: st => if y < x then F t ls st h else F nx ls st h
  | _ => none
def a_ile (nx t : Nat) : Act := fun F _ ls st h => match st with
  | .inl y :: .inl x :: st => if y < x then F nx ls st h else F t ls st h
  | _ => none
def a_zeq (nx t : Nat) : Act := fun F _ ls st h => match st with
  | .inl x :: st => if x = 0 then F t ls st h else F nx ls st h
  | _ => none
def a_zne (nx t : Nat) : Act := fun F _ ls st h => match st with
  | .inl x :: st => if x = 0 then F nx ls st h else F t ls st h
  | _ => none
def a_zlt (nx t : Nat) : Act := fun F _ ls st h => match st with
  | .inl x :: st => if x < 0 then F t ls st h else F nx ls st h
  | _ => none
def a_zge (nx t : Nat) : Act := fun F _ ls st h => match st with
  | .inl x :: st => if x < 0 then F nx ls st h else F t ls st h
  | _ => none
def a_zgt (nx t : Nat) : Act := fun F _ ls st h => match st with
  | .inl x :: st => if 0 < x then F t ls st h else F nx ls st h
  | _ => none
def a_zle (nx t : Nat) : Act := fun F _ ls st h => match st with
  | .inl x :: st => if 0 < x then F nx ls st h else F t ls st h
  | _ => none
def a_nul (nx t : Nat) : Act := fun F _ ls st h => match st with
  | .inr (.inr (.inl _)) :: st => F nx ls st h
  | .inr (.inr (.inr true)) :: st => F t ls st h
  | _ => none
def a_go (t : Nat) : Act := fun F _ ls st h => F t ls st h
def swF (F : Kf) (ls st : List Vl) (h : Hp) (x : Int32) (dflt : Nat) : List (Int32 × Nat) → Option Rs
  | [] => F dflt ls st h
  | (k, t) :: l => if x = k then F t ls st h else swF F ls st h x dflt l
def a_sw (dflt : Nat) (l : List (Int32 × Nat)) : Act := fun F _ ls st h => match st with
  | .inl x :: st => swF F ls st h x dflt l
  | _ => none
/-! fields -/
def a_gI (nx c k : Nat) : Act := fun F _ ls st h => match st with
  | .inr (.inr (.inl a)) :: st => bif kdc (kd a.1) 0 c then F nx ls (vI (gI h a k) :: st) h else none
  | _ => none
def a_gR (nx c k : Nat) : Act := fun F _ ls st h => match st with
  | .inr (.inr (.inl a)) :: st => bif kdc (kd a.1) 0 c then (match gR h a k with
    | some b => F nx ls (vR b :: st) h
    | none => F nx ls (vN :: st) h) else none
  | _ => none
def a_pI (nx c k : Nat) : Act := fun F _ ls st h => match st with
  | .inl x :: .inr (.inr (.inl a)) :: st => bif kdc (kd a.1) 0 c then F nx ls st (stI h a k x) else none
  | _ => none
def a_pZ (nx c k : Nat) : Act := fun F _ ls st h => match st with
  | .inl x :: .inr (.inr (.inl a)) :: st => bif kdc (kd a.1) 0 c then (if x = 0 ∨ x = 1 then F nx ls st (stI h a k x) else none) else none
  | _ => none
def a_pR (nx c k : Nat) : Act := fun F _ ls st h => match st with
  | .inr (.inr (.inl b)) :: .inr (.inr (.inl a)) :: st => bif kdc (kd a.1) 0 c && (Nat.ble (kd b.1).1 6 && !(gP h).isEmpty) then F nx ls st (stR h a k (some b)) else none
  | _ => none
/-! rows -/
def a_iald (nx : Nat) : Act := fun F _ ls st h => match st with
  | .inl i :: .inr (.inr (.inl a)) :: st => bif Nat.beq (kd a.1).1 1 then (if i < 0 ∨ (kd a.1).2 ≤ i.toNatClampNeg then none else F nx ls (vI (gI h a i.toNatClampNeg) :: st) h) else none
  | _ => none
def a_iast (nx : Nat) : Act := fun F _ ls st h => match st with
  | .inl x :: .inl i :: .inr (.inr (.inl a)) :: st => bif Nat.beq (kd a.1).1 1 then (if i < 0 ∨ (kd a.1).2 ≤ i.toNatClampNeg then none else F nx ls st (stI h a i.toNatClampNeg x)) else none
  | _ => none
def a_lald (nx : Nat) : Act := fun F _ ls st h => match st with
  | .inl i :: .inr (.inr (.inl a)) :: st => bif Nat.beq (kd a.1).1 4 then (if i < 0 ∨ (kd a.1).2 ≤ i.toNatClampNeg then none else F nx ls (vL (gJ h a i.toNatClampNeg) :: st) h) else none
  | _ => none
def a_last (nx : Nat) : Act := fun F _ ls st h => match st with
  | .inr (.inl x) :: .inl i :: .inr (.inr (.inl a)) :: st => bif Nat.beq (kd a.1).1 4 then (if i < 0 ∨ (kd a.1).2 ≤ i.toNatClampNeg then none else F nx ls st (stJ h a i.toNatClampNeg x)) else none
  | _ => none
def a_bald (nx : Nat) : Act := fun F _ ls st h => match st with
  | .inl i :: .inr (.inr (.inl a)) :: st => bif Nat.beq (kd a.1).1 2 || Nat.beq (kd a.1).1 3 then (if i < 0 ∨ (kd a.1).2 ≤ i.toNatClampNeg then none else F nx ls (vI (gI h a i.toNatClampNeg) :: st) h) else none
  | _ => none
def a_bast (nx : Nat) : Act := fun F _ ls st h => match st with
  | .inl x :: .inl i :: .inr (.inr (.inl a)) :: st => bif Nat.beq (kd a.1).1 2 then (if i < 0 ∨ (kd a.1).2 ≤ i.toNatClampNeg then none else F nx ls st (stI h a i.toNatClampNeg x.toInt8.toInt32))
      else bif Nat.beq (kd a.1).1 3 then (if i < 0 ∨ (kd a.1).2 ≤ i.toNatClampNeg then none else F nx ls st (stI h a i.toNatClampNeg (vp_nar .boolean x))) else none
  | _ => none
def a_aald (nx : Nat) : Act := fun F _ ls st h => match st with
  | .inl i :: .inr (.inr (.inl a)) :: st => bif Nat.beq (kd a.1).1 5 || Nat.beq (kd a.1).1 6 then (if i < 0 ∨ (kd a.1).2 ≤ i.toNatClampNeg then none else (match gR h a i.toNatClampNeg with
    | some b => F nx ls (vR b :: st) h
    | none => F nx ls (vN :: st) h)) else none
  | _ => none
def a_aast (nx : Nat) : Act := fun F _ ls st h => match st with
  | .inr (.inr (.inl b)) :: .inl i :: .inr (.inr (.inl a)) :: st => bif ((Nat.beq (kd a.1).1 5 && kdc (kd b.1) 0 2) || (Nat.beq (kd a.1).1 6 && kdc (kd b.1) 0 3)) && !(gP h).isEmpty then (if i < 0 ∨ (kd a.1).2 ≤ i.toNatClampNeg then none else F nx ls st (stR h a i.toNatClampNeg (some b))) else none
  | _ => none
def a_alen (nx : Nat) : Act := fun F _ ls st h => match st with
  | .inr (.inr (.inl a)) :: st => bif Nat.ble 1 (kd a.1).1 && Nat.ble (kd a.1).1 6 then F nx ls (vI (Int32.ofNat (kd a.1).2) :: st) h else none
  | _ => none
def a_newa (nx t : Nat) : Act := fun F _ ls st h => match st with
  | .inl n :: st => match gP h with
    | a :: pl => bif Nat.beq (kd a.1).1 t && Nat.ble (kd a.1).2 100000 then (if n = Int32.ofNat (kd a.1).2 then F nx ls (vR a :: st) ((gA h ++ [a], pl), h.2) else none) else none
    | [] => none
  | _ => none
def a_new (nx c : Nat) : Act := fun F _ ls st h => match gP h with
  | a :: pl => bif kdc (kd a.1) 0 c then F nx ls (vR a :: st) ((gA h ++ [a], pl), h.2) else none
  | [] => none
def a_obj (nx : Nat) : Act := fun F _ ls st h => match st with
  | .inr (.inr (.inl _)) :: st => bif Nat.ble (catS st) 8 then F nx ls st h else none
  | _ => none
def a_copy (nx : Nat) : Act := fun F _ ls st h => match st with
  | .inl n :: .inl dp :: .inr (.inr (.inl b)) :: .inl sp :: .inr (.inr (.inl a)) :: st => bif Nat.beq (kd a.1).1 1 && (Nat.beq (kd b.1).1 1 && Nat.ble (catS st) 8) then
      (if (sp < 0 ∨ dp < 0 ∨ n < 0) ∨ ((kd a.1).2 < sp.toNatClampNeg + n.toNatClampNeg ∨ (kd b.1).2 < dp.toNatClampNeg + n.toNatClampNeg) then none
        else F nx ls st (stA h b (va_cpy (gI h a) (gI h b) sp.toNatClampNeg dp.toNatClampNeg n.toNatClampNeg))) else none
  | _ => none
def a_mmax (nx : Nat) : Act := fun F _ ls st h => match st with
  | .inl y :: .inl x :: st => bif Nat.ble (catS st) 8 then F nx ls (vI (if x < y then y else x) :: st) h else none
  | _ => none
def a_mmin (nx : Nat) : Act := fun F _ ls st h => match st with
  | .inl y :: .inl x :: st => bif Nat.ble (catS st) 8 then F nx ls (vI (if y < x then y else x) :: st) h else none
  | _ => none
/-! texts (slot 99) and the script (slot 98) -/
def a_slen (nx : Nat) : Act := fun F _ ls st h => match st with
  | .inr (.inr (.inl a)) :: st => bif Nat.beq a.1 99 && Nat.ble (catS st) 8 then F nx ls (vI (Int32.ofNat (nthD txL a.2 []).length) :: st) h else none
  | _ => none
def a_schr (nx : Nat) : Act := fun F _ ls st h => match st with
  | .inl i :: .inr (.inr (.inl a)) :: st => bif Nat.beq a.1 99 && Nat.ble (catS st) 8 then (if i < 0 ∨ (nthD txL a.2 []).length ≤ i.toNatClampNeg then none else F nx ls (vI (Int32.ofNat (nthD (nthD txL a.2 []) i.toNatClampNeg 0)) :: st) h) else none
  | _ => none
def a_sld (nx : Nat) : Act := fun F _ ls st h => match st with
  | .inl i :: .inr (.inr (.inl a)) :: st => bif Nat.beq a.1 98 && Nat.beq a.2 0 then (if i < 0 ∨ (gI h (98, 1) 0).toNatClampNeg ≤ i.toNatClampNeg then none else F nx ls (vI (gI h (98, 0) i.toNatClampNeg) :: st) h) else none
  | _ => none
def a_sln (nx : Nat) : Act := fun F _ ls st h => match st with
  | .inr (.inr (.inl a)) :: st => bif Nat.beq a.1 98 && Nat.beq a.2 0 then (if gI h (98, 1) 0 < 0 then none else F nx ls (vI (gI h (98, 1) 0) :: st) h) else none
  | _ => none
/-! calls: k is 0 for a static method, else 1 + the receiver's class -/
def rok (k : Nat) (as : List Vl) : Bool := match k with
  | 0 => true
  | c + 1 => match as with
    | .inr (.inr (.inl b)) :: _ => kdc (kd b.1) 0 c
    | _ => false
def cok (k na : Nat) (st : List Vl) : Bool := Nat.ble na st.length && (rok k (popN na [] st).1 && Nat.ble (catS (popN na [] st).2) 8)
def a_caV (nx k mj na : Nat) : Act := fun F C ls st h => bif cok k na st then bV (C mj (popN na [] st).1 h) (fun h' => F nx ls (popN na [] st).2 (mrg h h')) else none
def a_caI (nx k mj na : Nat) : Act := fun F C ls st h => bif cok k na st then bI (C mj (popN na [] st).1 h) (fun x h' => F nx ls (vI x :: (popN na [] st).2) (mrg h h')) else none
def a_caL (nx k mj na : Nat) : Act := fun F C ls st h => bif cok k na st then bL (C mj (popN na [] st).1 h) (fun x h' => F nx ls (vL x :: (popN na [] st).2) (mrg h h')) else none
def a_caR (nx k mj na : Nat) : Act := fun F C ls st h => bif cok k na st then bR (C mj (popN na [] st).1 h) (fun a h' => F nx ls (vR a :: (popN na [] st).2) (mrg h h')) (fun h' => F nx ls (vN :: (popN na [] st).2) (mrg h h')) else none
/-! returns -/
def a_iret : Act := fun _ _ _ st h => match st with
  | [.inl x] => some (some (vI x), h)
  | _ => none
def a_zret : Act := fun _ _ _ st h => match st with
  | [.inl x] => if x = 0 ∨ x = 1 then some (some (vI x), h) else none
  | _ => none
def a_lret : Act := fun _ _ _ st h => match st with
  | [.inr (.inl x)] => some (some (vL x), h)
  | _ => none
def a_aret : Act := fun _ _ _ st h => match st with
  | [.inr (.inr (.inl a))] => some (some (vR a), h)
  | [.inr (.inr (.inr true))] => some (some vN, h)
  | _ => none
def a_vret : Act := fun _ _ _ st h => match st with
  | [] => some (none, h)
  | _ => none
/-! THE SHAPE OF AN ACT: nothing; an end; one step; a call and one step -/
def szS (s : Nat) : Nat := if (kd s).1 = 0 then nfC (kd s).2 else (kd s).2
def szL : List Ad → Nat
  | [] => 0
  | a :: l => szS a.1 + szL l
theorem szL_app (x y : List Ad) : szL (x ++ y) = szL x + szL y := by
  induction x with
  | nil => simp [szL]
  | cons a l ih => simp only [List.cons_append, szL, ih]; omega
/-- cells come behind the old ones; script and texts stay; once all is made (an empty plan) the references stay -/
def Gh (h h' : Hp) : Prop := (∃ t, gA h' = gA h ++ t) ∧ (∀ a : Ad, 98 ≤ a.1 → gI h' a = gI h a) ∧ (gP h = [] → h'.1 = h.1 ∧ h'.2.1 = h.2.1)
theorem Gh.rf (h : Hp) : Gh h h := ⟨⟨[], by simp⟩, fun _ _ => rfl, fun _ => ⟨rfl, rfl⟩⟩
theorem Gh.tr {a b c : Hp} (h1 : Gh a b) (h2 : Gh b c) : Gh a c := by
  obtain ⟨⟨t, e⟩, i1, k1⟩ := h1
  obtain ⟨⟨u, f⟩, i2, k2⟩ := h2
  refine ⟨⟨t ++ u, by rw [f, e, List.append_assoc]⟩, fun x hx => (i2 x hx).trans (i1 x hx), fun hp => ?_⟩
  obtain ⟨a1, a2⟩ := k1 hp
  have hb : gP b = [] := by
    show b.1.2 = []
    rw [a1]
    exact hp
  obtain ⟨b1, b2⟩ := k2 hb
  exact ⟨b1.trans a1, b2.trans a2⟩
def Shp (act : Act) : Prop := ∀ (ls st : List Vl) (h : Hp),
  (∀ F C, act F C ls st h = none) ∨ (∃ v, ∀ F C, act F C ls st h = some (v, h)) ∨
  (∃ pc' ls' st' h', Gh h h' ∧ ∀ F C, act F C ls st h = F pc' ls' st' h') ∨
  (∃ (mj : Nat) (as : List Vl) (f : Rs → Option (Nat × List Vl × List Vl)), ∀ F C, act F C ls st h = (C mj as h).bind fun r => (f r).bind fun q => F q.1 q.2.1 q.2.2 (mrg h r.2))
theorem mrg_eq {h h' : Hp} (g : Gh h h') : mrg h h' = h' := by
  obtain ⟨⟨al, pl⟩, r, i, j⟩ := h
  cases pl with
  | nil =>
    obtain ⟨k1, k2⟩ := g.2.2 rfl
    obtain ⟨p, r', q⟩ := h'
    cases k1
    cases k2
    rfl
  | cons a l => rfl
theorem Gh_stI {h : Hp} {a : Ad} {k : Nat} {v : Int32} (ha : (kd a.1).1 ≠ 9) : Gh h (stI h a k v) := by
  refine ⟨⟨[], (List.append_nil _).symm⟩, fun b hb => ?_, fun _ => ⟨rfl, rfl⟩⟩
  funext j
  have hne : b ≠ a := by
    intro e
    subst e
    exact ha (by rw [kd_big hb])
  show (if b = a ∧ j = k then v else h.2.2.1 b j) = h.2.2.1 b j
  exact if_neg (fun q => hne q.1)
theorem Gh_stA {h : Hp} {a : Ad} {g : Nat → Int32} (ha : (kd a.1).1 ≠ 9) : Gh h (stA h a g) := by
  refine ⟨⟨[], (List.append_nil _).symm⟩, fun b hb => ?_, fun _ => ⟨rfl, rfl⟩⟩
  have hne : b ≠ a := by
    intro e
    subst e
    exact ha (by rw [kd_big hb])
  show (if b = a then g else h.2.2.1 b) = h.2.2.1 b
  exact if_neg hne
theorem Gh_stR {h : Hp} {a : Ad} {k : Nat} {v : Option Ad} (hp : (!(gP h).isEmpty) = true) : Gh h (stR h a k v) := ⟨⟨[], (List.append_nil _).symm⟩, fun _ _ => rfl, fun e => by rw [e] at hp; cases hp⟩
theorem Gh_stJ {h : Hp} {a : Ad} {k : Nat} {v : Int64} : Gh h (stJ h a k v) := ⟨⟨[], (List.append_nil _).symm⟩, fun _ _ => rfl, fun _ => ⟨rfl, rfl⟩⟩
theorem Gh_new {h : Hp} {a b : Ad} {pl pl' : List Ad} (hp : gP h = b :: pl') : Gh h ((gA h ++ [a], pl), h.2) := ⟨⟨[a], rfl⟩, fun _ _ => rfl, fun e => by rw [e] at hp; cases hp⟩
theorem kdc9 {q : Nat × Nat} {t x : Nat} (h : kdc q t x = true) (ht : t ≠ 9) : q.1 ≠ 9 := by
  simp only [kdc, Bool.and_eq_true] at h
  rw [Nat.eq_of_beq_eq_true h.1]
  exact ht
theorem beq9 {n t : Nat} (h : Nat.beq n t = true) (ht : t ≠ 9) : n ≠ 9 := by
  rw [Nat.eq_of_beq_eq_true h]
  exact ht
theorem sp0 {act : Act} {ls st : List Vl} {h : Hp} (e : ∀ F C, act F C ls st h = none) : (∀ F C, act F C ls st h = none) ∨ (∃ v, ∀ F C, act F C ls st h = some (v, h)) ∨ (∃ pc' ls' st' h', Gh h h' ∧ ∀ F C, act F C ls st h = F pc' ls' st' h') ∨ (∃ (mj : Nat) (as : List Vl) (f : Rs → Option (Nat × List Vl × List Vl)), ∀ F C, act F C ls st h = (C mj as h).bind fun r => (f r).bind fun q => F q.1 q.2.1 q.2.2 (mrg h r.2)) := Or.inl e
theorem sp1 {act : Act} {ls st : List Vl} {h : Hp} (v : Option Vl) (e : ∀ F C, act F C ls st h = some (v, h)) : (∀ F C, act F C ls st h = none) ∨ (∃ v, ∀ F C, act F C ls st h = some (v, h)) ∨ (∃ pc' ls' st' h', Gh h h' ∧ ∀ F C, act F C ls st h = F pc' ls' st' h') ∨ (∃ (mj : Nat) (as : List Vl) (f : Rs → Option (Nat × List Vl × List Vl)), ∀ F C, act F C ls st h = (C mj as h).bind fun r => (f r).bind fun q => F q.1 q.2.1 q.2.2 (mrg h r.2)) := Or.inr (Or.inl ⟨v, e⟩)
theorem sp2 {act : Act} {ls st : List Vl} {h : Hp} {pc' : Nat} {ls' st' : List Vl} {h' : Hp} (g : Gh h h') (e : ∀ F C, act F C ls st h = F pc' ls' st' h') : (∀ F C, act F C ls st h = none) ∨ (∃ v, ∀ F C, act F C ls st h = some (v, h)) ∨ (∃ pc' ls' st' h', Gh h h' ∧ ∀ F C, act F C ls st h = F pc' ls' st' h') ∨ (∃ (mj : Nat) (as : List Vl) (f : Rs → Option (Nat × List Vl × List Vl)), ∀ F C, act F C ls st h = (C mj as h).bind fun r => (f r).bind fun q => F q.1 q.2.1 q.2.2 (mrg h r.2)) := Or.inr (Or.inr (Or.inl ⟨_, _, _, _, g, e⟩))
theorem sp3 {act : Act} {ls st : List Vl} {h : Hp} (mj : Nat) (as : List Vl) (f : Rs → Option (Nat × List Vl × List Vl)) (e : ∀ F C, act F C ls st h = (C mj as h).bind fun r => (f r).bind fun q => F q.1 q.2.1 q.2.2 (mrg h r.2)) : (∀ F C, act F C ls st h = none) ∨ (∃ v, ∀ F C, act F C ls st h = some (v, h)) ∨ (∃ pc' ls' st' h', Gh h h' ∧ ∀ F C, act F C ls st h = F pc' ls' st' h') ∨ (∃ (mj : Nat) (as : List Vl) (f : Rs → Option (Nat × List Vl × List Vl)), ∀ F C, act F C ls st h = (C mj as h).bind fun r => (f r).bind fun q => F q.1 q.2.1 q.2.2 (mrg h r.2)) := Or.inr (Or.inr (Or.inr ⟨mj, as, f, e⟩))
