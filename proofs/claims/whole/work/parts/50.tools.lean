/-! TOOLS of the pure part: small ints, runs that come to an end with what is wanted -/
abbrev IT : Type := Ad → Nat → Int32
abbrev JT : Type := Ad → Nat → Int64
/-! small ints -/
abbrev nJ (k : Nat) : Int32 := Int32.ofNat k
theorem nJ_lt {a b : Nat} (ha : a < 2147483648) (hb : b < 2147483648) : (nJ a < nJ b) = (a < b) := propext (Int32.ofNat_lt_iff_lt ha hb)
theorem nJ_le {a b : Nat} (ha : a < 2147483648) (hb : b < 2147483648) : (nJ a ≤ nJ b) = (a ≤ b) := propext (Int32.ofNat_le_iff_le ha hb)
theorem nJ_nat {a : Nat} (ha : a < 2147483648) : (nJ a).toNatClampNeg = a := Int32.toNatClampNeg_ofNat_of_lt ha
theorem nJ_int {a : Nat} (ha : a < 2147483648) : (nJ a).toInt = a := Int32.toInt_ofNat_of_lt ha
theorem nJ_eq {a b : Nat} (ha : a < 2147483648) (hb : b < 2147483648) : (nJ a = nJ b) = (a = b) := propext ⟨fun h => by
  have := congrArg Int32.toNatClampNeg h
  rwa [nJ_nat ha, nJ_nat hb] at this, fun h => by rw [h]⟩
theorem nJ_neg {a : Nat} (ha : a < 2147483648) : (nJ a < 0) = False := propext ⟨fun h => by
  have h : nJ a < nJ 0 := h
  rw [nJ_lt ha (by decide)] at h
  omega, False.elim⟩
theorem nJ_nneg {a : Nat} (ha : a < 2147483648) : ((0 : Int32) ≤ nJ a) = True := propext ⟨fun _ => trivial, fun _ => by
  show nJ 0 ≤ nJ a
  rw [nJ_le (by decide) ha]
  omega⟩
theorem nJ_add (a b : Nat) : nJ a + nJ b = nJ (a + b) := (Int32.ofNat_add a b).symm
theorem nJ_succ (a : Nat) : nJ a + 1 = nJ (a + 1) := nJ_add a 1
theorem nJ_mul (a b : Nat) : nJ a * nJ b = nJ (a * b) := (Int32.ofNat_mul a b).symm
theorem nJ_sub {a b : Nat} (h : b ≤ a) : nJ a - nJ b = nJ (a - b) := (Int32.ofNat_sub a b h).symm
theorem nJ_ne_neg {a : Nat} (ha : a < 2147483648) : (nJ a = -1) = False := propext ⟨fun h => by
  have := nJ_neg ha
  rw [h] at this
  exact absurd (show (-1 : Int32) < 0 by decide) (by rw [this]; exact id), False.elim⟩
/-- an int within bounds is a small one -/
theorem nJ_of {x : Int32} (h : ¬ x < 0) : x = nJ x.toNatClampNeg := (Int32.ofNat_toNatClampNeg x (Int32.not_lt.mp h)).symm
theorem nat_lt31 (x : Int32) : x.toNatClampNeg < 2147483648 := Int32.toNatClampNeg_lt x
theorem nJ_ex {x : Int32} {n : Nat} (hn : n < 2147483648) (h0 : ¬ x < 0) (h1 : x < nJ n) : ∃ k, x = nJ k ∧ k < n := by
  refine ⟨_, nJ_of h0, ?_⟩
  rw [nJ_of h0, nJ_lt (nat_lt31 x) hn] at h1
  exact h1
theorem i_lt (x y : Int32) : (x < y) = (x.toInt < y.toInt) := propext Int32.lt_iff_toInt_lt
theorem i_le (x y : Int32) : (x ≤ y) = (x.toInt ≤ y.toInt) := propext Int32.le_iff_toInt_le
theorem i_eq (x y : Int32) : (x = y) = (x.toInt = y.toInt) := propext Int32.toInt_inj.symm
theorem i_add {x y : Int32} (h : -2147483648 ≤ x.toInt + y.toInt ∧ x.toInt + y.toInt < 2147483648) : (x + y).toInt = x.toInt + y.toInt := by
  rw [Int32.toInt_add]
  exact Int.bmod_eq_of_le (by omega) (by omega)
theorem i_sub {x y : Int32} (h : -2147483648 ≤ x.toInt - y.toInt ∧ x.toInt - y.toInt < 2147483648) : (x - y).toInt = x.toInt - y.toInt := by
  rw [Int32.toInt_sub]
  exact Int.bmod_eq_of_le (by omega) (by omega)
theorem i_bd (x : Int32) : -2147483648 ≤ x.toInt ∧ x.toInt < 2147483648 := ⟨Int32.le_toInt x, Int32.toInt_lt x⟩
/-- the bound's check of a row -/
theorem bnd {α : Type} {k n : Nat} (h : k < n) (hk : n ≤ 100000) (o : Option α) : (if nJ k < 0 ∨ n ≤ (nJ k).toNatClampNeg then none else o) = o := by
  refine if_neg fun q => ?_
  rw [nJ_neg (by omega), nJ_nat (by omega)] at q
  rcases q with q | q
  · exact q
  · omega
theorem bnk {α : Type} {k n : Nat} (h : k < n) (hk : n ≤ 100000) (o : Option α) : (if nJ k < 0 ∨ n ≤ k then none else o) = o := by
  refine if_neg fun q => ?_
  rw [nJ_neg (by omega)] at q
  rcases q with q | q
  · exact q
  · omega
/-! longs -/
theorem cmp_lt (a b : Int64) : (lg_cmp a b < 0) = (a < b) := by
  unfold lg_cmp
  by_cases h1 : a > b
  · have h : ¬ a < b := fun q => by
      have h1 : b < a := h1
      rw [Int64.lt_iff_toInt_lt] at h1 q
      omega
    rw [if_pos h1]
    exact propext ⟨fun q => absurd q (by decide), fun q => absurd q h⟩
  · by_cases h2 : a = b
    · rw [if_neg h1, if_pos h2]
      exact propext ⟨fun q => absurd q (by decide), fun q => absurd (h2 ▸ q) (by rw [Int64.lt_iff_toInt_lt]; omega)⟩
    · rw [if_neg h1, if_neg h2]
      refine propext ⟨fun _ => ?_, fun _ => by decide⟩
      have h1 : ¬ b < a := h1
      rw [Int64.lt_iff_toInt_lt] at h1 ⊢
      have h3 : a.toInt ≠ b.toInt := fun q => h2 (Int64.toInt_inj.mp q)
      omega
theorem cmp_gt (a b : Int64) : (0 < lg_cmp a b) = (b < a) := by
  unfold lg_cmp
  by_cases h1 : a > b
  · rw [if_pos h1]
    exact propext ⟨fun _ => h1, fun _ => by decide⟩
  · rw [if_neg h1]
    refine propext ⟨fun q => ?_, fun q => absurd q h1⟩
    by_cases h2 : a = b
    · rw [if_pos h2] at q
      exact absurd q (by decide)
    · rw [if_neg h2] at q
      exact absurd q (by decide)
theorem cmp_eq (a b : Int64) : (lg_cmp a b = 0) = (a = b) := by
  unfold lg_cmp
  by_cases h1 : a > b
  · rw [if_pos h1]
    refine propext ⟨fun q => absurd q (by decide), fun q => ?_⟩
    subst q
    exact absurd (show a < a from h1) (by rw [Int64.lt_iff_toInt_lt]; omega)
  · rw [if_neg h1]
    by_cases h2 : a = b
    · rw [if_pos h2]
      exact propext ⟨fun _ => h2, fun _ => rfl⟩
    · rw [if_neg h2]
      exact propext ⟨fun q => absurd q (by decide), fun q => absurd q h2⟩
theorem l_lt (x y : Int32) : (x.toInt64 < y.toInt64) = (x < y) := propext Int32.toInt64_lt
theorem l_le (x y : Int32) : (x.toInt64 ≤ y.toInt64) = (x ≤ y) := propext Int32.toInt64_le
/-! cells -/
theorem up_same {α : Type} (f : Ad → Nat → α) (a : Ad) (k : Nat) (x : α) : up2 f a k x a k = x := if_pos ⟨rfl, rfl⟩
theorem up_ne {α : Type} (f : Ad → Nat → α) {a b : Ad} (k j : Nat) (x : α) (h : b ≠ a) : up2 f a k x b j = f b j := if_neg fun q => h q.1
theorem up_neK {α : Type} (f : Ad → Nat → α) {a b : Ad} {k j : Nat} (x : α) (h : j ≠ k) : up2 f a k x b j = f b j := if_neg fun q => h q.2
theorem up_at {α : Type} (f : Ad → Nat → α) (a b : Ad) (k j : Nat) (x : α) : up2 f a k x b j = if b = a ∧ j = k then x else f b j := rfl
theorem uA_at {α : Type} (f : Ad → Nat → α) (a b : Ad) (g : Nat → α) (j : Nat) : upA f a g b j = if b = a then g j else f b j := by
  unfold upA
  split <;> rfl
/-! runs that come to an end -/
def Tr (o : Option Rs) (Q : Option Vl → IT → JT → Prop) : Prop := ∃ (v : Option Vl) (I : IT) (J : JT), o = some (v, hh I J) ∧ Q v I J
theorem Tr.ret {v : Option Vl} {I : IT} {J : JT} {Q : Option Vl → IT → JT → Prop} (h : Q v I J) : Tr (some (v, hh I J)) Q := ⟨v, I, J, rfl, h⟩
theorem Tr.eq {o o' : Option Rs} {Q : Option Vl → IT → JT → Prop} (e : o = o') (h : Tr o' Q) : Tr o Q := e ▸ h
theorem Tr.mono {o : Option Rs} {P Q : Option Vl → IT → JT → Prop} (h : Tr o P) (hq : ∀ v I J, P v I J → Q v I J) : Tr o Q := by
  obtain ⟨v, I, J, e, p⟩ := h
  exact ⟨v, I, J, e, hq v I J p⟩
theorem Tr.bV {o : Option Rs} {f : Hp → Option Rs} {Q : Option Vl → IT → JT → Prop} (h : Tr o (fun v I J => v = none ∧ Tr (f (hh I J)) Q)) : Tr (bV o f) Q := by
  obtain ⟨v, I, J, rfl, rfl, h⟩ := h
  exact h
theorem Tr.bI {o : Option Rs} {f : Int32 → Hp → Option Rs} {Q : Option Vl → IT → JT → Prop} (h : Tr o (fun v I J => ∃ x, v = some (vI x) ∧ Tr (f x (hh I J)) Q)) : Tr (bI o f) Q := by
  obtain ⟨v, I, J, rfl, x, rfl, h⟩ := h
  exact h
theorem Tr.bL {o : Option Rs} {f : Int64 → Hp → Option Rs} {Q : Option Vl → IT → JT → Prop} (h : Tr o (fun v I J => ∃ x, v = some (vL x) ∧ Tr (f x (hh I J)) Q)) : Tr (bL o f) Q := by
  obtain ⟨v, I, J, rfl, x, rfl, h⟩ := h
  exact h
theorem Tr.of {o : Option Rs} {v : Option Vl} {I : IT} {J : JT} {Q : Option Vl → IT → JT → Prop} (e : o = some (v, hh I J)) (h : Q v I J) : Tr o Q := ⟨v, I, J, e, h⟩
theorem bV_some {h : Hp} {f : Hp → Option Rs} : bV (some (none, h)) f = f h := rfl
theorem bI_some {x : Int32} {h : Hp} {f : Int32 → Hp → Option Rs} : bI (some (some (vI x), h)) f = f x h := rfl
theorem bL_some {x : Int64} {h : Hp} {f : Int64 → Hp → Option Rs} : bL (some (some (vL x), h)) f = f x h := rfl
theorem gI_hh (I : IT) (J : JT) : gI (hh I J) = I := rfl
theorem gJ_hh (I : IT) (J : JT) : gJ (hh I J) = J := rfl
theorem if_b {α : Type} {c : Prop} [Decidable c] {a b : α} (h : c = True) : (if c then a else b) = a := if_pos (of_eq_true h)
/-! two runs, side by side -/
def R2 (o o' : Option Rs) (Q : Option Vl → IT → JT → Option Vl → IT → JT → Prop) : Prop := Tr o (fun v I J => Tr o' (fun v' I' J' => Q v I J v' I' J'))
theorem R2.left {o o' : Option Rs} {P : Option Vl → IT → JT → Prop} {Q : Option Vl → IT → JT → Option Vl → IT → JT → Prop} (h : Tr o P) (h' : ∀ v I J, P v I J → Tr o' (fun v' I' J' => Q v I J v' I' J')) : R2 o o' Q := h.mono h'
theorem R2.mono {o o' : Option Rs} {P Q : Option Vl → IT → JT → Option Vl → IT → JT → Prop} (h : R2 o o' P) (hq : ∀ v I J v' I' J', P v I J v' I' J' → Q v I J v' I' J') : R2 o o' Q := Tr.mono h fun v I J h => h.mono fun v' I' J' h => hq v I J v' I' J' h
theorem R2.ret {v v' : Option Vl} {I I' : IT} {J J' : JT} {Q : Option Vl → IT → JT → Option Vl → IT → JT → Prop} (h : Q v I J v' I' J') : R2 (some (v, hh I J)) (some (v', hh I' J')) Q := ⟨v, I, J, rfl, v', I', J', rfl, h⟩
theorem R2.bII {o o' : Option Rs} {f f' : Int32 → Hp → Option Rs} {Q : Option Vl → IT → JT → Option Vl → IT → JT → Prop} (h : R2 o o' (fun v I J v' I' J' => ∃ x x', v = some (vI x) ∧ v' = some (vI x') ∧ R2 (f x (hh I J)) (f' x' (hh I' J')) Q)) : R2 (bI o f) (bI o' f') Q := by
  obtain ⟨v, I, J, rfl, v', I', J', rfl, x, x', rfl, rfl, h⟩ := h
  exact h
theorem R2.bVV {o o' : Option Rs} {f f' : Hp → Option Rs} {Q : Option Vl → IT → JT → Option Vl → IT → JT → Prop} (h : R2 o o' (fun v I J v' I' J' => v = none ∧ v' = none ∧ R2 (f (hh I J)) (f' (hh I' J')) Q)) : R2 (bV o f) (bV o' f') Q := by
  obtain ⟨v, I, J, rfl, v', I', J', rfl, rfl, rfl, h⟩ := h
  exact h
theorem R2.bLL {o o' : Option Rs} {f f' : Int64 → Hp → Option Rs} {Q : Option Vl → IT → JT → Option Vl → IT → JT → Prop} (h : R2 o o' (fun v I J v' I' J' => ∃ x x', v = some (vL x) ∧ v' = some (vL x') ∧ R2 (f x (hh I J)) (f' x' (hh I' J')) Q)) : R2 (bL o f) (bL o' f') Q := by
  obtain ⟨v, I, J, rfl, v', I', J', rfl, x, x', rfl, rfl, h⟩ := h
  exact h
theorem R2.lV {o o' : Option Rs} {f : Hp → Option Rs} {Q : Option Vl → IT → JT → Option Vl → IT → JT → Prop} (h : Tr o (fun v I J => v = none ∧ R2 (f (hh I J)) o' Q)) : R2 (bV o f) o' Q := Tr.bV h
theorem R2.lI {o o' : Option Rs} {f : Int32 → Hp → Option Rs} {Q : Option Vl → IT → JT → Option Vl → IT → JT → Prop} (h : Tr o (fun v I J => ∃ x, v = some (vI x) ∧ R2 (f x (hh I J)) o' Q)) : R2 (bI o f) o' Q := Tr.bI h
theorem R2.rV {o o' : Option Rs} {f : Hp → Option Rs} {Q : Option Vl → IT → JT → Option Vl → IT → JT → Prop} (h : Tr o' (fun v I J => v = none ∧ R2 o (f (hh I J)) Q)) : R2 o (bV o' f) Q := by
  obtain ⟨v, I, J, rfl, rfl, h⟩ := h
  exact h
theorem R2.rI {o o' : Option Rs} {f : Int32 → Hp → Option Rs} {Q : Option Vl → IT → JT → Option Vl → IT → JT → Prop} (h : Tr o' (fun v I J => ∃ x, v = some (vI x) ∧ R2 o (f x (hh I J)) Q)) : R2 o (bI o' f) Q := by
  obtain ⟨v, I, J, rfl, x, rfl, h⟩ := h
  exact h
theorem R2.rL {o o' : Option Rs} {f : Int64 → Hp → Option Rs} {Q : Option Vl → IT → JT → Option Vl → IT → JT → Prop} (h : Tr o' (fun v I J => ∃ x, v = some (vL x) ∧ R2 o (f x (hh I J)) Q)) : R2 o (bL o' f) Q := by
  obtain ⟨v, I, J, rfl, x, rfl, h⟩ := h
  exact h
