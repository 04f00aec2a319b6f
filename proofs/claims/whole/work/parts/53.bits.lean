/-! how many bits -/
def bcF (x0 : Int32) : Int32 := ((((((((x0 - (((x0.toUInt32 >>> ((1 : Int32).toUInt32 &&& Int32.toUInt32 31)).toInt32) &&& 1431655765)) &&& 858993459) + ((((x0 - (((x0.toUInt32 >>> ((1 : Int32).toUInt32 &&& Int32.toUInt32 31)).toInt32) &&& 1431655765)).toUInt32 >>> ((2 : Int32).toUInt32 &&& Int32.toUInt32 31)).toInt32) &&& 858993459)) + (((((x0 - (((x0.toUInt32 >>> ((1 : Int32).toUInt32 &&& Int32.toUInt32 31)).toInt32) &&& 1431655765)) &&& 858993459) + ((((x0 - (((x0.toUInt32 >>> ((1 : Int32).toUInt32 &&& Int32.toUInt32 31)).toInt32) &&& 1431655765)).toUInt32 >>> ((2 : Int32).toUInt32 &&& Int32.toUInt32 31)).toInt32) &&& 858993459)).toUInt32 >>> ((4 : Int32).toUInt32 &&& Int32.toUInt32 31)).toInt32)) &&& 252645135) + (((((((x0 - (((x0.toUInt32 >>> ((1 : Int32).toUInt32 &&& Int32.toUInt32 31)).toInt32) &&& 1431655765)) &&& 858993459) + ((((x0 - (((x0.toUInt32 >>> ((1 : Int32).toUInt32 &&& Int32.toUInt32 31)).toInt32) &&& 1431655765)).toUInt32 >>> ((2 : Int32).toUInt32 &&& Int32.toUInt32 31)).toInt32) &&& 858993459)) + (((((x0 - (((x0.toUInt32 >>> ((1 : Int32).toUInt32 &&& Int32.toUInt32 31)).toInt32) &&& 1431655765)) &&& 858993459) + ((((x0 - (((x0.toUInt32 >>> ((1 : Int32).toUInt32 &&& Int32.toUInt32 31)).toInt32) &&& 1431655765)).toUInt32 >>> ((2 : Int32).toUInt32 &&& Int32.toUInt32 31)).toInt32) &&& 858993459)).toUInt32 >>> ((4 : Int32).toUInt32 &&& Int32.toUInt32 31)).toInt32)) &&& 252645135).toUInt32 >>> ((8 : Int32).toUInt32 &&& Int32.toUInt32 31)).toInt32)) + ((((((((x0 - (((x0.toUInt32 >>> ((1 : Int32).toUInt32 &&& Int32.toUInt32 31)).toInt32) &&& 1431655765)) &&& 858993459) + ((((x0 - (((x0.toUInt32 >>> ((1 : Int32).toUInt32 &&& Int32.toUInt32 31)).toInt32) &&& 1431655765)).toUInt32 >>> ((2 : Int32).toUInt32 &&& Int32.toUInt32 31)).toInt32) &&& 858993459)) + (((((x0 - (((x0.toUInt32 >>> ((1 : Int32).toUInt32 &&& Int32.toUInt32 31)).toInt32) &&& 1431655765)) &&& 858993459) + ((((x0 - (((x0.toUInt32 >>> ((1 : Int32).toUInt32 &&& Int32.toUInt32 31)).toInt32) &&& 1431655765)).toUInt32 >>> ((2 : Int32).toUInt32 &&& Int32.toUInt32 31)).toInt32) &&& 858993459)).toUInt32 >>> ((4 : Int32).toUInt32 &&& Int32.toUInt32 31)).toInt32)) &&& 252645135) + (((((((x0 - (((x0.toUInt32 >>> ((1 : Int32).toUInt32 &&& Int32.toUInt32 31)).toInt32) &&& 1431655765)) &&& 858993459) + ((((x0 - (((x0.toUInt32 >>> ((1 : Int32).toUInt32 &&& Int32.toUInt32 31)).toInt32) &&& 1431655765)).toUInt32 >>> ((2 : Int32).toUInt32 &&& Int32.toUInt32 31)).toInt32) &&& 858993459)) + (((((x0 - (((x0.toUInt32 >>> ((1 : Int32).toUInt32 &&& Int32.toUInt32 31)).toInt32) &&& 1431655765)) &&& 858993459) + ((((x0 - (((x0.toUInt32 >>> ((1 : Int32).toUInt32 &&& Int32.toUInt32 31)).toInt32) &&& 1431655765)).toUInt32 >>> ((2 : Int32).toUInt32 &&& Int32.toUInt32 31)).toInt32) &&& 858993459)).toUInt32 >>> ((4 : Int32).toUInt32 &&& Int32.toUInt32 31)).toInt32)) &&& 252645135).toUInt32 >>> ((8 : Int32).toUInt32 &&& Int32.toUInt32 31)).toInt32)).toUInt32 >>> ((16 : Int32).toUInt32 &&& Int32.toUInt32 31)).toInt32)) &&& 63)
set_option maxRecDepth 100000 in
theorem bcF_ok : ∀ z, z < 256 → bcF (nJ z) = nJ (pop8 z) := by decide +kernel
theorem cBits {I : IT} {J : JT} (d z : Nat) (hz : z < 256) : ev d mIn_bitCount 0 [vI (nJ z)] [] (hh I J) = some (some (vI (nJ (pop8 z))), hh I J) := by
  rw [eIn_bitCount_0, ← bcF_ok z hz]
  rfl
def btF (x : Int32) : Nat → Int32
  | 0 => 0
  | k + 1 => btF x k + ((x >>> (nJ k &&& 31)) &&& 1)
set_option maxRecDepth 100000 in
theorem btF_ok : ∀ z, z < 256 → btF (nJ z) 16 = nJ (pop8 z) := by decide +kernel
theorem bits_go (d : Nat) (x : Int32) (I : IT) (J : JT) : ∀ j k, k + j = 16 → ev d mMo_bits 4 [vI x, vI (btF x k), vI (nJ k)] [] (hh I J) = some (some (vI (btF x 16)), hh I J) := by
  intro j
  induction j with
  | zero =>
    intro k hk
    obtain rfl : k = 16 := by omega
    rw [eMo_bits_4, if_neg (nlt_nL (b := 16) (Nat.le_refl 16) (by decide))]
  | succ j ih =>
    intro k hk
    rw [eMo_bits_4, if_pos (lt_nL (b := 16) (show k < 16 by omega) (by decide)), nJ_succ]
    exact ih (k + 1) (by omega)
theorem mBits {I : IT} {J : JT} (d z : Nat) (hz : z < 256) : ev d mMo_bits 0 [vI (nJ z), vU, vU] [] (hh I J) = some (some (vI (nJ (pop8 z))), hh I J) := by
  rw [eMo_bits_0, ← btF_ok z hz]
  exact bits_go d (nJ z) I J 16 0 rfl
/-- the bits as a number -/
def hN (row : Nat → Int32) (w : Int32) : Nat → Nat
  | 0 => 0
  | k + 1 => if row k = w then hN row w k ||| 2 ^ k else hN row w k
theorem hN_lt {row : Nat → Int32} {w : Int32} : ∀ n, n ≤ 6 → hN row w n < 64
  | 0, _ => (show (0 : Nat) < 64 by decide)
  | n + 1, h => by
    unfold hN
    have := hN_lt (row := row) (w := w) n (by omega)
    split
    · exact b_or_lt _ this n (by omega)
    · exact this
theorem hF_N {row : Nat → Int32} {w : Int32} : ∀ n, n ≤ 6 → hF row w n = nJ (hN row w n)
  | 0, _ => rfl
  | n + 1, h => by
    unfold hF hN
    rw [hF_N n (by omega)]
    split
    · exact b_or _ (hN_lt n (by omega)) n (by omega)
    · exact or_zero32 _
theorem hN_bit {row : Nat → Int32} {w : Int32} : ∀ n, n ≤ 6 → ∀ k, k < 6 → (hN row w n).testBit k = (Nat.blt k n && decide (row k = w))
  | 0, _, k, hk => by
    show (0 : Nat).testBit k = _
    rw [Nat.zero_testBit]
    rfl
  | n + 1, h, k, hk => by
    unfold hN
    have ih := hN_bit (row := row) (w := w) n (by omega) k hk
    have hb : Nat.blt k (n + 1) = (Nat.blt k n || Nat.beq k n) := by
      rw [Bool.eq_iff_iff]
      simp only [Bool.or_eq_true, Nat.blt_eq, Nat.beq_eq]
      omega
    have hl := hN_lt (row := row) (w := w) n (by omega)
    rw [hb]
    by_cases e : k = n
    · subst e
      have h0 : Nat.blt k k = false := by
        cases hq : Nat.blt k k
        · rfl
        · rw [Nat.blt_eq] at hq; omega
      have h1 : Nat.beq k k = true := Nat.beq_refl k
      rw [h0, h1]
      by_cases hr : row k = w
      · rw [if_pos hr, b_or_t _ hl k hk k hk, h1]
        simp [hr]
      · rw [if_neg hr, ih, h0]
        simp [hr]
    · have h1 : Nat.beq k n = false := by
        cases hq : Nat.beq k n
        · rfl
        · rw [Nat.beq_eq] at hq; exact absurd hq e
      rw [h1, Bool.or_false]
      split
      · rw [b_or_t _ hl n (by omega) k hk, h1, Bool.or_false, ih]
      · exact ih
