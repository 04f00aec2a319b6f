theorem mskb (m b : Nat) : m &&& (2 ^ (b + 1) - 1) = (m &&& (2 ^ b - 1)) ||| (bif m.testBit b then 2 ^ b else 0) := by
  apply Nat.eq_of_testBit_eq
  intro i
  rw [Nat.testBit_or, Nat.testBit_and, Nat.testBit_and, Nat.testBit_two_pow_sub_one, Nat.testBit_two_pow_sub_one]
  by_cases e : i = b
  · subst e
    cases hb : m.testBit i
    · simp
    · simp [Nat.testBit_two_pow]
  · have e1 : decide (i < b + 1) = decide (i < b) := decide_eq_decide.mpr (by omega)
    have e2 : (bif m.testBit b then 2 ^ b else 0).testBit i = false := by
      cases m.testBit b
      · exact Nat.zero_testBit i
      · rw [cond_true, Nat.testBit_two_pow]
        exact decide_eq_false (fun z => e z.symm)
    rw [e1, e2, Bool.or_false]
theorem mHas8 {I : IT} {J : JT} (d z k : Nat) (hz : z < 256) (hk : k < 8) : ev d mMo_has 0 [vI (nJ z), vI (nJ k)] [] (hh I J) = some (some (vI (if z.testBit k = true then 1 else 0)), hh I J) := by
  rw [eMo_has_0, b8_shr z hz k hk]
  cases z.testBit k <;> rfl
theorem b8_255 : ∀ b, b < 8 → (255 : Nat).testBit b = true := by decide
theorem or_lt8 {a b : Nat} (ha : a < 256) (hb : b < 256) : a ||| b < 256 := Nat.or_lt_two_pow (n := 8) ha hb
theorem p_lt8 {b : Nat} (hb : b < 8) : 2 ^ b < 256 := Nat.pow_lt_pow_right (a := 2) (by decide) hb
/-- roads of the reference, as sets -/
def RdM (A : IT) (T : Nat) (near : Nat → Nat) : Prop := ∀ a, a < T → near a < 256 ∧ near a &&& (2 ^ T - 1) = near a ∧ ∀ b, b < T → ∃ v, v ≤ 10000 ∧ A (46, 0) (8 * a + b) = nJ v ∧ ((near a).testBit b = true ↔ v < 10000)
theorem l17 {A : IT} {B : JT} {T wo a s : Nat} {near : Nat → Nat} (d : Nat) (x3 : Int32) (hT : T ≤ 8) (m1 : A (44, 0) 1 = nJ T) (hwo : wo < 256) (hn : RdM A T near) (ha : a < T) (hs : s < 256) (hsa : s.testBit a = true) : ∀ j b, b + j = T → ev (d + 1) mMo_comesTo 17 [vR (43, 0), vI (nJ wo), vI (nJ (s ||| ((near a &&& (255 ^^^ wo)) &&& (2 ^ b - 1)))), vI x3, vI (nJ a), vI (nJ b)] [] (hh A B) = ev (d + 1) mMo_comesTo 9 [vR (43, 0), vI (nJ wo), vI (nJ (s ||| (near a &&& (255 ^^^ wo)))), vI x3, vI (nJ (a + 1)), vU] [] (hh A B) := by
  obtain ⟨n1, n2, n3⟩ := hn a ha
  intro j
  induction j with
  | zero =>
    intro b hb
    obtain rfl : b = T := by omega
    have e : (near a &&& (255 ^^^ wo)) &&& (2 ^ b - 1) = near a &&& (255 ^^^ wo) := by
      rw [Nat.and_assoc, Nat.and_comm (255 ^^^ wo), ← Nat.and_assoc, n2]
    rw [eMo_comesTo_17, m1, if_neg (nlt_nJ (Nat.le_refl b) (by omega)), e, nJ_succ]
  | succ j ih =>
    intro b hb
    have hbT : b < T := by omega
    have hb8 : b < 8 := by omega
    obtain ⟨v, v1, v2, v3⟩ := n3 b hbT
    have hm : (near a &&& (255 ^^^ wo)) &&& (2 ^ b - 1) < 256 := Nat.lt_of_le_of_lt Nat.and_le_left (Nat.lt_of_le_of_lt Nat.and_le_left n1)
    have hS := or_lt8 hs hm
    have hta : (s ||| ((near a &&& (255 ^^^ wo)) &&& (2 ^ b - 1))).testBit a = true := by rw [Nat.testBit_or, hsa, Bool.true_or]
    have hmb : (near a &&& (255 ^^^ wo)).testBit b = ((near a).testBit b && !wo.testBit b) := by
      rw [Nat.testBit_and, Nat.testBit_xor, b8_255 b hb8]
      cases (near a).testBit b <;> cases wo.testBit b <;> rfl
    have ei : (8 * nJ a) + nJ b = nJ (8 * a + b) := by
      rw [show 8 * nJ a = nJ (8 * a) from nJ_mul 8 a, nJ_add]
    have hix : 8 * a + b < 64 := by omega
    have nx := ih (b + 1) (by omega)
    rw [mskb, ← Nat.or_assoc, hmb] at nx
    have o0 : ∀ z : Nat, nJ z ||| 0 = nJ z := fun z => by
      have := nJ_or2 z 0
      rw [Nat.or_zero] at this
      exact this
    rw [eMo_comesTo_17, m1, if_pos (lt_nJ hbT (by omega)), mHas8 _ _ _ hS (by omega), bI_some, if_pos hta, if_neg (show ¬ (1 : Int32) = 0 by decide), ei, bnd hix (by omega), nJ_nat (by omega), gI_hh, gJ_hh, v2, nJ_succ, o0]
    by_cases hr : (near a).testBit b = true
    · rw [if_pos (show nJ v < 10000 from lt_nL (b := 10000) (v3.mp hr) (by decide)), mHas8 _ _ _ hwo hb8, bI_some, bif2, b8_sh b (by omega), nJ_or2, gI_hh, gJ_hh]
      cases hw : wo.testBit b with
      | false =>
        rw [if_neg (by decide)]
        rw [hr, hw] at nx
        exact nx
      | true =>
        rw [if_pos rfl]
        rw [hr, hw] at nx
        simp only [Bool.not_true, Bool.and_false, cond_false, Nat.or_zero] at nx
        exact nx
    · rw [if_neg (fun z => hr (v3.mpr (by
        by_cases hv : v < 10000
        · exact hv
        · exact absurd z (nlt_nL (b := 10000) (by omega) (by omega)))))]
      have hr' : (near a).testBit b = false := by
        cases h : (near a).testBit b
        · rfl
        · exact absurd h hr
      rw [hr'] at nx
      simp only [Bool.false_and, cond_false, Nat.or_zero] at nx
      exact nx
