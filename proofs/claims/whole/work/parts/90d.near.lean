/-- roads as sets, on both sides -/
theorem rd_of {I A : IT} {T S N : Nat} (hro : RoR (scC I 0) (scM A) T S N) : ∃ near : Nat → Nat, (∀ a, a < T → near a < 256 ∧ I (12, 0) a = nJ (near a)) ∧ RdM A T near := by
  have hT := hro.1.1
  obtain ⟨p1, -, -, -, -, p6, -⟩ := hro.2.2.1
  have key : ∀ a, a < T → (I (12, 0) a).toNatClampNeg < 256 ∧ I (12, 0) a = nJ (I (12, 0) a).toNatClampNeg ∧ ∀ b, b < 8 → (I (12, 0) a).toNatClampNeg.testBit b = (Nat.blt b T && !Nat.beq (dyC (scC I 0) a b) 0) := fun a ha => by
    obtain ⟨z, z1, z2, z3⟩ := p6 a ha
    have z2 : I (12, 0) a = nJ z := z2
    have e : (I (12, 0) a).toNatClampNeg = z := by rw [z2]; exact nJ_nat (by omega)
    rw [e]
    exact ⟨z1, z2, z3⟩
  refine ⟨fun a => (I (12, 0) a).toNatClampNeg, fun a ha => ⟨(key a ha).1, (key a ha).2.1⟩, fun a ha => ⟨(key a ha).1, ?_, fun b hb => ?_⟩⟩
  · obtain ⟨z1, -, z3⟩ := key a ha
    apply Nat.eq_of_testBit_eq
    intro i
    show ((I (12, 0) a).toNatClampNeg &&& (2 ^ T - 1)).testBit i = (I (12, 0) a).toNatClampNeg.testBit i
    rw [Nat.testBit_and, Nat.testBit_two_pow_sub_one]
    by_cases h1 : i < T
    · rw [decide_eq_true h1, Bool.and_true]
    · have hf : (I (12, 0) a).toNatClampNeg.testBit i = false := by
        by_cases h8 : i < 8
        · rw [z3 i h8]
          have : Nat.blt i T = false := by
            cases hb : Nat.blt i T
            · rfl
            · rw [Nat.blt_eq] at hb
              exact absurd hb h1
          rw [this, Bool.false_and]
        · exact Nat.testBit_lt_two_pow (Nat.lt_of_lt_of_le z1 (show 2 ^ 8 ≤ 2 ^ i from Nat.pow_le_pow_right (by decide) (by omega)))
      rw [hf, Bool.false_and]
  · obtain ⟨z1, -, z3⟩ := key a ha
    obtain ⟨y1, -, y3⟩ := p1 a b ha hb
    have y3 : A (46, 0) (8 * a + b) = nJ (if dyC (scC I 0) a b = 0 then 10000 else dyC (scC I 0) a b) := y3
    refine ⟨_, ?_, y3, ?_⟩
    · split <;> omega
    · show (I (12, 0) a).toNatClampNeg.testBit b = true ↔ _
      rw [z3 b (by omega)]
      have hb1 : Nat.blt b T = true := by rw [Nat.blt_eq]; exact hb
      rw [hb1, Bool.true_and]
      by_cases h0 : dyC (scC I 0) a b = 0
      · rw [if_pos h0, h0]
        exact ⟨fun z => absurd z (by decide), fun z => absurd z (by omega)⟩
      · rw [if_neg h0, beq_f h0]
        exact ⟨fun _ => by omega, fun _ => rfl⟩
