/-! sets of sets, as longs -/
def fbL (f : Nat → Bool) : Nat → Int64
  | 0 => 0
  | s + 1 => fbL f s ||| (if f s = true then 1 <<< ((nJ s).toInt64 &&& 63) else 0)
theorem shr_or64 (a b c : Int64) : (a ||| b) >>> c = (a >>> c) ||| (b >>> c) := by
  apply Int64.toBitVec_inj.mp
  rw [Int64.toBitVec_shiftRight, Int64.toBitVec_or, Int64.toBitVec_or, Int64.toBitVec_shiftRight, Int64.toBitVec_shiftRight]
  show BitVec.sshiftRight _ _ = _
  rw [BitVec.sshiftRight_or_distrib]
  rfl
theorem and_or64 (a b c : Int64) : (a ||| b) &&& c = (a &&& c) ||| (b &&& c) := by
  apply Int64.toBitVec_inj.mp
  rw [Int64.toBitVec_and, Int64.toBitVec_or, Int64.toBitVec_or, Int64.toBitVec_and, Int64.toBitVec_and]
  apply BitVec.eq_of_getLsbD_eq
  intro i hi
  simp only [BitVec.getLsbD_and, BitVec.getLsbD_or]
  cases a.toBitVec.getLsbD i <;> cases b.toBitVec.getLsbD i <;> cases c.toBitVec.getLsbD i <;> rfl
set_option maxRecDepth 100000 in
theorem one_sh64 : ∀ s, s < 64 → ∀ t, t < 64 → ((((1 : Int64) <<< ((nJ s).toInt64 &&& 63)) >>> ((nJ t).toInt64 &&& 63)) &&& 1) = if Nat.beq s t = true then 1 else 0 := by decide +kernel
theorem zero_sh64 : ∀ t, t < 64 → (((0 : Int64) >>> ((nJ t).toInt64 &&& 63)) &&& 1) = 0 := by decide +kernel
theorem fbL_bit {f : Nat → Bool} {t : Nat} (ht : t < 64) : ∀ n, n ≤ 64 → ((fbL f n >>> ((nJ t).toInt64 &&& 63)) &&& 1) = if t < n ∧ f t = true then 1 else 0
  | 0, _ => by
    rw [if_neg (fun z => by omega)]
    exact zero_sh64 t ht
  | n + 1, hn => by
    have ih := fbL_bit (f := f) ht n (by omega)
    rw [show fbL f (n + 1) = fbL f n ||| (if f n = true then 1 <<< ((nJ n).toInt64 &&& 63) else 0) from rfl, shr_or64, and_or64, ih]
    by_cases hf : f n = true
    · rw [if_pos hf, one_sh64 n (by omega) t ht]
      by_cases e : n = t
      · subst e
        rw [if_neg (fun z => by omega), if_pos (Nat.beq_refl n), if_pos ⟨by omega, hf⟩]
        rfl
      · rw [beq_f e, if_neg (show ¬ false = true by decide)]
        by_cases h2 : t < n ∧ f t = true
        · rw [if_pos h2, if_pos ⟨by omega, h2.2⟩]
          rfl
        · rw [if_neg h2, if_neg (fun z => h2 ⟨by omega, z.2⟩)]
          rfl
    · rw [if_neg hf, zero_sh64 t ht]
      by_cases h2 : t < n ∧ f t = true
      · rw [if_pos h2, if_pos ⟨by omega, h2.2⟩]
        rfl
      · rw [if_neg h2, if_neg (fun z => h2 ⟨by
          by_cases e : t = n
          · rw [e] at z
            exact absurd z.2 hf
          · omega, z.2⟩)]
        rfl
theorem fbL_test {f : Nat → Bool} {t : Nat} (ht : t < 64) : (lg_cmp ((fbL f 64 >>> ((nJ t).toInt64 &&& 63)) &&& 1) 0 = 0) = (f t = false) := by
  rw [cmp_eq, fbL_bit ht 64 (Nat.le_refl 64)]
  cases f t
  · exact propext ⟨fun _ => rfl, fun _ => by rw [if_neg (fun z => by cases z.2)]⟩
  · rw [if_pos ⟨ht, rfl⟩]
    exact propext ⟨fun z => absurd z (by decide), fun z => by cases z⟩
