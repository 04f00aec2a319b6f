/-! WHAT A RULE SEES of a walker and a town: both sides -/
def cn (p : Nat → Bool) : Nat → Nat
  | 0 => 0
  | k + 1 => cn p k + (bif p k then 1 else 0)
theorem cn_le (p : Nat → Bool) : ∀ n, cn p n ≤ n
  | 0 => Nat.le_refl 0
  | n + 1 => by
    have := cn_le p n
    unfold cn
    cases p n <;> simp <;> omega
theorem cn_ext {p p' : Nat → Bool} : ∀ n, (∀ k, k < n → p k = p' k) → cn p n = cn p' n
  | 0, _ => rfl
  | n + 1, h => by
    unfold cn
    rw [cn_ext n (fun k hk => h k (by omega)), h n (by omega)]
theorem cn_pad {p : Nat → Bool} {S : Nat} : ∀ n, (∀ k, S ≤ k → k < S + n → p k = false) → cn p (S + n) = cn p S
  | 0, _ => rfl
  | n + 1, h => by
    show cn p (S + n) + (bif p (S + n) then 1 else 0) = _
    rw [h (S + n) (by omega) (by omega), cn_pad n (fun k h1 h2 => h k h1 (by omega))]
    rfl
def lsN (p : Nat → Bool) (du : Nat → Nat) : Nat → Nat
  | 0 => 1000000
  | k + 1 => bif p k && Nat.blt (du k) (lsN p du k) then du k else lsN p du k
theorem lsN_le (p : Nat → Bool) (du : Nat → Nat) : ∀ n, lsN p du n ≤ 1000000
  | 0 => Nat.le_refl _
  | n + 1 => by
    have := lsN_le p du n
    unfold lsN
    cases hb : (p n && Nat.blt (du n) (lsN p du n))
    · exact this
    · simp only [Bool.and_eq_true, Nat.blt_eq] at hb
      show du n ≤ _
      omega
theorem lsN_lt (p : Nat → Bool) (du : Nat → Nat) : ∀ n, (∀ k, k < n → du k < 300) → cn p n ≠ 0 → lsN p du n < 300
  | 0, _, h => absurd rfl h
  | n + 1, hd, h => by
    have h0 := hd n (by omega)
    have ih := lsN_lt p du n (fun k hk => hd k (by omega))
    unfold cn at h
    unfold lsN
    cases hp : p n
    · rw [hp] at h
      exact ih h
    · cases hb : Nat.blt (du n) (lsN p du n)
      · show lsN p du n < 300
        have : ¬ du n < lsN p du n := fun q => by
          rw [← Nat.blt_eq, hb] at q
          cases q
        omega
      · exact h0
theorem lsN_z (p : Nat → Bool) (du : Nat → Nat) : ∀ n, cn p n = 0 → lsN p du n = 1000000
  | 0, _ => rfl
  | n + 1, h => by
    unfold cn at h
    cases hp : p n
    · unfold lsN
      rw [hp] at h ⊢
      exact lsN_z p du n (by simpa using h)
    · rw [hp] at h
      simp at h
def ow (I : IT) (n w : Nat) : Nat → Bool := fun k => decide (I (22, n) k = nJ w)
def ask (I : IT) (n w t z : Nat) : Nat → Bool := fun k => ow I n w k && !z.testBit k && decide (I (13, 0) k = nJ t)
def du0 (I : IT) : Nat → Nat := fun k => tn (I (14, 0) k)
def snF (I : IT) (n w t z D S : Nat) : Nat → Int64 := fun k => match k with
  | 0 => (nJ w).toInt64
  | 1 => (nJ t).toInt64
  | 2 => (I (10, 0) (8 * tn (I (18, n) w) + t)).toInt64
  | 3 => (nJ (cn (ask I n w t z) S)).toInt64
  | 4 => (if cn (ask I n w t z) S = 0 then 999 else nJ (lsN (ask I n w t z) (du0 I) S) - nJ D).toInt64
  | 5 => (if tn (I (11, 0) (8 * t)) = 1000000 then 999 else I (11, 0) (8 * t)).toInt64
  | 6 => (I (20, n) w).toInt64
  | 7 => (nJ (cn (ow I n w) S)).toInt64
  | 8 => (nJ (cn (fun k => ow I n w k && z.testBit k) S)).toInt64
  | 9 => (nJ D).toInt64
  | _ => (I (9, 0) t).toInt64
theorem lt11 {P : Nat → Prop} (h0 : P 0) (h1 : P 1) (h2 : P 2) (h3 : P 3) (h4 : P 4) (h5 : P 5) (h6 : P 6) (h7 : P 7) (h8 : P 8) (h9 : P 9) (h10 : P 10) : ∀ k, k < 11 → P k := fun k hk => match k, hk with
  | 0, _ => h0
  | 1, _ => h1
  | 2, _ => h2
  | 3, _ => h3
  | 4, _ => h4
  | 5, _ => h5
  | 6, _ => h6
  | 7, _ => h7
  | 8, _ => h8
  | 9, _ => h9
  | 10, _ => h10
  | k + 11, h => absurd h (by omega)
theorem mul8 (a b : Nat) : nJ a * 8 + nJ b = nJ (8 * a + b) := by
  show nJ a * nJ 8 + nJ b = _
  rw [nJ_mul, nJ_add, Nat.mul_comm]
theorem mul8' (a b : Nat) : 8 * nJ a + nJ b = nJ (8 * a + b) := by
  show nJ 8 * nJ a + nJ b = _
  rw [nJ_mul, nJ_add]
theorem mul80 (a : Nat) : nJ a * 8 + 0 = nJ (8 * a) := mul8 a 0
theorem mul80' (a : Nat) : 8 * nJ a = nJ (8 * a) := by
  show nJ 8 * nJ a = _
  rw [nJ_mul]
theorem cDays {I : IT} {J : JT} (d n a b : Nat) (ha : a < 8) (hb : b < 8) : ev d mRo_wayDays 0 [vR (8, n), vI (nJ a), vI (nJ b)] [] (hh I J) = some (some (vI (I (10, n) (8 * a + b))), hh I J) := by
  rw [eRo_wayDays_0, mul8, bnd (show 8 * a + b < 64 by omega) (by omega), nJ_nat (by omega)]
theorem cBetw {I : IT} {J : JT} (d n a b : Nat) (ha : a < 8) (hb : b < 8) : ev d mRo_between 0 [vR (8, n), vI (nJ a), vI (nJ b)] [] (hh I J) = some (some (vI (I (11, n) (8 * a + b))), hh I J) := by
  rw [eRo_between_0, mul8, bnd (show 8 * a + b < 64 by omega) (by omega), nJ_nat (by omega)]
theorem cBetw0 {I : IT} {J : JT} (d n a : Nat) (ha : a < 8) : ev d mRo_between 0 [vR (8, n), vI (nJ a), vI 0] [] (hh I J) = some (some (vI (I (11, n) (8 * a))), hh I J) := cBetw d n a 0 ha (by decide)
theorem see_go (d r n w t z D S T : Nat) (I : IT) (J : JT) (hS : S ≤ 6) (hw : w < 3) (ht : t < T) (hT : T ≤ 8) (hz : z < 64) (e3 : I (8, 0) 3 = nJ S) (ez : I (17, n) 1 = nJ z) (eD : I (17, n) 0 = nJ D)
    (htw : ∃ u, u < T ∧ I (18, n) w = nJ u) (hdu : ∀ k, k < S → ∃ u, u < 300 ∧ I (14, 0) k = nJ u) (hap : ∃ u, (u = 1000000 ∨ u < 2400) ∧ I (11, 0) (8 * t) = nJ u) :
    ∀ (j k : Nat), k + j = S → Tr (ev (d + 1) mRu_see 10 [vR (37, r), vR (8, 0), vR (17, n), vI (nJ w), vI (nJ t), vI (nJ (cn (ask I n w t z) k)), vI (nJ (lsN (ask I n w t z) (du0 I) k)), vI (nJ (cn (ow I n w) k)), vI (nJ (cn (fun k => ow I n w k && z.testBit k) k)), vI (nJ k)] [] (hh I J)) (fun v I' J' => v = none ∧ I' = I ∧ (∀ k, k < 11 → J' (41, r) k = snF I n w t z D S k) ∧ ∀ a, a ≠ (41, r) → J' a = J a) := by
  intro j
  induction j with
  | zero =>
    intro k hk
    obtain rfl : k = S := by omega
    obtain ⟨u, hu, eu⟩ := htw
    obtain ⟨v, hv, ev'⟩ := hap
    have hc := cn_le (ask I n w t z) k
    rw [eRu_see_10, e3, if_neg (nlt_nJ (Nat.le_refl k) (by omega)), cBetw0 d 0 t (by omega), bI_some, bnd (show w < 3 by omega) (by omega), gI_hh, gJ_hh, nJ_nat (show w < 2147483648 by omega), eu, cDays d 0 u t (by omega) (by omega), bI_some, gI_hh, gJ_hh]
    have t5 : tn (I (11, 0) (8 * t)) = v := by rw [ev']; exact nJ_nat (by omega)
    have tu : tn (I (18, n) w) = u := by rw [eu]; exact nJ_nat (by omega)
    have hfr : ∀ (x0 x1 x2 x3 x4 x5 x6 x7 x8 x9 x10 : Int64) (a : Ad), a ≠ (41, r) → (up2 (up2 (up2 (up2 (up2 (up2 (up2 (up2 (up2 (up2 (up2 J (41, r) 0 x0) (41, r) 1 x1) (41, r) 2 x2) (41, r) 3 x3) (41, r) 4 x4) (41, r) 5 x5) (41, r) 6 x6) (41, r) 7 x7) (41, r) 8 x8) (41, r) 9 x9) (41, r) 10 x10) a = J a := by
      intro x0 x1 x2 x3 x4 x5 x6 x7 x8 x9 x10 a ha
      funext i
      rw [up_ne _ _ _ _ ha, up_ne _ _ _ _ ha, up_ne _ _ _ _ ha, up_ne _ _ _ _ ha, up_ne _ _ _ _ ha, up_ne _ _ _ _ ha, up_ne _ _ _ _ ha, up_ne _ _ _ _ ha, up_ne _ _ _ _ ha, up_ne _ _ _ _ ha, up_ne _ _ _ _ ha]
    by_cases h0 : cn (ask I n w t z) k = 0
    · rw [if_pos (show nJ (cn (ask I n w t z) k) = 0 by rw [h0]; rfl)]
      by_cases h1 : v = 1000000
      · rw [if_neg (show ¬ I (11, 0) (8 * t) < 1000000 by rw [ev', h1]; decide), bnk hw (by omega), bnd (show t < 8 by omega) (by omega), nJ_nat (show t < 2147483648 by omega)]
        refine Tr.ret ⟨rfl, rfl, lt11 ?_ ?_ ?_ ?_ ?_ ?_ ?_ ?_ ?_ ?_ ?_, fun a ha => hfr _ _ _ _ _ _ _ _ _ _ _ a ha⟩ <;> simp [up2, snF, tu, t5, h0, h1, eD]
      · rw [if_pos (show I (11, 0) (8 * t) < 1000000 by rw [ev']; exact lt_nL (b := 1000000) (by omega) (by decide)), bnk hw (by omega), bnd (show t < 8 by omega) (by omega), nJ_nat (show t < 2147483648 by omega)]
        refine Tr.ret ⟨rfl, rfl, lt11 ?_ ?_ ?_ ?_ ?_ ?_ ?_ ?_ ?_ ?_ ?_, fun a ha => hfr _ _ _ _ _ _ _ _ _ _ _ a ha⟩ <;> simp [up2, snF, tu, t5, h0, h1, eD]
    · rw [if_neg (ne_nL (b := 0) h0 (by omega) (by decide))]
      by_cases h1 : v = 1000000
      · rw [if_neg (show ¬ I (11, 0) (8 * t) < 1000000 by rw [ev', h1]; decide), bnk hw (by omega), bnd (show t < 8 by omega) (by omega), nJ_nat (show t < 2147483648 by omega)]
        refine Tr.ret ⟨rfl, rfl, lt11 ?_ ?_ ?_ ?_ ?_ ?_ ?_ ?_ ?_ ?_ ?_, fun a ha => hfr _ _ _ _ _ _ _ _ _ _ _ a ha⟩ <;> simp [up2, snF, tu, t5, h0, h1, eD]
      · rw [if_pos (show I (11, 0) (8 * t) < 1000000 by rw [ev']; exact lt_nL (b := 1000000) (by omega) (by decide)), bnk hw (by omega), bnd (show t < 8 by omega) (by omega), nJ_nat (show t < 2147483648 by omega)]
        refine Tr.ret ⟨rfl, rfl, lt11 ?_ ?_ ?_ ?_ ?_ ?_ ?_ ?_ ?_ ?_ ?_, fun a ha => hfr _ _ _ _ _ _ _ _ _ _ _ a ha⟩ <;> simp [up2, snF, tu, t5, h0, h1, eD]
  | succ j ih =>
    intro k hk
    have h1 := ih (k + 1) (by omega)
    obtain ⟨u, hu, eu⟩ := hdu k (by omega)
    have tu : du0 I k = u := by unfold du0; rw [eu]; exact nJ_nat (by omega)
    have hll := lsN_le (ask I n w t z) (du0 I) k
    rw [eRu_see_10, e3, if_pos (lt_nJ (show k < S by omega) (by omega)), bnd (show k < 6 by omega) (by omega), nJ_nat (show k < 2147483648 by omega), ez, b_shr z hz k (by omega), nJ_succ, nJ_succ, nJ_succ, nJ_succ]
    unfold cn lsN at h1
    by_cases ho : I (22, n) k = nJ w
    · have o1 : ow I n w k = true := by simp [ow, ho]
      rw [if_pos ho]
      cases hb : z.testBit k
      · rw [if_pos (show nJ (bif false then 1 else 0) = 0 from rfl), bnk (show k < 6 by omega) (by omega)]
        by_cases hg : I (13, 0) k = nJ t
        · have o2 : ask I n w t z k = true := by simp [ask, o1, hb, hg]
          rw [if_pos hg, bnk (show k < 6 by omega) (by omega), eu]
          simp only [o1, o2, hb, tu, Bool.and_false, Bool.true_and, cond_true, cond_false, Nat.add_zero] at h1
          by_cases hl : u < lsN (ask I n w t z) (du0 I) k
          · rw [if_pos (lt_nJ hl (by omega))]
            rw [show Nat.blt u (lsN (ask I n w t z) (du0 I) k) = true from by rw [Nat.blt_eq]; exact hl] at h1
            exact h1
          · rw [if_neg (nlt_nJ (by omega) (by omega))]
            have : Nat.blt u (lsN (ask I n w t z) (du0 I) k) = false := by
              cases hq : Nat.blt u (lsN (ask I n w t z) (du0 I) k)
              · rfl
              · rw [Nat.blt_eq] at hq; exact absurd hq hl
            rw [this] at h1
            exact h1
        · have o2 : ask I n w t z k = false := by simp [ask, hg]
          rw [if_neg hg]
          simp only [o1, o2, hb, Bool.and_false, Bool.false_and, cond_true, cond_false, Nat.add_zero] at h1
          exact h1
      · have o2 : ask I n w t z k = false := by simp [ask, hb]
        rw [if_neg (show ¬ nJ (bif true then 1 else 0) = 0 by decide)]
        simp only [o1, o2, hb, Bool.and_true, Bool.false_and, cond_true, cond_false, Nat.add_zero] at h1
        exact h1
    · have o1 : ow I n w k = false := by simp [ow, ho]
      have o2 : ask I n w t z k = false := by simp [ask, o1]
      rw [if_neg ho]
      simp only [o1, o2, Bool.false_and, cond_false, Nat.add_zero] at h1
      exact h1
