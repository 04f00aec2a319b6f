/-! ROADS -/
theorem sumT_pad {f : Nat → Nat} {T : Nat} : ∀ n, (∀ t, T ≤ t → t < T + n → f t = 0) → sumT f (T + n) = sumT f T
  | 0, _ => rfl
  | n + 1, h => by
    show sumT f (T + n) + f (T + n) = _
    rw [sumT_pad n (fun t h1 h2 => h t h1 (by omega)), h (T + n) (by omega) (by omega)]
    rfl
theorem ro_mk {I A Ix Ax : IT} {dy : Nat → Nat → Nat} {z : Nat → Nat} {T S N W : Nat} (hD : DrR I A dy z T S N W) (hF : ∀ a b, a < T → b < T → I (11, 5) (8 * a + b) = nJ (FL dy T a b)) (h8 : ∀ k, k < 5 → Ix (8, 0) k = I (8, 5) k) (h9 : ∀ k, k < 8 → Ix (9, 0) k = I (9, 5) k) (h10 : ∀ k, k < 64 → Ix (10, 0) k = I (10, 5) k) (h11 : ∀ k, k < 64 → Ix (11, 0) k = I (11, 5) k) (h12 : ∀ k, k < 8 → Ix (12, 0) k = I (12, 5) k) (h13 : ∀ k, k < 6 → Ix (13, 0) k = I (13, 5) k ∧ Ix (14, 0) k = I (14, 5) k ∧ Ix (15, 0) k = I (15, 5) k) (h16 : ∀ k, k < 3 → Ix (16, 0) k = I (16, 5) k)
    (m44 : ∀ k, k < 5 → Ax (44, 0) k = A (61, 0) k) (m45 : ∀ k, k < 8 → Ax (45, 0) k = A (62, 0) k) (m46 : ∀ k, k < 64 → Ax (46, 0) k = A (63, 0) k) (m47 : ∀ a b, a < 8 → b < 8 → Ax (47, 0) (8 * a + b) = nJ (dm (FL dy 8 a b))) (m48 : ∀ k, k < 6 → Ax (48, 0) k = A (64, 0) k ∧ Ax (49, 0) k = A (65, 0) k ∧ Ax (50, 0) k = A (66, 0) k) (m60 : ∀ k, k < 3 → Ax (60, 0) k = A (67, 0) k) : RoR (scC Ix 0) (scM Ax) T S N := by
  obtain ⟨⟨d11, d12, d13, d14⟩, ⟨e1, e2, e3, e4, e5, e6, e8, e9⟩, ⟨d31, d32⟩, d4, ⟨d51, d52⟩, d6, d7, d8, d9⟩ := hD
  have hiso : ∀ t, T ≤ t → ∀ a, dy a t = 0 ∧ dy t a = 0 := fun t ht a => by
    refine ⟨?_, ?_⟩
    · by_cases e : dy a t = 0
      · exact e
      · have := (d52 a t e).2.1
        omega
    · by_cases e : dy t a = 0
      · exact e
      · have := (d52 t a e).1
        omega
  have hpad : ∀ a b, a < T → b < T → FL dy 8 a b = FL dy T a b := fun a b ha hb => by
    obtain ⟨m, hm⟩ : ∃ m, 8 = T + m := ⟨8 - T, by omega⟩
    rw [hm]
    exact FL_pad d51 hiso m (by omega) a b ha hb
  have c10 : ∀ a b, a < T → b < T → scC Ix 0 10 (8 * a + b) = nJ (dy a b) := fun a b ha hb => (h10 _ (by omega)).trans (d4 a b (by omega) (by omega)).1
  have c11 : ∀ a b, a < T → b < T → scC Ix 0 11 (8 * a + b) = nJ (FL dy T a b) := fun a b ha hb => (h11 _ (by omega)).trans (hF a b ha hb)
  have hdy : ∀ a b, a < T → b < T → dyC (scC Ix 0) a b = dy a b := fun a b ha hb => by
    have := d51 a b
    unfold dyC
    rw [c10 a b ha hb]
    exact nJ_nat (by omega)
  have hds : ∀ a b, a < T → b < T → dst (scC Ix 0) a b = FL dy T a b := fun a b ha hb => by
    have := FL_bd d51 (show T ≤ 8 by omega) a b
    unfold dst
    rw [c11 a b ha hb]
    exact nJ_nat (by omega)
  have hz0 : ∀ t, T ≤ t → t < 8 → z t = 0 := fun t h1 h2 => by
    obtain ⟨q1, q2, q3⟩ := d6 t h2
    apply Nat.eq_of_testBit_eq
    intro b
    rw [Nat.zero_testBit]
    by_cases hb : b < 8
    · rw [q3 b hb, (hiso t h1 b).2]
      rfl
    · exact Nat.testBit_lt_two_pow (Nat.lt_of_lt_of_le q1 (show 2 ^ 8 ≤ 2 ^ b from Nat.pow_le_pow_right (by decide) (by omega)))
  have c12 : ∀ t, t < T → scC Ix 0 12 t = nJ (z t) := fun t ht => (h12 t (by omega)).trans (d6 t (by omega)).2.1
  have hsum : sumT (fun t => pop8 (scC Ix 0 12 t).toNatClampNeg) T = 2 * W := by
    rw [sumT_ext (g := fun t => pop8 (z t)) T (fun t ht => by
      have := (d6 t (by omega)).1
      rw [c12 t ht, nJ_nat (by omega)]), ← d7]
    obtain ⟨m, hm⟩ : ∃ m, 8 = T + m := ⟨8 - T, by omega⟩
    rw [hm]
    exact (sumT_pad m (fun t h1 h2 => by rw [hz0 t h1 (by omega)]; rfl)).symm
  have hW : W < 1000 := by
    have h2 : sumT (fun t => pop8 (z t)) 8 ≤ 100 * 8 := sumT_bd 8 (fun k _ => by have := pop8_le (z k); omega)
    omega
  refine ⟨⟨d11, d12, d13, d14⟩, ⟨?_, ?_, ?_, ?_, ?_, ?_, ?_⟩, ⟨fun a b ha hb => ?_, fun a ha => ?_, fun a b ha hb => ?_, fun a ha => ?_, fun a b e ha hb he => ?_, fun a ha => ?_, W, hW, ?_, hsum⟩, fun k hk => ?_, fun k hk => ?_, fun k hk => ?_⟩
  · show Ix (8, 0) 1 = Ax (44, 0) 0
    rw [h8 1 (by decide), m44 0 (by decide)]; exact e1
  · show Ix (8, 0) 2 = _
    rw [h8 2 (by decide)]; exact e2
  · show Ax (44, 0) 1 = _
    rw [m44 1 (by decide)]; exact e3
  · show Ix (8, 0) 3 = _
    rw [h8 3 (by decide)]; exact e5
  · show Ax (44, 0) 3 = _
    rw [m44 3 (by decide)]; exact e6
  · show Ix (8, 0) 4 = _
    rw [h8 4 (by decide)]; exact e8
  · show Ax (44, 0) 4 = _
    rw [m44 4 (by decide)]; exact e9
  · rw [hdy a b ha hb]
    exact ⟨d51 a b, c10 a b ha hb, (m46 _ (by omega)).trans (d4 a b (by omega) (by omega)).2⟩
  · rw [hdy a a ha ha]
    by_cases e : dy a a = 0
    · exact e
    · exact absurd rfl (d52 a a e).2.2.1
  · rw [hds a b ha hb]
    refine ⟨FL_bd d51 (by omega) a b, c11 a b ha hb, ?_⟩
    have := m47 a b (by omega) (by omega)
    rw [hpad a b ha hb] at this
    exact this
  · rw [hds a a ha ha]
    exact FL_diag T
  · rw [hds a e ha he, hds a b ha hb, hds b e hb he]
    exact FL_tri T a b e hb
  · obtain ⟨q1, q2, q3⟩ := d6 a (by omega)
    refine ⟨z a, q1, c12 a ha, fun b hb => ?_⟩
    rw [q3 b hb]
    by_cases hbT : b < T
    · have hb1 : Nat.blt b T = true := by rw [Nat.blt_eq]; exact hbT
      rw [hdy a b ha hbT, hb1, Bool.true_and]
    · have hb1 : Nat.blt b T = false := by
        cases hq : Nat.blt b T
        · rfl
        · rw [Nat.blt_eq] at hq
          exact absurd hq hbT
      rw [hb1, Bool.false_and, (hiso b (by omega) a).1]
      rfl
  · show Ax (44, 0) 2 = _
    rw [m44 2 (by decide)]; exact e4
  · show Ix (9, 0) k = Ax (45, 0) k ∧ ∃ p, p < 100 ∧ Ix (9, 0) k = nJ p
    rw [h9 k (by omega), m45 k (by omega)]
    exact d31 k hk
  · show (Ix (13, 0) k = Ax (48, 0) k ∧ ∃ t, t < T ∧ Ix (13, 0) k = nJ t) ∧ (Ix (14, 0) k = Ax (49, 0) k ∧ ∃ t, t < 300 ∧ Ix (14, 0) k = nJ t) ∧ (Ix (15, 0) k = Ax (50, 0) k ∧ ∃ t, t < 100 ∧ Ix (15, 0) k = nJ t)
    obtain ⟨q1, q2, q3⟩ := h13 k (by omega)
    obtain ⟨q4, q5, q6⟩ := m48 k (by omega)
    rw [q1, q2, q3, q4, q5, q6]
    exact d8 k hk
  · show Ix (16, 0) k = Ax (60, 0) k ∧ ∃ t, t < 100 ∧ Ix (16, 0) k = nJ t
    rw [h16 k (by omega), m60 k (by omega)]
    exact d9 k hk
/-- the class takes the draft over -/
theorem cCopyR {I : IT} {J : JT} (d : Nat) (h01 : I (8, 5) 0 = 0 ∨ I (8, 5) 0 = 1) : ∃ I', (∀ k, k < 5 → I' (8, 0) k = I (8, 5) k) ∧ ((∀ k, k < 8 → I' (9, 0) k = I (9, 5) k) ∧ (∀ k, k < 64 → I' (10, 0) k = I (10, 5) k) ∧ (∀ k, k < 64 → I' (11, 0) k = I (11, 5) k) ∧ (∀ k, k < 8 → I' (12, 0) k = I (12, 5) k) ∧ (∀ k, k < 6 → I' (13, 0) k = I (13, 5) k ∧ I' (14, 0) k = I (14, 5) k ∧ I' (15, 0) k = I (15, 5) k) ∧ (∀ k, k < 3 → I' (16, 0) k = I (16, 5) k)) ∧ (∀ a : Ad, ¬ (a.2 = 0 ∧ 8 ≤ a.1 ∧ a.1 ≤ 16) → I' a = I a) ∧ ev d mRo_copyFrom 0 [vR (8, 0), vR (8, 5)] [] (hh I J) = some (none, hh I' J) := by
  rw [eRo_copyFrom_0, if_pos h01, eRo_copyFrom_4, eRo_copyFrom_8, eRo_copyFrom_12, eRo_copyFrom_16, eRo_copyFrom_20, eRo_copyFrom_28, eRo_copyFrom_36, eRo_copyFrom_44, eRo_copyFrom_52, eRo_copyFrom_60, eRo_copyFrom_68, eRo_copyFrom_76, eRo_copyFrom_84]
  refine ⟨_, ?_, ⟨?_, ?_, ?_, ?_, ?_, ?_⟩, ?_, rfl⟩
  · intro k hk
    rw [cpA_ne (by decide), cpA_ne (by decide), cpA_ne (by decide), cpA_ne (by decide), cpA_ne (by decide), cpA_ne (by decide), cpA_ne (by decide), cpA_ne (by decide)]
    have : k = 0 ∨ k = 1 ∨ k = 2 ∨ k = 3 ∨ k = 4 := by omega
    rcases this with rfl | rfl | rfl | rfl | rfl <;> rfl
  · intro k hk
    rw [cpA_ne (by decide), cpA_ne (by decide), cpA_ne (by decide), cpA_ne (by decide), cpA_ne (by decide), cpA_ne (by decide), cpA_ne (by decide), cpA_in hk]
    rfl
  · intro k hk
    rw [cpA_ne (by decide), cpA_ne (by decide), cpA_ne (by decide), cpA_ne (by decide), cpA_ne (by decide), cpA_ne (by decide), cpA_in hk, cpA_ne (by decide)]
    rfl
  · intro k hk
    rw [cpA_ne (by decide), cpA_ne (by decide), cpA_ne (by decide), cpA_ne (by decide), cpA_ne (by decide), cpA_in hk, cpA_ne (by decide), cpA_ne (by decide)]
    rfl
  · intro k hk
    rw [cpA_ne (by decide), cpA_ne (by decide), cpA_ne (by decide), cpA_ne (by decide), cpA_in hk, cpA_ne (by decide), cpA_ne (by decide), cpA_ne (by decide)]
    rfl
  · intro k hk
    refine ⟨?_, ?_, ?_⟩
    · rw [cpA_ne (by decide), cpA_ne (by decide), cpA_ne (by decide), cpA_in hk, cpA_ne (by decide), cpA_ne (by decide), cpA_ne (by decide), cpA_ne (by decide)]
      rfl
    · rw [cpA_ne (by decide), cpA_ne (by decide), cpA_in hk, cpA_ne (by decide), cpA_ne (by decide), cpA_ne (by decide), cpA_ne (by decide), cpA_ne (by decide)]
      rfl
    · rw [cpA_ne (by decide), cpA_in hk, cpA_ne (by decide), cpA_ne (by decide), cpA_ne (by decide), cpA_ne (by decide), cpA_ne (by decide), cpA_ne (by decide)]
      rfl
  · intro k hk
    rw [cpA_in hk, cpA_ne (by decide), cpA_ne (by decide), cpA_ne (by decide), cpA_ne (by decide), cpA_ne (by decide), cpA_ne (by decide), cpA_ne (by decide)]
    rfl
  · intro a ha
    funext k
    have hn : ∀ s, 8 ≤ s → s ≤ 16 → a ≠ (s, 0) := fun s h1 h2 z => ha (by rw [z]; exact ⟨rfl, h1, h2⟩)
    rw [cpA_ne (hn 16 (by decide) (by decide)), cpA_ne (hn 15 (by decide) (by decide)), cpA_ne (hn 14 (by decide) (by decide)), cpA_ne (hn 13 (by decide) (by decide)), cpA_ne (hn 12 (by decide) (by decide)), cpA_ne (hn 11 (by decide) (by decide)), cpA_ne (hn 10 (by decide) (by decide)), cpA_ne (hn 9 (by decide) (by decide)), up_ne _ _ _ _ (hn 8 (by decide) (by decide)), up_ne _ _ _ _ (hn 8 (by decide) (by decide)), up_ne _ _ _ _ (hn 8 (by decide) (by decide)), up_ne _ _ _ _ (hn 8 (by decide) (by decide)), up_ne _ _ _ _ (hn 8 (by decide) (by decide))]
