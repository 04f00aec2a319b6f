/-! ACTS are kept: both sides -/
theorem cpA_hit {α : Type} {f : Ad → Nat → α} {a b : Ad} {dp n : Nat} {k : Nat} (h1 : dp ≤ k) (h2 : k < dp + n) : cpA f a b 0 dp n a k = f b (k - dp) := by
  rw [cpA_at, if_pos (And.intro rfl (And.intro h1 h2)), Nat.zero_add]
theorem cpA_miss {α : Type} {f : Ad → Nat → α} {a b : Ad} {sp dp n : Nat} {k : Nat} (h : k < dp ∨ dp + n ≤ k) : cpA f a b sp dp n a k = f a k := by
  rw [cpA_at, if_neg (fun q => by omega)]
theorem cpk {m L N : Nat} (h : m + L ≤ N) (hN : N ≤ 100000) : ¬ (((0 : Int32) < 0 ∨ nJ m < 0 ∨ (OfNat.ofNat L : Int32) < 0) ∨ (L < 0 + L ∨ N < (nJ m).toNatClampNeg + L)) := by
  have h1 : ¬ nJ m < 0 := nJ_nn (by omega)
  have h2 : ¬ (OfNat.ofNat L : Int32) < 0 := nJ_nn (a := L) (by omega)
  rw [nJ_nat (by omega)]
  rintro ((h | h | h) | h | h)
  · exact absurd h (by decide)
  · exact h1 h
  · exact h2 h
  · omega
  · omega
theorem cpk' {m L N : Nat} (h : m + L ≤ N) (hN : N ≤ 100000) : ¬ ((nJ m < 0 ∨ (0 : Int32) < 0 ∨ (OfNat.ofNat L : Int32) < 0) ∨ (N < (nJ m).toNatClampNeg + L ∨ L < 0 + L)) := by
  have h1 : ¬ nJ m < 0 := nJ_nn (by omega)
  have h2 : ¬ (OfNat.ofNat L : Int32) < 0 := nJ_nn (a := L) (by omega)
  rw [nJ_nat (by omega)]
  rintro ((h | h | h) | h | h)
  · exact h1 h
  · exact absurd h (by decide)
  · exact h2 h
  · omega
  · omega
/-- a place of the walk -/
def inr (f k : Nat) : Prop := (f = 17 ∧ k < 4) ∨ (18 ≤ f ∧ f ≤ 21 ∧ k < 3) ∨ (22 ≤ f ∧ f ≤ 23 ∧ k < 6)
theorem inr_lt {f k : Nat} (h : inr f k) : ofc f + k < 28 := by
  rcases h with ⟨rfl, h⟩ | ⟨h1, h2, h⟩ | ⟨h1, h2, h⟩
  · show 0 + k < 28; omega
  · have : f = 18 ∨ f = 19 ∨ f = 20 ∨ f = 21 := by omega
    rcases this with rfl | rfl | rfl | rfl
    · show 4 + k < 28; omega
    · show 7 + k < 28; omega
    · show 10 + k < 28; omega
    · show 13 + k < 28; omega
  · have : f = 22 ∨ f = 23 := by omega
    rcases this with rfl | rfl
    · show 16 + k < 28; omega
    · show 22 + k < 28; omega
theorem cSave (d b : Nat) (hb : b + 28 ≤ 560) (I : IT) (J : JT) : Tr (ev d mWa_save 0 [vR (17, 0), vR (27, 0), vI (nJ b), vU] [] (hh I J)) (fun v I' J' => v = none ∧ (∀ f k, inr f k → I' (27, 0) (b + ofc f + k) = I (f, 0) k) ∧ (∀ a k, ¬ (a = (27, 0) ∧ b ≤ k ∧ k < b + 28) → I' a k = I a k) ∧ J' = J) := by
  rw [eWa_save_27_0, bnd (show b < 560 by omega) (by omega), nJ_nat (show b < 2147483648 by omega), eWa_save_27_5, show nJ b + 1 = nJ (b + 1) from nJ_add b 1, bnd (show b + 1 < 560 by omega) (by omega), nJ_nat (show b + 1 < 2147483648 by omega), eWa_save_27_12, show nJ b + 2 = nJ (b + 2) from nJ_add b 2, bnd (show b + 2 < 560 by omega) (by omega), nJ_nat (show b + 2 < 2147483648 by omega), eWa_save_27_19, show nJ b + 3 = nJ (b + 3) from nJ_add b 3, bnd (show b + 3 < 560 by omega) (by omega), nJ_nat (show b + 3 < 2147483648 by omega)]
  rw [eWa_save_27_26, show nJ b + 4 = nJ (b + 4) from nJ_add b 4, if_neg (cpk (L := 3) (show b + 4 + 3 ≤ 560 by omega) (by decide)), nJ_nat (show b + 4 < 2147483648 by omega), eWa_save_27_37, show nJ (b + 4) + 3 = nJ (b + 4 + 3) from nJ_add (b + 4) 3, if_neg (cpk (L := 3) (show b + 4 + 3 + 3 ≤ 560 by omega) (by decide)), nJ_nat (show b + 4 + 3 < 2147483648 by omega), eWa_save_27_46, show nJ (b + 4) + 6 = nJ (b + 4 + 6) from nJ_add (b + 4) 6, if_neg (cpk (L := 3) (show b + 4 + 6 + 3 ≤ 560 by omega) (by decide)), nJ_nat (show b + 4 + 6 < 2147483648 by omega), eWa_save_27_55, show nJ (b + 4) + 9 = nJ (b + 4 + 9) from nJ_add (b + 4) 9, if_neg (cpk (L := 3) (show b + 4 + 9 + 3 ≤ 560 by omega) (by decide)), nJ_nat (show b + 4 + 9 < 2147483648 by omega)]
  rw [eWa_save_27_64, show nJ (b + 4) + 12 = nJ (b + 4 + 12) from nJ_add (b + 4) 12, if_neg (cpk (L := 6) (show b + 4 + 12 + 6 ≤ 560 by omega) (by decide)), nJ_nat (show b + 4 + 12 < 2147483648 by omega), eWa_save_27_72, show nJ (b + 4 + 12) + 6 = nJ (b + 4 + 12 + 6) from nJ_add (b + 4 + 12) 6, if_neg (cpk (L := 6) (show b + 4 + 12 + 6 + 6 ≤ 560 by omega) (by decide)), nJ_nat (show b + 4 + 12 + 6 < 2147483648 by omega), eWa_save_27_81]
  have d27 : ∀ s : Nat, s ≠ 27 → ((s, 0) : Ad) ≠ (27, 0) := fun s h q => h (Prod.mk.inj q).1
  refine Tr.ret ⟨rfl, fun f k hf => ?_, fun a k ha => ?_, rfl⟩
  · rcases hf with ⟨rfl, h⟩ | ⟨h1, h2, h⟩ | ⟨h1, h2, h⟩
    · show cpA _ _ _ _ _ _ (27, 0) (b + 0 + k) = _
      rw [Nat.add_zero, cpA_miss (by omega), cpA_miss (by omega), cpA_miss (by omega), cpA_miss (by omega), cpA_miss (by omega), cpA_miss (by omega)]
      have e : k = 0 ∨ k = 1 ∨ k = 2 ∨ k = 3 := by omega
      rcases e with rfl | rfl | rfl | rfl
      · rw [up_neK _ _ (by omega), up_neK _ _ (by omega), up_neK _ _ (by omega)]
        exact up_same _ _ _ _
      · rw [up_neK _ _ (by omega), up_neK _ _ (by omega), up_same, up_ne _ _ _ _ (d27 17 (by decide))]
      · rw [up_neK _ _ (by omega), up_same, up_ne _ _ _ _ (d27 17 (by decide)), up_ne _ _ _ _ (d27 17 (by decide))]
      · rw [up_same, up_ne _ _ _ _ (d27 17 (by decide)), up_ne _ _ _ _ (d27 17 (by decide)), up_ne _ _ _ _ (d27 17 (by decide))]
    · have e : f = 18 ∨ f = 19 ∨ f = 20 ∨ f = 21 := by omega
      rcases e with rfl | rfl | rfl | rfl
      · show cpA _ _ _ _ _ _ (27, 0) (b + 4 + k) = _
        rw [cpA_miss (by omega), cpA_miss (by omega), cpA_miss (by omega), cpA_miss (by omega), cpA_miss (by omega), cpA_hit (by omega) (by omega), up_ne _ _ _ _ (d27 18 (by decide)), up_ne _ _ _ _ (d27 18 (by decide)), up_ne _ _ _ _ (d27 18 (by decide)), up_ne _ _ _ _ (d27 18 (by decide)), show b + 4 + k - (b + 4) = k by omega]
      · show cpA _ _ _ _ _ _ (27, 0) (b + 7 + k) = _
        rw [cpA_miss (by omega), cpA_miss (by omega), cpA_miss (by omega), cpA_miss (by omega), cpA_hit (by omega) (by omega), cpA_ne (d27 19 (by decide)), up_ne _ _ _ _ (d27 19 (by decide)), up_ne _ _ _ _ (d27 19 (by decide)), up_ne _ _ _ _ (d27 19 (by decide)), up_ne _ _ _ _ (d27 19 (by decide)), show b + 7 + k - (b + 4 + 3) = k by omega]
      · show cpA _ _ _ _ _ _ (27, 0) (b + 10 + k) = _
        rw [cpA_miss (by omega), cpA_miss (by omega), cpA_miss (by omega), cpA_hit (by omega) (by omega), cpA_ne (d27 20 (by decide)), cpA_ne (d27 20 (by decide)), up_ne _ _ _ _ (d27 20 (by decide)), up_ne _ _ _ _ (d27 20 (by decide)), up_ne _ _ _ _ (d27 20 (by decide)), up_ne _ _ _ _ (d27 20 (by decide)), show b + 10 + k - (b + 4 + 6) = k by omega]
      · show cpA _ _ _ _ _ _ (27, 0) (b + 13 + k) = _
        rw [cpA_miss (by omega), cpA_miss (by omega), cpA_hit (by omega) (by omega), cpA_ne (d27 21 (by decide)), cpA_ne (d27 21 (by decide)), cpA_ne (d27 21 (by decide)), up_ne _ _ _ _ (d27 21 (by decide)), up_ne _ _ _ _ (d27 21 (by decide)), up_ne _ _ _ _ (d27 21 (by decide)), up_ne _ _ _ _ (d27 21 (by decide)), show b + 13 + k - (b + 4 + 9) = k by omega]
    · have e : f = 22 ∨ f = 23 := by omega
      rcases e with rfl | rfl
      · show cpA _ _ _ _ _ _ (27, 0) (b + 16 + k) = _
        rw [cpA_miss (by omega), cpA_hit (by omega) (by omega), cpA_ne (d27 22 (by decide)), cpA_ne (d27 22 (by decide)), cpA_ne (d27 22 (by decide)), cpA_ne (d27 22 (by decide)), up_ne _ _ _ _ (d27 22 (by decide)), up_ne _ _ _ _ (d27 22 (by decide)), up_ne _ _ _ _ (d27 22 (by decide)), up_ne _ _ _ _ (d27 22 (by decide)), show b + 16 + k - (b + 4 + 12) = k by omega]
      · show cpA _ _ _ _ _ _ (27, 0) (b + 22 + k) = _
        rw [cpA_hit (by omega) (by omega), cpA_ne (d27 23 (by decide)), cpA_ne (d27 23 (by decide)), cpA_ne (d27 23 (by decide)), cpA_ne (d27 23 (by decide)), cpA_ne (d27 23 (by decide)), up_ne _ _ _ _ (d27 23 (by decide)), up_ne _ _ _ _ (d27 23 (by decide)), up_ne _ _ _ _ (d27 23 (by decide)), up_ne _ _ _ _ (d27 23 (by decide)), show b + 22 + k - (b + 4 + 12 + 6) = k by omega]
  · have h1 : ∀ dp n, b ≤ dp → dp + n ≤ b + 28 → ¬ (a = (27, 0) ∧ dp ≤ k ∧ k < dp + n) := fun dp n g1 g2 q => ha ⟨q.1, by omega, by omega⟩
    have h2 : ∀ i, i < 4 → ¬ (a = (27, 0) ∧ k = b + i) := fun i hi q => ha ⟨q.1, by omega, by omega⟩
    rw [cpA_at, if_neg (h1 _ _ (by omega) (by omega)), cpA_at, if_neg (h1 _ _ (by omega) (by omega)), cpA_at, if_neg (h1 _ _ (by omega) (by omega)), cpA_at, if_neg (h1 _ _ (by omega) (by omega)), cpA_at, if_neg (h1 _ _ (by omega) (by omega)), cpA_at, if_neg (h1 _ _ (by omega) (by omega)), up_at, if_neg (h2 3 (by decide)), up_at, if_neg (h2 2 (by decide)), up_at, if_neg (h2 1 (by decide)), up_at, if_neg (show ¬ (a = (27, 0) ∧ k = b) from h2 0 (by decide))]
theorem cLoad (d b : Nat) (hb : b + 28 ≤ 560) (I : IT) (J : JT) : Tr (ev d mWa_load 0 [vR (17, 0), vR (27, 0), vI (nJ b), vU] [] (hh I J)) (fun v I' J' => v = none ∧ (∀ f k, inr f k → I' (f, 0) k = I (27, 0) (b + ofc f + k)) ∧ FwC I I' 0 ∧ J' = J) := by
  rw [eWa_load_27_0, bnd (show b < 560 by omega) (by omega), nJ_nat (show b < 2147483648 by omega), eWa_load_27_5, show nJ b + 1 = nJ (b + 1) from nJ_add b 1, bnd (show b + 1 < 560 by omega) (by omega), nJ_nat (show b + 1 < 2147483648 by omega), eWa_load_27_12, show nJ b + 2 = nJ (b + 2) from nJ_add b 2, bnd (show b + 2 < 560 by omega) (by omega), nJ_nat (show b + 2 < 2147483648 by omega), eWa_load_27_19, show nJ b + 3 = nJ (b + 3) from nJ_add b 3, bnd (show b + 3 < 560 by omega) (by omega), nJ_nat (show b + 3 < 2147483648 by omega)]
  rw [eWa_load_27_26, show nJ b + 4 = nJ (b + 4) from nJ_add b 4, if_neg (cpk' (L := 3) (show b + 4 + 3 ≤ 560 by omega) (by decide)), nJ_nat (show b + 4 < 2147483648 by omega), eWa_load_27_37, show nJ (b + 4) + 3 = nJ (b + 4 + 3) from nJ_add (b + 4) 3, if_neg (cpk' (L := 3) (show b + 4 + 3 + 3 ≤ 560 by omega) (by decide)), nJ_nat (show b + 4 + 3 < 2147483648 by omega), eWa_load_27_46, show nJ (b + 4) + 6 = nJ (b + 4 + 6) from nJ_add (b + 4) 6, if_neg (cpk' (L := 3) (show b + 4 + 6 + 3 ≤ 560 by omega) (by decide)), nJ_nat (show b + 4 + 6 < 2147483648 by omega), eWa_load_27_55, show nJ (b + 4) + 9 = nJ (b + 4 + 9) from nJ_add (b + 4) 9, if_neg (cpk' (L := 3) (show b + 4 + 9 + 3 ≤ 560 by omega) (by decide)), nJ_nat (show b + 4 + 9 < 2147483648 by omega)]
  rw [eWa_load_27_64, show nJ (b + 4) + 12 = nJ (b + 4 + 12) from nJ_add (b + 4) 12, if_neg (cpk' (L := 6) (show b + 4 + 12 + 6 ≤ 560 by omega) (by decide)), nJ_nat (show b + 4 + 12 < 2147483648 by omega), eWa_load_27_72, show nJ (b + 4 + 12) + 6 = nJ (b + 4 + 12 + 6) from nJ_add (b + 4 + 12) 6, if_neg (cpk' (L := 6) (show b + 4 + 12 + 6 + 6 ≤ 560 by omega) (by decide)), nJ_nat (show b + 4 + 12 + 6 < 2147483648 by omega), eWa_load_27_81]
  refine Tr.ret ⟨rfl, fun f k hf => ?_, fun a ha => funext fun k => ?_, rfl⟩
  · rcases hf with ⟨rfl, h⟩ | ⟨h1, h2, h⟩ | ⟨h1, h2, h⟩
    · have e : k = 0 ∨ k = 1 ∨ k = 2 ∨ k = 3 := by omega
      rcases e with rfl | rfl | rfl | rfl <;> simp [cpA_at, up2, ofc]
    · have e : f = 18 ∨ f = 19 ∨ f = 20 ∨ f = 21 := by omega
      rcases e with rfl | rfl | rfl | rfl <;> simp [cpA_at, up2, ofc, h, Nat.add_assoc]
    · have e : f = 22 ∨ f = 23 := by omega
      rcases e with rfl | rfl <;> simp [cpA_at, up2, ofc, h, Nat.add_assoc]
  · have hne : ∀ s, 17 ≤ s → s ≤ 23 → a ≠ (s, 0) := fun s h1 h2 q => ha (by rw [q]; exact ⟨h1, h2, rfl⟩)
    rw [cpA_ne (hne 23 (by decide) (by decide)), cpA_ne (hne 22 (by decide) (by decide)), cpA_ne (hne 21 (by decide) (by decide)), cpA_ne (hne 20 (by decide) (by decide)), cpA_ne (hne 19 (by decide) (by decide)), cpA_ne (hne 18 (by decide) (by decide)), up_ne _ _ _ _ (hne 17 (by decide) (by decide)), up_ne _ _ _ _ (hne 17 (by decide) (by decide)), up_ne _ _ _ _ (hne 17 (by decide) (by decide)), up_ne _ _ _ _ (hne 17 (by decide) (by decide))]
