theorem tape_bt {I A : IT} (h : TpR I A) : ∃ n, BtC I (fun k => tn (I (2, 0) k)) n ∧ BtM A (fun k => tn (I (2, 0) k)) n := by
  obtain ⟨n, hn, e1, e2, hb⟩ := h
  refine ⟨n, ⟨hn, e1, fun k hk => ?_⟩, ⟨hn, e2, fun k hk => ?_⟩⟩
  · obtain ⟨b, b1, b2, b3⟩ := hb k hk
    exact tn_of b2 b1 (by omega)
  · obtain ⟨b, b1, b2, b3⟩ := hb k hk
    have := tn_of b2 b1 (by omega)
    refine ⟨this.1, ?_⟩
    dsimp only
    rw [← this.2, b2]
    exact b3
/-- the reference takes the draft over -/
theorem mCopyR {A : IT} {B : JT} {dy : Nat → Nat → Nat} (d : Nat) (hd : ∀ a b, dy a b < 10) (h63 : ∀ a b, a < 8 → b < 8 → A (63, 0) (8 * a + b) = nJ (if dy a b = 0 then 10000 else dy a b)) : ∃ A', (∀ k, k < 5 → A' (44, 0) k = A (61, 0) k) ∧ (∀ k, 5 ≤ k → k < 11 → A' (44, 0) k = 0) ∧ (∀ k, 11 ≤ k → A' (44, 0) k = A (44, 0) k) ∧ ((∀ k, k < 8 → A' (45, 0) k = A (62, 0) k) ∧ (∀ k, k < 64 → A' (46, 0) k = A (63, 0) k) ∧ (∀ a b, a < 8 → b < 8 → A' (47, 0) (8 * a + b) = nJ (dm (FL dy 8 a b))) ∧ (∀ k, k < 6 → A' (48, 0) k = A (64, 0) k ∧ A' (49, 0) k = A (65, 0) k ∧ A' (50, 0) k = A (66, 0) k) ∧ (∀ k, k < 3 → A' (60, 0) k = A (67, 0) k)) ∧ (∀ a k, ¬ (a = (44, 0) ∨ a = (45, 0) ∨ a = (46, 0) ∨ a = (47, 0) ∨ a = (48, 0) ∨ a = (49, 0) ∨ a = (50, 0) ∨ a = (60, 0)) → A' a k = A a k) ∧ ev (d + 1) mMo_roads 12 [vR (43, 0), vI 0] [] (hh A B) = bV (ev d mMo_begins 0 [vR (43, 0), vU] [] (hh (up2 A' (43, 0) 25 1) B)) (fun h8 => some (some (vI ((gI h8) (44, 0) 1)), hh (up2 (gI h8) (43, 0) 48 0) (gJ h8))) := by
  have go : ∀ j k A1, k + j = 11 → (∀ i, i < k → A1 (44, 0) i = if i < 5 then A (61, 0) i else 0) → (∀ a i, ¬ (a = (44, 0) ∧ i < 11) → A1 a i = A a i) → ∃ A2, (∀ i, i < 11 → A2 (44, 0) i = if i < 5 then A (61, 0) i else 0) ∧ (∀ a i, ¬ (a = (44, 0) ∧ i < 11) → A2 a i = A a i) ∧ ev (d + 1) mMo_roads 12 [vR (43, 0), vI (nJ k)] [] (hh A1 B) = ev (d + 1) mMo_roads 12 [vR (43, 0), vI (nJ 11)] [] (hh A2 B) := by
    intro j
    induction j with
    | zero =>
      intro k A1 hk h1 h2
      obtain rfl : k = 11 := by omega
      exact ⟨A1, h1, h2, rfl⟩
    | succ j ih =>
      intro k A1 hk h1 h2
      have key : ∀ x, x = (if k < 5 then A (61, 0) k else 0) → ∃ A2, (∀ i, i < 11 → A2 (44, 0) i = if i < 5 then A (61, 0) i else 0) ∧ (∀ a i, ¬ (a = (44, 0) ∧ i < 11) → A2 a i = A a i) ∧ ev (d + 1) mMo_roads 12 [vR (43, 0), vI (nJ (k + 1))] [] (hh (up2 A1 (44, 0) k x) B) = ev (d + 1) mMo_roads 12 [vR (43, 0), vI (nJ 11)] [] (hh A2 B) := fun x hx => by
        refine ih (k + 1) _ (by omega) (fun i hi => ?_) (fun a i ha => ?_)
        · by_cases e : i = k
          · rw [e, up_same, hx]
          · rw [up_neK _ _ e]
            exact h1 i (by omega)
        · rw [up_at, if_neg (fun z => ha ⟨z.1, by omega⟩)]
          exact h2 a i ha
      rw [eMo_roads_12, if_pos (lt_nL (b := 11) (show k < 11 by omega) (by decide)), nJ_succ]
      by_cases h5 : k < 5
      · rw [if_pos (lt_nL (b := 5) h5 (by decide)), bnd h5 (by omega), bnd (show k < 13 by omega) (by omega), nJ_nat (show k < 2147483648 by omega), h2 (61, 0) k (fun z => by cases z.1)]
        exact key _ (by rw [if_pos h5])
      · rw [if_neg (nlt_nL (b := 5) (by omega) (by omega)), bnd (show k < 13 by omega) (by omega), nJ_nat (show k < 2147483648 by omega)]
        exact key _ (by rw [if_neg h5])
  obtain ⟨A1, a1, a2, a3⟩ := go 11 0 A rfl (fun i hi => by omega) (fun _ _ _ => rfl)
  have a3 : ev (d + 1) mMo_roads 12 [vR (43, 0), vI 0] [] (hh A B) = _ := a3
  obtain ⟨A2, b1, b2, b3⟩ := cop_of (d := d) (s1 := 62) (s2 := 45) (L := 8) (A := A1) (B := B) (by decide) (fun A B => eMo_copies_62_45_0 d A B) (fun x2 A B => eMo_copies_62_45_2 d x2 A B) (by decide)
  obtain ⟨A3, c1, c2, c3⟩ := cop_of (d := d) (s1 := 63) (s2 := 46) (L := 64) (A := A2) (B := B) (by decide) (fun A B => eMo_copies_63_46_0 d A B) (fun x2 A B => eMo_copies_63_46_2 d x2 A B) (by decide)
  obtain ⟨A4, d1, d2, d3⟩ := cop_of (d := d) (s1 := 64) (s2 := 48) (L := 6) (A := A3) (B := B) (by decide) (fun A B => eMo_copies_64_48_0 d A B) (fun x2 A B => eMo_copies_64_48_2 d x2 A B) (by decide)
  obtain ⟨A5, e1, e2, e3⟩ := cop_of (d := d) (s1 := 65) (s2 := 49) (L := 6) (A := A4) (B := B) (by decide) (fun A B => eMo_copies_65_49_0 d A B) (fun x2 A B => eMo_copies_65_49_2 d x2 A B) (by decide)
  obtain ⟨A6, f1, f2, f3⟩ := cop_of (d := d) (s1 := 66) (s2 := 50) (L := 6) (A := A5) (B := B) (by decide) (fun A B => eMo_copies_66_50_0 d A B) (fun x2 A B => eMo_copies_66_50_2 d x2 A B) (by decide)
  obtain ⟨A7, g1, g2, g3⟩ := cop_of (d := d) (s1 := 67) (s2 := 60) (L := 3) (A := A6) (B := B) (by decide) (fun A B => eMo_copies_67_60_0 d A B) (fun x2 A B => eMo_copies_67_60_2 d x2 A B) (by decide)
  have n : ∀ {s s' : Nat} {k L : Nat}, s ≠ s' → ¬ (((s, 0) : Ad) = (s', 0) ∧ k < L) := fun h z => h (Prod.mk.inj z.1).1
  have r46 : ∀ k, k < 64 → A7 (46, 0) k = A (63, 0) k := fun k hk => by
    rw [g2 _ _ (n (by decide)), f2 _ _ (n (by decide)), e2 _ _ (n (by decide)), d2 _ _ (n (by decide)), c1 k hk, b2 _ _ (n (by decide)), a2 _ _ (n (by decide))]
  obtain ⟨A8, h1, h2, h3⟩ := mFar (A := A7) (B := B) d hd (fun a b ha hb => by rw [r46 _ (by omega)]; exact h63 a b ha hb)
  have h1' : ∀ s k, s ≠ 47 → A8 (s, 0) k = A7 (s, 0) k := fun s k hs => by rw [h1 (s, 0) (fun z => hs (Prod.mk.inj z).1)]
  refine ⟨A8, fun k hk => ?_, fun k k1 k2 => ?_, fun k k1 => ?_, ⟨fun k hk => ?_, fun k hk => ?_, h2, fun k hk => ⟨?_, ?_, ?_⟩, fun k hk => ?_⟩, fun a k ha => ?_, ?_⟩
  · rw [h1' 44 k (by decide), g2 _ _ (n (by decide)), f2 _ _ (n (by decide)), e2 _ _ (n (by decide)), d2 _ _ (n (by decide)), c2 _ _ (n (by decide)), b2 _ _ (n (by decide)), a1 k (by omega), if_pos hk]
  · rw [h1' 44 k (by decide), g2 _ _ (n (by decide)), f2 _ _ (n (by decide)), e2 _ _ (n (by decide)), d2 _ _ (n (by decide)), c2 _ _ (n (by decide)), b2 _ _ (n (by decide)), a1 k (by omega), if_neg (by omega)]
  · rw [h1' 44 k (by decide), g2 _ _ (n (by decide)), f2 _ _ (n (by decide)), e2 _ _ (n (by decide)), d2 _ _ (n (by decide)), c2 _ _ (n (by decide)), b2 _ _ (n (by decide)), a2 _ _ (fun z => by omega)]
  · rw [h1' 45 k (by decide), g2 _ _ (n (by decide)), f2 _ _ (n (by decide)), e2 _ _ (n (by decide)), d2 _ _ (n (by decide)), c2 _ _ (n (by decide)), b1 k hk, a2 _ _ (n (by decide))]
  · rw [h1' 46 k (by decide)]
    exact r46 k hk
  · rw [h1' 48 k (by decide), g2 _ _ (n (by decide)), f2 _ _ (n (by decide)), e2 _ _ (n (by decide)), d1 k hk, c2 _ _ (n (by decide)), b2 _ _ (n (by decide)), a2 _ _ (n (by decide))]
  · rw [h1' 49 k (by decide), g2 _ _ (n (by decide)), f2 _ _ (n (by decide)), e1 k hk, d2 _ _ (n (by decide)), c2 _ _ (n (by decide)), b2 _ _ (n (by decide)), a2 _ _ (n (by decide))]
  · rw [h1' 50 k (by decide), g2 _ _ (n (by decide)), f1 k hk, e2 _ _ (n (by decide)), d2 _ _ (n (by decide)), c2 _ _ (n (by decide)), b2 _ _ (n (by decide)), a2 _ _ (n (by decide))]
  · rw [h1' 60 k (by decide), g1 k hk, f2 _ _ (n (by decide)), e2 _ _ (n (by decide)), d2 _ _ (n (by decide)), c2 _ _ (n (by decide)), b2 _ _ (n (by decide)), a2 _ _ (n (by decide))]
  · rw [h1 a (fun z => ha (by rw [z]; decide)), g2 _ _ (fun z => ha (by rw [z.1]; decide)), f2 _ _ (fun z => ha (by rw [z.1]; decide)), e2 _ _ (fun z => ha (by rw [z.1]; decide)), d2 _ _ (fun z => ha (by rw [z.1]; decide)), c2 _ _ (fun z => ha (by rw [z.1]; decide)), b2 _ _ (fun z => ha (by rw [z.1]; decide)), a2 _ _ (fun z => ha (by rw [z.1]; decide))]
  · rw [a3, eMo_roads_12, if_neg (show ¬ nJ 11 < 11 by decide), b3, bV_some, gI_hh, gJ_hh, c3, bV_some, gI_hh, gJ_hh, d3, bV_some, gI_hh, gJ_hh, e3, bV_some, gI_hh, gJ_hh, f3, bV_some, gI_hh, gJ_hh, g3, bV_some, gI_hh, gJ_hh, h3, bV_some, gI_hh, gJ_hh]
