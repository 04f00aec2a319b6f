def FmS (A0 A : IT) (D : Nat → Nat → Nat) : Prop := (∀ a : Ad, a ≠ (47, 0) → A a = A0 a) ∧ ∀ x y, x < 8 → y < 8 → A (47, 0) (8 * x + y) = nJ (dm (D x y))
theorem FmS.ext {A0 A : IT} {D D' : Nat → Nat → Nat} (h : FmS A0 A D) (he : ∀ x y, x < 8 → y < 8 → D x y = D' x y) : FmS A0 A D' := ⟨h.1, fun x y hx hy => by rw [← he x y hx hy]; exact h.2 x y hx hy⟩
theorem FmS.up {A0 A : IT} {D : Nat → Nat → Nat} (h : FmS A0 A D) {a b : Nat} (ha : a < 8) (hb : b < 8) (v : Nat) {w : Int32} (hw : w = nJ (dm v)) : FmS A0 (up2 A (47, 0) (8 * a + b) w) (fun x y => if x = a ∧ y = b then v else D x y) := by
  refine ⟨fun c hc => (funext fun j => up_ne _ _ _ _ hc).trans (h.1 c hc), fun x y hx hy => ?_⟩
  by_cases e : x = a ∧ y = b
  · rw [e.1, e.2, up_same, hw]
    dsimp only
    rw [if_pos ⟨rfl, rfl⟩]
  · rw [up_neK _ _ (show 8 * x + y ≠ 8 * a + b by omega)]
    dsimp only
    rw [if_neg e]
    exact h.2 x y hx hy
/-- distances, by the reference -/
theorem mFar {A : IT} {B : JT} {dy : Nat → Nat → Nat} (d : Nat) (hd : ∀ a b, dy a b < 10) (h46 : ∀ a b, a < 8 → b < 8 → A (46, 0) (8 * a + b) = nJ (if dy a b = 0 then 10000 else dy a b)) : ∃ A', (∀ a : Ad, a ≠ (47, 0) → A' a = A a) ∧ (∀ a b, a < 8 → b < 8 → A' (47, 0) (8 * a + b) = nJ (dm (FL dy 8 a b))) ∧ ev d mMo_laysFar 0 [vR (43, 0), vU, vU, vU, vU] [] (hh A B) = some (none, hh A' B) := by
  have g1 : ∀ a, a < 8 → ∀ j b A1, b + j = 8 → (∀ c : Ad, c ≠ (47, 0) → A1 c = A c) → (∀ x y, x < 8 → y < 8 → (x < a ∨ (x = a ∧ y < b)) → A1 (47, 0) (8 * x + y) = nJ (dm (D0 dy x y))) → ∃ A2, (∀ c : Ad, c ≠ (47, 0) → A2 c = A c) ∧ (∀ x y, x < 8 → y < 8 → x < a + 1 → A2 (47, 0) (8 * x + y) = nJ (dm (D0 dy x y))) ∧ ev d mMo_laysFar 7 [vR (43, 0), vI (nJ a), vI (nJ b), vU, vU] [] (hh A1 B) = ev d mMo_laysFar 2 [vR (43, 0), vI (nJ (a + 1)), vU, vU, vU] [] (hh A2 B) := by
    intro a ha j
    induction j with
    | zero =>
      intro b A1 hb h1 h2
      obtain rfl : b = 8 := by omega
      exact ⟨A1, h1, fun x y hx hy hlt => h2 x y hx hy (by omega), by rw [eMo_laysFar_7, if_neg (show ¬ nJ 8 < 8 by decide), nJ_succ]⟩
    | succ j ih =>
      intro b A1 hb h1 h2
      have hb8 : b < 8 := by omega
      have e46 : A1 (46, 0) (8 * a + b) = nJ (if dy a b = 0 then 10000 else dy a b) := by
        rw [h1 (46, 0) (by decide)]
        exact h46 a b ha hb8
      have key : ∀ v, v = nJ (dm (D0 dy a b)) → ∃ A2, (∀ c : Ad, c ≠ (47, 0) → A2 c = A c) ∧ (∀ x y, x < 8 → y < 8 → x < a + 1 → A2 (47, 0) (8 * x + y) = nJ (dm (D0 dy x y))) ∧ ev d mMo_laysFar 7 [vR (43, 0), vI (nJ a), vI (nJ (b + 1)), vU, vU] [] (hh (up2 A1 (47, 0) (8 * a + b) v) B) = ev d mMo_laysFar 2 [vR (43, 0), vI (nJ (a + 1)), vU, vU, vU] [] (hh A2 B) := fun v hv => by
        refine ih (b + 1) _ (by omega) (fun c hc => (funext fun j => up_ne _ _ _ _ hc).trans (h1 c hc)) (fun x y hx hy hq => ?_)
        by_cases e : x = a ∧ y = b
        · rw [e.1, e.2, up_same, hv]
        · rw [up_neK _ _ (show 8 * x + y ≠ 8 * a + b by omega)]
          exact h2 x y hx hy (by omega)
      rw [eMo_laysFar_7, if_pos (lt_nL (b := 8) hb8 (by decide)), mul8', bnd (show 8 * a + b < 64 by omega) (by omega), bnd (show 8 * a + b < 64 by omega) (by omega), nJ_nat (show 8 * a + b < 2147483648 by omega), e46, nJ_succ]
      have hdd := hd a b
      by_cases e : a = b
      · rw [if_pos (show nJ a = nJ b by rw [e])]
        exact key _ (by unfold D0; rw [if_pos e]; rfl)
      · rw [if_neg (ne_nJ e (by omega) (by omega)), bnk (show 8 * a + b < 64 by omega) (by omega)]
        refine key _ ?_
        unfold D0 dm
        rw [if_neg e]
        by_cases h0 : dy a b = 0
        · rw [if_pos h0, if_pos h0, if_pos rfl]
        · rw [if_neg h0, if_neg h0, if_neg (by omega)]
  have g2 : ∀ j a A1, a + j = 8 → (∀ c : Ad, c ≠ (47, 0) → A1 c = A c) → (∀ x y, x < 8 → y < 8 → x < a → A1 (47, 0) (8 * x + y) = nJ (dm (D0 dy x y))) → ∃ A2, FmS A A2 (FL dy 0) ∧ ev d mMo_laysFar 2 [vR (43, 0), vI (nJ a), vU, vU, vU] [] (hh A1 B) = ev d mMo_laysFar 37 [vR (43, 0), vI 0, vU, vU, vU] [] (hh A2 B) := by
    intro j
    induction j with
    | zero =>
      intro a A1 ha h1 h2
      obtain rfl : a = 8 := by omega
      exact ⟨A1, ⟨h1, fun x y hx hy => h2 x y hx hy hx⟩, by rw [eMo_laysFar_2, if_neg (show ¬ nJ 8 < 8 by decide)]⟩
    | succ j ih =>
      intro a A1 ha h1 h2
      obtain ⟨A2, c1, c2, c3⟩ := g1 a (by omega) 8 0 A1 rfl h1 (fun x y hx hy hq => h2 x y hx hy (by omega))
      obtain ⟨A3, c4, c5⟩ := ih (a + 1) A2 (by omega) c1 c2
      refine ⟨A3, c4, ?_⟩
      rw [eMo_laysFar_2, if_pos (lt_nL (b := 8) (show a < 8 by omega) (by decide))]
      exact Eq.trans c3 c5
  obtain ⟨A2, s1, q1⟩ := g2 8 0 A rfl (fun _ _ => rfl) (fun x y _ _ h => by omega)
  have q1 : ev d mMo_laysFar 2 [vR (43, 0), vI 0, vU, vU, vU] [] (hh A B) = _ := q1
  have g3 : ∀ k, k < 8 → ∀ a, a < 8 → ∀ j b A1, b + j = 8 → FmS A A1 (Fm dy k a b) → ∃ A2, FmS A A2 (Fm dy k (a + 1) 0) ∧ ev d mMo_laysFar 47 [vR (43, 0), vI (nJ k), vI (nJ a), vI (nJ b), vU] [] (hh A1 B) = ev d mMo_laysFar 42 [vR (43, 0), vI (nJ k), vI (nJ (a + 1)), vU, vU] [] (hh A2 B) := by
    intro k hk a ha j
    induction j with
    | zero =>
      intro b A1 hb hs
      obtain rfl : b = 8 := by omega
      refine ⟨A1, hs.ext fun x y hx hy => ?_, by rw [eMo_laysFar_47, if_neg (show ¬ nJ 8 < 8 by decide), nJ_succ]⟩
      unfold Fm
      by_cases h1 : x < a ∨ (x = a ∧ y < 8)
      · rw [if_pos h1, if_pos (by omega)]
      · rw [if_neg h1, if_neg (by omega)]
    | succ j ih =>
      intro b A1 hb hs
      have hb8 : b < 8 := by omega
      obtain ⟨f1, f2, f3⟩ := Fm_at (dy := dy) (k := k) (a := a) (b := b)
      have v1 := hs.2 a k (by omega) (by omega)
      have v2 := hs.2 k b (by omega) (by omega)
      have v3 := hs.2 a b (by omega) (by omega)
      rw [f1] at v1
      rw [f2] at v2
      rw [f3] at v3
      have b1 := FL_bd hd (show k ≤ 8 by omega) a k
      have b2 := FL_bd hd (show k ≤ 8 by omega) k b
      have b3 := FL_bd hd (show k ≤ 8 by omega) a b
      have hmin : FL dy (k + 1) a b = min (FL dy k a b) (FL dy k a k + FL dy k k b) := rfl
      have l1 := dm_le (show FL dy k a k ≤ 1000000 by omega)
      have l2 := dm_le (show FL dy k k b ≤ 1000000 by omega)
      have l3 := dm_le (show FL dy k a b ≤ 1000000 by omega)
      have hcmp : (if dm (FL dy k a k) + dm (FL dy k k b) < dm (FL dy k a b) then dm (FL dy k a k) + dm (FL dy k k b) else dm (FL dy k a b)) = dm (FL dy (k + 1) a b) := by
        rw [hmin]
        unfold dm
        by_cases z1 : FL dy k a k = 1000000
        · rw [if_pos z1]
          by_cases z3 : FL dy k a b = 1000000
          · rw [if_pos z3, if_neg (by omega), if_pos (by omega)]
          · rw [if_neg z3, if_neg (by omega), if_neg (by omega)]
            omega
        · rw [if_neg z1]
          by_cases z2 : FL dy k k b = 1000000
          · rw [if_pos z2]
            by_cases z3 : FL dy k a b = 1000000
            · rw [if_pos z3, if_neg (by omega), if_pos (by omega)]
            · rw [if_neg z3, if_neg (by omega), if_neg (by omega)]
              omega
          · rw [if_neg z2]
            by_cases z3 : FL dy k a b = 1000000
            · rw [if_pos z3, if_pos (by omega), if_neg (by omega)]
              omega
            · rw [if_neg z3]
              by_cases z4 : FL dy k a k + FL dy k k b < FL dy k a b
              · rw [if_pos z4, if_neg (by omega)]
                omega
              · rw [if_neg z4, if_neg (by omega)]
                omega
      have key : ∀ v, v = nJ (dm (FL dy (k + 1) a b)) → ∃ A2, FmS A A2 (Fm dy k (a + 1) 0) ∧ ev d mMo_laysFar 47 [vR (43, 0), vI (nJ k), vI (nJ a), vI (nJ (b + 1)), vU] [] (hh (up2 A1 (47, 0) (8 * a + b) v) B) = ev d mMo_laysFar 42 [vR (43, 0), vI (nJ k), vI (nJ (a + 1)), vU, vU] [] (hh A2 B) := fun v hv =>
        ih (b + 1) _ (by omega) ((hs.up ha hb8 (FL dy (k + 1) a b) hv).ext fun x y _ _ => (Fm_step x y).symm)
      rw [eMo_laysFar_47, if_pos (lt_nL (b := 8) hb8 (by decide)), mul8', mul8', mul8', bnd (show 8 * a + k < 64 by omega) (by omega), bnd (show 8 * k + b < 64 by omega) (by omega), bnd (show 8 * a + b < 64 by omega) (by omega), nJ_nat (show 8 * a + k < 2147483648 by omega), nJ_nat (show 8 * k + b < 2147483648 by omega), nJ_nat (show 8 * a + b < 2147483648 by omega), v1, v2, v3, nJ_add, nJ_succ]
      simp only [bnk (show 8 * a + b < 64 by omega) (by omega)]
      by_cases hlt : dm (FL dy k a k) + dm (FL dy k k b) < dm (FL dy k a b)
      · rw [if_pos (lt_nJ hlt (by omega))]
        rw [if_pos hlt] at hcmp
        exact key _ (by rw [hcmp])
      · rw [if_neg (nlt_nJ (by omega) (by omega))]
        rw [if_neg hlt] at hcmp
        exact key _ (by rw [hcmp])
  have g4 : ∀ k, k < 8 → ∀ j a A1, a + j = 8 → FmS A A1 (Fm dy k a 0) → ∃ A2, FmS A A2 (FL dy (k + 1)) ∧ ev d mMo_laysFar 42 [vR (43, 0), vI (nJ k), vI (nJ a), vU, vU] [] (hh A1 B) = ev d mMo_laysFar 37 [vR (43, 0), vI (nJ (k + 1)), vU, vU, vU] [] (hh A2 B) := by
    intro k hk j
    induction j with
    | zero =>
      intro a A1 ha hs
      obtain rfl : a = 8 := by omega
      refine ⟨A1, hs.ext fun x y hx _ => ?_, by rw [eMo_laysFar_42, if_neg (show ¬ nJ 8 < 8 by decide), nJ_succ]⟩
      unfold Fm
      rw [if_pos (Or.inl hx)]
    | succ j ih =>
      intro a A1 ha hs
      obtain ⟨A2, c1, c2⟩ := g3 k hk a (by omega) 8 0 A1 rfl hs
      obtain ⟨A3, c3, c4⟩ := ih (a + 1) A2 (by omega) c1
      refine ⟨A3, c3, ?_⟩
      rw [eMo_laysFar_42, if_pos (lt_nL (b := 8) (show a < 8 by omega) (by decide))]
      exact Eq.trans c2 c4
  have g5 : ∀ j k A1, k + j = 8 → FmS A A1 (FL dy k) → ∃ A2, FmS A A2 (FL dy 8) ∧ ev d mMo_laysFar 37 [vR (43, 0), vI (nJ k), vU, vU, vU] [] (hh A1 B) = some (none, hh A2 B) := by
    intro j
    induction j with
    | zero =>
      intro k A1 hk hs
      obtain rfl : k = 8 := by omega
      exact ⟨A1, hs, by rw [eMo_laysFar_37, if_neg (show ¬ nJ 8 < 8 by decide)]⟩
    | succ j ih =>
      intro k A1 hk hs
      obtain ⟨A2, c1, c2⟩ := g4 k (by omega) 8 0 A1 rfl (hs.ext fun x y _ _ => by
        unfold Fm
        rw [if_neg (by omega)])
      obtain ⟨A3, c3, c4⟩ := ih (k + 1) A2 (by omega) c1
      refine ⟨A3, c3, ?_⟩
      rw [eMo_laysFar_37, if_pos (lt_nL (b := 8) (show k < 8 by omega) (by decide))]
      exact Eq.trans c2 c4
  obtain ⟨A4, s4, q4⟩ := g5 8 0 A2 rfl s1
  have q4 : ev d mMo_laysFar 37 [vR (43, 0), vI 0, vU, vU, vU] [] (hh A2 B) = _ := q4
  exact ⟨A4, s4.1, s4.2, by rw [eMo_laysFar_0, q1, q4]⟩
