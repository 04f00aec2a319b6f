/-! UNDO -/
theorem t_undo {I A : IT} {J B : JT} (d : Nat) (h : Rel I A) : Cal (ev (d + 8) mPx_undo 0 [vR (0, 0)] [] (hh I J)) (ev (d + 8) mMo_undo 0 [vR (43, 0)] [] (hh A B)) I A := by
  obtain ⟨q, T, S, N, hru, hro, hwk, hd, et, hf, hp⟩ := ScR.parts h
  have hS := hro.1.2.1
  have hN := hro.1.2.2.1
  obtain ⟨P, hP, e1, e2, hpa⟩ := hp
  have e1 : I (7, 0) 9 = nJ P := e1
  have e2 : A (43, 0) 48 = nJ P := e2
  rw [ePx_undo_0, eMo_undo_0, e1, e2]
  cases P with
  | zero =>
    rw [if_pos (show nJ 0 = 0 from rfl), if_pos (show nJ 0 = 0 from rfl)]
    exact Cal.ro rfl rfl h
  | succ P =>
    rw [if_neg (ne_nL (b := 0) (by omega) (by omega) (by decide)), if_neg (ne_nL (b := 0) (by omega) (by omega) (by decide)), eSc_unmake_0, e1, if_pos (lt_Ln (a := 0) (by omega) (by omega)), nJ_m1' (by omega), Nat.add_sub_cancel, up_same, show nJ P * 28 = nJ (28 * P) from (by rw [Nat.mul_comm]; exact nJ_mul P 28)]
    refine R2.lV (Tr.bV ((cLoad (d + 6) (28 * P) (by omega) (up2 I (7, 0) 9 (nJ P)) J).mono fun v I2 J2 ⟨q1, c1, c2, _⟩ => ⟨q1, Tr.ret ⟨rfl, ?_⟩⟩))
    refine R2.rV ((mTakeB (d + 5) P (up2 A (43, 0) 48 (nJ P)) B (by omega)).mono fun v A2 B2 ⟨q2, m1, m2, m3, _⟩ => ⟨q2, ?_⟩)
    have e79 : I2 (7, 0) 9 = nJ P := by
      rw [c2 (7, 0) (by decide)]
      exact up_same _ _ _ _
    have e48 : A2 (43, 0) 48 = nJ P := (m3 (43, 0) 48 (fun r hr z => by
      have : ∀ r ∈ pRows, r.1 ≠ 43 := by decide
      exact this r hr (Prod.mk.inj z.1).1.symm) (fun z => by cases z.1) (fun z => by omega)).trans (up_same _ _ _ _)
    simp only [gI_hh, gJ_hh, e79, e48]
    -- a past one shorter
    let A1 : IT := fun a k => if a = (43, 0) ∧ (k = 48 ∨ k = 49 ∨ k = 50) then A2 a k else A a k
    have hk1 : KpF I A (up2 I (7, 0) 9 (nJ P)) A1 := ⟨fun a k _ a2 => if_neg a2, fun a k _ a2 => if_neg a2⟩
    have hp1 : PaR (scC (up2 I (7, 0) 9 (nJ P)) 0) (scM A1) T S N := by
      refine ⟨P, by omega, by rw [scC_up (by omega), if_pos (And.intro rfl rfl)], ?_, fun j hj => past_wk hN hS (fun i hi => ?_) (fun i hi => ?_) (hpa j (by omega))⟩
      · show A1 (43, 0) 48 = nJ P
        exact (if_pos ⟨rfl, Or.inl rfl⟩).trans e48
      · rw [scC_up (by omega), if_neg (by omega)]
      · show A1 (78, 0) _ = A (78, 0) _
        exact if_neg (fun z => by cases z.1)
    have hA2 : ∀ a k, ¬ wCell a k → A2 a k = A1 a k := fun a k ha => by
      by_cases e : a = (43, 0) ∧ (k = 48 ∨ k = 49 ∨ k = 50)
      · exact (if_pos e).symm
      · refine (m3 a k (fun r hr z => ha ?_) (fun z => ha (Or.inl z)) (fun z => e ⟨z.1, by omega⟩)).trans ?_
        · have hw : ∀ r ∈ pRows, ((r.1 = 51 ∨ r.1 = 52) ∧ r.2.2 = 6) ∨ (53 ≤ r.1 ∧ r.1 ≤ 56 ∧ r.2.2 = 3) := by decide
          obtain ⟨z1, z2⟩ := z
          subst z1
          rcases hw r hr with ⟨b1 | b1, b2⟩ | ⟨b1, b2, b3⟩
          · exact Or.inr (Or.inl ⟨Or.inl (by rw [b1]), by omega⟩)
          · exact Or.inr (Or.inl ⟨Or.inr (by rw [b1]), by omega⟩)
          · exact Or.inr (Or.inr ⟨⟨b1, b2, rfl⟩, by omega⟩)
        · rw [up_at, if_neg (fun z => e ⟨z.1, Or.inl z.2⟩)]
          exact (if_neg e).symm
    have hw2 : WkR (scC I2 0) (scM A2) T S N 10 := by
      refine WkR_ext hN hS (fun f k h1 h2 k1 k2 k3 => ?_) (fun f k hf k1 k2 k3 => ?_) (hpa P (by omega)).1
      · have hi : inr f k := by
          by_cases e : f = 17
          · exact Or.inl ⟨e, k1 e⟩
          · by_cases e2 : f ≤ 21
            · exact Or.inr (Or.inl ⟨by omega, e2, k2 (by omega) e2⟩)
            · exact Or.inr (Or.inr ⟨by omega, h2, k3 (by omega)⟩)
        show (bif Nat.ble 7 f && Nat.ble f 27 then I2 (f, 0) k else 0) = I (27, 0) (28 * P + ofc f + k)
        rw [Nat.ble_eq_true_of_le (show 7 ≤ f by omega), Nat.ble_eq_true_of_le (show f ≤ 27 by omega)]
        refine (c1 f k hi).trans ?_
        exact up_ne _ _ _ _ (by decide)
      · rcases hf with rfl | hf
        · obtain ⟨a1, a2⟩ := k1 rfl
          show A2 (44, 0) k = A (78, 0) (29 * P + (k - 5))
          have := m2 (k - 5) (by omega)
          rw [show 5 + (k - 5) = k by omega, up_ne _ _ _ _ (by decide)] at this
          exact this
        · obtain ⟨r, hr, r1, r2⟩ := ofm_row hf
          have hl : k < r.2.2 := by
            have hw : ∀ r ∈ pRows, (51 ≤ r.1 ∧ r.1 ≤ 52 ∧ r.2.2 = 6) ∨ (53 ≤ r.1 ∧ r.2.2 = 3) := by decide
            rcases hw r hr with ⟨b1, b2, b3⟩ | ⟨b1, b3⟩
            · rw [b3]; exact k3 (by omega) (by omega)
            · rw [b3]; exact k2 (by omega)
          have := m1 r hr k hl
          rw [r1, r2, up_ne _ _ _ _ (by decide)] at this
          have hf43 : Nat.beq f 43 = false := beq_f (by omega)
          have hf44 : Nat.beq f 44 = false := beq_f (by omega)
          show (bif Nat.beq f 43 then _ else bif (Nat.ble 44 f && Nat.ble f 60) || Nat.beq f 78 then A2 (f, 0) k else 0) = (bif Nat.beq f 44 then _ else A (78, 0) (29 * P + ofm f + k))
          rw [hf44, hf43, Nat.ble_eq_true_of_le (show 44 ≤ f by omega), Nat.ble_eq_true_of_le (show f ≤ 60 by omega)]
          exact this
    have hd2 : DayOk (scC I2 0) := by
      obtain ⟨z, hz, ez⟩ := (hpa P (by omega)).2
      refine ⟨z, hz, (c1 17 0 (Or.inl ⟨rfl, by decide⟩)).trans ?_⟩
      rw [up_ne _ _ _ _ (by decide)]
      exact ez
    exact R2.ret ⟨⟨_, rfl, rfl⟩, act_Rel h hro hk1 hp1 c2 hA2 hw2 hd2⟩
