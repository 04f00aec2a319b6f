theorem t_image {I A : IT} {J B : JT} (d : Nat) (x : Int32) (h : Rel I A) : Cal (ev (d + 4) mPx_image 0 [vR (0, 0), vI x] [] (hh I J)) (ev (d + 4) mMo_image 0 [vR (43, 0), vI x] [] (hh A B)) I A := by
  obtain ⟨q, htp, hru, hsc, him⟩ := id h
  obtain ⟨T, S, N, -, hwk, -, ⟨et, et2⟩, -⟩ := id hsc
  have et : I (8, 0) 0 = A (43, 0) 25 := et
  have et2 : I (8, 0) 0 = 0 ∨ I (8, 0) 0 = 1 := et2
  rw [ePx_image_0, eMo_image_0, mIn _ x 0 3 0 3 rfl rfl, bI_some, bif2]
  by_cases x0 : x < 0
  · rw [if_pos x0, if_neg (fun z => z.1 x0)]
    exact Cal.ro rfl rfl h
  by_cases x4 : x < 4
  · obtain ⟨j, hj, rfl⟩ := inn_ex (n := 4) (by decide) ⟨x0, x4⟩
    have x3 : ¬ (3 : Int32) < nJ j := nlt_Ln (a := 3) (by omega) (by decide)
    rw [if_neg x0, if_pos x4, if_pos (And.intro x0 x3)]
    simp only [bnd hj (show 4 ≤ 100000 by decide), bnk hj (show 4 ≤ 100000 by decide), nJ_nat (show j < 2147483648 by omega), if_pos hj, gI_hh, gJ_hh, nar01 (Or.inr rfl), nar01 (show A (43, 0) 25 = 0 ∨ A (43, 0) 25 = 1 from et ▸ et2)]
    refine R2.lV ((cScene (d + 2) (j + 1) 0 (by omega) I J et2).mono fun v I1 J1 ⟨q1, ⟨c1, c2, c3⟩, _⟩ => ⟨q1, ?_⟩)
    refine R2.rV ((mOutA (d + 2) j hj _ B).mono fun v A1 B1 ⟨q2, ⟨_, _, o3, o4⟩, _⟩ => ⟨q2, ?_⟩)
    have hc0 : ∀ f k, I1 (f, 0) k = I (f, 0) k := fun f k => by rw [c2 (f, 0) (fun z => by have := z.2.2; exact absurd this (by show ¬ 0 = j + 1; omega))]
    have hA1 : ∀ a i, ¬ (a = (87, 0) ∧ 850 * j ≤ i ∧ i < 850 * j + 805) → ¬ (a = (43, 0) ∧ (i = 61 ∨ i = 62)) → a ≠ (79, 0) → ¬ (a = (88, 0) ∧ i = j) → ¬ (a = (89, 0) ∧ i = j) → A1 a i = A a i := fun a i a1 a2 a3 a4 a5 => by
      rw [o4 a i a1 a2, up_ne _ _ _ _ a3, up_at, if_neg a5, up_at, if_neg a4]
    have e5 : A1 (44, 0) 5 = A (44, 0) 5 := hA1 (44, 0) 5 (fun z => by cases z.1) (fun z => by cases z.1) (by decide) (fun z => by cases z.1) (fun z => by cases z.1)
    have e17 : I1 (17, 0) 0 = A (44, 0) 5 := (hc0 17 0).trans hwk.1
    simp only [gI_hh, gJ_hh, e5, e17]
    have hI2 : ∀ a k, ¬ (7 ≤ a.1 ∧ a.1 ≤ 27 ∧ a.2 = j + 1) → up2 I1 (7, j + 1) 10 1 a k = I a k := fun a k ha => by
      rw [up_ne _ _ _ _ (fun z => ha (by rw [z]; exact ⟨Nat.le_refl 7, (by show 7 ≤ 27; decide), rfl⟩)), c2 a ha]
    have hrel : Rel (up2 I1 (7, j + 1) 10 1) A1 := by
      refine ⟨q, ?_, ?_, ?_, ?_⟩
      · obtain ⟨n, hn, e1, e2, hb⟩ := htp
        refine ⟨n, hn, (hI2 (1, 0) 1 (by show ¬ (7 ≤ 1 ∧ _); omega)).trans e1, (hA1 (43, 0) 26 (fun z => by cases z.1) (fun z => by omega) (by decide) (fun z => by cases z.1) (fun z => by cases z.1)).trans e2, fun k hk => ?_⟩
        obtain ⟨b, b1, b2, b3⟩ := hb k hk
        exact ⟨b, b1, (hI2 (2, 0) k (by show ¬ (7 ≤ 2 ∧ _); omega)).trans b2, (hA1 (68, 0) k (fun z => by cases z.1) (fun z => by cases z.1) (by decide) (fun z => by cases z.1) (fun z => by cases z.1)).trans b3⟩
      · refine RusR_ext (fun a k ha => hI2 a k (fun z => ?_)) (fun a k ha => hA1 a k (fun z => ?_) (fun z => ?_) (fun z => ?_) (fun z => ?_) (fun z => ?_)) hru
        · rcases ha with ⟨e, -⟩ | ha
          · rw [e] at z; exact absurd z.1 (by decide)
          · omega
        · rcases ha with ⟨e, -⟩ | ha
          · rw [e] at z; cases z.1
          · rw [z.1] at ha; simp at ha
        · rcases ha with ⟨e, hk⟩ | ha
          · omega
          · rw [z.1] at ha; simp at ha
        · rcases ha with ⟨e, hk⟩ | ha
          · rw [e] at z; cases z
          · rw [z] at ha; simp at ha
        · rcases ha with ⟨e, hk⟩ | ha
          · rw [e] at z; cases z.1
          · rw [z.1] at ha; simp at ha
        · rcases ha with ⟨e, hk⟩ | ha
          · rw [e] at z; cases z.1
          · rw [z.1] at ha; simp at ha
      · rw [scC_ext (I := I) (fun a k a1 a2 a3 => hI2 a k (fun z => by omega)), scM_ext (A := A) (fun a k ha => hA1 a k (fun z => ?_) (fun z => ?_) (fun z => ?_) (fun z => ?_) (fun z => ?_))]
        · exact hsc
        · rcases ha with ⟨e, hk⟩ | ha | ha
          · rw [e] at z; cases z.1
          · rw [z.1] at ha; simp at ha
          · rw [z.1] at ha; simp at ha
        · rcases ha with ⟨e, hk⟩ | ha | ha
          · omega
          · rw [z.1] at ha; simp at ha
          · rw [z.1] at ha; simp at ha
        · rcases ha with ⟨e, hk⟩ | ha | ha
          · rw [e] at z; cases z
          · rw [z] at ha; simp at ha
          · rw [z] at ha; simp at ha
        · rcases ha with ⟨e, hk⟩ | ha | ha
          · rw [e] at z; cases z.1
          · rw [z.1] at ha; simp at ha
          · rw [z.1] at ha; simp at ha
        · rcases ha with ⟨e, hk⟩ | ha | ha
          · rw [e] at z; cases z.1
          · rw [z.1] at ha; simp at ha
          · rw [z.1] at ha; simp at ha
      · intro j' hj'
        by_cases e : j' = j
        · subst e
          have m88 : A1 (88, 0) j' = 1 := by
            rw [o4 (88, 0) j' (fun z => by cases z.1) (fun z => by cases z.1), up_ne _ _ _ _ (by decide), up_ne _ _ _ _ (by decide), up_same]
          have m89 : A1 (89, 0) j' = A (43, 0) 25 := by
            rw [o4 (89, 0) j' (fun z => by cases z.1) (fun z => by cases z.1), up_ne _ _ _ _ (by decide), up_same]
          rw [up_same, m88]
          refine ⟨⟨rfl, Or.inr rfl⟩, fun _ => ScR_ext (fun f k hk => ?_) (fun f k hk => ?_) hsc⟩
          · obtain ⟨r, hr, r1, r2, r3⟩ := hk
            have hr7 : ∀ r ∈ sRows, (7 ≤ r.1 ∧ r.1 ≤ 27) ∧ (r.1 = 7 → r.2.2 ≤ 10) := by decide
            have hb := hr7 r hr
            rw [r1] at hb
            unfold scC
            rw [up_at, if_neg (fun z => by have a1 := (Prod.mk.inj z.1).1; have := hb.2 a1; omega), ← r1, c1 r hr k r2 r3]
          · by_cases e43 : f = 43
            · subst e43
              rcases hk with ⟨-, rfl | rfl⟩ | h' | h' | h' | h' | h' | h' | h' | h'
              · exact m89
              · show im0 A1 (850 * j' + 37) = A (43, 0) 48
                rw [im0_in (by omega)]
                refine ((o3 (79, 37, 1) (by decide)).2 0 (by decide)).trans ?_
                rw [up_same, up_ne _ _ _ _ (by decide), up_ne _ _ _ _ (by decide)]
              all_goals omega
            · obtain ⟨L, hL, hkL⟩ := inT_row hk e43
              have hlt := aRow_lt hL hkL
              have h79 : ∀ r ∈ aRows, r.1 ≠ 88 ∧ r.1 ≠ 89 := by decide
              rw [scM_in hk e43]
              show (bif Nat.beq f 43 then _ else im0 A1 (850 * j' + ofs f + k)) = _
              rw [beq_f e43]
              show im0 A1 (850 * j' + ofs f + k) = _
              rw [im0_in (by omega)]
              refine ((o3 _ hL).2 k hkL).trans ?_
              have f79 : f ≠ 79 := by unfold inT at hk; omega
              rw [up_ne _ _ _ _ (fun z => f79 (Prod.mk.inj z).1), up_ne _ _ _ _ (fun z => (h79 _ hL).2 (Prod.mk.inj z).1), up_ne _ _ _ _ (fun z => (h79 _ hL).1 (Prod.mk.inj z).1)]
        · obtain ⟨g1, g2⟩ := him j' hj'
          have e1 : up2 I1 (7, j + 1) 10 1 (7, j' + 1) 10 = I (7, j' + 1) 10 := hI2 (7, j' + 1) 10 (fun z => e (by have : j' + 1 = j + 1 := z.2.2; omega))
          have e88 : A1 (88, 0) j' = A (88, 0) j' := hA1 (88, 0) j' (fun z => by cases z.1) (fun z => by cases z.1) (by decide) (fun z => e z.2) (fun z => by cases z.1)
          have e89 : A1 (89, 0) j' = A (89, 0) j' := hA1 (89, 0) j' (fun z => by cases z.1) (fun z => by cases z.1) (by decide) (fun z => by cases z.1) (fun z => e z.2)
          have e87 : ∀ i, i < 805 → A1 (87, 0) (850 * j' + i) = A (87, 0) (850 * j' + i) := fun i hi => hA1 (87, 0) (850 * j' + i) (fun z => by omega) (fun z => by cases z.1) (by decide) (fun z => by cases z.1) (fun z => by cases z.1)
          rw [e1, e88]
          refine ⟨g1, fun hmd => ScR_ext (fun f k hk => ?_) (fun f k hk => ?_) (g2 hmd)⟩
          · rw [scC_ext (I := I) (fun a k a1 a2 a3 => hI2 a k (fun z => by omega))]
          · by_cases e43 : f = 43
            · subst e43
              rcases hk with ⟨-, rfl | rfl⟩ | h' | h' | h' | h' | h' | h' | h' | h'
              · exact e89
              · show im0 A1 (850 * j' + 37) = im0 A (850 * j' + 37)
                rw [im0_in (by omega), im0_in (by omega), e87 37 (by decide)]
              all_goals omega
            · obtain ⟨L, hL, hkL⟩ := inT_row hk e43
              have hlt := aRow_lt hL hkL
              show (bif Nat.beq f 43 then _ else im0 A1 (850 * j' + ofs f + k)) = (bif Nat.beq f 43 then _ else im0 A (850 * j' + ofs f + k))
              rw [beq_f e43]
              show im0 A1 (850 * j' + ofs f + k) = im0 A (850 * j' + ofs f + k)
              rw [im0_in (by omega), im0_in (by omega), Nat.add_assoc, e87 _ hlt]
    refine R2.ret ⟨⟨_, rfl, rfl⟩, hrel, ?_, ?_⟩
    · intro a ha
      funext k
      rw [up_ne _ _ _ _ (fun z => by rw [z] at ha; simp at ha), c2 a (by omega)]
    · intro a ha
      funext k
      exact hA1 a k (fun z => by rw [z.1] at ha; simp at ha) (fun z => by rw [z.1] at ha; simp at ha) (fun z => by rw [z] at ha; simp at ha) (fun z => by rw [z.1] at ha; simp at ha) (fun z => by rw [z.1] at ha; simp at ha)
  · have x3 : (3 : Int32) < x := by
      rw [i_lt] at x0 x4 ⊢
      have a1 : (3 : Int32).toInt = 3 := rfl
      have a2 : (4 : Int32).toInt = 4 := rfl
      omega
    rw [if_neg x0, if_neg x4, if_neg (fun z => z.2 x3)]
    exact Cal.ro rfl rfl h
