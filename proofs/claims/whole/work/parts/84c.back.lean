theorem t_back {I A : IT} {J B : JT} (d : Nat) (x : Int32) (h : Rel I A) : Cal (ev (d + 4) mPx_back 0 [vR (0, 0), vI x] [] (hh I J)) (ev (d + 4) mMo_back 0 [vR (43, 0), vI x] [] (hh A B)) I A := by
  obtain ⟨q, htp, hru, hsc, him⟩ := id h
  rw [ePx_back_0, eMo_back_0, mIn _ x 0 3 0 3 rfl rfl, bI_some, bif2]
  by_cases x0 : x < 0
  · rw [if_pos x0, if_neg (fun z => z.1 x0)]
    exact Cal.ro rfl rfl h
  by_cases x4 : x < 4
  · obtain ⟨j, hj, rfl⟩ := inn_ex (n := 4) (by decide) ⟨x0, x4⟩
    have x3 : ¬ (3 : Int32) < nJ j := nlt_Ln (a := 3) (by omega) (by decide)
    obtain ⟨⟨g1, g2⟩, g3⟩ := him j hj
    rw [if_neg x0, if_pos x4, if_pos (And.intro x0 x3)]
    simp only [bnd hj (show 4 ≤ 100000 by decide), bnk hj (show 4 ≤ 100000 by decide), nJ_nat (show j < 2147483648 by omega), if_pos hj, gI_hh, gJ_hh, ← g1]
    by_cases hm0 : I (7, j + 1) 10 = 0
    · rw [if_pos hm0, if_pos hm0]
      exact Cal.ro rfl rfl h
    have hm1 := g2.resolve_left hm0
    have hscj := g3 hm1
    obtain ⟨T, S, N, -, hwk, -, ⟨et, et2⟩, -⟩ := id hscj
    have et : I (8, j + 1) 0 = A (89, 0) j := et
    have et2 : I (8, j + 1) 0 = 0 ∨ I (8, j + 1) 0 = 1 := et2
    rw [if_neg hm0, if_neg hm0, if_pos (show A (89, 0) j = 0 ∨ A (89, 0) j = 1 from et ▸ et2)]
    refine R2.lV ((cScene (d + 2) 0 (j + 1) (by omega) I J et2).mono fun v I1 J1 ⟨q1, ⟨c1, c2, _⟩, _⟩ => ⟨q1, ?_⟩)
    refine R2.rV ((mBackA (d + 2) j hj _ B).mono fun v A1 B1 ⟨q2, ⟨_, _, o3, o4⟩, _⟩ => ⟨q2, ?_⟩)
    have hr0 : ∀ r ∈ aRows, (44 ≤ r.1 ∧ r.1 ≤ 60) ∨ r.1 = 78 ∨ r.1 = 79 := by decide
    have b87 : ∀ i, up2 (up2 (up2 A (43, 0) 25 (A (89, 0) j)) (79, 0) 0 (up2 A (43, 0) 25 (A (89, 0) j) (43, 0) 48)) (43, 0) 48 (up2 A (43, 0) 25 (A (89, 0) j) (87, 0) (850 * j + 37)) (87, 0) i = A (87, 0) i := fun i => by
      rw [up_ne _ _ _ _ (by decide), up_ne _ _ _ _ (by decide), up_ne _ _ _ _ (by decide)]
    have hA1 : ∀ a i, (a.1 < 43 ∨ (a = (43, 0) ∧ i ≠ 25 ∧ i ≠ 48 ∧ i ≠ 61 ∧ i ≠ 62) ∨ (60 < a.1 ∧ a.1 ≠ 78 ∧ a.1 ≠ 79)) → A1 a i = A a i := fun a i ha => by
      have n1 : ∀ r ∈ aRows, ¬ (a = (r.1, 0) ∧ i < r.2.2) := fun r hr z => by
        have h0 := hr0 r hr
        obtain ⟨z1, z2⟩ := z
        rw [z1] at ha
        rcases ha with ha | ⟨e, -⟩ | ha
        · have ha : r.1 < 43 := ha
          omega
        · have e := (Prod.mk.inj e).1
          omega
        · have ha : 60 < r.1 ∧ r.1 ≠ 78 ∧ r.1 ≠ 79 := ha
          omega
      have n2 : ¬ (a = (43, 0) ∧ (i = 25 ∨ i = 48 ∨ i = 61 ∨ i = 62)) := fun z => by
        obtain ⟨z1, z2⟩ := z
        rw [z1] at ha
        rcases ha with ha | ⟨-, e⟩ | ha
        · exact absurd ha (by decide)
        · omega
        · exact absurd ha.1 (by decide)
      have n3 : a ≠ (79, 0) := fun z => by
        rw [z] at ha
        rcases ha with ha | ⟨e, -⟩ | ha
        · exact absurd ha (by decide)
        · cases e
        · exact absurd ha.2.2 (by decide)
      rw [o4 a i n1 (fun z => n2 ⟨z.1, by omega⟩), up_at, if_neg (fun z => n2 ⟨z.1, by omega⟩), up_ne _ _ _ _ n3, up_at, if_neg (fun z => n2 ⟨z.1, by omega⟩)]
    have h25 : A1 (43, 0) 25 = A (89, 0) j := by
      rw [o4 (43, 0) 25 (by decide) (fun z => by omega), up_neK _ _ (by decide), up_ne _ _ _ _ (by decide), up_same]
    have h48 : A1 (43, 0) 48 = A (87, 0) (850 * j + 37) := by
      rw [o4 (43, 0) 48 (by decide) (fun z => by omega), up_same, up_ne _ _ _ _ (by decide)]
    have hrow : ∀ f k, inT f k → f ≠ 43 → A1 (f, 0) k = A (87, 0) (850 * j + ofs f + k) := fun f k hk e43 => by
      obtain ⟨L, hL, hkL⟩ := inT_row hk e43
      refine (o3 _ hL k hkL).trans ?_
      exact b87 _
    have hsc1 : ScR (scC I1 0) (scM A1) q := by
      refine ScR_ext (fun f k hk => ?_) (fun f k hk => ?_) hscj
      · obtain ⟨r, hr, r1, r2, r3⟩ := hk
        unfold scC
        rw [← r1, c1 r hr k r2 r3]
      · by_cases e43 : f = 43
        · subst e43
          rcases hk with ⟨-, rfl | rfl⟩ | h' | h' | h' | h' | h' | h' | h' | h'
          · exact h25
          · show A1 (43, 0) 48 = im0 A (850 * j + 37)
            rw [h48, im0_in (by omega)]
          all_goals omega
        · obtain ⟨L, hL, hkL⟩ := inT_row hk e43
          have hlt := aRow_lt hL hkL
          rw [scM_in hk e43, hrow f k hk e43]
          show _ = (bif Nat.beq f 43 then _ else im0 A (850 * j + ofs f + k))
          rw [beq_f e43]
          show _ = im0 A (850 * j + ofs f + k)
          rw [im0_in (by omega)]
    have e17 : I1 (17, 0) 0 = A1 (44, 0) 5 := by
      obtain ⟨T', S', N', -, hwk', -⟩ := hsc1
      exact hwk'.1
    simp only [gI_hh, gJ_hh, e17]
    refine R2.ret ⟨⟨_, rfl, rfl⟩, Rel.scene (fun a k ha => ?_) (fun a k ha => ?_) h (fun q' hr' _ => ?_), fun a ha => c2 a (by omega), fun a ha => funext fun k => hA1 a k (by omega)⟩
    · rw [c2 a (fun z => ?_)]
      rcases ha with ⟨e, -⟩ | ⟨e, -⟩ | e | ha | ha
      · rw [e] at z; simp at z
      · rw [e] at z; simp at z
      · rw [e] at z; simp at z
      · omega
      · omega
    · refine hA1 a k ?_
      rcases ha with ⟨e, hk⟩ | ha | ha | ha | ha
      · exact Or.inr (Or.inl ⟨e, by omega, by omega, by omega, by omega⟩)
      · exact Or.inr (Or.inr (by omega))
      · exact Or.inr (Or.inr (by omega))
      · exact Or.inr (Or.inr (by omega))
      · exact Or.inr (Or.inr (by omega))
    · have hqq : q' = q := by
        have a1 := hr'.2.1
        rw [hru.2.1, nJ_eq (by have := hru.1; omega) (by have := hr'.1; omega)] at a1
        exact a1.symm
      rw [hqq]
      exact hsc1
  · have x3 : (3 : Int32) < x := by
      rw [i_lt] at x0 x4 ⊢
      have a1 : (3 : Int32).toInt = 3 := rfl
      have a2 : (4 : Int32).toInt = 4 := rfl
      omega
    rw [if_neg x0, if_neg x4, if_neg (fun z => z.2 x3)]
    exact Cal.ro rfl rfl h

