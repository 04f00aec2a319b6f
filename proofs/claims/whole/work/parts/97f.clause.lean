/-- one clause, on both sides -/
theorem rd_clause {I A : IT} {J B : JT} {by_ : Nat → Nat} {n tk i p T c : Nat} {dy : Nat → Nat → Nat} (d d' : Nat) (hc : c ≤ 40) (h : RdS I A by_ n tk i 0 p dy T) : ∃ I' A' i' f' p' dy' T', ev (d + 4) mRo_readClause 0 [vR (8, 5), vR (1, 0), vI (nJ c), vU] [] (hh I J) = some (none, hh I' J) ∧ ev (d' + 7) mMo_roadsClause 0 [vR (43, 0), vI (nJ c), vU, vU] [] (hh A B) = some (none, hh A' B) ∧ FrRC I I' ∧ FrRM A A' ∧ RdS I' A' by_ n tk i' f' p' dy' T' ∧ (c = 40 → f' ≠ 0) := by
  have h0 := h
  obtain ⟨hx, hcc, hr⟩ := h
  obtain ⟨z, S, N, W, hD⟩ := hr rfl
  obtain ⟨hT, hM, hi1, e6, e7, m27, m28, hp, hf, hs⟩ := hx
  have hs := hs rfl
  have e7 : I (1, 0) 7 = 0 := e7
  have m28 : A (43, 0) 28 = 0 := m28
  obtain ⟨t1, t2, t3, t4, t5, t6⟩ := hT.at hi1
  have hn := hM.1
  have y0 : FrY A (spp A (tpk by_ n i)) := FrY.u27
  have hM' : BtM (spp A (tpk by_ n i)) by_ n := spp_bt hM
  have mA28 : spp A (tpk by_ n i) (43, 0) 28 = 0 := by rw [spp_28]; exact m28
  have hD' := hD.fr (FrX.rf I) y0
  rw [eRo_readClause_0, cWordHere (d + 3) hT hi1 e6, bI_some, gI_hh, gJ_hh, eMo_roadsClause_0, mBlanks (d' + 5) hM _ p rfl (by omega) m27, bV_some, gI_hh, gJ_hh, hs, spp_27, show wlK 0 = wlR from rfl]
  -- a fault at the word
  have flt : ∀ k, k < 5 → ∃ I' A' i' f' p' dy' T', bV (ev (d + 3) mTe_fail 0 [vR (1, 0), vI (nJ k)] [] (hh I J)) (fun h2 => some (none, hh (gI h2) (gJ h2))) = some (none, hh I' J) ∧ bV (ev (d' + 6) mMo_fails 0 [vR (43, 0), vI (nJ k), vI (nJ (tpk by_ n i))] [] (hh (spp A (tpk by_ n i)) B)) (fun h2 => some (none, hh (gI h2) (gJ h2))) = some (none, hh A' B) ∧ FrRC I I' ∧ FrRM A A' ∧ RdS I' A' by_ n tk i' f' p' dy' T' ∧ (c = 40 → f' ≠ 0) := fun k hk => by
    rw [cFail0 (d + 3) k hT hi1 e6 e7, mFails0 (d' + 6) (tpk by_ n i) k mA28, bV_some, bV_some]
    exact ⟨up2 I (1, 0) 7 (nJ (1 + 8 * tpk by_ n i + k)), up2 (spp A (tpk by_ n i)) (43, 0) 28 (nJ (1 + 8 * tpk by_ n i + k)), i, 1 + 8 * tpk by_ n i + k, tpk by_ n i, dy, T, rfl, rfl, FrRC.of FrX.u7, FrRM.of (y0.tr FrY.u28), ⟨⟨FrX.u7.tks hT, FrY.u28.bt hM', hi1, (up_neK _ _ (by decide)).trans e6, up_same _ _ _ _, (up_neK _ _ (by decide)).trans (spp_27 _ _), up_same _ _ _ _, t2, by omega, fun q => by omega⟩, hcc.ext (up_ne _ _ _ _ (by decide)) (funext fun k => up_ne _ _ _ _ (by decide)), fun q => by omega⟩, fun _ => by omega⟩
  rcases rc_go (A := spp A (tpk by_ n i)) (B := B) (c := c) (d' + 6) hM' (spp_27 _ _) t2 with ⟨w1, w2⟩ | ⟨k, hk, w1, w3, w2⟩
  · rw [w1, w2, if_pos rfl]
    exact flt 0 (by decide)
  · rw [w1, w2, if_neg (nJ_nm1 (by omega))]
    unfold rcF
    obtain ⟨⟨d11, d12, d13, d14⟩, ⟨e1, e2, e3, e4, e5, e6', e8, e9⟩, -⟩ := id hD
    obtain ⟨-, ⟨g1, g2, g3, g4, g5, g6, g8, g9⟩, -⟩ := id hD'
    obtain ⟨v, v1, v2⟩ := mFull (A := spp A (tpk by_ n i)) (B := B) (d' + 6) hk hc g3 g6 g9 d11 d12 d13
    obtain ⟨u, u1, u2⟩ := cNoRoom (I := I) (J := J) (d + 3) hk e2 e5 e8 d11 d12 d13
    rw [v1, bI_some]
    simp only [gI_hh, gJ_hh]
    by_cases hful : fulF k c T S N
    · rw [if_neg (show ¬ v = 0 from fun q => (v2.mp q) hful)]
      have hfl : ∀ o, o = bV (ev (d + 3) mTe_fail 0 [vR (1, 0), vI 4] [] (hh I J)) (fun h2 => some (none, hh (gI h2) (gJ h2))) → ∃ I' A' i' f' p' dy' T', o = some (none, hh I' J) ∧ bV (ev (d' + 6) mMo_fails 0 [vR (43, 0), vI 4, vI (nJ (tpk by_ n i))] [] (hh (spp A (tpk by_ n i)) B)) (fun h7 => some (none, hh (gI h7) (gJ h7))) = some (none, hh A' B) ∧ FrRC I I' ∧ FrRM A A' ∧ RdS I' A' by_ n tk i' f' p' dy' T' ∧ (c = 40 → f' ≠ 0) := fun o ho => by
        rw [ho]
        exact flt 4 (by decide)
      refine hfl _ ?_
      by_cases h40 : c = 40
      · rw [if_neg (nlt_nL (b := 40) (by omega) (by omega))]
      · rw [if_pos (lt_nL (b := 40) (by omega) (by decide))]
        by_cases k0 : k = 0
        · rw [if_pos (show nJ k = 0 by rw [k0]; rfl)]
          by_cases c0 : c = 0
          · exfalso
            unfold fulF at hful
            omega
          · rw [if_neg (ne_nL (b := 0) c0 (by omega) (by decide)), if_neg (show ¬ (1 : Int32) = 0 by decide)]
        · rw [if_neg (ne_nL (b := 0) k0 (by omega) (by decide))]
          by_cases c0 : c = 0
          · rw [if_pos (show nJ c = 0 by rw [c0]; rfl), if_neg (show ¬ (0 : Int32) = 1 by decide)]
          · rw [if_neg (ne_nL (b := 0) c0 (by omega) (by decide)), if_pos trivial, u1, bI_some, if_neg (show ¬ u = 0 from fun q => (u2.mp q) (by unfold fulF at hful; omega))]
    · have hlt := std_run (txL_pos (2 + k) (by omega)) w3
      have hik : i < tk := by
        by_cases e : i = tk
        · have := t3.mpr e
          omega
        · omega
      have hlen := (txL_small (2 + k) (by omega)).1
      have hle := enk_le (by_ := by_) hlt.1
      rw [if_pos (v2.mpr hful)]
      -- behind the word
      have hx1 : TxR (up2 I (1, 0) 6 (nJ (i + 1))) (spp A (tpk by_ n i + (nthD txL (2 + k) []).length)) by_ n 0 tk (i + 1) 0 (tpk by_ n i + (nthD txL (2 + k) []).length) := ⟨FrX.u6.tks hT, spp_bt hM, hik, up_same _ _ _ _, (up_neK _ _ (by decide)).trans e7, spp_27 _ _, (spp_28 _ _).trans m28, by rw [← hlt.2.2]; exact hle, by decide, fun _ => by rw [← hlt.2.2]; rfl⟩
      have hD1 : DrR (up2 I (1, 0) 6 (nJ (i + 1))) (spp A (tpk by_ n i + (nthD txL (2 + k) []).length)) dy z T S N W := hD.fr FrX.u6 FrY.u27
      have hR1 : RdS (up2 I (1, 0) 6 (nJ (i + 1))) (spp A (tpk by_ n i + (nthD txL (2 + k) []).length)) by_ n tk (i + 1) 0 (tpk by_ n i + (nthD txL (2 + k) []).length) dy T := ⟨hx1, hD1.c, fun _ => ⟨z, S, N, W, hD1⟩⟩
      have hcl : ∀ (o o' : Option Rs), RdO (up2 I (1, 0) 6 (nJ (i + 1))) (spp A (tpk by_ n i + (nthD txL (2 + k) []).length)) J B by_ n tk o o' → ∃ I' A' i' f' p' dy' T', bV o (fun h5 => some (none, hh (gI h5) (gJ h5))) = some (none, hh I' J) ∧ bV o' (fun h6 => some (none, hh (gI h6) (gJ h6))) = some (none, hh A' B) ∧ FrRC I I' ∧ FrRM A A' ∧ RdS I' A' by_ n tk i' f' p' dy' T' ∧ (c = 40 → f' ≠ 0) := fun o o' ho => by
        obtain ⟨I', A', i', f', p', dy', T', q1, q2, q3, q4, q5⟩ := ho
        subst q1
        subst q2
        exact ⟨I', A', i', f', p', dy', T', rfl, rfl, (FrRC.of FrX.u6).tr q3, (FrRM.of FrY.u27).tr q4, q5, fun q => absurd (Or.inl q) hful⟩
      have hcls : ∀ (o : Option Rs), RdO (up2 I (1, 0) 6 (nJ (i + 1))) (spp A (tpk by_ n i + (nthD txL (2 + k) []).length)) J B by_ n tk (ev (d + 3) mRo_readNumbers 0 [vR (8, 5), vR (1, 0), vI (nJ k)] [] (hh (up2 I (1, 0) 6 (nJ (i + 1))) J)) (ev (d' + 6) mMo_roadsPart 0 [vR (43, 0), vI (nJ k), vU, vU] [] (hh (spp A (tpk by_ n i + (nthD txL (2 + k) []).length)) B)) → o = bV (ev (d + 3) mTe_skip 0 [vR (1, 0)] [] (hh I J)) (fun h4 => bV (ev (d + 3) mRo_readNumbers 0 [vR (8, 5), vR (1, 0), vI (nJ k)] [] (hh (gI h4) (gJ h4))) (fun h5 => some (none, hh (gI h5) (gJ h5)))) → ∃ I' A' i' f' p' dy' T', o = some (none, hh I' J) ∧ bV (ev (d' + 6) mMo_roadsPart 0 [vR (43, 0), vI (nJ k), vU, vU] [] (hh (up2 (spp A (tpk by_ n i)) (43, 0) 27 ((spp A (tpk by_ n i) (43, 0) 27) + nJ (nthD txL (2 + k) []).length)) B)) (fun h6 => some (none, hh (gI h6) (gJ h6))) = some (none, hh A' B) ∧ FrRC I I' ∧ FrRM A A' ∧ RdS I' A' by_ n tk i' f' p' dy' T' ∧ (c = 40 → f' ≠ 0) := fun o ho he => by
        have hsp : up2 (spp A (tpk by_ n i)) (43, 0) 27 ((spp A (tpk by_ n i) (43, 0) 27) + nJ (nthD txL (2 + k) []).length) = spp A (tpk by_ n i + (nthD txL (2 + k) []).length) := by
          rw [spp_27, nJ_add]
          exact spp_spp A _ _
        rw [he, hsp, cSkip (d + 3) e7 e6 hT.2.1 hik t1, bV_some]
        simp only [gI_hh, gJ_hh]
        exact hcl _ _ ho
      refine hcls _ ?_ ?_
      · have e2' : up2 I (1, 0) 6 (nJ (i + 1)) (8, 5) 2 = nJ T := hD1.2.1.2.1
        have m1' : spp A (tpk by_ n i + (nthD txL (2 + k) []).length) (61, 0) 1 = nJ T := hD1.2.1.2.2.1
        have hbv : ∀ {o o' : Option Rs}, RdO (up2 I (1, 0) 6 (nJ (i + 1))) (spp A (tpk by_ n i + (nthD txL (2 + k) []).length)) J B by_ n tk o o' → RdO (up2 I (1, 0) 6 (nJ (i + 1))) (spp A (tpk by_ n i + (nthD txL (2 + k) []).length)) J B by_ n tk (bV o (fun h2 => some (none, hh (gI h2) (gJ h2)))) o' := fun ho => by
          obtain ⟨I', A', i', f', p', dy', T', q1, q2, q3⟩ := ho
          subst q1
          exact ⟨I', A', i', f', p', dy', T', rfl, q2, q3⟩
        have hbv' : ∀ {o o' : Option Rs}, RdO (up2 I (1, 0) 6 (nJ (i + 1))) (spp A (tpk by_ n i + (nthD txL (2 + k) []).length)) J B by_ n tk o o' → RdO (up2 I (1, 0) 6 (nJ (i + 1))) (spp A (tpk by_ n i + (nthD txL (2 + k) []).length)) J B by_ n tk o (bV o' (fun h2 => some (none, hh (gI h2) (gJ h2)))) := fun ho => by
          obtain ⟨I', A', i', f', p', dy', T', q1, q2, q3⟩ := ho
          subst q2
          exact ⟨I', A', i', f', p', dy', T', q1, rfl, q3⟩
        rw [eRo_readNumbers_0, eMo_roadsPart_0]
        have hk6 : k = 0 ∨ k = 1 ∨ k = 2 ∨ k = 3 ∨ k = 4 ∨ k = 5 := by omega
        unfold fulF at hful
        rcases hk6 with rfl | rfl | rfl | rfl | rfl | rfl
        · rw [if_pos (show nJ 0 = 0 from rfl), if_pos (show nJ 0 = 0 from rfl)]
          exact rd_roads (d + 1) (d' + 1) hR1
        · rw [if_neg (show ¬ nJ 1 = 0 by decide), if_pos (show nJ 1 = 1 from rfl), if_neg (show ¬ nJ 1 = 0 by decide), if_pos (show nJ 1 = 1 from rfl), e2', m1', bnd (show T < 8 by omega) (by omega), nJ_nat (show T < 2147483648 by omega), nJ_succ]
          exact rd_town hR1 (by omega)
        · rw [if_neg (show ¬ nJ 2 = 0 by decide), if_neg (show ¬ nJ 2 = 1 by decide), if_pos (show nJ 2 = 2 from rfl), if_neg (show ¬ nJ 2 = 0 by decide), if_neg (show ¬ nJ 2 = 1 by decide), if_pos (show nJ 2 = 2 from rfl)]
          exact hbv (rd_shop d (d' + 1) hR1)
        · rw [if_neg (show ¬ nJ 3 = 0 by decide), if_neg (show ¬ nJ 3 = 1 by decide), if_neg (show ¬ nJ 3 = 2 by decide), if_pos (show nJ 3 = 3 from rfl), if_neg (show ¬ nJ 3 = 0 by decide), if_neg (show ¬ nJ 3 = 1 by decide), if_neg (show ¬ nJ 3 = 2 by decide), if_pos (show nJ 3 = 3 from rfl)]
          exact hbv (hbv' (rd_way d d' hR1))
        · rw [if_neg (show ¬ nJ 4 = 0 by decide), if_neg (show ¬ nJ 4 = 1 by decide), if_neg (show ¬ nJ 4 = 2 by decide), if_neg (show ¬ nJ 4 = 3 by decide), if_pos (show nJ 4 = 4 from rfl), if_neg (show ¬ nJ 4 = 0 by decide), if_neg (show ¬ nJ 4 = 1 by decide), if_neg (show ¬ nJ 4 = 2 by decide), if_neg (show ¬ nJ 4 = 3 by decide), if_pos (show nJ 4 = 4 from rfl)]
          refine hbv (hbv' (rd_sent d d' hR1 (fun z' S' N' W' hq => ?_)))
          have := hq.2.1.2.2.2.2.1
          rw [hD1.2.1.2.2.2.2.1, nJ_eq (by omega) (by have := hq.1.2.1; omega)] at this
          omega
        · rw [if_neg (show ¬ nJ 5 = 0 by decide), if_neg (show ¬ nJ 5 = 1 by decide), if_neg (show ¬ nJ 5 = 2 by decide), if_neg (show ¬ nJ 5 = 3 by decide), if_neg (show ¬ nJ 5 = 4 by decide), if_neg (show ¬ nJ 5 = 0 by decide), if_neg (show ¬ nJ 5 = 1 by decide), if_neg (show ¬ nJ 5 = 2 by decide), if_neg (show ¬ nJ 5 = 3 by decide), if_neg (show ¬ nJ 5 = 4 by decide)]
          refine hbv (rd_walker d (d' + 1) hR1 (fun z' S' N' W' hq => ?_))
          have := hq.2.1.2.2.2.2.2.2.1
          rw [hD1.2.1.2.2.2.2.2.2.1, nJ_eq (by omega) (by have := hq.1.2.2.1; omega)] at this
          omega
      · have hnf : ¬ ((k = 1 ∧ T = 8) ∨ (k = 4 ∧ S = 6) ∨ (k = 5 ∧ (N = 3 ∨ T = 0))) := fun q => hful (Or.inr (Or.inr q))
        have hu0 : u = 0 := u2.mpr hnf
        unfold fulF at hful
        rw [if_pos (lt_nL (b := 40) (show c < 40 by omega) (by decide))]
        by_cases k0 : k = 0
        · have c0 : c = 0 := by omega
          rw [if_pos (show nJ k = 0 by rw [k0]; rfl), if_pos (show nJ c = 0 by rw [c0]; rfl), if_pos trivial, u1, bI_some, if_pos hu0]
        · have c0 : c ≠ 0 := by omega
          rw [if_neg (ne_nL (b := 0) k0 (by omega) (by decide)), if_neg (ne_nL (b := 0) c0 (by omega) (by decide)), if_pos trivial, u1, bI_some, if_pos hu0]
