/-- a fact with no bracket and no word in front -/
theorem tk_cmp {I A : IT} {J B : JT} {by_ : Nat → Nat} {n tk i p r sz pc : Nat} (d d' : Nat) (h : RlS I A by_ n tk i p r sz sz pc) (hb : 3 * sz ≤ 14 * pc) : RlO r 63 0 I A J B by_ n tk (bV (ev (d + 2) mRu_readSum 0 [vR (37, r), vR (1, 0), vU, vU, vU, vU] [] (hh I J)) (fun h1 => bI (ev (d + 2) mTe_signHere 0 [vR (1, 0)] [] (hh (gI h1) (gJ h1))) (fun r2 h2 => bV (ev (d + 2) mRu_countSign 0 [vR (37, r), vR (1, 0), vI r2] [] (hh (gI h2) (gJ h2))) (fun h3 => bV (ev (d + 2) mRu_readSum 0 [vR (37, r), vR (1, 0), vU, vU, vU, vU] [] (hh (gI h3) (gJ h3))) (fun h4 => bV (ev (d + 2) mRu_put 0 [vR (37, r), vI r2] [] (hh (gI h4) (gJ h4))) (fun h5 => some (none, hh (gI h5) (gJ h5)))))))) (ev (d' + 8) mMo_compared 0 [vR (43, 0), vU, vU] [] (hh A B)) (fun I' A' => ∃ i' p' sz' pc', RlS I' A' by_ n tk i' p' r sz' sz' pc' ∧ i < i' ∧ SgR (I' (38, r)) sz sz' 4 ZO ∧ (∀ j, j < sz → I' (38, r) j = I (38, r) j) ∧ 3 * sz' + 33 + 14 * pc ≤ 14 * pc' + 3 * sz ∧ sz ≤ sz') := by
  obtain ⟨I1, A1, u1, u2, u3, u4, u5⟩ := tk_sum (J := J) (B := B) d d' h hb
  rw [u1, bV_some, gI_hh, gJ_hh, cmpK_0, u2, bV_some, gI_hh, gJ_hh]
  rcases u5 with ⟨f, f1, f2, f3, f4⟩ | ⟨i1, sz1, pc1, g1, g2, g3, g4, g5, g6⟩
  · -- a fault in the first sum
    have f3' := f3
    obtain ⟨j, sj, pj, q1, q2, q3, -⟩ := f3
    obtain ⟨I2, a1, a2, a3⟩ := cCmpF (J := J) d (csF by_ n tk j) f1 f2 (by decide) f3'
    obtain ⟨A2, b1, b2, b3⟩ := mCmpF (B := B) (r := r) d' f1 f2 (by decide) f4
    rw [cSignHere (d + 2) q1 q2 q3, bI_some, gI_hh, gJ_hh, a1, b1]
    exact RlO.flt rfl rfl (u3.tr a2) (u4.tr b2) f1 f2 a3 b3
  · have g1' := g1
    obtain ⟨⟨t1, t2, t3, t4, t5, t6, t7, t8, t9, t10⟩, hr, ⟨c1, c2, c3, c4, c5, c6⟩, ⟨b1, b2, b3⟩, hcd⟩ := g1'
    have t5 : I1 (1, 0) 7 = 0 := t5
    have t7 : A1 (43, 0) 28 = 0 := t7
    have htk := (t1.at t3).1
    have hle := (t1.at t3).2.1
    have hn := t2.1
    rw [cSignHere (d + 2) t1 t3 t4, bI_some, gI_hh, gJ_hh]
    rcases cmp_cases t1 t3 with ⟨⟨n1, n2, n3, n4, n5⟩, nn⟩ | ⟨b, c, e, hlt, hby, hcs, hen, hbc, he, hi⟩
    · -- no sign
      obtain ⟨I2, A2, y1, y2, y3, y4, y5, y6, y7⟩ := rl_fault (J := J) (B := B) (d + 1) (d' + 7) 0 61 g1 (by decide) (FrY.rf A1) t6 t8 t7 (by omega)
      have y1 : ev (d + 1) mTe_fail 0 [vR (1, 0), vI 0] [] (hh I1 J) = some (none, hh I2 J) := y1
      have y2 : ev (d' + 7) mMo_fails 0 [vR (43, 0), vI 0, vI (nJ (tpk by_ n i1))] [] (hh A1 B) = some (none, hh A2 B) := y2
      have hct : ev (d + 2) mRu_countSign 0 [vR (37, r), vR (1, 0), vI (csF by_ n tk i1)] [] (hh I1 J) = some (none, hh (up2 I2 (37, r) 5 (I2 (37, r) 5 + 1)) J) := by
        have hno : ¬ (csF by_ n tk i1 = 60 ∨ csF by_ n tk i1 = 61 ∨ csF by_ n tk i1 = 62 ∨ csF by_ n tk i1 = 316 ∨ csF by_ n tk i1 = 318) := fun z => by
          rcases z with z | z | z | z | z
          · exact n1 z
          · exact n2 z
          · exact n3 z
          · exact n4 z
          · exact n5 z
        rw [eRu_countSign_0, cCompares, bI_some, bif2, if_neg hno, gI_hh, gJ_hh, y1, bV_some, gI_hh, gJ_hh, cSkipN (d + 1) (y6.pc.n0 y5.1 y5.2), bV_some, gI_hh, gJ_hh]
      obtain ⟨I3, k1, k2, k3⟩ := cSumF (J := J) d y5.1 y5.2 (by decide) y6.pc
      obtain ⟨I4, m1, m2, m3⟩ := k3.put (J := J) (d + 2) (csF by_ n tk i1)
      rw [hct, bV_some, gI_hh, gJ_hh, k1, bV_some, gI_hh, gJ_hh, m3, bV_some, gI_hh, gJ_hh, mCmpNo (d' + 7) t2 t6 hle nn, y2, bV_some, gI_hh, gJ_hh]
      exact RlO.flt rfl rfl ((((u3.tr (FrL.x y3)).tr FrL.u5).tr k2).tr m2) (u4.tr (FrN.y y4)) y5.1 y5.2 m1 (y7.K (by decide))
    · have hcc : csF by_ n tk i1 = 60 ∨ csF by_ n tk i1 = 61 ∨ csF by_ n tk i1 = 62 ∨ csF by_ n tk i1 = 316 ∨ csF by_ n tk i1 = 318 := by
        rw [hcs]
        rcases hbc with ⟨-, rfl, -⟩ | ⟨-, rfl, -⟩ | ⟨-, rfl, -⟩ | ⟨-, rfl, -⟩ | ⟨-, rfl, -⟩ <;> decide
      have hb3 : b = 60 ∨ b = 61 ∨ b = 62 := by omega
      have hg := enk_le (by_ := by_) hlt
      rw [mCmpGo (d' + 6) t2 t6 hlt hby hb3 c5 (by omega) he, mCmp40 (d' + 7) (spp_27 _ _) hbc, spp_spp, ← hen]
      by_cases hp : pc1 = 60
      · -- one part too many
        obtain ⟨I2, A2, y1, y2, y3, y4, y5, y6, y7⟩ := rl_fault (J := J) (B := B) (d + 1) (d' + 7) 3 61 g1 (by decide) (FrY.rf A1) t6 t8 t7 (by omega)
        have y1 : ev (d + 1) mTe_fail 0 [vR (1, 0), vI 3] [] (hh I1 J) = some (none, hh I2 J) := y1
        rw [mFails0 (d' + 7) (tpk by_ n i1) 3 t7] at y2
        have y2 : up2 A1 (43, 0) 28 (nJ (1 + 8 * tpk by_ n i1 + 3)) = A2 := by
          have := congrArg (fun o => match o with
            | some (_, h) => gI h
            | none => A1) y2
          exact this
        have hct : ev (d + 2) mRu_countSign 0 [vR (37, r), vR (1, 0), vI (csF by_ n tk i1)] [] (hh I1 J) = some (none, hh (up2 I2 (37, r) 5 (I2 (37, r) 5 + 1)) J) := by
          rw [eRu_countSign_0, cCompares, bI_some, bif2, if_pos hcc]
          simp only [gI_hh, gJ_hh]
          rw [c2, if_neg (nlt_nL (b := 60) (by omega) (by omega)), y1, bV_some, gI_hh, gJ_hh, cSkipN (d + 1) (y6.pc.n0 y5.1 y5.2), bV_some, gI_hh, gJ_hh]
        obtain ⟨I3, k1, k2, k3⟩ := cSumF (J := J) d y5.1 y5.2 (by decide) y6.pc
        obtain ⟨I4, m1, m2, m3⟩ := k3.put (J := J) (d + 2) (csF by_ n tk i1)
        have hcn : cntF A1 pc1 (tpk by_ n i1) = up2 A2 (43, 0) 33 (nJ (pc1 + 1)) := by
          unfold cntF
          rw [if_pos ⟨hp, t7⟩, y2]
        have hF : FlM (spp (cntF A1 pc1 (tpk by_ n i1)) (enk by_ n (tpk by_ n i1))) by_ n (1 + 8 * tpk by_ n i1 + 3) 62 := by
          rw [hcn]
          exact (y7.up (by omega)).p hg
        obtain ⟨A3, s1, s2, s3⟩ := mSumF (B := B) (r := r) d' y5.1 y5.2 (by decide) hF
        rw [hct, bV_some, gI_hh, gJ_hh, k1, bV_some, gI_hh, gJ_hh, m3, bV_some, gI_hh, gJ_hh, s1, bV_some, gI_hh, gJ_hh, mEntryN (d' + 7) _ _ (s3.n0 y5.1 y5.2), bV_some, gI_hh, gJ_hh]
        exact RlO.flt rfl rfl ((((u3.tr (FrL.x y3)).tr FrL.u5).tr k2).tr m2) (u4.tr (FrN.tr (FrN.tr mCnt_fr FrN.u27) s2)) y5.1 y5.2 m1 s3
      · -- counted
        have hcn : cntF A1 pc1 (tpk by_ n i1) = up2 A1 (43, 0) 33 (nJ (pc1 + 1)) := by
          unfold cntF
          rw [if_neg (fun z => hp z.1)]
        have hS : RlS (up2 (up2 I1 (37, r) 5 (nJ (pc1 + 1))) (1, 0) 6 (nJ (i1 + 1))) (spp (cntF A1 pc1 (tpk by_ n i1)) (enk by_ n (tpk by_ n i1))) by_ n tk (i1 + 1) (enk by_ n (tpk by_ n i1)) r sz1 sz1 (pc1 + 1) := by
          rw [hcn]
          refine RlS.skip (I := up2 I1 (37, r) 5 (nJ (pc1 + 1))) (A := up2 A1 (43, 0) 33 (nJ (pc1 + 1))) (p := tpk by_ n i1) ⟨⟨FrL.u5.tks t1, (FrN.u33 (r := r)).bt t2, t3, ?_, ?_, (up_neK _ _ (by decide)).trans t6, (up_neK _ _ (by decide)).trans t7, t8, t9, t10⟩, hr, ⟨(up_neK _ _ (by decide)).trans c1, up_same _ _ _ _, (up_neK _ _ (by decide)).trans c3, (up_neK _ _ (by decide)).trans c4, up_same _ _ _ _, (up_neK _ _ (by decide)).trans c6⟩, ⟨b1, b2, by omega⟩, fun j hj => ?_⟩ hi hg rfl
          · rw [up_ne _ _ _ _ (fun z => by have := (Prod.mk.inj z).1; omega)]; exact t4
          · rw [up_ne _ _ _ _ (fun z => by have := (Prod.mk.inj z).1; omega)]; exact t5
          · rw [up_ne _ _ _ _ (fun z => by have := (Prod.mk.inj z).1; omega), up_ne _ _ _ _ (by decide), up_ne _ _ _ _ (by decide)]; exact hcd j hj
        have hct : ev (d + 2) mRu_countSign 0 [vR (37, r), vR (1, 0), vI (csF by_ n tk i1)] [] (hh I1 J) = some (none, hh (up2 (up2 I1 (37, r) 5 (nJ (pc1 + 1))) (1, 0) 6 (nJ (i1 + 1))) J) := by
          rw [eRu_countSign_0, cCompares, bI_some, bif2, if_pos hcc]
          simp only [gI_hh, gJ_hh]
          rw [c2, if_pos (lt_nL (b := 60) (by omega) (by decide)), nJ_succ, cSkip (d + 1) (by rw [up_ne _ _ _ _ (fun z => by have := (Prod.mk.inj z).1; omega)]; exact t5) (by rw [up_ne _ _ _ _ (fun z => by have := (Prod.mk.inj z).1; omega)]; exact t4) (by rw [up_ne _ _ _ _ (fun z => by have := (Prod.mk.inj z).1; omega)]; exact t1.2.1) hi htk, bV_some, gI_hh, gJ_hh]
        have hfx : FrL r I (up2 (up2 I1 (37, r) 5 (nJ (pc1 + 1))) (1, 0) 6 (nJ (i1 + 1))) := (u3.tr FrL.u5).tr (FrL.x FrX.u6)
        have hfy : FrN r A (spp (cntF A1 pc1 (tpk by_ n i1)) (enk by_ n (tpk by_ n i1))) := u4.tr (FrN.tr mCnt_fr FrN.u27)
        obtain ⟨I3, A3, v1, v2, v3, v4, v5⟩ := tk_sum (J := J) (B := B) d d' hS (by omega)
        rw [hct, bV_some, gI_hh, gJ_hh, v1, bV_some, gI_hh, gJ_hh, v2, bV_some, gI_hh, gJ_hh]
        rcases v5 with ⟨f, f1, f2, f3, f4⟩ | ⟨i2, sz2, pc2, k1, k2, k3, k4, k5, k6⟩
        · obtain ⟨I4, m1, m2, m3⟩ := f3.put (J := J) (d + 2) (csF by_ n tk i1)
          rw [m3, bV_some, gI_hh, gJ_hh, mEntryN (d' + 7) _ _ (f4.n0 f1 f2), bV_some, gI_hh, gJ_hh]
          exact RlO.flt rfl rfl ((hfx.tr v3).tr m2) (hfy.tr v4) f1 f2 (m1.K (by decide)) (f4.K (by decide))
        · have k1' := k1
          obtain ⟨⟨s1, s2, s3, s4, s5, s6, s7, s8, s9, s10⟩, -, ⟨e1, e2, e3, e4, e5, e6⟩, ⟨w1, w2, w3⟩, -⟩ := k1'
          have hcdc : CdR (csF by_ n tk i1) (nJ (kkF b e)) 0 := by
            rw [hcs]
            rcases hbc with ⟨rfl, rfl, rfl⟩ | ⟨rfl, rfl, rfl⟩ | ⟨rfl, rfl, rfl⟩ | ⟨rfl, rfl, rfl⟩ | ⟨rfl, rfl, rfl⟩ <;> (unfold CdR; decide)
          have hcx : csF by_ n tk i1 = 60 ∨ csF by_ n tk i1 = 316 ∨ csF by_ n tk i1 = 61 ∨ csF by_ n tk i1 = 318 ∨ csF by_ n tk i1 = 62 := by
            rcases hcc with z | z | z | z | z
            · exact Or.inl z
            · exact Or.inr (Or.inr (Or.inl z))
            · exact Or.inr (Or.inr (Or.inr (Or.inr z)))
            · exact Or.inr (Or.inl z)
            · exact Or.inr (Or.inr (Or.inr (Or.inl z)))
          have cod1 : ∀ j, j < sz1 → I3 (38, r) j = I1 (38, r) j := fun j hj => by
            rw [k4 j hj, up_ne _ _ _ _ (fun z => by have := (Prod.mk.inj z).1; omega), up_ne _ _ _ _ (fun z => by have := (Prod.mk.inj z).1; omega)]
          rw [cPut (d + 2) _ e1 (by omega), bV_some, gI_hh, gJ_hh, mEntry (d' + 7) _ _ s7 e3 e4 hr (by omega), bV_some, gI_hh, gJ_hh]
          refine ⟨_, _, rfl, rfl, (hfx.tr v3).tr putF_fr, (hfy.tr v4).tr (entF_fr (by omega)), Or.inr ⟨i2, tpk by_ n i2, sz2 + 1, pc2, k1.both hcdc (by omega), by omega, ?_, fun j hj => ?_, by omega, by omega⟩⟩
          · refine sg_bin (P1 := fun _ => True) (P2 := fun _ => True) (h1 := 3) (h2 := 3) (b := sz1) (c := sz2) (x := csF by_ n tk i1) (g3.ext (fun j _ hj => ?_)) (k3.ext (fun j _ hj => ?_)) ?_ ?_ (fun u v _ _ => jn_cmp hcx u v) (by decide) (by decide)
            · rw [putF_c, if_neg (by omega), cod1 j hj]
            · rw [putF_c, if_neg (by omega)]
            · rw [putF_c, if_pos rfl]
            · rcases hcx with z | z | z | z | z <;> (rw [z]; decide)
          · rw [putF_c, if_neg (by omega), cod1 j (by omega), g4 j hj]
