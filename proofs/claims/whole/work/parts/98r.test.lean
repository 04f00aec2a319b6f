theorem fc_step {J B : JT} {by_ : Nat → Nat} {n tk r : Nat} (d d' dl hf : Nat) (hdl : dl ≤ 10) (hhf : 2 ≤ hf) (hN : dl < 10 → FcP J B by_ n tk r (d + 2) (d' + 8) (dl + 1) hf) (hN' : dl < 10 → FcP J B by_ n tk r (d + 1) (d' + 8) (dl + 1) hf) : FcP J B by_ n tk r (d + 3) (d' + 8) dl (hf + 2) := by
  intro I A i p sz pc m h hb hm h34 h32
  have h0 := h
  obtain ⟨⟨t1, t2, t3, t4, t5, t6, t7, t8, t9, t10⟩, hr, ⟨c1, c2, c3, c4, c5, c6⟩, ⟨b1, b2, b3⟩, hcd⟩ := h
  have t5 : I (1, 0) 7 = 0 := t5
  have t7 : A (43, 0) 28 = 0 := t7
  have htk := (t1.at t3).1
  have hle := (t1.at t3).2.1
  have hat := (t1.at t3).2.2.1
  have hn := t2.1
  have hbl := h0.bl
  have hM := hbl.1.2.1
  have h34s : spp A (tpk by_ n i) (43, 0) 34 = nJ m := (up_neK _ _ (by decide)).trans h34
  have h32s : spp A (tpk by_ n i) (43, 0) 32 = nJ dl := (up_neK _ _ (by decide)).trans h32
  have h28s : spp A (tpk by_ n i) (43, 0) 28 = 0 := (up_neK _ _ (by decide)).trans t7
  have hfs : FrP r A (spp A (tpk by_ n i)) := FrP.u (Or.inl rfl)
  have e75s : ∀ k, spp A (tpk by_ n i) (75, 0) k = A (75, 0) k := fun k => up_ne _ _ _ _ (by decide)
  have hfact := mf_at (B := B) (d' + 7) hM hle (h0.blev (d' + 7))
  have hT1 := mT7_1 (B := B) (d' + 9) t7
  -- an opened word or bracket: what follows
  have deep : ∀ (x : Int32) (w : Nat), x = 9 ∨ x = 12 → dl < 10 → ev (d' + 9) mMo_fact 0 [vR (43, 0)] [] (hh A B) = bV (ev (d' + 8) mMo_opens 0 [vR (43, 0), vI x] [] (hh (spp A (tpk by_ n i)) B)) (fun h6 => some (some (vI 0), hh (up2 (gI h6) (43, 0) 27 (((gI h6) (43, 0) 27) + nJ w)) (gJ h6))) → ev (d' + 10) mMo_test 7 [vR (43, 0), vI 1, vI 1, vU, vU] [] (hh A B) = ev (d' + 10) mMo_test 7 [vR (43, 0), vI 1, vI 1, vU, vU] [] (hh (spp (opnF (up2 (spp A (tpk by_ n i)) (43, 0) 32 (nJ (dl + 1))) m x) (tpk by_ n i + w)) B) := fun x w hx hlt hfc => by
    rw [hT1, hfc, mOpenD (d' + 7) x hx h34s (by omega) h32s hlt, bV_some, bI_some, if_pos rfl]
    simp only [gI_hh, gJ_hh]
    rw [opnF_o (by decide) (fun z => absurd z.2 (by decide)), up_neK _ _ (by decide), spp_27, nJ_add]
    rfl
  have deepF : ∀ (x : Int32) (w : Nat), x = 9 ∨ x = 12 → dl = 10 → w ≤ 10 → ev (d' + 9) mMo_fact 0 [vR (43, 0)] [] (hh A B) = bV (ev (d' + 8) mMo_opens 0 [vR (43, 0), vI x] [] (hh (spp A (tpk by_ n i)) B)) (fun h6 => some (some (vI 0), hh (up2 (gI h6) (43, 0) 27 (((gI h6) (43, 0) 27) + nJ w)) (gJ h6))) → ∃ A', ev (d' + 10) mMo_test 7 [vR (43, 0), vI 1, vI 1, vU, vU] [] (hh A B) = some (none, hh A' B) ∧ FrP r A A' ∧ FlE A' by_ n (1 + 8 * tpk by_ n i + 2) := fun x w hx hlt hw hfc => by
    have hE : FlE (spp (opnF (up2 (up2 (spp A (tpk by_ n i)) (43, 0) 28 (nJ (1 + 8 * tpk by_ n i + 2))) (43, 0) 32 (nJ 11)) m x) (tpk by_ n i + w)) by_ n (1 + 8 * tpk by_ n i + 2) := by
      refine ⟨tpk by_ n i + w, spp_bt ((opnF_fr (r := r)).bt (((FrP.u (r := r) (k := 32) (by decide)).bt ((FrP.u (r := r) (k := 28) (by decide)).bt hM)))), spp_27 _ _, by omega, ?_⟩
      rw [spp_28, opnF_o (by decide) (fun z => absurd z.2 (by decide)), up_neK _ _ (by decide), up_same]
    refine ⟨_, ?_, ((hfs.tr ((FrP.u (k := 28) (by decide)).tr (FrP.u (k := 32) (by decide)))).tr opnF_fr).tr (FrP.u (k := 27) (by decide)), hE⟩
    have hs32 : spp A (tpk by_ n i) (43, 0) 32 = nJ 10 := by rw [h32s, hlt]
    have hne := hE.n0 (by omega) (by omega)
    rw [hT1, hfc, mOpenX (d' + 7) x hx h34s (by omega) hs32 (spp_27 _ _) h28s, bV_some, bI_some, if_pos rfl]
    simp only [gI_hh, gJ_hh]
    rw [opnF_o (by decide) (fun z => absurd z.2 (by decide)), up_neK _ _ (by decide), up_neK _ _ (by decide), spp_27, nJ_add]
    exact mT7_F (d' + 9) 1 hne
  have cfail : ∃ I', ev (d + 2) mTe_fail 0 [vR (1, 0), vI 2] [] (hh I J) = some (none, hh I' J) ∧ FrL r I I' ∧ FlC I' by_ n tk r (1 + 8 * tpk by_ n i + 2) 63 := by
    obtain ⟨I2, A2, y1, y2, y3, y4, y5, y6, y7⟩ := rl_fault (J := J) (B := B) (d + 2) 0 2 63 h0 (by decide) (FrY.rf A) t6 t8 t7 (by omega)
    exact ⟨I2, y1, FrL.x y3, y6⟩
  have hfl : 1 + 8 * tpk by_ n i + 2 ≠ 0 ∧ 1 + 8 * tpk by_ n i + 2 < 100000 := ⟨by omega, by omega⟩
  have hcod0 : ∀ j, up2 I (1, 0) 6 (nJ (i + 1)) (38, r) j = I (38, r) j := fun j => up_ne _ _ _ _ (fun z => by have := (Prod.mk.inj z).1; omega)
  have hfx0 : FrL r I (up2 I (1, 0) 6 (nJ (i + 1))) := FrL.x FrX.u6
  by_cases hw : std by_ n (tpk by_ n i) (nthD txL 18 []) = true
  · -- not
    have hrun := std_run (txL_pos 18 (by decide)) hw
    have hen : enk by_ n (tpk by_ n i) = tpk by_ n i + 3 := hrun.2.2
    have hle3 := enk_le (by_ := by_) hrun.1
    have hi : i < tk := by
      by_cases e : i = tk
      · have := hat.mpr e
        omega
      · omega
    rw [if_pos hw] at hfact
    rw [cf_not (d + 2) t1 t3 t4 hw hdl]
    by_cases hlt : dl < 10
    · have hTT := deep 9 3 (Or.inl rfl) hlt hfact
      have hS1 := ((hbl.u3 (k := 32) (x := nJ (dl + 1)) (Or.inl rfl)).opn (m := m) (x := 9)).skip (q := tpk by_ n i + 3) hi (by omega) (by rw [← hen]; rfl)
      have e75 : ∀ k, spp (opnF (up2 (spp A (tpk by_ n i)) (43, 0) 32 (nJ (dl + 1))) m 9) (tpk by_ n i + 3) (75, 0) k = if k = m then 9 else A (75, 0) k := fun k => ((up_ne _ _ _ _ (by decide)).trans opnF_75).trans (by rw [up_ne _ _ _ _ (by decide), e75s])
      have hfy0 : FrP r A (spp (opnF (up2 (spp A (tpk by_ n i)) (43, 0) 32 (nJ (dl + 1))) m 9) (tpk by_ n i + 3)) := ((hfs.tr (FrP.u (k := 32) (by decide))).tr opnF_fr).tr (FrP.u (k := 27) (by decide))
      obtain ⟨I2, f1, f2, f3⟩ := hN hlt _ _ (i + 1) (tpk by_ n i + 3) sz pc (m + 1) hS1 hb (by omega) ((up_neK _ _ (by decide)).trans opnF_34) ((up_neK _ _ (by decide)).trans ((opnF_o (by decide) (fun z => absurd z.2 (by decide))).trans (up_same _ _ _ _)))
      rw [if_pos hlt, cSkip (d + 2) t5 t4 t1.2.1 hi htk, bV_some, gI_hh, gJ_hh, f1, bV_some, gI_hh, gJ_hh, hTT]
      rcases f3 with ⟨f, A2, g1, g2, g3, g4, g5, g6⟩ | ⟨A2, i2, p2, sz2, ez2, pc2, v, g1, g2, g3, ⟨g4, g4', g5⟩, g6, ⟨g7, g8⟩, g9, g10, g11, g12, g13, g14⟩
      · obtain ⟨I3, q1, q2, q3⟩ := g3.put (J := J) (d + 2) 13
        rw [q3, bV_some, gI_hh, gJ_hh]
        exact ⟨I3, rfl, (hfx0.tr f2).tr q2, Or.inl ⟨f, A2, g1, g2, q1, g4, hfy0.tr g5, g6⟩⟩
      · have hsz2 := g3.2.2.2.1
        rw [cPut (d + 2) 13 g3.2.2.1.1 (by omega), bV_some, gI_hh, gJ_hh]
        refine ⟨_, rfl, (hfx0.tr f2).tr putF_fr, Or.inr ⟨A2, i2, p2, sz2 + 1, ez2, pc2, v + 1, g1, hfy0.tr g2, g3.put1 (by omega), ⟨by omega, by omega, by omega⟩, fun j j1 j2 => ?_, ⟨?_, ?_⟩, fun k hk => ?_, fun k k1 k2 => ?_, ?_, fun j hj => ?_, by omega, by omega⟩⟩
        · rw [putF_c]
          split
          · rfl
          · exact g6 j j1 (by omega)
        · rw [g7, show m + 1 + v = m + (v + 1) by omega]
        · rw [g8, show dl + 1 + v = dl + (v + 1) by omega]
        · rw [g9 k (by omega), e75, if_neg (by omega)]
        · by_cases e : k = m
          · rw [g9 k (by omega), e75, if_pos e]
          · exact g10 k (by omega) (by omega)
        · exact (sg_not (g11.ext (fun j _ hj => by rw [putF_c, if_neg (by omega)])) (by rw [putF_c, if_pos rfl])).mono (by omega) (fun _ z => z)
        · rw [putF_c, if_neg (by omega), g12 j hj, hcod0]
    · obtain ⟨A2, a1, a2, a3⟩ := deepF 9 3 (Or.inl rfl) (by omega) (by decide) hfact
      obtain ⟨I2, y1, y2, y3⟩ := cfail
      rw [if_neg hlt, y1, bV_some, gI_hh, gJ_hh]
      exact ⟨I2, rfl, y2, Or.inl ⟨_, A2, hfl.1, hfl.2, y3, a1, a2, a3⟩⟩
  · rw [if_neg hw] at hfact
    by_cases hs : tpk by_ n i < n ∧ by_ (tpk by_ n i) = 91
    · -- a bracket
      have hen : enk by_ n (tpk by_ n i) = tpk by_ n i + 1 := enk1 hs.2 (by decide) (by decide) (by decide)
      have hi : i < tk := by
        by_cases e : i = tk
        · have := hat.mpr e
          omega
        · omega
      rw [if_pos hs] at hfact
      rw [cf_open (d + 2) t1 t3 t4 hw hs hdl]
      by_cases hlt : dl < 10
      · have hTT := deep 12 1 (Or.inr rfl) hlt hfact
        have hS1 := ((hbl.u3 (k := 32) (x := nJ (dl + 1)) (Or.inl rfl)).opn (m := m) (x := 12)).skip (q := tpk by_ n i + 1) hi (by omega) (by rw [← hen]; rfl)
        have e75 : ∀ k, spp (opnF (up2 (spp A (tpk by_ n i)) (43, 0) 32 (nJ (dl + 1))) m 12) (tpk by_ n i + 1) (75, 0) k = if k = m then 12 else A (75, 0) k := fun k => ((up_ne _ _ _ _ (by decide)).trans opnF_75).trans (by rw [up_ne _ _ _ _ (by decide), e75s])
        have hfy0 : FrP r A (spp (opnF (up2 (spp A (tpk by_ n i)) (43, 0) 32 (nJ (dl + 1))) m 12) (tpk by_ n i + 1)) := ((hfs.tr (FrP.u (k := 32) (by decide))).tr opnF_fr).tr (FrP.u (k := 27) (by decide))
        obtain ⟨I2, f1, f2, f3⟩ := ts_all (d + 1) (d' + 8) (dl + 1) hf (by omega) (hN' hlt) hS1 hb (m := m + 1) (by omega) ((up_neK _ _ (by decide)).trans opnF_34) ((up_neK _ _ (by decide)).trans ((opnF_o (by decide) (fun z => absurd z.2 (by decide))).trans (up_same _ _ _ _))) (fun k hk => by rw [e75, if_pos (by omega)])
        rw [if_pos hlt, cSkip (d + 2) t5 t4 t1.2.1 hi htk, bV_some, gI_hh, gJ_hh, f1, bV_some, gI_hh, gJ_hh, hTT]
        rcases f3 with ⟨f, A2, g1, g2, g3, g4, g5, g6⟩ | ⟨A2, i2, sz2, pc2, g1, g2, g3, ⟨g4, g5⟩, g6, g7, g8, g9, g10, g11⟩
        · rw [cTakeF (d + 1) g1 g2 g3, bV_some, gI_hh, gJ_hh]
          exact ⟨I2, rfl, hfx0.tr f2, Or.inl ⟨f, A2, g1, g2, g3, g4, hfy0.tr g5, g6⟩⟩
        · have g3' := g3
          obtain ⟨⟨s1, s2, s3, s4, s5, s6, s7, s8, s9, s10⟩, -, ⟨e1, e2, e3, e4, e5, e6⟩, ⟨w1, w2, w3⟩, -⟩ := g3'
          have s5 : I2 (1, 0) 7 = 0 := s5
          have s7 : A2 (43, 0) 28 = 0 := s7
          have hle2 := (s1.at s3).2.1
          have hat2 := (s1.at s3).2.2.1
          have htop : A2 (75, 0) m = 12 := by rw [g6 m (by omega), e75, if_pos rfl]
          have hsg : ev (d + 1) mTe_isSign 0 [vR (1, 0), vI 93] [] (hh I2 J) = some (some (vI (if tpk by_ n i2 < n ∧ by_ (tpk by_ n i2) = 93 then 1 else 0)), hh I2 J) := cIsSign (d + 1) 93 s1 s3 s4 (by decide) (by decide) (by decide) (by decide)
          have h93 : (sgn by_ n (tpk by_ n i2) = 93) = (tpk by_ n i2 < n ∧ by_ (tpk by_ n i2) = 93) := sgn_is (c := 93) (fun k hk => (s2.2.2 k hk).1) (by decide)
          have m1 : nJ (m + 1) - 1 = nJ m := nJ_sub (show 1 ≤ m + 1 by omega)
          have d1 : nJ (dl + 1) - 1 = nJ dl := nJ_sub (show 1 ≤ dl + 1 by omega)
          have hte : teK (d' + 9) A2 B = if sgn by_ n (tpk by_ n i2) = 93 then ev (d' + 10) mMo_test 7 [vR (43, 0), vI 0, vI 1, vU, vU] [] (hh (up2 (up2 (spp A2 (tpk by_ n i2 + 1)) (43, 0) 34 (nJ m)) (43, 0) 32 (nJ dl)) B) else ev (d' + 10) mMo_test 7 [vR (43, 0), vI 0, vI 1, vU, vU] [] (hh (up2 (up2 (spp (up2 A2 (43, 0) 28 (nJ (1 + 8 * tpk by_ n i2 + 0))) (tpk by_ n i2 + 1)) (43, 0) 34 (nJ m)) (43, 0) 32 (nJ dl)) B) := by
            have hfl0 : ev (d' + 9) mMo_fails 0 [vR (43, 0), vI 0, vI (nJ (tpk by_ n i2))] [] (hh A2 B) = some (none, hh (up2 A2 (43, 0) 28 (nJ (1 + 8 * tpk by_ n i2 + 0))) B) := mFails0 (d' + 9) (tpk by_ n i2) 0 s7
            unfold teK
            rw [mTopS (d' + 9) g4 (by omega), bI_some, htop, if_pos rfl, gI_hh, gJ_hh, mSign (d' + 9) s2 s6 (by omega), bI_some]
            simp only [gI_hh, gJ_hh]
            rw [s6, hfl0]
            simp only [bV_some, gI_hh, gJ_hh]
            rw [g4, g5, up_neK (k := 28) (j := 27) _ _ (by decide), up_neK (k := 28) (j := 34) _ _ (by decide), up_neK (k := 28) (j := 32) _ _ (by decide), s6, g4, g5, m1, d1, nJ_succ]
            rfl
          rw [g1, hte]
          by_cases q : tpk by_ n i2 < n ∧ by_ (tpk by_ n i2) = 93
          · have hi2 : i2 < tk := by
              by_cases e : i2 = tk
              · have := hat2.mpr e
                omega
              · omega
            have hen2 : enk by_ n (tpk by_ n i2) = tpk by_ n i2 + 1 := enk1 q.2 (by decide) (by decide) (by decide)
            have hct : ev (d + 2) mTe_takeSign 0 [vR (1, 0), vI 93] [] (hh I2 J) = some (none, hh (up2 I2 (1, 0) 6 (nJ (i2 + 1))) J) := by
              rw [eTe_takeSign_0, hsg, bI_some, bif2, if_pos q, gI_hh, gJ_hh, cSkip (d + 1) s5 s4 s1.2.1 hi2 htk, bV_some, gI_hh, gJ_hh]
            have hS2 := ((g3.skip (q := tpk by_ n i2 + 1) hi2 (by omega) (by rw [← hen2]; rfl)).u3 (k := 34) (x := nJ m) (Or.inr rfl)).u3 (k := 32) (x := nJ dl) (Or.inl rfl)
            have hcod2 : ∀ j, up2 I2 (1, 0) 6 (nJ (i2 + 1)) (38, r) j = I2 (38, r) j := fun j => up_ne _ _ _ _ (fun z => by have := (Prod.mk.inj z).1; omega)
            rw [hct, bV_some, gI_hh, gJ_hh, if_pos (Eq.mpr h93 q)]
            refine ⟨_, rfl, (hfx0.tr f2).tr (FrL.x FrX.u6), Or.inr ⟨_, i2 + 1, tpk by_ n i2 + 1, sz2, sz2, pc2, 0, rfl, ((hfy0.tr g2).tr (FrP.u (k := 27) (by decide))).tr ((FrP.u (k := 34) (by decide)).tr (FrP.u (k := 32) (by decide))), hS2, ⟨by omega, by omega, by omega⟩, fun j j1 j2 => by omega, ⟨(up_neK _ _ (by decide)).trans (up_same _ _ _ _), up_same _ _ _ _⟩, fun k hk => ?_, fun k k1 k2 => by omega, ?_, fun j hj => ?_, by omega, by omega⟩⟩
            · rw [up_ne _ _ _ _ (by decide), up_ne _ _ _ _ (by decide), show spp A2 (tpk by_ n i2 + 1) (75, 0) k = A2 (75, 0) k from up_ne _ _ _ _ (by decide), g6 k (by omega), e75, if_neg (by omega)]
            · exact g8.ext (fun j _ _ => (hcod2 j).symm)
            · rw [hcod2, g9 j hj, hcod0]
          · obtain ⟨I3, A3, y1, y2, y3, y4, y5, y6, y7⟩ := rl_fault (J := J) (B := B) (d + 1) 0 0 63 g3 (by decide) (FrY.rf A2) s6 s8 s7 (by omega)
            have y1 : ev (d + 1) mTe_fail 0 [vR (1, 0), vI 0] [] (hh I2 J) = some (none, hh I3 J) := y1
            have hct : ev (d + 2) mTe_takeSign 0 [vR (1, 0), vI 93] [] (hh I2 J) = some (none, hh I3 J) := by
              rw [eTe_takeSign_0, hsg, bI_some, bif2, if_neg q, gI_hh, gJ_hh, y1, bV_some, gI_hh, gJ_hh, cSkipN (d + 1) (y6.n0 y5.1 y5.2), bV_some, gI_hh, gJ_hh]
            have hE : FlE (up2 (up2 (spp (up2 A2 (43, 0) 28 (nJ (1 + 8 * tpk by_ n i2 + 0))) (tpk by_ n i2 + 1)) (43, 0) 34 (nJ m)) (43, 0) 32 (nJ dl)) by_ n (1 + 8 * tpk by_ n i2 + 0) := by
              refine ⟨tpk by_ n i2 + 1, (FrP.u (r := r) (k := 32) (by decide)).bt ((FrP.u (r := r) (k := 34) (by decide)).bt (spp_bt ((FrP.u (r := r) (k := 28) (by decide)).bt s2))), ?_, by omega, ?_⟩
              · rw [up_neK _ _ (by decide), up_neK _ _ (by decide), spp_27]
              · rw [up_neK _ _ (by decide), up_neK _ _ (by decide), spp_28, up_same]
            rw [hct, bV_some, gI_hh, gJ_hh, if_neg (fun z => q (Eq.mp h93 z))]
            exact ⟨I3, rfl, (hfx0.tr f2).tr (FrL.x y3), Or.inl ⟨_, _, y5.1, y5.2, y6, mT7_F (d' + 9) 0 (hE.n0 y5.1 y5.2), ((hfy0.tr g2).tr ((FrP.u (k := 28) (by decide)).tr (FrP.u (k := 27) (by decide)))).tr ((FrP.u (k := 34) (by decide)).tr (FrP.u (k := 32) (by decide))), hE⟩⟩
      · obtain ⟨A2, a1, a2, a3⟩ := deepF 12 1 (Or.inr rfl) (by omega) (by decide) hfact
        obtain ⟨I2, y1, y2, y3⟩ := cfail
        rw [if_neg hlt, y1, bV_some, gI_hh, gJ_hh]
        exact ⟨I2, rfl, y2, Or.inl ⟨_, A2, hfl.1, hfl.2, y3, a1, a2, a3⟩⟩
    · -- a comparison
      rw [if_neg hs] at hfact
      rw [cf_plain (d + 2) _ t1 t3 t4 hw hs]
      obtain ⟨I2, A2, v1, v2, v3, v4, v5⟩ := tk_cmp (J := J) (B := B) d d' hbl hb
      rw [v1, hT1, hfact, v2, bV_some, bI_some, if_neg (show ¬ (1 : Int32) = 0 by decide), gI_hh, gJ_hh]
      simp only [gI_hh, gJ_hh]
      rcases v5 with ⟨f, f1, f2, f3, f4⟩ | ⟨i2, p2, sz2, pc2, g1, g2, g3, g4, g5, g6⟩
      · exact ⟨I2, rfl, v3, Or.inl ⟨f, A2, f1, f2, f3, mT7_F (d' + 9) 0 (f4.n0 f1 f2), hfs.tr v4.q, f4.e⟩⟩
      · have o34 : ∀ k, k = 32 ∨ k = 34 → A2 (43, 0) k = spp A (tpk by_ n i) (43, 0) k := fun k hk => v4 (43, 0) k (fun z => by omega) trivial (fun z => by rcases z.1 with z | z <;> exact absurd z (by decide))
        have o75 : ∀ k, A2 (75, 0) k = A (75, 0) k := fun k => (v4 (75, 0) k (fun z => absurd z.1 (by decide)) trivial (fun z => by rcases z.1 with z | z <;> exact absurd z (by decide))).trans (e75s k)
        refine ⟨I2, rfl, v3, Or.inr ⟨A2, i2, p2, sz2, sz2, pc2, 0, rfl, hfs.tr v4.q, g1, ⟨by omega, by omega, g2⟩, fun j j1 j2 => by omega, ⟨(o34 34 (by decide)).trans h34s, (o34 32 (by decide)).trans h32s⟩, fun k _ => o75 k, fun k k1 k2 => by omega, g3.mono (by omega) (fun _ z => z), g4, by omega, g6⟩⟩
theorem fc_all {J B : JT} {by_ : Nat → Nat} {n tk r : Nat} (d' : Nat) : ∀ g dl, dl + g = 10 → ∀ d, FcP J B by_ n tk r (d + 3 + 2 * g) (d' + 8) dl (4 + 2 * g)
  | 0, dl, h, d => fc_step d d' dl 2 (by omega) (by omega) (fun z => by omega) (fun z => by omega)
  | g + 1, dl, h, d => by
    have h1 := fc_all (J := J) (B := B) (by_ := by_) (n := n) (tk := tk) (r := r) d' g (dl + 1) (by omega) (d + 1)
    have h2 := fc_all (J := J) (B := B) (by_ := by_) (n := n) (tk := tk) (r := r) d' g (dl + 1) (by omega) d
    have := fc_step (J := J) (B := B) (by_ := by_) (n := n) (tk := tk) (r := r) (d + 2 + 2 * g) d' dl (4 + 2 * g) (by omega) (by omega) (fun _ => by rw [show d + 2 + 2 * g + 2 = d + 1 + 3 + 2 * g by omega]; exact h1) (fun _ => by rw [show d + 2 + 2 * g + 1 = d + 3 + 2 * g by omega]; exact h2)
    rw [show d + 3 + 2 * (g + 1) = d + 2 + 2 * g + 3 by omega, show 4 + 2 * (g + 1) = 4 + 2 * g + 2 by omega]
    exact this
