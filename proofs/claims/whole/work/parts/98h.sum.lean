/-- a fault's outcome, from a fault's state, behind more of the same -/
theorem RlO.flt {r K : Nat} {I A I' A' : IT} {J B : JT} {by_ : Nat → Nat} {n tk f : Nat} {o o' : Option Rs} {Q : IT → IT → Prop} (o1 : o = some (none, hh I' J)) (o2 : o' = some (none, hh A' B)) (h1 : FrL r I I') (h2 : FrN r A A') (hf : f ≠ 0) (hl : f < 100000) (hc : FlC I' by_ n tk r f K) (hm : FlM A' by_ n f K) : RlO r K 0 I A J B by_ n tk o o' Q := ⟨I', A', o1, o2, h1, h2, Or.inl ⟨f, hf, hl, hc, hm⟩⟩
/-- the loop of a sum on both sides -/
theorem smm_go {J B : JT} {by_ : Nat → Nat} {n tk r : Nat} (d d' : Nat) : ∀ N (I A : IT) (i sz pc x3 a m sz0 pc0 : Nat) (w : Int32), tk - i = N → RlS I A by_ n tk i (tpk by_ n i) r sz sz pc → x3 < i → (w = -1 ∨ w = 43 ∨ w = 45) → sgW (I (38, r)) w a m sz → 3 * sz + 11 + (if w = -1 then 0 else 3) + 14 * pc0 ≤ 14 * pc + 3 * sz0 → 3 * sz0 ≤ 14 * pc0 → RlO r 61 0 I A J B by_ n tk (ev (d + 2) mRu_readSum 7 [vR (37, r), vR (1, 0), vI w, vI (nJ x3), vU, vU] [] (hh I J)) (sumK d' w A B) (fun I' A' => ∃ i' sz' pc', RlS I' A' by_ n tk i' (tpk by_ n i') r sz' sz' pc' ∧ i ≤ i' ∧ SgR (I' (38, r)) a sz' 3 (fun _ => True) ∧ (∀ j, j < sz → I' (38, r) j = I (38, r) j) ∧ 3 * sz' + 11 + 14 * pc0 ≤ 14 * pc' + 3 * sz0 ∧ sz ≤ sz') := by
  intro N
  induction N using Nat.strongRecOn with
  | ind N ih =>
    intro I A i sz pc x3 a m sz0 pc0 w hN h hx hw hsg hbd hb0
    have h0 := h
    obtain ⟨⟨t1, t2, t3, t4, t5, t6, t7, t8, t9, t10⟩, hr, ⟨c1, c2, c3, c4, c5, c6⟩, ⟨b1, b2, b3⟩, hcd⟩ := h
    have t5 : I (1, 0) 7 = 0 := t5
    have t7 : A (43, 0) 28 = 0 := t7
    have htk := (t1.at t3).1
    have hle := (t1.at t3).2.1
    have hat := (t1.at t3).2.2.1
    have hszb : sz ≤ 276 := by
      split at hbd <;> omega
    by_cases hmul : tpk by_ n i < n ∧ (by_ (tpk by_ n i) = 42 ∨ by_ (tpk by_ n i) = 47 ∨ by_ (tpk by_ n i) = 37)
    · -- a sign of a term
      obtain ⟨c, k, hc, hck, hk3, hcd2⟩ : ∃ c k, by_ (tpk by_ n i) = c ∧ ((c = 42 ∧ k = 13) ∨ (c = 47 ∧ k = 14) ∨ (c = 37 ∧ k = 15)) ∧ (kB c = 3 ∧ c < 256 ∧ c ≠ 60 ∧ c ≠ 62) ∧ CdR (nJ c) (nJ k) 0 := by
        rcases hmul.2 with e | e | e
        · exact ⟨42, 13, e, Or.inl ⟨rfl, rfl⟩, by decide, by unfold CdR; decide⟩
        · exact ⟨47, 14, e, Or.inr (Or.inl ⟨rfl, rfl⟩), by decide, by unfold CdR; decide⟩
        · exact ⟨37, 15, e, Or.inr (Or.inr ⟨rfl, rfl⟩), by decide, by unfold CdR; decide⟩
      have hi : i < tk := by
        by_cases e : i = tk
        · have := hat.mpr e
          omega
        · omega
      have hcs : csF by_ n tk i = nJ c := Eq.mpr (cs_is (c := c) t1 t3 hk3.1 hk3.2.1 hk3.2.2.1 hk3.2.2.2) ⟨hmul.1, hc⟩
      have hen : enk by_ n (tpk by_ n i) = tpk by_ n i + 1 := enk1 hc hk3.1 hk3.2.2.1 hk3.2.2.2
      have hS1 := h0.skip (q := tpk by_ n i + 1) hi (by omega) (by rw [← hen]; rfl)
      obtain ⟨I2, A2, v1, v2, v3, v4, v5⟩ := tk_val (J := J) (B := B) d d' hS1 (by omega)
      have hC := c7_mul (J := J) (r := r) d x3 w t1 t3 t4 t5 (by omega) hcs (by rcases hck with ⟨e, -⟩ | ⟨e, -⟩ | ⟨e, -⟩ <;> omega)
      have hM := mTermMul (B := B) (d' + 5) t2 t6 t7 hmul.1 c k hc hck
      rw [cSkip (d + 1) t5 t4 t1.2.1 hi htk, bV_some, gI_hh, gJ_hh, v1, bV_some, gI_hh, gJ_hh] at hC
      rw [v2, bV_some, gI_hh, gJ_hh] at hM
      have fx : FrL r I I2 := (FrL.x FrX.u6).tr v3
      have fy : FrN r A A2 := (FrN.y FrY.u27).tr v4
      rcases v5 with ⟨f, f1, f2, f3, f4⟩ | ⟨q, x, g1, g2, g3, g4, g5⟩
      · obtain ⟨I3, p1, p2, p3⟩ := f3.put (J := J) (d + 1) (nJ c)
        obtain ⟨I4, s1, s2, s3⟩ := cSum7F (J := J) d w (nJ (x3 + 1)) f1 f2 p1
        obtain ⟨q, -, u1, u2, -⟩ := f4.bl (B := B) (d' + 4)
        rw [mEntryN (d' + 5) _ _ (f4.n0 f1 f2), bV_some, gI_hh, gJ_hh, u1, bV_some, gI_hh, gJ_hh] at hM
        rw [p3, bV_some, gI_hh, gJ_hh, s1] at hC
        exact RlO.flt hC ((sumK_eq d' w hM).trans (sumK_F d' w (u2.n0 f1 f2))) ((fx.tr p2).tr s2) (fy.tr FrN.u27) f1 f2 s3 u2
      · have g1' := g1
        obtain ⟨⟨y1, y2, y3, y4, y5, y6, y7, y8, y9, y10⟩, -, ⟨z1, z2, z3, z4, z5, z6⟩, ⟨w1, w2, w3⟩, -⟩ := g1'
        have hB := (g1.both hcd2 (by omega)).bl
        rw [cPut (d + 1) (nJ c) z1 (by omega), bV_some, gI_hh, gJ_hh] at hC
        rw [mEntry (d' + 5) _ _ y7 z3 z4 hr (by omega), bV_some, gI_hh, gJ_hh, (g1.both hcd2 (by omega)).blev (d' + 4), bV_some, gI_hh, gJ_hh] at hM
        have hsg2 : sgW (putF I2 r (sz + 1) (nJ c) (38, r)) w a m (sz + 2) := by
          have e1 : ∀ j, j < sz → I (38, r) j = putF I2 r (sz + 1) (nJ c) (38, r) j := fun j hj => by
            rw [putF_c, if_neg (by omega), g5 j, if_neg (by omega), up_ne _ _ _ _ (fun z => by have := (Prod.mk.inj z).1; omega)]
          refine (hsg.ext e1).mul (x := nJ c) ?_ ?_ ?_
          · rw [putF_c, if_neg (by omega), g5 sz, if_pos rfl]
            exact g4
          · rw [putF_c, if_pos rfl]
          · rcases hck with ⟨rfl, -⟩ | ⟨rfl, -⟩ | ⟨rfl, -⟩ <;> decide
        obtain ⟨I5, A5, k1, k2, k3, k4, k5⟩ := ih (tk - (i + 1 + 1)) (by omega) _ _ (i + 1 + 1) (sz + 1 + 1) (pc + 1) (x3 + 1) a m sz0 pc0 w rfl hB (by omega) hw hsg2 (by split <;> (rename_i e; first | rw [if_pos e] at hbd | rw [if_neg e] at hbd) <;> omega) hb0
        refine ⟨I5, A5, hC.trans k1, (sumK_eq d' w hM).trans k2, (fx.tr putF_fr).tr k3, ((fy.tr (entF_fr (by omega))).tr FrN.u27).tr k4, ?_⟩
        rcases k5 with k5 | ⟨i', sz', pc', l1, l2, l3, l4, l5, l6⟩
        · exact Or.inl k5
        · refine Or.inr ⟨i', sz', pc', l1, by omega, l3, fun j hj => ?_, l5, by omega⟩
          rw [l4 j (by omega), putF_c, if_neg (by omega), g5 j, if_neg (by omega), up_ne _ _ _ _ (fun z => by have := (Prod.mk.inj z).1; omega)]
    · have hTE := mTermEnd (B := B) (d' + 5) t2 t6 t7 hle hmul
      by_cases hadd : tpk by_ n i < n ∧ (by_ (tpk by_ n i) = 43 ∨ by_ (tpk by_ n i) = 45)
      · -- a sign of a sum
        obtain ⟨c, k, hc, hck, hk3, hkc⟩ : ∃ c k, by_ (tpk by_ n i) = c ∧ ((c = 43 ∧ k = 2) ∨ (c = 45 ∧ k = 3)) ∧ (kB c = 3 ∧ c < 256 ∧ c ≠ 60 ∧ c ≠ 62) ∧ (¬ nJ c = -1 ∧ (if nJ c = 43 then (2 : Int32) else 3) = nJ k) := by
          rcases hadd.2 with e | e
          · exact ⟨43, 2, e, Or.inl ⟨rfl, rfl⟩, by decide, by decide⟩
          · exact ⟨45, 3, e, Or.inr ⟨rfl, rfl⟩, by decide, by decide⟩
        have hi : i < tk := by
          by_cases e : i = tk
          · have := hat.mpr e
            omega
          · omega
        have hcs : csF by_ n tk i = nJ c := Eq.mpr (cs_is (c := c) t1 t3 hk3.1 hk3.2.1 hk3.2.2.1 hk3.2.2.2) ⟨hadd.1, hc⟩
        have hen : enk by_ n (tpk by_ n i) = tpk by_ n i + 1 := enk1 hc hk3.1 hk3.2.2.1 hk3.2.2.2
        -- what waits is put first
        obtain ⟨I1, A1, sz1, hI1, hA1, hR1, hseg1, hcod1, hfx1, hfy1, hbd1⟩ : ∃ I1 A1 sz1, ((w = -1 ∧ I1 = I) ∨ (w ≠ -1 ∧ ev (d + 1) mRu_put 0 [vR (37, r), vI w] [] (hh I J) = some (none, hh I1 J))) ∧ sumK d' w A B = ev (d' + 7) mMo_sum 2 [vR (43, 0), vU] [] (hh A1 B) ∧ RlS I1 A1 by_ n tk i (tpk by_ n i) r sz1 sz1 pc ∧ SgR (I1 (38, r)) a sz1 3 (fun _ => True) ∧ (∀ j, j < sz → I1 (38, r) j = I (38, r) j) ∧ FrL r I I1 ∧ FrN r A A1 ∧ (sz ≤ sz1 ∧ 3 * sz1 + 11 + 14 * pc0 ≤ 14 * pc + 3 * sz0) := by
          by_cases hw1 : w = -1
          · rw [if_pos hw1] at hbd
            refine ⟨I, A, sz, Or.inl ⟨hw1, rfl⟩, ?_, h0, ?_, fun _ _ => rfl, FrL.rf r I, FrN.rf r A, Nat.le_refl _, by omega⟩
            · unfold sumK
              rw [hTE, bV_some, if_pos hw1]
            · rcases hsg with ⟨-, q⟩ | ⟨q, -⟩
              · exact q.mono (by decide) (fun _ _ => trivial)
              · exact absurd hw1 q
          · have hw' : w = 43 ∨ w = 45 := hw.resolve_left hw1
            rw [if_neg hw1] at hbd
            have hcdw : CdR w (if w = 43 then 2 else 3) 0 := by
              rcases hw' with rfl | rfl <;> (unfold CdR; decide)
            refine ⟨putF I r sz w, entF A r sz (if w = 43 then 2 else 3) 0, sz + 1, Or.inr ⟨hw1, cPut (d + 1) w c1 (by omega)⟩, ?_, h0.both hcdw (by omega), ?_, fun j hj => ?_, putF_fr, entF_fr (by omega), by omega, by omega⟩
            · unfold sumK
              rw [hTE, bV_some]
              simp only [gI_hh, gJ_hh]
              rw [if_neg hw1, mEntry (d' + 6) _ _ t7 c3 c4 hr (by omega), bV_some]
            · refine sgW.fin (w := w) (m := m) (hsg.ext (fun j hj => ?_)) hw' ?_
              · rw [putF_c, if_neg (by omega)]
              · rw [putF_c, if_pos rfl]
            · rw [putF_c, if_neg (by omega)]
        have hR1' := hR1
        obtain ⟨⟨s1, s2, s3, s4, s5, s6, s7, s8, s9, s10⟩, -, ⟨e1, e2, e3, e4, e5, e6⟩, -, -⟩ := hR1'
        have hS1 := hR1.skip (q := tpk by_ n i + 1) hi (by omega) (by rw [← hen]; rfl)
        obtain ⟨I2, A2, v1, v2, v3, v4, v5⟩ := tk_val (J := J) (B := B) d d' hS1 (by omega)
        have hC := c7_add (J := J) (r := r) d x3 w t1 t3 t4 t5 (by omega) hcs (by rcases hck with ⟨e, -⟩ | ⟨e, -⟩ <;> omega) hI1
        have hM := mSumAdd (B := B) (d' + 6) s2 s6 s7 hadd.1 c k hc hck
        rw [cSkip (d + 1) s5 s4 s1.2.1 hi htk, bV_some, gI_hh, gJ_hh, v1, bV_some, gI_hh, gJ_hh] at hC
        rw [eMo_term_0, v2, bV_some, gI_hh, gJ_hh] at hM
        have fx : FrL r I I2 := (hfx1.tr (FrL.x FrX.u6)).tr v3
        have fy : FrN r A A2 := (hfy1.tr (FrN.y FrY.u27)).tr v4
        have hK : ∀ A3 : IT, bV (ev (d' + 6) mMo_term 4 [vR (43, 0), vU] [] (hh A3 B)) (fun h3 => bV (ev (d' + 6) mMo_entry 0 [vR (43, 0), vI (nJ k), vI 0] [] (hh (gI h3) (gJ h3))) (fun h4 => ev (d' + 7) mMo_sum 2 [vR (43, 0), vU] [] (hh (gI h4) (gJ h4)))) = sumK d' (nJ c) A3 B := fun A3 => by
          unfold sumK
          rw [hkc.2]
          congr 1
          funext h3
          rw [if_neg hkc.1]
        rcases v5 with ⟨f, f1, f2, f3, f4⟩ | ⟨q, x, g1, g2, g3, g4, g5⟩
        · obtain ⟨I4, y1, y2, y3⟩ := cSum7F (J := J) d (nJ c) (nJ (x3 + 1)) f1 f2 f3
          obtain ⟨q, -, u1, u2, -⟩ := f4.bl (B := B) (d' + 4)
          rw [u1, bV_some, gI_hh, gJ_hh, hK, sumK_F d' _ (u2.n0 f1 f2)] at hM
          rw [y1] at hC
          exact RlO.flt hC (hA1.trans hM) (fx.tr y2) (fy.tr FrN.u27) f1 f2 y3 u2
        · rw [g1.blev (d' + 4), bV_some, gI_hh, gJ_hh, hK] at hM
          have hcod2 : ∀ j, j < sz1 → I2 (38, r) j = I1 (38, r) j := fun j hj => by
            rw [g5 j, if_neg (by omega), up_ne _ _ _ _ (fun z => by have := (Prod.mk.inj z).1; omega)]
          have hsg2 : sgW (I2 (38, r)) (nJ c) a sz1 (sz1 + 1) := Or.inr ⟨hkc.1, hseg1.ext (fun j _ hj => (hcod2 j hj).symm), (sg_val (by rw [g5 sz1, if_pos rfl]; exact g4)).mono (by decide) (fun _ _ => trivial)⟩
          obtain ⟨I5, A5, k1, k2, k3, k4, k5⟩ := ih (tk - (i + 1 + 1)) (by omega) _ _ (i + 1 + 1) (sz1 + 1) (pc + 1) (x3 + 1) a sz1 sz0 pc0 (nJ c) rfl g1.bl (by omega) (by rcases hck with ⟨rfl, -⟩ | ⟨rfl, -⟩ <;> decide) hsg2 (by rw [if_neg hkc.1]; omega) hb0
          refine ⟨I5, A5, hC.trans k1, (hA1.trans hM).trans k2, fx.tr k3, (fy.tr FrN.u27).tr k4, ?_⟩
          rcases k5 with k5 | ⟨i', sz', pc', l1, l2, l3, l4, l5, l6⟩
          · exact Or.inl k5
          · refine Or.inr ⟨i', sz', pc', l1, by omega, l3, fun j hj => ?_, l5, by omega⟩
            rw [l4 j (by omega), hcod2 j (by omega), hcod1 j hj]
      · -- the end
        have hSE := mSumEnd (B := B) (d' + 6) t2 t6 t7 hle hadd
        have hC := c7_end (J := J) (r := r) d x3 w t1 t3 t4 t5 (by omega) (fun z => by
          rcases z.2 with e | e | e | e | e
          · exact hmul ⟨z.1, Or.inl e⟩
          · exact hmul ⟨z.1, Or.inr (Or.inl e)⟩
          · exact hmul ⟨z.1, Or.inr (Or.inr e)⟩
          · exact hadd ⟨z.1, Or.inl e⟩
          · exact hadd ⟨z.1, Or.inr e⟩)
        by_cases hw1 : w = -1
        · rw [if_pos hw1] at hC hbd
          refine ⟨I, A, hC, ?_, FrL.rf r I, FrN.rf r A, Or.inr ⟨i, sz, pc, h0, Nat.le_refl i, ?_, fun _ _ => rfl, by omega, Nat.le_refl sz⟩⟩
          · unfold sumK
            rw [hTE, bV_some, if_pos hw1, gI_hh, gJ_hh, hSE]
          · rcases hsg with ⟨-, q⟩ | ⟨q, -⟩
            · exact q.mono (by decide) (fun _ _ => trivial)
            · exact absurd hw1 q
        · have hw' : w = 43 ∨ w = 45 := hw.resolve_left hw1
          rw [if_neg hw1] at hC hbd
          have hcdw : CdR w (if w = 43 then 2 else 3) 0 := by
            rcases hw' with rfl | rfl <;> (unfold CdR; decide)
          rw [cPut (d + 1) w c1 (by omega), bV_some] at hC
          have hR := h0.both hcdw (by omega)
          have hR' := hR
          obtain ⟨⟨s1, s2, s3, s4, s5, s6, s7, s8, s9, s10⟩, -⟩ := hR'
          refine ⟨putF I r sz w, entF A r sz (if w = 43 then 2 else 3) 0, hC, ?_, putF_fr, entF_fr (by omega), Or.inr ⟨i, sz + 1, pc, hR, Nat.le_refl i, ?_, fun j hj => ?_, by omega, by omega⟩⟩
          · unfold sumK
            rw [hTE, bV_some]
            simp only [gI_hh, gJ_hh]
            rw [if_neg hw1, mEntry (d' + 6) _ _ t7 c3 c4 hr (by omega), bV_some, gI_hh, gJ_hh, mSumEnd (B := B) (d' + 6) s2 s6 s7 hle hadd]
          · refine sgW.fin (w := w) (m := m) (hsg.ext (fun j hj => ?_)) hw' ?_
            · rw [putF_c, if_neg (by omega)]
            · rw [putF_c, if_pos rfl]
          · rw [putF_c, if_neg (by omega)]
/-- a sum -/
theorem tk_sum {I A : IT} {J B : JT} {by_ : Nat → Nat} {n tk i p r sz pc : Nat} (d d' : Nat) (h : RlS I A by_ n tk i p r sz sz pc) (hb : 3 * sz ≤ 14 * pc) : RlO r 61 0 I A J B by_ n tk (ev (d + 2) mRu_readSum 0 [vR (37, r), vR (1, 0), vU, vU, vU, vU] [] (hh I J)) (ev (d' + 7) mMo_sum 0 [vR (43, 0), vU] [] (hh A B)) (fun I' A' => ∃ i' sz' pc', RlS I' A' by_ n tk i' (tpk by_ n i') r sz' sz' pc' ∧ i < i' ∧ SgR (I' (38, r)) sz sz' 3 (fun _ => True) ∧ (∀ j, j < sz → I' (38, r) j = I (38, r) j) ∧ 3 * sz' + 11 + 14 * pc ≤ 14 * pc' + 3 * sz ∧ sz ≤ sz') := by
  have hpc : pc ≤ 60 := h.2.2.2.1.2.2
  obtain ⟨I2, A2, v1, v2, v3, v4, v5⟩ := tk_val (J := J) (B := B) d d' h (by omega)
  have hC : ev (d + 2) mRu_readSum 0 [vR (37, r), vR (1, 0), vU, vU, vU, vU] [] (hh I J) = ev (d + 2) mRu_readSum 7 [vR (37, r), vR (1, 0), vI (-1), vI (nJ 0), vU, vU] [] (hh I2 J) := by
    rw [eRu_readSum_0, v1, bV_some]
    rfl
  have hM : ∀ A3, ev (d' + 5) mMo_blanks 0 [vR (43, 0)] [] (hh A2 B) = some (none, hh A3 B) → ev (d' + 7) mMo_sum 0 [vR (43, 0), vU] [] (hh A B) = sumK d' (-1) A3 B := fun A3 hA3 => by
    rw [eMo_sum_0, eMo_term_0, v2, bV_some, gI_hh, gJ_hh, hA3, bV_some]
    unfold sumK
    congr 1
  rcases v5 with ⟨f, f1, f2, f3, f4⟩ | ⟨q, x, g1, g2, g3, g4, g5⟩
  · obtain ⟨I4, y1, y2, y3⟩ := cSum7F (J := J) d (-1) (nJ 0) f1 f2 f3
    obtain ⟨q, -, u1, u2, -⟩ := f4.bl (B := B) (d' + 4)
    exact RlO.flt (hC.trans y1) ((hM _ u1).trans (sumK_F d' _ (u2.n0 f1 f2))) (v3.tr y2) (v4.tr FrN.u27) f1 f2 y3 u2
  · have hcod : ∀ j, j < sz → I2 (38, r) j = I (38, r) j := fun j hj => by rw [g5 j, if_neg (by omega)]
    obtain ⟨I5, A5, k1, k2, k3, k4, k5⟩ := smm_go (J := J) (B := B) d d' _ I2 (spp A2 (tpk by_ n (i + 1))) (i + 1) (sz + 1) (pc + 1) 0 sz sz sz pc (-1) rfl g1.bl (by omega) (Or.inl rfl) (Or.inl ⟨rfl, (sg_val (by rw [g5 sz, if_pos rfl]; exact g4)).mono (by decide) (fun _ _ => trivial)⟩) (by rw [if_pos rfl]; omega) hb
    refine ⟨I5, A5, hC.trans k1, (hM _ (g1.blev (d' + 4))).trans k2, v3.tr k3, (v4.tr FrN.u27).tr k4, ?_⟩
    rcases k5 with k5 | ⟨i', sz', pc', l1, l2, l3, l4, l5, l6⟩
    · exact Or.inl k5
    · exact Or.inr ⟨i', sz', pc', l1, by omega, l3, fun j hj => by rw [l4 j (by omega), hcod j hj], by omega, by omega⟩
