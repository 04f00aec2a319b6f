/-! CHOOSE: a trial for each free sentence -/
/-- between two trials: all is as it was, and the rows are kept -/
def TrB (I A I2 A2 : IT) : Prop := FwC I I2 5 ∧ (∀ a i, ¬ (a = (87, 0) ∧ 3400 ≤ i) → ¬ (a = (43, 0) ∧ (i = 61 ∨ i = 62)) → A2 a i = A a i) ∧ Kpt A A2
theorem TrB.rel {I A I2 A2 : IT} (h : Rel I A) (hb : TrB I A I2 A2) : Rel I2 A2 ∧ FrC I I2 ∧ FrM A A2 := h.trial (fun a ha _ => hb.1 a ha) (fun a i a1 a2 _ _ => hb.2.1 a i a1 a2)
theorem TrB.views {I A I2 A2 : IT} (hb : TrB I A I2 A2) : scC I2 0 = scC I 0 ∧ scM A2 = scM A := by
  refine ⟨scC_ext (fun a k a1 a2 a3 => by rw [hb.1 a (fun z => by omega)]), scM_ext (fun a k ha => hb.2.1 a k (fun z => ?_) (fun z => ?_))⟩
  · rcases ha with ⟨e, hk⟩ | ha | ha
    · rw [e] at z; cases z.1
    · rw [z.1] at ha; simp at ha
    · rw [z.1] at ha; simp at ha
  · rcases ha with ⟨e, hk⟩ | ha | ha
    · omega
    · rw [z.1] at ha; simp at ha
    · rw [z.1] at ha; simp at ha
theorem TrB.rus {I A I2 A2 : IT} {q : Nat} (hb : TrB I A I2 A2) (hru : RusR I A q) : RusR I2 A2 q := RusR_ext (fun a k ha => by
      rw [hb.1 a (fun z => by
        rcases ha with ⟨e, -⟩ | ha
        · rw [e] at z; simp at z
        · omega)]) (fun a k ha => hb.2.1 a k (fun z => by
        rcases ha with ⟨e, -⟩ | ha
        · rw [e] at z; simp at z
        · rw [z.1] at ha; simp at ha) (fun z => by
        rcases ha with ⟨e, hk⟩ | ha
        · omega
        · rw [z.1] at ha; simp at ha)) hru
def FoR (I A : IT) (q : Nat) : Prop := I (7, 0) 2 = A (44, 0) 12 ∧ (I (7, 0) 2 = -1 ∨ ∃ r, r < q ∧ I (7, 0) 2 = nJ r)
theorem tr_step {I A I2 A2 : IT} {J2 B2 : JT} {K K' : Hp → Option Rs} {Q : Option Vl → IT → JT → Option Vl → IT → JT → Prop} {T S N D q : Nat} (d0 d d' m : Nat) (hm : m ≤ 100) (hru : RusR I A q) (hf : FoR I A q) (hro : RoR (scC I 0) (scM A) T S N) (hwk : WkR (scC I 0) (scM A) T S N 10) (hD : D < 1000) (eD : I (17, 0) 0 = nJ D) (hb : TrB I A I2 A2) (pI pA : IT → IT)
    (hp : ∀ I3, WkR (scC I3 5) (scM A2) T S N 10 → WkR (scC (pI I3) 5) (scM (pA A2)) T S N 10) (hI : ∀ I3, FwC I3 (pI I3) 5 ∧ pI I3 (17, 5) 0 = I3 (17, 5) 0) (hA : FwM A2 (pA A2))
    (hK : ∀ I4 A4 J4 B4, FwC I I4 5 → FwM A2 A4 → WkR (scC I4 5) (scM A4) T S N 10 → R2 (K (hh I4 J4)) (K' (hh A4 B4)) Q) :
    R2 (bV (ev d0 mWa_copyFrom 0 [vR (17, 5), vR (17, 0)] [] (hh I2 J2)) (fun h1 => bV (ev (d + 5) mPx_goOn 0 [vR (0, 0), vI (nJ m), vU, vU] [] (hh (pI (gI h1)) (gJ h1))) (fun h2 => K h2))) (bV (ev (d' + 7) mMo_goFor 0 [vR (43, 0), vI (nJ m), vU] [] (hh (pA A2) B2)) (fun h1 => K' h1)) Q := by
  obtain ⟨v1, v2⟩ := hb.views
  have hN := hro.1.2.2.1
  have hS := hro.1.2.1
  refine R2.lV ((cTrial d0 I2 J2).mono fun v I3 J3 ⟨q1, hc, hfw, _⟩ => ⟨q1, ?_⟩)
  have hwk2 : WkR (scC I2 0) (scM A2) T S N 10 := by rw [v1, v2]; exact hwk
  have hro2 : RoR (scC I2 0) (scM A2) T S N := by rw [v1, v2]; exact hro
  have hwk3 : WkR (scC I3 5) (scM A2) T S N 10 := trial_wk hN hS hc (fun _ _ _ => rfl) hwk2
  obtain ⟨f1, f2⟩ := hI I3
  have f3 : FwC I2 (pI I3) 5 := FwC.tr hfw f1
  have hro3 : RoR (scC (pI I3) 0) (scM (pA A2)) T S N := FwC.ro f3 hA hro2
  have hru3 : RusR (pI I3) (pA A2) q := RusR.fw f3 hA (hb.rus hru)
  have e72 : pI I3 (7, 0) 2 = I (7, 0) 2 := by rw [f3 (7, 0) (by decide), hb.1 (7, 0) (by decide)]
  have e12 : pA A2 (44, 0) 12 = A (44, 0) 12 := (hA (44, 0) 12 (nwc (Or.inr (Or.inr (Or.inr ⟨rfl, Or.inr (by decide)⟩))))).trans (hb.2.1 (44, 0) 12 (fun z => by cases z.1) (fun z => by cases z.1))
  have hf3 : pI I3 (7, 0) 2 = pA A2 (44, 0) 12 ∧ (pI I3 (7, 0) 2 = -1 ∨ ∃ r, r < q ∧ pI I3 (7, 0) 2 = nJ r) := by
    rw [e72, e12]; exact hf
  have eD3 : pI I3 (17, 5) 0 = nJ D := by
    rw [f2, hc.1 0 (by decide), hb.1 (17, 0) (by decide)]
    exact eD
  refine R2.bVV ((go_R2 d d' m T S N D q (pI I3) (pA A2) J3 B2 (by omega) (by omega) hru3 hf3 hro3 (hp I3 hwk3) eD3).mono fun v I4 J4 v' A4 B4 ⟨p1, p2, p3, p4, p5, p6⟩ => ⟨p1, p2, ?_⟩)
  exact hK I4 A4 J4 B4 (FwC.tr hb.1 (FwC.tr f3 p5)) (FwM.tr hA p6) p3
theorem tr_laid {I A I2 A2 I4 A4 : IT} {B4 : JT} (d : Nat) (hb : TrB I A I2 A2) (h4 : FwC I I4 5) (f : FwM A2 A4) : Tr (ev (d + 2) mMo_laysBack 0 [vR (43, 0)] [] (hh A4 B4)) (fun v A5 _ => v = none ∧ TrB I A I4 A5) :=
  (mBack d A4 B4).mono fun v A5 B5 ⟨q1, q2, q3, _⟩ => ⟨q1, h4, laid hb.2.2 hb.2.1 (fun a i a1 _ => f a i a1) q2 q3⟩
theorem m1_lt {S : Nat} (h : S ≤ 6) : (-1 : Int32) < nJ S := by
  have : S = 0 ∨ S = 1 ∨ S = 2 ∨ S = 3 ∨ S = 4 ∨ S = 5 ∨ S = 6 := by omega
  rcases this with rfl | rfl | rfl | rfl | rfl | rfl | rfl <;> decide
theorem ch_go (d d' w m T S N D q : Nat) (I A : IT) (x3 : Int32) (h : Rel I A) (hm : m ≤ 100) (hw : w < N) (hru : RusR I A q) (hf : FoR I A q) (hro : RoR (scC I 0) (scM A) T S N) (hwk : WkR (scC I 0) (scM A) T S N 10) (hD : D < 1000) (eD : I (17, 0) 0 = nJ D) : ∀ (j k : Nat) (x4 x5 : Int32) (I2 A2 : IT) (J2 B2 : JT), k + j = S → TrB I A I2 A2 →
    R2 (ev (d + 6) mPx_choose 23 [vR (0, 0), vI (nJ w), vI (nJ m), vI x3, vI x4, vI x5, vI (nJ k)] [] (hh I2 J2)) (ev (d' + 8) mMo_choose 26 [vR (43, 0), vI (nJ w), vI (nJ m), vI x3, vI x4, vI x5, vI (nJ k), vU] [] (hh A2 B2)) (CalQ I A) := by
  have hN := hro.1.2.2.1
  have hS := hro.1.2.1
  have e3 : I (8, 0) 3 = nJ S := hro.2.1.2.2.2.1
  have m3 : A (44, 0) 3 = nJ S := hro.2.1.2.2.2.2.1
  obtain ⟨p, hp6, cp, mp⟩ := hwk.2.2.1
  have cp : I (17, 0) 2 = nJ p := cp
  have mp : A (44, 0) 7 = nJ p := mp
  intro j
  induction j with
  | zero =>
    intro k x4 x5 I2 A2 J2 B2 hk hb
    obtain rfl : k = S := by omega
    have e3' : I2 (8, 0) 3 = nJ k := by rw [hb.1 (8, 0) (by decide)]; exact e3
    have m3' : A2 (44, 0) 3 = nJ k := (hb.2.1 (44, 0) 3 (fun z => by cases z.1) (fun z => by cases z.1)).trans m3
    rw [ePx_choose_23, eMo_choose_26, e3', m3', if_neg (nlt_nJ (Nat.le_refl k) (by omega)), if_neg (nlt_nJ (Nat.le_refl k) (by omega))]
    by_cases h3 : x3 = 0
    · rw [if_pos h3, if_pos h3]
      exact R2.ret ⟨⟨_, rfl, rfl⟩, hb.rel h⟩
    · rw [if_neg h3, if_neg h3]
      exact R2.ret ⟨⟨_, rfl, rfl⟩, hb.rel h⟩
  | succ j ih =>
    intro k x4 x5 I2 A2 J2 B2 hk hb
    have hkS : k < S := by omega
    have e3' : I2 (8, 0) 3 = nJ S := by rw [hb.1 (8, 0) (by decide)]; exact e3
    have m3' : A2 (44, 0) 3 = nJ S := (hb.2.1 (44, 0) 3 (fun z => by cases z.1) (fun z => by cases z.1)).trans m3
    have cp' : I2 (17, 0) 2 = nJ p := by rw [hb.1 (17, 0) (by decide)]; exact cp
    have mp' : A2 (44, 0) 7 = nJ p := (hb.2.1 (44, 0) 7 (fun z => by cases z.1) (fun z => by cases z.1)).trans mp
    have e22 : I2 (22, 0) k = A2 (51, 0) k := by
      rw [hb.1 (22, 0) (by decide), hb.2.1 (51, 0) k (fun z => by cases z.1) (fun z => by cases z.1)]
      exact (hwk.2.2.2.2.2.2.1 k hkS).1.1
    have tk : tn (nJ k) = k := nJ_nat (by omega)
    have hk1 : ¬ nJ k = -1 := nJ_nm1 (by omega)
    have hin : inn (nJ k) S := ⟨nJ_nn (by omega), lt_nJ hkS (by omega)⟩
    rw [ePx_choose_23, eMo_choose_26, e3', m3', if_pos (lt_nJ hkS (by omega)), if_pos (lt_nJ hkS (by omega)), if_neg hk1, if_neg hk1, cOpen _ _ hS e3' hp6 cp', mFree _ (show k < 6 by omega) hp6 mp', bI_some, bI_some, bif2, bif2, tk, e22]
    by_cases hq : A2 (51, 0) k = -1 ∧ p.testBit k = false
    · rw [if_pos (And.intro hin hq), if_pos hq]
      simp only [if_neg hk1, bnd (show k < 6 by omega) (show 6 ≤ 100000 by decide), bnk (show k < 6 by omega) (show 6 ≤ 100000 by decide), bnd (show w < 3 by omega) (show 3 ≤ 100000 by decide), bnk (show w < 3 by omega) (show 3 ≤ 100000 by decide), nJ_nat (show k < 2147483648 by omega), nJ_nat (show w < 2147483648 by omega), gI_hh, gJ_hh, nJ_succ]
      refine tr_step (d + 5) d d' m hm hru hf hro hwk hD eD hb (fun I => up2 I (22, 5) k (nJ w)) (fun A => up2 A (51, 0) k (nJ w)) (fun I3 g => WkR.own g hkS hS (Or.inr ⟨w, hw, rfl⟩) (fun f j _ _ => scC_up (by omega) f j) (fun f j _ _ => scM_up (by omega) f j)) (fun I3 => ⟨FwC.up (by decide), up_ne _ _ _ _ (by decide)⟩) (fun a j ha => if_neg fun z => ha (Or.inr (Or.inl ⟨Or.inl z.1, by omega⟩))) fun I4 A4 J4 B4 g1 g2 g3 => ?_
      refine R2.rV ((tr_laid (d' + 5) hb g1 g2).mono fun v A5 B5 ⟨z1, z2⟩ => ⟨z1, ?_⟩)
      have e20 : I4 (20, 5) w = A4 (55, 0) w := (place_same g3 hw).2.2.1
      simp only [gI_hh, gJ_hh, e20]
      by_cases hx : x5 < A4 (55, 0) w
      · rw [if_pos hx, if_pos hx]
        exact ih (k + 1) _ _ I4 A5 _ _ (by omega) z2
      · rw [if_neg hx, if_neg hx]
        exact ih (k + 1) _ _ I4 A5 _ _ (by omega) z2
    · rw [if_neg (fun z => hq z.2), if_neg hq, nJ_succ]
      exact ih (k + 1) x4 x5 I2 A2 _ _ (by omega) hb
theorem t_choose {I A : IT} {J B : JT} (d : Nat) (x y t : Int32) (h : Rel I A) : Cal (ev (d + 8) mPx_choose 0 [vR (0, 0), vI x, vI y, vI t, vU, vU, vU] [] (hh I J)) (ev (d + 8) mMo_choose 0 [vR (43, 0), vI x, vI y, vI t, vU, vU, vU, vU] [] (hh A B)) I A := by
  obtain ⟨q, T, S, N, hru, hro, hwk, ⟨D, hD, eD⟩, et, hf, hp⟩ := ScR.parts h
  have hS := hro.1.2.1
  have hN := hro.1.2.2.1
  have e3 : I (8, 0) 3 = nJ S := hro.2.1.2.2.2.1
  have m3 : A (44, 0) 3 = nJ S := hro.2.1.2.2.2.2.1
  have m4 : A (44, 0) 4 = nJ N := hro.2.1.2.2.2.2.2.2
  rw [ePx_choose_0, eMo_choose_0, cCan _ _ hro, mCan _ _ hN m4, bI_some, bI_some, bif2, bif2]
  by_cases hc : inn x N ∧ (A (54, 0) (tn x) = 0 ∧ A (53, 0) (tn x) = 0) ∧ ¬ A (44, 0) 5 < A (56, 0) (tn x)
  · rw [if_pos (Eq.mpr (can_same hN hwk) hc), if_pos hc, gI_hh, gJ_hh, gI_hh, gJ_hh, mIn _ y 1 100 1 100 rfl rfl, bI_some, bif2, mIn _ t 0 1 0 1 rfl rfl, bI_some, bif2]
    by_cases y0 : y < 1
    · rw [if_pos y0, if_neg (fun z => z.1 y0)]
      exact Cal.ro rfl rfl h
    by_cases y1 : (100 : Int32) < y
    · rw [if_neg y0, if_pos y1, if_neg (fun z => z.2 y1)]
      exact Cal.ro rfl rfl h
    rw [if_neg y0, if_neg y1, if_pos (And.intro y0 y1)]
    by_cases t0 : t < 0
    · rw [if_pos t0, if_neg (fun z => z.1 t0)]
      exact Cal.ro rfl rfl h
    by_cases t1 : (1 : Int32) < t
    · rw [if_neg t0, if_pos t1, if_neg (fun z => z.2 t1)]
      exact Cal.ro rfl rfl h
    rw [if_neg t0, if_neg t1, if_pos (And.intro t0 t1)]
    have ym : ∃ m, m ≤ 100 ∧ y = nJ m := by
      have y2 : ¬ y < 0 := by
        rw [i_lt] at y0 ⊢
        have a1 : (1 : Int32).toInt = 1 := rfl
        have a2 : (0 : Int32).toInt = 0 := rfl
        omega
      have e := nJ_of y2
      rw [e] at y1
      rw [show (100 : Int32) = nJ 100 from rfl, nJ_lt (by decide) (nat_lt31 y)] at y1
      exact ⟨_, by omega, e⟩
    obtain ⟨m, hm, rfl⟩ := ym
    obtain ⟨w, hw, rfl⟩ := inn_ex (by omega) hc.1
    refine R2.rV ((mKeep (d + 5) A B).mono fun v A1 B1 ⟨q2, hk, hfr, _⟩ => ⟨q2, ?_⟩)
    have hb : TrB I A I A1 := ⟨FwC.rf I 5, hfr, hk⟩
    have m3' : A1 (44, 0) 3 = nJ S := (hb.2.1 (44, 0) 3 (fun z => by cases z.1) (fun z => by cases z.1)).trans m3
    have m1 : (-1 : Int32) = -1 := rfl
    simp only [gI_hh, gJ_hh]
    rw [ePx_choose_23, eMo_choose_26, e3, m3', if_pos (m1_lt hS), if_pos (m1_lt hS), if_pos m1, if_pos m1, if_pos m1]
    simp only [if_pos m1, bnd (show w < 3 by omega) (show 3 ≤ 100000 by decide), bnk (show w < 3 by omega) (show 3 ≤ 100000 by decide), nJ_nat (show w < 2147483648 by omega), gI_hh, gJ_hh, show (-1 : Int32) + 1 = nJ 0 from rfl]
    refine tr_step (d + 7) (d + 2) d m hm hru hf hro hwk hD eD hb (fun I => I) (fun A => A) (fun I3 g => g) (fun I3 => ⟨FwC.rf I3 5, rfl⟩) (FwM.rf A1) fun I4 A4 J4 B4 g1 g2 g3 => ?_
    refine R2.rV ((tr_laid (d + 5) hb g1 g2).mono fun v A5 B5 ⟨z1, z2⟩ => ⟨z1, ?_⟩)
    have e20 : I4 (20, 5) w = A4 (55, 0) w := (place_same g3 hw).2.2.1
    simp only [gI_hh, gJ_hh, e20]
    by_cases hx : (-1 : Int32) < A4 (55, 0) w
    · rw [if_pos hx, if_pos hx]
      exact ch_go (d + 2) d w m T S N D q I A t h hm hw hru hf hro hwk hD eD S 0 _ _ I4 A5 _ _ (by omega) z2
    · rw [if_neg hx, if_neg hx]
      exact ch_go (d + 2) d w m T S N D q I A t h hm hw hru hf hro hwk hD eD S 0 _ _ I4 A5 _ _ (by omega) z2
  · rw [if_neg (fun z => hc (Eq.mp (can_same hN hwk) z)), if_neg hc]
    exact Cal.ro rfl rfl h
