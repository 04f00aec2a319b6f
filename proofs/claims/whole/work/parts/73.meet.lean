/-! one day of a trial; MEET -/
theorem R2.lret {o o' : Option Rs} {f : Int32 → Hp → Option Rs} {Q : Option Vl → IT → JT → Option Vl → IT → JT → Prop} (h : R2 o o' (fun v I J v' A B => ∃ x, v = some (vI x) ∧ f x (hh I J) = some (none, hh I J) ∧ Q none I J v' A B)) : R2 (bI o f) o' Q := by
  obtain ⟨v, I, J, rfl, v', A, B, rfl, x, rfl, e, hQ⟩ := h
  exact ⟨none, I, J, e, v', A, B, rfl, hQ⟩
def OnQ (I A : IT) (T S N D : Nat) : Option Vl → IT → JT → Option Vl → IT → JT → Prop := fun v I' _ v' A' _ => v = none ∧ (∃ x, v' = some (vI x)) ∧ WkR (scC I' 5) (scM A') T S N 10 ∧ I' (17, 5) 0 = nJ (D + 1) ∧ FwC I I' 5 ∧ FwM A A'
theorem one_R2 (d d' T S N D q : Nat) (I A : IT) (J B : JT) (hD : D < 2000) (hr : RusR I A q) (hf : I (7, 0) 2 = A (44, 0) 12 ∧ (I (7, 0) 2 = -1 ∨ ∃ r, r < q ∧ I (7, 0) 2 = nJ r)) (hro : RoR (scC I 0) (scM A) T S N) (hwk : WkR (scC I 5) (scM A) T S N 11) (eD : I (17, 5) 0 = nJ D) :
    R2 (ev (d + 5) mPx_goOn 0 [vR (0, 0), vI 1, vU, vU] [] (hh I J)) (ev (d' + 6) mMo_goes 0 [vR (43, 0), vU, vU] [] (hh A B)) (OnQ I A T S N D) := by
  obtain ⟨rl, h1, h2, h3⟩ := cForce hr hf
  have hp := pass_goes d d' 5 T S N D rl I A J B hD hro hwk eD h1
  rw [ePx_goOn_0, h3]
  rcases h2 with rfl | ⟨a, rfl⟩
  · show R2 (ev (d + 5) mPx_goOn 5 [vR (0, 0), vI 1, vN, vI 0] [] (hh I J)) _ _
    rw [ePx_goOn_5N, if_pos (by decide)]
    refine R2.lret (hp.mono fun v I1 J1 v' A1 B1 ⟨⟨x, q1, q2⟩, q3, q4, q5, q6⟩ => ⟨x, q1, ?_, rfl, ⟨x, q2⟩, q3, q4, q5, q6⟩)
    show ev (d + 5) mPx_goOn 5 [vR (0, 0), vI 1, vN, vI (0 + 1)] [] (hh I1 J1) = _
    rw [ePx_goOn_5N, if_neg (by decide)]
  · show R2 (ev (d + 5) mPx_goOn 5 [vR (0, 0), vI 1, vR a, vI 0] [] (hh I J)) _ _
    rw [ePx_goOn_5, if_pos (by decide)]
    refine R2.lret (hp.mono fun v I1 J1 v' A1 B1 ⟨⟨x, q1, q2⟩, q3, q4, q5, q6⟩ => ⟨x, q1, ?_, rfl, ⟨x, q2⟩, q3, q4, q5, q6⟩)
    show ev (d + 5) mPx_goOn 5 [vR (0, 0), vI 1, vR a, vI (0 + 1)] [] (hh I1 J1) = _
    rw [ePx_goOn_5, if_neg (by decide)]
/-- what holds in the midst of a trial that goes on day by day -/
def TrI (I A I2 A2 : IT) (T S N D q G : Nat) : Prop := TrS I A I2 A2 ∧ RoR (scC I2 0) (scM A2) T S N ∧ WkR (scC I2 5) (scM A2) T S N G ∧ I2 (17, 5) 0 = nJ D ∧ RusR I2 A2 q ∧ (I2 (7, 0) 2 = A2 (44, 0) 12 ∧ (I2 (7, 0) 2 = -1 ∨ ∃ r, r < q ∧ I2 (7, 0) 2 = nJ r))
theorem RusR.fw {I A I' A' : IT} {q n : Nat} (h1 : FwC I I' n) (h2 : FwM A A') (h : RusR I A q) : RusR I' A' q := RusR_ext (fun a k ha => by
  rw [h1 a (fun z => by
    rcases ha with ⟨e, -⟩ | ha
    · rw [e] at z; simp at z
    · omega)]) (fun a k ha => h2 a k (nwc (by
    rcases ha with ⟨e, -⟩ | ha
    · rw [e]; exact Or.inl (by decide)
    · omega))) h
theorem TrI.fw {I A I2 A2 I3 A3 : IT} {T S N D q G D' G' : Nat} (h : TrI I A I2 A2 T S N D q G) (h1 : FwC I2 I3 5) (h2 : FwM A2 A3) (hw : WkR (scC I3 5) (scM A3) T S N G') (eD : I3 (17, 5) 0 = nJ D') : TrI I A I3 A3 T S N D' q G' := by
  obtain ⟨⟨s1, A1, s2, s3, s4⟩, a2, -, -, a5, a6⟩ := h
  have e72 : I3 (7, 0) 2 = I2 (7, 0) 2 := by rw [h1 (7, 0) (by decide)]
  refine ⟨⟨s1.tr h1, A1, s2, s3, fun a i b1 b2 => (h2 a i b1).trans (s4 a i b1 b2)⟩, FwC.ro h1 h2 a2, hw, eD, RusR.fw h1 h2 a5, ?_⟩
  rw [e72, h2 (44, 0) 12 (nwc (Or.inr (Or.inr (Or.inr ⟨rfl, Or.inr (by decide)⟩))))]
  exact a6
/-- a trial begins -/
theorem trial0 {I A : IT} {J B : JT} {K K' : Hp → Option Rs} {Q : Option Vl → IT → JT → Option Vl → IT → JT → Prop} (d d' : Nat) (h : Rel I A)
    (hK : ∀ T S N D q I2 A2 J2 B2, D < 1000 → RoR (scC I 0) (scM A) T S N → WkR (scC I 0) (scM A) T S N 10 → I (17, 0) 0 = nJ D → TrI I A I2 A2 T S N D q 10 → R2 (K (hh I2 J2)) (K' (hh A2 B2)) Q) :
    R2 (bV (ev d mWa_copyFrom 0 [vR (17, 5), vR (17, 0)] [] (hh I J)) (fun h1 => K h1)) (bV (ev (d' + 2) mMo_keepsAll 0 [vR (43, 0)] [] (hh A B)) (fun h1 => K' h1)) Q := by
  obtain ⟨q, -, hru, ⟨T, S, N, hro, hwk, ⟨D, hD, eD⟩, -, hf, -⟩, -⟩ := id h
  have hN := hro.1.2.2.1
  have hS := hro.1.2.1
  refine R2.lV ((cTrial d I J).mono fun v I1 J1 ⟨q1, hc, hfw, _⟩ => ⟨q1, ?_⟩)
  refine R2.rV ((mKeep d' A B).mono fun v A1 B1 ⟨q2, hk, hfr, _⟩ => ⟨q2, ?_⟩)
  have hA1 : ∀ a i, a.1 ≠ 87 → a.1 ≠ 43 → A1 a i = A a i := fun a i a1 a2 => hfr a i (fun z => a1 (by rw [z.1])) (fun z => a2 (by rw [z.1]))
  have hwk1 : WkR (scC I1 5) (scM A1) T S N 10 := trial_wk hN hS hc (fun a k hw => by
    rcases hw with ⟨e, -⟩ | ⟨e | e, -⟩ | ⟨⟨e1, e2, -⟩, -⟩
    · exact hA1 a k (by rw [e]; decide) (by rw [e]; decide)
    · exact hA1 a k (by rw [e]; decide) (by rw [e]; decide)
    · exact hA1 a k (by rw [e]; decide) (by rw [e]; decide)
    · exact hA1 a k (by omega) (by omega)) hwk
  have hro1 : RoR (scC I1 0) (scM A1) T S N := by
    have e1 : RoR (scC I1 0) (scM A) T S N := FwC.ro hfw (FwM.rf A) hro
    refine RoR_ext (fun _ _ _ _ => rfl) (fun f k hf => ?_) e1
    have hf43 : Nat.beq f 43 = false := beq_f (by omega)
    unfold scM
    rw [hf43, hA1 (f, 0) k (by show f ≠ 87; omega) (by show f ≠ 43; omega)]
    rfl
  have hru1 : RusR I1 A1 q := RusR_ext (fun a k ha => by
      rw [hfw a (fun z => by
        rcases ha with ⟨e, -⟩ | ha
        · rw [e] at z; simp at z
        · omega)]) (fun a k ha => hfr a k (fun z => by
        rcases ha with ⟨e, -⟩ | ha
        · rw [e] at z; simp at z
        · rw [z.1] at ha; simp at ha) (fun z => by
        rcases ha with ⟨e, hk⟩ | ha
        · omega
        · rw [z.1] at ha; simp at ha)) hru
  have e72 : I1 (7, 0) 2 = I (7, 0) 2 := by rw [hfw (7, 0) (by decide)]
  have hf1 : I1 (7, 0) 2 = A1 (44, 0) 12 ∧ (I1 (7, 0) 2 = -1 ∨ ∃ r, r < q ∧ I1 (7, 0) 2 = nJ r) := by
    rw [e72, hA1 (44, 0) 12 (by decide) (by decide)]
    exact hf
  exact hK T S N D q I1 A1 J1 B1 hD hro hwk eD ⟨⟨hfw, A1, hk, hfr, fun _ _ _ _ => rfl⟩, hro1, hwk1, (hc.1 0 (by decide)).trans eD, hru1, hf1⟩
theorem cTogether {I : IT} {J : JT} (d n a b : Nat) (ha : a < 3) (hb : b < 3) : ev d mWa_together 0 [vR (17, n), vI (nJ a), vI (nJ b)] [] (hh I J) = some (some (vI (if I (19, n) a = 0 ∧ I (19, n) b = 0 ∧ I (18, n) a = I (18, n) b then 1 else 0)), hh I J) := by
  rw [eWa_together_0]
  simp only [bnd ha (show 3 ≤ 100000 by decide), bnk ha (show 3 ≤ 100000 by decide), bnd hb (show 3 ≤ 100000 by decide), bnk hb (show 3 ≤ 100000 by decide), nJ_nat (show a < 2147483648 by omega), nJ_nat (show b < 2147483648 by omega), gI_hh, gJ_hh]
  by_cases h1 : I (19, n) a = 0
  · by_cases h2 : I (19, n) b = 0
    · by_cases h3 : I (18, n) a = I (18, n) b
      · rw [if_pos h1, if_pos h2, if_pos h3, if_pos (And.intro h1 (And.intro h2 h3))]
      · rw [if_pos h1, if_pos h2, if_neg h3, if_neg (fun z => h3 z.2.2)]
    · rw [if_pos h1, if_neg h2, if_neg (fun z => h2 z.2.1)]
  · rw [if_neg h1, if_neg (fun z => h1 z.1)]
theorem meet_go (d d' a b T S N q : Nat) (I A : IT) (h : Rel I A) (ha : a < N) (hb : b < N) : ∀ (j i D : Nat) (I2 A2 : IT) (J2 B2 : JT), i + j = 100 → D + j < 1200 → TrI I A I2 A2 T S N D q 10 →
    R2 (ev (d + 6) mPx_meet 15 [vR (0, 0), vI (nJ a), vI (nJ b), vI (nJ i)] [] (hh I2 J2)) (ev (d' + 7) mMo_meet 19 [vR (43, 0), vI (nJ a), vI (nJ b), vI (-2), vI (nJ i)] [] (hh A2 B2)) (CalQ I A) := by
  intro j
  induction j with
  | zero =>
    intro i D I2 A2 J2 B2 hi hD ht
    obtain rfl : i = 100 := by omega
    rw [ePx_meet_15, eMo_meet_19, if_neg (nlt_nL (b := 100) (Nat.le_refl _) (by decide)), if_neg (nlt_nL (b := 100) (Nat.le_refl _) (by decide))]
    exact tr_end _ _ h ht.1
  | succ j ih =>
    intro i D I2 A2 J2 B2 hi hD ht
    have hN := ht.2.1.1.2.2.1
    obtain ⟨-, hro, hwk, eD, hru, hf⟩ := id ht
    obtain ⟨f1, f2, -⟩ := place_same hwk ha
    obtain ⟨g1, g2, -⟩ := place_same hwk hb
    have hone := one_R2 d d' T S N D q I2 A2 J2 B2 (by omega) hru hf hro hwk.up10 eD
    have mD : A2 (44, 0) 5 = nJ D := (show I2 (17, 5) 0 = A2 (44, 0) 5 from hwk.1).symm.trans eD
    have hta : ∃ t, A2 (53, 0) a = nJ t ∧ t < 8 := by
      obtain ⟨t, h1, h2⟩ := (hwk.2.2.2.2.2.1 a ha).1.2
      exact ⟨t, f1 ▸ h2, by have := hro.1.1; omega⟩
    have hnext : R2 (bV (ev (d + 5) mPx_goOn 0 [vR (0, 0), vI 1, vU, vU] [] (hh I2 J2)) (fun h2 => ev (d + 6) mPx_meet 15 [vR (0, 0), vI (nJ a), vI (nJ b), vI (nJ (i + 1))] [] (hh (gI h2) (gJ h2)))) (bI (ev (d' + 6) mMo_goes 0 [vR (43, 0), vU, vU] [] (hh A2 B2)) (fun r2 h2 => ev (d' + 7) mMo_meet 19 [vR (43, 0), vI (nJ a), vI (nJ b), vI (-2), vI (nJ (i + 1))] [] (hh (gI h2) (gJ h2)))) (CalQ I A) := by
      obtain ⟨v, I3, J3, e1, v', A3, B3, e2, rfl, ⟨x, rfl⟩, p3, p4, p5, p6⟩ := hone
      rw [e1, e2]
      exact ih (i + 1) (D + 1) I3 A3 J3 B3 (by omega) (by omega) (ht.fw p5 p6 p3 p4)
    rw [ePx_meet_15, eMo_meet_19, if_pos (lt_nL (b := 100) (show i < 100 by omega) (by decide)), if_pos (lt_nL (b := 100) (show i < 100 by omega) (by decide)), if_pos rfl, cTogether _ _ a b (by omega) (by omega), bI_some, bif2, gI_hh, gJ_hh, nJ_succ, mTownOf _ a (by omega), bI_some, gI_hh, gJ_hh, mTownOf _ a (by omega), bI_some, gI_hh, gJ_hh, mTownOf _ b (by omega), bI_some, gI_hh, gJ_hh, f1, f2, g1, g2, mD, eD]
    obtain ⟨t, et, ht8⟩ := hta
    by_cases h1 : A2 (54, 0) a = 0
    · rw [if_pos h1, et, if_neg (nJ_nm1 (by omega))]
      by_cases h2 : A2 (54, 0) b = 0
      · rw [if_pos h2]
        by_cases h3 : nJ t = A2 (53, 0) b
        · rw [if_pos h3, if_pos (And.intro h1 (And.intro h2 h3))]
          obtain ⟨v, I3, J3, e1, v', A3, B3, e2, -, ⟨x, rfl⟩, p3, p4, p5, p6⟩ := hone
          rw [e2, bI_some, gI_hh, gJ_hh]
          have hts : TrS I A I2 A3 := by
            obtain ⟨s1, A1, s2, s3, s4⟩ := ht.1
            exact ⟨s1, A1, s2, s3, fun a i b1 b2 => (p6 a i b1).trans (s4 a i b1 b2)⟩
          rw [eMo_meet_19, if_neg (show ¬ nJ D = -2 from fun z => by
            have := nJ_nn (a := D) (by omega)
            rw [z] at this
            exact this (by decide))]
          split
          · exact tr_end _ _ h hts
          · exact tr_end _ _ h hts
        · rw [if_neg h3, if_neg (fun z => h3 z.2.2)]
          exact hnext
      · rw [if_neg h2, if_neg (nJ_nm1 (by omega)), if_neg (fun z => h2 z.2.1)]
        exact hnext
    · rw [if_neg h1, if_pos rfl, if_neg (fun z => h1 z.1)]
      exact hnext
theorem cTwo {I : IT} {J : JT} {N : Nat} (d : Nat) (x y : Int32) (h : I (8, 0) 4 = nJ N) : ev (d + 1) mPx_areTwo 0 [vR (0, 0), vI x, vI y] [] (hh I J) = some (some (vI (if inn x N ∧ inn y N ∧ x ≠ y then 1 else 0)), hh I J) := by
  rw [ePx_areTwo_0, cWalk _ _ h, bI_some, bif2, gI_hh, gJ_hh, cWalk _ _ h, bI_some, bif2, gI_hh, gJ_hh]
  by_cases h1 : inn x N
  · by_cases h2 : inn y N
    · by_cases h3 : x = y
      · rw [if_pos h1, if_pos h2, if_pos h3, if_neg (fun z => z.2.2 h3)]
      · rw [if_pos h1, if_pos h2, if_neg h3, if_pos (And.intro h1 (And.intro h2 h3))]
    · rw [if_pos h1, if_neg h2, if_neg (fun z => h2 z.2.1)]
  · rw [if_neg h1, if_neg (fun z => h1 z.1)]
theorem t_meet {I A : IT} {J B : JT} (d : Nat) (x y : Int32) (h : Rel I A) : Cal (ev (d + 8) mPx_meet 0 [vR (0, 0), vI x, vI y, vU] [] (hh I J)) (ev (d + 8) mMo_meet 0 [vR (43, 0), vI x, vI y, vU, vU] [] (hh A B)) I A := by
  obtain ⟨q, -, -, ⟨T, S, N, hro, -⟩, -⟩ := id h
  have hN := hro.1.2.2.1
  have e4 : I (8, 0) 4 = nJ N := hro.2.1.2.2.2.2.2.1
  have m4 : A (44, 0) 4 = nJ N := hro.2.1.2.2.2.2.2.2
  rw [ePx_meet_0, eMo_meet_0, cTwo _ _ _ e4, bI_some, bif2, mWalk _ _ m4 (by omega), bI_some, bif2, gI_hh, gJ_hh, mWalk _ _ m4 (by omega), bI_some, bif2]
  by_cases h1 : inn x N
  · by_cases h2 : inn y N
    · by_cases h3 : x = y
      · rw [if_neg (fun z => z.2.2 h3), if_pos h1, if_pos h2, if_pos h3]
        exact Cal.ro rfl rfl h
      · rw [if_pos (And.intro h1 (And.intro h2 h3)), if_pos h1, if_pos h2, if_neg h3]
        obtain ⟨a, ha, rfl⟩ := inn_ex (by omega) h1
        obtain ⟨b, hb, rfl⟩ := inn_ex (by omega) h2
        refine trial0 (d + 7) (d + 5) h fun T' S' N' D q I2 A2 J2 B2 hD r1 r2 e2 ht => ?_
        have hN' : N' = N := by
          have := r1.2.1.2.2.2.2.2.1
          rw [show scC I 0 8 4 = nJ N from e4, nJ_eq (by omega) (by have := r1.1.2.2.1; omega)] at this
          exact this.symm
        subst hN'
        exact meet_go (d + 2) (d + 1) a b T' S' N' q I A h ha hb 100 0 D I2 A2 J2 B2 rfl (by omega) ht
    · rw [if_neg (fun z => h2 z.2.1), if_pos h1, if_neg h2]
      exact Cal.ro rfl rfl h
  · rw [if_neg (fun z => h1 z.1), if_neg h1]
    exact Cal.ro rfl rfl h
