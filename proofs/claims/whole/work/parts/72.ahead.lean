/-! AHEAD, MEET -/
def CalQ (I A : IT) : Option Vl → IT → JT → Option Vl → IT → JT → Prop := fun v I' _ v' A' _ => (∃ x, v = some (vI x) ∧ v' = some (vI x)) ∧ Rel I' A' ∧ FrC I I' ∧ FrM A A'
/-- in the midst of a trial -/
def TrS (I A I2 A2 : IT) : Prop := FwC I I2 5 ∧ ∃ A1, Kpt A A1 ∧ (∀ a i, ¬ (a = (87, 0) ∧ 3400 ≤ i) → ¬ (a = (43, 0) ∧ (i = 61 ∨ i = 62)) → A1 a i = A a i) ∧ (∀ a i, ¬ wCell a i → ¬ (a = (44, 0) ∧ i < 13) → A2 a i = A1 a i)
theorem tr_end {I A I2 A2 : IT} {J2 B2 : JT} (d : Nat) (x : Int32) (h : Rel I A) (hs : TrS I A I2 A2) : R2 (some (some (vI x), hh I2 J2)) (bV (ev (d + 2) mMo_laysBack 0 [vR (43, 0)] [] (hh A2 B2)) (fun h7 => some (some (vI x), hh (gI h7) (gJ h7)))) (CalQ I A) := by
  obtain ⟨h1, A1, h2, h3, h4⟩ := hs
  refine R2.rV ((mBack d A2 B2).mono fun v A3 B3 ⟨q1, q2, q3, _⟩ => ⟨q1, R2.ret ⟨⟨x, rfl, rfl⟩, ?_⟩⟩)
  obtain ⟨l1, -⟩ := laid h2 h3 h4 q2 q3
  exact h.trial (fun a ha _ => h1 a ha) (fun a i a1 a2 _ _ => l1 a i a1 a2)
theorem cPlace {I : IT} {J : JT} (d n k : Nat) (hk : k < 3) : ev d mWa_place 0 [vR (17, n), vI (nJ k)] [] (hh I J) = some (some (vI (if I (19, n) k = 0 then I (18, n) k else -1)), hh I J) := by
  rw [eWa_place_0, bnd hk (by omega), bnd hk (by omega), nJ_nat (by omega)]
  split <;> rfl
theorem mTownOf {A : IT} {B : JT} (d k : Nat) (hk : k < 3) : ev d mMo_townOf 0 [vR (43, 0), vI (nJ k)] [] (hh A B) = some (some (vI (if A (54, 0) k = 0 then A (53, 0) k else -1)), hh A B) := by
  rw [eMo_townOf_0, bnd hk (by omega), bnd hk (by omega), nJ_nat (by omega)]
  split <;> rfl
theorem place_same {I A : IT} {n T S N G w : Nat} (h : WkR (scC I n) (scM A) T S N G) (hw : w < N) : I (18, n) w = A (53, 0) w ∧ I (19, n) w = A (54, 0) w ∧ I (20, n) w = A (55, 0) w ∧ I (21, n) w = A (56, 0) w := ⟨(h.2.2.2.2.2.1 w hw).1.1, (h.2.2.2.2.2.1 w hw).2.1.1, (h.2.2.2.2.2.1 w hw).2.2.1.1, (h.2.2.2.2.2.1 w hw).2.2.2⟩
/-- a copy, and m days -/
theorem trial_R2 {I A : IT} {J B : JT} {K K' : Hp → Option Rs} (d d' m : Nat) (hm : m ≤ 100) (h : Rel I A)
    (hK : ∀ T S N D I2 A2 J2 B2, RoR (scC I2 0) (scM A2) T S N → RoR (scC I 0) (scM A) T S N → WkR (scC I2 5) (scM A2) T S N 10 → I2 (17, 5) 0 = nJ D → TrS I A I2 A2 → R2 (K (hh I2 J2)) (K' (hh A2 B2)) (CalQ I A)) :
    R2 (bV (ev (d + 5) mWa_copyFrom 0 [vR (17, 5), vR (17, 0)] [] (hh I J)) (fun h1 => bV (ev (d + 5) mPx_goOn 0 [vR (0, 0), vI (nJ m), vU, vU] [] (hh (gI h1) (gJ h1))) (fun h2 => K h2))) (bV (ev (d' + 7) mMo_keepsAll 0 [vR (43, 0)] [] (hh A B)) (fun h1 => bV (ev (d' + 7) mMo_goFor 0 [vR (43, 0), vI (nJ m), vU] [] (hh (gI h1) (gJ h1))) (fun h2 => K' h2))) (CalQ I A) := by
  obtain ⟨q, -, hru, ⟨T, S, N, hro, hwk, ⟨D, hD, eD⟩, -, hf, -⟩, -⟩ := id h
  have hN := hro.1.2.2.1
  have hS := hro.1.2.1
  refine R2.lV ((cTrial (d + 5) I J).mono fun v I1 J1 ⟨q1, hc, hfw, _⟩ => ⟨q1, ?_⟩)
  refine R2.rV ((mKeep (d' + 5) A B).mono fun v A1 B1 ⟨q2, hk, hfr, _⟩ => ⟨q2, ?_⟩)
  have hA1 : ∀ a i, a.1 ≠ 87 → a.1 ≠ 43 → A1 a i = A a i := fun a i a1 a2 => hfr a i (fun z => a1 (by rw [z.1])) (fun z => a2 (by rw [z.1]))
  have hwk1 : WkR (scC I1 5) (scM A1) T S N 10 := trial_wk hN hS hc (fun a k hw => by
    rcases hw with ⟨e, -⟩ | ⟨e | e, -⟩ | ⟨⟨e1, e2, -⟩, -⟩
    · exact hA1 a k (by rw [e]; decide) (by rw [e]; decide)
    · exact hA1 a k (by rw [e]; decide) (by rw [e]; decide)
    · exact hA1 a k (by rw [e]; decide) (by rw [e]; decide)
    · exact hA1 a k (by omega) (by omega)) hwk
  have hro1 : RoR (scC I1 0) (scM A1) T S N := by
    have e1 : RoR (scC I1 0) (scM A) T S N := FwC.ro hfw (FwM.rf A) hro
    refine RoR_ext (fun _ _ _ _ => rfl) (fun f k hf => ?_) e1
    have hf43 : Nat.beq f 43 = false := beq_f (by omega)
    unfold scM
    rw [hf43, hA1 (f, 0) k (by show f ≠ 87; omega) (by show f ≠ 43; omega)]
    rfl
  have hI1 : ∀ a, ¬ (17 ≤ a.1 ∧ a.1 ≤ 23 ∧ a.2 = 5) → I1 a = I a := hfw
  have hru1 : RusR I1 A1 q := RusR_ext (fun a k ha => by
      rw [hI1 a (fun z => by
        rcases ha with ⟨e, -⟩ | ha
        · rw [e] at z; simp at z
        · omega)]) (fun a k ha => hfr a k (fun z => by
        rcases ha with ⟨e, -⟩ | ha
        · rw [e] at z; simp at z
        · rw [z.1] at ha; simp at ha) (fun z => by
        rcases ha with ⟨e, hk⟩ | ha
        · omega
        · rw [z.1] at ha; simp at ha)) hru
  have e72 : I1 (7, 0) 2 = I (7, 0) 2 := by rw [hI1 (7, 0) (by decide)]
  have hf1 : I1 (7, 0) 2 = A1 (44, 0) 12 ∧ (I1 (7, 0) 2 = -1 ∨ ∃ r, r < q ∧ I1 (7, 0) 2 = nJ r) := by
    rw [e72, hA1 (44, 0) 12 (by decide) (by decide)]
    exact hf
  have eD1 : I1 (17, 5) 0 = nJ D := (hc.1 0 (by decide)).trans eD
  refine R2.bVV ((go_R2 d d' m T S N D q I1 A1 J1 B1 (by omega) (by omega) hru1 hf1 hro1 hwk1 eD1).mono fun v I2 J2 v' A2 B2 ⟨p1, p2, p3, p4, p5, p6⟩ => ⟨p1, p2, ?_⟩)
  exact hK T S N _ I2 A2 J2 B2 (FwC.ro p5 p6 hro1) hro p3 p4 ⟨hfw.tr p5, A1, hk, hfr, fun a i a1 _ => p6 a i a1⟩
theorem t_ahead {I A : IT} {J B : JT} (d : Nat) (x y t : Int32) (h : Rel I A) : Cal (ev (d + 8) mPx_ahead 0 [vR (0, 0), vI x, vI y, vI t] [] (hh I J)) (ev (d + 8) mMo_ahead 0 [vR (43, 0), vI x, vI y, vI t, vU] [] (hh A B)) I A := by
  obtain ⟨q, -, -, ⟨T, S, N, hro, hwk, -, ⟨et, -⟩, -⟩, -⟩ := id h
  have hN := hro.1.2.2.1
  have et : I (8, 0) 0 = A (43, 0) 25 := et
  have e4 : I (8, 0) 4 = nJ N := hro.2.1.2.2.2.2.2.1
  have m4 : A (44, 0) 4 = nJ N := hro.2.1.2.2.2.2.2.2
  rw [ePx_ahead_0, eMo_ahead_0, et]
  by_cases h0 : A (43, 0) 25 = 0
  · rw [if_pos h0, if_pos h0]
    exact Cal.ro rfl rfl h
  rw [if_neg h0, if_neg h0, mIn _ y 0 100 0 100 rfl rfl, bI_some, bif2, mIn _ t 0 2 0 2 rfl rfl, bI_some, bif2]
  by_cases y0 : y < 0
  · rw [if_pos y0, if_neg (fun z => z.1 y0)]
    exact Cal.ro rfl rfl h
  by_cases y1 : (100 : Int32) < y
  · rw [if_neg y0, if_pos y1, if_neg (fun z => z.2 y1)]
    exact Cal.ro rfl rfl h
  rw [if_neg y0, if_neg y1, if_pos (And.intro y0 y1)]
  by_cases t0 : t < 0
  · rw [if_pos t0, if_neg (fun z => z.1 t0)]
    exact Cal.ro rfl rfl h
  by_cases t1 : (2 : Int32) < t
  · rw [if_neg t0, if_pos t1, if_neg (fun z => z.2 t1)]
    exact Cal.ro rfl rfl h
  rw [if_neg t0, if_neg t1, if_pos (And.intro t0 t1)]
  have ym : ∃ m, m ≤ 100 ∧ y = nJ m := by
    have e := nJ_of y0
    rw [e] at y1
    rw [show (100 : Int32) = nJ 100 from rfl, nJ_lt (by decide) (nat_lt31 y)] at y1
    exact ⟨_, by omega, e⟩
  have tm : ∃ m, m ≤ 2 ∧ t = nJ m := by
    have e := nJ_of t0
    rw [e] at t1
    rw [show (2 : Int32) = nJ 2 from rfl, nJ_lt (by decide) (nat_lt31 t)] at t1
    exact ⟨_, by omega, e⟩
  obtain ⟨m, hm, rfl⟩ := ym
  obtain ⟨k, hk, rfl⟩ := tm
  have hk3 : k = 2 ∨ k = 0 ∨ k = 1 := by omega
  rcases hk3 with rfl | hk3
  · rw [if_pos (show nJ 2 = 2 from rfl), if_neg (show ¬ nJ 2 < 2 by decide)]
    refine trial_R2 (d + 2) d m hm h fun T' S' N' D I2 A2 J2 B2 r1 r2 w2 e2 hs => ?_
    obtain ⟨-, -, ⟨p, hp, cp, mp⟩, -⟩ := w2
    have cp : I2 (17, 5) 2 = nJ p := cp
    have mp : A2 (44, 0) 7 = nJ p := mp
    rw [if_pos (show nJ 2 = 2 from rfl), if_neg (show ¬ nJ 2 = 0 by decide), if_neg (show ¬ nJ 2 = 1 by decide), gI_hh, gJ_hh, gI_hh, gJ_hh, cp, mp, cBits _ _ (by omega), mBits _ _ (by omega), bI_some, bI_some]
    exact tr_end _ _ h hs
  · rw [if_neg (show ¬ nJ k = 2 by rcases hk3 with rfl | rfl <;> decide), if_pos (show nJ k < 2 by rcases hk3 with rfl | rfl <;> decide), cWalk _ _ e4, mWalk _ _ m4 (by omega), bI_some, bI_some, bif2, bif2]
    by_cases hx : inn x N
    · rw [if_pos hx, if_pos hx]
      obtain ⟨w, hw, rfl⟩ := inn_ex (by omega) hx
      refine trial_R2 (d + 2) d m hm h fun T' S' N' D I2 A2 J2 B2 r1 r2 w2 e2 hs => ?_
      have hN' : N' = N := by
        have := r2.2.1.2.2.2.2.2.1
        rw [show scC I 0 8 4 = nJ N from e4, nJ_eq (by omega) (by have := r2.1.2.2.1; omega)] at this
        exact this.symm
      subst hN'
      obtain ⟨f1, f2, f3, -⟩ := place_same w2 hw
      rw [if_neg (show ¬ nJ k = 2 by rcases hk3 with rfl | rfl <;> decide)]
      rcases hk3 with rfl | rfl
      · rw [if_pos (show nJ 0 = 0 from rfl), if_pos (show nJ 0 = 0 from rfl), gI_hh, gJ_hh, gI_hh, gJ_hh, cPlace _ _ w (by omega), mTownOf _ w (by omega), bI_some, bI_some, f1, f2]
        exact tr_end _ _ h hs
      · rw [if_neg (show ¬ nJ 1 = 0 by decide), if_neg (show ¬ nJ 1 = 0 by decide), if_pos (show nJ 1 = 1 from rfl), bnd (show w < 3 by omega) (by omega), bnd (show w < 3 by omega) (by omega), nJ_nat (by omega), gI_hh, gJ_hh, gI_hh, gJ_hh, f3]
        exact tr_end _ _ h hs
    · rw [if_neg hx, if_neg hx]
      exact Cal.ro rfl rfl h
