/-! DAY, TAKE, GIVE BACK, UNDO -/
theorem ScR.parts {I A : IT} (h : Rel I A) : ∃ q T S N, RusR I A q ∧ RoR (scC I 0) (scM A) T S N ∧ WkR (scC I 0) (scM A) T S N 10 ∧ DayOk (scC I 0) ∧ (I (8, 0) 0 = A (43, 0) 25) ∧ (I (7, 0) 2 = A (44, 0) 12 ∧ (I (7, 0) 2 = -1 ∨ ∃ r, r < q ∧ I (7, 0) 2 = nJ r)) ∧ PaR (scC I 0) (scM A) T S N := by
  obtain ⟨q, -, hr, ⟨T, S, N, h1, h2, h3, h4, h5, h6, h7, h8⟩, -⟩ := h
  exact ⟨q, T, S, N, hr, h1, h2, h3, h4.1, h5, h8⟩
theorem KpF.sc {I A I1 A1 : IT} {T S N : Nat} (h : KpF I A I1 A1) (hro : RoR (scC I 0) (scM A) T S N) (hwk : WkR (scC I 0) (scM A) T S N 10) : RoR (scC I1 0) (scM A1) T S N ∧ WkR (scC I1 0) (scM A1) T S N 10 := by
  obtain ⟨h1, h2⟩ := h
  have c : ∀ f k, 8 ≤ f → f ≤ 26 → scC I1 0 f k = scC I 0 f k := fun f k a b => by
    unfold scC
    rw [h1 (f, 0) k (fun z => by have := (Prod.mk.inj z).1; omega) (fun z => by have := (Prod.mk.inj z.1).1; omega)]
  have m : ∀ f k, 44 ≤ f → f ≤ 60 → scM A1 f k = scM A f k := fun f k a b => by
    unfold scM
    rw [beq_f (show f ≠ 43 by omega), h2 (f, 0) k (fun z => by have := (Prod.mk.inj z).1; omega) (fun z => by have := (Prod.mk.inj z.1).1; omega)]
    rfl
  exact ⟨RoR_ext (fun f k a b => c f k a (by omega)) (fun f k ha => m f k (by omega) (by omega)) hro, WkR_ext hro.1.2.2.1 hro.1.2.1 (fun f k a b _ _ _ => c f k (by omega) (by omega)) (fun f k ha _ _ _ => m f k (by omega) (by omega)) hwk⟩
theorem KpF.ru {I A I1 A1 : IT} {q : Nat} (h : KpF I A I1 A1) (hr : RusR I A q) : RusR I1 A1 q := RusR_ext (fun a k ha => h.1 a k (fun z => by
    rcases ha with ⟨e, -⟩ | ha
    · rw [e] at z; cases z
    · rw [z] at ha; simp at ha) (fun z => by
    rcases ha with ⟨e, -⟩ | ha
    · rw [e] at z; cases z.1
    · rw [z.1] at ha; simp at ha)) (fun a k ha => h.2 a k (fun z => by
    rcases ha with ⟨e, -⟩ | ha
    · rw [e] at z; cases z
    · rw [z] at ha; simp at ha) (fun z => by
    rcases ha with ⟨e, hk⟩ | ha
    · omega
    · rw [z.1] at ha; simp at ha)) hr
theorem t_day {I A : IT} {J B : JT} (d : Nat) (h : Rel I A) : Cal (ev (d + 8) mPx_day 0 [vR (0, 0)] [] (hh I J)) (ev (d + 8) mMo_day 0 [vR (43, 0)] [] (hh A B)) I A := by
  obtain ⟨q, T, S, N, hru, hro, hwk, ⟨D, hD, eD⟩, et, hf, hp⟩ := ScR.parts h
  have eD : I (17, 0) 0 = nJ D := eD
  have mD : A (44, 0) 5 = nJ D := (show I (17, 0) 0 = A (44, 0) 5 from hwk.1).symm.trans eD
  rw [ePx_day_0, eMo_day_0, et, eD, mD]
  by_cases h0 : A (43, 0) 25 = 0
  · rw [if_pos h0, if_pos h0]
    exact Cal.ro rfl rfl h
  rw [if_neg h0, if_neg h0]
  by_cases h9 : D = 999
  · rw [if_neg (nlt_nL (b := 999) (by omega) (by omega)), if_pos (show nJ D = 999 by rw [h9]; rfl)]
    exact Cal.ro rfl rfl h
  rw [if_pos (lt_nL (b := 999) (by omega) (by decide)), if_neg (ne_nL (b := 999) h9 (by omega) (by decide))]
  refine keep_R2 (d + 6) (d + 4) hro.1.2.2.1 hro.1.2.1 hwk ⟨D, hD, eD⟩ hp fun I1 A1 J1 B1 hk hp1 => ?_
  obtain ⟨hro1, hwk1⟩ := hk.sc hro hwk
  have e72 : I1 (7, 0) 2 = I (7, 0) 2 := hk.1 (7, 0) 2 (by decide) (fun z => by omega)
  have hf1 : I1 (7, 0) 2 = A1 (44, 0) 12 ∧ (I1 (7, 0) 2 = -1 ∨ ∃ r, r < q ∧ I1 (7, 0) 2 = nJ r) := by
    rw [e72, hk.2 (44, 0) 12 (by decide) (fun z => by cases z.1)]
    exact hf
  obtain ⟨rl, g1, g2, g3⟩ := cForce (hk.ru hru) hf1
  have eD1 : I1 (17, 0) 0 = nJ D := (hk.1 (17, 0) 0 (by decide) (fun z => by cases z.1)).trans eD
  have hpg := pass_goes (d + 3) (d + 1) 0 T S N D rl I1 A1 J1 B1 (by omega) hro1 hwk1.up10 eD1 g1
  obtain ⟨v, I2, J2, r1, v', A2, B2, r2, ⟨x, rfl, rfl⟩, p3, p4, p5, p6⟩ := hpg
  have hfin := act_Rel h hro hk hp1 p5 p6 p3 ⟨D + 1, by omega, p4⟩
  rw [gI_hh, gJ_hh, g3, r2]
  rcases g2 with rfl | ⟨a, rfl⟩
  · show R2 (bI (ev (d + 7) mWa_pass 0 [vR (17, 0), vR (8, 0), vN, vU, vU] [] (hh I1 J1)) _) _ _
    rw [r1]
    exact R2.ret ⟨⟨x, rfl, rfl⟩, hfin⟩
  · show R2 (bI (ev (d + 7) mWa_pass 0 [vR (17, 0), vR (8, 0), vR a, vU, vU] [] (hh I1 J1)) _) _ _
    rw [r1]
    exact R2.ret ⟨⟨x, rfl, rfl⟩, hfin⟩
/-- who may take now -/
theorem cCan {I A : IT} {J : JT} {T S N : Nat} (d : Nat) (x : Int32) (hro : RoR (scC I 0) (scM A) T S N) : ev (d + 1) mPx_canTake 0 [vR (0, 0), vI x] [] (hh I J) = some (some (vI (if inn x N ∧ (I (19, 0) (tn x) = 0 ∧ I (18, 0) (tn x) = 0) ∧ ¬ I (17, 0) 0 < I (21, 0) (tn x) then 1 else 0)), hh I J) := by
  have hN := hro.1.2.2.1
  have e4 : I (8, 0) 4 = nJ N := hro.2.1.2.2.2.2.2.1
  rw [ePx_canTake_0, cWalk _ _ e4, bI_some, bif2]
  by_cases hx : inn x N
  · obtain ⟨w, hw, rfl⟩ := inn_ex (by omega) hx
    have tw : tn (nJ w) = w := nJ_nat (by omega)
    rw [if_pos hx, gI_hh, gJ_hh, cPlace _ _ w (by omega), bI_some, bnd (show w < 3 by omega) (by omega), gI_hh, gJ_hh, nJ_nat (by omega), tw]
    by_cases h1 : I (19, 0) w = 0
    · rw [if_pos h1]
      by_cases h2 : I (18, 0) w = 0
      · rw [if_pos h2]
        by_cases h3 : I (17, 0) 0 < I (21, 0) w
        · rw [if_pos h3, if_neg (fun z => z.2.2 h3)]
        · rw [if_neg h3, if_pos (And.intro hx (And.intro (And.intro h1 h2) h3))]
      · rw [if_neg h2, if_neg (fun z => h2 z.2.1.2)]
    · rw [if_neg h1, if_neg (show ¬ (-1 : Int32) = 0 by decide), if_neg (fun z => h1 z.2.1.1)]
  · rw [if_neg hx, if_neg (fun z => hx z.1)]
theorem mCan {A : IT} {B : JT} {N : Nat} (d : Nat) (x : Int32) (hN : N ≤ 3) (m4 : A (44, 0) 4 = nJ N) : ev (d + 2) mMo_mayTakeNow 0 [vR (43, 0), vI x] [] (hh A B) = some (some (vI (if inn x N ∧ (A (54, 0) (tn x) = 0 ∧ A (53, 0) (tn x) = 0) ∧ ¬ A (44, 0) 5 < A (56, 0) (tn x) then 1 else 0)), hh A B) := by
  rw [eMo_mayTakeNow_0, mWalk _ _ m4 (by omega), bI_some, bif2]
  by_cases hx : inn x N
  · obtain ⟨w, hw, rfl⟩ := inn_ex (by omega) hx
    have tw : tn (nJ w) = w := nJ_nat (by omega)
    rw [if_pos hx, gI_hh, gJ_hh, eMo_isIn_0, bnd (show w < 3 by omega) (by omega), bnd (show w < 3 by omega) (by omega), nJ_nat (by omega), tw]
    by_cases h1 : A (54, 0) w = 0
    · rw [if_pos h1]
      by_cases h2 : A (53, 0) w = 0
      · rw [if_pos h2, bI_some, if_neg (by decide), bnk (show w < 3 by omega) (by omega), gI_hh, gJ_hh]
        by_cases h3 : A (44, 0) 5 < A (56, 0) w
        · rw [if_pos h3, if_neg (fun z => z.2.2 h3)]
        · rw [if_neg h3, if_pos (And.intro hx (And.intro (And.intro h1 h2) h3))]
      · rw [if_neg h2, bI_some, if_pos rfl, if_neg (fun z => h2 z.2.1.2)]
    · rw [if_neg h1, bI_some, if_pos rfl, if_neg (fun z => h1 z.2.1.1)]
  · rw [if_neg hx, if_neg (fun z => hx z.1)]
theorem can_same {I A : IT} {T S N G : Nat} {x : Int32} (hN : N ≤ 3) (h : WkR (scC I 0) (scM A) T S N G) : (inn x N ∧ (I (19, 0) (tn x) = 0 ∧ I (18, 0) (tn x) = 0) ∧ ¬ I (17, 0) 0 < I (21, 0) (tn x)) = (inn x N ∧ (A (54, 0) (tn x) = 0 ∧ A (53, 0) (tn x) = 0) ∧ ¬ A (44, 0) 5 < A (56, 0) (tn x)) := by
  refine propext ⟨fun ⟨h1, h2⟩ => ⟨h1, ?_⟩, fun ⟨h1, h2⟩ => ⟨h1, ?_⟩⟩
  · obtain ⟨w, hw, rfl⟩ := inn_ex (by omega) h1
    have tw : tn (nJ w) = w := nJ_nat (by omega)
    obtain ⟨f1, f2, f3, f4⟩ := place_same h hw
    rw [tw] at h2 ⊢
    rw [← f1, ← f2, ← f4, ← show I (17, 0) 0 = A (44, 0) 5 from h.1]
    exact h2
  · obtain ⟨w, hw, rfl⟩ := inn_ex (by omega) h1
    have tw : tn (nJ w) = w := nJ_nat (by omega)
    obtain ⟨f1, f2, f3, f4⟩ := place_same h hw
    rw [tw] at h2 ⊢
    rw [f1, f2, f4, show I (17, 0) 0 = A (44, 0) 5 from h.1]
    exact h2
/-- a sentence that can be taken -/
theorem cOpen {I : IT} {J : JT} {S p : Nat} (d : Nat) (x : Int32) (hS : S ≤ 6) (e3 : I (8, 0) 3 = nJ S) (hp : p < 64) (ep : I (17, 0) 2 = nJ p) : ev (d + 1) mPx_isOpen 0 [vR (0, 0), vI x] [] (hh I J) = some (some (vI (if inn x S ∧ I (22, 0) (tn x) = -1 ∧ p.testBit (tn x) = false then 1 else 0)), hh I J) := by
  rw [ePx_isOpen_0, cSent _ _ e3, bI_some, bif2]
  by_cases hx : inn x S
  · obtain ⟨k, hk, rfl⟩ := inn_ex (by omega) hx
    have tw : tn (nJ k) = k := nJ_nat (by omega)
    rw [if_pos hx, bnd (show k < 6 by omega) (by omega), gI_hh, gJ_hh, nJ_nat (by omega), ep, b_shr _ hp _ (by omega), tw]
    by_cases h1 : I (22, 0) k = -1
    · rw [if_pos h1]
      cases hb : p.testBit k
      · rw [if_pos (show nJ (bif false then 1 else 0) = 0 from rfl), if_pos (And.intro hx (And.intro h1 rfl))]
      · rw [if_neg (show ¬ nJ (bif true then 1 else 0) = 0 by decide), if_neg (fun z => by cases z.2.2)]
    · rw [if_neg h1, if_neg (fun z => h1 z.2.1)]
  · rw [if_neg hx, if_neg (fun z => hx z.1)]
theorem mFree {A : IT} {B : JT} {p k : Nat} (d : Nat) (hk : k < 6) (hp : p < 64) (ep : A (44, 0) 7 = nJ p) : ev (d + 1) mMo_isFree 0 [vR (43, 0), vI (nJ k)] [] (hh A B) = some (some (vI (if A (51, 0) k = -1 ∧ p.testBit k = false then 1 else 0)), hh A B) := by
  rw [eMo_isFree_0, bnd hk (by omega), nJ_nat (by omega), ep]
  by_cases h1 : A (51, 0) k = -1
  · rw [if_pos h1, mHas _ _ _ hp hk, bI_some, bif2]
    cases hb : p.testBit k
    · rw [if_neg (by decide), if_pos (And.intro h1 rfl)]
    · rw [if_pos rfl, if_neg (fun z => by cases z.2)]
  · rw [if_neg h1, if_neg (fun z => h1 z.1)]
/-- one sentence is another's -/
theorem WkR.own {c m c' m' : FT} {T S N G k : Nat} {x : Int32} (h : WkR c m T S N G) (hk : k < S) (hS : S ≤ 6) (hx : x = -1 ∨ ∃ w, w < N ∧ x = nJ w) (hc : ∀ f j, 17 ≤ f → f ≤ 23 → c' f j = if f = 22 ∧ j = k then x else c f j) (hm : ∀ f j, 44 ≤ f → f ≤ 56 → m' f j = if f = 51 ∧ j = k then x else m f j) : WkR c' m' T S N G := by
  obtain ⟨h1, h2, h3, h4, h5, h6, h7, h8⟩ := h
  have e : ∀ f j, 17 ≤ f → f ≤ 23 → f ≠ 22 → c' f j = c f j := fun f j a b q => by rw [hc f j a b, if_neg (fun z => q z.1)]
  have g : ∀ f j, 44 ≤ f → f ≤ 56 → f ≠ 51 → m' f j = m f j := fun f j a b q => by rw [hm f j a b, if_neg (fun z => q z.1)]
  refine ⟨?_, ?_, ?_, ?_, ?_, fun w hw => ?_, fun j hj => ?_, fun j j1 j2 => ?_⟩
  · rw [e 17 0 (by decide) (by decide) (by decide), g 44 5 (by decide) (by decide) (by decide)]; exact h1
  · rw [e 17 1 (by decide) (by decide) (by decide), g 44 6 (by decide) (by decide) (by decide)]; exact h2
  · rw [e 17 2 (by decide) (by decide) (by decide), g 44 7 (by decide) (by decide) (by decide)]; exact h3
  · rw [e 17 3 (by decide) (by decide) (by decide), g 44 8 (by decide) (by decide) (by decide)]; exact h4
  · rw [g 44 9 (by decide) (by decide) (by decide), show c' 23 = c 23 from funext fun j => e 23 j (by decide) (by decide) (by decide)]; exact h5
  · rw [e 18 w (by decide) (by decide) (by decide), e 19 w (by decide) (by decide) (by decide), e 20 w (by decide) (by decide) (by decide), e 21 w (by decide) (by decide) (by decide), g 53 w (by decide) (by decide) (by decide), g 54 w (by decide) (by decide) (by decide), g 55 w (by decide) (by decide) (by decide), g 56 w (by decide) (by decide) (by decide)]
    exact h6 w hw
  · rw [e 23 j (by decide) (by decide) (by decide), g 52 j (by decide) (by decide) (by decide), hc 22 j (by decide) (by decide), hm 51 j (by decide) (by decide)]
    by_cases q : j = k
    · rw [if_pos (And.intro rfl q), if_pos (And.intro rfl q)]
      exact ⟨⟨rfl, hx⟩, (h7 j hj).2⟩
    · rw [if_neg (fun z => q z.2), if_neg (fun z => q z.2)]
      exact h7 j hj
  · rw [hc 22 j (by decide) (by decide), if_neg (fun z => by omega)]
    exact h8 j j1 j2
theorem own_act {I A I1 A1 : IT} {J1 B1 : JT} {T S N k : Nat} {x : Int32} (d d' w : Nat) (hw0 : w < 2147483648) (h : Rel I A) (hro : RoR (scC I 0) (scM A) T S N) (hwk : WkR (scC I 0) (scM A) T S N 10) (hd : DayOk (scC I 0)) (hk1 : KpF I A I1 A1) (hp1 : PaR (scC I1 0) (scM A1) T S N) (hk : k < S) (hx : x = -1 ∨ ∃ w, w < N ∧ x = nJ w) :
    R2 (bI (ev d mWa_held 0 [vR (17, 0), vI (nJ w), vU, vU] [] (hh (up2 I1 (22, 0) k x) J1)) (fun r4 h4 => bI (ev d mIn_bitCount 0 [vI r4] [] (hh (gI h4) (gJ h4))) (fun r5 h5 => some (some (vI r5), hh (gI h5) (gJ h5))))) (bI (ev d' mMo_theirs 0 [vR (43, 0), vI (nJ w), vU, vU] [] (hh (up2 A1 (51, 0) k x) B1)) (fun r5 h5 => bI (ev d' mMo_bits 0 [vI r5, vU, vU] [] (hh (gI h5) (gJ h5))) (fun r6 h6 => some (some (vI r6), hh (gI h6) (gJ h6))))) (CalQ I A) := by
  have hS := hro.1.2.1
  have hN := hro.1.2.2.1
  obtain ⟨hro1, hwk1⟩ := hk1.sc hro hwk
  have hw2 : WkR (scC (up2 I1 (22, 0) k x) 0) (scM (up2 A1 (51, 0) k x)) T S N 10 := WkR.own hwk1 hk hS hx (fun f j _ _ => scC_up (by omega) f j) (fun f j _ _ => scM_up (by omega) f j)
  have f1 : FwC I1 (up2 I1 (22, 0) k x) 0 := FwC.up (by decide)
  have f2 : FwM A1 (up2 A1 (51, 0) k x) := fun a j ha => if_neg fun z => ha (Or.inr (Or.inl ⟨Or.inl z.1, by omega⟩))
  have m3 : up2 A1 (51, 0) k x (44, 0) 3 = nJ S := (up_ne _ _ _ _ (by decide)).trans hro1.2.1.2.2.2.2.1
  have hs := held_same (w := nJ w) (nJ_nm1 hw0) hS hw2
  rw [cHeld, mTheirs _ S _ _ _ m3 hS, hs, hF_N S hS, bI_some, bI_some, gI_hh, gJ_hh, gI_hh, gJ_hh, cBits _ _ (Nat.lt_trans (hN_lt S hS) (by decide)), mBits _ _ (Nat.lt_trans (hN_lt S hS) (by decide)), bI_some, bI_some]
  refine R2.ret ⟨⟨_, rfl, rfl⟩, act_Rel h hro hk1 hp1 f1 f2 hw2 ?_⟩
  obtain ⟨z, hz, ez⟩ := hd
  exact ⟨z, hz, by rw [scC_up (by omega), if_neg (by omega)]; exact (hk1.1 (17, 0) 0 (by decide) (fun q => by cases q.1)).trans ez⟩
theorem t_take {I A : IT} {J B : JT} (d : Nat) (x y : Int32) (h : Rel I A) : Cal (ev (d + 8) mPx_take 0 [vR (0, 0), vI x, vI y] [] (hh I J)) (ev (d + 8) mMo_take 0 [vR (43, 0), vI x, vI y] [] (hh A B)) I A := by
  obtain ⟨q, T, S, N, hru, hro, hwk, hd, et, hf, hp⟩ := ScR.parts h
  have hS := hro.1.2.1
  have hN := hro.1.2.2.1
  have e3 : I (8, 0) 3 = nJ S := hro.2.1.2.2.2.1
  have m3 : A (44, 0) 3 = nJ S := hro.2.1.2.2.2.2.1
  have m4 : A (44, 0) 4 = nJ N := hro.2.1.2.2.2.2.2.2
  obtain ⟨p, hp6, cp, mp⟩ := hwk.2.2.1
  rw [ePx_take_0, eMo_take_0, cCan _ _ hro, mCan _ _ hN m4, bI_some, bI_some, bif2, bif2]
  by_cases hc : inn x N ∧ (A (54, 0) (tn x) = 0 ∧ A (53, 0) (tn x) = 0) ∧ ¬ A (44, 0) 5 < A (56, 0) (tn x)
  · rw [if_pos (Eq.mpr (can_same hN hwk) hc), if_pos hc, gI_hh, gJ_hh, gI_hh, gJ_hh, cOpen _ _ hS e3 hp6 cp, mSent _ _ m3 (by omega), bI_some, bI_some, bif2, bif2]
    by_cases hy : inn y S
    · obtain ⟨k, hk, rfl⟩ := inn_ex (by omega) hy
      obtain ⟨w, hw, rfl⟩ := inn_ex (by omega) hc.1
      have tk : tn (nJ k) = k := nJ_nat (by omega)
      have e22 : I (22, 0) k = A (51, 0) k := (hwk.2.2.2.2.2.2.1 k hk).1.1
      rw [if_pos hy, gI_hh, gJ_hh, gI_hh, gJ_hh, mFree _ (show k < 6 by omega) hp6 mp, bI_some, bif2, tk, e22]
      by_cases hq : A (51, 0) k = -1 ∧ p.testBit k = false
      · rw [if_pos (And.intro hy hq), if_pos hq]
        refine keep_R2 (d + 6) (d + 4) hN hS hwk hd hp fun I1 A1 J1 B1 hk1 hp1 => ?_
        rw [bnd (show k < 6 by omega) (by omega), bnd (show k < 6 by omega) (by omega), nJ_nat (by omega), gI_hh, gJ_hh, gI_hh, gJ_hh]
        exact own_act _ _ w (by omega) h hro hwk hd hk1 hp1 hk (Or.inr ⟨w, hw, rfl⟩)
      · rw [if_neg (fun z => hq z.2), if_neg hq]
        exact Cal.ro rfl rfl h
    · rw [if_neg hy, if_neg (fun z => hy z.1)]
      exact Cal.ro rfl rfl h
  · rw [if_neg (fun z => hc (Eq.mp (can_same hN hwk) z)), if_neg hc]
    exact Cal.ro rfl rfl h
