/-! COUNT, LOG, FEED -/
theorem inC_go (d n N : Nat) (I : IT) (J : JT) (hN : N ≤ 3) : ∀ j k, k + j = N → ev d mWa_inTowns 4 [vR (17, n), vI (nJ N), vI (hF (I (19, n)) 0 k), vI (nJ k)] [] (hh I J) = some (some (vI (hF (I (19, n)) 0 N)), hh I J) := by
  intro j
  induction j with
  | zero =>
    intro k hk
    obtain rfl : k = N := by omega
    rw [eWa_inTowns_4, if_neg (nlt_nJ (Nat.le_refl k) (by omega))]
  | succ j ih =>
    intro k hk
    have h1 := ih (k + 1) (by omega)
    rw [eWa_inTowns_4, if_pos (lt_nJ (show k < N by omega) (by omega)), bnd (show k < 3 by omega) (by omega), nJ_nat (by omega), nJ_succ]
    by_cases h : I (19, n) k = 0
    · rw [if_pos h]
      simp only [hF, if_pos h] at h1 ⊢
      exact h1
    · rw [if_neg h]
      simp only [hF, if_neg h] at h1 ⊢
      exact h1
theorem inM_go (d N : Nat) (A : IT) (B : JT) (hN : N ≤ 3) (m4 : A (44, 0) 4 = nJ N) : ∀ j k, k + j = N → ev d mMo_inTowns 4 [vR (43, 0), vI (hF (A (54, 0)) 0 k), vI (nJ k)] [] (hh A B) = some (some (vI (hF (A (54, 0)) 0 N)), hh A B) := by
  intro j
  induction j with
  | zero =>
    intro k hk
    obtain rfl : k = N := by omega
    rw [eMo_inTowns_4, m4, if_neg (nlt_nJ (Nat.le_refl k) (by omega))]
  | succ j ih =>
    intro k hk
    have h1 := ih (k + 1) (by omega)
    rw [eMo_inTowns_4, m4, if_pos (lt_nJ (show k < N by omega) (by omega)), bnd (show k < 3 by omega) (by omega), nJ_nat (by omega), nJ_succ]
    by_cases h : A (54, 0) k = 0
    · rw [if_pos h]
      simp only [hF, if_pos h] at h1 ⊢
      exact h1
    · rw [if_neg h]
      simp only [hF, if_neg h] at h1 ⊢
      exact h1
theorem div2 : ∀ z, z < 1000 → nJ (2 * z) / 2 = nJ z := by decide +kernel
theorem wayC_go (d T : Nat) (I : IT) (J : JT) (hT : T ≤ 8) (e2 : I (8, 0) 2 = nJ T) (hn : ∀ a, a < T → ∃ z, z < 256 ∧ I (12, 0) a = nJ z) : ∀ j k, k + j = T → ev (d + 1) mRo_wayCount 4 [vR (8, 0), vI (nJ (sumT (fun t => pop8 (I (12, 0) t).toNatClampNeg) k)), vI (nJ k)] [] (hh I J) = some (some (vI (nJ (sumT (fun t => pop8 (I (12, 0) t).toNatClampNeg) T) / 2)), hh I J) := by
  intro j
  induction j with
  | zero =>
    intro k hk
    obtain rfl : k = T := by omega
    rw [eRo_wayCount_4, e2, if_neg (nlt_nJ (Nat.le_refl k) (by omega))]
  | succ j ih =>
    intro k hk
    obtain ⟨z, hz, ez⟩ := hn k (by omega)
    have tz : (I (12, 0) k).toNatClampNeg = z := by rw [ez]; exact nJ_nat (by omega)
    rw [eRo_wayCount_4, e2, if_pos (lt_nJ (show k < T by omega) (by omega)), bnd (show k < 8 by omega) (by omega), nJ_nat (show k < 2147483648 by omega), ez, cBits _ _ hz, bI_some, nJ_add, nJ_succ, ← tz]
    exact ih (k + 1) (by omega)
theorem t_count {I A : IT} {J B : JT} (d : Nat) (x : Int32) (h : Rel I A) : Cal (ev (d + 3) mPx_count 0 [vR (0, 0), vI x] [] (hh I J)) (ev (d + 3) mMo_count 0 [vR (43, 0), vI x] [] (hh A B)) I A := by
  obtain ⟨q, ⟨n, hn, t1, t2, -⟩, ⟨hq, r1, r2, -⟩, ⟨T, S, N, hro, hwk, -, -, ⟨f1, -⟩, ⟨x1, -⟩, ⟨L, -, l1, l2, -⟩, ⟨P, -, p1, p2, -⟩⟩, -⟩ := id h
  have hT := hro.1.1
  have hN := hro.1.2.2.1
  have c0 : I (8, 0) 1 = A (44, 0) 0 := hro.2.1.1
  have e2 : I (8, 0) 2 = nJ T := hro.2.1.2.1
  have m1 : A (44, 0) 1 = nJ T := hro.2.1.2.2.1
  have e3 : I (8, 0) 3 = nJ S := hro.2.1.2.2.2.1
  have m3 : A (44, 0) 3 = nJ S := hro.2.1.2.2.2.2.1
  have e4 : I (8, 0) 4 = nJ N := hro.2.1.2.2.2.2.2.1
  have m4 : A (44, 0) 4 = nJ N := hro.2.1.2.2.2.2.2.2
  have f1 : I (7, 0) 2 = A (44, 0) 12 := f1
  have x1 : I (7, 0) 3 = A (44, 0) 11 := x1
  have l1 : I (7, 0) 7 = nJ L := l1
  have l2 : A (44, 0) 10 = nJ L := l2
  have p1 : I (7, 0) 9 = nJ P := p1
  have p2 : A (43, 0) 48 = nJ P := p2
  obtain ⟨w1, ⟨z1, -, s1, s2⟩, ⟨z2, -, s3, s4⟩, -, -, h6, -⟩ := id hwk
  have w1 : I (17, 0) 0 = A (44, 0) 5 := w1
  have s1 : I (17, 0) 1 = nJ z1 := s1
  have s2 : A (44, 0) 6 = nJ z1 := s2
  have s3 : I (17, 0) 2 = nJ z2 := s3
  have s4 : A (44, 0) 7 = nJ z2 := s4
  obtain ⟨-, -, -, -, -, hnr, zw, hzw, mw, hsum⟩ := hro.2.2.1
  have mw : A (44, 0) 2 = nJ zw := mw
  have hway : ev (d + 2) mRo_wayCount 0 [vR (8, 0), vU, vU] [] (hh I J) = some (some (vI (nJ zw)), hh I J) := by
    rw [eRo_wayCount_0]
    have := wayC_go (d + 1) T I J hT e2 (fun a ha => by
      obtain ⟨z, hz, ez, -⟩ := hnr a ha
      exact ⟨z, hz, ez⟩) T 0 (by omega)
    rw [show sumT (fun t => pop8 (I (12, 0) t).toNatClampNeg) T = 2 * zw from hsum, div2 zw hzw] at this
    exact this
  have hin : ev (d + 2) mWa_inTowns 0 [vR (17, 0), vI (nJ N), vU, vU] [] (hh I J) = some (some (vI (hF (I (19, 0)) 0 N)), hh I J) := by
    rw [eWa_inTowns_0]
    exact inC_go (d + 2) 0 N I J hN N 0 (by omega)
  have hin2 : ev (d + 2) mMo_inTowns 0 [vR (43, 0), vU, vU] [] (hh A B) = some (some (vI (hF (A (54, 0)) 0 N)), hh A B) := by
    rw [eMo_inTowns_0]
    exact inM_go (d + 2) N A B hN m4 N 0 (by omega)
  have hsame : hF (I (19, 0)) 0 N = hF (A (54, 0)) 0 N := hF_ext N (fun k hk => (h6 k hk).2.1.1)
  rw [ePx_count_0, eMo_count_0, e4, hway, hin, hin2, bI_some, bI_some, bI_some, hsame, c0, e2, m1, mw, e3, m3, m4, r1, r2, f1, w1, s1, s2, s3, s4, l1, l2, p1, p2, x1, t1, t2]
  by_cases y0 : x = 0
  · rw [if_pos y0, if_pos y0]; exact Cal.ro rfl rfl h
  rw [if_neg y0, if_neg y0]
  by_cases y1 : x = 1
  · rw [if_pos y1, if_pos y1]; exact Cal.ro rfl rfl h
  rw [if_neg y1, if_neg y1]
  by_cases y2 : x = 2
  · rw [if_pos y2, if_pos y2]; exact Cal.ro rfl rfl h
  rw [if_neg y2, if_neg y2]
  by_cases y3 : x = 3
  · rw [if_pos y3, if_pos y3]; exact Cal.ro rfl rfl h
  rw [if_neg y3, if_neg y3]
  by_cases y4 : x = 4
  · rw [if_pos y4, if_pos y4]; exact Cal.ro rfl rfl h
  rw [if_neg y4, if_neg y4]
  by_cases y5 : x = 5
  · rw [if_pos y5, if_pos y5]; exact Cal.ro rfl rfl h
  rw [if_neg y5, if_neg y5]
  by_cases y6 : x = 6
  · rw [if_pos y6, if_pos y6]; exact Cal.ro rfl rfl h
  rw [if_neg y6, if_neg y6]
  by_cases y7 : x = 7
  · rw [if_pos y7, if_pos y7]; exact Cal.ro rfl rfl h
  rw [if_neg y7, if_neg y7]
  by_cases y8 : x = 8
  · rw [if_pos y8, if_pos y8]; exact Cal.ro rfl rfl h
  rw [if_neg y8, if_neg y8]
  by_cases y9 : x = 9
  · rw [if_pos y9, if_pos y9]; exact Cal.ro rfl rfl h
  rw [if_neg y9, if_neg y9]
  by_cases y10 : x = 10
  · rw [if_pos y10, if_pos y10]; exact Cal.ro rfl rfl h
  rw [if_neg y10, if_neg y10]
  by_cases y11 : x = 11
  · rw [if_pos y11, if_pos y11]; exact Cal.ro rfl rfl h
  rw [if_neg y11, if_neg y11]
  by_cases y12 : x = 12
  · rw [if_pos y12, if_pos y12]; exact Cal.ro rfl rfl h
  rw [if_neg y12, if_neg y12]
  by_cases y13 : x = 13
  · rw [if_pos y13, if_pos y13]; exact Cal.ro rfl rfl h
  rw [if_neg y13, if_neg y13]
  by_cases y14 : x = 14
  · rw [if_pos y14, if_pos y14]; exact Cal.ro rfl rfl h
  rw [if_neg y14, if_neg y14]
  exact Cal.ro rfl rfl h
/-- scene parts that aren't the logs -/
theorem log_Rel {I A I' A' : IT} (h : Rel I A) (L : Nat) (hL : L ≤ 10) (hI : ∀ a k, ¬ (a = (7, 0) ∧ k = 7) → a ≠ (24, 0) → a ≠ (25, 0) → a ≠ (26, 0) → I' a k = I a k) (hA : ∀ a k, ¬ (a = (44, 0) ∧ k = 10) → a ≠ (57, 0) → a ≠ (58, 0) → a ≠ (59, 0) → A' a k = A a k) (l1 : I' (7, 0) 7 = nJ L) (l2 : A' (44, 0) 10 = nJ L)
    (hl : ∀ N, I (8, 0) 4 = nJ N → N ≤ 3 → (∀ i, (∃ L0, I (7, 0) 7 = nJ L0 ∧ L0 ≤ 10 ∧ i < L0) → (I (24, 0) i = A (57, 0) i ∧ ∃ t, t < 61 ∧ I (24, 0) i = nJ t) ∧ (I (25, 0) i = A (58, 0) i ∧ ∃ t, t < N ∧ I (25, 0) i = nJ t) ∧ I (26, 0) i = A (59, 0) i) → ∀ i, i < L → (I' (24, 0) i = A' (57, 0) i ∧ ∃ t, t < 61 ∧ I' (24, 0) i = nJ t) ∧ (I' (25, 0) i = A' (58, 0) i ∧ ∃ t, t < N ∧ I' (25, 0) i = nJ t) ∧ I' (26, 0) i = A' (59, 0) i) : Rel I' A' := by
  refine Rel.scene (fun a k ha => hI a k (fun z => ?_) (fun z => ?_) (fun z => ?_) (fun z => ?_)) (fun a k ha => hA a k (fun z => ?_) (fun z => ?_) (fun z => ?_) (fun z => ?_)) h (fun q _ hs => ?_)
  · rw [z.1] at ha; unfold KC0 at ha; simp at ha
  · rw [z] at ha; unfold KC0 at ha; simp at ha
  · rw [z] at ha; unfold KC0 at ha; simp at ha
  · rw [z] at ha; unfold KC0 at ha; simp at ha
  · rw [z.1] at ha; unfold KM0 at ha; simp at ha
  · rw [z] at ha; unfold KM0 at ha; simp at ha
  · rw [z] at ha; unfold KM0 at ha; simp at ha
  · rw [z] at ha; unfold KM0 at ha; simp at ha
  · obtain ⟨T, S, N, h1, h2, h3, h4, h5, h6, ⟨L0, hL0, k1, k2, k3⟩, P, hP, p1, p2, p3⟩ := hs
    have c : ∀ f k, f ≠ 24 → f ≠ 25 → f ≠ 26 → ¬ (f = 7 ∧ k = 7) → scC I' 0 f k = scC I 0 f k := fun f k a1 a2 a3 a4 => by
      unfold scC
      rw [hI (f, 0) k (fun z => a4 ⟨(Prod.mk.inj z.1).1, z.2⟩) (fun z => a1 (Prod.mk.inj z).1) (fun z => a2 (Prod.mk.inj z).1) (fun z => a3 (Prod.mk.inj z).1)]
    have m : ∀ f k, f ≠ 57 → f ≠ 58 → f ≠ 59 → ¬ (f = 44 ∧ k = 10) → scM A' f k = scM A f k := fun f k a1 a2 a3 a4 => by
      unfold scM
      rw [hA (f, 0) k (fun z => a4 ⟨(Prod.mk.inj z.1).1, z.2⟩) (fun z => a1 (Prod.mk.inj z).1) (fun z => a2 (Prod.mk.inj z).1) (fun z => a3 (Prod.mk.inj z).1), hA (43, 0) k (fun z => by cases z.1) (by decide) (by decide) (by decide)]
    have hN := h1.1.2.2.1
    have hS := h1.1.2.1
    refine ⟨T, S, N, RoR_ext (fun f k a b => c f k (by omega) (by omega) (by omega) (by omega)) (fun f k ha => m f k (by omega) (by omega) (by omega) (by omega)) h1, WkR_ext hN hS (fun f k a b _ _ _ => c f k (by omega) (by omega) (by omega) (by omega)) (fun f k ha k1 _ _ => m f k (by omega) (by omega) (by omega) (fun z => by have := k1 z.1; omega)) h2, ?_, ?_, ?_, ?_, ⟨L, hL, l1, l2, hl N h1.2.1.2.2.2.2.2.1 hN (fun i ⟨L1, a1, a2, a3⟩ => k3 i ?_)⟩, P, hP, ?_, ?_, fun j hj => past_wk hN hS (fun i hi => c 27 _ (by decide) (by decide) (by decide) (by omega)) (fun i hi => m 78 _ (by decide) (by decide) (by decide) (by omega)) (p3 j hj)⟩
    · obtain ⟨z, hz, ez⟩ := h3
      exact ⟨z, hz, (c 17 0 (by decide) (by decide) (by decide) (by decide)).trans ez⟩
    · rw [c 8 0 (by decide) (by decide) (by decide) (by decide), m 43 25 (by decide) (by decide) (by decide) (by decide)]; exact h4
    · rw [c 7 2 (by decide) (by decide) (by decide) (by decide), m 44 12 (by decide) (by decide) (by decide) (by decide)]; exact h5
    · rw [c 7 3 (by decide) (by decide) (by decide) (by decide), m 44 11 (by decide) (by decide) (by decide) (by decide)]; exact h6
    · rw [show I (7, 0) 7 = nJ L0 from k1, nJ_eq (by omega) (by omega)] at a1
      omega
    · rw [c 7 9 (by decide) (by decide) (by decide) (by decide)]; exact p1
    · rw [m 43 48 (by decide) (by decide) (by decide) (by decide)]; exact p2
theorem t_log {I A : IT} {J B : JT} (d : Nat) (x y t : Int32) (h : Rel I A) : Cal (ev (d + 3) mPx_log 0 [vR (0, 0), vI x, vI y, vI t, vU] [] (hh I J)) (ev (d + 3) mMo_log 0 [vR (43, 0), vI x, vI y, vI t, vU] [] (hh A B)) I A := by
  obtain ⟨q, -, -, ⟨T, S, N, hro, hwk, -, -, -, -, ⟨L, hL, l1, l2, l3⟩, -⟩, -⟩ := id h
  have hT := hro.1.1
  have hN := hro.1.2.2.1
  have e2 : I (8, 0) 2 = nJ T := hro.2.1.2.1
  have m1 : A (44, 0) 1 = nJ T := hro.2.1.2.2.1
  have e4 : I (8, 0) 4 = nJ N := hro.2.1.2.2.2.2.2.1
  have m4 : A (44, 0) 4 = nJ N := hro.2.1.2.2.2.2.2.2
  have l1 : I (7, 0) 7 = nJ L := l1
  have l2 : A (44, 0) 10 = nJ L := l2
  rw [ePx_log_0, eMo_log_0]
  by_cases x1 : x = -1
  · rw [if_pos x1, if_pos x1]
    refine Cal.mk rfl rfl (log_Rel h 0 (by decide) (fun a k a1 _ _ _ => if_neg a1) (fun a k a1 _ _ _ => if_neg a1) (up_same _ _ _ _) (up_same _ _ _ _) (fun _ _ _ _ i hi => absurd hi (Nat.not_lt_zero i))) (FrC.up (by decide)) (FrM.up (by decide))
  rw [if_neg x1, if_neg x1, mIn _ x 0 60 0 60 rfl rfl, bI_some, bif2]
  by_cases x0 : x < 0
  · rw [if_pos x0, if_neg (fun z => z.1 x0)]
    exact Cal.ro rfl rfl h
  by_cases x6 : (60 : Int32) < x
  · rw [if_neg x0, if_pos x6, if_neg (fun z => z.2 x6)]
    exact Cal.ro rfl rfl h
  rw [if_neg x0, if_neg x6, if_pos (And.intro x0 x6), cWalk _ _ e4, bI_some, bif2, gI_hh, gJ_hh, gI_hh, gJ_hh, mWalk _ _ m4 (by omega), bI_some, bif2, l1, l2]
  have xm : ∃ m, m < 61 ∧ x = nJ m := by
    have e := nJ_of x0
    rw [e, show (60 : Int32) = nJ 60 from rfl, nJ_lt (by decide) (nat_lt31 x)] at x6
    exact ⟨_, by omega, e⟩
  by_cases hy : inn y N
  · rw [if_pos hy, if_pos hy]
    obtain ⟨w, hw, rfl⟩ := inn_ex (by omega) hy
    have hfin : L < 10 → ∀ J' B', Cal (some (some (vI (nJ L + 1)), hh (up2 (up2 (up2 (up2 I (24, 0) (nJ L).toNatClampNeg x) (25, 0) (nJ L).toNatClampNeg (nJ w)) (26, 0) (nJ L).toNatClampNeg t) (7, 0) 7 (nJ L + 1)) J')) (some (some (vI (nJ L + 1)), hh (up2 (up2 (up2 (up2 A (57, 0) (nJ L).toNatClampNeg x) (58, 0) (nJ L).toNatClampNeg (nJ w)) (59, 0) (nJ L).toNatClampNeg t) (44, 0) 10 (nJ L + 1)) B')) I A := by
      intro hL10 J' B'
      rw [nJ_nat (by omega), nJ_succ]
      refine Cal.mk rfl rfl (log_Rel h (L + 1) (by omega) (fun a k a1 a2 a3 a4 => by rw [up_at, if_neg a1, up_ne _ _ _ _ a4, up_ne _ _ _ _ a3, up_ne _ _ _ _ a2]) (fun a k a1 a2 a3 a4 => by rw [up_at, if_neg a1, up_ne _ _ _ _ a4, up_ne _ _ _ _ a3, up_ne _ _ _ _ a2]) (up_same _ _ _ _) (up_same _ _ _ _) (fun N' hN' hN3 hold i hi => ?_)) ((FrC.up (by decide)).tr ((FrC.up (by decide)).tr ((FrC.up (by decide)).tr (FrC.up (by decide))))) ((FrM.up (by decide)).tr ((FrM.up (by decide)).tr ((FrM.up (by decide)).tr (FrM.up (by decide)))))
      have eN : N' = N := by
        rw [e4, nJ_eq (by omega) (by omega)] at hN'
        exact hN'.symm
      subst eN
      have a24 : up2 (up2 (up2 (up2 I (24, 0) L x) (25, 0) L (nJ w)) (26, 0) L t) (7, 0) 7 (nJ (L + 1)) (24, 0) i = up2 I (24, 0) L x (24, 0) i := by rw [up_ne _ _ _ _ (by decide), up_ne _ _ _ _ (by decide), up_ne _ _ _ _ (by decide)]
      have a25 : up2 (up2 (up2 (up2 I (24, 0) L x) (25, 0) L (nJ w)) (26, 0) L t) (7, 0) 7 (nJ (L + 1)) (25, 0) i = if i = L then nJ w else I (25, 0) i := by
        rw [up_ne _ _ _ _ (by decide), up_ne _ _ _ _ (by decide), up_at, up_ne _ _ _ _ (by decide)]
        by_cases e : i = L
        · rw [if_pos ⟨rfl, e⟩, if_pos e]
        · rw [if_neg (fun z => e z.2), if_neg e]
      have a26 : up2 (up2 (up2 (up2 I (24, 0) L x) (25, 0) L (nJ w)) (26, 0) L t) (7, 0) 7 (nJ (L + 1)) (26, 0) i = if i = L then t else I (26, 0) i := by
        rw [up_ne _ _ _ _ (by decide), up_at, up_ne _ _ _ _ (by decide), up_ne _ _ _ _ (by decide)]
        by_cases e : i = L
        · rw [if_pos ⟨rfl, e⟩, if_pos e]
        · rw [if_neg (fun z => e z.2), if_neg e]
      have b24 : up2 (up2 (up2 (up2 A (57, 0) L x) (58, 0) L (nJ w)) (59, 0) L t) (44, 0) 10 (nJ (L + 1)) (57, 0) i = up2 A (57, 0) L x (57, 0) i := by rw [up_ne _ _ _ _ (by decide), up_ne _ _ _ _ (by decide), up_ne _ _ _ _ (by decide)]
      have b25 : up2 (up2 (up2 (up2 A (57, 0) L x) (58, 0) L (nJ w)) (59, 0) L t) (44, 0) 10 (nJ (L + 1)) (58, 0) i = if i = L then nJ w else A (58, 0) i := by
        rw [up_ne _ _ _ _ (by decide), up_ne _ _ _ _ (by decide), up_at, up_ne _ _ _ _ (by decide)]
        by_cases e : i = L
        · rw [if_pos ⟨rfl, e⟩, if_pos e]
        · rw [if_neg (fun z => e z.2), if_neg e]
      have b26 : up2 (up2 (up2 (up2 A (57, 0) L x) (58, 0) L (nJ w)) (59, 0) L t) (44, 0) 10 (nJ (L + 1)) (59, 0) i = if i = L then t else A (59, 0) i := by
        rw [up_ne _ _ _ _ (by decide), up_at, up_ne _ _ _ _ (by decide), up_ne _ _ _ _ (by decide)]
        by_cases e : i = L
        · rw [if_pos ⟨rfl, e⟩, if_pos e]
        · rw [if_neg (fun z => e z.2), if_neg e]
      rw [a24, a25, a26, b24, b25, b26]
      by_cases e : i = L
      · subst e
        rw [up_same, up_same, if_pos rfl, if_pos rfl, if_pos rfl, if_pos rfl]
        exact ⟨⟨rfl, xm⟩, ⟨rfl, w, hw, rfl⟩, rfl⟩
      · rw [up_neK _ _ e, up_neK _ _ e, if_neg e, if_neg e, if_neg e, if_neg e]
        exact hold i ⟨L, l1, hL, by omega⟩
    by_cases h10 : L = 10
    · rw [if_neg (nlt_nL (b := 10) (by omega) (by omega))]
      simp only [if_pos (show nJ L = 10 by rw [h10]; rfl)]
      by_cases t1 : t = -1
      · rw [if_pos t1]
        exact Cal.ro rfl rfl h
      · rw [if_neg t1, gI_hh, gJ_hh, mTown _ _ m1 (by omega), bI_some, bif2]
        by_cases ht : inn t T
        · rw [if_pos ht]
          exact Cal.ro rfl rfl h
        · rw [if_neg ht]
          exact Cal.ro rfl rfl h
    · rw [if_pos (lt_nL (b := 10) (by omega) (by decide))]
      simp only [if_neg (show ¬ nJ L = 10 from ne_nL (b := 10) h10 (by omega) (by decide))]
      simp only [gI_hh, gJ_hh, l1, l2, bnd (show L < 10 by omega) (show 10 ≤ 100000 by decide), cTown _ _ e2, mTown _ _ m1 (show T < 1000000 by omega), bI_some, bif2]
      by_cases t1 : t = -1
      · rw [if_pos t1, if_pos t1]
        exact hfin (by omega) J B
      · rw [if_neg t1, if_neg t1]
        by_cases ht : inn t T
        · rw [if_pos ht, if_pos ht]
          exact hfin (by omega) J B
        · rw [if_neg ht, if_neg ht]
          exact Cal.ro rfl rfl h
  · rw [if_neg hy, if_neg hy]
    exact Cal.ro rfl rfl h
