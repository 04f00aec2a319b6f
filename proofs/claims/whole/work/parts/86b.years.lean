theorem yr_days (d d' m T S N q : Nat) (I A : IT) (x1 x3 x4 x6 x8 y5 : Int32) {Q : Option Vl → IT → JT → Option Vl → IT → JT → Prop} (hm : m < 1000)
    (hK : ∀ (c s : Int32) (D : Nat) (I3 A3 : IT) (J3 B3 : JT), ¬ s < 0 → A3 (44, 0) 11 = s → TrI I A I3 A3 T S N D q 10 → R2 (bI (ev (d + 5) mWa_allPurses 0 [vR (17, 5), vI (I3 (8, 0) 4), vU, vU] [] (hh I3 J3)) (fun r1 h1 => ev (d + 6) mPx_years 41 [vR (0, 0), vI x1, vI (nJ m), vI x3, vI x4, vI c, vI (x6 + r1), vI s, vI (x8 + 1), vU, vU] [] (hh (gI h1) (gJ h1)))) (ev (d' + 7) mMo_years 70 [vR (43, 0), vI x1, vI (nJ m), vI x3, vI x4, vI y5, vU, vI c, vI x6, vI x8, vI 0] [] (hh A3 B3)) Q) :
    ∀ (j i D : Nat) (c s : Int32) (I2 A2 : IT) (J2 B2 : JT), i + j = m → D + j < 1200 → ¬ s < 0 → A2 (44, 0) 11 = s → TrI I A I2 A2 T S N D q 10 →
    R2 (ev (d + 6) mPx_years 52 [vR (0, 0), vI x1, vI (nJ m), vI x3, vI x4, vI c, vI x6, vI s, vI x8, vI (nJ i), vU] [] (hh I2 J2)) (ev (d' + 7) mMo_years 54 [vR (43, 0), vI x1, vI (nJ m), vI x3, vI x4, vI y5, vU, vI c, vI x6, vI x8, vI (nJ i)] [] (hh A2 B2)) Q := by
  intro j
  induction j with
  | zero =>
    intro i D c s I2 A2 J2 B2 hi hD hs es ht
    obtain rfl : i = m := by omega
    rw [ePx_years_52, eMo_years_54, if_neg (nlt_nJ (Nat.le_refl i) (by omega)), if_neg (nlt_nJ (Nat.le_refl i) (by omega))]
    exact hK c s D I2 A2 J2 B2 hs es ht
  | succ j ih =>
    intro i D c s I2 A2 J2 B2 hi hD hs es ht
    rw [ePx_years_52, eMo_years_54, if_pos (lt_nJ (show i < m by omega) (by omega)), if_pos (lt_nJ (show i < m by omega) (by omega)), eMo_robs_0]
    refine rob_go d (d' + 5) T S N D q I A x1 (nJ m) x3 x4 x6 x8 (nJ i) c _ (fun c' s' e' I3 A3 J3 B3 hs' es' he' ht' => ?_) N 0 0 s c I2 A2 J2 B2 (by omega) hs es (Int32.add_zero c).symm (ht.fw (FwC.rf I2 5) (FwM.rf A2) ht.2.2.1.up10 ht.2.2.2.1) (fun v _ hv => (ht.2.2.1.2.2.2.2.2.1 v hv).2.1.2)
    obtain ⟨v, I4, J4, e1, v', A4, B4, e2, rfl, ⟨x, rfl⟩, p3, p4, p5, p6⟩ := one_R2 d d' T S N D q I3 A3 J3 B3 (by omega) ht'.2.2.2.2.1 ht'.2.2.2.2.2 ht'.2.1 ht'.2.2.1 ht'.2.2.2.1
    simp only [gI_hh, gJ_hh]
    rw [e1, e2, nJ_succ, he']
    refine ih (i + 1) (D + 1) (c + c') s' I4 A4 J4 B4 (by omega) (by omega) hs' ?_ (ht'.fw p5 p6 p3 p4)
    rw [p6 (44, 0) 11 (nwc (Or.inr (Or.inr (Or.inr ⟨rfl, Or.inr (by decide)⟩))))]
    exact es'
def rsm (f : Nat → Int32) : Nat → Nat → Int32
  | _, 0 => 0
  | k, j + 1 => f k + rsm f (k + 1) j
theorem rsm_ext {f g : Nat → Int32} : ∀ (j k : Nat), (∀ i, k ≤ i → i < k + j → f i = g i) → rsm f k j = rsm g k j
  | 0, _, _ => rfl
  | j + 1, k, h => by
    show f k + rsm f (k + 1) j = g k + rsm g (k + 1) j
    rw [h k (by omega) (by omega), rsm_ext j (k + 1) (fun i h1 h2 => h i (by omega) (by omega))]
theorem cPurs {I : IT} {J : JT} {N : Nat} (d n : Nat) (hN : N ≤ 3) : ∀ (j k : Nat) (a : Int32), k + j = N → ev d mWa_allPurses 4 [vR (17, n), vI (nJ N), vI a, vI (nJ k)] [] (hh I J) = some (some (vI (a + rsm (I (20, n)) k j)), hh I J) := by
  intro j
  induction j with
  | zero =>
    intro k a hk
    obtain rfl : k = N := by omega
    rw [eWa_allPurses_4, if_neg (nlt_nJ (Nat.le_refl k) (by omega)), show rsm (I (20, n)) k 0 = 0 from rfl, Int32.add_zero]
  | succ j ih =>
    intro k a hk
    rw [eWa_allPurses_4, if_pos (lt_nJ (show k < N by omega) (by omega)), bnd (show k < 3 by omega) (by omega), nJ_nat (by omega), nJ_succ, ih (k + 1) _ (by omega), Int32.add_assoc]
    rfl
theorem mPurs {A : IT} {B : JT} {N : Nat} (d : Nat) (x1 x2 x3 x4 x5 x7 x9 : Int32) (hN : N ≤ 3) (m4 : A (44, 0) 4 = nJ N) : ∀ (j k : Nat) (a : Int32), k + j = N → ev (d + 1) mMo_years 70 [vR (43, 0), vI x1, vI x2, vI x3, vI x4, vI x5, vU, vI x7, vI a, vI x9, vI (nJ k)] [] (hh A B) = bV (ev d mMo_laysBack 0 [vR (43, 0)] [] (hh A B)) (fun h1 => ev (d + 1) mMo_years 44 [vR (43, 0), vI x1, vI x2, vI x3, vI x4, vI x5, vI (A (44, 0) 11), vI x7, vI (a + rsm (A (55, 0)) k j), vI (x9 + 1), vU] [] (hh (gI h1) (gJ h1))) := by
  intro j
  induction j with
  | zero =>
    intro k a hk
    obtain rfl : k = N := by omega
    rw [eMo_years_70, m4, if_neg (nlt_nJ (Nat.le_refl k) (by omega)), show rsm (A (55, 0)) k 0 = 0 from rfl, Int32.add_zero]
  | succ j ih =>
    intro k a hk
    rw [eMo_years_70, m4, if_pos (lt_nJ (show k < N by omega) (by omega)), bnd (show k < 3 by omega) (by omega), nJ_nat (by omega), nJ_succ, ih (k + 1) _ (by omega), Int32.add_assoc]
    rfl
theorem yr_go (d d' n m T S N D q : Nat) (I A : IT) (x3 x4 : Int32) (h : Rel I A) (hn : n ≤ 10) (hm : m ≤ 60) (hru : RusR I A q) (hf : FoR I A q) (hro : RoR (scC I 0) (scM A) T S N) (hwk : WkR (scC I 0) (scM A) T S N 10) (hD : D < 1000) (eD : I (17, 0) 0 = nJ D) : ∀ (j i : Nat) (c s t : Int32) (I2 A2 : IT) (J2 B2 : JT), i + j = n → TrB I A I2 A2 → ¬ s < 0 →
    R2 (ev (d + 6) mPx_years 41 [vR (0, 0), vI (nJ n), vI (nJ m), vI x3, vI x4, vI c, vI t, vI s, vI (nJ i), vU, vU] [] (hh I2 J2)) (ev (d' + 7) mMo_years 44 [vR (43, 0), vI (nJ n), vI (nJ m), vI x3, vI x4, vI (A (44, 0) 11), vI s, vI c, vI t, vI (nJ i), vU] [] (hh A2 B2)) (CalQ I A) := by
  have hN := hro.1.2.2.1
  intro j
  induction j with
  | zero =>
    intro i c s t I2 A2 J2 B2 hi hb hs
    obtain rfl : i = n := by omega
    rw [ePx_years_41, eMo_years_44, if_neg (nlt_nJ (Nat.le_refl i) (by omega)), if_neg (nlt_nJ (Nat.le_refl i) (by omega)), up_id (hb.2.1 (44, 0) 11 (fun z => by cases z.1) (fun z => by cases z.1)).symm]
    by_cases h4 : x4 = 0
    · rw [if_pos h4, if_pos h4]
      exact R2.ret ⟨⟨_, rfl, rfl⟩, hb.rel h⟩
    · rw [if_neg h4, if_neg h4]
      exact R2.ret ⟨⟨_, rfl, rfl⟩, hb.rel h⟩
  | succ j ih =>
    intro i c s t I2 A2 J2 B2 hi hb hs
    rw [ePx_years_41, eMo_years_44, if_pos (lt_nJ (show i < n by omega) (by omega)), if_pos (lt_nJ (show i < n by omega) (by omega))]
    refine R2.lV ((yr_begin (d + 5) hru hf hro hwk eD hb).mono fun v I3 J3 ⟨q1, ht⟩ => ⟨q1, ?_⟩)
    refine yr_days d d' m T S N q I A (nJ n) x3 x4 t (nJ i) (A (44, 0) 11) (by omega) (fun c' s' D' I4 A4 J4 B4 hs' es' ht' => ?_) m 0 D c s I3 _ _ _ (by omega) (by omega) hs (up_same _ _ _ _) (ht.seed s)
    have e4 : I4 (8, 0) 4 = nJ N := ht'.2.1.2.1.2.2.2.2.2.1
    have m4 : A4 (44, 0) 4 = nJ N := ht'.2.1.2.1.2.2.2.2.2.2
    have er : rsm (I4 (20, 5)) 0 N = rsm (A4 (55, 0)) 0 N := rsm_ext N 0 (fun i _ h2 => (place_same ht'.2.2.1 (by omega)).2.2.1)
    have hc := cPurs (I := I4) (J := J4) (N := N) (d + 5) 5 hN N 0 0 (by omega)
    have hmq := mPurs (A := A4) (B := B4) (N := N) (d' + 6) (nJ n) (nJ m) x3 x4 (A (44, 0) 11) c' (nJ i) hN m4 N 0 t (by omega)
    rw [e4, eWa_allPurses_0]
    rw [show (0 : Int32) = nJ 0 from rfl] at hc ⊢
    rw [hc, hmq, bI_some, er, es', nJ_succ]
    refine R2.rV ((tri_laid (d' + 4) ht'.1).mono fun v A5 B5 ⟨z1, z2⟩ => ⟨z1, ?_⟩)
    simp only [gI_hh, gJ_hh]
    rw [show nJ 0 + rsm (A4 (55, 0)) 0 N = rsm (A4 (55, 0)) 0 N from Int32.zero_add _]
    exact ih (i + 1) c' s' _ I4 A5 _ _ (by omega) z2 hs'
theorem rng {y : Int32} {a b : Nat} (ha : a < 2147483648) (hb : b < 2147483648) (h0 : ¬ y < nJ a) (h1 : ¬ nJ b < y) : ∃ m, m ≤ b ∧ y = nJ m := by
  have y2 : ¬ y < 0 := fun z => by
    rw [i_lt] at h0 z
    have a2 : (0 : Int32).toInt = 0 := rfl
    have a3 := nJ_nn ha
    rw [i_lt] at a3
    omega
  have e := nJ_of y2
  rw [e, nJ_lt hb (nat_lt31 y)] at h1
  exact ⟨_, by omega, e⟩
theorem t_years {I A : IT} {J B : JT} (d : Nat) (x y u t : Int32) (h : Rel I A) : Cal (ev (d + 8) mPx_years 0 [vR (0, 0), vI x, vI y, vI u, vI t, vU, vU, vU, vU, vU, vU] [] (hh I J)) (ev (d + 8) mMo_years 0 [vR (43, 0), vI x, vI y, vI u, vI t, vU, vU, vU, vU, vU, vU] [] (hh A B)) I A := by
  obtain ⟨q, -, hru, ⟨T, S, N, hro, hwk, ⟨D, hD, eD⟩, ⟨et, -⟩, hf, ⟨e11, s0⟩, -⟩, -⟩ := id h
  have et : I (8, 0) 0 = A (43, 0) 25 := et
  have e11 : I (7, 0) 3 = A (44, 0) 11 := e11
  have s0 : ¬ I (7, 0) 3 < 0 := s0
  rw [ePx_years_0, eMo_years_0, et]
  by_cases h0 : A (43, 0) 25 = 0
  · rw [if_pos h0, if_pos h0]
    exact Cal.ro rfl rfl h
  rw [if_neg h0, if_neg h0, mIn _ x 1 10 1 10 rfl rfl, bI_some, bif2, mIn _ y 1 60 1 60 rfl rfl, bI_some, bif2, mIn _ u 0 100 0 100 rfl rfl, bI_some, bif2, mIn _ t 0 1 0 1 rfl rfl, bI_some, bif2]
  by_cases x0 : x < 1
  · rw [if_pos x0, if_neg (fun z => z.1 x0)]
    exact Cal.ro rfl rfl h
  by_cases x1 : (10 : Int32) < x
  · rw [if_neg x0, if_pos x1, if_neg (fun z => z.2 x1)]
    exact Cal.ro rfl rfl h
  rw [if_neg x0, if_neg x1, if_pos (And.intro x0 x1)]
  by_cases y0 : y < 1
  · rw [if_pos y0, if_neg (fun z => z.1 y0)]
    exact Cal.ro rfl rfl h
  by_cases y1 : (60 : Int32) < y
  · rw [if_neg y0, if_pos y1, if_neg (fun z => z.2 y1)]
    exact Cal.ro rfl rfl h
  rw [if_neg y0, if_neg y1, if_pos (And.intro y0 y1)]
  by_cases u0 : u < 0
  · rw [if_pos u0, if_neg (fun z => z.1 u0)]
    exact Cal.ro rfl rfl h
  by_cases u1 : (100 : Int32) < u
  · rw [if_neg u0, if_pos u1, if_neg (fun z => z.2 u1)]
    exact Cal.ro rfl rfl h
  rw [if_neg u0, if_neg u1, if_pos (And.intro u0 u1)]
  by_cases t0 : t < 0
  · rw [if_pos t0, if_neg (fun z => z.1 t0)]
    exact Cal.ro rfl rfl h
  by_cases t1 : (1 : Int32) < t
  · rw [if_neg t0, if_pos t1, if_neg (fun z => z.2 t1)]
    exact Cal.ro rfl rfl h
  rw [if_neg t0, if_neg t1, if_pos (And.intro t0 t1)]
  obtain ⟨n, hn, rfl⟩ := rng (a := 1) (b := 10) (by decide) (by decide) x0 x1
  obtain ⟨m, hm, rfl⟩ := rng (a := 1) (b := 60) (by decide) (by decide) y0 y1
  refine R2.rV ((mKeep (d + 5) A B).mono fun v A1 B1 ⟨q2, hk, hfr, _⟩ => ⟨q2, ?_⟩)
  simp only [gI_hh, gJ_hh]
  rw [e11]
  exact yr_go (d + 2) (d + 1) n m T S N D q I A u t h hn hm hru hf hro hwk hD eD n 0 0 _ 0 I A1 J B1 (by omega) ⟨FwC.rf I 5, hfr, hk⟩ (e11 ▸ s0)
