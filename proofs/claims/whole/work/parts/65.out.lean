/-! SETTING OUT: both sides -/
def bsF (wv : Nat → Int64) (dy : Nat → Nat) : Nat → Nat × Int64
  | 0 => (8, 0)
  | t + 1 => if dy t ≠ 0 ∧ (bsF wv dy t).2 < wv t then (t, wv t) else bsF wv dy t
theorem bsF_skip {wv : Nat → Int64} {dy : Nat → Nat} {t : Nat} (h : dy t = 0 ∨ ¬ (bsF wv dy t).2 < wv t) : bsF wv dy (t + 1) = bsF wv dy t := by
  show (if dy t ≠ 0 ∧ (bsF wv dy t).2 < wv t then (t, wv t) else bsF wv dy t) = _
  exact if_neg fun q => h.elim q.1 (fun z => z q.2)
theorem bsF_take {wv : Nat → Int64} {dy : Nat → Nat} {t : Nat} (h0 : dy t ≠ 0) (h : (bsF wv dy t).2 < wv t) : bsF wv dy (t + 1) = (t, wv t) := by
  show (if dy t ≠ 0 ∧ (bsF wv dy t).2 < wv t then (t, wv t) else bsF wv dy t) = _
  exact if_pos ⟨h0, h⟩
theorem bsF_ok (wv : Nat → Int64) (dy : Nat → Nat) : ∀ n, (bsF wv dy n).1 = 8 ∨ ((bsF wv dy n).1 < n ∧ dy (bsF wv dy n).1 ≠ 0)
  | 0 => Or.inl rfl
  | n + 1 => by
    unfold bsF
    by_cases h : dy n ≠ 0 ∧ (bsF wv dy n).2 < wv n
    · rw [if_pos h]
      exact Or.inr ⟨Nat.lt_succ_self n, h.1⟩
    · rw [if_neg h]
      exact (bsF_ok wv dy n).imp id fun q => ⟨by omega, q.2⟩
def wvF (I : IT) (r n w z D S : Nat) : Nat → Int64 := fun t => wnt I r (snF I n w t z D S)
def bst (I : IT) (r n w z D S u T : Nat) : Nat := (bsF (wvF I r n w z D S) (dyC (scC I 0) u) T).1
theorem out_go (d r n w z D S T N u : Nat) (I A : IT) (hr : RuR I A r) (hro : RoR (scC I 0) (scM A) T S N) (hw : w < N) (hu : u < T) (eu : I (18, n) w = nJ u) (hz : z < 64) (ez : I (17, n) 1 = nJ z) (eD : I (17, n) 0 = nJ D) :
    ∀ (j t : Nat) (J : JT), t + j = T → Tr (ev (d + 3) mWa_setOut 11 [vR (17, n), vR (8, 0), vR (37, r), vI (nJ w), vI (nJ u), vI (nJ (if (bsF (wvF I r n w z D S) (dyC (scC I 0) u) t).1 = 8 then u else (bsF (wvF I r n w z D S) (dyC (scC I 0) u) t).1)), vL (bsF (wvF I r n w z D S) (dyC (scC I 0) u) t).2, vU, vI (nJ t), vU, vU] [] (hh I J))
      (fun v I' _ => v = none ∧ I' = up2 (up2 I (19, n) w (I (10, 0) (8 * u + (if bst I r n w z D S u T = 8 then u else bst I r n w z D S u T)))) (18, n) w (nJ (if bst I r n w z D S u T = 8 then u else bst I r n w z D S u T))) := by
  obtain ⟨⟨hT, hS, hN, -⟩, ⟨-, e2, -, e3, -, -, -⟩, ⟨mp1, -, mp2, -⟩, -, hse, -⟩ := hro
  have e2 : I (8, 0) 2 = nJ T := e2
  have e3 : I (8, 0) 3 = nJ S := e3
  intro j
  induction j with
  | zero =>
    intro t J ht
    obtain rfl : t = T := by omega
    have hb := bsF_ok (wvF I r n w z D S) (dyC (scC I 0) u) t
    have hb8 : (if (bsF (wvF I r n w z D S) (dyC (scC I 0) u) t).1 = 8 then u else (bsF (wvF I r n w z D S) (dyC (scC I 0) u) t).1) < 8 := by
      split
      · omega
      · omega
    rw [eWa_setOut_11, e2, if_neg (nlt_nJ (Nat.le_refl t) (by omega)), cDays _ 0 u _ (by omega) hb8, bI_some, bnd (show w < 3 by omega) (by omega), bnd (show w < 3 by omega) (by omega), gI_hh, gJ_hh, nJ_nat (show w < 2147483648 by omega)]
    exact Tr.ret ⟨rfl, rfl⟩
  | succ j ih =>
    intro t J ht
    obtain ⟨f0, f1, -⟩ := mp1 u t hu (by omega)
    have f1 : I (10, 0) (8 * u + t) = nJ (dyC (scC I 0) u t) := f1
    rw [eWa_setOut_11, e2, if_pos (lt_nJ (show t < T by omega) (by omega)), cDays _ 0 u t (by omega) (by omega), bI_some, gI_hh, gJ_hh, f1, nJ_succ]
    by_cases h0 : dyC (scC I 0) u t = 0
    · rw [if_pos (show nJ (dyC (scC I 0) u t) = 0 by rw [h0]; rfl)]
      have h1 := ih (t + 1) J (by omega)
      rw [bsF_skip (Or.inl h0)] at h1
      exact h1
    · rw [if_neg (ne_nL (b := 0) h0 (by omega) (by decide))]
      refine Tr.bL ((cWorth d r n w t z D S T I A J hr hS (by omega) (by omega) hT hz e3 ez eD ⟨u, hu, eu⟩ (fun k hk => (hse k hk).2.1.2) ?_).mono fun v I' J' ⟨q1, q2⟩ => ⟨_, q1, ?_⟩)
      · obtain ⟨g0, g1, -⟩ := mp2 t 0 (by omega) (by omega)
        exact ⟨_, g0, g1⟩
      · subst q2
        simp only [cmp_gt]
        have h1 := ih (t + 1) J' (by omega)
        by_cases h2 : (bsF (wvF I' r n w z D S) (dyC (scC I' 0) u) t).2 < wvF I' r n w z D S t
        · rw [if_pos (show (bsF (wvF I' r n w z D S) (dyC (scC I' 0) u) t).2 < wnt I' r (snF I' n w t z D S) from h2)]
          rw [bsF_take h0 h2, if_neg (show ¬ (t, wvF I' r n w z D S t).1 = 8 by show ¬ t = 8; omega)] at h1
          exact h1
        · rw [if_neg (show ¬ (bsF (wvF I' r n w z D S) (dyC (scC I' 0) u) t).2 < wnt I' r (snF I' n w t z D S) from h2)]
          rw [bsF_skip (Or.inr h2)] at h1
          exact h1
theorem cOut (d r n w z D S T N u : Nat) (I A : IT) (J : JT) (hr : RuR I A r) (hro : RoR (scC I 0) (scM A) T S N) (hw : w < N) (hu : u < T) (eu : I (18, n) w = nJ u) (hz : z < 64) (ez : I (17, n) 1 = nJ z) (eD : I (17, n) 0 = nJ D) :
    Tr (ev (d + 3) mWa_setOut 0 [vR (17, n), vR (8, 0), vR (37, r), vI (nJ w), vU, vU, vU, vU, vU, vU, vU] [] (hh I J))
      (fun v I' _ => v = none ∧ I' = up2 (up2 I (19, n) w (I (10, 0) (8 * u + (if bst I r n w z D S u T = 8 then u else bst I r n w z D S u T)))) (18, n) w (nJ (if bst I r n w z D S u T = 8 then u else bst I r n w z D S u T))) := by
  have hN := hro.1.2.2.1
  rw [eWa_setOut_0, bnd (show w < 3 by omega) (by omega), nJ_nat (show w < 2147483648 by omega), eu]
  exact out_go d r n w z D S T N u I A hr hro hw hu eu hz ez eD T 0 J (by omega)
theorem outM_go (d r n w z D S T N G u : Nat) (I A : IT) (hr6 : r < 6) (hr : RuR I A r) (hf : A (44, 0) 12 = nJ r) (hro : RoR (scC I 0) (scM A) T S N) (hwk : WkR (scC I n) (scM A) T S N G) (hw : w < N) (hu : u < T) (eu : I (18, n) w = nJ u) (hz : z < 64) (ez : I (17, n) 1 = nJ z) (eD : I (17, n) 0 = nJ D) (hD : D < 2000) :
    ∀ (j t : Nat) (B : JT), t + j = T → Tr (ev (d + 5) mMo_setsOut 6 [vR (43, 0), vI (nJ w), vI (if (bsF (wvF I r n w z D S) (dyC (scC I 0) u) t).1 = 8 then -1 else nJ (bsF (wvF I r n w z D S) (dyC (scC I 0) u) t).1), vL (bsF (wvF I r n w z D S) (dyC (scC I 0) u) t).2, vU, vI (nJ t), vU, vU] [] (hh A B))
      (fun v A' _ => v = none ∧ A' = if bst I r n w z D S u T = 8 then A else up2 (up2 A (54, 0) w (A (46, 0) (8 * u + bst I r n w z D S u T))) (53, 0) w (nJ (bst I r n w z D S u T))) := by
  have hro' := hro
  have hwk' := hwk
  obtain ⟨⟨hT, hS, hN, -⟩, ⟨-, -, m1, -, -, -, -⟩, ⟨mp1, -, mp2, -⟩, -, hse, -⟩ := hro
  obtain ⟨-, -, -, -, -, hwa, -⟩ := hwk
  have m1 : A (44, 0) 1 = nJ T := m1
  have ew : A (53, 0) w = nJ u := (show I (18, n) w = A (53, 0) w from (hwa w hw).1.1).symm.trans eu
  have tu : tn (I (18, n) w) = u := by rw [eu]; exact nJ_nat (by omega)
  have hfn : ¬ nJ r = -1 := nJ_nm1 (by omega)
  intro j
  induction j with
  | zero =>
    intro t B ht
    obtain rfl : t = T := by omega
    have hb := bsF_ok (wvF I r n w z D S) (dyC (scC I 0) u) t
    rw [eMo_setsOut_6, m1, if_neg (nlt_nJ (Nat.le_refl t) (by omega))]
    by_cases h8 : (bsF (wvF I r n w z D S) (dyC (scC I 0) u) t).1 = 8
    · rw [if_pos h8, if_pos rfl]
      exact Tr.ret ⟨rfl, (if_pos h8).symm⟩
    · have hb := hb.resolve_left h8
      rw [if_neg h8, if_neg (nJ_nm1 (by omega)), bnd (show w < 3 by omega) (by omega), nJ_nat (show w < 2147483648 by omega), ew, mul8', bnd (show 8 * u + (bsF (wvF I r n w z D S) (dyC (scC I 0) u) t).1 < 64 by omega) (by omega), bnk (show w < 3 by omega) (by omega), bnk (show w < 3 by omega) (by omega), nJ_nat (show 8 * u + (bsF (wvF I r n w z D S) (dyC (scC I 0) u) t).1 < 2147483648 by omega)]
      exact Tr.ret ⟨rfl, (if_neg h8).symm⟩
  | succ j ih =>
    intro t B ht
    obtain ⟨f0, -, f1⟩ := mp1 u t hu (by omega)
    have f1 : A (46, 0) (8 * u + t) = nJ (if dyC (scC I 0) u t = 0 then 10000 else dyC (scC I 0) u t) := f1
    rw [eMo_setsOut_6, m1, if_pos (lt_nJ (show t < T by omega) (by omega)), hf, if_neg hfn, bnd (show w < 3 by omega) (by omega), nJ_nat (show w < 2147483648 by omega), ew, mul8', bnd (show 8 * u + t < 64 by omega) (by omega), nJ_nat (show 8 * u + t < 2147483648 by omega), f1, nJ_succ]
    by_cases h0 : dyC (scC I 0) u t = 0
    · rw [if_pos h0, if_neg (nlt_nL (a := 10000) (b := 10000) (Nat.le_refl _) (by decide))]
      have h1 := ih (t + 1) B (by omega)
      rw [bsF_skip (Or.inl h0)] at h1
      exact h1
    · rw [if_neg h0, if_pos (lt_nL (b := 10000) (by omega) (by decide))]
      refine Tr.bL ((mSum d r n w t z D S T N G I A B hr6 hr hf hro' hwk' hw (by omega) hz ez eD hD (by rw [tu]; exact h0)).mono fun v A' B' ⟨q1, q2⟩ => ⟨_, q1, ?_⟩)
      subst q2
      simp only [cmp_gt]
      have h1 := ih (t + 1) B' (by omega)
      by_cases h2 : (bsF (wvF I r n w z D S) (dyC (scC I 0) u) t).2 < wvF I r n w z D S t
      · rw [if_pos (show (bsF (wvF I r n w z D S) (dyC (scC I 0) u) t).2 < wnt I r (snF I n w t z D S) from h2)]
        rw [bsF_take h0 h2, if_neg (show ¬ (t, wvF I r n w z D S t).1 = 8 by show ¬ t = 8; omega)] at h1
        exact h1
      · rw [if_neg (show ¬ (bsF (wvF I r n w z D S) (dyC (scC I 0) u) t).2 < wnt I r (snF I n w t z D S) from h2)]
        rw [bsF_skip (Or.inr h2)] at h1
        exact h1
theorem mOut (d r n w z D S T N G u : Nat) (I A : IT) (B : JT) (hr6 : r < 6) (hr : RuR I A r) (hf : A (44, 0) 12 = nJ r) (hro : RoR (scC I 0) (scM A) T S N) (hwk : WkR (scC I n) (scM A) T S N G) (hw : w < N) (hu : u < T) (eu : I (18, n) w = nJ u) (hz : z < 64) (ez : I (17, n) 1 = nJ z) (eD : I (17, n) 0 = nJ D) (hD : D < 2000) :
    Tr (ev (d + 5) mMo_setsOut 0 [vR (43, 0), vI (nJ w), vU, vU, vU, vU, vU, vU] [] (hh A B))
      (fun v A' _ => v = none ∧ A' = if bst I r n w z D S u T = 8 then A else up2 (up2 A (54, 0) w (A (46, 0) (8 * u + bst I r n w z D S u T))) (53, 0) w (nJ (bst I r n w z D S u T))) := by
  rw [eMo_setsOut_0]
  exact outM_go d r n w z D S T N G u I A hr6 hr hf hro hwk hw hu eu hz ez eD hD T 0 B (by omega)
/-- without a rule nobody sets out -/
theorem mOutN (d w T : Nat) (A : IT) (B : JT) (hT : T ≤ 8) (m1 : A (44, 0) 1 = nJ T) (hf : A (44, 0) 12 = -1) : Tr (ev (d + 1) mMo_setsOut 0 [vR (43, 0), vI (nJ w), vU, vU, vU, vU, vU, vU] [] (hh A B)) (fun v A' _ => v = none ∧ A' = A) := by
  rw [eMo_setsOut_0, eMo_setsOut_6, m1, hf, if_pos rfl, if_pos rfl]
  split
  · exact Tr.ret ⟨rfl, rfl⟩
  · exact Tr.ret ⟨rfl, rfl⟩
/-- both behind setting out -/
theorem out_rel (r n w z D S T N G u : Nat) (I A : IT) (hG : 10 ≤ G) (hro : RoR (scC I 0) (scM A) T S N) (hwk : WkR (scC I n) (scM A) T S N G) (hw : w < N) (hu : u < T) (eu : I (18, n) w = nJ u) (h0 : I (19, n) w = 0) :
    WkR (scC (up2 (up2 I (19, n) w (I (10, 0) (8 * u + (if bst I r n w z D S u T = 8 then u else bst I r n w z D S u T)))) (18, n) w (nJ (if bst I r n w z D S u T = 8 then u else bst I r n w z D S u T))) n) (scM (if bst I r n w z D S u T = 8 then A else up2 (up2 A (54, 0) w (A (46, 0) (8 * u + bst I r n w z D S u T))) (53, 0) w (nJ (bst I r n w z D S u T)))) T S N G ∧ ∃ g, g < 10 ∧ up2 (up2 I (19, n) w (I (10, 0) (8 * u + (if bst I r n w z D S u T = 8 then u else bst I r n w z D S u T)))) (18, n) w (nJ (if bst I r n w z D S u T = 8 then u else bst I r n w z D S u T)) (19, n) w = nJ g := by
  have hb := bsF_ok (wvF I r n w z D S) (dyC (scC I 0) u) T
  change bst I r n w z D S u T = 8 ∨ bst I r n w z D S u T < T ∧ dyC (scC I 0) u (bst I r n w z D S u T) ≠ 0 at hb
  generalize bst I r n w z D S u T = b at hb ⊢
  obtain ⟨⟨hT, hS, hN, -⟩, -, ⟨mp1, mp0, -⟩, -⟩ := hro
  have hwa := hwk.2.2.2.2.2.1 w hw
  have hto : up2 (up2 I (19, n) w (I (10, 0) (8 * u + (if b = 8 then u else b)))) (18, n) w (nJ (if b = 8 then u else b)) (19, n) w = I (10, 0) (8 * u + (if b = 8 then u else b)) := by
    rw [up_ne _ _ _ _ (fun q => by cases q), up_same]
  rw [hto]
  by_cases h8 : b = 8
  · subst h8
    simp only [if_true]
    have hz : I (10, 0) (8 * u + u) = 0 := by
      have := (mp1 u u hu hu).2.1
      rw [mp0 u hu] at this
      exact this
    rw [hz]
    refine ⟨WkR.setw hwk w (fun f k h1 h2 h3 => ?_) (fun _ _ _ _ _ => rfl) (fun _ => ?_), 0, by decide, rfl⟩
    · rw [scC_up (by omega), if_neg (by omega), scC_up (by omega), if_neg (by omega)]
    · refine ⟨⟨?_, ?_⟩, ⟨?_, ?_⟩, ⟨?_, ?_⟩, ?_⟩
      · rw [scC_up (by omega), if_pos ⟨rfl, rfl⟩, ← eu]; exact hwa.1.1
      · rw [scC_up (by omega), if_pos ⟨rfl, rfl⟩]; exact ⟨u, hu, rfl⟩
      · rw [scC_up (by omega), if_neg (by omega), scC_up (by omega), if_pos ⟨rfl, rfl⟩, ← h0]; exact hwa.2.1.1
      · rw [scC_up (by omega), if_neg (by omega), scC_up (by omega), if_pos ⟨rfl, rfl⟩]; exact ⟨0, by omega, rfl⟩
      · rw [scC_up (by omega), if_neg (by omega), scC_up (by omega), if_neg (by omega)]; exact hwa.2.2.1.1
      · rw [scC_up (by omega), if_neg (by omega), scC_up (by omega), if_neg (by omega)]; exact hwa.2.2.1.2
      · rw [scC_up (by omega), if_neg (by omega), scC_up (by omega), if_neg (by omega)]; exact hwa.2.2.2
  · obtain ⟨hbT, hb0⟩ := hb.resolve_left h8
    obtain ⟨g0, g1, g2⟩ := mp1 u b hu hbT
    rw [if_neg hb0] at g2
    have g1 : I (10, 0) (8 * u + b) = nJ (dyC (scC I 0) u b) := g1
    have g2 : A (46, 0) (8 * u + b) = nJ (dyC (scC I 0) u b) := g2
    simp only [if_neg h8]
    rw [g1, g2]
    refine ⟨WkR.setw hwk w (fun f k h1 h2 h3 => ?_) (fun f k h1 h2 h3 => ?_) (fun _ => ?_), _, g0, rfl⟩
    · rw [scC_up (by omega), if_neg (by omega), scC_up (by omega), if_neg (by omega)]
    · rw [scM_up (by omega), if_neg (by omega), scM_up (by omega), if_neg (by omega)]
    · refine ⟨⟨?_, ?_⟩, ⟨?_, ?_⟩, ⟨?_, ?_⟩, ?_⟩
      · rw [scC_up (by omega), if_pos ⟨rfl, rfl⟩, scM_up (by omega), if_pos ⟨rfl, rfl⟩]
      · rw [scC_up (by omega), if_pos ⟨rfl, rfl⟩]; exact ⟨b, hbT, rfl⟩
      · rw [scC_up (by omega), if_neg (by omega), scC_up (by omega), if_pos ⟨rfl, rfl⟩, scM_up (by omega), if_neg (by omega), scM_up (by omega), if_pos ⟨rfl, rfl⟩]
      · rw [scC_up (by omega), if_neg (by omega), scC_up (by omega), if_pos ⟨rfl, rfl⟩]; exact ⟨_, by omega, rfl⟩
      · rw [scC_up (by omega), if_neg (by omega), scC_up (by omega), if_neg (by omega), scM_up (by omega), if_neg (by omega), scM_up (by omega), if_neg (by omega)]; exact hwa.2.2.1.1
      · rw [scC_up (by omega), if_neg (by omega), scC_up (by omega), if_neg (by omega)]; exact hwa.2.2.1.2
      · rw [scC_up (by omega), if_neg (by omega), scC_up (by omega), if_neg (by omega), scM_up (by omega), if_neg (by omega), scM_up (by omega), if_neg (by omega)]; exact hwa.2.2.2
