/-! the reference's sumOf sees the same -/
theorem cSee (d r n w t z D S T : Nat) (I : IT) (J : JT) (hS : S ≤ 6) (hw : w < 3) (ht : t < T) (hT : T ≤ 8) (hz : z < 64) (e3 : I (8, 0) 3 = nJ S) (ez : I (17, n) 1 = nJ z) (eD : I (17, n) 0 = nJ D)
    (htw : ∃ u, u < T ∧ I (18, n) w = nJ u) (hdu : ∀ k, k < S → ∃ u, u < 300 ∧ I (14, 0) k = nJ u) (hap : ∃ u, (u = 1000000 ∨ u < 2400) ∧ I (11, 0) (8 * t) = nJ u) :
    Tr (ev (d + 1) mRu_see 0 [vR (37, r), vR (8, 0), vR (17, n), vI (nJ w), vI (nJ t), vU, vU, vU, vU, vU] [] (hh I J)) (fun v I' J' => v = none ∧ I' = I ∧ (∀ k, k < 11 → J' (41, r) k = snF I n w t z D S k) ∧ ∀ a, a ≠ (41, r) → J' a = J a) := by
  rw [eRu_see_0]
  exact see_go d r n w t z D S T I J hS hw ht hT hz e3 ez eD htw hdu hap S 0 (by omega)
theorem cWorth (d r n w t z D S T : Nat) (I A : IT) (J : JT) (hr : RuR I A r) (hS : S ≤ 6) (hw : w < 3) (ht : t < T) (hT : T ≤ 8) (hz : z < 64) (e3 : I (8, 0) 3 = nJ S) (ez : I (17, n) 1 = nJ z) (eD : I (17, n) 0 = nJ D)
    (htw : ∃ u, u < T ∧ I (18, n) w = nJ u) (hdu : ∀ k, k < S → ∃ u, u < 300 ∧ I (14, 0) k = nJ u) (hap : ∃ u, (u = 1000000 ∨ u < 2400) ∧ I (11, 0) (8 * t) = nJ u) :
    Tr (ev (d + 2) mRu_worth 0 [vR (37, r), vR (8, 0), vR (17, n), vI (nJ w), vI (nJ t), vU, vU] [] (hh I J)) (fun v I' _ => v = some (vL (wnt I r (snF I n w t z D S))) ∧ I' = I) := by
  rw [eRu_worth_0]
  refine Tr.bV ((cSee d r n w t z D S T I J hS hw ht hT hz e3 ez eD htw hdu hap).mono fun v I' J' ⟨q1, q2, q3, _⟩ => ⟨q1, ?_⟩)
  subst q2
  exact (cWorth8 d r I' A J' _ hr q3).mono fun v I'' J'' ⟨p1, p2, _⟩ => ⟨p1, p2⟩
theorem b_andn : ∀ a, a < 64 → ∀ b, b < 64 → (nJ a &&& (nJ b ^^^ (-1))) = nJ (a &&& (63 ^^^ b)) := by decide +kernel
theorem b_and2 : ∀ a, a < 64 → ∀ b, b < 64 → (nJ a &&& nJ b) = nJ (a &&& b) := by decide +kernel
theorem b_63 : ∀ k, k < 6 → (63 : Nat).testBit k = true := by decide
theorem and_lt64 {a b : Nat} (h : a < 64) : a &&& b < 64 := Nat.lt_of_le_of_lt Nat.and_le_left h
theorem t_andn {a b k : Nat} (hk : k < 6) : (a &&& (63 ^^^ b)).testBit k = (a.testBit k && !b.testBit k) := by
  rw [Nat.testBit_and, Nat.testBit_xor, b_63 k hk]
  simp
theorem pop_cn : ∀ z, z < 64 → pop8 z = cn z.testBit 6 := by decide +kernel
theorem cn_six {p : Nat → Bool} {S : Nat} (hS : S ≤ 6) (h : ∀ k, S ≤ k → k < 6 → p k = false) : cn p 6 = cn p S := by
  have := cn_pad (p := p) (S := S) (6 - S) (fun k h1 h2 => h k h1 (by omega))
  rw [show S + (6 - S) = 6 by omega] at this
  exact this
theorem blt_t {k n : Nat} (h : k < n) : Nat.blt k n = true := by rw [Nat.blt_eq]; exact h
theorem blt_f {k n : Nat} (h : n ≤ k) : Nat.blt k n = false := by
  cases hq : Nat.blt k n
  · rfl
  · rw [Nat.blt_eq] at hq; omega
theorem pop_hN {row : Nat → Int32} {w : Int32} {S : Nat} (hS : S ≤ 6) : pop8 (hN row w S) = cn (fun k => decide (row k = w)) S := by
  rw [pop_cn _ (hN_lt S hS), cn_ext (p' := fun k => Nat.blt k S && decide (row k = w)) 6 (fun k hk => hN_bit S hS k hk), cn_six hS (fun k h1 _ => by rw [blt_f h1]; rfl)]
  exact cn_ext S (fun k hk => by rw [blt_t hk]; rfl)
theorem pop_hNz {row : Nat → Int32} {w : Int32} {S z : Nat} (hS : S ≤ 6) : pop8 (hN row w S &&& z) = cn (fun k => decide (row k = w) && z.testBit k) S := by
  rw [pop_cn _ (and_lt64 (hN_lt S hS)), cn_ext (p' := fun k => (Nat.blt k S && decide (row k = w)) && z.testBit k) 6 (fun k hk => by rw [Nat.testBit_and, hN_bit S hS k hk]), cn_six hS (fun k h1 _ => by rw [blt_f h1]; rfl)]
  exact cn_ext S (fun k hk => by rw [blt_t hk]; rfl)
theorem sub_toInt {a b : Nat} (ha : a < 100000000) (hb : b < 100000000) : (nJ a - nJ b).toInt = (a : Int) - b := by
  rw [i_sub]
  · rw [nJ_int (by omega), nJ_int (by omega)]
  · rw [nJ_int (by omega), nJ_int (by omega)]
    omega
def rfx (p : Nat → Bool) (du : Nat → Nat) (D k : Nat) : Int32 := if cn p k = 0 then 999 else nJ (lsN p du k) - nJ D
theorem rfx_succ {p : Nat → Bool} {du : Nat → Nat} {D k : Nat} (hD : D < 2000) (hd : ∀ j, j < k + 1 → du j < 300) : rfx p du D (k + 1) = bif p k then (if nJ (du k) - nJ D < rfx p du D k then nJ (du k) - nJ D else rfx p du D k) else rfx p du D k := by
  unfold rfx
  have h0 := hd k (by omega)
  cases hp : p k
  · simp [cn, lsN, hp]
  · have hc : cn p (k + 1) ≠ 0 := by simp [cn, hp]
    rw [if_neg hc]
    by_cases h1 : cn p k = 0
    · have hl := lsN_z p du k h1
      rw [if_pos h1]
      have hlt : nJ (du k) - nJ D < 999 := by
        rw [i_lt, sub_toInt (by omega) (by omega)]
        have : (999 : Int32).toInt = 999 := rfl
        omega
      have hb : Nat.blt (du k) (lsN p du k) = true := by rw [hl, Nat.blt_eq]; omega
      show nJ (bif p k && Nat.blt (du k) (lsN p du k) then du k else lsN p du k) - nJ D = (if nJ (du k) - nJ D < 999 then nJ (du k) - nJ D else 999)
      rw [if_pos hlt, hp, hb]
      rfl
    · rw [if_neg h1]
      have hl := lsN_lt p du k (fun j hj => hd j (by omega)) h1
      show nJ (bif p k && Nat.blt (du k) (lsN p du k) then du k else lsN p du k) - nJ D = (if nJ (du k) - nJ D < nJ (lsN p du k) - nJ D then nJ (du k) - nJ D else nJ (lsN p du k) - nJ D)
      by_cases h2 : du k < lsN p du k
      · rw [if_pos (by rw [i_lt, sub_toInt (by omega) (by omega), sub_toInt (by omega) (by omega)]; omega), hp, blt_t h2]
        rfl
      · rw [if_neg (by rw [i_lt, sub_toInt (by omega) (by omega), sub_toInt (by omega) (by omega)]; omega), hp, blt_f (by omega)]
        rfl
theorem sum_go (d r n w t z D S T N G : Nat) (I A : IT) (B : JT) (hr6 : r < 6) (hr : RuR I A r) (hf : A (44, 0) 12 = nJ r) (hro : RoR (scC I 0) (scM A) T S N) (hwk : WkR (scC I n) (scM A) T S N G) (hw : w < N) (ht : t < T) (hz : z < 64) (ez : I (17, n) 1 = nJ z) (eD : I (17, n) 0 = nJ D) (hD : D < 2000) (hdy : dyC (scC I 0) (tn (I (18, n) w)) t ≠ 0) :
    ∀ (j k : Nat), k + j = S → Tr (ev (d + 4) mMo_sumOf 10 [vR (43, 0), vI (nJ w), vI (nJ t), vI (nJ (hN (A (51, 0)) (nJ w) S)), vI (nJ (cn (ask I n w t z) k)), vI (rfx (ask I n w t z) (du0 I) D k), vI (nJ k)] [] (hh A B)) (fun v A' _ => v = some (vL (wnt I r (snF I n w t z D S))) ∧ A' = A) := by
  obtain ⟨⟨hT, hS, hN, -⟩, ⟨-, -, -, -, m3, -, -⟩, ⟨mp1, -, mp2, -⟩, hpr, hse, -⟩ := hro
  obtain ⟨wd, ⟨z', hz', cz, mz⟩, -, -, -, hwa, hso, -⟩ := hwk
  have cz : I (17, n) 1 = nJ z' := cz
  obtain rfl : z' = z := by
    rw [ez, nJ_eq (by omega) (by omega)] at cz
    exact cz.symm
  have m3 : A (44, 0) 3 = nJ S := m3
  have mz : A (44, 0) 6 = nJ z' := mz
  have mD : A (44, 0) 5 = nJ D := (show I (17, n) 0 = A (44, 0) 5 from wd).symm.trans eD
  have hrow : ∀ k, k < S → I (22, n) k = A (51, 0) k := fun k hk => (hso k hk).1.1
  have hgl : ∀ k, k < S → I (13, 0) k = A (48, 0) k := fun k hk => (hse k hk).1.1
  have hdu : ∀ k, k < S → I (14, 0) k = A (49, 0) k ∧ A (49, 0) k = nJ (du0 I k) ∧ du0 I k < 300 := fun k hk => by
    obtain ⟨e1, u, hu, e2⟩ := (hse k hk).2.1
    have e1 : I (14, 0) k = A (49, 0) k := e1
    have e2 : I (14, 0) k = nJ u := e2
    have : du0 I k = u := by unfold du0; rw [e2]; exact nJ_nat (by omega)
    rw [this, ← e1]
    exact ⟨rfl, e2, hu⟩
  have hNl := hN_lt (row := A (51, 0)) (w := nJ w) S hS
  intro j
  induction j with
  | zero =>
    intro k hk
    obtain rfl : k = S := by omega
    obtain ⟨⟨ew, u, hu, eu⟩, -, ⟨ep, -⟩, -⟩ := hwa w hw
    have eu : I (18, n) w = nJ u := eu
    have ew : A (53, 0) w = nJ u := (show I (18, n) w = A (53, 0) w from ew).symm.trans eu
    have ep : I (20, n) w = A (55, 0) w := ep
    have tu : tn (I (18, n) w) = u := by rw [eu]; exact nJ_nat (by omega)
    rw [tu] at hdy
    obtain ⟨-, f1, f2⟩ := mp1 u t hu ht
    rw [if_neg hdy] at f2
    have f3 : A (46, 0) (8 * u + t) = I (10, 0) (8 * u + t) := f2.trans f1.symm
    obtain ⟨g0, g1, g2⟩ := mp2 t 0 ht (by omega)
    have g1 : I (11, 0) (8 * t) = nJ (dst (scC I 0) t 0) := g1
    have g2 : A (47, 0) (8 * t) = nJ (if dst (scC I 0) t 0 = 1000000 then 10000 else dst (scC I 0) t 0) := g2
    have tg : tn (I (11, 0) (8 * t)) = dst (scC I 0) t 0 := rfl
    have tg2 : tn (nJ (dst (scC I 0) t 0)) = dst (scC I 0) t 0 := nJ_nat (by omega)
    have epr : I (9, 0) t = A (45, 0) t := (hpr t ht).1
    have hc := cn_le (ask I n w t z') k
    rw [eMo_sumOf_10, m3, if_neg (nlt_nJ (Nat.le_refl k) (by omega)), bnd (show w < 3 by omega) (by omega), nJ_nat (show w < 2147483648 by omega), ew, mul8', bnd (show 8 * u + t < 64 by omega) (by omega), mul80', bnd (show 8 * t < 64 by omega) (by omega), nJ_nat (show 8 * t < 2147483648 by omega), nJ_nat (show 8 * u + t < 2147483648 by omega)]
    have hown : cn (fun k => decide (A (51, 0) k = nJ w)) k = cn (ow I n w) k := cn_ext k (fun i hi => by unfold ow; rw [hrow i hi])
    have hown2 : cn (fun k => decide (A (51, 0) k = nJ w) && z'.testBit k) k = cn (fun k => ow I n w k && z'.testBit k) k := cn_ext k (fun i hi => by unfold ow; rw [hrow i hi])
    by_cases h1 : dst (scC I 0) t 0 = 1000000
    · rw [g2, if_pos h1, if_neg (nlt_nL (a := 10000) (b := 10000) (Nat.le_refl _) (by decide)), bnk (show w < 3 by omega) (by omega), mBits _ _ (by omega), bI_some, gI_hh, gJ_hh, mz, b_and2 _ hNl _ hz, mBits _ _ (Nat.lt_trans (and_lt64 hNl) (by decide)), bI_some, bnd (show t < 8 by omega) (by omega), gI_hh, gJ_hh, nJ_nat (show t < 2147483648 by omega)]
      refine Tr.bL ((mWanted d r I A _ (snF I n w t z' D k) hr6 hr hf ?_).mono fun v A' B' ⟨q1, q2, _⟩ => ⟨_, q1, Tr.ret ⟨rfl, q2⟩⟩)
      rw [pop_hN hS, pop_hNz hS, hown, hown2]
      refine lt11 ?_ ?_ ?_ ?_ ?_ ?_ ?_ ?_ ?_ ?_ ?_ <;> simp [up2, snF, tu, tg, h1, mD, f3, ep, epr, rfx]
    · rw [g2, if_neg h1, if_pos (lt_nL (b := 10000) (by omega) (by decide)), bnk (show 8 * t < 64 by omega) (by omega), bnk (show w < 3 by omega) (by omega), mBits _ _ (by omega), bI_some, gI_hh, gJ_hh, mz, b_and2 _ hNl _ hz, mBits _ _ (Nat.lt_trans (and_lt64 hNl) (by decide)), bI_some, bnd (show t < 8 by omega) (by omega), gI_hh, gJ_hh, nJ_nat (show t < 2147483648 by omega)]
      refine Tr.bL ((mWanted d r I A _ (snF I n w t z' D k) hr6 hr hf ?_).mono fun v A' B' ⟨q1, q2, _⟩ => ⟨_, q1, Tr.ret ⟨rfl, q2⟩⟩)
      rw [pop_hN hS, pop_hNz hS, hown, hown2]
      refine lt11 ?_ ?_ ?_ ?_ ?_ ?_ ?_ ?_ ?_ ?_ ?_ <;> simp [up2, snF, tu, tg2, h1, mD, f3, ep, epr, rfx, g1]
  | succ j ih =>
    intro k hk
    have h1 := ih (k + 1) (by omega)
    rw [rfx_succ hD (fun i hi => (hdu i (by omega)).2.2)] at h1
    rw [eMo_sumOf_10, m3, if_pos (lt_nJ (show k < S by omega) (by omega)), mz, b_andn _ hNl _ hz, mHas _ _ _ (and_lt64 hNl) (show k < 6 by omega), bI_some, bif2, gI_hh, gJ_hh, t_andn (show k < 6 by omega), hN_bit S hS k (by omega), blt_t (show k < S by omega), nJ_succ, nJ_succ, bnd (show k < 6 by omega) (by omega), nJ_nat (show k < 2147483648 by omega), mD, bnk (show k < 6 by omega) (by omega), bnk (show k < 6 by omega) (by omega), (hdu k (by omega)).2.1, ← hgl k (by omega), ← hrow k (by omega)]
    unfold cn at h1
    by_cases ho : I (22, n) k = nJ w
    · cases hb : z'.testBit k
      · by_cases hg : I (13, 0) k = nJ t
        · have o2 : ask I n w t z' k = true := by simp [ask, ow, ho, hb, hg]
          rw [if_pos (by simp [ho]), if_pos hg]
          rw [o2] at h1
          by_cases hl : nJ (du0 I k) - nJ D < rfx (ask I n w t z') (du0 I) D k
          · simp only [if_pos hl, cond_true] at h1 ⊢
            exact h1
          · simp only [if_neg hl, cond_true] at h1 ⊢
            exact h1
        · have o2 : ask I n w t z' k = false := by simp [ask, hg]
          rw [if_pos (by simp [ho]), if_neg hg]
          rw [o2] at h1
          exact h1
      · have o2 : ask I n w t z' k = false := by simp [ask, hb]
        rw [if_neg (by simp)]
        rw [o2] at h1
        exact h1
    · have o2 : ask I n w t z' k = false := by simp [ask, ow, ho]
      rw [if_neg (by simp [ho])]
      rw [o2] at h1
      exact h1
theorem mSum (d r n w t z D S T N G : Nat) (I A : IT) (B : JT) (hr6 : r < 6) (hr : RuR I A r) (hf : A (44, 0) 12 = nJ r) (hro : RoR (scC I 0) (scM A) T S N) (hwk : WkR (scC I n) (scM A) T S N G) (hw : w < N) (ht : t < T) (hz : z < 64) (ez : I (17, n) 1 = nJ z) (eD : I (17, n) 0 = nJ D) (hD : D < 2000) (hdy : dyC (scC I 0) (tn (I (18, n) w)) t ≠ 0) :
    Tr (ev (d + 4) mMo_sumOf 0 [vR (43, 0), vI (nJ w), vI (nJ t), vU, vU, vU, vU] [] (hh A B)) (fun v A' _ => v = some (vL (wnt I r (snF I n w t z D S))) ∧ A' = A) := by
  have hS : S ≤ 6 := hro.1.2.1
  have m3 : A (44, 0) 3 = nJ S := hro.2.1.2.2.2.2.1
  rw [eMo_sumOf_0, mTheirs _ S _ _ _ m3 hS, bI_some, gI_hh, gJ_hh, hF_N S hS]
  exact sum_go d r n w t z D S T N G I A B hr6 hr hf hro hwk hw ht hz ez eD hD hdy S 0 (by omega)
