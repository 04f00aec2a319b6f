/-! YEARS: drawing, robbing, years of days -/
theorem dr_v (n : Nat) (hn : n < 2147483648) : (nJ n).toInt64 = Int64.ofNat n := by
  apply Int64.toInt_inj.mp
  rw [Int32.toInt_toInt64, Int32.toInt_ofNat_of_lt hn, Int64.toInt_ofNat_of_lt (by omega)]
theorem dr_o (m : Nat) : (Int64.ofNat m &&& 2147483647) = Int64.ofNat (m % 2147483648) := by
  apply Int64.toBitVec_inj.mp
  rw [Int64.toBitVec_and]
  apply BitVec.eq_of_toNat_eq
  rw [BitVec.toNat_and]
  show (m % 2 ^ 64) &&& (2 ^ 31 - 1) = (m % 2147483648) % 2 ^ 64
  rw [Nat.and_two_pow_sub_one_eq_mod]
  omega
theorem dr_d (m : Nat) (hm : m < 9223372036854775808) : Int64.ofNat m - Int64.ofNat m / 2147483648 * 2147483648 = Int64.ofNat (m % 2147483648) := by
  have e : Int64.ofNat m / 2147483648 = Int64.ofNat (m / 2147483648) := by
    apply Int64.toInt_inj.mp
    rw [Int64.toInt_div, Int64.toInt_ofNat_of_lt (by omega), Int64.toInt_ofNat_of_lt (by omega)]
    show ((m : Int).tdiv ((2147483648 : Nat) : Int)).bmod (2 ^ 64) = _
    rw [← Int.ofNat_tdiv, Int.bmod_eq_of_le] <;> omega
  rw [e]
  show Int64.ofNat m - Int64.ofNat (m / 2147483648) * Int64.ofNat 2147483648 = _
  rw [← Int64.ofNat_mul, ← Int64.ofNat_sub _ _ (by omega)]
  congr 1
  omega
theorem dr_e (n : Nat) (hn : n < 2147483648) : (nJ n).toInt64 * 1103515245 + 12345 = Int64.ofNat (n * 1103515245 + 12345) := by
  rw [dr_v n hn]
  show Int64.ofNat n * Int64.ofNat 1103515245 + Int64.ofNat 12345 = _
  rw [← Int64.ofNat_mul, ← Int64.ofNat_add]
theorem dr_i (n : Nat) (hn : n < 2147483648) : (Int64.ofNat n).toInt32 = nJ n := by
  apply Int32.toInt_inj.mp
  rw [Int64.toInt_toInt32, Int64.toInt_ofNat_of_lt (by omega), Int32.toInt_ofNat_of_lt hn, Int.bmod_eq_of_le] <;> omega
def drw (s : Int32) : Int32 := (((s.toInt64 * 1103515245) + 12345) &&& 2147483647).toInt32
theorem drw_ok {s : Int32} (h : ¬ s < 0) : ¬ drw s < 0 ∧ (((s.toInt64 * 1103515245) + 12345) - ((s.toInt64 * 1103515245) + 12345) / 2147483648 * 2147483648).toInt32 = drw s := by
  obtain ⟨n, hn, rfl⟩ : ∃ n, n < 2147483648 ∧ s = nJ n := ⟨_, nat_lt31 s, nJ_of h⟩
  unfold drw
  rw [dr_e n hn, dr_o, dr_d _ (by omega), dr_i _ (by omega)]
  exact ⟨nJ_nn (by omega), rfl⟩
theorem drw_def (s : Int32) : (((s.toInt64 * 1103515245) + 12345) &&& 2147483647).toInt32 = drw s := rfl
theorem yr_begin {I A I2 A2 : IT} {J2 : JT} {T S N D q : Nat} (d : Nat) (hru : RusR I A q) (hf : FoR I A q) (hro : RoR (scC I 0) (scM A) T S N) (hwk : WkR (scC I 0) (scM A) T S N 10) (eD : I (17, 0) 0 = nJ D) (hb : TrB I A I2 A2) : Tr (ev d mWa_copyFrom 0 [vR (17, 5), vR (17, 0)] [] (hh I2 J2)) (fun v I3 _ => v = none ∧ TrI I A I3 A2 T S N D q 10) := by
  obtain ⟨v1, v2⟩ := hb.views
  have hN := hro.1.2.2.1
  have hS := hro.1.2.1
  refine (cTrial d I2 J2).mono fun v I3 J3 ⟨q1, hc, hfw, _⟩ => ⟨q1, ?_⟩
  have hwk2 : WkR (scC I2 0) (scM A2) T S N 10 := by rw [v1, v2]; exact hwk
  have hro2 : RoR (scC I2 0) (scM A2) T S N := by rw [v1, v2]; exact hro
  refine ⟨⟨FwC.tr hb.1 hfw, A2, hb.2.2, hb.2.1, fun _ _ _ _ => rfl⟩, FwC.ro hfw (FwM.rf A2) hro2, trial_wk hN hS hc (fun _ _ _ => rfl) hwk2, ?_, RusR.fw hfw (FwM.rf A2) (hb.rus hru), ?_⟩
  · rw [hc.1 0 (by decide), hb.1 (17, 0) (by decide)]; exact eD
  · have e72 : I3 (7, 0) 2 = I (7, 0) 2 := by rw [hfw (7, 0) (by decide), hb.1 (7, 0) (by decide)]
    rw [e72, hb.2.1 (44, 0) 12 (fun z => by cases z.1) (fun z => by cases z.1)]
    exact hf
theorem TrI.seed {I A I2 A2 : IT} {T S N D q G : Nat} (s : Int32) (h : TrI I A I2 A2 T S N D q G) : TrI I A I2 (up2 A2 (44, 0) 11 s) T S N D q G := by
  obtain ⟨⟨s1, A1, s2, s3, s4⟩, a2, a3, a4, a5, a6⟩ := h
  have hN := a2.1.2.2.1
  have hS := a2.1.2.1
  refine ⟨⟨s1, A1, s2, s3, fun a i b1 b2 => ?_⟩, RoR_ext (fun _ _ _ _ => rfl) (fun f k hf => ?_) a2, WkR_ext hN hS (fun _ _ _ _ _ _ _ => rfl) (fun f k hf k1 k2 k3 => ?_) a3, a4, RusR_ext (fun _ _ _ => rfl) (fun a k ha => ?_) a5, ?_⟩
  · rw [up_at, if_neg (fun z => b2 ⟨z.1, by omega⟩)]
    exact s4 a i b1 b2
  · rw [scM_up (by omega), if_neg (fun z => by omega)]
  · rw [scM_up (by omega), if_neg (fun z => by have := k1 z.1; omega)]
  · refine up_ne _ _ _ _ (fun z => ?_)
    rcases ha with ⟨e, -⟩ | ha
    · rw [e] at z; cases z
    · rw [z] at ha; simp at ha
  · rw [show up2 A2 (44, 0) 11 s (44, 0) 12 = A2 (44, 0) 12 from up_neK _ _ (by decide)]
    exact a6
theorem tri_laid {I A I4 A4 : IT} {B4 : JT} (d : Nat) (h : TrS I A I4 A4) : Tr (ev (d + 2) mMo_laysBack 0 [vR (43, 0)] [] (hh A4 B4)) (fun v A5 _ => v = none ∧ TrB I A I4 A5) := by
  obtain ⟨h1, A1, h2, h3, h4⟩ := h
  exact (mBack d A4 B4).mono fun v A5 B5 ⟨q1, q2, q3, _⟩ => ⟨q1, h1, laid h2 h3 h4 q2 q3⟩
/-- one walker is robbed -/
theorem TrI.rob {I A I2 A2 : IT} {T S N D q w t : Nat} (ht : TrI I A I2 A2 T S N D q 11) (hw : w < N) (hw3 : w < 3) (ht9 : t < 10) : TrI I A (up2 (up2 I2 (20, 5) w 0) (19, 5) w (nJ (t + 1))) (up2 (up2 A2 (55, 0) w 0) (54, 0) w (nJ (t + 1))) T S N D q 11 := by
  have o := ht.2.2.1.2.2.2.2.2.1 w hw
  refine ht.fw (FwC.tr (FwC.up (by decide)) (FwC.up (by decide))) (FwM.tr (FwM.upw (by decide) hw3) (FwM.upw (by decide) hw3)) (WkR.setw ht.2.2.1 w (fun f k h1 h2 hx => by rw [scC_up (by omega), if_neg (by omega), scC_up (by omega), if_neg (by omega)]) (fun f k h1 h2 hx => by rw [scM_up (by omega), if_neg (by omega), scM_up (by omega), if_neg (by omega)]) (fun _ => ⟨?_, ?_, ?_, ?_⟩)) ?_
  · rw [scC_up (by omega), if_neg (by omega), scC_up (by omega), if_neg (by omega), scM_up (by omega), if_neg (by omega), scM_up (by omega), if_neg (by omega)]
    exact o.1
  · rw [scC_up (by omega), if_pos ⟨rfl, rfl⟩, scM_up (by omega), if_pos ⟨rfl, rfl⟩]
    exact ⟨rfl, t + 1, by omega, rfl⟩
  · rw [scC_up (by omega), if_neg (by omega), scC_up (by omega), if_pos ⟨rfl, rfl⟩, scM_up (by omega), if_neg (by omega), scM_up (by omega), if_pos ⟨rfl, rfl⟩]
    exact ⟨rfl, 0, by decide, rfl⟩
  · rw [scC_up (by omega), if_neg (by omega), scC_up (by omega), if_neg (by omega), scM_up (by omega), if_neg (by omega), scM_up (by omega), if_neg (by omega)]
    exact o.2.2.2
  · rw [up_ne _ _ _ _ (by decide), up_ne _ _ _ _ (by decide)]
    exact ht.2.2.2.1
theorem rob_go (d d' T S N D q : Nat) (I A : IT) (x1 x2 x3 x4 x6 x8 x9 b : Int32) {Q : Option Vl → IT → JT → Option Vl → IT → JT → Prop} (F : Int32 → Hp → Option Rs)
    (hK : ∀ (c s e : Int32) (I3 A3 : IT) (J3 B3 : JT), ¬ s < 0 → A3 (44, 0) 11 = s → e = b + c → TrI I A I3 A3 T S N D q 11 → R2 (bV (ev (d + 5) mPx_goOn 0 [vR (0, 0), vI 1, vU, vU] [] (hh I3 J3)) (fun h2 => ev (d + 6) mPx_years 52 [vR (0, 0), vI x1, vI x2, vI x3, vI x4, vI e, vI x6, vI s, vI x8, vI (x9 + 1), vU] [] (hh (gI h2) (gJ h2)))) (F c (hh A3 B3)) Q) :
    ∀ (j w : Nat) (c s e : Int32) (I2 A2 : IT) (J2 B2 : JT), w + j = N → ¬ s < 0 → A2 (44, 0) 11 = s → e = b + c → TrI I A I2 A2 T S N D q 11 → (∀ v, w ≤ v → v < N → ∃ t, t < 10 ∧ I2 (19, 5) v = nJ t) →
    R2 (ev (d + 6) mPx_years 57 [vR (0, 0), vI x1, vI x2, vI x3, vI x4, vI e, vI x6, vI s, vI x8, vI x9, vI (nJ w)] [] (hh I2 J2)) (bI (ev (d' + 1) mMo_robs 4 [vR (43, 0), vI x3, vI c, vI (nJ w)] [] (hh A2 B2)) F) Q := by
  intro j
  induction j with
  | zero =>
    intro w c s e I2 A2 J2 B2 hj hs es he ht hv
    obtain rfl : w = N := by omega
    have hN := ht.2.1.1.2.2.1
    have e4 : I2 (8, 0) 4 = nJ w := ht.2.1.2.1.2.2.2.2.2.1
    have m4 : A2 (44, 0) 4 = nJ w := ht.2.1.2.1.2.2.2.2.2.2
    rw [ePx_years_57, eMo_robs_4, e4, m4, if_neg (nlt_nJ (Nat.le_refl w) (by omega)), if_neg (nlt_nJ (Nat.le_refl w) (by omega)), bI_some]
    exact hK c s e I2 A2 J2 B2 hs es he ht
  | succ j ih =>
    intro w c s e I2 A2 J2 B2 hj hs es he ht hv
    have hN := ht.2.1.1.2.2.1
    have hw : w < N := by omega
    have hw3 : w < 3 := by omega
    have e4 : I2 (8, 0) 4 = nJ N := ht.2.1.2.1.2.2.2.2.2.1
    have m4 : A2 (44, 0) 4 = nJ N := ht.2.1.2.1.2.2.2.2.2.2
    obtain ⟨t, ht9, e19⟩ := hv w (Nat.le_refl w) hw
    have e54 : A2 (54, 0) w = nJ t := (place_same ht.2.2.1 hw).2.1.symm.trans e19
    obtain ⟨r0, r1⟩ := drw_ok hs
    rw [ePx_years_57, eMo_robs_4, e4, m4, if_pos (lt_nJ hw (by omega)), if_pos (lt_nJ hw (by omega)), bnd hw3 (by omega), bnd hw3 (by omega), nJ_nat (by omega), e19, e54]
    by_cases h0 : t = 0
    · subst h0
      rw [if_pos (show nJ 0 = 0 from rfl), if_neg (show ¬ (0 : Int32) < nJ 0 by decide), nJ_succ]
      exact ih (w + 1) c s e I2 A2 J2 B2 (by omega) hs es he ht (fun v h1 h2 => hv v (by omega) h2)
    · have n0 : ¬ nJ t = 0 := fun z => by
        have z' : nJ t = nJ 0 := z
        rw [nJ_eq (by omega) (by decide)] at z'
        exact h0 z'
      have p0 : (0 : Int32) < nJ t := lt_nJ (a := 0) (by omega) (by omega)
      rw [if_neg n0, if_pos p0, ePx_drawn_0, eMo_draws_0, if_neg (show ¬ (100 : Int32) = 0 by decide), bI_some, bI_some, es, drw_def, r1]
      simp only [gI_hh, gJ_hh, bnd hw3 (show 3 ≤ 100000 by decide), bnk hw3 (show 3 ≤ 100000 by decide), nJ_succ]
      by_cases hx : (drw s / 65536) - (drw s / 65536) / 100 * 100 < x3
      · rw [if_pos hx, if_pos hx, e19, show up2 A2 (44, 0) 11 (drw s) (54, 0) w = nJ t from (up_ne _ _ _ _ (by decide)).trans e54, nJ_succ]
        refine ih (w + 1) (c + 1) (drw s) (e + 1) _ _ _ _ (by omega) r0 ?_ ?_ ((ht.seed (drw s)).rob hw hw3 ht9) (fun v h1 h2 => ?_)
        · rw [up_ne _ _ _ _ (by decide), up_ne _ _ _ _ (by decide), up_same]
        · rw [he, Int32.add_assoc]
        · obtain ⟨t', h3, h4⟩ := hv v (by omega) h2
          refine ⟨t', h3, ?_⟩
          rw [up_neK _ _ (by omega), up_ne _ _ _ _ (by decide)]
          exact h4
      · rw [if_neg hx, if_neg hx]
        exact ih (w + 1) c (drw s) e I2 _ J2 _ (by omega) r0 (up_same _ _ _ _) he (ht.seed (drw s)) (fun v h1 h2 => hv v (by omega) h2)
