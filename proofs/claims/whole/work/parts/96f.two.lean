/-- what one step of reading leaves on both sides -/
def TxO (I A : IT) (J B : JT) (by_ : Nat → Nat) (n k1 tk f : Nat) (o o' : Option Rs) (Q : Int32 → Int32 → Nat → Prop) : Prop := ∃ I' A' i' f' p' r r', o = some (some (vI r), hh I' J) ∧ o' = some (some (vI r'), hh A' B) ∧ FrX I I' ∧ FrY A A' ∧ TxR I' A' by_ n k1 tk i' f' p' ∧ (f ≠ 0 → f' = f) ∧ Q r r' f'
theorem nvF_bd {by_ : Nat → Nat} {n p : Nat} (hk : kB (by_ p) = 2) (h5 : ¬ 5 < enk by_ n p - p) : nmF by_ p (enk by_ n p - p) < 100000 := by
  have hv := nmF_lt (by_ := by_) (p := p) (enk by_ n p - p) (fun i hi => (dig_run (n := n) hk i (by omega)).2)
  have := p10_5 (show enk by_ n p - p ≤ 5 by omega)
  omega
/-- a number is taken -/
theorem tk_num {I A : IT} {J B : JT} {by_ : Nat → Nat} {n k1 tk i f p : Nat} (d d' : Nat) (lo hi : Int32) (hlo : ¬ lo < 0) (h : TxR I A by_ n k1 tk i f p) : TxO I A J B by_ n k1 tk f (ev (d + 1) mTe_takeNumber 0 [vR (1, 0), vI lo, vI hi, vU] [] (hh I J)) (ev (d' + 4) mMo_amount 0 [vR (43, 0), vI lo, vI hi, vU, vU] [] (hh A B)) (fun r r' f' => f' = 0 → r = r' ∧ ¬ r < lo ∧ ¬ hi < r ∧ kB (by_ (tpk by_ n i)) = 2 ∧ r = nvF by_ n (tpk by_ n i) ∧ i < tk) := by
  obtain ⟨hT, hM, hi1, e6, e7, m27, m28, hp, hf, hs⟩ := h
  obtain ⟨t1, t2, t3, t4, t5, t6⟩ := hT.at hi1
  have hn := hM.1
  have e5 := hT.2.1
  have hsb := rn_le (f := fun q => Nat.beq (by_ q) 32) (n := n) _ p rfl hp
  have hsb : sbk by_ n p ≤ n := hsb
  rw [eTe_takeNumber_0, eMo_amount_0, cNumHere d hT hi1 e6, bI_some, gI_hh, gJ_hh, cIsNum d hT hi1 e6, bI_some, bif2, gI_hh, gJ_hh, mBlanks (d' + 2) hM _ p rfl (by omega) m27, bV_some]
  simp only [gI_hh, gJ_hh]
  by_cases hf0 : f = 0
  · subst hf0
    have e7 : I (1, 0) 7 = 0 := e7
    have m28 : A (43, 0) 28 = 0 := m28
    have hs := hs rfl
    have hA1 : spp A (sbk by_ n p) (43, 0) 28 = 0 := by rw [spp_28]; exact m28
    rw [if_pos hA1]
    by_cases hk : i < tk ∧ kB (by_ (tpk by_ n i)) = 2
    · have hlt : tpk by_ n i < n := by
        have := (hT.2.2.2.1 i hk.1).1
        exact this
      have hg := enk_gt (by_ := by_) (n := n) (p := tpk by_ n i)
      have hl := enk_le (by_ := by_) hlt
      rw [if_pos hk, if_pos hk]
      rw [hs, mDigits (A := spp A (tpk by_ n i)) (by_ := by_) (n := n) d' (spp_bt hM) (spp_27 _ _) (by rw [spp_28]; exact m28) hlt hk.2, bI_some]
      -- a fault of kind 1 on both sides
      have bad : ∀ A2 r', FrY A A2 → A2 (43, 0) 27 = nJ (enk by_ n (tpk by_ n i)) → A2 (43, 0) 28 = nJ (1 + 8 * tpk by_ n i + 1) → ∀ (R0 : Option Rs), R0 = bV (ev d mTe_fail 0 [vR (1, 0), vI 1] [] (hh I J)) (fun h5 => bV (ev d mTe_skip 0 [vR (1, 0)] [] (hh (gI h5) (gJ h5))) (fun h6 => some (some (vI (nvF by_ n (tpk by_ n i))), hh (gI h6) (gJ h6)))) → TxO I A J B by_ n k1 tk 0 R0 (some (some (vI r'), hh A2 B)) (fun r r' f' => f' = 0 → r = r' ∧ ¬ r < lo ∧ ¬ hi < r ∧ kB (by_ (tpk by_ n i)) = 2 ∧ r = nvF by_ n (tpk by_ n i) ∧ i < tk) := fun A2 r' q1 q2 q3 R0 hR0 => by
        have h7' : ¬ up2 I (1, 0) 7 (nJ (1 + 8 * tpk by_ n i + 1)) (1, 0) 7 = 0 := by
          rw [up_same]
          exact ne_nL (b := 0) (by omega) (by omega) (by decide)
        have hc : R0 = some (some (vI (nvF by_ n (tpk by_ n i))), hh (up2 I (1, 0) 7 (nJ (1 + 8 * tpk by_ n i + 1))) J) := by
          rw [hR0, show ev d mTe_fail 0 [vR (1, 0), vI 1] [] (hh I J) = _ from cFail0 d 1 hT hi1 e6 e7, bV_some, gI_hh, gJ_hh, cSkipN d h7', bV_some]
        refine ⟨_, A2, i, 1 + 8 * tpk by_ n i + 1, enk by_ n (tpk by_ n i), _, r', hc, rfl, FrX.u7, q1, ⟨FrX.u7.tks hT, q1.bt hM, hi1, (up_neK _ _ (by decide)).trans e6, up_same _ _ _ _, q2, q3, by omega, by omega, fun z => by omega⟩, fun z => absurd rfl z, fun z => by omega⟩
      by_cases h5 : 5 < enk by_ n (tpk by_ n i) - tpk by_ n i
      · rw [if_pos h5]
        have hnv : nvF by_ n (tpk by_ n i) = -1 := if_pos h5
        have hff : ¬ up2 (spp (spp A (tpk by_ n i)) (enk by_ n (tpk by_ n i))) (43, 0) 28 (nJ (1 + 8 * tpk by_ n i + 1)) (43, 0) 28 = 0 := by
          rw [up_same]
          exact ne_nL (b := 0) (by omega) (by omega) (by decide)
        rw [gI_hh, if_neg hff]
        refine bad _ _ (FrY.tr FrY.u27 (FrY.tr FrY.u27 FrY.u28)) ((up_neK _ _ (by decide)).trans (spp_27 _ _)) (up_same _ _ _ _) _ ?_
        rw [hnv, if_pos (show (-1 : Int32) < lo by
          rw [i_lt] at hlo ⊢
          have a0 : (0 : Int32).toInt = 0 := rfl
          have a1 : (-1 : Int32).toInt = -1 := rfl
          omega)]
      · have hbd := nvF_bd (n := n) hk.2 h5
        have hnv : nvF by_ n (tpk by_ n i) = nJ (nmF by_ (tpk by_ n i) (enk by_ n (tpk by_ n i) - tpk by_ n i)) := if_neg h5
        have hg0 : spp (spp A (tpk by_ n i)) (enk by_ n (tpk by_ n i)) (43, 0) 28 = 0 := by rw [spp_28, spp_28]; exact m28
        rw [if_neg h5, Nat.min_eq_left (show enk by_ n (tpk by_ n i) - tpk by_ n i ≤ 5 by omega), ← hnv]
        simp only [gI_hh, gJ_hh]
        rw [if_pos hg0, mIn (d' + 3) _ lo hi _ _ rfl rfl, bI_some, bif2]
        have hF : ev (d' + 3) mMo_fails 0 [vR (43, 0), vI 1, vI (spp A (tpk by_ n i) (43, 0) 27)] [] (hh (spp (spp A (tpk by_ n i)) (enk by_ n (tpk by_ n i))) B) = some (none, hh (up2 (spp (spp A (tpk by_ n i)) (enk by_ n (tpk by_ n i))) (43, 0) 28 (nJ (1 + 8 * tpk by_ n i + 1))) B) := by
          rw [spp_27]
          exact mFails0 (d' + 3) (tpk by_ n i) 1 hg0
        by_cases hl1 : nvF by_ n (tpk by_ n i) < lo
        · rw [if_pos hl1, if_neg (fun z => z.1 hl1), hF, bV_some]
          exact bad _ _ (FrY.tr FrY.u27 (FrY.tr FrY.u27 FrY.u28)) ((up_neK _ _ (by decide)).trans (spp_27 _ _)) (up_same _ _ _ _) _ rfl
        · by_cases hl2 : hi < nvF by_ n (tpk by_ n i)
          · rw [if_neg hl1, if_pos hl2, if_neg (fun z => z.2 hl2), hF, bV_some]
            exact bad _ _ (FrY.tr FrY.u27 (FrY.tr FrY.u27 FrY.u28)) ((up_neK _ _ (by decide)).trans (spp_27 _ _)) (up_same _ _ _ _) _ rfl
          · rw [if_neg hl1, if_neg hl2, if_pos ⟨hl1, hl2⟩, cSkip d e7 e6 e5 hk.1 t1, bV_some]
            refine ⟨up2 I (1, 0) 6 (nJ (i + 1)), spp (spp A (tpk by_ n i)) (enk by_ n (tpk by_ n i)), i + 1, 0, enk by_ n (tpk by_ n i), _, _, rfl, rfl, FrX.u6, FrY.tr FrY.u27 FrY.u27, ⟨FrX.u6.tks hT, spp_bt (spp_bt hM), hk.1, up_same _ _ _ _, (up_neK _ _ (by decide)).trans e7, spp_27 _ _, hg0, by omega, by decide, fun _ => rfl⟩, fun z => absurd rfl z, fun _ => ⟨rfl, hl1, hl2, hk.2, rfl, hk.1⟩⟩
    · rw [if_neg hk, if_neg hk]
      have hkm : ¬ (tpk by_ n i < n ∧ kB (by_ (tpk by_ n i)) = 2) := fun z => hk ⟨by
        by_cases e : i = tk
        · have := t3.mpr e
          omega
        · omega, z.2⟩
      have h7' : ¬ up2 I (1, 0) 7 (nJ (1 + 8 * tpk by_ n i + 0)) (1, 0) 7 = 0 := by
        rw [up_same]
        exact ne_nL (b := 0) (by omega) (by omega) (by decide)
      have hff : ¬ up2 (spp A (tpk by_ n i)) (43, 0) 28 (nJ (1 + 8 * tpk by_ n i + 0)) (43, 0) 28 = 0 := by
        rw [up_same]
        exact ne_nL (b := 0) (by omega) (by omega) (by decide)
      rw [hs, mDigitsN (A := spp A (tpk by_ n i)) (by_ := by_) (n := n) d' 99999 (spp_bt hM) (spp_27 _ _) (by rw [spp_28]; exact m28) (by omega) hkm, bI_some, gI_hh, if_neg hff, show ev d mTe_fail 0 [vR (1, 0), vI 0] [] (hh I J) = _ from cFail0 d 0 hT hi1 e6 e7, bV_some, gI_hh, gJ_hh, cSkipN d h7', bV_some]
      refine ⟨up2 I (1, 0) 7 (nJ (1 + 8 * tpk by_ n i + 0)), up2 (spp A (tpk by_ n i)) (43, 0) 28 (nJ (1 + 8 * tpk by_ n i + 0)), i, 1 + 8 * tpk by_ n i + 0, tpk by_ n i, _, _, rfl, rfl, FrX.u7, FrY.tr FrY.u27 FrY.u28, ⟨FrX.u7.tks hT, (FrY.tr FrY.u27 FrY.u28).bt hM, hi1, (up_neK _ _ (by decide)).trans e6, up_same _ _ _ _, (up_neK _ _ (by decide)).trans (spp_27 _ _), up_same _ _ _ _, t2, by omega, fun z => by omega⟩, fun z => absurd rfl z, fun z => by omega⟩
  · have e7n : ¬ I (1, 0) 7 = 0 := by
      rw [e7]
      exact ne_nL (b := 0) hf0 (by omega) (by decide)
    have m28n : ¬ spp A (sbk by_ n p) (43, 0) 28 = 0 := by
      rw [spp_28, m28]
      exact ne_nL (b := 0) hf0 (by omega) (by decide)
    rw [if_neg m28n, if_neg m28n]
    simp only [cFailN d _ e7n, cSkipN d e7n, bV_some, gI_hh, gJ_hh]
    have hx : ∀ r : Int32, TxO I A J B by_ n k1 tk f (some (some (vI r), hh I J)) (some (some (vI 0), hh (spp A (sbk by_ n p)) B)) (fun r r' f' => f' = 0 → r = r' ∧ ¬ r < lo ∧ ¬ hi < r ∧ kB (by_ (tpk by_ n i)) = 2 ∧ r = nvF by_ n (tpk by_ n i) ∧ i < tk) := fun r => ⟨I, _, i, f, sbk by_ n p, r, 0, rfl, rfl, FrX.rf I, FrY.u27, ⟨hT, spp_bt hM, hi1, e6, e7, spp_27 _ _, (spp_28 _ _).trans m28, hsb, hf, fun z => absurd z hf0⟩, fun _ => rfl, fun z => absurd z hf0⟩
    split
    · split
      · exact hx _
      · split
        · exact hx _
        · exact hx _
    · exact hx _
/-- on to another clause -/
theorem tk_more {I A : IT} {J B : JT} {by_ : Nat → Nat} {n k1 tk i f p : Nat} (d d' : Nat) (h : TxR I A by_ n k1 tk i f p) : ∃ I' A' f' r, ev (d + 2) mTe_hasMore 0 [vR (1, 0)] [] (hh I J) = some (some (vI r), hh I' J) ∧ ev (d' + 2) mMo_goesOn 0 [vR (43, 0), vU] [] (hh A B) = some (some (vI r), hh A' B) ∧ FrX I I' ∧ FrY A A' ∧ I' (1, 0) 7 = nJ f' ∧ A' (43, 0) 28 = nJ f' ∧ f' < 100000 ∧ ((r = 0) ∨ (r = 1 ∧ ∃ i' p', TxR I' A' by_ n k1 tk i' 0 p')) ∧ (f ≠ 0 → f' = f) := by
  obtain ⟨hT, hM, hi1, e6, e7, m27, m28, hp, hf, hs⟩ := h
  obtain ⟨t1, t2, t3, t4, t5, t6⟩ := hT.at hi1
  have hn := hM.1
  have m26 := hM.2.1
  have e5 := hT.2.1
  have hsb := rn_le (f := fun q => Nat.beq (by_ q) 32) (n := n) _ p rfl hp
  have hsb : sbk by_ n p ≤ n := hsb
  have hkl := kB_lt (by_ (tpk by_ n i))
  have hEnd : ev (d + 1) mTe_isEnd 0 [vR (1, 0)] [] (hh I J) = some (some (vI (if i = tk then 1 else 0)), hh I J) := by
    rw [eTe_isEnd_0, e6, bnd (show i < 401 by omega) (by omega), nJ_nat (show i < 2147483648 by omega), t4]
    by_cases e : i = tk
    · rw [if_pos e, if_pos (show nJ 0 = 0 from rfl), if_pos e]
    · have := kB_or (by_ (tpk by_ n i))
      rw [if_neg e, if_neg e, if_neg (ne_nL (b := 0) (by omega) (by omega) (by decide))]
  have hSig : i < tk → ev d mTe_isSign 0 [vR (1, 0), vI 59] [] (hh I J) = some (some (vI (if by_ (tpk by_ n i) = 59 then 1 else 0)), hh I J) := fun hlt => by
    have hbb := (hT.1.2.2 _ (hT.2.2.2.1 i hlt).1).1
    rw [eTe_isSign_0, e6, bnd (show i < 401 by omega) (by omega), bnd (show i < 401 by omega) (by omega), nJ_nat (show i < 2147483648 by omega), t4, t5, if_neg (show ¬ i = tk by omega), if_neg (show ¬ i = tk by omega)]
    by_cases h3 : kB (by_ (tpk by_ n i)) = 3
    · rw [if_pos (show nJ (kB (by_ (tpk by_ n i))) = 3 by rw [h3]; rfl)]
      have htv : tvF by_ n k1 (tpk by_ n i) = nJ (by_ (tpk by_ n i) + (if 1 < enk by_ n (tpk by_ n i) - tpk by_ n i then 256 else 0)) := by
        unfold tvF
        rw [if_neg (show ¬ kB (by_ (tpk by_ n i)) = 1 by omega), if_neg (show ¬ kB (by_ (tpk by_ n i)) = 2 by omega)]
      rw [htv]
      by_cases h59 : by_ (tpk by_ n i) = 59
      · have hen : enk by_ n (tpk by_ n i) = tpk by_ n i + 1 := by
          unfold enk
          rw [if_pos h3, if_neg (by omega)]
        rw [hen, if_neg (show ¬ 1 < tpk by_ n i + 1 - tpk by_ n i by omega), h59, if_pos (show nJ (59 + 0) = 59 from rfl), if_pos rfl]
      · rw [if_neg (ne_nL (b := 59) (by split <;> omega) (by split <;> omega) (by decide)), if_neg h59]
    · rw [if_neg (ne_nL (b := 3) h3 (by omega) (by decide)), if_neg (fun z => h3 (by rw [z]; rfl))]
  rw [eTe_hasMore_0, hEnd, bI_some, bif2, eMo_goesOn_0, mBlanks d' hM _ p rfl (by omega) m27, bV_some]
  simp only [gI_hh, gJ_hh, spp_27, show spp A (sbk by_ n p) (43, 0) 26 = nJ n from (up_neK _ _ (by decide)).trans m26]
  have pp : ∀ q, up2 (spp A q) (43, 0) 27 (nJ q + 1) = spp A (q + 1) := fun q => by
    rw [nJ_succ]
    exact spp_spp A _ _
  by_cases hf0 : f = 0
  · subst hf0
    have e7 : I (1, 0) 7 = 0 := e7
    have m28 : A (43, 0) 28 = 0 := m28
    have hs := hs rfl
    have hA1 : spp A (tpk by_ n i) (43, 0) 28 = 0 := by rw [spp_28]; exact m28
    rw [hs, if_pos hA1, if_pos hA1]
    by_cases e : i = tk
    · have hq : tpk by_ n i = n := t3.mpr e
      rw [if_pos e, hq, if_neg (nlt_nJ (Nat.le_refl n) (by omega)), if_neg (nlt_nJ (Nat.le_refl n) (by omega)), pp]
      exact ⟨I, _, 0, 0, rfl, rfl, FrX.rf I, FrY.u27, e7, by rw [spp_28]; exact m28, by decide, Or.inl rfl, fun z => absurd rfl z⟩
    · have hlt : i < tk := by omega
      have hqn : tpk by_ n i < n := (hT.2.2.2.1 i hlt).1
      rw [if_neg e, if_pos (lt_nJ hqn (by omega)), mSign (d' + 1) (spp_bt hM) (spp_27 _ _) (by omega), bI_some, eTe_takeSign_0, hSig hlt, bI_some, bif2]
      simp only [gI_hh, gJ_hh]
      by_cases h59 : by_ (tpk by_ n i) = 59
      · have hsg : sgn by_ n (tpk by_ n i) = 59 := by
          unfold sgn
          rw [if_pos hqn, h59]
          rfl
        rw [if_pos h59, if_pos hsg, if_pos hA1, cSkip d e7 e6 e5 hlt t1, bV_some, bV_some]
        simp only [gI_hh, gJ_hh, spp_27, show spp A (tpk by_ n i) (43, 0) 26 = nJ n from (up_neK _ _ (by decide)).trans m26]
        rw [if_pos (lt_nJ hqn (by omega)), pp, if_pos (show up2 I (1, 0) 6 (nJ (i + 1)) (1, 0) 7 = 0 from (up_neK _ _ (by decide)).trans e7)]
        refine ⟨_, _, 0, 1, rfl, rfl, FrX.u6, FrY.u27, (up_neK _ _ (by decide)).trans e7, by rw [spp_28]; exact m28, by decide, Or.inr ⟨rfl, i + 1, tpk by_ n i + 1, ⟨FrX.u6.tks hT, spp_bt hM, hlt, up_same _ _ _ _, (up_neK _ _ (by decide)).trans e7, spp_27 _ _, (spp_28 _ _).trans m28, by omega, by decide, fun _ => ?_⟩⟩, fun z => absurd rfl z⟩
        have hen : enk by_ n (tpk by_ n i) = tpk by_ n i + 1 := by
          unfold enk
          rw [if_pos (show kB (by_ (tpk by_ n i)) = 3 by rw [h59]; rfl), if_neg (by omega)]
        show _ = sbk by_ n (enk by_ n (tpk by_ n i))
        rw [hen]
      · have hsg : ¬ sgn by_ n (tpk by_ n i) = 59 := fun z => h59 (Eq.mp (sgn_is (c := 59) (fun k hk => (hM.2.2 k hk).1) (by decide)) z).2
        have h7' : ¬ up2 I (1, 0) 7 (nJ (1 + 8 * tpk by_ n i + 0)) (1, 0) 7 = 0 := by
          rw [up_same]
          exact ne_nL (b := 0) (by omega) (by omega) (by decide)
        have hff : ¬ up2 (spp A (tpk by_ n i)) (43, 0) 28 (nJ (1 + 8 * tpk by_ n i + 0)) (43, 0) 28 = 0 := by
          rw [up_same]
          exact ne_nL (b := 0) (by omega) (by omega) (by decide)
        rw [if_neg h59, if_neg hsg, show ev d mTe_fail 0 [vR (1, 0), vI 0] [] (hh I J) = _ from cFail0 d 0 hT hi1 e6 e7, bV_some, gI_hh, gJ_hh, cSkipN d h7', bV_some, bV_some]
        simp only [gI_hh, gJ_hh, spp_27]
        rw [show ev (d' + 1) mMo_fails 0 [vR (43, 0), vI 0, vI (nJ (tpk by_ n i))] [] (hh (spp A (tpk by_ n i)) B) = _ from mFails0 (d' + 1) (tpk by_ n i) 0 hA1, bV_some, gI_hh, if_neg hff, if_neg h7']
        exact ⟨_, _, 1 + 8 * tpk by_ n i + 0, 0, rfl, rfl, FrX.u7, FrY.tr FrY.u27 (FrY.tr FrY.u28 FrY.u27), up_same _ _ _ _, (up_neK _ _ (by decide)).trans (up_same _ _ _ _), by omega, Or.inl rfl, fun z => absurd rfl z⟩
  · have e7n : ¬ I (1, 0) 7 = 0 := by
      rw [e7]
      exact ne_nL (b := 0) hf0 (by omega) (by decide)
    have m28n : ¬ spp A (sbk by_ n p) (43, 0) 28 = 0 := by
      rw [spp_28, m28]
      exact ne_nL (b := 0) hf0 (by omega) (by decide)
    rw [if_neg m28n, if_neg m28n, pp]
    by_cases e : i = tk
    · rw [if_pos e]
      exact ⟨I, _, f, 0, rfl, rfl, FrX.rf I, FrY.u27, e7, by rw [spp_28]; exact m28, hf, Or.inl rfl, fun _ => rfl⟩
    · rw [if_neg e, eTe_takeSign_0, hSig (by omega), bI_some, bif2]
      simp only [gI_hh, gJ_hh, cFailN d _ e7n, cSkipN d e7n, bV_some]
      refine ⟨I, _, f, 0, ?_, rfl, FrX.rf I, FrY.u27, e7, by rw [spp_28]; exact m28, hf, Or.inl rfl, fun _ => rfl⟩
      split <;> (rw [bV_some]; exact if_neg e7n)
