/-! BEHIND A FAULT: the class -/
theorem cValF {I : IT} {J : JT} {by_ : Nat → Nat} {n tk r f K : Nat} (d : Nat) (hf : f ≠ 0) (hl : f < 100000) (hK : K < 100000) (h : FlC I by_ n tk r f K) : ∃ I', ev (d + 1) mRu_readValue 0 [vR (37, r), vR (1, 0), vU, vU] [] (hh I J) = some (none, hh I' J) ∧ FrL r I I' ∧ FlC I' by_ n tk r f (K + 1) := by
  have h7 := h.n0 hf hl
  obtain ⟨i, sz, pc, t1, t3, t4, t5, c1, c2, c3, c4⟩ := id h
  have frI : FrL r I (up2 I (37, r) 5 (nJ (pc + 1))) := fun a k h1 _ _ => by rw [up_at, if_neg (fun z => h1 ⟨z.1, Or.inr z.2⟩)]
  have t1' : TkS (up2 I (37, r) 5 (nJ (pc + 1))) by_ n 1 tk := frI.tks t1
  have e6' : up2 I (37, r) 5 (nJ (pc + 1)) (1, 0) 6 = nJ i := (up_ne _ _ _ _ (fun z => by have := (Prod.mk.inj z).1; omega)).trans t4
  have hF : FlC (up2 I (37, r) 5 (nJ (pc + 1))) by_ n tk r f (K + 1) := ⟨i, sz, pc + 1, t1', t3, e6', (up_ne _ _ _ _ (fun z => by have := (Prod.mk.inj z).1; omega)).trans t5, (up_neK _ _ (by decide)).trans c1, c2, up_same _ _ _ _, by omega⟩
  have pt : ∀ x : Int32, ∃ I', bV (ev d mRu_put 0 [vR (37, r), vI x] [] (hh (up2 I (37, r) 5 (nJ (pc + 1))) J)) (fun h7 => bV (ev d mTe_skip 0 [vR (1, 0)] [] (hh (gI h7) (gJ h7))) (fun h8 => some (none, hh (gI h8) (gJ h8)))) = some (none, hh I' J) ∧ FrL r I I' ∧ FlC I' by_ n tk r f (K + 1) := fun x => by
    obtain ⟨I', q1, q2, q3⟩ := hF.put (J := J) d x
    exact ⟨I', by rw [q3, bV_some, gI_hh, gJ_hh, cSkipN d (q1.n0 hf hl), bV_some], frI.tr q2, q1⟩
  have fl : ∀ x : Int32, ∃ I', bV (ev d mTe_fail 0 [vR (1, 0), vI x] [] (hh I J)) (fun h2 => some (none, hh (gI h2) (gJ h2))) = some (none, hh I' J) ∧ FrL r I I' ∧ FlC I' by_ n tk r f (K + 1) := fun x => ⟨I, by rw [cFailN d x h7, bV_some], FrL.rf r I, h.K (by omega)⟩
  rw [eRu_readValue_0, cWordHere d t1 t3 t4, bI_some, gI_hh, gJ_hh, cNumHere d t1 t3 t4, bI_some, gI_hh, gJ_hh, cIsNum d t1 t3 t4, bI_some]
  simp only [gI_hh, gJ_hh]
  rw [cIsNum d t1 t3 t4, bI_some]
  simp only [gI_hh, gJ_hh]
  rw [c3, nJ_succ, cIsNum d t1' t3 e6', bI_some]
  simp only [gI_hh, gJ_hh]
  by_cases hk : i < tk ∧ kB (by_ (tpk by_ n i)) = 2
  · simp only [if_pos hk, if_neg (show ¬ (1 : Int32) = 0 by decide)]
    split
    · exact fl 1
    · split
      · exact pt _
      · exact fl 3
  · simp only [if_neg hk, if_true]
    split
    · exact fl 0
    · split
      · split
        · exact pt _
        · exact fl 3
      · exact fl 0
theorem cSumF {I : IT} {J : JT} {by_ : Nat → Nat} {n tk r f K : Nat} (d : Nat) (hf : f ≠ 0) (hl : f < 100000) (hK : K < 100000) (h : FlC I by_ n tk r f K) : ∃ I', ev (d + 2) mRu_readSum 0 [vR (37, r), vR (1, 0), vU, vU, vU, vU] [] (hh I J) = some (none, hh I' J) ∧ FrL r I I' ∧ FlC I' by_ n tk r f (K + 1) := by
  obtain ⟨I', q1, q2, q3⟩ := cValF (J := J) d hf hl hK h
  refine ⟨I', ?_, q2, q3⟩
  rw [eRu_readSum_0, q1, bV_some, gI_hh, gJ_hh, eRu_readSum_7, if_pos (show (0 : Int32) < 400 by decide), if_neg (q3.n0 hf hl), if_pos rfl]
/-! the reference -/
theorem mDigitsF {A : IT} {B : JT} {by_ : Nat → Nat} {n s : Nat} (d : Nat) (h : BtM A by_ n) (hs : A (43, 0) 27 = nJ s) (hf : ¬ A (43, 0) 28 = 0) (hlt : s < n) (hk : kB (by_ s) = 2) : ∃ v, ev (d + 3) mMo_digits 0 [vR (43, 0), vI 99999, vU, vU] [] (hh A B) = some (some (vI v), hh (spp A (enk by_ n s)) B) := by
  have hn := h.1
  have hg := enk_gt (by_ := by_) (n := n) (p := s)
  have hl := enk_le (by_ := by_) hlt
  have hend : enk by_ n s < n → kB (by_ (enk by_ n s)) ≠ 2 := fun z => by
    have he : enk by_ n s = rn (fun q => Nat.beq (kB (by_ q)) (kB (by_ s))) n (s + 1) := by
      unfold enk
      rw [if_neg (by omega)]
    rw [he] at z ⊢
    have := rn_end _ (s + 1) rfl z
    intro w
    rw [w, hk] at this
    cases this
  have go : ∀ j k x, k + j = enk by_ n s - s → ∃ v, ev (d + 3) mMo_digits 15 [vR (43, 0), vI 99999, vI (nJ s), vI x] [] (hh (spp A (s + k)) B) = some (some (vI v), hh (spp A (enk by_ n s)) B) := by
    intro j
    induction j with
    | zero =>
      intro k x hkj
      obtain rfl : k = enk by_ n s - s := by omega
      have e : s + (enk by_ n s - s) = enk by_ n s := by omega
      rw [e, eMo_digits_15, mDigit (d + 1) (spp_bt h) (spp_27 _ _) (by omega), bI_some, bif2, if_neg (fun z => hend z.1 z.2), mFailsN (d + 2) _ _ (by rw [gI_hh, spp_28]; exact hf), bV_some]
      split
      · exact ⟨x, rfl⟩
      · split
        · exact ⟨x, rfl⟩
        · exact ⟨x, rfl⟩
    | succ j ih =>
      intro k x hkj
      obtain ⟨d1, d2⟩ := dig_run (n := n) hk k (by omega)
      have hk2 : kB (by_ (s + k)) = 2 := kB2.mpr ⟨d1, d2⟩
      have hsp : up2 (spp A (s + k)) (43, 0) 27 (nJ (s + k + 1)) = spp A (s + (k + 1)) := spp_spp A _ _
      rw [eMo_digits_15, mDigit (d + 1) (spp_bt h) (spp_27 _ _) (by omega), bI_some, bif2, if_pos ⟨by omega, hk2⟩]
      simp only [gI_hh, gJ_hh]
      rw [mSign (d + 2) (spp_bt h) (spp_27 _ _) (by omega), bI_some]
      simp only [gI_hh, gJ_hh, spp_27, nJ_succ, hsp]
      split
      · exact ih (k + 1) _ (by omega)
      · exact ih (k + 1) _ (by omega)
  obtain ⟨v, g0⟩ := go (enk by_ n s - s) 0 0 (by omega)
  rw [show spp A (s + 0) = A from spp_self hs] at g0
  refine ⟨v, ?_⟩
  rw [eMo_digits_0, mDigit (d + 1) h hs (by omega), bI_some, bif2, if_pos ⟨hlt, hk⟩, gI_hh, gJ_hh, hs, g0]
theorem FlM.bl {A : IT} {B : JT} {by_ : Nat → Nat} {n f K : Nat} (d : Nat) (h : FlM A by_ n f K) : ∃ q, q ≤ n ∧ ev (d + 1) mMo_blanks 0 [vR (43, 0)] [] (hh A B) = some (none, hh (spp A q) B) ∧ FlM (spp A q) by_ n f K ∧ sbk by_ n q = q := by
  obtain ⟨p, pc, h1, h2, h3, h4, h5, h6, h7⟩ := id h
  have hq : sbk by_ n p ≤ n := rn_le (f := fun q => Nat.beq (by_ q) 32) (n := n) _ p rfl h3
  exact ⟨sbk by_ n p, hq, mBlanks d h1 _ p rfl (by have := h1.1; omega) h2, h.p hq, rn_fix⟩
theorem mValF {A : IT} {B : JT} {by_ : Nat → Nat} {n r f K : Nat} (d : Nat) (hf : f ≠ 0) (hl : f < 100000) (hK : K < 90000) (h : FlM A by_ n f K) : ∃ A', ev (d + 5) mMo_value 0 [vR (43, 0), vU, vU] [] (hh A B) = some (none, hh A' B) ∧ FrN r A A' ∧ FlM A' by_ n f (K + 1) := by
  obtain ⟨q, hq, o1, h1, -⟩ := h.bl (B := B) (d + 3)
  have hn0 := h1.n0 hf hl
  obtain ⟨q', pc, g1, g2, g3, g4, g5, g6, g7⟩ := id h1
  have e27 : spp A q (43, 0) 27 = nJ q := spp_27 _ _
  rw [eMo_value_0, o1, bV_some]
  simp only [gI_hh, gJ_hh]
  rw [mDigit (d + 3) g1 e27 (by have := g1.1; omega), bI_some, bif2, e27]
  simp only [gI_hh, gJ_hh]
  by_cases hk : q < n ∧ kB (by_ q) = 2
  · obtain ⟨v, o2⟩ := mDigitsF (A := spp A q) (B := B) (d + 1) g1 e27 hn0 hk.1 hk.2
    have hle := enk_le (by_ := by_) hk.1
    have h2 : FlM (spp (spp A q) (enk by_ n q)) by_ n f K := h1.p hle
    have h2n := h2.n0 hf hl
    have hc := mCnt (A := spp (spp A q) (enk by_ n q)) (B := B) (pc := pc) (s := q) (d + 3) ((up_neK _ _ (by decide)).trans g5) (by omega)
    rw [if_neg (fun z => h2n z.2)] at hc
    rw [if_pos hk, o2, bI_some, gI_hh, gJ_hh, hc, bV_some, gI_hh, gJ_hh, mEntryN (d + 4) _ _ (by rw [up_neK _ _ (by decide)]; exact h2n), bV_some]
    exact ⟨_, rfl, (FrN.u27.tr FrN.u27).tr FrN.u33, h2.up (by omega)⟩
  · rw [if_neg hk]
    rcases vl_go (A := spp A q) (B := B) (s := q) (d + 3) g1 e27 hq g7 g5 (by omega) wl11 0 rfl (fun j hj => by rw [Nat.zero_add]; exact wl11_at j hj) with ⟨-, v2⟩ | ⟨k, v1, -, -, v4, v5⟩
    · have v2 : ev (d + 5) mMo_value 22 [vR (43, 0), vI (nJ q), vI 0] [] (hh (spp A q) B) = _ := v2
      rw [v2, mFailsN (d + 4) _ _ hn0, bV_some]
      exact ⟨_, rfl, FrN.u27, h1.K (by omega)⟩
    · have v5 : ev (d + 5) mMo_value 22 [vR (43, 0), vI (nJ q), vI 0] [] (hh (spp A q) B) = _ := v5
      obtain ⟨u1, u2⟩ := txU_ok k v1
      have hlt := std_run (txL_pos (txU k) u2) v4
      have hle := enk_le (by_ := by_) hlt.1
      have hc := mCnt (A := spp A q) (B := B) (pc := pc) (s := q) (d + 3) g5 (by omega)
      rw [if_neg (fun z => hn0 z.2)] at hc
      rw [v5]
      unfold vlF
      rw [hc, bV_some]
      simp only [gI_hh, gJ_hh]
      have hv27 : up2 (spp A q) (43, 0) 33 (nJ (pc + 1)) (43, 0) 27 + nJ (nthD txL (txU k) []).length = nJ (enk by_ n q) := by
        rw [up_neK _ _ (by decide), e27, nJ_add, hlt.2.2]
      rw [hv27, mEntryN (d + 4) _ _ (by rw [up_neK _ _ (by decide), up_neK _ _ (by decide)]; exact hn0), bV_some]
      exact ⟨_, rfl, (FrN.u27.tr FrN.u33).tr FrN.u27, (h1.up (by omega)).p hle⟩
/-- the reference, at the end of a term behind a fault -/
theorem mTerm4F {A : IT} {B : JT} (d : Nat) (hf : ¬ A (43, 0) 28 = 0) : ev (d + 1) mMo_term 4 [vR (43, 0), vU] [] (hh A B) = some (none, hh A B) := by
  rw [eMo_term_4, if_neg hf]
theorem mSum2F {A : IT} {B : JT} (d : Nat) (hf : ¬ A (43, 0) 28 = 0) : ev (d + 1) mMo_sum 2 [vR (43, 0), vU] [] (hh A B) = some (none, hh A B) := by
  rw [eMo_sum_2, if_neg hf]
theorem mSumF {A : IT} {B : JT} {by_ : Nat → Nat} {n r f K : Nat} (d : Nat) (hf : f ≠ 0) (hl : f < 100000) (hK : K < 90000) (h : FlM A by_ n f K) : ∃ A', ev (d + 7) mMo_sum 0 [vR (43, 0), vU] [] (hh A B) = some (none, hh A' B) ∧ FrN r A A' ∧ FlM A' by_ n f (K + 1) := by
  obtain ⟨A1, o1, r1, h1⟩ := mValF (B := B) (r := r) d hf hl hK h
  obtain ⟨q, hq, o2, h2, -⟩ := h1.bl (B := B) (d + 4)
  refine ⟨spp A1 q, ?_, r1.tr FrN.u27, h2⟩
  rw [eMo_sum_0, eMo_term_0, o1, bV_some, gI_hh, gJ_hh, o2, bV_some, gI_hh, gJ_hh, mTerm4F (d + 5) (h2.n0 hf hl), bV_some, gI_hh, gJ_hh, mSum2F (d + 6) (h2.n0 hf hl)]
