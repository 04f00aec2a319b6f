/-! A FACT at every depth -/
theorem ts_all {J B : JT} {by_ : Nat → Nat} {n tk r : Nat} (d d' dl hf : Nat) (hdl : dl ≤ 10) (hF : FcP J B by_ n tk r d d' dl hf) {I A : IT} {i p sz pc m : Nat} (h : RlS I A by_ n tk i p r sz sz pc) (hb : 3 * sz ≤ 14 * pc) (hm : m ≤ 3 * dl) (h34 : A (43, 0) 34 = nJ m) (h32 : A (43, 0) 32 = nJ dl) (ktop : ∀ k, m = k + 1 → A (75, 0) k = 12) : TsO J B by_ n tk r d' dl (hf + 2) m I A (i + 1) sz sz pc sz (ev (d + 1) mRu_readTest 0 [vR (37, r), vR (1, 0), vI (nJ dl), vU, vU, vU] [] (hh I J)) (ev (d' + 2) mMo_test 7 [vR (43, 0), vI 1, vI 1, vU, vU] [] (hh A B)) := by
  obtain ⟨I2, f1, f2, f3⟩ := hF I A i p sz pc m h hb (by omega) h34 h32
  rw [eRu_readTest_0, f1, bV_some, gI_hh, gJ_hh]
  rcases f3 with ⟨f, A2, g1, g2, g3, g4, g5, g6⟩ | ⟨A2, i2, p2, sz2, ez2, pc2, v, g1, g2, g3, ⟨g4, g4', g5⟩, g6, ⟨g7, g8⟩, g9, g10, g11, g12, g13, g14⟩
  · obtain ⟨I4, y1, y2, y3⟩ := c8F (J := J) d (nJ dl) 0 0 g1 g2 g3
    exact ⟨I4, y1, f2.tr y2, Or.inl ⟨f, A2, g1, g2, y3, g4, g5, g6⟩⟩
  · rw [g1]
    obtain ⟨A3, s1, s2, s3, s4, s5, s6⟩ := ts_head (B := B) (m := m) (w := 0) (v := v) (dl := dl) d' g3 (by decide) (by omega) (fun j j1 j2 => g6 j j1 (by omega)) (fun z => absurd z (by decide)) (by omega) g7 g8 g10 (fun z => absurd z (by decide)) (fun k hk => by
      rw [g9 k (by omega), ktop k hk]
      decide)
    have k75 : ∀ k, k < m → A3 (75, 0) k = A (75, 0) k := fun k hk => by rw [s5, g9 k hk]
    obtain ⟨I5, y1, y2, y3⟩ := ts_go d d' dl hf hdl hF (tk - i2) I2 A3 i2 sz2 pc2 0 sz 0 sz pc m 0 rfl s2 (by omega) (by decide) hm s3 s4 (fun e => absurd e (by decide)) (fun k hk => by rw [k75 k (by omega)]; exact ktop k hk) (Or.inl ⟨rfl, g11.mono (by omega) (fun _ z => z)⟩) (by omega) hb
    rw [s1]
    refine ⟨I5, y1, f2.tr y2, ?_⟩
    rcases y3 with ⟨f, A4, z1, z2, z3, z4, z5, z6⟩ | ⟨A4, i4, sz4, pc4, z1, z2, z3, z4, z5, z6, z7, z8, z9, z10⟩
    · exact Or.inl ⟨f, A4, z1, z2, z3, z4, (g2.tr s6).tr z5, z6⟩
    · exact Or.inr ⟨A4, i4, sz4, pc4, z1, (g2.tr s6).tr z2, z3, z4, fun k hk => by rw [z5 k hk, k75 k hk], by omega, z7, fun j hj => by rw [z8 j (by omega), g12 j hj], z9, by omega⟩
theorem RlS.u3 {I A : IT} {by_ : Nat → Nat} {n tk i p r sz ez pc k : Nat} {x : Int32} (h : RlS I A by_ n tk i p r sz ez pc) (hk : k = 32 ∨ k = 34) : RlS I (up2 A (43, 0) k x) by_ n tk i p r sz ez pc := by
  obtain ⟨⟨t1, t2, t3, t4, t5, t6, t7, t8, t9, t10⟩, hr, ⟨c1, c2, c3, c4, c5, c6⟩, hb, hcd⟩ := h
  have o : ∀ j, j ≠ 32 → j ≠ 34 → up2 A (43, 0) k x (43, 0) j = A (43, 0) j := fun j h1 h2 => up_neK _ _ (by omega)
  refine ⟨⟨t1, ⟨t2.1, (o 26 (by decide) (by decide)).trans t2.2.1, fun k hk => ⟨(t2.2.2 k hk).1, (up_ne _ _ _ _ (by decide)).trans (t2.2.2 k hk).2⟩⟩, t3, t4, t5, (o 27 (by decide) (by decide)).trans t6, (o 28 (by decide) (by decide)).trans t7, t8, t9, t10⟩, hr, ⟨c1, c2, (o 29 (by decide) (by decide)).trans c3, (o 31 (by decide) (by decide)).trans c4, (o 33 (by decide) (by decide)).trans c5, (o 35 (by decide) (by decide)).trans c6⟩, hb, fun j hj => ?_⟩
  rw [up_ne _ _ _ _ (by decide), up_ne _ _ _ _ (by decide)]
  exact hcd j hj
theorem FrP.u {r k : Nat} {A : IT} {x : Int32} (hk : k = 27 ∨ k = 28 ∨ k = 32 ∨ k = 34) : FrP r A (up2 A (43, 0) k x) := fun a j h1 _ _ => by rw [up_at, if_neg (fun z => h1 ⟨z.1, by omega⟩)]
theorem cTakeF {I : IT} {J : JT} {by_ : Nat → Nat} {n tk r f K : Nat} (d : Nat) (hf : f ≠ 0) (hl : f < 100000) (h : FlC I by_ n tk r f K) : ev (d + 1) mTe_takeSign 0 [vR (1, 0), vI 93] [] (hh I J) = some (none, hh I J) := by
  have h7 := h.n0 hf hl
  obtain ⟨i, sz, pc, h1, h2, h3, -⟩ := h
  have hs : ev d mTe_isSign 0 [vR (1, 0), vI 93] [] (hh I J) = some (some (vI (if tpk by_ n i < n ∧ by_ (tpk by_ n i) = 93 then 1 else 0)), hh I J) := cIsSign d 93 h1 h2 h3 (by decide) (by decide) (by decide) (by decide)
  rw [eTe_takeSign_0, hs, bI_some]
  simp only [gI_hh, gJ_hh]
  rw [cFailN d _ h7]
  simp only [bV_some, gI_hh, gJ_hh]
  rw [cSkipN d h7]
  simp only [bV_some, gI_hh, gJ_hh]
  split <;> rfl
/-- the class at a fact -/
theorem cf_not {I : IT} {J : JT} {by_ : Nat → Nat} {n tk i r dl : Nat} (d : Nat) (hT : TkS I by_ n 1 tk) (hi : i ≤ tk) (e6 : I (1, 0) 6 = nJ i) (hw : std by_ n (tpk by_ n i) (nthD txL 18 []) = true) (hdl : dl ≤ 10) : ev (d + 1) mRu_readFact 0 [vR (37, r), vR (1, 0), vI (nJ dl), vU, vU, vU] [] (hh I J) = if dl < 10 then bV (ev d mTe_skip 0 [vR (1, 0)] [] (hh I J)) (fun h20 => bV (ev d mRu_readFact 0 [vR (37, r), vR (1, 0), vI (nJ (dl + 1)), vU, vU, vU] [] (hh (gI h20) (gJ h20))) (fun h21 => bV (ev d mRu_put 0 [vR (37, r), vI 13] [] (hh (gI h21) (gJ h21))) (fun h22 => some (none, hh (gI h22) (gJ h22))))) else bV (ev d mTe_fail 0 [vR (1, 0), vI 2] [] (hh I J)) (fun h23 => some (none, hh (gI h23) (gJ h23))) := by
  have w13 : ev d mTe_isWord 0 [vR (1, 0), vI 13] [] (hh I J) = some (some (vI 1), hh I J) := by
    have := cIsWord (J := J) d 13 (by decide) hT hi e6
    rw [if_pos (show std by_ n (tpk by_ n i) (nthD wlU 13 []) = true from hw)] at this
    exact this
  rw [eRu_readFact_0, w13, bI_some, if_neg (show ¬ (1 : Int32) = 0 by decide), gI_hh, gJ_hh, eRu_readFact_13, if_neg (show ¬ (1 : Int32) = 0 by decide), nJ_succ]
  by_cases e : dl < 10
  · rw [if_pos (lt_nL (b := 10) e (by decide)), if_pos e]
    rfl
  · rw [if_neg (nlt_nL (b := 10) (by omega) (by omega)), if_neg e]
theorem cf_open {I : IT} {J : JT} {by_ : Nat → Nat} {n tk i r dl : Nat} (d : Nat) (hT : TkS I by_ n 1 tk) (hi : i ≤ tk) (e6 : I (1, 0) 6 = nJ i) (hw : ¬ std by_ n (tpk by_ n i) (nthD txL 18 []) = true) (hs : tpk by_ n i < n ∧ by_ (tpk by_ n i) = 91) (hdl : dl ≤ 10) : ev (d + 1) mRu_readFact 0 [vR (37, r), vR (1, 0), vI (nJ dl), vU, vU, vU] [] (hh I J) = if dl < 10 then bV (ev d mTe_skip 0 [vR (1, 0)] [] (hh I J)) (fun h17 => bV (ev d mRu_readTest 0 [vR (37, r), vR (1, 0), vI (nJ (dl + 1)), vU, vU, vU] [] (hh (gI h17) (gJ h17))) (fun h18 => bV (ev d mTe_takeSign 0 [vR (1, 0), vI 93] [] (hh (gI h18) (gJ h18))) (fun h19 => some (none, hh (gI h19) (gJ h19))))) else bV (ev d mTe_fail 0 [vR (1, 0), vI 2] [] (hh I J)) (fun h23 => some (none, hh (gI h23) (gJ h23))) := by
  have w13 : ev d mTe_isWord 0 [vR (1, 0), vI 13] [] (hh I J) = some (some (vI 0), hh I J) := by
    have := cIsWord (J := J) d 13 (by decide) hT hi e6
    rw [if_neg (show ¬ std by_ n (tpk by_ n i) (nthD wlU 13 []) = true from hw)] at this
    exact this
  have s91 : ev d mTe_isSign 0 [vR (1, 0), vI 91] [] (hh I J) = some (some (vI 1), hh I J) := by
    have := cIsSign (J := J) d 91 hT hi e6 (by decide) (by decide) (by decide) (by decide)
    rw [if_pos hs] at this
    exact this
  rw [eRu_readFact_0, w13, bI_some, if_pos rfl, gI_hh, gJ_hh, s91, bI_some, if_neg (show ¬ (1 : Int32) = 0 by decide), gI_hh, gJ_hh, eRu_readFact_13, if_neg (show ¬ (1 : Int32) = 0 by decide), nJ_succ]
  by_cases e : dl < 10
  · rw [if_pos (lt_nL (b := 10) e (by decide)), if_pos e]
    rfl
  · rw [if_neg (nlt_nL (b := 10) (by omega) (by omega)), if_neg e]
theorem cf_plain {I : IT} {J : JT} {by_ : Nat → Nat} {n tk i r : Nat} (d : Nat) (x2 : Int32) (hT : TkS I by_ n 1 tk) (hi : i ≤ tk) (e6 : I (1, 0) 6 = nJ i) (hw : ¬ std by_ n (tpk by_ n i) (nthD txL 18 []) = true) (hs : ¬ (tpk by_ n i < n ∧ by_ (tpk by_ n i) = 91)) : ev (d + 1) mRu_readFact 0 [vR (37, r), vR (1, 0), vI x2, vU, vU, vU] [] (hh I J) = bV (ev d mRu_readSum 0 [vR (37, r), vR (1, 0), vU, vU, vU, vU] [] (hh I J)) (fun h1 => bI (ev d mTe_signHere 0 [vR (1, 0)] [] (hh (gI h1) (gJ h1))) (fun r2 h2 => bV (ev d mRu_countSign 0 [vR (37, r), vR (1, 0), vI r2] [] (hh (gI h2) (gJ h2))) (fun h3 => bV (ev d mRu_readSum 0 [vR (37, r), vR (1, 0), vU, vU, vU, vU] [] (hh (gI h3) (gJ h3))) (fun h4 => bV (ev d mRu_put 0 [vR (37, r), vI r2] [] (hh (gI h4) (gJ h4))) (fun h5 => some (none, hh (gI h5) (gJ h5))))))) := by
  have w13 : ev d mTe_isWord 0 [vR (1, 0), vI 13] [] (hh I J) = some (some (vI 0), hh I J) := by
    have := cIsWord (J := J) d 13 (by decide) hT hi e6
    rw [if_neg (show ¬ std by_ n (tpk by_ n i) (nthD wlU 13 []) = true from hw)] at this
    exact this
  have s91 : ev d mTe_isSign 0 [vR (1, 0), vI 91] [] (hh I J) = some (some (vI 0), hh I J) := by
    have := cIsSign (J := J) d 91 hT hi e6 (by decide) (by decide) (by decide) (by decide)
    rw [if_neg hs] at this
    exact this
  rw [eRu_readFact_0, w13, bI_some, if_pos rfl, gI_hh, gJ_hh, s91, bI_some, if_pos rfl, gI_hh, gJ_hh, eRu_readFact_13]
  rfl
/-- the reference at a fact -/
theorem mf_at {A : IT} {B : JT} {by_ : Nat → Nat} {n s : Nat} (d : Nat) (hM : BtM (spp A s) by_ n) (hs : s ≤ n) (hbl : ev (d + 1) mMo_blanks 0 [vR (43, 0)] [] (hh A B) = some (none, hh (spp A s) B)) : ev (d + 2) mMo_fact 0 [vR (43, 0)] [] (hh A B) = if std by_ n s (nthD txL 18 []) = true then bV (ev (d + 1) mMo_opens 0 [vR (43, 0), vI 9] [] (hh (spp A s) B)) (fun h6 => some (some (vI 0), hh (up2 (gI h6) (43, 0) 27 (((gI h6) (43, 0) 27) + 3)) (gJ h6))) else if s < n ∧ by_ s = 91 then bV (ev (d + 1) mMo_opens 0 [vR (43, 0), vI 12] [] (hh (spp A s) B)) (fun h4 => some (some (vI 0), hh (up2 (gI h4) (43, 0) 27 (((gI h4) (43, 0) 27) + 1)) (gJ h4))) else bV (ev (d + 1) mMo_compared 0 [vR (43, 0), vU, vU] [] (hh (spp A s) B)) (fun h5 => some (some (vI 1), hh (gI h5) (gJ h5))) := by
  have hbb : ∀ k, k < n → by_ k < 256 := fun k hk => (hM.2.2 k hk).1
  have hn := hM.1
  have h91 : (sgn by_ n s = 91) = (s < n ∧ by_ s = 91) := sgn_is (c := 91) hbb (by decide)
  rw [eMo_fact_0, hbl, bV_some, gI_hh, gJ_hh, mStood (d + 1) hM (spp_27 _ _) hs (by decide) (by decide), bI_some, bif2, gI_hh, gJ_hh, mSign (d + 1) hM (spp_27 _ _) (by omega), bI_some]
  simp only [gI_hh, gJ_hh]
  by_cases q : s < n ∧ by_ s = 91
  · rw [if_pos (Eq.mpr h91 q), if_pos q]
  · rw [if_neg (fun z => q (Eq.mp h91 z)), if_neg q]
