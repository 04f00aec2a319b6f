theorem ao_ne {by_ : Nat → Nat} {n s : Nat} (h1 : std by_ n s (nthD txL 19 []) = true) (h2 : std by_ n s (nthD txL 20 []) = true) : False := absurd (std_uniq h1 h2) (by decide +kernel)
theorem c8_none {I : IT} {J : JT} {by_ : Nat → Nat} {n tk i r : Nat} (d x4 : Nat) (x2 x3 : Int32) (hT : TkS I by_ n 1 tk) (hi : i ≤ tk) (e6 : I (1, 0) 6 = nJ i) (e7 : I (1, 0) 7 = 0) (hx : x4 < 400) (ha : ¬ std by_ n (tpk by_ n i) (nthD txL 19 []) = true) (ho : ¬ std by_ n (tpk by_ n i) (nthD txL 20 []) = true) : ev (d + 1) mRu_readTest 8 [vR (37, r), vR (1, 0), vI x2, vI x3, vI (nJ x4), vU] [] (hh I J) = if x3 = 0 then some (none, hh I J) else bV (ev d mRu_put 0 [vR (37, r), vI 15] [] (hh I J)) (fun h3 => some (none, hh (gI h3) (gJ h3))) := by
  have w15 : ev d mTe_isWord 0 [vR (1, 0), vI 15] [] (hh I J) = some (some (vI 0), hh I J) := by
    have := cIsWord (J := J) d 15 (by decide) hT hi e6
    rw [if_neg (show ¬ std by_ n (tpk by_ n i) (nthD wlU 15 []) = true from ho)] at this
    exact this
  have w14 : ev d mTe_isWord 0 [vR (1, 0), vI 14] [] (hh I J) = some (some (vI 0), hh I J) := by
    have := cIsWord (J := J) d 14 (by decide) hT hi e6
    rw [if_neg (show ¬ std by_ n (tpk by_ n i) (nthD wlU 14 []) = true from ha)] at this
    exact this
  rw [eRu_readTest_8, if_pos (lt_nL (b := 400) hx (by decide)), if_pos e7, w15, bI_some, if_pos rfl, gI_hh, gJ_hh, w14, bI_some, if_pos rfl, gI_hh, gJ_hh]
theorem c8_and {I : IT} {J : JT} {by_ : Nat → Nat} {n tk i r o : Nat} (d x4 : Nat) (x2 : Int32) (hT : TkS I by_ n 1 tk) (hi : i ≤ tk) (e6 : I (1, 0) 6 = nJ i) (e7 : I (1, 0) 7 = 0) (hx : x4 < 400) (ha : std by_ n (tpk by_ n i) (nthD txL 19 []) = true) (ho : o ≤ 1) : ev (d + 1) mRu_readTest 8 [vR (37, r), vR (1, 0), vI x2, vI (nJ o), vI (nJ x4), vU] [] (hh I J) = bV (ev d mTe_skip 0 [vR (1, 0)] [] (hh I J)) (fun h1 => bV (ev d mRu_readFact 0 [vR (37, r), vR (1, 0), vI x2, vU, vU, vU] [] (hh (gI h1) (gJ h1))) (fun h2 => bV (ev d mRu_put 0 [vR (37, r), vI 14] [] (hh (gI h2) (gJ h2))) (fun h3 => ev (d + 1) mRu_readTest 8 [vR (37, r), vR (1, 0), vI x2, vI (nJ o), vI (nJ (x4 + 1)), vU] [] (hh (gI h3) (gJ h3))))) := by
  have w15 : ev d mTe_isWord 0 [vR (1, 0), vI 15] [] (hh I J) = some (some (vI 0), hh I J) := by
    have := cIsWord (J := J) d 15 (by decide) hT hi e6
    rw [if_neg (show ¬ std by_ n (tpk by_ n i) (nthD wlU 15 []) = true from fun z => ao_ne ha z)] at this
    exact this
  have w14 : ev d mTe_isWord 0 [vR (1, 0), vI 14] [] (hh I J) = some (some (vI 1), hh I J) := by
    have := cIsWord (J := J) d 14 (by decide) hT hi e6
    rw [if_pos (show std by_ n (tpk by_ n i) (nthD wlU 14 []) = true from ha)] at this
    exact this
  have hor : nJ o ||| 0 = nJ o := by
    rcases (show o = 0 ∨ o = 1 by omega) with rfl | rfl <;> decide
  rw [eRu_readTest_8, if_pos (lt_nL (b := 400) hx (by decide)), if_pos e7, w15, bI_some, if_pos rfl, gI_hh, gJ_hh, w14, bI_some, if_neg (show ¬ (1 : Int32) = 0 by decide), gI_hh, gJ_hh, eRu_readTest_25, if_pos rfl, hor, nJ_succ]
  simp only [if_true]
theorem c8_or {I I1 : IT} {J : JT} {by_ : Nat → Nat} {n tk i r o : Nat} (d x4 : Nat) (x2 : Int32) (hT : TkS I by_ n 1 tk) (hi : i ≤ tk) (e6 : I (1, 0) 6 = nJ i) (e7 : I (1, 0) 7 = 0) (hx : x4 < 400) (ha : std by_ n (tpk by_ n i) (nthD txL 20 []) = true) (hI1 : (o = 0 ∧ I1 = I) ∨ (o = 1 ∧ ev d mRu_put 0 [vR (37, r), vI 15] [] (hh I J) = some (none, hh I1 J))) : ev (d + 1) mRu_readTest 8 [vR (37, r), vR (1, 0), vI x2, vI (nJ o), vI (nJ x4), vU] [] (hh I J) = bV (ev d mTe_skip 0 [vR (1, 0)] [] (hh I1 J)) (fun h1 => bV (ev d mRu_readFact 0 [vR (37, r), vR (1, 0), vI x2, vU, vU, vU] [] (hh (gI h1) (gJ h1))) (fun h2 => ev (d + 1) mRu_readTest 8 [vR (37, r), vR (1, 0), vI x2, vI (nJ 1), vI (nJ (x4 + 1)), vU] [] (hh (gI h2) (gJ h2)))) := by
  have w15 : ev d mTe_isWord 0 [vR (1, 0), vI 15] [] (hh I J) = some (some (vI 1), hh I J) := by
    have := cIsWord (J := J) d 15 (by decide) hT hi e6
    rw [if_pos (show std by_ n (tpk by_ n i) (nthD wlU 15 []) = true from ha)] at this
    exact this
  rw [eRu_readTest_8, if_pos (lt_nL (b := 400) hx (by decide)), if_pos e7, w15, bI_some, if_neg (show ¬ (1 : Int32) = 0 by decide), gI_hh, gJ_hh, eRu_readTest_25, if_neg (show ¬ (1 : Int32) = 0 by decide), nJ_succ]
  rcases hI1 with ⟨rfl, rfl⟩ | ⟨rfl, hp⟩
  · rw [if_pos (show nJ 0 = 0 from rfl), show nJ 0 ||| 1 = nJ 1 by decide]
    rfl
  · rw [if_neg (show ¬ nJ 1 = 0 by decide), hp, bV_some, gI_hh, gJ_hh, show nJ 1 ||| 1 = nJ 1 by decide]
    rfl
theorem c8F {I : IT} {J : JT} {by_ : Nat → Nat} {n tk r f K : Nat} (d : Nat) (x2 x3 x4 : Int32) (hf : f ≠ 0) (hl : f < 100000) (h : FlC I by_ n tk r f K) : ∃ I', ev (d + 1) mRu_readTest 8 [vR (37, r), vR (1, 0), vI x2, vI x3, vI x4, vU] [] (hh I J) = some (none, hh I' J) ∧ FrL r I I' ∧ FlC I' by_ n tk r f K := by
  obtain ⟨I', q1, q2, q3⟩ := h.put (J := J) d 15
  have key : ∃ I', (if x3 = 0 then some (none, hh I J) else bV (ev d mRu_put 0 [vR (37, r), vI 15] [] (hh I J)) (fun h3 => some (none, hh (gI h3) (gJ h3)))) = some (none, hh I' J) ∧ FrL r I I' ∧ FlC I' by_ n tk r f K := by
    by_cases hw : x3 = 0
    · rw [if_pos hw]
      exact ⟨I, rfl, FrL.rf r I, h⟩
    · rw [if_neg hw, q3, bV_some]
      exact ⟨I', rfl, q2, q1⟩
  rw [eRu_readTest_8, if_neg (h.n0 hf hl)]
  split
  · exact key
  · exact key
theorem m42_and {A : IT} {B : JT} (d : Nat) : ev (d + 1) mMo_test 42 [vR (43, 0), vU, vI 1, vI 1, vI 0] [] (hh A B) = bV (ev d mMo_opens 0 [vR (43, 0), vI 10] [] (hh A B)) (fun h2 => ev (d + 1) mMo_test 7 [vR (43, 0), vI 1, vI 1, vU, vU] [] (hh (up2 (gI h2) (43, 0) 27 (((gI h2) (43, 0) 27) + 3)) (gJ h2))) := by
  rw [eMo_test_42, if_pos rfl, if_neg (show ¬ (1 : Int32) = 0 by decide)]
  rfl
theorem m42_or {A : IT} {B : JT} (d : Nat) : ev (d + 1) mMo_test 42 [vR (43, 0), vU, vI 1, vI 0, vI 1] [] (hh A B) = bV (ev d mMo_answers 0 [vR (43, 0), vI 11] [] (hh A B)) (fun h3 => bV (ev d mMo_opens 0 [vR (43, 0), vI 11] [] (hh (gI h3) (gJ h3))) (fun h4 => ev (d + 1) mMo_test 7 [vR (43, 0), vI 1, vI 1, vU, vU] [] (hh (up2 (gI h4) (43, 0) 27 (((gI h4) (43, 0) 27) + 2)) (gJ h4)))) := by
  rw [eMo_test_42, if_neg (show ¬ (1 : Int32) = 0 by decide)]
  rfl
/-- a fact at a depth, as it is promised -/
def FcP (J B : JT) (by_ : Nat → Nat) (n tk r d d' dl hf : Nat) : Prop := ∀ (I A : IT) (i p sz pc m : Nat), RlS I A by_ n tk i p r sz sz pc → 3 * sz ≤ 14 * pc → m ≤ 3 * dl + 2 → A (43, 0) 34 = nJ m → A (43, 0) 32 = nJ dl → ∃ I', ev d mRu_readFact 0 [vR (37, r), vR (1, 0), vI (nJ dl), vU, vU, vU] [] (hh I J) = some (none, hh I' J) ∧ FrL r I I' ∧ ((∃ f A', f ≠ 0 ∧ f < 100000 ∧ FlC I' by_ n tk r f 63 ∧ ev (d' + 2) mMo_test 7 [vR (43, 0), vI 1, vI 1, vU, vU] [] (hh A B) = some (none, hh A' B) ∧ FrP r A A' ∧ FlE A' by_ n f) ∨ ∃ A' i' p' sz' ez' pc' v, ev (d' + 2) mMo_test 7 [vR (43, 0), vI 1, vI 1, vU, vU] [] (hh A B) = ev (d' + 2) mMo_test 7 [vR (43, 0), vI 0, vI 1, vU, vU] [] (hh A' B) ∧ FrP r A A' ∧ RlS I' A' by_ n tk i' p' r sz' ez' pc' ∧ (sz' = ez' + v ∧ dl + v ≤ 10 ∧ i < i') ∧ (∀ j, ez' ≤ j → j < sz' → I' (38, r) j = 13) ∧ (A' (43, 0) 34 = nJ (m + v) ∧ A' (43, 0) 32 = nJ (dl + v)) ∧ (∀ k, k < m → A' (75, 0) k = A (75, 0) k) ∧ (∀ k, m ≤ k → k < m + v → A' (75, 0) k = 9) ∧ SgR (I' (38, r)) sz sz' hf ZO ∧ (∀ j, j < sz → I' (38, r) j = I (38, r) j) ∧ 3 * sz' + 3 + 3 * dl + 14 * pc ≤ 14 * pc' + 3 * sz ∧ sz ≤ sz')
theorem opnF_o {A : IT} {m : Nat} {x : Int32} {a : Ad} {k : Nat} (h1 : a ≠ (75, 0)) (h2 : ¬ (a = (43, 0) ∧ k = 34)) : opnF A m x a k = A a k := by
  unfold opnF
  rw [up_at, if_neg h2, up_ne _ _ _ _ h1]
theorem opnF_34 {A : IT} {m : Nat} {x : Int32} : opnF A m x (43, 0) 34 = nJ (m + 1) := up_same _ _ _ _
theorem opnF_75 {A : IT} {m k : Nat} {x : Int32} : opnF A m x (75, 0) k = if k = m then x else A (75, 0) k := by
  unfold opnF
  rw [up_ne _ _ _ _ (by decide), up_at]
  by_cases e : k = m
  · rw [if_pos ⟨rfl, e⟩, if_pos e]
  · rw [if_neg (fun z => e z.2), if_neg e]
theorem opnF_fr {A : IT} {r m : Nat} {x : Int32} : FrP r A (opnF A m x) := fun a k h1 h2 _ => opnF_o h2 (fun z => h1 ⟨z.1, by omega⟩)
theorem RlS.opn {I A : IT} {by_ : Nat → Nat} {n tk i p r sz ez pc m : Nat} {x : Int32} (h : RlS I A by_ n tk i p r sz ez pc) : RlS I (opnF A m x) by_ n tk i p r sz ez pc := by
  obtain ⟨⟨t1, t2, t3, t4, t5, t6, t7, t8, t9, t10⟩, hr, ⟨c1, c2, c3, c4, c5, c6⟩, hb, hcd⟩ := h
  have o : ∀ k, k ≠ 34 → opnF A m x (43, 0) k = A (43, 0) k := fun k h1 => opnF_o (by decide) (fun z => h1 z.2)
  refine ⟨⟨t1, (opnF_fr (r := r)).bt t2, t3, t4, t5, (o 27 (by decide)).trans t6, (o 28 (by decide)).trans t7, t8, t9, t10⟩, hr, ⟨c1, c2, (o 29 (by decide)).trans c3, (o 31 (by decide)).trans c4, (o 33 (by decide)).trans c5, (o 35 (by decide)).trans c6⟩, hb, fun j hj => ?_⟩
  rw [opnF_o (by decide) (fun z => absurd z.1 (by decide)), opnF_o (by decide) (fun z => absurd z.1 (by decide))]
  exact hcd j hj
