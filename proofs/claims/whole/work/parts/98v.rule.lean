/-! A RULE, clause by clause -/
theorem cMoreF {I : IT} {J : JT} {by_ : Nat → Nat} {n tk r f K : Nat} (d : Nat) (hf : f ≠ 0) (hl : f < 100000) (h : FlC I by_ n tk r f K) : ev (d + 2) mTe_hasMore 0 [vR (1, 0)] [] (hh I J) = some (some (vI 0), hh I J) := by
  have h7 := h.n0 hf hl
  obtain ⟨i, sz, pc, h1, h2, h3, -⟩ := h
  obtain ⟨t1, t2, t3, t4, t5, t6⟩ := h1.at h2
  have hs : ev d mTe_isSign 0 [vR (1, 0), vI 59] [] (hh I J) = some (some (vI (if tpk by_ n i < n ∧ by_ (tpk by_ n i) = 59 then 1 else 0)), hh I J) := cIsSign d 59 h1 h2 h3 (by decide) (by decide) (by decide) (by decide)
  have hk : ev (d + 1) mTe_takeSign 0 [vR (1, 0), vI 59] [] (hh I J) = some (none, hh I J) := by
    rw [eTe_takeSign_0, hs, bI_some]
    simp only [gI_hh, gJ_hh]
    rw [cFailN d _ h7]
    simp only [bV_some, gI_hh, gJ_hh]
    rw [cSkipN d h7]
    simp only [bV_some, gI_hh, gJ_hh]
    split <;> rfl
  have he : ∃ v, ev (d + 1) mTe_isEnd 0 [vR (1, 0)] [] (hh I J) = some (some (vI v), hh I J) := by
    rw [eTe_isEnd_0, h3, bnd (show i < 401 by omega) (by omega)]
    split
    · exact ⟨_, rfl⟩
    · exact ⟨_, rfl⟩
  obtain ⟨v, he⟩ := he
  rw [eTe_hasMore_0, he, bI_some, gI_hh, gJ_hh, hk, bV_some, gI_hh, gJ_hh, if_neg h7]
  split <;> rfl
theorem mMoreF {A : IT} {B : JT} {by_ : Nat → Nat} {n f : Nat} (d : Nat) (hf : f ≠ 0) (hl : f < 100000) (h : FlE A by_ n f) : ∃ A', ev (d + 2) mMo_goesOn 0 [vR (43, 0), vU] [] (hh A B) = some (some (vI 0), hh A' B) ∧ FrY A A' ∧ A' (43, 0) 28 = nJ f := by
  have h28 := h.n0 hf hl
  obtain ⟨p, h1, h2, h3, h4⟩ := h
  have hn : ¬ spp A (sbk by_ n p) (43, 0) 28 = 0 := by
    rw [spp_28]
    exact h28
  refine ⟨up2 (spp A (sbk by_ n p)) (43, 0) 27 (spp A (sbk by_ n p) (43, 0) 27 + 1), ?_, FrY.u27.tr FrY.u27, ?_⟩
  · rw [eMo_goesOn_0, mBlanks d h1 _ p rfl h3 h2, bV_some, gI_hh, gJ_hh, if_neg hn, if_neg hn]
  · rw [up_neK _ _ (by decide), spp_28]
    exact h4
theorem ClS.fr {I A I' A' : IT} {by_ : Nat → Nat} {n tk i p i' p' r sz pc c : Nat} (h : ClS I A by_ n tk i p r sz pc c) (hI : FrX I I') (hA : FrY A A') (hT : TxR I' A' by_ n 1 tk i' 0 p') : ClS I' A' by_ n tk i' p' r sz pc c := by
  obtain ⟨⟨-, hr, ⟨c1, c2, c3, c4, c5, c6⟩, hbb, hcd⟩, hb, hc12, e4, e32, e39, hcl⟩ := h
  have o : ∀ s m, s ≠ 1 → I' (s, m) = I (s, m) := fun s m hs => hI.s hs
  have oA : ∀ s m, s ≠ 43 → A' (s, m) = A (s, m) := fun s m hs => hA.s hs
  have o43 : ∀ k, k ≠ 27 → k ≠ 28 → A' (43, 0) k = A (43, 0) k := fun k h1 h2 => hA (43, 0) k (fun z => by omega)
  refine ⟨⟨hT, hr, ⟨?_, ?_, (o43 29 (by decide) (by decide)).trans c3, (o43 31 (by decide) (by decide)).trans c4, (o43 33 (by decide) (by decide)).trans c5, (o43 35 (by decide) (by decide)).trans c6⟩, hbb, ?_⟩, hb, hc12, ?_, (o43 32 (by decide) (by decide)).trans e32, ?_, ?_⟩
  · rw [o 37 r (by decide)]; exact c1
  · rw [o 37 r (by decide)]; exact c2
  · rw [o 38 r (by decide), oA 69 0 (by decide), oA 70 0 (by decide)]; exact hcd
  · rw [o 37 r (by decide)]; exact e4
  · rw [o 39 r (by decide)]; exact e39
  · rw [o 38 r (by decide), o 39 r (by decide), o 40 r (by decide), oA 72 0 (by decide), oA 73 0 (by decide), oA 74 0 (by decide)]; exact hcl
/-- a rule that was read whole -/
def RuN (I A : IT) (r c : Nat) : Prop := ∃ z, z ≤ 300 ∧ c ≤ 12 ∧ I (37, r) 4 = nJ c ∧ (∀ j, j < z → CdR (I (38, r) j) (A (69, 0) (300 * r + j)) (A (70, 0) (300 * r + j))) ∧ ∀ i, i < c → ∃ a b e, e ≤ z ∧ I (39, r) i = nJ a ∧ I (40, r) i = nJ b ∧ I (39, r) (i + 1) = nJ e ∧ A (72, 0) (12 * r + i) = nJ a ∧ A (73, 0) (12 * r + i) = nJ b ∧ A (74, 0) (12 * r + i) = nJ e ∧ SgR (I (38, r)) a b 40 (fun _ => True) ∧ (b = e ∨ SgR (I (38, r)) b e 40 ZO)
theorem ClS.n {I A : IT} {by_ : Nat → Nat} {n tk i p r sz pc c : Nat} (h : ClS I A by_ n tk i p r sz pc c) : RuN I A r c := ⟨sz, by have := h.1.2.2.2.1; omega, h.2.2.1, h.2.2.2.1, h.1.2.2.2.2, h.2.2.2.2.2.2⟩
theorem RuN.ext {I A I' A' : IT} {r c : Nat} (h : RuN I A r c) (hI : ∀ s, 37 ≤ s → s ≤ 40 → I' (s, r) = I (s, r)) (h69 : ∀ s k, s = 69 ∨ s = 70 → k < 300 → A' (s, 0) (300 * r + k) = A (s, 0) (300 * r + k)) (h72 : ∀ s k, s = 72 ∨ s = 73 ∨ s = 74 → k < 12 → A' (s, 0) (12 * r + k) = A (s, 0) (12 * r + k)) : RuN I' A' r c := by
  obtain ⟨z, h1, h2, h3, h4, h5⟩ := h
  refine ⟨z, h1, h2, ?_, fun j hj => ?_, fun i hi => ?_⟩
  · rw [hI 37 (by decide) (by decide)]; exact h3
  · rw [hI 38 (by decide) (by decide), h69 69 j (by decide) (by omega), h69 70 j (by decide) (by omega)]; exact h4 j hj
  · obtain ⟨a, b, e, q1, q2, q3, q4, q5, q6, q7, q8, q9⟩ := h5 i hi
    refine ⟨a, b, e, q1, ?_, ?_, ?_, ?_, ?_, ?_, ?_, ?_⟩
    · rw [hI 39 (by decide) (by decide)]; exact q2
    · rw [hI 40 (by decide) (by decide)]; exact q3
    · rw [hI 39 (by decide) (by decide)]; exact q4
    · rw [h72 72 i (by decide) (by omega)]; exact q5
    · rw [h72 73 i (by decide) (by omega)]; exact q6
    · rw [h72 74 i (by decide) (by omega)]; exact q7
    · rw [hI 38 (by decide) (by decide)]; exact q8
    · rw [hI 38 (by decide) (by decide)]; exact q9
theorem RuN.r {I A : IT} {r c : Nat} (h : RuN I A r c) (h71 : A (71, 0) r = nJ c) : RuR I A r := by
  obtain ⟨z, h1, h2, h3, h4, h5⟩ := h
  exact ⟨c, z, h2, h1, h3, h71, h4, h5⟩
theorem RuR.n {I A : IT} {r : Nat} (h : RuR I A r) : ∃ c, RuN I A r c ∧ A (71, 0) r = nJ c := by
  obtain ⟨c, z, h1, h2, h3, h4, h5, h6⟩ := h
  exact ⟨c, ⟨z, h2, h1, h3, h5, h6⟩, h4⟩
theorem ru_loop {J B : JT} {by_ : Nat → Nat} {n tk r : Nat} (d d' : Nat) : ∀ j c, c + j = 13 → ∀ (I A : IT) (i p sz pc : Nat), ClS I A by_ n tk i p r sz pc c → ∃ I' A' f c', ev (d + 26) mRu_read 16 [vR (37, r), vR (1, 0), vI 1, vI (nJ c)] [] (hh I J) = some (some (vI (if f = 0 then 1 else 0)), hh I' J) ∧ ev (d' + 12) mMo_rule 16 [vR (43, 0), vI (nJ c), vI 1] [] (hh A B) = ev (d' + 12) mMo_rule 16 [vR (43, 0), vI (nJ c'), vI 0] [] (hh A' B) ∧ FrK r I I' ∧ FrW r A A' ∧ I' (1, 0) 7 = nJ f ∧ A' (43, 0) 28 = nJ f ∧ f < 100000 ∧ (f = 0 → RuN I' A' r c')
  | 0, c, hc, I, A, i, p, sz, pc, h => by
    have := h.2.2.1
    omega
  | j + 1, c, hc, I, A, i, p, sz, pc, h => by
    have hc12 := h.2.2.1
    obtain ⟨I1, A1, o1, o2, f1, f2, hO⟩ := cl_one (J := J) (B := B) d d' h
    have hC : ∀ v I2, ev (d + 25) mTe_hasMore 0 [vR (1, 0)] [] (hh I1 J) = some (some (vI v), hh I2 J) → ev (d + 26) mRu_read 16 [vR (37, r), vR (1, 0), vI 1, vI (nJ c)] [] (hh I J) = ev (d + 26) mRu_read 16 [vR (37, r), vR (1, 0), vI v, vI (nJ (c + 1))] [] (hh I2 J) := fun v I2 hm => by
      rw [eRu_read_16, if_neg (show ¬ (12 : Int32) < nJ c from nlt_Ln (a := 12) (by omega) (by omega)), if_neg (show ¬ (1 : Int32) = 0 by decide), o1, bV_some, gI_hh, gJ_hh, hm, bI_some, gI_hh, gJ_hh, nJ_succ]
    have hD : ∀ v A2, ev (d' + 11) mMo_goesOn 0 [vR (43, 0), vU] [] (hh A1 B) = some (some (vI v), hh A2 B) → ev (d' + 12) mMo_rule 16 [vR (43, 0), vI (nJ c), vI 1] [] (hh A B) = ev (d' + 12) mMo_rule 16 [vR (43, 0), vI (nJ (c + 1)), vI v] [] (hh A2 B) := fun v A2 hm => by
      rw [eMo_rule_16, if_neg (show ¬ (1 : Int32) = 0 by decide), o2, bV_some, gI_hh, gJ_hh, hm, bI_some, gI_hh, gJ_hh, nJ_succ]
    have hX : ∀ (I2 : IT) f, I2 (1, 0) 7 = nJ f → f < 100000 → ev (d + 26) mRu_read 16 [vR (37, r), vR (1, 0), vI 0, vI (nJ (c + 1))] [] (hh I2 J) = some (some (vI (if f = 0 then 1 else 0)), hh I2 J) := fun I2 f e7 hf => by
      rw [eRu_read_16, if_pos (show (0 : Int32) = 0 from rfl), e7]
      by_cases e : f = 0
      · subst e
        rw [if_pos (show nJ 0 = 0 from rfl)]
        split <;> rfl
      · rw [if_neg (ne_nL (b := 0) e (by omega) (by decide)), if_neg e]
        split <;> rfl
    rcases hO with ⟨f, g1, g2, g3, g4⟩ | ⟨i1, p1, sz1, pc1, hS⟩
    · have h7 : I1 (1, 0) 7 = nJ f := by
        obtain ⟨_, _, _, _, _, _, q, _⟩ := g3
        exact q
      obtain ⟨A2, m1, m2, m3⟩ := mMoreF (B := B) (d' + 9) g1 g2 g4
      exact ⟨I1, A2, f, c + 1, (hC 0 I1 (cMoreF (d + 23) g1 g2 g3)).trans (hX I1 f h7 g2), hD 0 A2 m1, f1, f2.tr (FrW.y m2), h7, m3, g2, fun z => absurd z g1⟩
    · obtain ⟨I2, A2, f, v, o3, o4, x1, x2, e7, m28, hf, hv, -⟩ := tk_more (J := J) (B := B) (d + 23) (d' + 9) hS.1.1
      rcases hv with rfl | ⟨rfl, i', p', hT⟩
      · refine ⟨I2, A2, f, c + 1, (hC 0 I2 o3).trans (hX I2 f e7 hf), hD 0 A2 o4, f1.tr (FrK.x x1), f2.tr (FrW.y x2), e7, m28, hf, fun _ => hS.n.ext (fun s _ _ => x1.s (by omega)) (fun s k hs _ => by rw [x2.s (by omega)]) (fun s k hs _ => by rw [x2.s (by omega)])⟩
      · obtain ⟨I3, A3, f3, c3, q1, q2, q3, q4, q5⟩ := ru_loop d d' j (c + 1) (by omega) I2 A2 i' p' sz1 pc1 (hS.fr x1 x2 hT)
        exact ⟨I3, A3, f3, c3, (hC 1 I2 o3).trans q1, (hD 1 A2 o4).trans q2, (f1.tr (FrK.x x1)).tr q3, (f2.tr (FrW.y x2)).tr q4, q5⟩
