/-! SUMS -/
theorem RlS.skip {I A : IT} {by_ : Nat → Nat} {n tk i p q r sz ez pc : Nat} (h : RlS I A by_ n tk i p r sz ez pc) (hi : i < tk) (hq : q ≤ n) (hqs : sbk by_ n q = tpk by_ n (i + 1)) : RlS (up2 I (1, 0) 6 (nJ (i + 1))) (spp A q) by_ n tk (i + 1) q r sz ez pc := by
  obtain ⟨⟨t1, t2, t3, t4, t5, t6, t7, t8, t9, t10⟩, hr, ⟨c1, c2, c3, c4, c5, c6⟩, hb, hcd⟩ := h
  have n37 : ∀ s k, s ≠ 1 → up2 I (1, 0) 6 (nJ (i + 1)) (s, r) k = I (s, r) k := fun s k hs => up_ne _ _ _ _ (fun z => hs (Prod.mk.inj z).1)
  refine ⟨⟨FrX.u6.tks t1, spp_bt t2, hi, up_same _ _ _ _, (up_neK _ _ (by decide)).trans t5, spp_27 _ _, (spp_28 _ _).trans t7, hq, by decide, fun _ => hqs⟩, hr, ⟨(n37 37 1 (by decide)).trans c1, (n37 37 5 (by decide)).trans c2, (up_neK _ _ (by decide)).trans c3, (up_neK _ _ (by decide)).trans c4, (up_neK _ _ (by decide)).trans c5, (up_neK _ _ (by decide)).trans c6⟩, hb, fun j hj => ?_⟩
  rw [n37 38 j (by decide)]
  unfold spp
  rw [up_ne _ _ _ _ (by decide), up_ne _ _ _ _ (by decide)]
  exact hcd j hj
theorem RlS.bl {I A : IT} {by_ : Nat → Nat} {n tk i p r sz ez pc : Nat} (h : RlS I A by_ n tk i p r sz ez pc) : RlS I (spp A (tpk by_ n i)) by_ n tk i (tpk by_ n i) r sz ez pc := by
  obtain ⟨⟨t1, t2, t3, t4, t5, t6, t7, t8, t9, t10⟩, hr, ⟨c1, c2, c3, c4, c5, c6⟩, hb, hcd⟩ := h
  have hs := t10 rfl
  refine ⟨⟨t1, spp_bt t2, t3, t4, t5, spp_27 _ _, (spp_28 _ _).trans t7, tpk_le t1 t3, by decide, fun _ => by rw [← hs]; exact rn_fix⟩, hr, ⟨c1, c2, (up_neK _ _ (by decide)).trans c3, (up_neK _ _ (by decide)).trans c4, (up_neK _ _ (by decide)).trans c5, (up_neK _ _ (by decide)).trans c6⟩, hb, fun j hj => ?_⟩
  unfold spp
  rw [up_ne _ _ _ _ (by decide), up_ne _ _ _ _ (by decide)]
  exact hcd j hj
theorem RlS.blev {I A : IT} {B : JT} {by_ : Nat → Nat} {n tk i p r sz ez pc : Nat} (d : Nat) (h : RlS I A by_ n tk i p r sz ez pc) : ev (d + 1) mMo_blanks 0 [vR (43, 0)] [] (hh A B) = some (none, hh (spp A (tpk by_ n i)) B) := by
  obtain ⟨⟨t1, t2, t3, t4, t5, t6, t7, t8, t9, t10⟩, -⟩ := h
  rw [mBlanks d t2 _ p rfl (by have := t2.1; omega) t6, t10 rfl]
/-- the reference's term: a sign that goes on -/
theorem mTermMul {A : IT} {B : JT} {by_ : Nat → Nat} {n s : Nat} (d : Nat) (hM : BtM A by_ n) (h27 : A (43, 0) 27 = nJ s) (h28 : A (43, 0) 28 = 0) (hs : s < n) (c k : Nat) (hc : by_ s = c) (hck : (c = 42 ∧ k = 13) ∨ (c = 47 ∧ k = 14) ∨ (c = 37 ∧ k = 15)) : ev (d + 1) mMo_term 4 [vR (43, 0), vU] [] (hh A B) = bV (ev d mMo_value 0 [vR (43, 0), vU, vU] [] (hh (spp A (s + 1)) B)) (fun h3 => bV (ev d mMo_entry 0 [vR (43, 0), vI (nJ k), vI 0] [] (hh (gI h3) (gJ h3))) (fun h4 => bV (ev d mMo_blanks 0 [vR (43, 0)] [] (hh (gI h4) (gJ h4))) (fun h5 => ev (d + 1) mMo_term 4 [vR (43, 0), vU] [] (hh (gI h5) (gJ h5))))) := by
  have hsg : sgn by_ n s = nJ c := by
    unfold sgn
    rw [if_pos hs, hc]
  have hn := hM.1
  have sg := mSign (B := B) d hM h27 (by omega)
  rw [hsg] at sg
  rw [eMo_term_4, if_pos h28]
  simp only [sg, bI_some, gI_hh, gJ_hh, h27, nJ_succ]
  rcases hck with ⟨rfl, rfl⟩ | ⟨rfl, rfl⟩ | ⟨rfl, rfl⟩
  · rw [if_pos (show nJ 42 = 42 from rfl), if_pos (show nJ 42 = 42 from rfl)]
    rfl
  · rw [if_neg (show ¬ nJ 47 = 42 by decide), if_pos (show nJ 47 = 47 from rfl), if_neg (show ¬ nJ 47 = 42 by decide), if_pos (show nJ 47 = 47 from rfl)]
    rfl
  · rw [if_neg (show ¬ nJ 37 = 42 by decide), if_neg (show ¬ nJ 37 = 47 by decide), if_pos (show nJ 37 = 37 from rfl), if_neg (show ¬ nJ 37 = 42 by decide), if_neg (show ¬ nJ 37 = 47 by decide)]
    rfl
theorem mTermEnd {A : IT} {B : JT} {by_ : Nat → Nat} {n s : Nat} (d : Nat) (hM : BtM A by_ n) (h27 : A (43, 0) 27 = nJ s) (h28 : A (43, 0) 28 = 0) (hs : s ≤ n) (hc : ¬ (s < n ∧ (by_ s = 42 ∨ by_ s = 47 ∨ by_ s = 37))) : ev (d + 1) mMo_term 4 [vR (43, 0), vU] [] (hh A B) = some (none, hh A B) := by
  have hb : ∀ k, k < n → by_ k < 256 := fun k hk => (hM.2.2 k hk).1
  have hn := hM.1
  have sg := mSign (B := B) d hM h27 (by omega)
  have n42 : ¬ sgn by_ n s = 42 := fun z => hc ⟨(Eq.mp (sgn_is (c := 42) hb (by decide)) z).1, Or.inl (Eq.mp (sgn_is (c := 42) hb (by decide)) z).2⟩
  have n47 : ¬ sgn by_ n s = 47 := fun z => hc ⟨(Eq.mp (sgn_is (c := 47) hb (by decide)) z).1, Or.inr (Or.inl (Eq.mp (sgn_is (c := 47) hb (by decide)) z).2)⟩
  have n37 : ¬ sgn by_ n s = 37 := fun z => hc ⟨(Eq.mp (sgn_is (c := 37) hb (by decide)) z).1, Or.inr (Or.inr (Eq.mp (sgn_is (c := 37) hb (by decide)) z).2)⟩
  rw [eMo_term_4, if_pos h28, sg, bI_some, if_neg n42]
  simp only [gI_hh, gJ_hh]
  rw [sg, bI_some, if_neg n47]
  simp only [gI_hh, gJ_hh]
  rw [sg, bI_some, if_neg n37]
theorem mSumAdd {A : IT} {B : JT} {by_ : Nat → Nat} {n s : Nat} (d : Nat) (hM : BtM A by_ n) (h27 : A (43, 0) 27 = nJ s) (h28 : A (43, 0) 28 = 0) (hs : s < n) (c k : Nat) (hc : by_ s = c) (hck : (c = 43 ∧ k = 2) ∨ (c = 45 ∧ k = 3)) : ev (d + 1) mMo_sum 2 [vR (43, 0), vU] [] (hh A B) = bV (ev d mMo_term 0 [vR (43, 0), vU] [] (hh (spp A (s + 1)) B)) (fun h3 => bV (ev d mMo_entry 0 [vR (43, 0), vI (nJ k), vI 0] [] (hh (gI h3) (gJ h3))) (fun h4 => ev (d + 1) mMo_sum 2 [vR (43, 0), vU] [] (hh (gI h4) (gJ h4)))) := by
  have hsg : sgn by_ n s = nJ c := by
    unfold sgn
    rw [if_pos hs, hc]
  have hn := hM.1
  have sg := mSign (B := B) d hM h27 (by omega)
  rw [hsg] at sg
  rw [eMo_sum_2, if_pos h28]
  simp only [sg, bI_some, gI_hh, gJ_hh, h27, nJ_succ]
  rcases hck with ⟨rfl, rfl⟩ | ⟨rfl, rfl⟩
  · rw [if_pos (show nJ 43 = 43 from rfl), if_pos (show nJ 43 = 43 from rfl)]
    rfl
  · rw [if_neg (show ¬ nJ 45 = 43 by decide), if_pos (show nJ 45 = 45 from rfl), if_neg (show ¬ nJ 45 = 43 by decide)]
    rfl
theorem mSumEnd {A : IT} {B : JT} {by_ : Nat → Nat} {n s : Nat} (d : Nat) (hM : BtM A by_ n) (h27 : A (43, 0) 27 = nJ s) (h28 : A (43, 0) 28 = 0) (hs : s ≤ n) (hc : ¬ (s < n ∧ (by_ s = 43 ∨ by_ s = 45))) : ev (d + 1) mMo_sum 2 [vR (43, 0), vU] [] (hh A B) = some (none, hh A B) := by
  have hb : ∀ k, k < n → by_ k < 256 := fun k hk => (hM.2.2 k hk).1
  have hn := hM.1
  have sg := mSign (B := B) d hM h27 (by omega)
  have n42 : ¬ sgn by_ n s = 43 := fun z => hc ⟨(Eq.mp (sgn_is (c := 43) hb (by decide)) z).1, Or.inl (Eq.mp (sgn_is (c := 43) hb (by decide)) z).2⟩
  have n47 : ¬ sgn by_ n s = 45 := fun z => hc ⟨(Eq.mp (sgn_is (c := 45) hb (by decide)) z).1, Or.inr (Eq.mp (sgn_is (c := 45) hb (by decide)) z).2⟩
  rw [eMo_sum_2, if_pos h28, sg, bI_some, if_neg n42]
  simp only [gI_hh, gJ_hh]
  rw [sg, bI_some, if_neg n47]
/-- how the reference goes on behind a value, with a sign that waits -/
noncomputable def sumK (d : Nat) (w : Int32) (A : IT) (B : JT) : Option Rs := bV (ev (d + 6) mMo_term 4 [vR (43, 0), vU] [] (hh A B)) (fun h => if w = -1 then ev (d + 7) mMo_sum 2 [vR (43, 0), vU] [] (hh (gI h) (gJ h)) else bV (ev (d + 6) mMo_entry 0 [vR (43, 0), vI (if w = 43 then 2 else 3), vI 0] [] (hh (gI h) (gJ h))) (fun h4 => ev (d + 7) mMo_sum 2 [vR (43, 0), vU] [] (hh (gI h4) (gJ h4))))
theorem sumK_F {A : IT} {B : JT} (d : Nat) (w : Int32) (hf : ¬ A (43, 0) 28 = 0) : sumK d w A B = some (none, hh A B) := by
  unfold sumK
  rw [mTerm4F (d + 5) hf, bV_some]
  simp only [gI_hh, gJ_hh]
  by_cases hw : w = -1
  · rw [if_pos hw, mSum2F (d + 6) hf]
  · rw [if_neg hw, mEntryN (d + 6) _ _ hf, bV_some, gI_hh, gJ_hh, mSum2F (d + 6) hf]
/-- the class behind a fault in its loop -/
theorem cSum7F {I : IT} {J : JT} {by_ : Nat → Nat} {n tk r f K : Nat} (d : Nat) (w x3 : Int32) (hf : f ≠ 0) (hl : f < 100000) (h : FlC I by_ n tk r f K) : ∃ I', ev (d + 2) mRu_readSum 7 [vR (37, r), vR (1, 0), vI w, vI x3, vU, vU] [] (hh I J) = some (none, hh I' J) ∧ FrL r I I' ∧ FlC I' by_ n tk r f K := by
  obtain ⟨I', q1, q2, q3⟩ := h.put (J := J) (d + 1) w
  have key : ∃ I', (if w = -1 then some (none, hh I J) else bV (ev (d + 1) mRu_put 0 [vR (37, r), vI w] [] (hh I J)) (fun h3 => some (none, hh (gI h3) (gJ h3)))) = some (none, hh I' J) ∧ FrL r I I' ∧ FlC I' by_ n tk r f K := by
    by_cases hw : w = -1
    · rw [if_pos hw]
      exact ⟨I, rfl, FrL.rf r I, h⟩
    · rw [if_neg hw, q3, bV_some]
      exact ⟨I', rfl, q2, q1⟩
  rw [eRu_readSum_7, if_neg (h.n0 hf hl)]
  split
  · exact key
  · exact key
