/-! A TEST's loop -/
noncomputable def teK (d : Nat) (A : IT) (B : JT) : Option Rs := bI (ev d mMo_top 0 [vR (43, 0)] [] (hh A B)) (fun r7 h7 => if r7 = 12 then bI (ev d mMo_sign 0 [vR (43, 0)] [] (hh (gI h7) (gJ h7))) (fun r8 h8 => if r8 = 93 then ev (d + 1) mMo_test 7 [vR (43, 0), vI 0, vI 1, vU, vU] [] (hh (up2 (up2 (up2 (gI h8) (43, 0) 27 (((gI h8) (43, 0) 27) + 1)) (43, 0) 34 (((gI h8) (43, 0) 34) - 1)) (43, 0) 32 (((gI h8) (43, 0) 32) - 1)) (gJ h8)) else bV (ev d mMo_fails 0 [vR (43, 0), vI 0, vI ((gI h8) (43, 0) 27)] [] (hh (gI h8) (gJ h8))) (fun h9 => ev (d + 1) mMo_test 7 [vR (43, 0), vI 0, vI 1, vU, vU] [] (hh (up2 (up2 (up2 (gI h9) (43, 0) 27 (((gI h9) (43, 0) 27) + 1)) (43, 0) 34 (((gI h9) (43, 0) 34) - 1)) (43, 0) 32 (((gI h9) (43, 0) 32) - 1)) (gJ h9)))) else ev (d + 1) mMo_test 7 [vR (43, 0), vI 0, vI 0, vU, vU] [] (hh (gI h7) (gJ h7)))
noncomputable def tsK (d : Nat) (r3 r4 : Int32) (A : IT) (B : JT) : Option Rs := if r3 = 0 then if r4 = 0 then bV (ev d mMo_answers 0 [vR (43, 0), vI 11] [] (hh A B)) (fun h6 => teK d (gI h6) (gJ h6)) else ev (d + 1) mMo_test 42 [vR (43, 0), vU, vI 1, vI r3, vI r4] [] (hh A B) else ev (d + 1) mMo_test 42 [vR (43, 0), vU, vI 1, vI r3, vI r4] [] (hh A B)
theorem mT7_0 {A : IT} {B : JT} (d : Nat) (h28 : A (43, 0) 28 = 0) : ev (d + 1) mMo_test 7 [vR (43, 0), vI 0, vI 1, vU, vU] [] (hh A B) = bV (ev d mMo_answers 0 [vR (43, 0), vI 9] [] (hh A B)) (fun h1 => bV (ev d mMo_blanks 0 [vR (43, 0)] [] (hh (gI h1) (gJ h1))) (fun h2 => bI (ev d mMo_stood 0 [vR (43, 0), vR (99, 19), vU, vU, vU] [] (hh (gI h2) (gJ h2))) (fun r3 h3 => bI (ev d mMo_stood 0 [vR (43, 0), vR (99, 20), vU, vU, vU] [] (hh (gI h3) (gJ h3))) (fun r4 h4 => bV (ev d mMo_answers 0 [vR (43, 0), vI 10] [] (hh (gI h4) (gJ h4))) (fun h5 => tsK d r3 r4 (gI h5) (gJ h5)))))) := by
  rw [eMo_test_7, if_neg (show ¬ (1 : Int32) = 0 by decide), if_pos h28, if_pos rfl]
  rfl
theorem mT7_1 {A : IT} {B : JT} (d : Nat) (h28 : A (43, 0) 28 = 0) : ev (d + 1) mMo_test 7 [vR (43, 0), vI 1, vI 1, vU, vU] [] (hh A B) = bI (ev d mMo_fact 0 [vR (43, 0)] [] (hh A B)) (fun r10 h10 => if r10 = 0 then ev (d + 1) mMo_test 7 [vR (43, 0), vI 1, vI 1, vU, vU] [] (hh (gI h10) (gJ h10)) else ev (d + 1) mMo_test 7 [vR (43, 0), vI 0, vI 1, vU, vU] [] (hh (gI h10) (gJ h10))) := by
  rw [eMo_test_7, if_neg (show ¬ (1 : Int32) = 0 by decide), if_pos h28, if_neg (show ¬ (1 : Int32) = 0 by decide)]
theorem mT7_F {A : IT} {B : JT} (d : Nat) (x : Int32) (h28 : ¬ A (43, 0) 28 = 0) : ev (d + 1) mMo_test 7 [vR (43, 0), vI x, vI 1, vU, vU] [] (hh A B) = some (none, hh A B) := by
  rw [eMo_test_7, if_neg (show ¬ (1 : Int32) = 0 by decide), if_neg h28]
theorem mT7_E {A : IT} {B : JT} (d : Nat) (x : Int32) : ev (d + 1) mMo_test 7 [vR (43, 0), vI x, vI 0, vU, vU] [] (hh A B) = some (none, hh A B) := by
  rw [eMo_test_7, if_pos rfl]
def anF (by_ : Nat → Nat) (n s : Nat) : Int32 := if std by_ n s (nthD txL 19 []) = true then 1 else 0
def orF (by_ : Nat → Nat) (n s : Nat) : Int32 := if std by_ n s (nthD txL 20 []) = true then 1 else 0
theorem ts_head {I A : IT} {B : JT} {by_ : Nat → Nat} {n tk i p r sz ez pc m w v dl : Nat} (d : Nat) (h : RlS I A by_ n tk i p r sz ez pc) (hw : w ≤ 1) (hs : sz = ez + v + w) (c9 : ∀ j, ez ≤ j → j < ez + v → I (38, r) j = 13) (c14 : w = 1 → I (38, r) (ez + v) = 14) (hm : m + w + v ≤ 402) (h34 : A (43, 0) 34 = nJ (m + w + v)) (h32 : A (43, 0) 32 = nJ (dl + v)) (k9 : ∀ k, m + w ≤ k → k < m + w + v → A (75, 0) k = 9) (k10 : w = 1 → A (75, 0) m = 10) (ktop : ∀ k, m = k + 1 → ¬ A (75, 0) k = 9 ∧ ¬ A (75, 0) k = 10) : ∃ A', ev (d + 2) mMo_test 7 [vR (43, 0), vI 0, vI 1, vU, vU] [] (hh A B) = tsK (d + 1) (anF by_ n (tpk by_ n i)) (orF by_ n (tpk by_ n i)) A' B ∧ RlS I A' by_ n tk i (tpk by_ n i) r sz sz pc ∧ A' (43, 0) 34 = nJ m ∧ A' (43, 0) 32 = nJ dl ∧ (∀ k, A' (75, 0) k = A (75, 0) k) ∧ FrP r A A' := by
  have h28 : A (43, 0) 28 = 0 := h.1.2.2.2.2.2.2.1
  obtain ⟨A1, a1, a2, a3, a4, a5, a6⟩ := mAnsG (B := B) (m := m + w) (dl := dl) d 9 13 (by decide) (by unfold CdR; decide) v A ez h (by omega) c9 (by omega) h34 (by rw [if_pos rfl]; exact h32) (fun k hk => by
    by_cases e : w = 1
    · rw [show k = m by omega, k10 e]
      decide
    · exact (ktop k (by omega)).1) k9
  have hb := a2.bl
  have hbe := a2.blev (B := B) d
  have hM := hb.1.2.1
  have h27 := hb.1.2.2.2.2.2.1
  have hle := hb.1.2.2.2.2.2.2.2.1
  obtain ⟨A2, e1, e2, e3, e4, e5, e6⟩ := mAnsG (B := B) (m := m) (dl := dl) d 10 14 (by decide) (by unfold CdR; decide) w (spp A1 (tpk by_ n i)) (ez + v) hb (by omega) (fun j j1 j2 => by rw [show j = ez + v by omega]; exact c14 (by omega)) (by omega) ((up_neK _ _ (by decide)).trans a3) (by rw [if_neg (by decide)]; exact (up_neK _ _ (by decide)).trans a4) (fun k hk => by
    rw [show spp A1 (tpk by_ n i) (75, 0) k = A1 (75, 0) k from up_ne _ _ _ _ (by decide), a5]
    exact (ktop k hk).2) (fun k k1 k2 => by
    rw [show spp A1 (tpk by_ n i) (75, 0) k = A1 (75, 0) k from up_ne _ _ _ _ (by decide), a5, show k = m by omega]
    exact k10 (by omega))
  refine ⟨A2, ?_, by rw [← hs] at e2; exact e2, e3, e4, fun k => ?_, (a6.tr (FrN.q FrN.u27)).tr e6⟩
  · rw [mT7_0 (d + 1) h28, a1, bV_some, gI_hh, gJ_hh, hbe, bV_some, gI_hh, gJ_hh, mStood (d + 1) hM h27 hle (by decide) (by decide), bI_some, gI_hh, gJ_hh, mStood (d + 1) hM h27 hle (by decide) (by decide), bI_some, gI_hh, gJ_hh, e1, bV_some]
    rfl
  · rw [e5, show spp A1 (tpk by_ n i) (75, 0) k = A1 (75, 0) k from up_ne _ _ _ _ (by decide), a5]
theorem RlS.put1 {I A : IT} {by_ : Nat → Nat} {n tk i p r sz ez pc : Nat} {x : Int32} (h : RlS I A by_ n tk i p r sz ez pc) (hs : sz < 290) : RlS (putF I r sz x) A by_ n tk i p r (sz + 1) ez pc := by
  obtain ⟨⟨t1, t2, t3, t4, t5, t6, t7, t8, t9, t10⟩, hr, ⟨c1, c2, c3, c4, c5, c6⟩, ⟨b1, b2, b3⟩, hcd⟩ := h
  have o : ∀ k, putF I r sz x (1, 0) k = I (1, 0) k := fun k => putF_o (fun z => by have := (Prod.mk.inj z.1).1; omega) (fun z => by have := (Prod.mk.inj z).1; omega)
  refine ⟨⟨putF_fr.tks t1, t2, t3, (o 6).trans t4, (o 7).trans t5, t6, t7, t8, t9, t10⟩, hr, ⟨putF_1, (putF_o (fun z => absurd z.2 (by decide)) (fun z => by have := (Prod.mk.inj z).1; omega)).trans c2, c3, c4, c5, c6⟩, ⟨by omega, by omega, b3⟩, fun j hj => ?_⟩
  rw [putF_c, if_neg (by omega)]
  exact hcd j hj
/-- the waiting or, put and answered -/
theorem ts_or {I A : IT} {J B : JT} {by_ : Nat → Nat} {n tk i p r sz pc m o dl : Nat} (d d' : Nat) (h : RlS I A by_ n tk i p r sz sz pc) (ho : o ≤ 1) (hsz : sz < 290) (hm : m + o ≤ 402) (h34 : A (43, 0) 34 = nJ (m + o)) (h32 : A (43, 0) 32 = nJ dl) (k11 : o = 1 → A (75, 0) m = 11) (ktop : ∀ k, m = k + 1 → A (75, 0) k = 12) : ∃ I1 A1, ((o = 0 ∧ I1 = I) ∨ (o = 1 ∧ ev d mRu_put 0 [vR (37, r), vI 15] [] (hh I J) = some (none, hh I1 J))) ∧ ev (d' + 1) mMo_answers 0 [vR (43, 0), vI 11] [] (hh A B) = some (none, hh A1 B) ∧ RlS I1 A1 by_ n tk i p r (sz + o) (sz + o) pc ∧ A1 (43, 0) 34 = nJ m ∧ A1 (43, 0) 32 = nJ dl ∧ (∀ k, A1 (75, 0) k = A (75, 0) k) ∧ FrL r I I1 ∧ FrP r A A1 ∧ (∀ j, j < sz → I1 (38, r) j = I (38, r) j) ∧ (o = 1 → I1 (38, r) sz = 15) := by
  have ht : ∀ k, m = k + 1 → ¬ A (75, 0) k = 11 := fun k hk => by rw [ktop k hk]; decide
  by_cases e : o = 1
  · subst e
    have hP := h.put1 (x := 15) hsz
    obtain ⟨A1, a1, a2, a3, a4, a5, a6⟩ := mAnsG (B := B) (m := m) (dl := dl) d' 11 15 (by decide) (by unfold CdR; decide) 1 A sz hP (by omega) (fun j j1 j2 => by rw [putF_c, if_pos (by omega)]) hm h34 (by rw [if_neg (by decide)]; exact h32) ht (fun k k1 k2 => by rw [show k = m by omega]; exact k11 rfl)
    exact ⟨putF I r sz 15, A1, Or.inr ⟨rfl, cPut d 15 h.2.2.1.1 (by omega)⟩, a1, a2, a3, a4, a5, putF_fr, a6, fun j hj => by rw [putF_c, if_neg (by omega)], fun _ => by rw [putF_c, if_pos rfl]⟩
  · have e0 : o = 0 := by omega
    subst e0
    exact ⟨I, A, Or.inl ⟨rfl, rfl⟩, mAnsNo d' 11 (by decide) h34 (by omega) ht, h, h34, h32, fun _ => rfl, FrL.rf r I, FrP.rf r A, fun _ _ => rfl, fun z => absurd z (by decide)⟩
/-- codes of a test so far -/
def sgO (cd : Nat → Int32) (o a mm b hf : Nat) : Prop := (o = 0 ∧ SgR cd a b (hf + 1) ZO) ∨ (o = 1 ∧ SgR cd a mm (hf + 2) ZO ∧ SgR cd mm b (hf + 1) ZO)
theorem sgO.ext {cd cd' : Nat → Int32} {o a mm b hf : Nat} (h : sgO cd o a mm b hf) (he : ∀ j, j < b → cd j = cd' j) : sgO cd' o a mm b hf := by
  rcases h with ⟨q, h⟩ | ⟨q, h1, h2⟩
  · exact Or.inl ⟨q, h.ext (fun j _ hj => he j hj)⟩
  · have := h2.1
    exact Or.inr ⟨q, h1.ext (fun j _ hj => he j (by omega)), h2.ext (fun j _ hj => he j hj)⟩
theorem sgO.fin {cd : Nat → Int32} {o a mm b hf : Nat} (h : sgO cd o a mm b hf) (hx : o = 1 → cd b = 15) : SgR cd a (b + o) (hf + 2) ZO := by
  rcases h with ⟨rfl, h⟩ | ⟨rfl, h1, h2⟩
  · exact h.mono (by omega) (fun _ z => z)
  · exact sg_bin h1 h2 (hx rfl) (by decide) (fun u v hu hv => jn_log (Or.inr rfl) hu hv) (by omega) (by omega)
theorem sgO.and {cd : Nat → Int32} {o a mm b c hf : Nat} (h : sgO cd o a mm b hf) (h2 : SgR cd b c hf ZO) (hx : cd c = 14) : sgO cd o a mm (c + 1) hf := by
  rcases h with ⟨q, h⟩ | ⟨q, h1, h3⟩
  · exact Or.inl ⟨q, sg_bin h h2 hx (by decide) (fun u v hu hv => jn_log (Or.inl rfl) hu hv) (by omega) (by omega)⟩
  · exact Or.inr ⟨q, h1, sg_bin h3 h2 hx (by decide) (fun u v hu hv => jn_log (Or.inl rfl) hu hv) (by omega) (by omega)⟩
