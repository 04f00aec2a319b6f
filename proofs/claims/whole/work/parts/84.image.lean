/-! IMAGES of the reference, whole: IMAGE, BACK -/
theorem cre79 (d : Nat) : CRe 79 1 d := fun x I J => eMo_carryRow_79_2 d x I J
theorem cre45 (d : Nat) : CRe 45 8 d := fun x I J => eMo_carryRow_45_2 d x I J
theorem cre46 (d : Nat) : CRe 46 64 d := fun x I J => eMo_carryRow_46_2 d x I J
theorem cre47 (d : Nat) : CRe 47 64 d := fun x I J => eMo_carryRow_47_2 d x I J
theorem cre48 (d : Nat) : CRe 48 6 d := fun x I J => eMo_carryRow_48_2 d x I J
theorem cre49 (d : Nat) : CRe 49 6 d := fun x I J => eMo_carryRow_49_2 d x I J
theorem cre50 (d : Nat) : CRe 50 6 d := fun x I J => eMo_carryRow_50_2 d x I J
theorem cre57 (d : Nat) : CRe 57 10 d := fun x I J => eMo_carryRow_57_2 d x I J
theorem cre58 (d : Nat) : CRe 58 10 d := fun x I J => eMo_carryRow_58_2 d x I J
theorem cre59 (d : Nat) : CRe 59 10 d := fun x I J => eMo_carryRow_59_2 d x I J
theorem cre60 (d : Nat) : CRe 60 3 d := fun x I J => eMo_carryRow_60_2 d x I J
theorem cre78 (d : Nat) : CRe 78 580 d := fun x I J => eMo_carryRow_78_2 d x I J
def aRows : List (Nat × Nat × Nat) := [(78, 225, 580), (60, 222, 3), (59, 212, 10), (58, 202, 10), (57, 192, 10), (50, 186, 6), (49, 180, 6), (48, 174, 6), (47, 110, 64), (46, 46, 64), (45, 38, 8), (79, 37, 1), (56, 34, 3), (55, 31, 3), (54, 28, 3), (53, 25, 3), (52, 19, 6), (51, 13, 6), (44, 0, 13)]
theorem Out.ring {A Ac : IT} {q0 q : Nat} {l : List (Nat × Nat × Nat)} (x : Int32) (hl : ∀ r ∈ l, r.1 ≠ 79) (h : Out A Ac q0 q l) : Out (up2 A (79, 0) 0 x) (up2 Ac (79, 0) 0 x) q0 q l := by
  obtain ⟨h1, h2, h3, h4⟩ := h
  refine ⟨(up_ne _ _ _ _ (by decide)).trans h1, (up_ne _ _ _ _ (by decide)).trans h2, fun r hr => ⟨(h3 r hr).1, fun i hi => ?_⟩, fun a i a1 a2 => ?_⟩
  · rw [up_ne _ _ _ _ (by decide), up_ne _ _ _ _ (fun z => hl r hr (Prod.mk.inj z).1)]
    exact (h3 r hr).2 i hi
  · rw [up_at, up_at, h4 a i a1 a2]
theorem Bck.ring {A Ac : IT} {q0 q : Nat} {l : List (Nat × Nat × Nat)} (x : Int32) (hl : ∀ r ∈ l, r.1 ≠ 79) (h : Bck A Ac q0 q l) : Bck (up2 A (79, 0) 0 x) (up2 Ac (79, 0) 0 x) q0 q l := by
  obtain ⟨h1, h2, h3, h4⟩ := h
  refine ⟨(up_ne _ _ _ _ (by decide)).trans h1, (up_ne _ _ _ _ (by decide)).trans h2, fun r hr i hi => ?_, fun a i a1 a2 => ?_⟩
  · rw [up_ne _ _ _ _ (fun z => hl r hr (Prod.mk.inj z).1), up_ne _ _ _ _ (by decide)]
    exact h3 r hr i hi
  · rw [up_at, up_at, h4 a i a1 a2]
theorem Bck.past {A Ac : IT} {q0 q : Nat} {l : List (Nat × Nat × Nat)} (x : Int32) (hl : ∀ r ∈ l, r.1 ≠ 43) (h : Bck A Ac q0 q l) : Bck (up2 A (43, 0) 48 x) (up2 Ac (43, 0) 48 x) q0 q l := by
  obtain ⟨h1, h2, h3, h4⟩ := h
  refine ⟨(up_neK _ _ (by decide)).trans h1, (up_neK _ _ (by decide)).trans h2, fun r hr i hi => ?_, fun a i a1 a2 => ?_⟩
  · rw [up_ne _ _ _ _ (fun z => hl r hr (Prod.mk.inj z).1), up_ne _ _ _ _ (by decide)]
    exact h3 r hr i hi
  · rw [up_at, up_at, h4 a i a1 a2]
theorem mOutA (d j : Nat) (hj : j < 4) (A : IT) (B : JT) : Tr (ev (d + 1) mMo_carriesAll 0 [vR (43, 0), vI (nJ j), vI 0] [] (hh A B)) (fun v A' B' => v = none ∧ Out (up2 A (79, 0) 0 (A (43, 0) 48)) A' (850 * j) 805 aRows ∧ B' = B) := by
  rw [eMo_carriesAll_0, if_pos (Or.inl rfl), show (850 : Int32) * nJ j = nJ (850 * j) from nJ_mul 850 j]
  have h0 : Out A (up2 (up2 A (43, 0) 61 (nJ (850 * j))) (43, 0) 62 0) (850 * j) 0 [] := ⟨up_neK _ _ (by decide) |>.trans (up_same _ _ _ _), up_same _ _ _ _, fun r hr => (by cases hr), fun a i a1 a2 => by rw [up_at, if_neg (fun z => a2 ⟨z.1, Or.inr z.2⟩), up_at, if_neg (fun z => a2 ⟨z.1, Or.inl z.2⟩)]⟩
  refine Tr.bV ((Out.step (cre44 d) (fun I J => eMo_carryRow_44_0 d I J) (by decide) (by decide) (by decide) (by omega) h0).mono fun v A1 B1 ⟨q1, h1, e1⟩ => ⟨q1, ?_⟩)
  refine Tr.bV ((Out.step (cre51 d) (fun I J => eMo_carryRow_51_0 d I J) (by decide) (by decide) (by decide) (by omega) h1).mono fun v A2 B2 ⟨q1, h2, e2⟩ => ⟨q1, ?_⟩)
  refine Tr.bV ((Out.step (cre52 d) (fun I J => eMo_carryRow_52_0 d I J) (by decide) (by decide) (by decide) (by omega) h2).mono fun v A3 B3 ⟨q1, h3, e3⟩ => ⟨q1, ?_⟩)
  refine Tr.bV ((Out.step (cre53 d) (fun I J => eMo_carryRow_53_0 d I J) (by decide) (by decide) (by decide) (by omega) h3).mono fun v A4 B4 ⟨q1, h4, e4⟩ => ⟨q1, ?_⟩)
  refine Tr.bV ((Out.step (cre54 d) (fun I J => eMo_carryRow_54_0 d I J) (by decide) (by decide) (by decide) (by omega) h4).mono fun v A5 B5 ⟨q1, h5, e5⟩ => ⟨q1, ?_⟩)
  refine Tr.bV ((Out.step (cre55 d) (fun I J => eMo_carryRow_55_0 d I J) (by decide) (by decide) (by decide) (by omega) h5).mono fun v A6 B6 ⟨q1, h6, e6⟩ => ⟨q1, ?_⟩)
  refine Tr.bV ((Out.step (cre56 d) (fun I J => eMo_carryRow_56_0 d I J) (by decide) (by decide) (by decide) (by omega) h6).mono fun v A7 B7 ⟨q1, h7, e7⟩ => ⟨q1, ?_⟩)
  have h7' := h7
  rw [if_neg (ne_nL (b := 4) (by omega) (by omega) (by decide)), gI_hh, gJ_hh]
  have h7 := h7.ring (A (43, 0) 48) (by decide)
  have e48 : A7 (43, 0) 48 = A (43, 0) 48 := h7'.2.2.2 (43, 0) 48 (fun z => by cases z.1) (fun z => by omega)
  rw [e48]
  refine Tr.bV ((Out.step (cre79 d) (fun I J => eMo_carryRow_79_0 d I J) (by decide) (by decide) (by decide) (by omega) h7).mono fun v A8 B8 ⟨q1, h8, e8⟩ => ⟨q1, ?_⟩)
  have e79 : A8 (79, 0) 0 = A (43, 0) 48 := (h8.2.2.2 (79, 0) 0 (fun z => by cases z.1) (fun z => by cases z.1)).trans (up_same _ _ _ _)
  have e48 : A8 (43, 0) 48 = A (43, 0) 48 := (h8.2.2.2 (43, 0) 48 (fun z => by cases z.1) (fun z => by omega)).trans (up_ne _ _ _ _ (by decide))
  rw [gI_hh, gJ_hh, up_id (e79.trans e48.symm)]
  refine Tr.bV ((Out.step (cre45 d) (fun I J => eMo_carryRow_45_0 d I J) (by decide) (by decide) (by decide) (by omega) h8).mono fun v A9 B9 ⟨q1, h9, e9⟩ => ⟨q1, ?_⟩)
  refine Tr.bV ((Out.step (cre46 d) (fun I J => eMo_carryRow_46_0 d I J) (by decide) (by decide) (by decide) (by omega) h9).mono fun v A10 B10 ⟨q1, h10, e10⟩ => ⟨q1, ?_⟩)
  refine Tr.bV ((Out.step (cre47 d) (fun I J => eMo_carryRow_47_0 d I J) (by decide) (by decide) (by decide) (by omega) h10).mono fun v A11 B11 ⟨q1, h11, e11⟩ => ⟨q1, ?_⟩)
  refine Tr.bV ((Out.step (cre48 d) (fun I J => eMo_carryRow_48_0 d I J) (by decide) (by decide) (by decide) (by omega) h11).mono fun v A12 B12 ⟨q1, h12, e12⟩ => ⟨q1, ?_⟩)
  refine Tr.bV ((Out.step (cre49 d) (fun I J => eMo_carryRow_49_0 d I J) (by decide) (by decide) (by decide) (by omega) h12).mono fun v A13 B13 ⟨q1, h13, e13⟩ => ⟨q1, ?_⟩)
  refine Tr.bV ((Out.step (cre50 d) (fun I J => eMo_carryRow_50_0 d I J) (by decide) (by decide) (by decide) (by omega) h13).mono fun v A14 B14 ⟨q1, h14, e14⟩ => ⟨q1, ?_⟩)
  refine Tr.bV ((Out.step (cre57 d) (fun I J => eMo_carryRow_57_0 d I J) (by decide) (by decide) (by decide) (by omega) h14).mono fun v A15 B15 ⟨q1, h15, e15⟩ => ⟨q1, ?_⟩)
  refine Tr.bV ((Out.step (cre58 d) (fun I J => eMo_carryRow_58_0 d I J) (by decide) (by decide) (by decide) (by omega) h15).mono fun v A16 B16 ⟨q1, h16, e16⟩ => ⟨q1, ?_⟩)
  refine Tr.bV ((Out.step (cre59 d) (fun I J => eMo_carryRow_59_0 d I J) (by decide) (by decide) (by decide) (by omega) h16).mono fun v A17 B17 ⟨q1, h17, e17⟩ => ⟨q1, ?_⟩)
  refine Tr.bV ((Out.step (cre60 d) (fun I J => eMo_carryRow_60_0 d I J) (by decide) (by decide) (by decide) (by omega) h17).mono fun v A18 B18 ⟨q1, h18, e18⟩ => ⟨q1, ?_⟩)
  refine Tr.bV ((Out.step (cre78 d) (fun I J => eMo_carryRow_78_0 d I J) (by decide) (by decide) (by decide) (by omega) h18).mono fun v A19 B19 ⟨q1, h19, e19⟩ => ⟨q1, ?_⟩)
  refine Tr.ret ⟨rfl, h19, ?_⟩
  show B19 = B
  rw [e19, e18, e17, e16, e15, e14, e13, e12, e11, e10, e9, e8, e7, e6, e5, e4, e3, e2, e1]
theorem mBackA (d j : Nat) (hj : j < 4) (A : IT) (B : JT) : Tr (ev (d + 1) mMo_carriesAll 0 [vR (43, 0), vI (nJ j), vI 1] [] (hh A B)) (fun v A' B' => v = none ∧ Bck (up2 (up2 A (79, 0) 0 (A (43, 0) 48)) (43, 0) 48 (A (87, 0) (850 * j + 37))) A' (850 * j) 805 aRows ∧ B' = B) := by
  rw [eMo_carriesAll_0, if_pos (Or.inr rfl), show (850 : Int32) * nJ j = nJ (850 * j) from nJ_mul 850 j]
  have h0 : Bck A (up2 (up2 A (43, 0) 61 (nJ (850 * j))) (43, 0) 62 1) (850 * j) 0 [] := ⟨up_neK _ _ (by decide) |>.trans (up_same _ _ _ _), up_same _ _ _ _, fun r hr => (by cases hr), fun a i a1 a2 => by rw [up_at, if_neg (fun z => a2 ⟨z.1, Or.inr z.2⟩), up_at, if_neg (fun z => a2 ⟨z.1, Or.inl z.2⟩)]⟩
  refine Tr.bV ((Bck.step (cre44 d) (fun I J => eMo_carryRow_44_0 d I J) (by decide) (by decide) (by decide) (by omega) (by decide) h0).mono fun v A1 B1 ⟨q1, h1, e1⟩ => ⟨q1, ?_⟩)
  refine Tr.bV ((Bck.step (cre51 d) (fun I J => eMo_carryRow_51_0 d I J) (by decide) (by decide) (by decide) (by omega) (by decide) h1).mono fun v A2 B2 ⟨q1, h2, e2⟩ => ⟨q1, ?_⟩)
  refine Tr.bV ((Bck.step (cre52 d) (fun I J => eMo_carryRow_52_0 d I J) (by decide) (by decide) (by decide) (by omega) (by decide) h2).mono fun v A3 B3 ⟨q1, h3, e3⟩ => ⟨q1, ?_⟩)
  refine Tr.bV ((Bck.step (cre53 d) (fun I J => eMo_carryRow_53_0 d I J) (by decide) (by decide) (by decide) (by omega) (by decide) h3).mono fun v A4 B4 ⟨q1, h4, e4⟩ => ⟨q1, ?_⟩)
  refine Tr.bV ((Bck.step (cre54 d) (fun I J => eMo_carryRow_54_0 d I J) (by decide) (by decide) (by decide) (by omega) (by decide) h4).mono fun v A5 B5 ⟨q1, h5, e5⟩ => ⟨q1, ?_⟩)
  refine Tr.bV ((Bck.step (cre55 d) (fun I J => eMo_carryRow_55_0 d I J) (by decide) (by decide) (by decide) (by omega) (by decide) h5).mono fun v A6 B6 ⟨q1, h6, e6⟩ => ⟨q1, ?_⟩)
  refine Tr.bV ((Bck.step (cre56 d) (fun I J => eMo_carryRow_56_0 d I J) (by decide) (by decide) (by decide) (by omega) (by decide) h6).mono fun v A7 B7 ⟨q1, h7, e7⟩ => ⟨q1, ?_⟩)
  have h7' := h7
  rw [if_neg (ne_nL (b := 4) (by omega) (by omega) (by decide)), gI_hh, gJ_hh]
  have e48 : A7 (43, 0) 48 = A (43, 0) 48 := h7'.2.2.2 (43, 0) 48 (by decide) (fun z => by omega)
  have h7 := h7.ring (A (43, 0) 48) (by decide)
  rw [e48]
  refine Tr.bV ((Bck.step (cre79 d) (fun I J => eMo_carryRow_79_0 d I J) (by decide) (by decide) (by decide) (by omega) (by decide) h7).mono fun v A8 B8 ⟨q1, h8, e8⟩ => ⟨q1, ?_⟩)
  have e79 : A8 (79, 0) 0 = A (87, 0) (850 * j + 37) := (h8.2.2.1 (79, 37, 1) (by decide) 0 (by decide)).trans (up_ne _ _ _ _ (by decide))
  rw [gI_hh, gJ_hh, e79]
  have h8 := h8.past (A (87, 0) (850 * j + 37)) (by decide)
  refine Tr.bV ((Bck.step (cre45 d) (fun I J => eMo_carryRow_45_0 d I J) (by decide) (by decide) (by decide) (by omega) (by decide) h8).mono fun v A9 B9 ⟨q1, h9, e9⟩ => ⟨q1, ?_⟩)
  refine Tr.bV ((Bck.step (cre46 d) (fun I J => eMo_carryRow_46_0 d I J) (by decide) (by decide) (by decide) (by omega) (by decide) h9).mono fun v A10 B10 ⟨q1, h10, e10⟩ => ⟨q1, ?_⟩)
  refine Tr.bV ((Bck.step (cre47 d) (fun I J => eMo_carryRow_47_0 d I J) (by decide) (by decide) (by decide) (by omega) (by decide) h10).mono fun v A11 B11 ⟨q1, h11, e11⟩ => ⟨q1, ?_⟩)
  refine Tr.bV ((Bck.step (cre48 d) (fun I J => eMo_carryRow_48_0 d I J) (by decide) (by decide) (by decide) (by omega) (by decide) h11).mono fun v A12 B12 ⟨q1, h12, e12⟩ => ⟨q1, ?_⟩)
  refine Tr.bV ((Bck.step (cre49 d) (fun I J => eMo_carryRow_49_0 d I J) (by decide) (by decide) (by decide) (by omega) (by decide) h12).mono fun v A13 B13 ⟨q1, h13, e13⟩ => ⟨q1, ?_⟩)
  refine Tr.bV ((Bck.step (cre50 d) (fun I J => eMo_carryRow_50_0 d I J) (by decide) (by decide) (by decide) (by omega) (by decide) h13).mono fun v A14 B14 ⟨q1, h14, e14⟩ => ⟨q1, ?_⟩)
  refine Tr.bV ((Bck.step (cre57 d) (fun I J => eMo_carryRow_57_0 d I J) (by decide) (by decide) (by decide) (by omega) (by decide) h14).mono fun v A15 B15 ⟨q1, h15, e15⟩ => ⟨q1, ?_⟩)
  refine Tr.bV ((Bck.step (cre58 d) (fun I J => eMo_carryRow_58_0 d I J) (by decide) (by decide) (by decide) (by omega) (by decide) h15).mono fun v A16 B16 ⟨q1, h16, e16⟩ => ⟨q1, ?_⟩)
  refine Tr.bV ((Bck.step (cre59 d) (fun I J => eMo_carryRow_59_0 d I J) (by decide) (by decide) (by decide) (by omega) (by decide) h16).mono fun v A17 B17 ⟨q1, h17, e17⟩ => ⟨q1, ?_⟩)
  refine Tr.bV ((Bck.step (cre60 d) (fun I J => eMo_carryRow_60_0 d I J) (by decide) (by decide) (by decide) (by omega) (by decide) h17).mono fun v A18 B18 ⟨q1, h18, e18⟩ => ⟨q1, ?_⟩)
  refine Tr.bV ((Bck.step (cre78 d) (fun I J => eMo_carryRow_78_0 d I J) (by decide) (by decide) (by decide) (by omega) (by decide) h18).mono fun v A19 B19 ⟨q1, h19, e19⟩ => ⟨q1, ?_⟩)
  refine Tr.ret ⟨rfl, h19, ?_⟩
  show B19 = B
  rw [e19, e18, e17, e16, e15, e14, e13, e12, e11, e10, e9, e8, e7, e6, e5, e4, e3, e2, e1]
