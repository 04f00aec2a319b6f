/-! ALL CLAUSES of roads -/
/-- what the class does at the end -/
noncomputable def rdX (d : Nat) (I : IT) (J : JT) : Option Rs := if I (1, 0) 7 = 0 then bV (ev d mRo_measure 0 [vR (8, 5), vU, vU, vU, vU] [] (hh (up2 I (8, 5) 0 1) J)) (fun h3 => if ((gI h3) (8, 5) 0) = 0 ∨ ((gI h3) (8, 5) 0) = 1 then some (some (vI ((gI h3) (8, 5) 0)), hh (gI h3) (gJ h3)) else none) else bV (ev d mRo_measure 0 [vR (8, 5), vU, vU, vU, vU] [] (hh (up2 I (8, 5) 0 0) J)) (fun h4 => if ((gI h4) (8, 5) 0) = 0 ∨ ((gI h4) (8, 5) 0) = 1 then some (some (vI ((gI h4) (8, 5) 0)), hh (gI h4) (gJ h4)) else none)
theorem rd_loop {J B : JT} {by_ : Nat → Nat} {n tk : Nat} (d d' : Nat) : ∀ j c, c + j = 40 → ∀ (I A : IT) (i p T : Nat) (dy : Nat → Nat → Nat), RdS I A by_ n tk i 0 p dy T → ∃ I' A' f' dy' T', ev (d + 5) mRo_read 9 [vR (8, 5), vR (1, 0), vI 1, vI (nJ c)] [] (hh I J) = rdX (d + 4) I' J ∧ ev (d' + 8) mMo_readsAll 30 [vR (43, 0), vI (nJ c), vI 1] [] (hh A B) = some (none, hh (up2 A' (43, 0) 26 0) B) ∧ FrRC I I' ∧ FrRM A A' ∧ I' (1, 0) 7 = nJ f' ∧ A' (43, 0) 28 = nJ f' ∧ f' < 100000 ∧ DrC I' dy' T' ∧ (f' = 0 → ∃ z S N W, DrR I' A' dy' z T' S N W) := by
  intro j
  induction j with
  | zero =>
    intro c hc I A i p T dy h
    obtain ⟨I1, A1, i1, f1, p1, dy1, T1, o1, o2, q1, q2, ⟨hx1, hc1, hr1⟩, q4⟩ := rd_clause (J := J) (B := B) (c := c) d d' (by omega) h
    obtain ⟨I2, A2, f2, r, m1, m2, x2, y2, e7, m28, hf2, hr, hk⟩ := tk_more (J := J) (B := B) (d + 2) (d' + 5) hx1
    have hf1 := q4 (by omega)
    have hf12 := hk hf1
    have hr0 : r = 0 := by
      rcases hr with hr | ⟨-, i', p', hx⟩
      · exact hr
      · have := hx.2.2.2.2.1
        rw [e7, nJ_eq (by omega) (by decide)] at this
        omega
    refine ⟨I2, A2, f2, dy1, T1, ?_, ?_, q1.tr (FrRC.of x2), q2.tr (FrRM.of y2), e7, m28, hf2, hc1.ext (by rw [x2.s (by decide)]) (by rw [x2.s (by decide)]), fun q => by omega⟩
    · rw [eRo_read_9, if_neg (nlt_Ln (a := 40) (by omega) (by omega)), if_neg (show ¬ (1 : Int32) = 0 by decide), o1, bV_some, gI_hh, gJ_hh, m1, bI_some, gI_hh, gJ_hh, nJ_succ, hr0, eRo_read_9, if_pos (lt_Ln (a := 40) (by omega) (by omega))]
      rfl
    · rw [eMo_readsAll_30, if_neg (show ¬ (1 : Int32) = 0 by decide), o2, bV_some, gI_hh, gJ_hh, m2, bI_some, gI_hh, gJ_hh, hr0, eMo_readsAll_30, if_pos rfl]
  | succ j ih =>
    intro c hc I A i p T dy h
    obtain ⟨I1, A1, i1, f1, p1, dy1, T1, o1, o2, q1, q2, ⟨hx1, hc1, hr1⟩, q4⟩ := rd_clause (J := J) (B := B) (c := c) d d' (by omega) h
    obtain ⟨I2, A2, f2, r, m1, m2, x2, y2, e7, m28, hf2, hr, hk⟩ := tk_more (J := J) (B := B) (d + 2) (d' + 5) hx1
    have hc2 : DrC I2 dy1 T1 := hc1.ext (by rw [x2.s (by decide)]) (by rw [x2.s (by decide)])
    have hD2 : f2 = 0 → ∃ z S N W, DrR I2 A2 dy1 z T1 S N W := fun q => by
      have hf1 : f1 = 0 := by
        by_cases e : f1 = 0
        · exact e
        · have := hk e
          omega
      obtain ⟨z, S, N, W, hD⟩ := hr1 hf1
      exact ⟨z, S, N, W, hD.fr x2 y2⟩
    have c1 : ev (d + 5) mRo_read 9 [vR (8, 5), vR (1, 0), vI 1, vI (nJ c)] [] (hh I J) = ev (d + 5) mRo_read 9 [vR (8, 5), vR (1, 0), vI r, vI (nJ (c + 1))] [] (hh I2 J) := by
      rw [eRo_read_9, if_neg (nlt_Ln (a := 40) (by omega) (by omega)), if_neg (show ¬ (1 : Int32) = 0 by decide), o1, bV_some, gI_hh, gJ_hh, m1, bI_some, gI_hh, gJ_hh, nJ_succ]
    have c2 : ev (d' + 8) mMo_readsAll 30 [vR (43, 0), vI (nJ c), vI 1] [] (hh A B) = ev (d' + 8) mMo_readsAll 30 [vR (43, 0), vI (nJ (c + 1)), vI r] [] (hh A2 B) := by
      rw [eMo_readsAll_30, if_neg (show ¬ (1 : Int32) = 0 by decide), o2, bV_some, gI_hh, gJ_hh, m2, bI_some, gI_hh, gJ_hh, nJ_succ]
    rcases hr with hr | ⟨hr, i', p', hx⟩
    · refine ⟨I2, A2, f2, dy1, T1, ?_, ?_, q1.tr (FrRC.of x2), q2.tr (FrRM.of y2), e7, m28, hf2, hc2, hD2⟩
      · rw [c1, hr, eRo_read_9, if_neg (nlt_Ln (a := 40) (by omega) (by omega)), if_pos rfl]
        rfl
      · rw [c2, hr, eMo_readsAll_30, if_pos rfl]
    · have hf20 : f2 = 0 := by
        have := hx.2.2.2.2.1
        rw [e7, nJ_eq (by omega) (by decide)] at this
        exact this
      obtain ⟨I3, A3, f3, dy3, T3, g1, g2, g3, g4, g5⟩ := ih (c + 1) (by omega) I2 A2 i' p' T1 dy1 ⟨hx, hc2, fun _ => hD2 hf20⟩
      refine ⟨I3, A3, f3, dy3, T3, ?_, ?_, (q1.tr (FrRC.of x2)).tr g3, (q2.tr (FrRM.of y2)).tr g4, g5⟩
      · rw [c1, hr]
        exact g1
      · rw [c2, hr]
        exact g2
def FrRR (I I' : IT) : Prop := ∀ a k, ¬ (a.2 = 5 ∧ 8 ≤ a.1 ∧ a.1 ≤ 16) → a ≠ (3, 0) → a ≠ (4, 0) → a ≠ (5, 0) → ¬ (a = (1, 0) ∧ (k = 5 ∨ k = 6 ∨ k = 7)) → I' a k = I a k
def FrRS (A A' : IT) : Prop := ∀ a k, ¬ (61 ≤ a.1 ∧ a.1 ≤ 67) → ¬ (a = (43, 0) ∧ (k = 26 ∨ k = 27 ∨ k = 28 ∨ k = 31 ∨ k = 32 ∨ k = 33)) → A' a k = A a k
/-- the roads read, on both sides -/
theorem rd_all {I A : IT} {J B : JT} {by_ : Nat → Nat} {n : Nat} (d d' : Nat) (hb : BtC I by_ n) (hm : BtM A by_ n) : ∃ I' A' f dy T, ev (d + 5) mRo_read 0 [vR (8, 5), vR (1, 0), vU, vU] [] (hh I J) = some (some (vI (if f = 0 then 1 else 0)), hh I' J) ∧ ev (d' + 8) mMo_readsAll 0 [vR (43, 0), vU, vU] [] (hh A B) = some (none, hh A' B) ∧ FrRR I I' ∧ FrRS A A' ∧ A' (43, 0) 26 = 0 ∧ I' (1, 0) 7 = nJ f ∧ A' (43, 0) 28 = nJ f ∧ f < 100000 ∧ (f = 0 → I' (8, 5) 0 = 1 ∧ (∃ z S N W, DrR I' A' dy z T S N W) ∧ ∀ a b, a < T → b < T → I' (11, 5) (8 * a + b) = nJ (FL dy T a b)) := by
  -- the class begins
  have hclr : ∃ I1, FrRC I I1 ∧ (I1 (8, 5) 1 = 0 ∧ I1 (8, 5) 2 = 0 ∧ I1 (8, 5) 3 = 0 ∧ I1 (8, 5) 4 = 0) ∧ (∀ k, k < 8 → I1 (9, 5) k = 0) ∧ (∀ k, k < 64 → I1 (10, 5) k = 0) ∧ (∀ k, k < 8 → I1 (12, 5) k = 0) ∧ ev (d + 4) mRo_clear 0 [vR (8, 5)] [] (hh I J) = some (none, hh I1 J) := by
    rw [eRo_clear_0]
    obtain ⟨v1, I1, J1, o1, rfl, a2, a3, rfl⟩ := fill_of (L := 8) (I := up2 (up2 (up2 (up2 I (8, 5) 1 0) (8, 5) 2 0) (8, 5) 3 0) (8, 5) 4 0) (J := J) (fun I J => eAr_fill_9_0 (d + 3) 5 0 I J) (fun x2 x3 I J => eAr_fill_9_5 (d + 3) 5 0 x2 x3 I J) (by decide)
    obtain ⟨v2, I2, J2, o2, rfl, b2, b3, rfl⟩ := fill_of (L := 64) (I := I1) (J := J1) (fun I J => eAr_fill_10_0 (d + 3) 5 0 I J) (fun x2 x3 I J => eAr_fill_10_5 (d + 3) 5 0 x2 x3 I J) (by decide)
    obtain ⟨v3, I3, J3, o3, rfl, c2, c3, rfl⟩ := fill_of (L := 8) (I := I2) (J := J2) (fun I J => eAr_fill_12_0 (d + 3) 5 0 I J) (fun x2 x3 I J => eAr_fill_12_5 (d + 3) 5 0 x2 x3 I J) (by decide)
    have g8 : ∀ k, I3 (8, 5) k = up2 (up2 (up2 (up2 I (8, 5) 1 0) (8, 5) 2 0) (8, 5) 3 0) (8, 5) 4 0 (8, 5) k := fun k => by
      rw [c3 _ _ (fun z => by cases z.1), b3 _ _ (fun z => by cases z.1), a3 _ _ (fun z => by cases z.1)]
    refine ⟨I3, ?_, ⟨by rw [g8]; rfl, by rw [g8]; rfl, by rw [g8]; rfl, by rw [g8]; rfl⟩, fun k hk => ?_, fun k hk => ?_, c2, ?_⟩
    · intro a k h1 h2
      rw [c3 a k (fun z => h1 (by rw [z.1]; decide)), b3 a k (fun z => h1 (by rw [z.1]; decide)), a3 a k (fun z => h1 (by rw [z.1]; decide)), up_ne _ _ _ _ (fun z => h1 (by rw [z]; decide)), up_ne _ _ _ _ (fun z => h1 (by rw [z]; decide)), up_ne _ _ _ _ (fun z => h1 (by rw [z]; decide)), up_ne _ _ _ _ (fun z => h1 (by rw [z]; decide))]
    · rw [c3 _ _ (fun z => by cases z.1), b3 _ _ (fun z => by cases z.1)]
      exact a2 k hk
    · rw [c3 _ _ (fun z => by cases z.1)]
      exact b2 k hk
    · rw [o1, bV_some, gI_hh, gJ_hh, o2, bV_some, gI_hh, gJ_hh, o3, bV_some]
  obtain ⟨I1, f1, z1, z9, z10, z12, o1⟩ := hclr
  have hb1 : BtC I1 by_ n := ⟨hb.1, by rw [f1 (1, 0) 1 (by decide) (by decide)]; exact hb.2.1, fun k hk => by rw [f1 (2, 0) k (by decide) (fun z => by cases z.1)]; exact hb.2.2 k hk⟩
  obtain ⟨I2, tk, f2, e6, e7, hT, o2⟩ := cCut (I := I1) (J := J) (k1 := 0) (d + 1) (by decide) hb1
  have r2 : ∀ s, 8 ≤ s → I2 (s, 5) = I1 (s, 5) := fun s hs => funext fun k => f2 (s, 5) k (fun z => by cases z) (fun z => by cases z) (fun z => by cases z) (fun z => by have := (Prod.mk.inj z.1).1; omega)
  -- the reference begins
  let A0 : IT := up2 (up2 (up2 (up2 (up2 A (43, 0) 27 0) (43, 0) 28 0) (43, 0) 31 0) (43, 0) 32 0) (43, 0) 33 0
  have hA0 : ∀ a k, ¬ (a = (43, 0) ∧ (k = 27 ∨ k = 28 ∨ k = 31 ∨ k = 32 ∨ k = 33)) → A0 a k = A a k := fun a k h => by
    show up2 (up2 (up2 (up2 (up2 A (43, 0) 27 0) (43, 0) 28 0) (43, 0) 31 0) (43, 0) 32 0) (43, 0) 33 0 a k = _
    rw [up_at, if_neg (fun z => h ⟨z.1, by omega⟩), up_at, if_neg (fun z => h ⟨z.1, by omega⟩), up_at, if_neg (fun z => h ⟨z.1, by omega⟩), up_at, if_neg (fun z => h ⟨z.1, by omega⟩), up_at, if_neg (fun z => h ⟨z.1, by omega⟩)]
  obtain ⟨A1, p1, p2⟩ := fill_ix (f := fun k A B => ev (d' + 8) mMo_readsAll 4 [vR (43, 0), vI (nJ k), vU] [] (hh A B)) (a := (61, 0)) (x := fun _ => 0) (n := 5) (fun k A B hk => by
    show ev (d' + 8) mMo_readsAll 4 [vR (43, 0), vI (nJ k), vU] [] (hh A B) = ev (d' + 8) mMo_readsAll 4 [vR (43, 0), vI (nJ (k + 1)), vU] [] (hh (up2 A (61, 0) k 0) B)
    rw [eMo_readsAll_4, if_pos (lt_nL (b := 5) hk (by decide)), bnd hk (by omega), nJ_nat (by omega), nJ_succ]) 5 0 A0 B rfl
  obtain ⟨A2, p3, p4⟩ := fill_ix (f := fun k A B => ev (d' + 8) mMo_readsAll 16 [vR (43, 0), vI (nJ k), vU] [] (hh A B)) (a := (63, 0)) (x := fun _ => 10000) (n := 64) (fun k A B hk => by
    show ev (d' + 8) mMo_readsAll 16 [vR (43, 0), vI (nJ k), vU] [] (hh A B) = ev (d' + 8) mMo_readsAll 16 [vR (43, 0), vI (nJ (k + 1)), vU] [] (hh (up2 A (63, 0) k 10000) B)
    rw [eMo_readsAll_16, if_pos (lt_nL (b := 64) hk (by decide)), bnd hk (by omega), nJ_nat (by omega), nJ_succ]) 64 0 A1 B rfl
  have p1 : ev (d' + 8) mMo_readsAll 4 [vR (43, 0), vI 0, vU] [] (hh A0 B) = ev (d' + 8) mMo_readsAll 4 [vR (43, 0), vI (nJ 5), vU] [] (hh A1 B) := p1
  have p3 : ev (d' + 8) mMo_readsAll 16 [vR (43, 0), vI 0, vU] [] (hh A1 B) = ev (d' + 8) mMo_readsAll 16 [vR (43, 0), vI (nJ 64), vU] [] (hh A2 B) := p3
  have A2fr : ∀ a k, ¬ (61 ≤ a.1 ∧ a.1 ≤ 67) → A2 a k = A0 a k := fun a k h => by
    rw [p4, if_neg (fun z => h (by rw [z.1]; decide)), p2, if_neg (fun z => h (by rw [z.1]; decide))]
  have A2_61 : ∀ k, k < 5 → A2 (61, 0) k = 0 := fun k hk => by
    rw [p4, if_neg (fun z => by cases z.1), p2, if_pos ⟨rfl, by omega, hk⟩]
  have A2_63 : ∀ k, k < 64 → A2 (63, 0) k = 10000 := fun k hk => by
    rw [p4, if_pos ⟨rfl, by omega, hk⟩]
  have hm2 : BtM A2 by_ n := ⟨hm.1, by rw [A2fr _ _ (by decide), hA0 _ _ (by decide)]; exact hm.2.1, fun k hk => by rw [A2fr _ _ (by decide), hA0 _ _ (fun z => by cases z.1)]; exact hm.2.2 k hk⟩
  have hD : DrR I2 A2 (fun _ _ => 0) (fun _ => 0) 0 0 0 0 := by
    refine ⟨⟨by decide, by decide, by decide, fun z => absurd z (by decide)⟩, ⟨?_, ?_, A2_61 1 (by decide), A2_61 2 (by decide), ?_, A2_61 3 (by decide), ?_, A2_61 4 (by decide)⟩, ⟨fun k hk => by omega, fun k _ hk => ?_⟩, fun a b ha hb => ⟨?_, ?_⟩, ⟨fun _ _ => (show (0 : Nat) < 10 by decide), fun _ _ z => absurd rfl z⟩, fun a ha => ⟨(show (0 : Nat) < 256 by decide), ?_, fun b _ => ?_⟩, rfl, fun k hk => by omega, fun k hk => by omega⟩
    · rw [r2 8 (by decide), z1.1, A2_61 0 (by decide)]
    · rw [r2 8 (by decide)]; exact z1.2.1
    · rw [r2 8 (by decide)]; exact z1.2.2.1
    · rw [r2 8 (by decide)]; exact z1.2.2.2
    · rw [r2 9 (by decide)]; exact z9 k hk
    · rw [r2 10 (by decide)]; exact z10 _ (by omega)
    · exact A2_63 _ (by omega)
    · rw [r2 12 (by decide)]; exact z12 a ha
    · rw [Nat.zero_testBit]; rfl
  have hS : RdS I2 A2 by_ n tk 0 0 0 (fun _ _ => 0) 0 := ⟨⟨hT, hm2, by omega, e6, e7, by rw [A2fr _ _ (by decide)]; rfl, by rw [A2fr _ _ (by decide)]; rfl, by omega, by decide, fun _ => rfl⟩, hD.c, fun _ => ⟨_, _, _, _, hD⟩⟩
  obtain ⟨I3, A3, f, dy, T, g1, g2, g3, g4, g5, g6, g7, g8, g9⟩ := rd_loop (J := J) (B := B) d d' 40 0 rfl I2 A2 0 0 0 (fun _ _ => 0) hS
  have g1 : ev (d + 5) mRo_read 9 [vR (8, 5), vR (1, 0), vI 1, vI 0] [] (hh I2 J) = rdX (d + 4) I3 J := g1
  have g2 : ev (d' + 8) mMo_readsAll 30 [vR (43, 0), vI 0, vI 1] [] (hh A2 B) = _ := g2
  -- the class measures
  have hmeas : ∀ x : Int32, ∃ I4, (∀ a : Ad, a ≠ (11, 5) → I4 a = up2 I3 (8, 5) 0 x a) ∧ (∀ a b, a < T → b < T → I4 (11, 5) (8 * a + b) = nJ (FL dy T a b)) ∧ ev (d + 4) mRo_measure 0 [vR (8, 5), vU, vU, vU, vU] [] (hh (up2 I3 (8, 5) 0 x) J) = some (none, hh I4 J) := fun x => cMeas (d + 4) g8.1 ((up_neK _ _ (by decide)).trans g8.2.1) g8.2.2.2.1 g8.2.2.2.2 (fun a b ha hb => (up_ne _ _ _ _ (by decide)).trans (g8.2.2.1 a b ha hb))
  obtain ⟨I4, m1, m2, m3⟩ := hmeas (if f = 0 then 1 else 0)
  have hI8 : I4 (8, 5) 0 = if f = 0 then 1 else 0 := by
    rw [m1 (8, 5) (by decide)]
    exact up_same _ _ _ _
  have hX : rdX (d + 4) I3 J = some (some (vI (if f = 0 then 1 else 0)), hh I4 J) := by
    unfold rdX
    rw [g5]
    by_cases hf : f = 0
    · rw [if_pos hf] at hI8 m3
      rw [if_pos (show nJ f = 0 by rw [hf]; rfl), m3, bV_some, gI_hh, gJ_hh, hI8, if_pos (Or.inr rfl), if_pos hf]
    · rw [if_neg hf] at hI8 m3
      rw [if_neg (ne_nL (b := 0) hf (by omega) (by decide)), m3, bV_some, gI_hh, gJ_hh, hI8, if_pos (Or.inl rfl), if_neg hf]
  have hI43 : ∀ a : Ad, a ≠ (11, 5) → ∀ k, ¬ (a = (8, 5) ∧ k = 0) → I4 a k = I3 a k := fun a ha k hk => by
    rw [m1 a ha, up_at, if_neg hk]
  refine ⟨I4, up2 A3 (43, 0) 26 0, f, dy, T, ?_, ?_, ?_, ?_, up_same _ _ _ _, ?_, ?_, g7, fun hf => ⟨?_, ?_, m2⟩⟩
  · rw [eRo_read_0, o1, bV_some, gI_hh, gJ_hh, o2, bV_some, gI_hh, gJ_hh, g1, hX]
  · rw [eMo_readsAll_0, eMo_starts_0, bV_some, gI_hh, gJ_hh, p1, eMo_readsAll_4, if_neg (show ¬ nJ 5 < 5 by decide), p3, eMo_readsAll_16, if_neg (show ¬ nJ 64 < 64 by decide), g2]
  · intro a k h1 h3 h4 h5 h6
    rw [hI43 a (fun z => h1 (by rw [z]; decide)) k (fun z => h1 (by rw [z.1]; decide)), g3 a k h1 (fun z => h6 ⟨z.1, by omega⟩), f2 a k h3 h4 h5 h6, f1 a k h1 (fun z => h6 ⟨z.1, by omega⟩)]
  · intro a k h1 h2
    rw [up_at, if_neg (fun z => h2 ⟨z.1, by omega⟩), g4 a k h1 (fun z => h2 ⟨z.1, by omega⟩), A2fr a k h1, hA0 a k (fun z => h2 ⟨z.1, by omega⟩)]
  · rw [hI43 (1, 0) (by decide) 7 (by decide)]
    exact g5
  · rw [up_neK _ _ (by decide)]
    exact g6
  · rw [hI8, if_pos hf]
  · obtain ⟨z, S, N, W, hD3⟩ := g9 hf
    have n8 : ∀ s, s ≠ 8 → s ≠ 11 → I4 (s, 5) = I3 (s, 5) := fun s h1 h2 => funext fun k => hI43 _ (fun z => h2 (Prod.mk.inj z).1) k (fun z => h1 (Prod.mk.inj z.1).1)
    have n8k : ∀ k, k ≠ 0 → I4 (8, 5) k = I3 (8, 5) k := fun k hk => hI43 _ (by decide) k (fun z => hk z.2)
    have nA : ∀ s, s ≠ 43 → up2 A3 (43, 0) 26 0 (s, 0) = A3 (s, 0) := fun s hs => funext fun k => up_ne _ _ _ _ (fun z => hs (Prod.mk.inj z).1)
    refine ⟨z, S, N, W, ?_⟩
    unfold DrR at hD3 ⊢
    rw [n8k 1 (by decide), n8k 2 (by decide), n8k 3 (by decide), n8k 4 (by decide), n8 9 (by decide) (by decide), n8 10 (by decide) (by decide), n8 12 (by decide) (by decide), n8 13 (by decide) (by decide), n8 14 (by decide) (by decide), n8 15 (by decide) (by decide), n8 16 (by decide) (by decide), nA 61 (by decide), nA 62 (by decide), nA 63 (by decide), nA 64 (by decide), nA 65 (by decide), nA 66 (by decide), nA 67 (by decide)]
    exact hD3
