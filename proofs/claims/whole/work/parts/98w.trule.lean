theorem ImR_mono {I A : IT} {q q' : Nat} (hq : q ≤ q') (h : ImR I A q) : ImR I A q' := fun j hj => ⟨(h j hj).1, fun z => ScR_mono hq ((h j hj).2 z)⟩
/-- a rule, read on both sides -/
theorem ru_all {I A : IT} {J B : JT} {by_ : Nat → Nat} {n q : Nat} (d d' : Nat) (hq : q < 6) (hb : BtC I by_ n) (hm : BtM A by_ n) (e30 : A (43, 0) 30 = nJ q) (e35 : A (43, 0) 35 = 11) : ∃ I' A' f c, ev (d + 26) mRu_read 0 [vR (37, q), vR (1, 0), vU, vU] [] (hh I J) = some (some (vI (if f = 0 then 1 else 0)), hh I' J) ∧ bV (ev (d' + 11) mMo_starts 0 [vR (43, 0)] [] (hh (up2 A (43, 0) 29 (A (43, 0) 30)) B)) (fun h1 => ev (d' + 12) mMo_rule 16 [vR (43, 0), vI 0, vI 1] [] (hh (gI h1) (gJ h1))) = ev (d' + 12) mMo_rule 16 [vR (43, 0), vI (nJ c), vI 0] [] (hh A' B) ∧ (∀ a k, ¬ (37 ≤ a.1 ∧ a.1 ≤ 40 ∧ a.2 = q) → a ≠ (3, 0) → a ≠ (4, 0) → a ≠ (5, 0) → ¬ (a = (1, 0) ∧ (k = 5 ∨ k = 6 ∨ k = 7)) → I' a k = I a k) ∧ (∀ a k, ¬ (a = (43, 0) ∧ (k = 27 ∨ k = 28 ∨ k = 29 ∨ k = 31 ∨ k = 32 ∨ k = 33 ∨ k = 34)) → a ≠ (75, 0) → ¬ ((a = (69, 0) ∨ a = (70, 0)) ∧ 300 * q ≤ k ∧ k < 300 * q + 300) → ¬ ((a = (72, 0) ∨ a = (73, 0) ∨ a = (74, 0)) ∧ 12 * q ≤ k ∧ k < 12 * q + 12) → A' a k = A a k) ∧ A' (43, 0) 29 = nJ q ∧ I' (1, 0) 7 = nJ f ∧ A' (43, 0) 28 = nJ f ∧ f < 100000 ∧ (f = 0 → RuN I' A' q c) := by
  -- the beginning in the class
  have hb0 : BtC (up2 (up2 (up2 I (37, q) 1 0) (37, q) 4 0) (37, q) 5 0) by_ n := by
    refine ⟨hb.1, ?_, fun k hk => ⟨(hb.2.2 k hk).1, ?_⟩⟩
    · rw [up_ne _ _ _ _ (fun z => by have := (Prod.mk.inj z).1; omega), up_ne _ _ _ _ (fun z => by have := (Prod.mk.inj z).1; omega), up_ne _ _ _ _ (fun z => by have := (Prod.mk.inj z).1; omega)]
      exact hb.2.1
    · rw [up_ne _ _ _ _ (fun z => by have := (Prod.mk.inj z).1; omega), up_ne _ _ _ _ (fun z => by have := (Prod.mk.inj z).1; omega), up_ne _ _ _ _ (fun z => by have := (Prod.mk.inj z).1; omega)]
      exact (hb.2.2 k hk).2
  obtain ⟨I1, tk, fr, e6, e7, hT, hcut⟩ := cCut (J := J) (d + 22) (by decide : 1 < 2) hb0
  have fr37 : ∀ k, I1 (37, q) k = up2 (up2 (up2 I (37, q) 1 0) (37, q) 4 0) (37, q) 5 0 (37, q) k := fun k => fr (37, q) k (fun z => by have := (Prod.mk.inj z).1; omega) (fun z => by have := (Prod.mk.inj z).1; omega) (fun z => by have := (Prod.mk.inj z).1; omega) (fun z => by have := (Prod.mk.inj z.1).1; omega)
  -- the beginning in the reference
  have hst := eMo_starts_0 (I := up2 A (43, 0) 29 (A (43, 0) 30)) (J := B) (d' + 11)
  have o43 : ∀ k, k ≠ 27 → k ≠ 28 → k ≠ 29 → k ≠ 31 → k ≠ 32 → k ≠ 33 → up2 (up2 (up2 (up2 (up2 (up2 A (43, 0) 29 (A (43, 0) 30)) (43, 0) 27 0) (43, 0) 28 0) (43, 0) 31 0) (43, 0) 32 0) (43, 0) 33 0 (43, 0) k = A (43, 0) k := fun k h1 h2 h3 h4 h5 h6 => by
    rw [up_neK _ _ h6, up_neK _ _ h5, up_neK _ _ h4, up_neK _ _ h2, up_neK _ _ h1, up_neK _ _ h3]
  have oA : ∀ a k, a ≠ (43, 0) → up2 (up2 (up2 (up2 (up2 (up2 A (43, 0) 29 (A (43, 0) 30)) (43, 0) 27 0) (43, 0) 28 0) (43, 0) 31 0) (43, 0) 32 0) (43, 0) 33 0 a k = A a k := fun a k h => by
    rw [up_ne _ _ _ _ h, up_ne _ _ _ _ h, up_ne _ _ _ _ h, up_ne _ _ _ _ h, up_ne _ _ _ _ h, up_ne _ _ _ _ h]
  have hS : ClS I1 (up2 (up2 (up2 (up2 (up2 (up2 A (43, 0) 29 (A (43, 0) 30)) (43, 0) 27 0) (43, 0) 28 0) (43, 0) 31 0) (43, 0) 32 0) (43, 0) 33 0) by_ n tk 0 0 q 0 0 0 := by
    refine ⟨⟨⟨hT, ⟨hm.1, (o43 26 (by decide) (by decide) (by decide) (by decide) (by decide) (by decide)).trans hm.2.1, fun k hk => ⟨(hm.2.2 k hk).1, (oA _ _ (by decide)).trans (hm.2.2 k hk).2⟩⟩, Nat.zero_le _, e6, e7, ?_, ?_, Nat.zero_le _, by decide, fun _ => rfl⟩, hq, ⟨?_, ?_, ?_, ?_, ?_, ?_⟩, ⟨Nat.le_refl _, by decide, by decide⟩, fun j hj => by omega⟩, by decide, by decide, ?_, ?_, fun z => by omega, fun k hk => by omega⟩
    · rw [up_neK _ _ (by decide), up_neK _ _ (by decide), up_neK _ _ (by decide), up_neK _ _ (by decide), up_same]
      rfl
    · rw [up_neK _ _ (by decide), up_neK _ _ (by decide), up_neK _ _ (by decide), up_same]
      rfl
    · rw [fr37, up_neK _ _ (by decide), up_neK _ _ (by decide), up_same]
      rfl
    · rw [fr37, up_same]
      rfl
    · rw [up_neK _ _ (by decide), up_neK _ _ (by decide), up_neK _ _ (by decide), up_neK _ _ (by decide), up_neK _ _ (by decide), up_same]
      exact e30
    · rw [up_neK _ _ (by decide), up_neK _ _ (by decide), up_same]
      rfl
    · rw [up_same]
      rfl
    · exact (o43 35 (by decide) (by decide) (by decide) (by decide) (by decide) (by decide)).trans e35
    · rw [fr37, up_neK _ _ (by decide), up_same]
      rfl
    · rw [up_neK _ _ (by decide), up_same]
      rfl
  obtain ⟨I2, A2, f, c, q1, q2, q3, q4, q5, q6, q7, q8⟩ := ru_loop (J := J) (B := B) d d' 13 0 rfl I1 _ 0 0 0 0 hS
  refine ⟨I2, A2, f, c, ?_, ?_, fun a k h1 h2 h3 h4 h5 => ?_, fun a k h1 h2 h3 h4 => ?_, ?_, q5, q6, q7, q8⟩
  · rw [eRu_read_0, hcut, bV_some, gI_hh, gJ_hh]
    exact q1
  · rw [hst, bV_some, gI_hh, gJ_hh]
    exact q2
  · rw [q3 a k h1 (fun z => h5 ⟨z.1, by omega⟩), fr a k h2 h3 h4 h5]
    have hne : a ≠ (37, q) := fun z => h1 (by rw [z]; exact ⟨show 37 ≤ 37 by decide, show 37 ≤ 40 by decide, rfl⟩)
    rw [up_ne _ _ _ _ hne, up_ne _ _ _ _ hne, up_ne _ _ _ _ hne]
  · rw [q4 a k (fun z => h1 ⟨z.1, by omega⟩) h2 h3 h4]
    by_cases e : a = (43, 0)
    · subst e
      exact o43 k (fun z => h1 ⟨rfl, by omega⟩) (fun z => h1 ⟨rfl, by omega⟩) (fun z => h1 ⟨rfl, by omega⟩) (fun z => h1 ⟨rfl, by omega⟩) (fun z => h1 ⟨rfl, by omega⟩) (fun z => h1 ⟨rfl, by omega⟩)
    · exact oA a k e
  · rw [q4 (43, 0) 29 (fun z => by omega) (by decide) (fun z => by rcases z.1 with z | z <;> exact absurd z (by decide)) (fun z => by rcases z.1 with z | z | z <;> exact absurd z (by decide)), up_neK _ _ (by decide), up_neK _ _ (by decide), up_neK _ _ (by decide), up_neK _ _ (by decide), up_neK _ _ (by decide), up_same]
    exact e30
theorem t_rule {I A : IT} {J B : JT} (d : Nat) (h : Rel I A) : Cal (ev (d + 30) mPx_rule 0 [vR (0, 0), vU] [] (hh I J)) (ev (d + 30) mMo_rule 0 [vR (43, 0), vU, vU] [] (hh A B)) I A := by
  have hRel := h
  obtain ⟨q, hTp, hRu, hSc, hIm⟩ := h
  have hRu' := hRu
  obtain ⟨hq6, e2, e30, e35, hrs⟩ := hRu'
  rw [ePx_rule_0, eMo_rule_0, e2]
  by_cases hq : q < 6
  · obtain ⟨n, hbC, hbM⟩ := tape_bt hTp
    obtain ⟨I1, A1, f, c, o1, o2, fr1, fr2, e29, e7, m28, hf, hok⟩ := ru_all (J := J) (B := B) (d + 3) (d + 18) hq hbC hbM e30 e35
    have o2 : bV (ev (d + 29) mMo_starts 0 [vR (43, 0)] [] (hh (up2 A (43, 0) 29 (nJ q)) B)) (fun h1 => ev (d + 30) mMo_rule 16 [vR (43, 0), vI 0, vI 1] [] (hh (gI h1) (gJ h1))) = ev (d + 30) mMo_rule 16 [vR (43, 0), vI (nJ c), vI 0] [] (hh A1 B) := by
      rw [← e30]
      exact o2
    have hsl : (if q < 6 then q else 0) = q := if_pos hq
    rw [if_pos (lt_nL (b := 6) hq (by decide)), bnd hq (by decide), nJ_nat (by omega), hsl, o1, bI_some, e30, if_neg (ne_nL (b := 6) (by omega) (by omega) (by decide)), o2, eMo_rule_16, if_pos (show (0 : Int32) = 0 from rfl), e29, bnd hq (by decide), nJ_nat (by omega), m28]
    simp only [gI_hh, gJ_hh]
    have i02 : I1 (0, 0) 2 = nJ q := (fr1 (0, 0) 2 (fun z => absurd z.1 (by decide)) (by decide) (by decide) (by decide) (by decide)).trans e2
    have a30 : A1 (43, 0) 30 = nJ q := (fr2 (43, 0) 30 (fun z => by omega) (by decide) (fun z => by rcases z.1 with z | z <;> exact absurd z (by decide)) (fun z => by rcases z.1 with z | z | z <;> exact absurd z (by decide))).trans e30
    have a35 : A1 (43, 0) 35 = 11 := (fr2 (43, 0) 35 (fun z => by omega) (by decide) (fun z => by rcases z.1 with z | z <;> exact absurd z (by decide)) (fun z => by rcases z.1 with z | z | z <;> exact absurd z (by decide))).trans e35
    rw [i02, a30, e7]
    -- what stays, whatever is written behind
    have iK : ∀ a k, 7 ≤ a.1 → a.1 ≤ 27 → I1 a k = I a k := fun a k h1 h2 => fr1 a k (by omega) (fun z => by rw [z] at h1; exact absurd h1 (by decide)) (fun z => by rw [z] at h1; exact absurd h1 (by decide)) (fun z => by rw [z] at h1; exact absurd h1 (by decide)) (fun z => by rw [z.1] at h1; exact absurd h1 (by decide))
    have aK : ∀ a k, (44 ≤ a.1 ∧ a.1 ≤ 60) ∨ a.1 = 78 ∨ a.1 = 87 ∨ a.1 = 88 ∨ a.1 = 89 → A1 a k = A a k := fun a k h => fr2 a k (fun z => by rw [z.1] at h; simp at h) (fun z => by rw [z] at h; simp at h) (fun z => by rcases z.1 with z | z <;> (rw [z] at h; simp at h)) (fun z => by rcases z.1 with z | z | z <;> (rw [z] at h; simp at h))
    have a43 : ∀ k, k = 25 ∨ k = 48 → A1 (43, 0) k = A (43, 0) k := fun k hk => fr2 (43, 0) k (fun z => by omega) (by decide) (fun z => by rcases z.1 with z | z <;> exact absurd z (by decide)) (fun z => by rcases z.1 with z | z | z <;> exact absurd z (by decide))
    have rest : ∀ (I' A' : IT) (q' : Nat), q ≤ q' → (∀ a k, a.1 ≠ 0 → a.1 ≠ 1 → I' a k = I1 a k) → (∀ a k, ¬ (a = (43, 0) ∧ (k = 26 ∨ k = 30)) → a.1 ≠ 71 → A' a k = A1 a k) → I' (1, 0) 1 = 0 → A' (43, 0) 26 = 0 → RusR I' A' q' → Rel I' A' := fun I' A' q' hqq hI hA h1 h26 hR => by
      refine ⟨q', ⟨0, by decide, h1, h26, fun k hk => by omega⟩, hR, ?_, ImR_mono hqq (ImR_ext (I := I) (A := A) (fun a k a1 a2 a3 a4 => (hI a k (by omega) (by omega)).trans (iK a k a1 a2)) (fun a k ha => (hA a k (fun z => by rw [z.1] at ha; simp at ha) (by omega)).trans (aK a k (by omega))) hIm)⟩
      rw [scC_ext (I := I) (fun a k a1 a2 a3 => (hI a k (by omega) (by omega)).trans (iK a k a1 a2)), scM_ext (A := A) (fun a k ha => ?_)]
      · exact ScR_mono hqq hSc
      · rcases ha with ⟨ha, hk⟩ | ha | ha
        · subst ha
          exact (hA (43, 0) k (fun z => by omega) (by decide)).trans (a43 k hk)
        · exact (hA a k (fun z => by rw [z.1] at ha; exact absurd ha (by decide)) (by omega)).trans (aK a k (Or.inl ha))
        · exact (hA a k (fun z => by rw [z.1] at ha; exact absurd ha (by decide)) (by omega)).trans (aK a k (Or.inr (Or.inl ha)))
    have old : ∀ (I' A' : IT), (∀ a k, a.1 ≠ 0 → a.1 ≠ 1 → I' a k = I1 a k) → (∀ a k, ¬ (a = (43, 0) ∧ (k = 26 ∨ k = 30)) → ¬ (a = (71, 0) ∧ k = q) → A' a k = A1 a k) → ∀ r, r < q → RuR I' A' r := fun I' A' hI hA r hr => by
      obtain ⟨c0, hn0, h71⟩ := (hrs r hr).n
      refine (hn0.ext (I' := I') (A' := A') (fun s s1 s2 => funext fun k => ?_) (fun s k hs hk => ?_) (fun s k hs hk => ?_)).r ?_
      · rw [hI (s, r) k (show s ≠ 0 by omega) (show s ≠ 1 by omega)]
        exact fr1 (s, r) k (fun z => by have : r = q := z.2.2; omega) (fun z => by have := (Prod.mk.inj z).1; omega) (fun z => by have := (Prod.mk.inj z).1; omega) (fun z => by have := (Prod.mk.inj z).1; omega) (fun z => by have := (Prod.mk.inj z.1).1; omega)
      · rw [hA (s, 0) _ (fun z => by have := (Prod.mk.inj z.1).1; omega) (fun z => by have := (Prod.mk.inj z.1).1; omega)]
        exact fr2 (s, 0) _ (fun z => by have := (Prod.mk.inj z.1).1; omega) (fun z => by have := (Prod.mk.inj z).1; omega) (fun z => by have := z.2; omega) (fun z => by rcases z.1 with z | z | z <;> (have := (Prod.mk.inj z).1; omega))
      · rw [hA (s, 0) _ (fun z => by have := (Prod.mk.inj z.1).1; omega) (fun z => by have := (Prod.mk.inj z.1).1; omega)]
        exact fr2 (s, 0) _ (fun z => by have := (Prod.mk.inj z.1).1; omega) (fun z => by have := (Prod.mk.inj z).1; omega) (fun z => by rcases z.1 with z | z <;> (have := (Prod.mk.inj z).1; omega)) (fun z => by have := z.2; omega)
      · rw [hA (71, 0) r (fun z => by cases z.1) (fun z => by have := z.2; omega)]
        exact (fr2 (71, 0) r (fun z => by cases z.1) (by decide) (fun z => by rcases z.1 with z | z <;> cases z) (fun z => by rcases z.1 with z | z | z <;> cases z)).trans h71
    have frc : ∀ a : Ad, 43 ≤ a.1 → I1 a = I a := fun a ha => funext fun k => fr1 a k (by omega) (fun z => by rw [z] at ha; exact absurd ha (by decide)) (fun z => by rw [z] at ha; exact absurd ha (by decide)) (fun z => by rw [z] at ha; exact absurd ha (by decide)) (fun z => by rw [z.1] at ha; exact absurd ha (by decide))
    have frm : ∀ a : Ad, (a.1 < 43 ∨ 90 ≤ a.1) → A1 a = A a := fun a ha => funext fun k => fr2 a k (fun z => by rw [z.1] at ha; exact absurd ha (by decide)) (fun z => by rw [z] at ha; exact absurd ha (by decide)) (fun z => by rcases z.1 with z | z <;> (rw [z] at ha; exact absurd ha (by decide))) (fun z => by rcases z.1 with z | z | z <;> (rw [z] at ha; exact absurd ha (by decide)))
    by_cases hf0 : f = 0
    · have hN := hok hf0
      subst hf0
      rw [if_neg (show ¬ (if (0 : Nat) = 0 then (1 : Int32) else 0) = 0 by decide), if_pos (show nJ 0 = 0 from rfl), if_neg (show ¬ (0 : Int32) < nJ 0 by decide)]
      have hI' : ∀ a k, a.1 ≠ 0 → a.1 ≠ 1 → up2 (up2 I1 (1, 0) 1 0) (0, 0) 2 (nJ q + 1) a k = I1 a k := fun a k h0 h1 => by
        rw [up_ne _ _ _ _ (fun z => h0 (by rw [z])), up_ne _ _ _ _ (fun z => h1 (by rw [z]))]
      have hA' : ∀ a k, ¬ (a = (43, 0) ∧ (k = 26 ∨ k = 30)) → ¬ (a = (71, 0) ∧ k = q) → up2 (up2 (up2 A1 (43, 0) 26 0) (71, 0) q (nJ c)) (43, 0) 30 (nJ q + 1) a k = A1 a k := fun a k h0 h1 => by
        rw [up_at, if_neg (fun z => h0 ⟨z.1, Or.inr z.2⟩), up_at, if_neg h1, up_at, if_neg (fun z => h0 ⟨z.1, Or.inl z.2⟩)]
      refine Cal.mk rfl rfl (rest _ _ (q + 1) (by omega) hI' (fun a k h0 h1 => hA' a k h0 (fun z => h1 (by rw [z.1]))) ?_ ?_ ⟨by omega, ?_, ?_, ?_, fun r hr => ?_⟩) ?_ ?_
      · rw [up_ne _ _ _ _ (by decide), up_same]
      · rw [up_neK _ _ (by decide), up_ne _ _ _ _ (by decide), up_same]
      · rw [up_same, nJ_succ]
      · rw [up_same, nJ_succ]
      · rw [hA' (43, 0) 35 (by decide) (fun z => by cases z.1)]
        exact a35
      · by_cases e : r = q
        · subst e
          refine (hN.ext (fun s s1 s2 => funext fun k => hI' _ _ (show s ≠ 0 by omega) (show s ≠ 1 by omega)) (fun s k hs hk => hA' _ _ (fun z => by have := (Prod.mk.inj z.1).1; omega) (fun z => by have := (Prod.mk.inj z.1).1; omega)) (fun s k hs hk => hA' _ _ (fun z => by have := (Prod.mk.inj z.1).1; omega) (fun z => by have := (Prod.mk.inj z.1).1; omega))).r ?_
          rw [up_ne _ _ _ _ (by decide), up_same]
        · exact old _ _ hI' hA' r (by omega)
      · exact fun a ha => (funext fun k => hI' a k (by omega) (by omega)).trans (frc a ha)
      · exact fun a ha => (funext fun k => hA' a k (fun z => by rw [z.1] at ha; exact absurd ha (by decide)) (fun z => by rw [z.1] at ha; exact absurd ha (by decide))).trans (frm a ha)
    · rw [if_neg hf0, if_pos (show (0 : Int32) = 0 from rfl), if_neg (ne_nL (b := 0) hf0 (by omega) (by decide)), if_pos (lt_Ln (a := 0) (show 0 < f by omega) (by omega))]
      have hI' : ∀ a k, a.1 ≠ 0 → a.1 ≠ 1 → up2 I1 (1, 0) 1 0 a k = I1 a k := fun a k h0 h1 => up_ne _ _ _ _ (fun z => h1 (by rw [z]))
      have hA' : ∀ a k, ¬ (a = (43, 0) ∧ (k = 26 ∨ k = 30)) → ¬ (a = (71, 0) ∧ k = q) → up2 (up2 (up2 A1 (43, 0) 26 0) (71, 0) q (nJ c)) (43, 0) 30 (nJ q + 0) a k = A1 a k := fun a k h0 h1 => by
        rw [up_at, if_neg (fun z => h0 ⟨z.1, Or.inr z.2⟩), up_at, if_neg h1, up_at, if_neg (fun z => h0 ⟨z.1, Or.inl z.2⟩)]
      refine Cal.mk rfl rfl (rest _ _ q (Nat.le_refl q) hI' (fun a k h0 h1 => hA' a k h0 (fun z => h1 (by rw [z.1]))) (up_same _ _ _ _) ?_ ⟨hq6, ?_, ?_, ?_, fun r hr => old _ _ hI' hA' r hr⟩) ?_ ?_
      · rw [up_neK _ _ (by decide), up_ne _ _ _ _ (by decide), up_same]
      · rw [up_ne _ _ _ _ (by decide)]
        exact i02
      · rw [up_same]
        exact nJ_add q 0
      · rw [hA' (43, 0) 35 (by decide) (fun z => by cases z.1)]
        exact a35
      · exact fun a ha => (funext fun k => hI' a k (by omega) (by omega)).trans (frc a ha)
      · exact fun a ha => (funext fun k => hA' a k (fun z => by rw [z.1] at ha; exact absurd ha (by decide)) (fun z => by rw [z.1] at ha; exact absurd ha (by decide))).trans (frm a ha)
  · have hqe : q = 6 := by omega
    subst hqe
    rw [if_neg (show ¬ nJ 6 < 6 by decide), e30, if_pos (show nJ 6 = 6 from rfl)]
    exact Cal.ro rfl rfl hRel
