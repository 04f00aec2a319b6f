theorem t_roads {I A : IT} {J B : JT} (d : Nat) (h : Rel I A) : Cal (ev (d + 10) mPx_roads 0 [vR (0, 0), vU] [] (hh I J)) (ev (d + 10) mMo_roads 0 [vR (43, 0), vU] [] (hh A B)) I A := by
  obtain ⟨q, hTp, hRu, hSc, hIm⟩ := h
  obtain ⟨n, hbC, hbM⟩ := tape_bt hTp
  obtain ⟨I1, A1, f, dy, T, o1, o2, fr1, fr2, m26, e7, m28, hf, hok⟩ := rd_all (J := J) (B := B) (d + 4) (d + 1) hbC hbM
  -- what stays
  have tape : ∀ I' A' : IT, I' (1, 0) 1 = 0 → A' (43, 0) 26 = 0 → TpR I' A' := fun I' A' h1 h2 => ⟨0, by decide, h1, h2, fun k hk => by omega⟩
  have rules : ∀ I' A' : IT, (∀ a k, (a = (0, 0) ∧ k = 2) ∨ (37 ≤ a.1 ∧ a.1 ≤ 40) → I' a k = I a k) → (∀ a k, (a = (43, 0) ∧ (k = 30 ∨ k = 35)) ∨ (69 ≤ a.1 ∧ a.1 ≤ 74) → A' a k = A a k) → RusR I' A' q := fun I' A' h1 h2 => RusR_ext h1 h2 hRu
  rw [ePx_roads_0, eMo_roads_0, o1, o2, bI_some, bV_some]
  simp only [gI_hh, gJ_hh]
  rw [e7, m28]
  by_cases hf0 : f = 0
  · -- no fault
    obtain ⟨t1, ⟨z, S, N, W, hD⟩, hF⟩ := hok hf0
    rw [hf0, if_neg (show ¬ (if (0 : Nat) = 0 then (1 : Int32) else 0) = 0 by decide), if_neg (show ¬ (0 : Int32) < nJ 0 by decide)]
    have hs5 : ∀ s, s ≠ 1 → up2 I1 (1, 0) 1 0 (s, 5) = I1 (s, 5) := fun s hs => funext fun k => up_ne _ _ _ _ (fun w => hs (Prod.mk.inj w).1)
    obtain ⟨I3, c8, ⟨c9, c10, c11, c12, c13, c16⟩, cfr, o3⟩ := cCopyR (I := up2 I1 (1, 0) 1 0) (J := J) (d + 9) (Or.inr (by rw [hs5 8 (by decide)]; exact t1))
    obtain ⟨v, I4, J4, o4, rfl, hbg, rfl⟩ := cBegin (d + 8) 0 5 I3 J
    obtain ⟨A2, m44, m44z, m44h, ⟨m45, m46, m47, m48, m60⟩, mfr, o5⟩ := mCopyR (A := A1) (B := B) (d + 9) hD.2.2.2.2.1.1 (fun a b ha hb => (hD.2.2.2.1 a b ha hb).2)
    obtain ⟨v', A4, B4, o6, rfl, hbm, rfl⟩ := mBegins (d + 8) (up2 A2 (43, 0) 25 1) B
    rw [hs5 8 (by decide)] at c8
    rw [hs5 9 (by decide)] at c9
    rw [hs5 10 (by decide)] at c10
    rw [hs5 11 (by decide)] at c11
    rw [hs5 12 (by decide)] at c12
    rw [hs5 13 (by decide), hs5 14 (by decide), hs5 15 (by decide)] at c13
    rw [hs5 16 (by decide)] at c16
    have na : ∀ s k, s ≠ 43 → up2 A2 (43, 0) 25 1 (s, 0) k = A2 (s, 0) k := fun s k hs => up_ne _ _ _ _ (fun w => hs (Prod.mk.inj w).1)
    have hro1 : RoR (scC I3 0) (scM (up2 A2 (43, 0) 25 1)) T S N := ro_mk hD hF c8 c9 c10 c11 c12 c13 c16 (fun k hk => (na 44 k (by decide)).trans (m44 k hk)) (fun k hk => (na 45 k (by decide)).trans (m45 k hk)) (fun k hk => (na 46 k (by decide)).trans (m46 k hk)) (fun a b ha hb => (na 47 _ (by decide)).trans (m47 a b ha hb)) (fun k hk => ⟨(na 48 k (by decide)).trans (m48 k hk).1, (na 49 k (by decide)).trans (m48 k hk).2.1, (na 50 k (by decide)).trans (m48 k hk).2.2⟩) (fun k hk => (na 60 k (by decide)).trans (m60 k hk))
    have hbg0 : BgC I3 I4 0 0 := ⟨hbg.1, fun k hk => ⟨(hbg.2.1 k hk).1, (hbg.2.1 k hk).2.1, by
      have e5 : I3 (16, 5) = I1 (16, 5) := (cfr (16, 5) (by decide)).trans (hs5 16 (by decide))
      rw [(hbg.2.1 k hk).2.2.1, c16 k hk, e5], (hbg.2.1 k hk).2.2.2⟩, hbg.2.2⟩
    have hwk := bg_wk hro1 hbg0 hbm
    have i4 : ∀ s, (s < 17 ∨ 23 < s) → ∀ m, I4 (s, m) = I3 (s, m) := fun s hs m => hbg.2.2.2 (s, m) (fun w => by have := w.1; have := w.2.1; omega)
    have a4 : ∀ s k, (s < 44 ∨ 56 < s ∨ (44 < s ∧ s < 51) ∨ (s = 44 ∧ (k < 5 ∨ 10 ≤ k))) → A4 (s, 0) k = up2 A2 (43, 0) 25 1 (s, 0) k := fun s k hs => hbm.2.2.2 (s, 0) k (nwc hs)
    -- the last heaps
    have hI5 : ∀ a k, a ≠ (7, 0) → up2 (up2 I4 (7, 0) 9 0) (7, 0) 7 0 a k = I4 a k := fun a k ha => by rw [up_ne _ _ _ _ ha, up_ne _ _ _ _ ha]
    have hA5 : ∀ a k, ¬ (a = (43, 0) ∧ k = 48) → up2 A4 (43, 0) 48 0 a k = A4 a k := fun a k ha => by rw [up_at, if_neg ha]
    have hro2 : RoR (scC (up2 (up2 I4 (7, 0) 9 0) (7, 0) 7 0) 0) (scM (up2 A4 (43, 0) 48 0)) T S N := by
      have ic : ∀ s k, 8 ≤ s → s ≤ 16 → up2 (up2 I4 (7, 0) 9 0) (7, 0) 7 0 (s, 0) k = I3 (s, 0) k := fun s k h1 h2 => by
        rw [hI5 (s, 0) k (fun w => by have := (Prod.mk.inj w).1; omega), i4 s (by omega)]
      have am : ∀ s k, ((44 < s ∧ s < 51) ∨ s = 60 ∨ (s = 44 ∧ k < 5)) → up2 A4 (43, 0) 48 0 (s, 0) k = A2 (s, 0) k := fun s k hs => by
        rw [hA5 (s, 0) k (fun w => by have := (Prod.mk.inj w.1).1; omega), a4 s k (by omega), na s k (by omega)]
      exact ro_mk hD hF (fun k hk => (ic 8 k (by decide) (by decide)).trans (c8 k hk)) (fun k hk => (ic 9 k (by decide) (by decide)).trans (c9 k hk)) (fun k hk => (ic 10 k (by decide) (by decide)).trans (c10 k hk)) (fun k hk => (ic 11 k (by decide) (by decide)).trans (c11 k hk)) (fun k hk => (ic 12 k (by decide) (by decide)).trans (c12 k hk)) (fun k hk => ⟨(ic 13 k (by decide) (by decide)).trans (c13 k hk).1, (ic 14 k (by decide) (by decide)).trans (c13 k hk).2.1, (ic 15 k (by decide) (by decide)).trans (c13 k hk).2.2⟩) (fun k hk => (ic 16 k (by decide) (by decide)).trans (c16 k hk)) (fun k hk => (am 44 k (Or.inr (Or.inr ⟨rfl, hk⟩))).trans (m44 k hk)) (fun k hk => (am 45 k (by omega)).trans (m45 k hk)) (fun k hk => (am 46 k (by omega)).trans (m46 k hk)) (fun a b ha hb => (am 47 _ (by omega)).trans (m47 a b ha hb)) (fun k hk => ⟨(am 48 k (by omega)).trans (m48 k hk).1, (am 49 k (by omega)).trans (m48 k hk).2.1, (am 50 k (by omega)).trans (m48 k hk).2.2⟩) (fun k hk => (am 60 k (by omega)).trans (m60 k hk))
    -- cells far off
    have iAll : ∀ a k, a ≠ (7, 0) → ¬ (17 ≤ a.1 ∧ a.1 ≤ 23 ∧ a.2 = 0) → ¬ (a.2 = 0 ∧ 8 ≤ a.1 ∧ a.1 ≤ 16) → a ≠ (1, 0) → ¬ (a.2 = 5 ∧ 8 ≤ a.1 ∧ a.1 ≤ 16) → a ≠ (3, 0) → a ≠ (4, 0) → a ≠ (5, 0) → up2 (up2 I4 (7, 0) 9 0) (7, 0) 7 0 a k = I a k := fun a k h1 h2 h3 h4 h5 h6 h7 h8 => by
      rw [hI5 a k h1, hbg.2.2.2 a h2, cfr a h3, up_ne _ _ _ _ h4, fr1 a k h5 h6 h7 h8 (fun w => h4 w.1)]
    have aAll : ∀ a k, ¬ wCell a k → ¬ (a = (44, 0) ∨ a = (45, 0) ∨ a = (46, 0) ∨ a = (47, 0) ∨ a = (48, 0) ∨ a = (49, 0) ∨ a = (50, 0) ∨ a = (60, 0)) → ¬ (61 ≤ a.1 ∧ a.1 ≤ 67) → ¬ (a = (43, 0) ∧ (k = 25 ∨ k = 48 ∨ k = 26 ∨ k = 27 ∨ k = 28 ∨ k = 31 ∨ k = 32 ∨ k = 33)) → up2 A4 (43, 0) 48 0 a k = A a k := fun a k h1 h2 h3 h4 => by
      rw [hA5 a k (fun w => h4 ⟨w.1, by omega⟩), hbm.2.2.2 a k h1, up_at, if_neg (fun w => h4 ⟨w.1, by omega⟩), mfr a k h2, fr2 a k h3 (fun w => h4 ⟨w.1, by omega⟩)]
    have i7 : ∀ k, k ≠ 7 → k ≠ 9 → up2 (up2 I4 (7, 0) 9 0) (7, 0) 7 0 (7, 0) k = I (7, 0) k := fun k h1 h2 => by
      rw [up_neK _ _ h1, up_neK _ _ h2, i4 7 (by omega), cfr (7, 0) (by decide), up_ne _ _ _ _ (by decide), fr1 (7, 0) k (by decide) (by decide) (by decide) (by decide) (fun w => by cases w.1)]
    have a44 : ∀ k, 11 ≤ k → up2 A4 (43, 0) 48 0 (44, 0) k = A (44, 0) k := fun k hk => by
      rw [hA5 (44, 0) k (fun w => by cases w.1), a4 44 k (by omega), na 44 k (by decide), m44h k hk, fr2 (44, 0) k (by decide) (fun w => by cases w.1)]
    have hrel : Rel (up2 (up2 I4 (7, 0) 9 0) (7, 0) 7 0) (up2 A4 (43, 0) 48 0) := by
      refine ⟨q, tape _ _ ?_ ?_, rules _ _ (fun a k ha => ?_) (fun a k ha => ?_), ?_, ImR_ext (I := I) (A := A) (fun a k a1 a2 a3 a4' => ?_) (fun a k ha => ?_) hIm⟩
      · rw [hI5 (1, 0) 1 (by decide), i4 1 (by omega), cfr (1, 0) (by decide), up_same]
      · rw [hA5 (43, 0) 26 (by decide), a4 43 26 (by omega), up_neK _ _ (by decide), mfr (43, 0) 26 (by decide)]
        exact m26
      · rcases ha with ⟨ha, hk⟩ | ha
        · rw [ha]
          exact iAll _ _ (by decide) (by decide) (by decide) (by decide) (by decide) (by decide) (by decide) (by decide)
        · exact iAll a k (fun w => by rw [w] at ha; exact absurd ha (by decide)) (by omega) (by omega) (fun w => by rw [w] at ha; exact absurd ha (by decide)) (by omega) (fun w => by rw [w] at ha; exact absurd ha (by decide)) (fun w => by rw [w] at ha; exact absurd ha (by decide)) (fun w => by rw [w] at ha; exact absurd ha (by decide))
      · rcases ha with ⟨ha, hk⟩ | ha
        · rw [ha]
          exact aAll _ _ (nwc (Or.inl (by decide))) (by decide) (by decide) (fun w => by omega)
        · exact aAll a k (nwc (Or.inr (Or.inl (by omega)))) (fun w => by rcases w with w | w | w | w | w | w | w | w <;> (rw [w] at ha; exact absurd ha (by decide))) (by omega) (fun w => by rw [w.1] at ha; exact absurd ha (by decide))
      · obtain ⟨T0, S0, N0, -, -, -, -, hf5, hf6, -, -⟩ := hSc
        refine ⟨T, S, N, hro2, ?_, ⟨0, by decide, ?_⟩, ⟨?_, ?_⟩, ⟨?_, ?_⟩, ⟨?_, ?_⟩, ⟨0, by decide, ?_, ?_, fun i hi => by omega⟩, ⟨0, by decide, ?_, ?_, fun i hi => by omega⟩⟩
        · refine WkR_ext (c := scC I4 0) (m := scM A4) (by have := hD.1.2.2.1; omega) (by have := hD.1.2.1; omega) (fun s k h1 h2 _ _ _ => ?_) (fun s k h1 _ _ _ => ?_) hwk
          · exact congrFun (congrFun (show scC (up2 (up2 I4 (7, 0) 9 0) (7, 0) 7 0) 0 = fun s k => if s = 7 ∧ k = 7 then 0 else if s = 7 ∧ k = 9 then 0 else scC I4 0 s k from funext fun s => funext fun k => by rw [scC_up (by decide), scC_up (by decide)]) s) k |>.trans (by rw [if_neg (by omega), if_neg (by omega)])
          · rw [show scM (up2 A4 (43, 0) 48 0) s k = scM A4 s k from by
              unfold scM
              have q1 : Nat.beq s 43 = false := beq_f (by omega)
              rw [q1]
              have q2 : up2 A4 (43, 0) 48 0 (s, 0) k = A4 (s, 0) k := hA5 (s, 0) k (fun w => by have := (Prod.mk.inj w.1).1; omega)
              rw [q2]
              rfl]
        · show up2 (up2 I4 (7, 0) 9 0) (7, 0) 7 0 (17, 0) 0 = nJ 0
          rw [hI5 (17, 0) 0 (by decide)]
          exact hbg.1 0 (by decide)
        · show up2 (up2 I4 (7, 0) 9 0) (7, 0) 7 0 (8, 0) 0 = up2 A4 (43, 0) 48 0 (43, 0) 25
          rw [hI5 (8, 0) 0 (by decide), i4 8 (by omega), c8 0 (by decide), t1, hA5 (43, 0) 25 (by decide), a4 43 25 (by omega), up_same]
        · refine Or.inr ?_
          show up2 (up2 I4 (7, 0) 9 0) (7, 0) 7 0 (8, 0) 0 = 1
          rw [hI5 (8, 0) 0 (by decide), i4 8 (by omega), c8 0 (by decide), t1]
        · show up2 (up2 I4 (7, 0) 9 0) (7, 0) 7 0 (7, 0) 2 = up2 A4 (43, 0) 48 0 (44, 0) 12
          rw [i7 2 (by decide) (by decide), a44 12 (by decide)]
          exact hf5.1
        · show up2 (up2 I4 (7, 0) 9 0) (7, 0) 7 0 (7, 0) 2 = -1 ∨ ∃ r, r < q ∧ up2 (up2 I4 (7, 0) 9 0) (7, 0) 7 0 (7, 0) 2 = nJ r
          rw [i7 2 (by decide) (by decide)]
          exact hf5.2
        · show up2 (up2 I4 (7, 0) 9 0) (7, 0) 7 0 (7, 0) 3 = up2 A4 (43, 0) 48 0 (44, 0) 11
          rw [i7 3 (by decide) (by decide), a44 11 (by decide)]
          exact hf6.1
        · show ¬ up2 (up2 I4 (7, 0) 9 0) (7, 0) 7 0 (7, 0) 3 < 0
          rw [i7 3 (by decide) (by decide)]
          exact hf6.2
        · show up2 (up2 I4 (7, 0) 9 0) (7, 0) 7 0 (7, 0) 7 = nJ 0
          exact up_same _ _ _ _
        · show up2 A4 (43, 0) 48 0 (44, 0) 10 = nJ 0
          rw [hA5 (44, 0) 10 (by decide), a4 44 10 (by omega), na 44 10 (by decide), m44z 10 (by decide) (by decide)]
          rfl
        · show up2 (up2 I4 (7, 0) 9 0) (7, 0) 7 0 (7, 0) 9 = nJ 0
          rw [up_neK _ _ (by decide), up_same]
          rfl
        · show up2 A4 (43, 0) 48 0 (43, 0) 48 = nJ 0
          exact up_same _ _ _ _
      · exact iAll a k (fun w => by rw [w] at a3; exact absurd a3 (by decide)) (by omega) (by omega) (fun w => by rw [w] at a3; exact absurd a3 (by decide)) (by omega) (fun w => by rw [w] at a3; exact absurd a3 (by decide)) (fun w => by rw [w] at a3; exact absurd a3 (by decide)) (fun w => by rw [w] at a3; exact absurd a3 (by decide))
      · exact aAll a k (nwc (Or.inr (Or.inl (by omega)))) (fun w => by rcases w with w | w | w | w | w | w | w | w <;> (rw [w] at ha; simp at ha)) (by omega) (fun w => by rw [w.1] at ha; simp at ha)
    have hfc : FrC I (up2 (up2 I4 (7, 0) 9 0) (7, 0) 7 0) := fun a ha => funext fun k => iAll a k (fun w => by rw [w] at ha; exact absurd ha (by decide)) (by omega) (by omega) (fun w => by rw [w] at ha; exact absurd ha (by decide)) (by omega) (fun w => by rw [w] at ha; exact absurd ha (by decide)) (fun w => by rw [w] at ha; exact absurd ha (by decide)) (fun w => by rw [w] at ha; exact absurd ha (by decide))
    have hfm : FrM A (up2 A4 (43, 0) 48 0) := fun a ha => funext fun k => aAll a k (nwc (by omega)) (fun w => by rcases w with w | w | w | w | w | w | w | w <;> (rw [w] at ha; exact absurd ha (by decide))) (by omega) (fun w => by rw [w.1] at ha; exact absurd ha (by decide))
    rw [o3, bV_some, gI_hh, gJ_hh, o4, bV_some, gI_hh, gJ_hh, o5, o6, bV_some, gI_hh, gJ_hh]
    have eA : A4 (44, 0) 1 = nJ T := by rw [a4 44 1 (by omega), na 44 1 (by decide), m44 1 (by decide), hD.2.1.2.2.1]
    have eI : I4 (8, 5) 2 = nJ T := by rw [i4 8 (by omega), cfr (8, 5) (by decide), hs5 8 (by decide), hD.2.1.2.1]
    rw [eA, eI]
    exact Cal.mk rfl rfl hrel hfc hfm
  · -- a fault
    rw [if_neg hf0, if_pos rfl, if_pos (lt_Ln (a := 0) (show 0 < f by omega) (by omega))]
    have hfc : FrC I (up2 I1 (1, 0) 1 0) := fun a ha => funext fun k => by
      rw [up_ne _ _ _ _ (fun w => by rw [w] at ha; exact absurd ha (by decide)), fr1 a k (by omega) (fun w => by rw [w] at ha; exact absurd ha (by decide)) (fun w => by rw [w] at ha; exact absurd ha (by decide)) (fun w => by rw [w] at ha; exact absurd ha (by decide)) (fun w => by rw [w.1] at ha; exact absurd ha (by decide))]
    have hfm : FrM A A1 := fun a ha => funext fun k => fr2 a k (by omega) (fun w => by rw [w.1] at ha; exact absurd ha (by decide))
    have iAll : ∀ a k, a.1 ≠ 1 → ¬ (a.2 = 5 ∧ 8 ≤ a.1 ∧ a.1 ≤ 16) → ¬ (3 ≤ a.1 ∧ a.1 ≤ 5) → up2 I1 (1, 0) 1 0 a k = I a k := fun a k h1 h2 h3 => by
      rw [up_ne _ _ _ _ (fun w => h1 (by rw [w])), fr1 a k h2 (fun w => h3 (by rw [w]; decide)) (fun w => h3 (by rw [w]; decide)) (fun w => h3 (by rw [w]; decide)) (fun w => h1 (by rw [w.1]))]
    refine Cal.mk rfl rfl ⟨q, tape _ _ (up_same _ _ _ _) m26, rules _ _ (fun a k ha => ?_) (fun a k ha => ?_), ?_, ImR_ext (I := I) (A := A) (fun a k a1 a2 a3 a4 => iAll a k (by omega) (by omega) (by omega)) (fun a k ha => fr2 a k (by omega) (fun w => by rw [w.1] at ha; simp at ha)) hIm⟩ hfc hfm
    · rcases ha with ⟨ha, hk⟩ | ha
      · rw [ha]
        exact iAll _ _ (by decide) (by decide) (by decide)
      · exact iAll a k (by omega) (by omega) (by omega)
    · rcases ha with ⟨ha, hk⟩ | ha
      · rw [ha]
        exact fr2 _ _ (by decide) (fun w => by omega)
      · exact fr2 a k (by omega) (fun w => by rw [w.1] at ha; exact absurd ha (by decide))
    · rw [scC_ext (I := I) (fun a k a1 a2 a3 => iAll a k (by omega) (by omega) (by omega)), scM_ext (A := A) (fun a k ha => ?_)]
      · exact hSc
      · rcases ha with ⟨ha, hk⟩ | ha | ha
        · rw [ha]
          exact fr2 _ _ (by decide) (fun w => by omega)
        · exact fr2 a k (by omega) (fun w => by rw [w.1] at ha; exact absurd ha (by decide))
        · exact fr2 a k (by omega) (fun w => by rw [w.1] at ha; exact absurd ha (by decide))
