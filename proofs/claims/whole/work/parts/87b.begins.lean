/-- the walk of the reference at its beginning -/
def BgM (A A' : IT) : Prop := (∀ k, 5 ≤ k → k < 10 → A' (44, 0) k = 0) ∧ (∀ k, k < 3 → A' (53, 0) k = 0 ∧ A' (54, 0) k = 0 ∧ A' (55, 0) k = A (60, 0) k ∧ A' (56, 0) k = 0) ∧ (∀ k, k < 6 → A' (51, 0) k = -1 ∧ A' (52, 0) k = -1) ∧ FwM A A'
theorem mCop (d : Nat) (A : IT) (B : JT) : Tr (ev d mMo_copies 0 [vR (60, 0), vR (55, 0), vU] [] (hh A B)) (fun v A' B' => v = none ∧ (∀ k, k < 3 → A' (55, 0) k = A (60, 0) k) ∧ (∀ b i, ¬ (b = (55, 0) ∧ i < 3) → A' b i = A b i) ∧ B' = B) := by
  have st : ∀ k (A : IT), k < 3 → ev d mMo_copies 2 [vR (60, 0), vR (55, 0), vI (nJ k)] [] (hh A B) = ev d mMo_copies 2 [vR (60, 0), vR (55, 0), vI (nJ (k + 1))] [] (hh (up2 A (55, 0) k (A (60, 0) k)) B) := fun k A hk => by
    rw [eMo_copies_60_55_2, if_pos (lt_nL (b := 3) hk (by decide)), bnd hk (by omega), bnd hk (by omega), nJ_nat (by omega), nJ_succ]
  rw [eMo_copies_60_55_0]
  show Tr (ev d mMo_copies 2 [vR (60, 0), vR (55, 0), vI (nJ 0)] [] (hh A B)) _
  rw [st 0 _ (by decide), st 1 _ (by decide), st 2 _ (by decide), eMo_copies_60_55_2, if_neg (show ¬ nJ (2 + 1) < 3 by decide)]
  refine Tr.ret ⟨rfl, fun k hk => ?_, fun b i hb => ?_, rfl⟩
  · have : k = 0 ∨ k = 1 ∨ k = 2 := by omega
    rcases this with rfl | rfl | rfl <;> simp [up2]
  · rw [up_at, if_neg (fun z => hb ⟨z.1, by omega⟩), up_at, if_neg (fun z => hb ⟨z.1, by omega⟩), up_at, if_neg (fun z => hb ⟨z.1, by omega⟩)]
theorem mBegins (d : Nat) (A : IT) (B : JT) : Tr (ev (d + 1) mMo_begins 0 [vR (43, 0), vU] [] (hh A B)) (fun v A' B' => v = none ∧ BgM A A' ∧ B' = B) := by
  rw [eMo_begins_0]
  refine Tr.bV ((mCop d A B).mono fun v A1 B1 ⟨a1, a2, a3, a4⟩ => ⟨a1, ?_⟩)
  obtain ⟨A2, e2, h2⟩ := fill_go (f := fun k I J => ev (d + 1) mMo_begins 7 [vR (43, 0), vI (nJ k)] [] (hh I J)) (P := fun b => b = (44, 0)) (x := fun _ => 0) (n := 10) (g := fun k I => up2 I (44, 0) k 0) (fun k I b i => up_at _ _ _ _ _ _) (fun k I J hk => by
    show ev (d + 1) mMo_begins 7 [vR (43, 0), vI (nJ k)] [] (hh I J) = ev (d + 1) mMo_begins 7 [vR (43, 0), vI (nJ (k + 1))] [] (hh (up2 I (44, 0) k 0) J)
    rw [eMo_begins_7, if_pos (lt_nL (b := 10) hk (by decide)), bnd (show k < 13 by omega) (by omega), nJ_nat (by omega), nJ_succ]) 5 5 A1 B1 rfl
  have e2 : ev (d + 1) mMo_begins 7 [vR (43, 0), vI 5] [] (hh A1 B1) = ev (d + 1) mMo_begins 7 [vR (43, 0), vI (nJ 10)] [] (hh A2 B1) := e2
  obtain ⟨A3, e3, h3⟩ := fill_go (f := fun k I J => ev (d + 1) mMo_begins 19 [vR (43, 0), vI (nJ k)] [] (hh I J)) (P := fun b => b = (51, 0) ∨ b = (52, 0)) (x := fun _ => -1) (n := 6) (g := fun k I => up2 (up2 I (51, 0) k (-1)) (52, 0) k (-1)) (fun k I b i => by
      show up2 (up2 I (51, 0) k (-1)) (52, 0) k (-1) b i = _
      rw [up_at, up_at]
      by_cases c1 : b = (52, 0)
      · subst c1
        by_cases c2 : i = k
        · rw [if_pos ⟨rfl, c2⟩, if_pos ⟨Or.inr rfl, c2⟩]
        · rw [if_neg (fun z => c2 z.2), if_neg (fun z => c2 z.2), if_neg (fun z => c2 z.2)]
      · rw [if_neg (fun z => c1 z.1)]
        by_cases c2 : b = (51, 0)
        · subst c2
          by_cases c3 : i = k
          · rw [if_pos ⟨rfl, c3⟩, if_pos ⟨Or.inl rfl, c3⟩]
          · rw [if_neg (fun z => c3 z.2), if_neg (fun z => c3 z.2)]
        · rw [if_neg (fun z => c2 z.1), if_neg (fun z => z.1.elim c2 c1)]) (fun k I J hk => by
    show ev (d + 1) mMo_begins 19 [vR (43, 0), vI (nJ k)] [] (hh I J) = ev (d + 1) mMo_begins 19 [vR (43, 0), vI (nJ (k + 1))] [] (hh (up2 (up2 I (51, 0) k (-1)) (52, 0) k (-1)) J)
    rw [eMo_begins_19, if_pos (lt_nL (b := 6) hk (by decide)), bnd hk (by omega), bnd hk (by omega), nJ_nat (by omega), nJ_succ]) 6 0 A2 B1 rfl
  have e3 : ev (d + 1) mMo_begins 19 [vR (43, 0), vI 0] [] (hh A2 B1) = ev (d + 1) mMo_begins 19 [vR (43, 0), vI (nJ 6)] [] (hh A3 B1) := e3
  obtain ⟨A4, e4, h4⟩ := fill_go (f := fun k I J => ev (d + 1) mMo_begins 36 [vR (43, 0), vI (nJ k)] [] (hh I J)) (P := fun b => b = (53, 0) ∨ b = (54, 0) ∨ b = (56, 0)) (x := fun _ => 0) (n := 3) (g := fun k I => up2 (up2 (up2 I (53, 0) k 0) (54, 0) k 0) (56, 0) k 0) (fun k I b i => by
      show up2 (up2 (up2 I (53, 0) k 0) (54, 0) k 0) (56, 0) k 0 b i = _
      rw [up_at, up_at, up_at]
      by_cases c2 : i = k
      · by_cases c1 : b = (56, 0)
        · rw [if_pos ⟨c1, c2⟩, if_pos ⟨Or.inr (Or.inr c1), c2⟩]
        · rw [if_neg (fun z => c1 z.1)]
          by_cases c3 : b = (54, 0)
          · rw [if_pos ⟨c3, c2⟩, if_pos ⟨Or.inr (Or.inl c3), c2⟩]
          · rw [if_neg (fun z => c3 z.1)]
            by_cases c4 : b = (53, 0)
            · rw [if_pos ⟨c4, c2⟩, if_pos ⟨Or.inl c4, c2⟩]
            · rw [if_neg (fun z => c4 z.1), if_neg (fun z => z.1.elim c4 (fun y => y.elim c3 c1))]
      · rw [if_neg (fun z => c2 z.2), if_neg (fun z => c2 z.2), if_neg (fun z => c2 z.2), if_neg (fun z => c2 z.2)]) (fun k I J hk => by
    show ev (d + 1) mMo_begins 36 [vR (43, 0), vI (nJ k)] [] (hh I J) = ev (d + 1) mMo_begins 36 [vR (43, 0), vI (nJ (k + 1))] [] (hh (up2 (up2 (up2 I (53, 0) k 0) (54, 0) k 0) (56, 0) k 0) J)
    rw [eMo_begins_36, if_pos (lt_nL (b := 3) hk (by decide)), bnd hk (by omega), bnd hk (by omega), bnd hk (by omega), nJ_nat (by omega), nJ_succ]) 3 0 A3 B1 rfl
  have e4 : ev (d + 1) mMo_begins 36 [vR (43, 0), vI 0] [] (hh A3 B1) = ev (d + 1) mMo_begins 36 [vR (43, 0), vI (nJ 3)] [] (hh A4 B1) := e4
  rw [gI_hh, gJ_hh, e2, eMo_begins_7, if_neg (show ¬ nJ 10 < 10 by decide), e3, eMo_begins_19, if_neg (show ¬ nJ 6 < 6 by decide), e4, eMo_begins_36, if_neg (show ¬ nJ 3 < 3 by decide)]
  have k4 : ∀ b i, ¬ (b = (53, 0) ∨ b = (54, 0) ∨ b = (56, 0)) → A4 b i = A3 b i := fun b i hb => (h4 b i).trans (if_neg (fun z => hb z.1))
  have k3 : ∀ b i, ¬ (b = (51, 0) ∨ b = (52, 0)) → A3 b i = A2 b i := fun b i hb => (h3 b i).trans (if_neg (fun z => hb z.1))
  refine Tr.ret ⟨rfl, ⟨fun k h5 h6 => ?_, fun k hk => ⟨?_, ?_, ?_, ?_⟩, fun k hk => ⟨?_, ?_⟩, fun a k ha => ?_⟩, a4⟩
  · rw [k4 (44, 0) k (by decide), k3 (44, 0) k (by decide), h2, if_pos ⟨rfl, h5, h6⟩]
  · rw [h4, if_pos ⟨Or.inl rfl, Nat.zero_le k, hk⟩]
  · rw [h4, if_pos ⟨Or.inr (Or.inl rfl), Nat.zero_le k, hk⟩]
  · rw [k4 (55, 0) k (by decide), k3 (55, 0) k (by decide), h2, if_neg (fun z => by cases z.1), a2 k hk]
  · rw [h4, if_pos ⟨Or.inr (Or.inr rfl), Nat.zero_le k, hk⟩]
  · rw [k4 (51, 0) k (by decide), h3, if_pos ⟨Or.inl rfl, Nat.zero_le k, hk⟩]
  · rw [k4 (52, 0) k (by decide), h3, if_pos ⟨Or.inr rfl, Nat.zero_le k, hk⟩]
  · rw [h4, if_neg (fun z => ha (Or.inr (Or.inr ?_))), h3, if_neg (fun z => ha (Or.inr (Or.inl ⟨z.1, by omega⟩))), h2, if_neg (fun z => ha (Or.inl ⟨z.1, by omega⟩)), a3 a k (fun z => ha (Or.inr (Or.inr ⟨by rw [z.1]; decide, z.2⟩)))]
    obtain ⟨z1, z2⟩ := z
    rcases z1 with e | e | e <;> rw [e] <;> exact ⟨by decide, by omega⟩
/-- both begin alike -/
theorem bg_wk {I A I' A' : IT} {n T S N : Nat} (hro : RoR (scC I 0) (scM A) T S N) (hc : BgC I I' n 0) (hm : BgM A A') : WkR (scC I' n) (scM A') T S N 10 := by
  obtain ⟨c1, c2, c3, -⟩ := hc
  obtain ⟨m1, m2, m3, -⟩ := hm
  have hN := hro.1.2.2.1
  have hS := hro.1.2.1
  have hT := hro.1.2.2.2
  refine ⟨?_, ⟨0, by decide, ?_, ?_⟩, ⟨0, by decide, ?_, ?_⟩, ⟨0, by decide, ?_, ?_⟩, ⟨0, by decide, ?_, fun k hk => ?_⟩, fun w hw => ?_, fun k hk => ?_, fun k h1 h2 => ?_⟩
  · exact (c1 0 (by decide)).trans (m1 5 (by decide) (by decide)).symm
  · exact c1 1 (by decide)
  · exact m1 6 (by decide) (by decide)
  · exact c1 2 (by decide)
  · exact m1 7 (by decide) (by decide)
  · exact c1 3 (by decide)
  · exact m1 8 (by decide) (by decide)
  · exact m1 9 (by decide) (by decide)
  · rw [Nat.zero_testBit]
    exact ⟨fun z => (by cases z), fun z => absurd (c3 k (by omega)).2 z⟩
  · obtain ⟨a1, a2, a3, a4⟩ := c2 w (by omega)
    obtain ⟨b1, b2, b3, b4⟩ := m2 w (by omega)
    obtain ⟨p1, t, p2, p3⟩ := hro.2.2.2.2.2 w hw
    refine ⟨⟨a1.trans b1.symm, 0, hT (by omega), a1⟩, ⟨a2.trans b2.symm, 0, by decide, a2⟩, ⟨a3.trans (p1.trans b3.symm), t, by omega, a3.trans p3⟩, a4.trans b4.symm⟩
  · exact ⟨⟨(c3 k (by omega)).1.trans (m3 k (by omega)).1.symm, Or.inl (c3 k (by omega)).1⟩, ⟨(c3 k (by omega)).2.trans (m3 k (by omega)).2.symm, Or.inl (c3 k (by omega)).2⟩⟩
  · exact (c3 k h2).1
