/-! a comparison on both sides -/
theorem cCompares {I : IT} {J : JT} (d : Nat) (x : Int32) : ev d mRu_compares 0 [vI x] [] (hh I J) = some (some (vI (if x = 60 ∨ x = 61 ∨ x = 62 ∨ x = 316 ∨ x = 318 then 1 else 0)), hh I J) := by
  rw [eRu_compares_0]
  by_cases h1 : x = 60
  · rw [if_pos h1, if_pos (Or.inl h1)]
  · rw [if_neg h1]
    by_cases h2 : x = 61
    · rw [if_pos h2, if_pos (Or.inr (Or.inl h2))]
    · rw [if_neg h2]
      by_cases h3 : x = 62
      · rw [if_pos h3, if_pos (Or.inr (Or.inr (Or.inl h3)))]
      · rw [if_neg h3]
        by_cases h4 : x = 316
        · rw [if_pos h4, if_pos (Or.inr (Or.inr (Or.inr (Or.inl h4))))]
        · rw [if_neg h4]
          by_cases h5 : x = 318
          · rw [if_pos h5, if_pos (Or.inr (Or.inr (Or.inr (Or.inr h5))))]
          · rw [if_neg h5, if_neg (fun z => by
              rcases z with z | z | z | z | z
              · exact h1 z
              · exact h2 z
              · exact h3 z
              · exact h4 z
              · exact h5 z)]
theorem FrL.u5 {r : Nat} {I : IT} {x : Int32} : FrL r I (up2 I (37, r) 5 x) := fun a k h1 _ _ => by rw [up_at, if_neg (fun z => h1 ⟨z.1, Or.inr z.2⟩)]
theorem FlC.pc {I : IT} {by_ : Nat → Nat} {n tk r f K : Nat} (h : FlC I by_ n tk r f K) : FlC (up2 I (37, r) 5 (I (37, r) 5 + 1)) by_ n tk r f (K + 1) := by
  obtain ⟨i, sz, pc, h1, h2, h3, h4, h5, h6, h7, h8⟩ := h
  refine ⟨i, sz, pc + 1, FrL.u5.tks h1, h2, ?_, ?_, (up_neK _ _ (by decide)).trans h5, h6, ?_, by omega⟩
  · rw [up_ne _ _ _ _ (fun z => by have := (Prod.mk.inj z).1; omega)]; exact h3
  · rw [up_ne _ _ _ _ (fun z => by have := (Prod.mk.inj z).1; omega)]; exact h4
  · rw [up_same, h7, nJ_succ]
theorem cCountF {I : IT} {J : JT} {by_ : Nat → Nat} {n tk r f K : Nat} (d : Nat) (x : Int32) (hf : f ≠ 0) (hl : f < 100000) (h : FlC I by_ n tk r f K) : ∃ I', ev (d + 1) mRu_countSign 0 [vR (37, r), vR (1, 0), vI x] [] (hh I J) = some (none, hh I' J) ∧ FrL r I I' ∧ FlC I' by_ n tk r f (K + 1) := by
  have h7 := h.n0 hf hl
  refine ⟨_, ?_, FrL.u5, h.pc⟩
  have h7' := h.pc.n0 hf hl
  rw [eRu_countSign_0, cCompares, bI_some]
  simp only [gI_hh, gJ_hh]
  rw [cFailN d _ h7, cFailN d _ h7]
  simp only [bV_some, gI_hh, gJ_hh]
  rw [cSkipN d h7', bV_some, gI_hh, gJ_hh]
  repeat' split
  all_goals rfl
theorem mCmpF {A : IT} {B : JT} {by_ : Nat → Nat} {n r f K : Nat} (d : Nat) (hf : f ≠ 0) (hl : f < 100000) (hK : K < 80000) (h : FlM A by_ n f K) : ∃ A', cmpK (d + 7) A B = some (none, hh A' B) ∧ FrN r A A' ∧ FlM A' by_ n f (K + 2) := by
  have h28 := h.n0 hf hl
  have h0 := h
  obtain ⟨p, pc, h1, h2, h3, h4, h5, h6, h7⟩ := h
  by_cases hc : p < n ∧ (by_ p = 60 ∨ by_ p = 61 ∨ by_ p = 62)
  · obtain ⟨c, e, hbc, he⟩ : ∃ c e, ((by_ p = 60 ∧ c = 60 ∧ e = 0) ∨ (by_ p = 60 ∧ c = 316 ∧ e = 1) ∨ (by_ p = 61 ∧ c = 61 ∧ e = 0) ∨ (by_ p = 62 ∧ c = 62 ∧ e = 0) ∨ (by_ p = 62 ∧ c = 318 ∧ e = 1)) ∧ e = if by_ p ≠ 61 ∧ p + 1 < n ∧ by_ (p + 1) = 61 then 1 else 0 := by
      by_cases q : p + 1 < n ∧ by_ (p + 1) = 61
      · rcases hc.2 with z | z | z
        · exact ⟨316, 1, Or.inr (Or.inl ⟨z, rfl, rfl⟩), by rw [if_pos ⟨by omega, q⟩]⟩
        · exact ⟨61, 0, Or.inr (Or.inr (Or.inl ⟨z, rfl, rfl⟩)), by rw [if_neg (fun w => w.1 z)]⟩
        · exact ⟨318, 1, Or.inr (Or.inr (Or.inr (Or.inr ⟨z, rfl, rfl⟩))), by rw [if_pos ⟨by omega, q⟩]⟩
      · rcases hc.2 with z | z | z
        · exact ⟨60, 0, Or.inl ⟨z, rfl, rfl⟩, by rw [if_neg (fun w => q w.2)]⟩
        · exact ⟨61, 0, Or.inr (Or.inr (Or.inl ⟨z, rfl, rfl⟩)), by rw [if_neg (fun w => w.1 z)]⟩
        · exact ⟨62, 0, Or.inr (Or.inr (Or.inr (Or.inl ⟨z, rfl, rfl⟩))), by rw [if_neg (fun w => q w.2)]⟩
    have hcn : cntF A pc p = up2 A (43, 0) 33 (nJ (pc + 1)) := by
      unfold cntF
      rw [if_neg (fun z => h28 z.2)]
    have hpe : p + 1 + e ≤ n := by
      split at he <;> omega
    have hF : FlM (spp (cntF A pc p) (p + 1 + e)) by_ n f (K + 1) := by
      rw [hcn]
      exact (h0.up (by omega)).p hpe
    obtain ⟨A', s1, s2, s3⟩ := mSumF (B := B) (r := r) d hf hl (by omega) hF
    refine ⟨A', ?_, FrN.tr (FrN.tr mCnt_fr FrN.u27) s2, s3⟩
    rw [mCmpGo (d + 6) h1 h2 hc.1 rfl hc.2 h5 (by omega) he, mCmp40 (d + 7) (spp_27 _ _) hbc, spp_spp, s1, bV_some, gI_hh, gJ_hh, mEntryN (d + 7) _ _ (s3.n0 hf hl), bV_some, gI_hh, gJ_hh]
  · refine ⟨A, ?_, FrN.rf r A, h0.K (by omega)⟩
    rw [mCmpNo (d + 7) h1 h2 h3 hc, mFailsN (d + 7) _ _ h28, bV_some, gI_hh, gJ_hh]
/-- the class behind the first sum, with a fault -/
theorem cCmpF {I : IT} {J : JT} {by_ : Nat → Nat} {n tk r f K : Nat} (d : Nat) (x : Int32) (hf : f ≠ 0) (hl : f < 100000) (hK : K < 80000) (h : FlC I by_ n tk r f K) : ∃ I', bV (ev (d + 2) mRu_countSign 0 [vR (37, r), vR (1, 0), vI x] [] (hh I J)) (fun h3 => bV (ev (d + 2) mRu_readSum 0 [vR (37, r), vR (1, 0), vU, vU, vU, vU] [] (hh (gI h3) (gJ h3))) (fun h4 => bV (ev (d + 2) mRu_put 0 [vR (37, r), vI x] [] (hh (gI h4) (gJ h4))) (fun h5 => some (none, hh (gI h5) (gJ h5))))) = some (none, hh I' J) ∧ FrL r I I' ∧ FlC I' by_ n tk r f (K + 2) := by
  obtain ⟨I1, a1, a2, a3⟩ := cCountF (J := J) (d + 1) x hf hl h
  obtain ⟨I2, b1, b2, b3⟩ := cSumF (J := J) d hf hl (by omega) a3
  obtain ⟨I3, c1, c2, c3⟩ := b3.put (J := J) (d + 2) x
  refine ⟨I3, ?_, (a2.tr b2).tr c2, c1⟩
  rw [a1, bV_some, gI_hh, gJ_hh, b1, bV_some, gI_hh, gJ_hh, c3, bV_some, gI_hh, gJ_hh]
