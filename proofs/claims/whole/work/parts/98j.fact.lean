/-! a comparison in the reference -/
theorem mCnt_fr {A : IT} {r pc s : Nat} : FrN r A (if pc = 60 ∧ A (43, 0) 28 = 0 then up2 (up2 A (43, 0) 28 (nJ (1 + 8 * s + 3))) (43, 0) 33 (nJ (pc + 1)) else up2 A (43, 0) 33 (nJ (pc + 1))) := by
  split
  · exact FrN.tr (FrN.y FrY.u28) FrN.u33
  · exact FrN.u33
/-- how the reference goes on behind the first sum -/
noncomputable def cmpK (d : Nat) (A : IT) (B : JT) : Option Rs := bI (ev d mMo_sign 0 [vR (43, 0)] [] (hh A B)) (fun r2 h2 => if r2 = 60 then bV (ev d mMo_isCounted 0 [vR (43, 0), vI ((gI h2) (43, 0) 27)] [] (hh (gI h2) (gJ h2))) (fun h3 => if r2 = 61 then ev (d + 1) mMo_compared 40 [vR (43, 0), vI r2, vU] [vI 0] (hh (up2 (gI h3) (43, 0) 27 (((gI h3) (43, 0) 27) + 1)) (gJ h3)) else bI (ev d mMo_sign 0 [vR (43, 0)] [] (hh (up2 (gI h3) (43, 0) 27 (((gI h3) (43, 0) 27) + 1)) (gJ h3))) (fun r4 h4 => if r4 = 61 then ev (d + 1) mMo_compared 40 [vR (43, 0), vI r2, vU] [vI 1] (hh (gI h4) (gJ h4)) else ev (d + 1) mMo_compared 40 [vR (43, 0), vI r2, vU] [vI 0] (hh (gI h4) (gJ h4)))) else if r2 = 61 then bV (ev d mMo_isCounted 0 [vR (43, 0), vI ((gI h2) (43, 0) 27)] [] (hh (gI h2) (gJ h2))) (fun h5 => if r2 = 61 then ev (d + 1) mMo_compared 40 [vR (43, 0), vI r2, vU] [vI 0] (hh (up2 (gI h5) (43, 0) 27 (((gI h5) (43, 0) 27) + 1)) (gJ h5)) else bI (ev d mMo_sign 0 [vR (43, 0)] [] (hh (up2 (gI h5) (43, 0) 27 (((gI h5) (43, 0) 27) + 1)) (gJ h5))) (fun r6 h6 => if r6 = 61 then ev (d + 1) mMo_compared 40 [vR (43, 0), vI r2, vU] [vI 1] (hh (gI h6) (gJ h6)) else ev (d + 1) mMo_compared 40 [vR (43, 0), vI r2, vU] [vI 0] (hh (gI h6) (gJ h6)))) else if r2 = 62 then bV (ev d mMo_isCounted 0 [vR (43, 0), vI ((gI h2) (43, 0) 27)] [] (hh (gI h2) (gJ h2))) (fun h7 => if r2 = 61 then ev (d + 1) mMo_compared 40 [vR (43, 0), vI r2, vU] [vI 0] (hh (up2 (gI h7) (43, 0) 27 (((gI h7) (43, 0) 27) + 1)) (gJ h7)) else bI (ev d mMo_sign 0 [vR (43, 0)] [] (hh (up2 (gI h7) (43, 0) 27 (((gI h7) (43, 0) 27) + 1)) (gJ h7))) (fun r8 h8 => if r8 = 61 then ev (d + 1) mMo_compared 40 [vR (43, 0), vI r2, vU] [vI 1] (hh (gI h8) (gJ h8)) else ev (d + 1) mMo_compared 40 [vR (43, 0), vI r2, vU] [vI 0] (hh (gI h8) (gJ h8)))) else bV (ev d mMo_fails 0 [vR (43, 0), vI 0, vI ((gI h2) (43, 0) 27)] [] (hh (gI h2) (gJ h2))) (fun h9 => some (none, hh (gI h9) (gJ h9))))
theorem cmpK_0 {A : IT} {B : JT} (d : Nat) : ev (d + 1) mMo_compared 0 [vR (43, 0), vU, vU] [] (hh A B) = bV (ev d mMo_sum 0 [vR (43, 0), vU] [] (hh A B)) (fun h1 => cmpK d (gI h1) (gJ h1)) := by
  rw [eMo_compared_0]
  rfl
/-- the state behind the counting of a sign -/
noncomputable def cntF (A : IT) (pc s : Nat) : IT := if pc = 60 ∧ A (43, 0) 28 = 0 then up2 (up2 A (43, 0) 28 (nJ (1 + 8 * s + 3))) (43, 0) 33 (nJ (pc + 1)) else up2 A (43, 0) 33 (nJ (pc + 1))
theorem cntF_o {A : IT} {pc s : Nat} {a : Ad} {k : Nat} (h : ¬ (a = (43, 0) ∧ (k = 28 ∨ k = 33))) : cntF A pc s a k = A a k := by
  unfold cntF
  split
  · rw [up_at, if_neg (fun z => h ⟨z.1, Or.inr z.2⟩), up_at, if_neg (fun z => h ⟨z.1, Or.inl z.2⟩)]
  · rw [up_at, if_neg (fun z => h ⟨z.1, Or.inr z.2⟩)]
theorem cntF_bt {A : IT} {by_ : Nat → Nat} {n pc s : Nat} (h : BtM A by_ n) : BtM (cntF A pc s) by_ n := ⟨h.1, (cntF_o (by decide)).trans h.2.1, fun k hk => ⟨(h.2.2 k hk).1, (cntF_o (fun z => by have := (Prod.mk.inj z.1).1; omega)).trans (h.2.2 k hk).2⟩⟩
theorem mCmpNo {A : IT} {B : JT} {by_ : Nat → Nat} {n s : Nat} (d : Nat) (hM : BtM A by_ n) (h27 : A (43, 0) 27 = nJ s) (hs : s ≤ n) (hc : ¬ (s < n ∧ (by_ s = 60 ∨ by_ s = 61 ∨ by_ s = 62))) : cmpK d A B = bV (ev d mMo_fails 0 [vR (43, 0), vI 0, vI (nJ s)] [] (hh A B)) (fun h9 => some (none, hh (gI h9) (gJ h9))) := by
  have hb : ∀ k, k < n → by_ k < 256 := fun k hk => (hM.2.2 k hk).1
  have hn := hM.1
  have sg := mSign (B := B) d hM h27 (by omega)
  have n0 : ¬ sgn by_ n s = 60 := fun z => hc ⟨(Eq.mp (sgn_is (c := 60) hb (by decide)) z).1, Or.inl (Eq.mp (sgn_is (c := 60) hb (by decide)) z).2⟩
  have n1 : ¬ sgn by_ n s = 61 := fun z => hc ⟨(Eq.mp (sgn_is (c := 61) hb (by decide)) z).1, Or.inr (Or.inl (Eq.mp (sgn_is (c := 61) hb (by decide)) z).2)⟩
  have n2 : ¬ sgn by_ n s = 62 := fun z => hc ⟨(Eq.mp (sgn_is (c := 62) hb (by decide)) z).1, Or.inr (Or.inr (Eq.mp (sgn_is (c := 62) hb (by decide)) z).2)⟩
  unfold cmpK
  rw [sg, bI_some, if_neg n0, if_neg n1, if_neg n2, gI_hh, gJ_hh, h27]
theorem mCmpGo {A : IT} {B : JT} {by_ : Nat → Nat} {n s b pc e : Nat} (d : Nat) (hM : BtM A by_ n) (h27 : A (43, 0) 27 = nJ s) (hs : s < n) (hb : by_ s = b) (hb3 : b = 60 ∨ b = 61 ∨ b = 62) (h33 : A (43, 0) 33 = nJ pc) (hpc : pc ≤ 100000) (he : e = if b ≠ 61 ∧ s + 1 < n ∧ by_ (s + 1) = 61 then 1 else 0) : cmpK (d + 1) A B = ev (d + 2) mMo_compared 40 [vR (43, 0), vI (nJ b), vU] [vI (nJ e)] (hh (spp (cntF A pc s) (s + 1)) B) := by
  have hbb : ∀ k, k < n → by_ k < 256 := fun k hk => (hM.2.2 k hk).1
  have hn := hM.1
  have sg := mSign (B := B) (d + 1) hM h27 (by omega)
  have hsg : sgn by_ n s = nJ b := by
    unfold sgn
    rw [if_pos hs, hb]
  have hc : ev (d + 1) mMo_isCounted 0 [vR (43, 0), vI (nJ s)] [] (hh A B) = some (none, hh (cntF A pc s) B) := mCnt d h33 hpc
  have h27' : cntF A pc s (43, 0) 27 + 1 = nJ (s + 1) := by
    rw [cntF_o (by decide), h27, nJ_succ]
  have sg2 := mSign (A := spp (cntF A pc s) (s + 1)) (B := B) (d + 1) (spp_bt (cntF_bt hM)) (spp_27 _ _) (by omega)
  unfold cmpK
  rw [sg, bI_some, hsg]
  simp only [gI_hh, gJ_hh]
  rw [h27, hc]
  simp only [bV_some, gI_hh, gJ_hh]
  rw [h27', show up2 (cntF A pc s) (43, 0) 27 (nJ (s + 1)) = spp (cntF A pc s) (s + 1) from rfl, sg2]
  simp only [bI_some, gI_hh, gJ_hh]
  have h61 : (sgn by_ n (s + 1) = 61) = (s + 1 < n ∧ by_ (s + 1) = 61) := sgn_is (c := 61) hbb (by decide)
  rcases hb3 with rfl | rfl | rfl
  · rw [if_pos (show nJ 60 = 60 from rfl), if_neg (show ¬ nJ 60 = 61 by decide)]
    by_cases q : s + 1 < n ∧ by_ (s + 1) = 61
    · rw [if_pos (Eq.mpr h61 q), he, if_pos ⟨by decide, q⟩]
      rfl
    · rw [if_neg (fun z => q (Eq.mp h61 z)), he, if_neg (fun z => q z.2)]
      rfl
  · rw [if_neg (show ¬ nJ 61 = 60 by decide), if_pos (show nJ 61 = 61 from rfl), if_pos (show nJ 61 = 61 from rfl), he, if_neg (fun z => z.1 rfl)]
    rfl
  · rw [if_neg (show ¬ nJ 62 = 60 by decide), if_neg (show ¬ nJ 62 = 61 by decide), if_pos (show nJ 62 = 62 from rfl), if_neg (show ¬ nJ 62 = 61 by decide)]
    by_cases q : s + 1 < n ∧ by_ (s + 1) = 61
    · rw [if_pos (Eq.mpr h61 q), he, if_pos ⟨by decide, q⟩]
      rfl
    · rw [if_neg (fun z => q (Eq.mp h61 z)), he, if_neg (fun z => q z.2)]
      rfl
/-- what the reference enters for a sign -/
def kkF (b e : Nat) : Nat := if b = 61 then 6 else if b = 60 then (if e = 0 then 4 else 5) else if e = 0 then 8 else 7
theorem mCmp40 {A : IT} {B : JT} {q b e c : Nat} (d : Nat) (h27 : A (43, 0) 27 = nJ q) (hbc : (b = 60 ∧ c = 60 ∧ e = 0) ∨ (b = 60 ∧ c = 316 ∧ e = 1) ∨ (b = 61 ∧ c = 61 ∧ e = 0) ∨ (b = 62 ∧ c = 62 ∧ e = 0) ∨ (b = 62 ∧ c = 318 ∧ e = 1)) : ev (d + 1) mMo_compared 40 [vR (43, 0), vI (nJ b), vU] [vI (nJ e)] (hh A B) = bV (ev d mMo_sum 0 [vR (43, 0), vU] [] (hh (spp A (q + e)) B)) (fun h1 => bV (ev d mMo_entry 0 [vR (43, 0), vI (nJ (kkF b e)), vI 0] [] (hh (gI h1) (gJ h1))) (fun h2 => some (none, hh (gI h2) (gJ h2)))) := by
  rw [eMo_compared_40, h27]
  have e0 : up2 A (43, 0) 27 (nJ q + 0) = spp A (q + 0) := by
    rw [show (0 : Int32) = nJ 0 from rfl, nJ_add]
    rfl
  have e1 : up2 A (43, 0) 27 (nJ q + 1) = spp A (q + 1) := by
    rw [nJ_succ]
    rfl
  rcases hbc with ⟨rfl, -, rfl⟩ | ⟨rfl, -, rfl⟩ | ⟨rfl, -, rfl⟩ | ⟨rfl, -, rfl⟩ | ⟨rfl, -, rfl⟩
  · rw [if_pos (show nJ 0 = 0 from rfl), e0]
    rfl
  · rw [if_neg (show ¬ nJ 1 = 0 by decide), e1]
    rfl
  · rw [if_pos (show nJ 0 = 0 from rfl), e0]
    rfl
  · rw [if_pos (show nJ 0 = 0 from rfl), e0]
    rfl
  · rw [if_neg (show ¬ nJ 1 = 0 by decide), e1]
    rfl
