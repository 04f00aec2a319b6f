/-! CUT into tokens -/
def tvF (by_ : Nat → Nat) (n k1 p : Nat) : Int32 := if kB (by_ p) = 1 then wfd (std by_ n p) (wlK k1) 0 else if kB (by_ p) = 2 then nvF by_ n p else nJ (by_ p + (if 1 < enk by_ n p - p then 256 else 0))
def cut1 (I : IT) (by_ : Nat → Nat) (n k1 tk p : Nat) : IT := up2 (up2 (up2 (up2 I (3, 0) tk (nJ (kB (by_ p)))) (5, 0) tk (nJ p)) (4, 0) tk (tvF by_ n k1 p)) (1, 0) 5 (nJ (tk + 1))
theorem cCutOne {I : IT} {J : JT} {by_ : Nat → Nat} {n p k1 tk : Nat} (d : Nat) (hk : k1 < 2) (h : BtC I by_ n) (hp : p < n) (e5 : I (1, 0) 5 = nJ tk) (ht : tk < 400) : ev (d + 1) mTe_cutOne 0 [vR (1, 0), vI (nJ p), vI (nJ (enk by_ n p)), vR (99, k1), vU] [] (hh I J) = some (none, hh (if by_ p = 32 then I else cut1 I by_ n k1 tk p) J) := by
  obtain ⟨hn, e1, hb⟩ := h
  obtain ⟨b1, b2⟩ := hb p hp
  have hkl := kB_lt (by_ p)
  have hg := enk_gt (by_ := by_) (n := n) (p := p)
  have hl := enk_le (by_ := by_) hp
  have h1 : BtC (up2 (up2 I (3, 0) tk (nJ (kB (by_ p)))) (5, 0) tk (nJ p)) by_ n := ⟨hn, by rw [up_ne _ _ _ _ (by decide), up_ne _ _ _ _ (by decide)]; exact e1, fun k hk => by rw [up_ne _ _ _ _ (by decide), up_ne _ _ _ _ (by decide)]; exact hb k hk⟩
  have e5' : up2 (up2 I (3, 0) tk (nJ (kB (by_ p)))) (5, 0) tk (nJ p) (1, 0) 5 = nJ tk := by rw [up_ne _ _ _ _ (by decide), up_ne _ _ _ _ (by decide)]; exact e5
  rw [eTe_cutOne_0, bnd (show p < 400 by omega) (by omega), nJ_nat (show p < 2147483648 by omega), b2, cSort d _ b1, bI_some]
  simp only [gI_hh, gJ_hh, e5, nJ_nat (show tk < 2147483648 by omega), bnk (show tk < 401 by omega) (by omega), bnk (show p < 400 by omega) (by omega)]
  by_cases h4 : kB (by_ p) = 4
  · rw [if_pos (show nJ (kB (by_ p)) = 4 by rw [h4]; rfl), if_pos (kB4.mp h4)]
  · rw [if_neg (ne_nL (b := 4) h4 (by omega) (by decide)), if_neg (fun z => h4 (kB4.mpr z)), if_pos (lt_nL (b := 400) ht (by decide))]
    unfold cut1 tvF
    by_cases h1' : kB (by_ p) = 1
    · rw [if_pos (show nJ (kB (by_ p)) = 1 by rw [h1']; rfl), if_pos h1', cWord d hk h1 hp h1', bI_some, gI_hh, gJ_hh, e5', nJ_succ]
    · rw [if_neg (ne_nL (b := 1) h1' (by omega) (by decide)), if_neg h1']
      by_cases h2 : kB (by_ p) = 2
      · rw [if_pos (show nJ (kB (by_ p)) = 2 by rw [h2]; rfl), if_pos h2, cNum d h1 hp h2, bI_some, gI_hh, gJ_hh, e5', nJ_succ]
      · rw [if_neg (ne_nL (b := 2) h2 (by omega) (by decide)), if_neg h2, nJ_sub (show p ≤ enk by_ n p by omega), b2]
        by_cases h3 : 1 < enk by_ n p - p
        · rw [if_pos (lt_Ln (a := 1) h3 (by omega)), if_pos h3, nJ_succ, show nJ (by_ p) + 256 = nJ (by_ p + 256) from nJ_add _ 256]
        · rw [if_neg (nlt_Ln (a := 1) (by omega) (by omega)), if_neg h3, nJ_succ, add_zero32]
          rfl
/-- the tokens that are cut -/
def TkP (I : IT) (by_ : Nat → Nat) (n k1 tk : Nat) : Prop := ∀ i, i < tk → tpk by_ n i < n ∧ by_ (tpk by_ n i) ≠ 32 ∧ I (3, 0) i = nJ (kB (by_ (tpk by_ n i))) ∧ I (4, 0) i = tvF by_ n k1 (tpk by_ n i) ∧ I (5, 0) i = nJ (tpk by_ n i)
def TkS (I : IT) (by_ : Nat → Nat) (n k1 tk : Nat) : Prop := BtC I by_ n ∧ I (1, 0) 5 = nJ tk ∧ tk ≤ n ∧ TkP I by_ n k1 tk ∧ tpk by_ n tk = n ∧ I (3, 0) tk = 0 ∧ I (4, 0) tk = -1 ∧ I (5, 0) tk = nJ n
def FrT (I I' : IT) : Prop := ∀ a k, a ≠ (3, 0) → a ≠ (4, 0) → a ≠ (5, 0) → ¬ (a = (1, 0) ∧ (k = 5 ∨ k = 6 ∨ k = 7)) → I' a k = I a k
theorem FrT.bt {I I' : IT} {by_ : Nat → Nat} {n : Nat} (h : FrT I I') (hb : BtC I by_ n) : BtC I' by_ n := by
  obtain ⟨h1, h2, h3⟩ := hb
  refine ⟨h1, ?_, fun k hk => ?_⟩
  · rw [h (1, 0) 1 (by decide) (by decide) (by decide) (by decide)]
    exact h2
  · rw [h (2, 0) k (by decide) (by decide) (by decide) (fun z => by cases z.1)]
    exact h3 k hk
theorem cut1_fr {I : IT} {by_ : Nat → Nat} {n k1 tk p : Nat} : FrT I (cut1 I by_ n k1 tk p) := fun a k h3 h4 h5 h1 => by
  unfold cut1
  rw [up_at, if_neg (fun z => h1 ⟨z.1, Or.inl z.2⟩), up_ne _ _ _ _ h4, up_ne _ _ _ _ h5, up_ne _ _ _ _ h3]
theorem cCut {I : IT} {J : JT} {by_ : Nat → Nat} {n k1 : Nat} (d : Nat) (hk : k1 < 2) (h : BtC I by_ n) : ∃ I' tk, FrT I I' ∧ I' (1, 0) 6 = 0 ∧ I' (1, 0) 7 = 0 ∧ TkS I' by_ n k1 tk ∧ ev (d + 3) mTe_cut 0 [vR (1, 0), vR (99, k1), vU, vU, vU] [] (hh I J) = some (none, hh I' J) := by
  have go : ∀ j p i tk I1, n - p = j → p ≤ n → i ≤ p → tk ≤ p → FrT I I1 → I1 (1, 0) 6 = 0 → I1 (1, 0) 7 = 0 → I1 (1, 0) 5 = nJ tk → TkP I1 by_ n k1 tk → tpk by_ n tk = sbk by_ n p → ∃ I' tk, FrT I I' ∧ I' (1, 0) 6 = 0 ∧ I' (1, 0) 7 = 0 ∧ TkS I' by_ n k1 tk ∧ ev (d + 3) mTe_cut 13 [vR (1, 0), vR (99, k1), vI (nJ p), vI (nJ i), vU] [] (hh I1 J) = some (none, hh I' J) := by
    intro j
    induction j using Nat.strongRecOn with
    | ind j ih =>
      intro p i tk I1 hj hpn hip htp hfr h6 h7 h5 hT hs
      have hb1 := hfr.bt h
      obtain ⟨hn, e1, hb⟩ := hb1
      by_cases hlt : p < n
      · have hg := enk_gt (by_ := by_) (n := n) (p := p)
        have hl := enk_le (by_ := by_) hlt
        rw [eTe_cut_13, if_pos (lt_nL (b := 400) (show i < 400 by omega) (by decide)), e1, if_pos (lt_nJ hlt (by omega)), cStop (d + 1) ⟨hn, e1, hb⟩ hlt, bI_some, gI_hh, gJ_hh, cCutOne (d + 1) hk ⟨hn, e1, hb⟩ hlt h5 (by omega), bV_some, gI_hh, gJ_hh, nJ_succ]
        by_cases h32 : by_ p = 32
        · rw [if_pos h32]
          exact ih (n - enk by_ n p) (by omega) _ (i + 1) tk I1 rfl hl (by omega) (by omega) hfr h6 h7 h5 hT (by rw [sbk_blank hlt h32]; exact hs)
        · rw [if_neg h32]
          have hsp : tpk by_ n tk = p := by rw [hs]; exact sbk_non h32
          refine ih (n - enk by_ n p) (by omega) _ (i + 1) (tk + 1) _ rfl hl (by omega) (by omega) (fun a k a1 a2 a3 a4 => (cut1_fr a k a1 a2 a3 a4).trans (hfr a k a1 a2 a3 a4)) ?_ ?_ ?_ (fun i' hi' => ?_) ?_
          · unfold cut1
            rw [up_neK _ _ (by decide), up_ne _ _ _ _ (by decide), up_ne _ _ _ _ (by decide), up_ne _ _ _ _ (by decide)]
            exact h6
          · unfold cut1
            rw [up_neK _ _ (by decide), up_ne _ _ _ _ (by decide), up_ne _ _ _ _ (by decide), up_ne _ _ _ _ (by decide)]
            exact h7
          · unfold cut1
            exact up_same _ _ _ _
          · by_cases e : i' = tk
            · rw [e, hsp]
              refine ⟨hlt, h32, ?_, ?_, ?_⟩
              · unfold cut1
                rw [up_ne _ _ _ _ (by decide), up_ne _ _ _ _ (by decide), up_ne _ _ _ _ (by decide), up_same]
              · unfold cut1
                rw [up_ne _ _ _ _ (by decide), up_same]
              · unfold cut1
                rw [up_ne _ _ _ _ (by decide), up_ne _ _ _ _ (by decide), up_same]
            · obtain ⟨t1, t2, t3, t4, t5⟩ := hT i' (by omega)
              refine ⟨t1, t2, ?_, ?_, ?_⟩
              · unfold cut1
                rw [up_ne _ _ _ _ (by decide), up_ne _ _ _ _ (by decide), up_ne _ _ _ _ (by decide), up_neK _ _ e]
                exact t3
              · unfold cut1
                rw [up_ne _ _ _ _ (by decide), up_neK _ _ e, up_ne _ _ _ _ (by decide), up_ne _ _ _ _ (by decide)]
                exact t4
              · unfold cut1
                rw [up_ne _ _ _ _ (by decide), up_ne _ _ _ _ (by decide), up_neK _ _ e, up_ne _ _ _ _ (by decide)]
                exact t5
          · show sbk by_ n (enk by_ n (tpk by_ n tk)) = _
            rw [hsp]
      · obtain rfl : p = n := by omega
        have hsn : tpk by_ p tk = p := by
          rw [hs]
          exact rn_stop (fun z => by omega)
        have fin : some (none, hh (up2 (up2 (up2 I1 (3, 0) tk 0) (4, 0) tk (-1)) (5, 0) tk (nJ p)) J) = (some (none, hh (up2 (up2 (up2 I1 (3, 0) tk 0) (4, 0) tk (-1)) (5, 0) tk (nJ p)) J) : Option Rs) := rfl
        refine ⟨up2 (up2 (up2 I1 (3, 0) tk 0) (4, 0) tk (-1)) (5, 0) tk (nJ p), tk, ?_, ?_, ?_, ⟨?_, ?_, htp, fun i' hi' => ?_, hsn, ?_, ?_, ?_⟩, ?_⟩
        · intro a k a3 a4 a5 a1
          rw [up_ne _ _ _ _ a5, up_ne _ _ _ _ a4, up_ne _ _ _ _ a3]
          exact hfr a k a3 a4 a5 a1
        · rw [up_ne _ _ _ _ (by decide), up_ne _ _ _ _ (by decide), up_ne _ _ _ _ (by decide)]
          exact h6
        · rw [up_ne _ _ _ _ (by decide), up_ne _ _ _ _ (by decide), up_ne _ _ _ _ (by decide)]
          exact h7
        · refine ⟨hn, ?_, fun k hk => ?_⟩
          · rw [up_ne _ _ _ _ (by decide), up_ne _ _ _ _ (by decide), up_ne _ _ _ _ (by decide)]
            exact e1
          · rw [up_ne _ _ _ _ (by decide), up_ne _ _ _ _ (by decide), up_ne _ _ _ _ (by decide)]
            exact hb k hk
        · rw [up_ne _ _ _ _ (by decide), up_ne _ _ _ _ (by decide), up_ne _ _ _ _ (by decide)]
          exact h5
        · obtain ⟨t1, t2, t3, t4, t5⟩ := hT i' hi'
          refine ⟨t1, t2, ?_, ?_, ?_⟩
          · rw [up_ne _ _ _ _ (by decide), up_ne _ _ _ _ (by decide), up_neK _ _ (by omega)]
            exact t3
          · rw [up_ne _ _ _ _ (by decide), up_neK _ _ (by omega), up_ne _ _ _ _ (by decide)]
            exact t4
          · rw [up_neK _ _ (by omega), up_ne _ _ _ _ (by decide), up_ne _ _ _ _ (by decide)]
            exact t5
        · rw [up_ne _ _ _ _ (by decide), up_ne _ _ _ _ (by decide), up_same]
        · rw [up_ne _ _ _ _ (by decide), up_same]
        · rw [up_same]
        · rw [eTe_cut_13, e1, if_neg (nlt_nJ (Nat.le_refl p) (by omega)), h5]
          simp only [bnd (show tk < 401 by omega) (by omega), nJ_nat (show tk < 2147483648 by omega), bnk (show tk < 401 by omega) (by omega)]
          split <;> rfl
  obtain ⟨I', tk, a1, a2, a3, a4, a5⟩ := go n 0 0 0 (up2 (up2 (up2 I (1, 0) 5 0) (1, 0) 6 0) (1, 0) 7 0) rfl (by omega) (by omega) (by omega) (fun a k h3 h4 h5 h1 => by
    rw [up_at, if_neg (fun z => h1 ⟨z.1, Or.inr (Or.inr z.2)⟩), up_at, if_neg (fun z => h1 ⟨z.1, Or.inr (Or.inl z.2)⟩), up_at, if_neg (fun z => h1 ⟨z.1, Or.inl z.2⟩)]) rfl rfl rfl (fun i hi => by omega) rfl
  exact ⟨I', tk, a1, a2, a3, a4, by rw [eTe_cut_0]; exact a5⟩
