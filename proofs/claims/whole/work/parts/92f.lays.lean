/-- one place of the table, laid -/
theorem lays_end {A : IT} {B : JT} {A0 : IT} {R : RD} {S w u s l : Nat} {gl : Nat → Nat} (d : Nat) (x1 x2 x3 : Int32) (hR : R.Ok S) (hc0 : RcM A0 R S w u gl) (hp : MlS A0 A R w s l) (hs : s < 64) (hl : l < S) (hb : s.testBit l = true) (hsc : s &&& R.can = s) : ∃ A', MlS A0 A' R w s (l + 1) ∧ ev (d + 1) mMo_laysRounds 78 [vR (43, 0), vI x1, vI x2, vI x3, vI (nJ s), vI (nJ (dm (Hm R s l))), vI (nJ l), vI (nJ (6 * s + l)), vI (nJ (rst s l)), vI (nJ (dm (Xd R s l 6))), vI (nJ 6), vU] [] (hh A B) = ev (d + 1) mMo_laysRounds 23 [vR (43, 0), vI x1, vI x2, vI x3, vI (nJ s), vI (nJ (dm (Hm R s (l + 1)))), vI (nJ (l + 1)), vU, vU, vU, vU, vU] [] (hh A' B) := by
  have h6 := hR.s6
  have hX := Xd_or hR hl hs hsc 6 (Nat.le_refl 6)
  have hXf := Xd_fl hR hl hs hb hsc
  have hH := hR.H_or s l (by omega)
  have hho := hR.ho l hl
  have hLo := hR.L_or s l
  have hk := dm_add hLo hho hH
  rw [← Hm_in hb] at hk
  obtain ⟨c1, c6, c7⟩ := hp.rc hc0
  obtain ⟨l1, l2, l3, l4, l5, l6⟩ := c6 l hl
  have d1 := dm_le (show Lw R s l ≤ 1000000 by omega)
  have d2 := dm_le (show R.ho l ≤ 1000000 by omega)
  have d3 := dm_le (show Hm R s l ≤ 1000000 by omega)
  have e8 : 8 * nJ (gl l) = nJ (8 * gl l) := nJ_mul 8 _
  refine ⟨up2 A (80, 0) (6 * s + l) (nJ (dm (Lw R s l))), (hp.w (by omega) _).nx (up_same _ _ _ _), ?_⟩
  have fin : ∀ v : Int32, v = nJ (dm (Lw R s l)) → (if v + nJ (dm (R.ho l)) < nJ (dm (Hm R s l)) then ev (d + 1) mMo_laysRounds 23 [vR (43, 0), vI x1, vI x2, vI x3, vI (nJ s), vI (v + nJ (dm (R.ho l))), vI (nJ (l + 1)), vU, vU, vU, vU, vU] [] (hh (up2 A (80, 0) (6 * s + l) v) B) else ev (d + 1) mMo_laysRounds 23 [vR (43, 0), vI x1, vI x2, vI x3, vI (nJ s), vI (nJ (dm (Hm R s l))), vI (nJ (l + 1)), vU, vU, vU, vU, vU] [] (hh (up2 A (80, 0) (6 * s + l) v) B)) = ev (d + 1) mMo_laysRounds 23 [vR (43, 0), vI x1, vI x2, vI x3, vI (nJ s), vI (nJ (dm (Hm R s (l + 1)))), vI (nJ (l + 1)), vU, vU, vU, vU, vU] [] (hh (up2 A (80, 0) (6 * s + l) (nJ (dm (Lw R s l)))) B) := fun v hv => by
    subst hv
    rw [nJ_add, ← hk]
    by_cases hlt : dm (Lw R s l) + dm (R.ho l) < dm (Hm R s l)
    · rw [if_pos (lt_nJ hlt (by omega)), if_pos hlt]
    · rw [if_neg (nlt_nJ (by omega) (by omega)), if_neg hlt]
  rw [eMo_laysRounds_78, if_neg (show ¬ nJ 6 < 6 by decide)]
  simp only [bnk (show 6 * s + l < 384 by omega) (by omega), bnk (show l < 6 by omega) (by omega), nJ_nat (show l < 2147483648 by omega), nJ_nat (show 6 * s + l < 2147483648 by omega), nJ_succ, up_same]
  by_cases hlt : Xd R s l 6 < 1000000
  · have hXX : dm (Xd R s l 6) = Xd R s l 6 := by
      unfold dm
      rw [if_neg (by omega)]
    rw [hXX, if_pos (lt_nL (b := 10000) (show Xd R s l 6 < 10000 by omega) (by decide)), mTime d hR (hp.rc hc0) hl (show Xd R s l 6 < 10000 by omega), bI_some]
    simp only [gI_hh, gJ_hh, l2, l5, e8, bnk (show 8 * gl l < 64 by omega) (by omega), nJ_nat (show 8 * gl l < 2147483648 by omega), bif2]
    by_cases ht : R.day + (Xd R s l 6 - 1) ≤ R.due l
    · rw [if_pos ht]
      refine fin _ ?_
      rw [← hXf]
      unfold RD.fl
      rw [if_pos ht, hXX]
    · rw [if_neg ht]
      refine fin _ ?_
      rw [← hXf]
      unfold RD.fl
      rw [if_neg ht]
      rfl
  · have hXX : Xd R s l 6 = 1000000 := by omega
    rw [hXX, if_neg (show ¬ nJ (dm 1000000) < 10000 by decide)]
    simp only [l2, l5, e8, bnk (show 8 * gl l < 64 by omega) (by omega), nJ_nat (show 8 * gl l < 2147483648 by omega)]
    refine fin _ ?_
    rw [← hXf, hXX, hR.fl_far hl (Nat.le_refl _)]
    rfl
theorem lays23 {B : JT} {A0 : IT} {R : RD} {S w u s : Nat} {gl : Nat → Nat} (d : Nat) (hR : R.Ok S) (hc0 : RcM A0 R S w u gl) (hs : s < 64) : ∀ n l A, l + n = 6 → MlS A0 A R w s l → ∃ A', MlS A0 A' R w s 6 ∧ ev (d + 1) mMo_laysRounds 23 [vR (43, 0), vI (nJ w), vI (nJ R.can), vI 64, vI (nJ s), vI (nJ (dm (Hm R s l))), vI (nJ l), vU, vU, vU, vU, vU] [] (hh A B) = ev (d + 1) mMo_laysRounds 23 [vR (43, 0), vI (nJ w), vI (nJ R.can), vI 64, vI (nJ s), vI (nJ (dm (Hm R s 6))), vI (nJ 6), vU, vU, vU, vU, vU] [] (hh A' B) := by
  have h6 := hR.s6
  have hcan := hR.can
  intro n
  induction n with
  | zero =>
    intro l A hl hp
    obtain rfl : l = 6 := by omega
    exact ⟨A, hp, rfl⟩
  | succ n ih =>
    intro l A hl hp
    have e6 : 6 * nJ s + nJ l = nJ (6 * s + l) := by
      rw [show 6 * nJ s = nJ (6 * s) from nJ_mul 6 _, nJ_add]
    have hp1 := hp.w (show l < 6 by omega) 10000
    have hlt : s &&& R.can < 64 := Nat.lt_of_le_of_lt Nat.and_le_left hs
    rw [eMo_laysRounds_23, if_pos (lt_nL (b := 6) (show l < 6 by omega) (by decide)), e6, bnd (show 6 * s + l < 384 by omega) (by omega), nJ_nat (show 6 * s + l < 2147483648 by omega), nJ_and2, mHas _ _ _ hlt (show l < 6 by omega), bI_some, bif2, nJ_succ, gI_hh, gJ_hh, b8_andn _ _ (show s < 256 by omega) (show R.can < 256 by omega), b_clr s hs l (by omega)]
    by_cases hc : s.testBit l = true ∧ s &&& R.can = s
    · have hlS : l < S := hR.canS l (sub_iff.mp hc.2 l hc.1)
      obtain ⟨⟨c2, c3, c4, c5⟩, c6, c7⟩ := hp1.rc hc0
      obtain ⟨l1, l2, l3, l4, l5, l6⟩ := c6 l hlS
      obtain ⟨A1, q1, q2⟩ := lays_end (A := up2 A (80, 0) (6 * s + l) 10000) (B := B) d (nJ w) (nJ R.can) 64 hR hc0 hp1 hs hlS hc.1 hc.2
      obtain ⟨A', a1, a2⟩ := ih (l + 1) A1 (by omega) q1
      have h78 := lays78 (A := up2 A (80, 0) (6 * s + l) 10000) (B := B) d (nJ w) (nJ R.can) 64 (nJ (dm (Hm R s l))) hR hc0 hp1 hs hlS hc.1 hc.2 6 0 rfl
      refine ⟨A', a1, ?_⟩
      rw [← a2, ← q2, ← h78]
      have hr64 := rst_lt s hs l (by omega) hc.1
      rw [if_pos (show (s &&& R.can).testBit l = true by rw [hc.2]; exact hc.1), if_pos (show nJ (s &&& (255 ^^^ R.can)) = 0 by rw [(and_x0 (by omega)).mpr hc.2]; rfl), bnd c5 (by omega), bnd (show l < 6 by omega) (by omega), nJ_nat (show l < 2147483648 by omega), nJ_nat (show w < 2147483648 by omega), c3, l2, mul8', bnd (show 8 * u + gl l < 64 by omega) (by omega), nJ_nat (show 8 * u + gl l < 2147483648 by omega), l4]
      have eX : Xd R s l 0 = if rst s l = 0 then R.w l else 1000000 := rfl
      rw [eX]
      by_cases hr : rst s l = 0
      · rw [if_pos (show nJ (s &&& (63 ^^^ 2 ^ l)) = 0 by rw [show s &&& (63 ^^^ 2 ^ l) = 0 from hr]; rfl), if_pos hr]
        rfl
      · rw [if_neg (ne_nL (b := 0) (show s &&& (63 ^^^ 2 ^ l) ≠ 0 from hr) (by show rst s l < _; omega) (by decide)), if_neg hr]
        rfl
    · have hL := Lw_no R hc
      have hp2 : MlS A0 (up2 A (80, 0) (6 * s + l) 10000) R w s (l + 1) := hp1.nx (by rw [up_same, hL]; rfl)
      obtain ⟨A', a1, a2⟩ := ih (l + 1) _ (by omega) hp2
      refine ⟨A', a1, ?_⟩
      rw [← a2, Hm_out hR hL]
      by_cases hb : (s &&& R.can).testBit l = true
      · have hn : ¬ s &&& R.can = s := fun z => hc ⟨by rw [z] at hb; exact hb, z⟩
        have hn0 : ¬ s &&& (255 ^^^ R.can) = 0 := fun z => hn ((and_x0 (by omega)).mp z)
        rw [if_pos hb, if_neg (ne_nL (b := 0) hn0 (Nat.lt_of_le_of_lt Nat.and_le_left (by omega)) (by decide))]
      · rw [if_neg hb]
/-- the rounds of one walker, laid by the reference -/
theorem mLays {A : IT} {B : JT} {R : RD} {S w u : Nat} {gl : Nat → Nat} (d : Nat) (hR : R.Ok S) (hc : RcM A R S w u gl) : ∃ A', MlS A A' R w 64 0 ∧ ev (d + 1) mMo_laysRounds 0 [vR (43, 0), vI (nJ w), vI (nJ R.can), vU, vU, vU, vU, vU, vU, vU, vU, vU] [] (hh A B) = some (none, hh A' B) := by
  have go : ∀ n s A1, s + n = 64 → MlS A A1 R w s 0 → ∃ A', MlS A A' R w 64 0 ∧ ev (d + 1) mMo_laysRounds 4 [vR (43, 0), vI (nJ w), vI (nJ R.can), vI 64, vI (nJ s), vU, vU, vU, vU, vU, vU, vU] [] (hh A1 B) = some (none, hh A' B) := by
    intro n
    induction n with
    | zero =>
      intro s A1 hs hp
      obtain rfl : s = 64 := by omega
      exact ⟨A1, hp, by rw [eMo_laysRounds_4, if_neg (show ¬ nJ 64 < 64 by decide)]⟩
    | succ n ih =>
      intro s A1 hs hp
      obtain ⟨⟨c2, c3, c4, c5⟩, c6, c7⟩ := hp.rc hc
      obtain ⟨A2, q1, q2⟩ := lays23 (B := B) d hR hc (show s < 64 by omega) 6 0 A1 rfl hp
      obtain ⟨A', a1, a2⟩ := ih (s + 1) _ (by omega) (q1.rd rfl (by omega))
      refine ⟨A', a1, ?_⟩
      have e8 : 8 * nJ u = nJ (8 * u) := nJ_mul 8 _
      have e64 : 64 * nJ w + nJ s = nJ (64 * w + s) := by
        rw [show 64 * nJ w = nJ (64 * w) from nJ_mul 64 _, nJ_add]
      have q3 : ev (d + 1) mMo_laysRounds 23 [vR (43, 0), vI (nJ w), vI (nJ R.can), vI 64, vI (nJ s), vI (nJ (dm (Hm R s 6))), vI (nJ 6), vU, vU, vU, vU, vU] [] (hh A2 B) = some (none, hh A' B) := by
        rw [eMo_laysRounds_23, if_neg (show ¬ nJ 6 < 6 by decide), e64, bnd (show 64 * w + s < 192 by omega) (by omega), nJ_nat (show 64 * w + s < 2147483648 by omega), nJ_succ]
        exact a2
      rw [← q3, ← q2, eMo_laysRounds_4, if_pos (lt_nL (b := 64) (show s < 64 by omega) (by decide)), bnd c5 (by omega), nJ_nat (show w < 2147483648 by omega), c3, e8, bnd (show 8 * u < 64 by omega) (by omega), nJ_nat (show 8 * u < 2147483648 by omega), c7]
      have eH : Hm R s 0 = if s = 0 then R.hw else 1000000 := rfl
      rw [eH]
      by_cases h0 : s = 0
      · rw [if_pos (show nJ s = 0 by rw [h0]; rfl), if_pos h0]
        rfl
      · rw [if_neg (ne_nL (b := 0) h0 (by omega) (by decide)), if_neg h0]
        rfl
  rw [eMo_laysRounds_0]
  exact go 64 0 A rfl ⟨fun _ _ _ => rfl, fun t k _ _ h => by omega, fun t h => by omega, fun _ _ => rfl⟩
