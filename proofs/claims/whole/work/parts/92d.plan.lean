theorem plan67 {I0 : IT} {J : JT} {R : RD} {S w u : Nat} {gl : Nat → Nat} (d : Nat) (hR : R.Ok S) (hc : RcC I0 R S w u gl) {s : Nat} (hs : s < 64) {Q : Option Vl → IT → JT → Prop} (hn : ∀ I, PlS I0 I (Pu R s S) (Hu R S s S) → Tr (ev (d + 2) mRd_plan 59 [vR (29, 0), vR (8, 0), vR (17, 0), vU, vI (nJ R.can), vI (nJ (s + 1)), vU] [] (hh I J)) Q) : ∀ n l I, l + n = S → PlS I0 I (Pu R s l) (Hu R S s l) → Tr (ev (d + 2) mRd_plan 67 [vR (29, 0), vR (8, 0), vR (17, 0), vU, vI (nJ R.can), vI (nJ s), vI (nJ l)] [] (hh I J)) Q := by
  have h6 := hR.s6
  have hcan := hR.can
  intro n
  induction n with
  | zero =>
    intro l I hl hp
    obtain rfl : l = S := by omega
    have c1 := (hp.rc hc).1.1
    rw [eRd_plan_67, c1, if_neg (nlt_nJ (Nat.le_refl l) (by omega)), nJ_succ]
    exact hn I hp
  | succ n ih =>
    intro l I hl hp
    have hlS : l < S := by omega
    have c1 := (hp.rc hc).1.1
    have ei : nJ s * 6 + nJ l = nJ (s * 6 + l) := by
      rw [show nJ s * 6 = nJ (s * 6) from nJ_mul s 6, nJ_add]
    have hL := hR.L_le s l
    rw [eRd_plan_67, c1, if_pos (lt_nJ hlS (by omega)), ei, bnd (show s * 6 + l < 384 by omega) (by omega), nJ_nat (show s * 6 + l < 2147483648 by omega), hp.2.1 s l hs (by omega), hR.Pu_self hs (show l < 6 by omega), nJ_succ, b8_andn _ _ (show R.can < 256 by omega) (show s < 256 by omega)]
    by_cases h1 : Lw R s l < 1000000
    · rw [if_pos (lt_nL (b := 1000000) h1 (by decide))]
      refine Tr.bV ((gofur (I := I) (J := J) d hR hc hs hlS (Nat.lt_of_le_of_lt Nat.and_le_left (show R.can < 256 by omega)) (fun t k _ _ => hR.Pu_le s l t k) (H := Hu R S s l) (by
        unfold Hu
        rw [if_neg (Nat.lt_irrefl s), if_pos rfl]
        exact hR.H_le s l) hp).mono fun v I' J' ⟨q1, q2, q3⟩ => ⟨q1, ?_⟩)
      subst q2
      refine ih (l + 1) I' (by omega) (q3.ext (fun t k ht hk => Pu_step hR hs hlS h1 ht hk) (fun t ht => ?_))
      rw [hR.Pu_self hs (show l < 6 by omega)]
      exact Hu_step hR hs hlS h1 t
    · rw [if_neg (nlt_nL (b := 1000000) (by omega) (by omega))]
      exact ih (l + 1) I (by omega) (hp.ext (fun t k _ _ => Pu_none hR (by omega)) (fun t _ => Hu_none hR (by omega) t))
theorem can_lt {R : RD} {S : Nat} (h : R.Ok S) : R.can < 2 ^ S := Nat.lt_pow_two_of_testBit _ fun i hi => by
  cases e : R.can.testBit i
  · rfl
  · have := h.canS i e
    omega
theorem plan59 {I0 : IT} {J : JT} {R : RD} {S w u : Nat} {gl : Nat → Nat} (d : Nat) (hR : R.Ok S) (hc : RcC I0 R S w u gl) : ∀ n s I, s + n = 2 ^ S → 1 ≤ s → PlS I0 I (Pu R s 0) (Hu R S s 0) → Tr (ev (d + 2) mRd_plan 59 [vR (29, 0), vR (8, 0), vR (17, 0), vU, vI (nJ R.can), vI (nJ s), vU] [] (hh I J)) (fun v I' J' => v = none ∧ J' = J ∧ (∀ a : Ad, a ≠ (30, 0) → a ≠ (31, 0) → I' a = I0 a) ∧ ∀ t, t < 64 → I' (31, 0) t = nJ (Hm R t S)) := by
  have h6 := hR.s6
  have h2 : 2 ^ S ≤ 64 := Nat.pow_le_pow_right (n := 2) (by decide) h6
  intro n
  induction n with
  | zero =>
    intro s I hs h1 hp
    obtain rfl : s = 2 ^ S := by omega
    have c1 := (hp.rc hc).1.1
    rw [eRd_plan_59, c1, b8_sh S (by omega), if_neg (nlt_nJ (Nat.le_refl _) (by omega))]
    refine Tr.ret ⟨rfl, rfl, hp.1, fun t ht => ?_⟩
    rw [hp.2.2 t ht]
    unfold Hu
    by_cases h3 : t < 2 ^ S
    · rw [if_pos h3]
    · have hn : ¬ t &&& R.can = t := fun z => by
        have := can_lt hR
        have : t &&& R.can ≤ R.can := Nat.and_le_right
        omega
      rw [if_neg h3, hR.H_not t (by omega) hn S]
      split
      · rw [hR.H_not _ (by omega) (by rename_i e; rw [← e]; exact hn) 0]
      · rfl
  | succ n ih =>
    intro s I hs h1 hp
    have c1 := (hp.rc hc).1.1
    rw [eRd_plan_59, c1, b8_sh S (by omega), if_pos (lt_nJ (show s < 2 ^ S by omega) (by omega))]
    exact plan67 (J := J) d hR hc (show s < 64 by omega) (fun I' hp' => ih (s + 1) I' (by omega) (by omega) (hp'.ext (fun t k ht _ => Pu_next hR h1 ht) (fun t _ => Hu_next t))) S 0 I (by omega) hp
def G1 (R : RD) (j : Nat) : Nat → Nat → Nat := fun t k => if k < j ∧ R.can.testBit k = true ∧ t = 2 ^ k then R.fl k (R.w k) else 1000000
theorem plan27 {I0 : IT} {J : JT} {R : RD} {S w u : Nat} {gl : Nat → Nat} (d : Nat) (hR : R.Ok S) (hc : RcC I0 R S w u gl) {H : Nat → Nat} {Q : Option Vl → IT → JT → Prop} (hn : ∀ I, PlS I0 I (G1 R S) H → Tr (ev (d + 1) mRd_plan 59 [vR (29, 0), vR (8, 0), vR (17, 0), vU, vI (nJ R.can), vI 1, vU] [] (hh I J)) Q) : ∀ n j I, j + n = S → PlS I0 I (G1 R j) H → Tr (ev (d + 1) mRd_plan 27 [vR (29, 0), vR (8, 0), vR (17, 0), vI (nJ w), vI (nJ R.can), vI (nJ j), vU] [] (hh I J)) Q := by
  have h6 := hR.s6
  have hcan := hR.can
  intro n
  induction n with
  | zero =>
    intro j I hj hp
    obtain rfl : j = S := by omega
    have c1 := (hp.rc hc).1.1
    rw [eRd_plan_27, c1, if_neg (nlt_nJ (Nat.le_refl j) (by omega))]
    exact hn I hp
  | succ n ih =>
    intro j I hj hp
    have hjS : j < S := by omega
    obtain ⟨⟨c1, c2, c3, c4, c5⟩, c6, c7⟩ := hp.rc hc
    obtain ⟨k1, k2, k3, k4, k5, k6⟩ := c6 j hjS
    rw [eRd_plan_27, c1, if_pos (lt_nJ hjS (by omega)), nJ_succ]
    cases hb : R.can.testBit j with
    | false =>
      rw [if_pos (Eq.mpr (shr6 hcan (show j < 6 by omega)) hb)]
      refine ih (j + 1) I (by omega) (hp.ext (fun t k _ _ => ?_) (fun _ _ => rfl))
      unfold G1
      by_cases e : k < j ∧ R.can.testBit k = true ∧ t = 2 ^ k
      · rw [if_pos e, if_pos ⟨by omega, e.2⟩]
      · rw [if_neg e, if_neg (fun z => e ⟨by
          by_cases ek : k = j
          · rw [ek, hb] at z
            exact absurd z.2.1 (by decide)
          · omega, z.2⟩)]
    | true =>
      have hw := hR.w j hjS
      have hj64 : 2 ^ j < 64 := Nat.pow_lt_pow_right (a := 2) (by decide) (show j < 6 by omega)
      rw [if_neg (fun z => by have := Eq.mp (shr6 hcan (show j < 6 by omega)) z; rw [hb] at this; cases this), bnd c5 (by omega), bnd (show j < 6 by omega) (by omega), nJ_nat (show j < 2147483648 by omega), nJ_nat (show w < 2147483648 by omega), k2, c3, cBetw _ _ _ _ (by omega) (by omega), bI_some, k4, b8_sh j (by omega), gI_hh, gJ_hh]
      have hGj : G1 R j (2 ^ j) j = 1000000 := by
        unfold G1
        rw [if_neg (fun z => by omega)]
      refine Tr.bV ((reach_ok (I := I) (J := J) d hR hc hp (t := 2 ^ j) (k := j) (x := R.w j) hj64 hjS (by omega) (by rw [hGj]; exact Nat.le_refl _)).mono fun v I' J' ⟨h1, h2, h3⟩ => ⟨h1, ?_⟩)
      subst h2
      refine ih (j + 1) I' (by omega) (h3.ext (fun t k _ _ => ?_) (fun _ _ => rfl))
      by_cases e : t = 2 ^ j ∧ k = j
      · have hf := hR.fl_or hjS (R.w j)
        rw [if_pos e, e.1, e.2, hGj]
        unfold G1
        rw [if_pos ⟨by omega, hb, rfl⟩]
        omega
      · rw [if_neg e]
        unfold G1
        by_cases e' : k < j ∧ R.can.testBit k = true ∧ t = 2 ^ k
        · rw [if_pos e', if_pos ⟨by omega, e'.2⟩]
        · rw [if_neg e', if_neg (fun z => e' ⟨by
            by_cases ek : k = j
            · rw [ek] at z
              exact absurd ⟨z.2.2, ek⟩ e
            · omega, z.2⟩)]
theorem two_bit : ∀ k, k < 6 → ∀ b, (2 ^ k).testBit b = true ↔ b = k := fun k _ b => by
  rw [Nat.testBit_two_pow, decide_eq_true_iff]
  exact eq_comm
theorem rst_two : ∀ k, k < 6 → rst (2 ^ k) k = 0 := by decide +kernel
theorem G1_Pu {R : RD} {S : Nat} (h : R.Ok S) {t k : Nat} (ht : t < 64) (hk : k < 6) : G1 R S t k = Pu R 1 0 t k := by
  unfold G1 Pu
  by_cases c : t.testBit k = true ∧ t &&& R.can = t
  · have hck := sub_iff.mp c.2 k c.1
    have hkS := h.canS k hck
    rw [if_pos c]
    by_cases r : rst t k < 1
    · have r0 : rst t k = 0 := by omega
      have e : t = 2 ^ k := by
        have := rst_or t ht k hk c.1
        rw [r0, Nat.zero_or] at this
        exact this.symm
      rw [if_pos ⟨hkS, hck, e⟩, if_pos r, Lw_eq R ht hk c.1 c.2, if_pos r0]
    · rw [if_neg r, if_neg (fun z => by
        have := rst_two k hk
        rw [z.2.2] at r
        omega)]
      split <;> rfl
  · rw [if_neg c, if_neg (fun z => c ⟨by rw [z.2.2]; exact (two_bit k hk k).mpr rfl, sub_iff.mpr fun b hb => by
      rw [z.2.2] at hb
      rw [(two_bit k hk b).mp hb]
      exact z.2.1⟩)]
/-- the rounds of one walker, laid by the class -/
theorem cPlan {I : IT} {J : JT} {R : RD} {S w u z1 z2 : Nat} {gl : Nat → Nat} (d : Nat) (hR : R.Ok S) (hc : RcC I R S w u gl) (h1 : I (17, 0) 1 = nJ z1) (h2 : I (17, 0) 2 = nJ z2) (hz1 : z1 < 64) (hz2 : z2 < 64) (hcan : R.can = opF (I (22, 0)) (nJ w) (z1 ||| z2) S) : Tr (ev (d + 2) mRd_plan 0 [vR (29, 0), vR (8, 0), vR (17, 0), vI (nJ w), vU, vU, vU] [] (hh I J)) (fun v I' J' => v = none ∧ J' = J ∧ (∀ a : Ad, a ≠ (30, 0) → a ≠ (31, 0) → I' a = I a) ∧ ∀ t, t < 64 → I' (31, 0) t = nJ (Hm R t S)) := by
  have h6 := hR.s6
  rw [eRd_plan_0]
  refine Tr.bV ((fill_of (L := 384) (fun I J => eAr_fill_30_0 (d + 1) 1000000 I J) (fun x2 x3 I J => eAr_fill_30_5 (d + 1) 1000000 x2 x3 I J) (by decide)).mono fun v I1 J1 ⟨a1, a2, a3, a4⟩ => ⟨a1, ?_⟩)
  refine Tr.bV ((fill_of (L := 64) (fun I J => eAr_fill_31_0 (d + 1) 1000000 I J) (fun x2 x3 I J => eAr_fill_31_5 (d + 1) 1000000 x2 x3 I J) (by decide)).mono fun v I2 J2 ⟨b1, b2, b3, b4⟩ => ⟨b1, ?_⟩)
  have e4 : J2 = J := (show J2 = J1 from b4).trans a4
  have b3 : ∀ (b : Ad) (i : Nat), ¬ (b = (31, 0) ∧ i < 64) → I2 b i = I1 b i := b3
  rw [e4]
  have hfr : ∀ a : Ad, a ≠ (30, 0) → a ≠ (31, 0) → I2 a = I a := fun a n1 n2 => funext fun i => (b3 a i (fun z => n2 z.1)).trans (a3 a i (fun z => n1 z.1))
  have hp : PlS I I2 (G1 R 0) (fun _ => 1000000) := by
    refine ⟨hfr, fun t k ht hk => ?_, fun t ht => b2 t ht⟩
    rw [b3 (30, 0) _ (fun z => by cases z.1), a2 _ (by omega)]
    unfold G1
    rw [if_neg (fun z => by omega)]
    rfl
  obtain ⟨⟨c1, c2, c3, c4, c5⟩, c6, c7⟩ := hp.rc hc
  have f17 : I2 (17, 0) = I (17, 0) := hfr _ (by decide) (by decide)
  have f22 : I2 (22, 0) = I (22, 0) := hfr _ (by decide) (by decide)
  have ho := cOpenT (I := I2) (J := J) (d + 1) (nJ w) h6 c1 (by rw [f17]; exact h1) (by rw [f17]; exact h2) hz1 hz2
  rw [f22, ← hcan] at ho
  have hb0 : ev (d + 1) mRo_between 0 [vR (8, 0), vI (nJ u), vI 0] [] (hh I2 J) = some (some (vI (nJ R.hw)), hh I2 J) := by
    have := cBetw (I := I2) (J := J) (d + 1) 0 u 0 c4 (by decide)
    rw [c7] at this
    exact this
  rw [gI_hh, gJ_hh, ho, bI_some, bnd c5 (by omega), nJ_nat (show w < 2147483648 by omega), gI_hh, gJ_hh, c3, hb0, bI_some, gI_hh, gJ_hh]
  refine plan27 (J := J) (d + 1) hR hc (H := Hu R S 1 0) (fun I' hp' => ?_) S 0 _ (by omega) ((hp.H 0 R.hw).ext (fun _ _ _ _ => rfl) (fun t ht => ?_))
  · exact plan59 (J := J) d hR hc (2 ^ S - 1) 1 I' (by have := Nat.two_pow_pos S; omega) (Nat.le_refl 1) (hp'.ext (fun t k ht hk => G1_Pu hR ht hk) (fun _ _ => rfl))
  · unfold Hu
    by_cases e : t = 0
    · rw [if_pos e, if_pos (by omega), e]
      have hw := hR.hw
      refine Nat.le_antisymm (le_mnF S (by rw [if_pos rfl]; exact Nat.le_refl _) fun i _ => ?_) ?_
      · rw [if_neg (by rw [Nat.zero_testBit]; decide)]
        omega
      · have := mnF_le (g := fun k => if (0 : Nat).testBit k = true then min 1000000 (Lw R 0 k + R.ho k) else 1000000) (b := if (0 : Nat) = 0 then R.hw else 1000000) S
        rw [if_pos rfl] at this
        unfold Hm
        rw [if_pos rfl]
        exact this
    · rw [if_neg e, if_neg (by omega)]
      split
      · show _ = (if 1 = 0 then R.hw else 1000000)
        rw [if_neg (by decide)]
      · rfl
