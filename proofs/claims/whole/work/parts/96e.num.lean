/-! NUMBERS, on both sides -/
theorem nJ_flt (s k : Nat) : (1 + 8 * nJ s) + nJ k = nJ (1 + 8 * s + k) := by
  rw [show 8 * nJ s = nJ (8 * s) from nJ_mul 8 s, show (1 : Int32) + nJ (8 * s) = nJ (1 + 8 * s) from nJ_add 1 _, nJ_add]
theorem mFails0 {A : IT} {B : JT} (d s k : Nat) (hf : A (43, 0) 28 = 0) : ev d mMo_fails 0 [vR (43, 0), vI (nJ k), vI (nJ s)] [] (hh A B) = some (none, hh (up2 A (43, 0) 28 (nJ (1 + 8 * s + k))) B) := by
  rw [eMo_fails_0, if_pos hf, nJ_flt]
theorem up_self {A : IT} {a : Ad} {k : Nat} {x : Int32} (h : A a k = x) : up2 A a k x = A := by
  funext b j
  rw [up_at]
  split
  · rename_i e
    rw [e.1, e.2, h]
  · rfl
theorem mFailsN {A : IT} {B : JT} (d : Nat) (x y : Int32) (hf : ¬ A (43, 0) 28 = 0) : ev d mMo_fails 0 [vR (43, 0), vI x, vI y] [] (hh A B) = some (none, hh A B) := by
  rw [eMo_fails_0, if_neg hf, up_self rfl]
theorem mDigits {A : IT} {B : JT} {by_ : Nat → Nat} {n s : Nat} (d : Nat) (h : BtM A by_ n) (hs : A (43, 0) 27 = nJ s) (hf : A (43, 0) 28 = 0) (hlt : s < n) (hk : kB (by_ s) = 2) : ev (d + 3) mMo_digits 0 [vR (43, 0), vI 99999, vU, vU] [] (hh A B) = some (some (vI (nJ (nmF by_ s (min (enk by_ n s - s) 5)))), hh (if 5 < enk by_ n s - s then up2 (spp A (enk by_ n s)) (43, 0) 28 (nJ (1 + 8 * s + 1)) else spp A (enk by_ n s)) B) := by
  have hn := h.1
  have hg := enk_gt (by_ := by_) (n := n) (p := s)
  have hl := enk_le (by_ := by_) hlt
  have hend : enk by_ n s < n → kB (by_ (enk by_ n s)) ≠ 2 := fun z => by
    have he : enk by_ n s = rn (fun q => Nat.beq (kB (by_ q)) (kB (by_ s))) n (s + 1) := by
      unfold enk
      rw [if_neg (by omega)]
    rw [he] at z ⊢
    have := rn_end _ (s + 1) rfl z
    intro w
    rw [w, hk] at this
    cases this
  have go : ∀ j k, k + j = enk by_ n s - s → ev (d + 3) mMo_digits 15 [vR (43, 0), vI 99999, vI (nJ s), vI (nJ (nmF by_ s (min k 5)))] [] (hh (spp A (s + k)) B) = some (some (vI (nJ (nmF by_ s (min (enk by_ n s - s) 5)))), hh (if 5 < enk by_ n s - s then up2 (spp A (enk by_ n s)) (43, 0) 28 (nJ (1 + 8 * s + 1)) else spp A (enk by_ n s)) B) := by
    intro j
    induction j with
    | zero =>
      intro k hkj
      obtain rfl : k = enk by_ n s - s := by omega
      have e : s + (enk by_ n s - s) = enk by_ n s := by omega
      rw [e, eMo_digits_15, mDigit (d + 1) (spp_bt h) (spp_27 _ _) (by omega), bI_some, bif2, if_neg (fun z => hend z.1 z.2), gI_hh, gJ_hh, spp_27, nJ_sub (show s ≤ enk by_ n s by omega)]
      by_cases h5 : 5 < enk by_ n s - s
      · rw [if_pos (lt_Ln (a := 5) h5 (by omega)), if_pos h5, show ev (d + 2) mMo_fails 0 [vR (43, 0), vI 1, vI (nJ s)] [] (hh (spp A (enk by_ n s)) B) = _ from mFails0 (d + 2) s 1 (by rw [spp_28]; exact hf), bV_some]
      · have hv := nmF_lt (by_ := by_) (p := s) (min (enk by_ n s - s) 5) (fun i hi => (dig_run (n := n) hk i (by omega)).2)
        have := p10_5 (show min (enk by_ n s - s) 5 ≤ 5 by omega)
        rw [if_neg (nlt_Ln (a := 5) (by omega) (by omega)), if_neg h5, if_neg (nlt_Ln (a := 99999) (by omega) (by omega))]
    | succ j ih =>
      intro k hkj
      obtain ⟨d1, d2⟩ := dig_run (n := n) hk k (by omega)
      have hk2 : kB (by_ (s + k)) = 2 := kB2.mpr ⟨d1, d2⟩
      rw [eMo_digits_15, mDigit (d + 1) (spp_bt h) (spp_27 _ _) (by omega), bI_some, bif2, if_pos ⟨by omega, hk2⟩, gI_hh, gJ_hh, spp_27, nJ_sub (show s ≤ s + k by omega), Nat.add_sub_cancel_left]
      have nx := ih (k + 1) (by omega)
      have hsp : up2 (spp A (s + k)) (43, 0) 27 (nJ (s + k + 1)) = spp A (s + (k + 1)) := spp_spp A _ _
      by_cases h5 : k < 5
      · have hv := nmF_lt (by_ := by_) (p := s) k (fun i hi => (dig_run (n := n) hk i (by omega)).2)
        have := p10_5 (show k ≤ 5 by omega)
        have hsg : sgn by_ n (s + k) = nJ (by_ (s + k)) := if_pos (by omega)
        rw [if_pos (lt_nL (b := 5) h5 (by decide)), mSign (d + 2) (spp_bt h) (spp_27 _ _) (by omega), bI_some, gI_hh, gJ_hh, hsg, Nat.min_eq_left (show k ≤ 5 by omega), (dig_step (by omega) d1 d2).2, spp_27, nJ_succ, hsp]
        rw [Nat.min_eq_left (show k + 1 ≤ 5 by omega)] at nx
        exact nx
      · rw [if_neg (nlt_nL (b := 5) (by omega) (by omega)), nJ_succ, hsp, Nat.min_eq_right (show 5 ≤ k by omega)]
        rw [Nat.min_eq_right (show 5 ≤ k + 1 by omega)] at nx
        exact nx
  have g0 := go (enk by_ n s - s) 0 (by omega)
  rw [show spp A (s + 0) = A from spp_self hs] at g0
  have g0 : ev (d + 3) mMo_digits 15 [vR (43, 0), vI 99999, vI (nJ s), vI 0] [] (hh A B) = _ := g0
  rw [eMo_digits_0, mDigit (d + 1) h hs (by omega), bI_some, bif2, if_pos ⟨hlt, hk⟩, gI_hh, gJ_hh, hs, g0]
theorem mDigitsN {A : IT} {B : JT} {by_ : Nat → Nat} {n s : Nat} (d : Nat) (x : Int32) (h : BtM A by_ n) (hs : A (43, 0) 27 = nJ s) (hf : A (43, 0) 28 = 0) (hsl : s ≤ 1000) (hk : ¬ (s < n ∧ kB (by_ s) = 2)) : ev (d + 3) mMo_digits 0 [vR (43, 0), vI x, vU, vU] [] (hh A B) = some (some (vI 0), hh (up2 A (43, 0) 28 (nJ (1 + 8 * s + 0))) B) := by
  rw [eMo_digits_0, mDigit (d + 1) h hs hsl, bI_some, bif2, if_neg hk, gI_hh, gJ_hh, hs, show ev (d + 2) mMo_fails 0 [vR (43, 0), vI 0, vI (nJ s)] [] (hh A B) = _ from mFails0 (d + 2) s 0 hf, bV_some]
/-- both texts, at one place: i tokens, p bytes behind; f: a fault -/
def TxR (I A : IT) (by_ : Nat → Nat) (n k1 tk i f p : Nat) : Prop := TkS I by_ n k1 tk ∧ BtM A by_ n ∧ i ≤ tk ∧ I (1, 0) 6 = nJ i ∧ I (1, 0) 7 = nJ f ∧ A (43, 0) 27 = nJ p ∧ A (43, 0) 28 = nJ f ∧ p ≤ n ∧ f < 100000 ∧ (f = 0 → sbk by_ n p = tpk by_ n i)
def FrX (I I' : IT) : Prop := ∀ a k, ¬ (a = (1, 0) ∧ (k = 6 ∨ k = 7)) → I' a k = I a k
def FrY (A A' : IT) : Prop := ∀ a k, ¬ (a = (43, 0) ∧ (k = 27 ∨ k = 28)) → A' a k = A a k
theorem FrX.rf (I : IT) : FrX I I := fun _ _ _ => rfl
theorem FrY.rf (I : IT) : FrY I I := fun _ _ _ => rfl
theorem FrX.tr {I I' I'' : IT} (h : FrX I I') (h' : FrX I' I'') : FrX I I'' := fun a k hk => (h' a k hk).trans (h a k hk)
theorem FrY.tr {I I' I'' : IT} (h : FrY I I') (h' : FrY I' I'') : FrY I I'' := fun a k hk => (h' a k hk).trans (h a k hk)
theorem FrX.u6 {I : IT} {x : Int32} : FrX I (up2 I (1, 0) 6 x) := fun a k hk => by rw [up_at, if_neg (fun z => hk ⟨z.1, Or.inl z.2⟩)]
theorem FrX.u7 {I : IT} {x : Int32} : FrX I (up2 I (1, 0) 7 x) := fun a k hk => by rw [up_at, if_neg (fun z => hk ⟨z.1, Or.inr z.2⟩)]
theorem FrY.u27 {A : IT} {x : Int32} : FrY A (up2 A (43, 0) 27 x) := fun a k hk => by rw [up_at, if_neg (fun z => hk ⟨z.1, Or.inl z.2⟩)]
theorem FrY.u28 {A : IT} {x : Int32} : FrY A (up2 A (43, 0) 28 x) := fun a k hk => by rw [up_at, if_neg (fun z => hk ⟨z.1, Or.inr z.2⟩)]
theorem FrX.tks {I I' : IT} {by_ : Nat → Nat} {n k1 tk : Nat} (h : FrX I I') (hT : TkS I by_ n k1 tk) : TkS I' by_ n k1 tk := by
  have e3 : I' (3, 0) = I (3, 0) := funext fun k => h _ k (fun z => by cases z.1)
  have e4 : I' (4, 0) = I (4, 0) := funext fun k => h _ k (fun z => by cases z.1)
  have e5 : I' (5, 0) = I (5, 0) := funext fun k => h _ k (fun z => by cases z.1)
  have e2 : I' (2, 0) = I (2, 0) := funext fun k => h _ k (fun z => by cases z.1)
  have e15 : I' (1, 0) 5 = I (1, 0) 5 := h _ _ (by decide)
  have e11 : I' (1, 0) 1 = I (1, 0) 1 := h _ _ (by decide)
  unfold TkS TkP BtC at hT ⊢
  rw [e3, e4, e5, e2, e15, e11]
  exact hT
theorem FrY.bt {A A' : IT} {by_ : Nat → Nat} {n : Nat} (h : FrY A A') (hb : BtM A by_ n) : BtM A' by_ n := by
  have e68 : A' (68, 0) = A (68, 0) := funext fun k => h _ k (fun z => by cases z.1)
  have e26 : A' (43, 0) 26 = A (43, 0) 26 := h _ _ (by decide)
  unfold BtM at hb ⊢
  rw [e68, e26]
  exact hb
theorem tpk_le {by_ : Nat → Nat} {n k1 tk i : Nat} {I : IT} (h : TkS I by_ n k1 tk) (hi : i ≤ tk) : tpk by_ n i ≤ n := by
  by_cases e : i = tk
  · rw [e, h.2.2.2.2.1]
    exact Nat.le_refl n
  · have := (h.2.2.2.1 i (by omega)).1
    omega
/-- what stands at a token -/
theorem TkS.at {I : IT} {by_ : Nat → Nat} {n k1 tk i : Nat} (h : TkS I by_ n k1 tk) (hi : i ≤ tk) : tk ≤ 400 ∧ tpk by_ n i ≤ n ∧ (tpk by_ n i = n ↔ i = tk) ∧ I (3, 0) i = nJ (if i = tk then 0 else kB (by_ (tpk by_ n i))) ∧ I (4, 0) i = (if i = tk then -1 else tvF by_ n k1 (tpk by_ n i)) ∧ I (5, 0) i = nJ (tpk by_ n i) := by
  obtain ⟨⟨hn, -⟩, h1, h2, h3, h4, h5, h6, h7⟩ := h
  by_cases e : i = tk
  · rw [e, if_pos rfl, if_pos rfl, h4]
    exact ⟨by omega, Nat.le_refl n, ⟨fun _ => rfl, fun _ => rfl⟩, h5, h6, h7⟩
  · obtain ⟨t1, t2, t3, t4, t5⟩ := h3 i (by omega)
    rw [if_neg e, if_neg e]
    exact ⟨by omega, by omega, ⟨fun z => by omega, fun z => absurd z e⟩, t3, t4, t5⟩
theorem cNumHere {I : IT} {J : JT} {by_ : Nat → Nat} {n k1 tk i : Nat} (d : Nat) (h : TkS I by_ n k1 tk) (hi : i ≤ tk) (e6 : I (1, 0) 6 = nJ i) : ev d mTe_numberHere 0 [vR (1, 0)] [] (hh I J) = some (some (vI (if i < tk ∧ kB (by_ (tpk by_ n i)) = 2 then nvF by_ n (tpk by_ n i) else -1)), hh I J) := by
  obtain ⟨t1, t2, t3, t4, t5, t6⟩ := h.at hi
  have hk := kB_lt (by_ (tpk by_ n i))
  rw [eTe_numberHere_0, e6, bnd (show i < 401 by omega) (by omega), bnd (show i < 401 by omega) (by omega), nJ_nat (show i < 2147483648 by omega), t4, t5]
  by_cases e : i = tk
  · rw [if_pos e, if_neg (show ¬ nJ 0 = 2 by decide), if_neg (fun z => by omega)]
  · rw [if_neg e, if_neg e]
    by_cases h2 : kB (by_ (tpk by_ n i)) = 2
    · rw [if_pos (show nJ (kB (by_ (tpk by_ n i))) = 2 by rw [h2]; rfl), if_pos ⟨by omega, h2⟩]
      unfold tvF
      rw [if_neg (by omega), if_pos h2]
    · rw [if_neg (ne_nL (b := 2) h2 (by omega) (by decide)), if_neg (fun z => h2 z.2)]
theorem cIsNum {I : IT} {J : JT} {by_ : Nat → Nat} {n k1 tk i : Nat} (d : Nat) (h : TkS I by_ n k1 tk) (hi : i ≤ tk) (e6 : I (1, 0) 6 = nJ i) : ev d mTe_isNumber 0 [vR (1, 0)] [] (hh I J) = some (some (vI (if i < tk ∧ kB (by_ (tpk by_ n i)) = 2 then 1 else 0)), hh I J) := by
  obtain ⟨t1, t2, t3, t4, t5, t6⟩ := h.at hi
  have hk := kB_lt (by_ (tpk by_ n i))
  rw [eTe_isNumber_0, e6, bnd (show i < 401 by omega) (by omega), nJ_nat (show i < 2147483648 by omega), t4]
  by_cases e : i = tk
  · rw [if_pos e, if_neg (show ¬ nJ 0 = 2 by decide), if_neg (fun z => by omega)]
  · rw [if_neg e]
    by_cases h2 : kB (by_ (tpk by_ n i)) = 2
    · rw [if_pos (show nJ (kB (by_ (tpk by_ n i))) = 2 by rw [h2]; rfl), if_pos ⟨by omega, h2⟩]
    · rw [if_neg (ne_nL (b := 2) h2 (by omega) (by decide)), if_neg (fun z => h2 z.2)]
theorem cFail0 {I : IT} {J : JT} {by_ : Nat → Nat} {n k1 tk i : Nat} (d k : Nat) (h : TkS I by_ n k1 tk) (hi : i ≤ tk) (e6 : I (1, 0) 6 = nJ i) (e7 : I (1, 0) 7 = 0) : ev d mTe_fail 0 [vR (1, 0), vI (nJ k)] [] (hh I J) = some (none, hh (up2 I (1, 0) 7 (nJ (1 + 8 * tpk by_ n i + k))) J) := by
  obtain ⟨t1, t2, t3, t4, t5, t6⟩ := h.at hi
  rw [eTe_fail_0, if_pos e7, e6, bnd (show i < 401 by omega) (by omega), nJ_nat (show i < 2147483648 by omega), t6, nJ_flt]
theorem cFailN {I : IT} {J : JT} (d : Nat) (x : Int32) (e7 : ¬ I (1, 0) 7 = 0) : ev d mTe_fail 0 [vR (1, 0), vI x] [] (hh I J) = some (none, hh I J) := by
  rw [eTe_fail_0, if_neg e7]
theorem cSkipN {I : IT} {J : JT} (d : Nat) (e7 : ¬ I (1, 0) 7 = 0) : ev d mTe_skip 0 [vR (1, 0)] [] (hh I J) = some (none, hh I J) := by
  rw [eTe_skip_0, if_neg e7]
theorem cSkip {I : IT} {J : JT} {tk i : Nat} (d : Nat) (e7 : I (1, 0) 7 = 0) (e6 : I (1, 0) 6 = nJ i) (e5 : I (1, 0) 5 = nJ tk) (hi : i < tk) (htk : tk ≤ 400) : ev d mTe_skip 0 [vR (1, 0)] [] (hh I J) = some (none, hh (up2 I (1, 0) 6 (nJ (i + 1))) J) := by
  rw [eTe_skip_0, if_pos e7, e6, e5, if_pos (lt_nJ hi (by omega)), nJ_succ]
