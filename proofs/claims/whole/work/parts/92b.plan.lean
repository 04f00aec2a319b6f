/-! ROUNDS of the class -/
def PlS (I0 I : IT) (G : Nat → Nat → Nat) (H : Nat → Nat) : Prop := (∀ a : Ad, a ≠ (30, 0) → a ≠ (31, 0) → I a = I0 a) ∧ (∀ t k, t < 64 → k < 6 → I (30, 0) (t * 6 + k) = nJ (G t k)) ∧ (∀ t, t < 64 → I (31, 0) t = nJ (H t))
theorem PlS.ext {I0 I : IT} {G G' : Nat → Nat → Nat} {H H' : Nat → Nat} (h : PlS I0 I G H) (hG : ∀ t k, t < 64 → k < 6 → G t k = G' t k) (hH : ∀ t, t < 64 → H t = H' t) : PlS I0 I G' H' := ⟨h.1, fun t k ht hk => by rw [← hG t k ht hk]; exact h.2.1 t k ht hk, fun t ht => by rw [← hH t ht]; exact h.2.2 t ht⟩
theorem PlS.G {I0 I : IT} {G : Nat → Nat → Nat} {H : Nat → Nat} (h : PlS I0 I G H) {t k : Nat} (ht : t < 64) (hk : k < 6) (x : Nat) : PlS I0 (up2 I (30, 0) (t * 6 + k) (nJ x)) (fun t' k' => if t' = t ∧ k' = k then x else G t' k') H := by
  refine ⟨fun a h1 h2 => funext fun j => (up_ne _ _ _ _ h1).trans (congrFun (h.1 a h1 h2) j), fun t' k' ht' hk' => ?_, fun t' ht' => (up_ne _ _ _ _ (by decide)).trans (h.2.2 t' ht')⟩
  by_cases e : t' = t ∧ k' = k
  · rw [e.1, e.2, up_same]
    dsimp only
    rw [if_pos ⟨rfl, rfl⟩]
  · rw [up_neK _ _ (show t' * 6 + k' ≠ t * 6 + k by omega)]
    dsimp only
    rw [if_neg e]
    exact h.2.1 t' k' ht' hk'
theorem PlS.H {I0 I : IT} {G : Nat → Nat → Nat} {H : Nat → Nat} (h : PlS I0 I G H) (t x : Nat) : PlS I0 (up2 I (31, 0) t (nJ x)) G (fun t' => if t' = t then x else H t') := by
  refine ⟨fun a h1 h2 => funext fun j => (up_ne _ _ _ _ h2).trans (congrFun (h.1 a h1 h2) j), fun t' k' ht' hk' => (up_ne _ _ _ _ (by decide)).trans (h.2.1 t' k' ht' hk'), fun t' ht' => ?_⟩
  by_cases e : t' = t
  · rw [e, up_same]
    dsimp only
    rw [if_pos rfl]
  · rw [up_neK _ _ e]
    dsimp only
    rw [if_neg e]
    exact h.2.2 t' ht'
/-- what the class has of a round -/
def RcC (I : IT) (R : RD) (S w u : Nat) (gl : Nat → Nat) : Prop := (I (8, 0) 3 = nJ S ∧ I (17, 0) 0 = nJ R.day ∧ I (18, 0) w = nJ u ∧ u < 8 ∧ w < 3) ∧ (∀ k, k < S → gl k < 8 ∧ I (13, 0) k = nJ (gl k) ∧ I (14, 0) k = nJ (R.due k) ∧ I (11, 0) (8 * u + gl k) = nJ (R.w k) ∧ I (11, 0) (8 * gl k + 0) = nJ (R.ho k) ∧ ∀ i, i < S → I (11, 0) (8 * gl i + gl k) = nJ (R.dd i k)) ∧ I (11, 0) (8 * u + 0) = nJ R.hw
theorem PlS.rc {I0 I : IT} {G : Nat → Nat → Nat} {H : Nat → Nat} {R : RD} {S w u : Nat} {gl : Nat → Nat} (h : PlS I0 I G H) (hc : RcC I0 R S w u gl) : RcC I R S w u gl := by
  have e : ∀ s, s ≠ 30 → s ≠ 31 → I (s, 0) = I0 (s, 0) := fun s h1 h2 => h.1 (s, 0) (fun z => h1 (Prod.mk.inj z).1) (fun z => h2 (Prod.mk.inj z).1)
  unfold RcC at hc ⊢
  rw [e 8 (by decide) (by decide), e 17 (by decide) (by decide), e 18 (by decide) (by decide), e 13 (by decide) (by decide), e 14 (by decide) (by decide), e 11 (by decide) (by decide)]
  exact hc
theorem dec_nJ (x : Nat) (hx : x < 2147483648) : (if nJ x - 1 < (0 : Int32) then (0 : Int32) else nJ x - 1) = nJ (x - 1) := by
  cases x with
  | zero => decide
  | succ x =>
    have e : nJ (x + 1) - 1 = nJ x := nJ_sub (a := x + 1) (b := 1) (by omega)
    rw [e, if_neg (nJ_nn (by omega))]
    rfl
theorem reach_ok {I0 I : IT} {J : JT} {G : Nat → Nat → Nat} {H : Nat → Nat} {R : RD} {S w u : Nat} {gl : Nat → Nat} (d : Nat) (hR : R.Ok S) (hc : RcC I0 R S w u gl) (hp : PlS I0 I G H) {t k x : Nat} (ht : t < 64) (hk : k < S) (hx : x < 3000000) (hG : G t k ≤ 1000000) : Tr (ev d mRd_reach 0 [vR (29, 0), vR (8, 0), vR (17, 0), vI (nJ t), vI (nJ k), vI (nJ x), vU, vU] [] (hh I J)) (fun v I' J' => v = none ∧ J' = J ∧ PlS I0 I' (fun t' k' => if t' = t ∧ k' = k then min (G t k) (R.fl k x) else G t' k') H) := by
  have h6 := hR.s6
  have hdu := hR.due k hk
  have hda := hR.day
  obtain ⟨⟨c1, c2, c3, c4, c5⟩, c6, c7⟩ := hp.rc hc
  obtain ⟨k1, k2, k3, -⟩ := c6 k hk
  have ei : nJ t * 6 + nJ k = nJ (t * 6 + k) := by
    rw [show nJ t * 6 = nJ (t * 6) from nJ_mul t 6, nJ_add]
  have e30 := hp.2.1 t k ht (by omega)
  rw [eRd_reach_0, bnd (show k < 6 by omega) (by omega), nJ_nat (show k < 2147483648 by omega), k3, c2, dec_nJ x (by omega), nJ_add, ei, bnd (show t * 6 + k < 384 by omega) (by omega), nJ_nat (show t * 6 + k < 2147483648 by omega), e30]
  by_cases h1 : R.due k < R.day + (x - 1)
  · rw [if_pos (lt_nJ h1 (by omega)), if_pos (show (0 : Int32) = 0 from rfl)]
    refine Tr.ret ⟨rfl, rfl, hp.ext (fun t' k' _ _ => ?_) (fun _ _ => rfl)⟩
    by_cases e : t' = t ∧ k' = k
    · rw [if_pos e, e.1, e.2]
      unfold RD.fl
      rw [if_neg (by omega)]
      omega
    · rw [if_neg e]
  · rw [if_neg (nlt_nJ (by omega) (by omega)), if_neg (show ¬ (1 : Int32) = 0 by decide)]
    have efl : R.fl k x = x := by
      unfold RD.fl
      rw [if_pos (by omega)]
    by_cases h2 : x < G t k
    · rw [if_pos (lt_nJ h2 (by omega)), bnk (show t * 6 + k < 384 by omega) (by omega)]
      refine Tr.ret ⟨rfl, rfl, (hp.G ht (by omega) x).ext (fun t' k' _ _ => ?_) (fun _ _ => rfl)⟩
      by_cases e : t' = t ∧ k' = k
      · rw [if_pos e, if_pos e, efl]
        omega
      · rw [if_neg e, if_neg e]
    · rw [if_neg (nlt_nJ (by omega) (by omega))]
      refine Tr.ret ⟨rfl, rfl, hp.ext (fun t' k' _ _ => ?_) (fun _ _ => rfl)⟩
      by_cases e : t' = t ∧ k' = k
      · rw [if_pos e, e.1, e.2, efl]
        omega
      · rw [if_neg e]
/-- gone on from one set -/
def GF (R : RD) (G : Nat → Nat → Nat) (s l x op j : Nat) : Nat → Nat → Nat := fun t k => if k < j ∧ op.testBit k = true ∧ t = s ||| 2 ^ k then min (G t k) (R.fl k (x + R.dd l k)) else G t k
theorem fur_go {I0 : IT} {J : JT} {G : Nat → Nat → Nat} {H : Nat → Nat} {R : RD} {S w u : Nat} {gl : Nat → Nat} (d : Nat) (hR : R.Ok S) (hc : RcC I0 R S w u gl) {s l x op : Nat} (hs : s < 64) (hl : l < S) (hx : x ≤ 1000000) (hop : op < 256) (hG : ∀ t k, t < 64 → k < 6 → G t k ≤ 1000000) : ∀ n j I, j + n = S → PlS I0 I (GF R G s l x op j) H → Tr (ev (d + 1) mRd_goFurther 35 [vR (29, 0), vR (8, 0), vR (17, 0), vI (nJ s), vU, vI (nJ op), vI (nJ x), vI (nJ (gl l)), vU, vI (nJ j)] [] (hh I J)) (fun v I' J' => v = none ∧ J' = J ∧ PlS I0 I' (GF R G s l x op S) H) := by
  have h6 := hR.s6
  intro n
  induction n with
  | zero =>
    intro j I hj hp
    obtain rfl : j = S := by omega
    have c1 := (hp.rc hc).1.1
    rw [eRd_goFurther_35, c1, if_neg (nlt_nJ (Nat.le_refl j) (by omega))]
    exact Tr.ret ⟨rfl, rfl, hp⟩
  | succ n ih =>
    intro j I hj hp
    have hjS : j < S := by omega
    obtain ⟨⟨c1, c2, c3, c4, c5⟩, c6, c7⟩ := hp.rc hc
    obtain ⟨k1, k2, k3, k4, k5, k6⟩ := c6 j hjS
    obtain ⟨l1, l2, -⟩ := c6 l hl
    rw [eRd_goFurther_35, c1, if_pos (lt_nJ hjS (by omega)), nJ_succ]
    cases hb : op.testBit j with
    | false =>
      rw [if_pos (Eq.mpr (b8_shr0 hop (show j < 8 by omega)) hb)]
      refine ih (j + 1) I (by omega) (hp.ext (fun t k _ _ => ?_) (fun _ _ => rfl))
      unfold GF
      by_cases e : k < j ∧ op.testBit k = true ∧ t = s ||| 2 ^ k
      · rw [if_pos e, if_pos ⟨by omega, e.2⟩]
      · rw [if_neg e, if_neg (fun z => e ⟨by
          by_cases ek : k = j
          · rw [ek, hb] at z
            exact absurd z.2.1 (by decide)
          · omega, z.2⟩)]
    | true =>
      have hd := hR.dd l j hl hjS
      rw [if_neg (fun z => by have := Eq.mp (b8_shr0 hop (show j < 8 by omega)) z; rw [hb] at this; cases this), bnd (show j < 6 by omega) (by omega), nJ_nat (show j < 2147483648 by omega), k2, cBetw _ _ _ _ (by omega) (by omega), bI_some, k6 l hl, nJ_add, b_or s hs j (by omega), gI_hh, gJ_hh]
      have hGj : GF R G s l x op j (s ||| 2 ^ j) j = G (s ||| 2 ^ j) j := by
        unfold GF
        rw [if_neg (fun z => by omega)]
      have hlt := b_or_lt s hs j (by omega)
      refine Tr.bV ((reach_ok (I := I) (J := J) d hR hc hp (t := s ||| 2 ^ j) (k := j) (x := x + R.dd l j) hlt hjS (by omega) (by rw [hGj]; exact hG _ _ hlt (by omega))).mono fun v I' J' ⟨h1, h2, h3⟩ => ⟨h1, ?_⟩)
      subst h2
      refine ih (j + 1) I' (by omega) (h3.ext (fun t k _ _ => ?_) (fun _ _ => rfl))
      by_cases e : t = s ||| 2 ^ j ∧ k = j
      · rw [if_pos e, e.1, e.2, hGj]
        unfold GF
        rw [if_pos ⟨by omega, hb, rfl⟩]
      · rw [if_neg e]
        unfold GF
        by_cases e' : k < j ∧ op.testBit k = true ∧ t = s ||| 2 ^ k
        · rw [if_pos e', if_pos ⟨by omega, e'.2⟩]
        · rw [if_neg e', if_neg (fun z => e' ⟨by
            by_cases ek : k = j
            · rw [ek] at z
              exact absurd ⟨z.2.2, ek⟩ e
            · omega, z.2⟩)]
theorem gofur {I0 I : IT} {J : JT} {G : Nat → Nat → Nat} {H : Nat → Nat} {R : RD} {S w u : Nat} {gl : Nat → Nat} (d : Nat) (hR : R.Ok S) (hc : RcC I0 R S w u gl) {s l op : Nat} (hs : s < 64) (hl : l < S) (hop : op < 256) (hG : ∀ t k, t < 64 → k < 6 → G t k ≤ 1000000) (hH : H s ≤ 1000000) (hp : PlS I0 I G H) : Tr (ev (d + 1) mRd_goFurther 0 [vR (29, 0), vR (8, 0), vR (17, 0), vI (nJ s), vI (nJ l), vI (nJ op), vU, vU, vU, vU] [] (hh I J)) (fun v I' J' => v = none ∧ J' = J ∧ PlS I0 I' (GF R G s l (G s l) op S) (fun t => if t = s then min (H s) (min 1000000 (G s l + R.ho l)) else H t)) := by
  have h6 := hR.s6
  obtain ⟨⟨c1, c2, c3, c4, c5⟩, c6, c7⟩ := hp.rc hc
  obtain ⟨k1, k2, k3, k4, k5, k6⟩ := c6 l hl
  have hGs := hG s l hs (by omega)
  have hh1 := hR.ho l hl
  have ei : nJ s * 6 + nJ l = nJ (s * 6 + l) := by
    rw [show nJ s * 6 = nJ (s * 6) from nJ_mul s 6, nJ_add]
  have hb0 : ev d mRo_between 0 [vR (8, 0), vI (nJ (gl l)), vI 0] [] (hh I J) = some (some (vI (nJ (R.ho l))), hh I J) := by
    have := cBetw (I := I) (J := J) d 0 (gl l) 0 (by omega) (by decide)
    rw [k5] at this
    exact this
  rw [eRd_goFurther_0, ei, bnd (show s * 6 + l < 384 by omega) (by omega), bnd (show l < 6 by omega) (by omega), nJ_nat (show l < 2147483648 by omega), nJ_nat (show s * 6 + l < 2147483648 by omega), k2, hb0, bI_some, bnd (show s < 64 by omega) (by omega), bnd (show s < 64 by omega) (by omega), nJ_nat (show s < 2147483648 by omega), gI_hh, gJ_hh, hp.2.1 s l hs (by omega), hp.2.2 s hs, nJ_add]
  have em : (if (if (1000000 : Int32) < nJ (G s l + R.ho l) then (1000000 : Int32) else nJ (G s l + R.ho l)) < nJ (H s) then (if (1000000 : Int32) < nJ (G s l + R.ho l) then (1000000 : Int32) else nJ (G s l + R.ho l)) else nJ (H s)) = nJ (min (H s) (min 1000000 (G s l + R.ho l))) := by
    have e1 : (if (1000000 : Int32) < nJ (G s l + R.ho l) then (1000000 : Int32) else nJ (G s l + R.ho l)) = nJ (min 1000000 (G s l + R.ho l)) := by
      by_cases h1 : 1000000 < G s l + R.ho l
      · rw [if_pos (lt_Ln (a := 1000000) h1 (by omega)), Nat.min_eq_left (by omega)]
        rfl
      · rw [if_neg (nlt_Ln (a := 1000000) (by omega) (by omega)), Nat.min_eq_right (by omega)]
    rw [e1]
    by_cases h1 : min 1000000 (G s l + R.ho l) < H s
    · rw [if_pos (lt_nJ h1 (by omega)), show min (H s) (min 1000000 (G s l + R.ho l)) = min 1000000 (G s l + R.ho l) by omega]
    · rw [if_neg (nlt_nJ (by omega) (by omega)), show min (H s) (min 1000000 (G s l + R.ho l)) = H s by omega]
  rw [em]
  refine fur_go (J := J) d hR hc hs hl (by omega) hop hG S 0 _ (by omega) ((hp.H s _).ext (fun t k _ _ => ?_) (fun _ _ => rfl))
  unfold GF
  rw [if_neg (fun z => by omega)]
