/-! PARTED: the class -/
theorem RcC.ext {I0 I : IT} {R : RD} {S w u : Nat} {gl : Nat → Nat} (hc : RcC I0 R S w u gl) (h : ∀ s, s < 29 → I (s, 0) = I0 (s, 0)) : RcC I R S w u gl := by
  unfold RcC at hc ⊢
  rw [h 8 (by decide), h 17 (by decide), h 18 (by decide), h 13 (by decide), h 14 (by decide), h 11 (by decide)]
  exact hc
theorem RcM.ext {A0 A : IT} {R : RD} {S w u : Nat} {gl : Nat → Nat} (hc : RcM A0 R S w u gl) (h : ∀ s, s < 80 → A (s, 0) = A0 (s, 0)) : RcM A R S w u gl := by
  unfold RcM at hc ⊢
  rw [h 44 (by decide), h 53 (by decide), h 48 (by decide), h 49 (by decide), h 47 (by decide)]
  exact hc
theorem fbL_false {f : Nat → Bool} : ∀ n, (∀ s, s < n → f s = false) → fbL f n = 0
  | 0, _ => rfl
  | n + 1, h => by
    unfold fbL
    rw [fbL_false n (fun s hs => h s (by omega)), if_neg (by rw [h n (by omega)]; decide)]
    rfl
/-- the class, on its way through the walkers -/
def PaC (I0 I : IT) (J0 J : JT) (fit : Nat → Nat → Bool) (w : Nat) : Prop := (∀ a : Ad, a ≠ (30, 0) → a ≠ (31, 0) → a ≠ (33, 0) → I a = I0 a) ∧ ∀ w', w' < w → I (33, 0) w' = 0 ∧ J (32, 0) w' = fbL (fit w') 64
theorem part28 {I : IT} {w : Nat} {H : Nat → Nat} (d : Nat) (hw : w < 3) (hH : ∀ t, t < 64 → I (31, 0) t = nJ (H t) ∧ H t ≤ 1000000) : ∀ n t J, t + n = 64 → J (32, 0) w = fbL (fun t => decide (H t < 1000000)) t → ∃ J', (∀ a k, ¬ (a = (32, 0) ∧ k = w) → J' a k = J a k) ∧ J' (32, 0) w = fbL (fun t => decide (H t < 1000000)) 64 ∧ ev (d + 1) mRd_part 28 [vR (29, 0), vR (8, 0), vR (17, 0), vI (nJ w), vI (nJ t)] [] (hh I J) = ev (d + 1) mRd_part 2 [vR (29, 0), vR (8, 0), vR (17, 0), vI (nJ (w + 1)), vU] [] (hh I J') := by
  intro n
  induction n with
  | zero =>
    intro t J ht hJ
    obtain rfl : t = 64 := by omega
    exact ⟨J, fun _ _ _ => rfl, hJ, by rw [eRd_part_28, if_neg (show ¬ nJ 64 < 64 by decide), nJ_succ]⟩
  | succ n ih =>
    intro t J ht hJ
    have ht64 : t < 64 := by omega
    obtain ⟨h1, h2⟩ := hH t ht64
    have hu : fbL (fun t => decide (H t < 1000000)) (t + 1) = fbL (fun t => decide (H t < 1000000)) t ||| (if decide (H t < 1000000) = true then 1 <<< ((nJ t).toInt64 &&& 63) else 0) := rfl
    have key : ∀ x, x = fbL (fun t => decide (H t < 1000000)) (t + 1) → ∃ J', (∀ a k, ¬ (a = (32, 0) ∧ k = w) → J' a k = J a k) ∧ J' (32, 0) w = fbL (fun t => decide (H t < 1000000)) 64 ∧ ev (d + 1) mRd_part 28 [vR (29, 0), vR (8, 0), vR (17, 0), vI (nJ w), vI (nJ (t + 1))] [] (hh I (up2 J (32, 0) w x)) = ev (d + 1) mRd_part 2 [vR (29, 0), vR (8, 0), vR (17, 0), vI (nJ (w + 1)), vU] [] (hh I J') := fun x hx => by
      obtain ⟨J', a1, a2, a3⟩ := ih (t + 1) (up2 J (32, 0) w x) (by omega) (by rw [up_same]; exact hx)
      exact ⟨J', fun a k hk => (a1 a k hk).trans (if_neg hk), a2, a3⟩
    rw [eRd_part_28, if_pos (lt_nL (b := 64) ht64 (by decide)), bnd hw (by omega), bnd ht64 (by omega), nJ_nat (show t < 2147483648 by omega), nJ_nat (show w < 2147483648 by omega), bnk hw (by omega), bnk hw (by omega), h1, nJ_succ, hJ]
    by_cases hlt : H t < 1000000
    · rw [if_pos (lt_nL (b := 1000000) hlt (by decide))]
      exact key _ (by rw [hu, decide_eq_true hlt, if_pos rfl])
    · rw [if_neg (nlt_nL (b := 1000000) (by omega) (by omega))]
      exact key _ (by rw [hu, decide_eq_false hlt, if_neg (by decide)])
theorem part2 {I0 : IT} {J0 : JT} {S N : Nat} {R : Nat → RD} {u : Nat → Nat} {gl : Nat → Nat} {z1 z2 : Nat} {fit : Nat → Nat → Bool} (d : Nat) (hN : N ≤ 3) (e4 : I0 (8, 0) 4 = nJ N) (hR : ∀ w, w < N → (R w).Ok S ∧ RcC I0 (R w) S w (u w) gl ∧ (R w).can = opF (I0 (22, 0)) (nJ w) (z1 ||| z2) S) (h1 : I0 (17, 0) 1 = nJ z1) (h2 : I0 (17, 0) 2 = nJ z2) (hz1 : z1 < 64) (hz2 : z2 < 64) (hfit : fit = fitF R (fun w => decide (I0 (19, 0) w = 0)) S) : ∀ n w I J, w + n = N → PaC I0 I J0 J fit w → ∃ I' J', PaC I0 I' J0 J' fit N ∧ ev (d + 3) mRd_part 2 [vR (29, 0), vR (8, 0), vR (17, 0), vI (nJ w), vU] [] (hh I J) = ev (d + 3) mRd_part 2 [vR (29, 0), vR (8, 0), vR (17, 0), vI (nJ N), vU] [] (hh I' J') := by
  intro n
  induction n with
  | zero =>
    intro w I J hw hp
    obtain rfl : w = N := by omega
    exact ⟨I, J, hp, rfl⟩
  | succ n ih =>
    intro w I J hw hp
    have hwN : w < N := by omega
    obtain ⟨r1, r2, r3⟩ := hR w hwN
    have fr : ∀ s, s < 29 → I (s, 0) = I0 (s, 0) := fun s hs => hp.1 (s, 0) (fun z => by cases z; omega) (fun z => by cases z; omega) (fun z => by cases z; omega)
    have e4' : I (8, 0) 4 = nJ N := by rw [fr 8 (by decide)]; exact e4
    rw [eRd_part_2, e4', if_pos (lt_nJ hwN (by omega)), bnd (show w < 3 by omega) (by omega), bnd (show w < 3 by omega) (by omega), bnd (show w < 3 by omega) (by omega), nJ_nat (show w < 2147483648 by omega), fr 19 (by decide), nJ_succ]
    have hp1 : ∀ a : Ad, a ≠ (30, 0) → a ≠ (31, 0) → a ≠ (33, 0) → up2 I (33, 0) w 0 a = I0 a := fun a a1 a2 a3 => (funext fun j => up_ne _ _ _ _ a3).trans (hp.1 a a1 a2 a3)
    by_cases h0 : I0 (19, 0) w = 0
    · rw [if_pos h0]
      have fr1 : ∀ s, s < 29 → up2 I (33, 0) w 0 (s, 0) = I0 (s, 0) := fun s hs => hp1 (s, 0) (fun z => by cases z; omega) (fun z => by cases z; omega) (fun z => by cases z; omega)
      obtain ⟨v, I1, J1, ev1, rfl, rfl, hfr, hH⟩ := cPlan (I := up2 I (33, 0) w 0) (J := up2 J (32, 0) w 0) d r1 (r2.ext fr1) (by rw [fr1 17 (by decide)]; exact h1) (by rw [fr1 17 (by decide)]; exact h2) hz1 hz2 (by rw [fr1 22 (by decide)]; exact r3)
      obtain ⟨J', a1, a2, a3⟩ := part28 (I := I1) (w := w) (H := fun t => Hm (R w) t S) (d + 2) (by omega) (fun t ht => ⟨hH t ht, r1.H_le t S⟩) 64 0 (up2 J (32, 0) w 0) rfl (up_same _ _ _ _)
      have hfw : fit w = fun t => decide (Hm (R w) t S < 1000000) := by
        rw [hfit]
        funext t
        unfold fitF
        dsimp only
        rw [decide_eq_true h0, Bool.true_and]
      have hp2 : PaC I0 I1 J0 J' fit (w + 1) := by
        refine ⟨fun a b1 b2 b3 => (hfr a b1 b2).trans (hp1 a b1 b2 b3), fun w' hw' => ?_⟩
        rw [hfr (33, 0) (by decide) (by decide)]
        by_cases e : w' = w
        · rw [e, up_same, hfw]
          exact ⟨rfl, a2⟩
        · rw [up_neK _ _ e, a1 (32, 0) w' (fun z => e z.2), up_neK _ _ e]
          exact hp.2 w' (by omega)
      obtain ⟨I', J'', b1, b2⟩ := ih (w + 1) I1 J' (by omega) hp2
      refine ⟨I', J'', b1, ?_⟩
      rw [← b2, ← a3, ev1, bV_some, gI_hh, gJ_hh]
      rfl
    · rw [if_neg h0]
      have hfw : ∀ t, fit w t = false := fun t => by
        rw [hfit]
        unfold fitF
        dsimp only
        rw [decide_eq_false h0, Bool.false_and]
      have hp2 : PaC I0 (up2 I (33, 0) w 0) J0 (up2 J (32, 0) w 0) fit (w + 1) := by
        refine ⟨hp1, fun w' hw' => ?_⟩
        by_cases e : w' = w
        · rw [e, up_same, up_same, fbL_false 64 (fun t _ => hfw t)]
          exact ⟨rfl, rfl⟩
        · rw [up_neK _ _ e, up_neK _ _ e]
          exact hp.2 w' (by omega)
      exact ih (w + 1) _ _ (by omega) hp2
theorem fs63 {fee : Nat → Nat} : ∀ n, n ≤ 6 → fsF fee 63 n = sumT fee n
  | 0, _ => rfl
  | n + 1, h => by
    have hb : ∀ k, k < 6 → (63 : Nat).testBit k = true := by decide
    show (if (63 : Nat).testBit n = true then fsF fee 63 n + fee n else fsF fee 63 n) = sumT fee n + fee n
    rw [if_pos (hb n (by omega)), fs63 n (by omega)]
/-- the sentences parted, by the class -/
theorem cPart {I : IT} {J : JT} {S N : Nat} {R : Nat → RD} {u : Nat → Nat} {gl : Nat → Nat} {z1 z2 : Nat} {fit : Nat → Nat → Bool} {fee : Nat → Nat} (d : Nat) (hS : S ≤ 6) (hN : N ≤ 3) (e3 : I (8, 0) 3 = nJ S) (e4 : I (8, 0) 4 = nJ N) (hfe : ∀ k, k < S → I (15, 0) k = nJ (fee k) ∧ fee k < 100) (hR : ∀ w, w < N → (R w).Ok S ∧ RcC I (R w) S w (u w) gl ∧ (R w).can = opF (I (22, 0)) (nJ w) (z1 ||| z2) S) (h1 : I (17, 0) 1 = nJ z1) (h2 : I (17, 0) 2 = nJ z2) (hz1 : z1 < 64) (hz2 : z2 < 64) (hfit : fit = fitF R (fun w => decide (I (19, 0) w = 0)) S) : Tr (ev (d + 9) mRd_part 0 [vR (29, 0), vR (8, 0), vR (17, 0), vU, vU] [] (hh I J)) (fun v I' _ => v = none ∧ (∀ a : Ad, (a.1 < 29 ∨ 35 < a.1) → I' a = I a) ∧ I' (29, 0) 6 = dv (DFp (lfp fit fee S) S N S (fun _ => 0) (0, fun _ => 0)).1 ∧ ((DFp (lfp fit fee S) S N S (fun _ => 0) (0, fun _ => 0)).1 ≠ 0 → ∀ k, k < S → I' (35, 0) k = (DFp (lfp fit fee S) S N S (fun _ => 0) (0, fun _ => 0)).2 k)) := by
  obtain ⟨I1, J1, hp, e1⟩ := part2 (I0 := I) (J0 := J) (d + 6) hN e4 hR h1 h2 hz1 hz2 hfit N 0 I J (by omega) ⟨fun _ _ _ _ => rfl, fun w hw => by omega⟩
  have e1 : ev (d + 9) mRd_part 2 [vR (29, 0), vR (8, 0), vR (17, 0), vI 0, vU] [] (hh I J) = ev (d + 9) mRd_part 2 [vR (29, 0), vR (8, 0), vR (17, 0), vI (nJ N), vU] [] (hh I1 J1) := e1
  have fr : ∀ s, s < 29 → I1 (s, 0) = I (s, 0) := fun s hs => hp.1 (s, 0) (fun z => by cases z; omega) (fun z => by cases z; omega) (fun z => by cases z; omega)
  have e4' : I1 (8, 0) 4 = nJ N := by rw [fr 8 (by decide)]; exact e4
  have f8 : up2 I1 (29, 0) 6 (-1) (8, 0) = I (8, 0) := (funext fun j => up_ne _ _ _ _ (by decide)).trans (fr 8 (by decide))
  have f15 : up2 I1 (29, 0) 6 (-1) (15, 0) = I (15, 0) := (funext fun j => up_ne _ _ _ _ (by decide)).trans (fr 15 (by decide))
  have hF := cFees (I := up2 I1 (29, 0) 6 (-1)) (J := J1) (fee := fee) (s := 63) (d + 8) hS (by rw [f8]; exact e3) (fun k hk => by rw [f15]; exact (hfe k hk).1) (by decide)
  rw [fs63 S hS] at hF
  have hF : ev (d + 8) mRo_feesOf 0 [vR (8, 0), vI 63, vU, vU] [] (hh (up2 I1 (29, 0) 6 (-1)) J1) = _ := hF
  rw [eRd_part_0, e1, eRd_part_2, e4', if_neg (nlt_nJ (Nat.le_refl N) (by omega)), hF, bI_some, gI_hh, gJ_hh]
  have hT : TrH (up2 I1 (29, 0) 6 (-1)) J1 fit fee S N := ⟨hS, hN, by rw [f8]; exact e3, by rw [f8]; exact e4, fun k hk => by rw [f15]; exact hfe k hk, fun w hw => (hp.2 w hw).2⟩
  have hgo := try_go (I0 := up2 I1 (29, 0) 6 (-1)) (J := J1) (d + 7 - S) hT S 0 (by omega) (fun _ => 0) (up2 I1 (29, 0) 6 (-1)) (0, fun _ => 0) ⟨fun _ _ _ _ _ => rfl, up_same _ _ _ _, fun k hk => by omega, fun w hw => by
    rw [up_ne _ _ _ _ (by decide)]
    exact (hp.2 w hw).1, fun z => absurd rfl z⟩ rfl (by decide)
  have ed : d + 7 - S + S + 1 = d + 8 := by omega
  rw [ed] at hgo
  have hl : lfF fee S 0 = sumT fee S := Nat.sub_zero _
  rw [hl] at hgo
  refine Tr.bV (Tr.mono hgo fun v I' J' ⟨q1, q2, q3, q4⟩ => ⟨q1, Tr.ret ⟨rfl, fun a ha => ?_, q3.2.1, q3.2.2.2.2⟩⟩)
  rw [gI_hh, q3.1 a (fun z => by rw [z] at ha; omega) (fun z => by rw [z] at ha; omega) (fun z => by rw [z] at ha; omega) (fun z => by rw [z] at ha; omega)]
  exact (funext fun j => up_ne _ _ _ _ (fun z => by rw [z] at ha; omega)).trans (hp.1 a (fun z => by rw [z] at ha; omega) (fun z => by rw [z] at ha; omega) (fun z => by rw [z] at ha; omega))
