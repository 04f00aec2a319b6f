/-! SHELL, CHECK, UNDO -/
theorem t_shell {I A : IT} {J B : JT} (d : Nat) (x y : Int32) (h : Rel I A) : Cal (ev (d + 8) mPx_shell 0 [vR (0, 0), vI x, vI y, vU] [] (hh I J)) (ev (d + 8) mMo_shell 0 [vR (43, 0), vI x, vI y] [] (hh A B)) I A := by
  obtain ⟨q, T, S, N, hru, hro, hwk, hd, et, hf, hp⟩ := ScR.parts h
  have hS := hro.1.2.1
  have hN := hro.1.2.2.1
  have hT := hro.1.1
  have e3 : I (8, 0) 3 = nJ S := hro.2.1.2.2.2.1
  have m3 : A (44, 0) 3 = nJ S := hro.2.1.2.2.2.2.1
  have e4 : I (8, 0) 4 = nJ N := hro.2.1.2.2.2.2.2.1
  have m4 : A (44, 0) 4 = nJ N := hro.2.1.2.2.2.2.2.2
  obtain ⟨z, hz, cz, mz⟩ := hwk.2.1
  rw [ePx_shell_0, eMo_shell_0, cUns _ _ _ hS e4 e3 hz cz, mUns _ _ _ hS hN m4 m3 hz mz, bI_some, bI_some, bif2, bif2]
  by_cases hc : inn x N ∧ inn y S ∧ A (51, 0) (tn y) = x ∧ z.testBit (tn y) = false
  · rw [if_pos (Eq.mpr (uns_same hS hwk) hc), if_pos hc]
    obtain ⟨k, hk, rfl⟩ := inn_ex (by omega) hc.2.1
    obtain ⟨w, hw, rfl⟩ := inn_ex (by omega) hc.1
    obtain ⟨f1, f2, f3, f4⟩ := place_same hwk hw
    obtain ⟨t, ht, et⟩ := (hwk.2.2.2.2.2.1 w hw).1.2
    have et : A (53, 0) w = nJ t := f1 ▸ et
    obtain ⟨u, hu, eu⟩ := (hwk.2.2.2.2.2.1 w hw).2.2.1.2
    have eu : A (55, 0) w = nJ u := f3 ▸ eu
    obtain ⟨ep1, p, hp100, ep2⟩ := hro.2.2.2.1 t ht
    have ep1 : I (9, 0) t = A (45, 0) t := ep1
    have ep2 : A (45, 0) t = nJ p := ep1 ▸ ep2
    have hw3 : w < 3 := by omega
    have hk6 : k < 6 := by omega
    have ht8 : t < 8 := by omega
    simp only [gI_hh, gJ_hh, bnd hw3 (show 3 ≤ 100000 by decide), bnk hw3 (show 3 ≤ 100000 by decide), bnd hk6 (show 6 ≤ 100000 by decide), bnk hk6 (show 6 ≤ 100000 by decide), nJ_nat (show w < 2147483648 by omega), nJ_nat (show k < 2147483648 by omega), f1, f2, f3, et, bnd ht8 (show 8 ≤ 100000 by decide), bnk ht8 (show 8 ≤ 100000 by decide), nJ_nat (show t < 2147483648 by omega), ep1, ep2, eu, mTownOf _ w hw3, bI_some]
    by_cases h1 : A (54, 0) w = 0
    · simp only [if_pos h1]
      rw [if_neg (nJ_nm1 (show t < 2147483648 by omega))]
      by_cases h2 : p = 0
      · rw [if_pos (show nJ p = 0 by rw [h2]; rfl), if_pos (show nJ p = 0 by rw [h2]; rfl)]
        exact Cal.ro rfl rfl h
      rw [if_neg (ne_nL (b := 0) h2 (by omega) (by decide)), if_neg (ne_nL (b := 0) h2 (by omega) (by decide))]
      by_cases h3 : u < p
      · rw [if_pos (lt_nJ h3 (by omega)), if_pos (lt_nJ h3 (by omega))]
        exact Cal.ro rfl rfl h
      rw [if_neg (nlt_nJ (by omega) (by omega)), if_neg (nlt_nJ (by omega) (by omega))]
      refine keep_R2 (d + 6) (d + 4) hN hS hwk hd hp fun I1 A1 J1 B1 hk1 hp1 => ?_
      obtain ⟨hro1, hwk1⟩ := hk1.sc hro hwk
      have c1 : ∀ q i, q.1 ≠ 27 → q.1 ≠ 7 → I1 q i = I q i := fun q i a b => hk1.1 q i (fun z => a (by rw [z])) (fun z => b (by rw [z.1]))
      have m1 : ∀ q i, q.1 ≠ 78 → q.1 ≠ 43 → A1 q i = A q i := fun q i a b => hk1.2 q i (fun z => a (by rw [z])) (fun z => b (by rw [z.1]))
      have a53 : A1 (53, 0) w = nJ t := (m1 (53, 0) w (by show (53 : Nat) ≠ 78; decide) (by show (53 : Nat) ≠ 43; decide)).trans et
      have a55 : A1 (55, 0) w = nJ u := (m1 (55, 0) w (by show (55 : Nat) ≠ 78; decide) (by show (55 : Nat) ≠ 43; decide)).trans eu
      have a45 : A1 (45, 0) t = nJ p := (m1 (45, 0) t (by show (45 : Nat) ≠ 78; decide) (by show (45 : Nat) ≠ 43; decide)).trans ep2
      have i20 : I1 (20, 0) w = nJ u := (c1 (20, 0) w (by show (20 : Nat) ≠ 27; decide) (by show (20 : Nat) ≠ 7; decide)).trans (f3.trans eu)
      have a6 : A1 (44, 0) 6 = nJ z := (m1 (44, 0) 6 (by decide) (by decide)).trans mz
      have i1 : I1 (17, 0) 1 = nJ z := (c1 (17, 0) 1 (by decide) (by decide)).trans cz
      obtain ⟨h1', h2', h3', h4', ⟨z9, hz9, e9, hb9⟩, h6', h7', h8'⟩ := id hwk1
      have e9 : A1 (44, 0) 9 = nJ z9 := e9
      simp only [gI_hh, gJ_hh, a53, bnd ht8 (show 8 ≤ 100000 by decide), nJ_nat (show t < 2147483648 by omega), bnk ht8 (show 8 ≤ 100000 by decide), a55, a45, i20, i1, a6, e9, up_same, nJ_sub (show p ≤ u by omega), b_or _ hz _ hk6, b_or _ hz9 _ hk6]
      have hc : ∀ f j, scC (up2 (up2 (up2 I1 (20, 0) w (nJ (u - p))) (17, 0) 1 (nJ (z ||| 2 ^ k))) (23, 0) k (nJ w)) 0 f j = if f = 23 ∧ j = k then nJ w else if f = 17 ∧ j = 1 then nJ (z ||| 2 ^ k) else if f = 20 ∧ j = w then nJ (u - p) else scC I1 0 f j := fun f j => by
        rw [scC_up (by omega), scC_up (by omega), scC_up (by omega)]
      have hm : ∀ f j, scM (up2 (up2 (up2 (up2 A1 (55, 0) w (nJ (u - p))) (44, 0) 6 (nJ (z ||| 2 ^ k))) (44, 0) 9 (nJ (z9 ||| 2 ^ k))) (52, 0) k (nJ w)) f j = if f = 52 ∧ j = k then nJ w else if f = 44 ∧ j = 9 then nJ (z9 ||| 2 ^ k) else if f = 44 ∧ j = 6 then nJ (z ||| 2 ^ k) else if f = 55 ∧ j = w then nJ (u - p) else scM A1 f j := fun f j => by
        rw [scM_up (by omega), scM_up (by omega), scM_up (by omega), scM_up (by omega)]
      refine R2.ret ⟨⟨_, rfl, rfl⟩, act_Rel h hro hk1 hp1 ((FwC.up (by decide)).tr ((FwC.up (by decide)).tr (FwC.up (by decide)))) (fun a i ha => ?_) ?_ ?_⟩
      · rw [up_at, if_neg (fun q => ha (Or.inr (Or.inl ⟨Or.inr q.1, by omega⟩))), up_at, if_neg (fun q => ha (Or.inl ⟨q.1, by omega, by omega⟩)), up_at, if_neg (fun q => ha (Or.inl ⟨q.1, by omega, by omega⟩)), up_at, if_neg (fun q => ha (by rw [q.1, q.2]; exact Or.inr (Or.inr ⟨⟨by decide, by decide, rfl⟩, hw3⟩)))]
      · have hcn : ∀ f j, ¬ (f = 23 ∧ j = k) → ¬ (f = 17 ∧ j = 1) → ¬ (f = 20 ∧ j = w) → scC (up2 (up2 (up2 I1 (20, 0) w (nJ (u - p))) (17, 0) 1 (nJ (z ||| 2 ^ k))) (23, 0) k (nJ w)) 0 f j = scC I1 0 f j := fun f j a b c => by rw [hc, if_neg a, if_neg b, if_neg c]
        have hmn : ∀ f j, ¬ (f = 52 ∧ j = k) → ¬ (f = 44 ∧ j = 9) → ¬ (f = 44 ∧ j = 6) → ¬ (f = 55 ∧ j = w) → scM (up2 (up2 (up2 (up2 A1 (55, 0) w (nJ (u - p))) (44, 0) 6 (nJ (z ||| 2 ^ k))) (44, 0) 9 (nJ (z9 ||| 2 ^ k))) (52, 0) k (nJ w)) f j = scM A1 f j := fun f j a b c e => by rw [hm, if_neg a, if_neg b, if_neg c, if_neg e]
        refine ⟨?_, ⟨_, b_or_lt _ hz _ hk6, ?_, ?_⟩, ?_, ?_, ⟨_, b_or_lt _ hz9 _ hk6, ?_, fun j hj => ?_⟩, fun v hv => ⟨?_, ?_, ?_, ?_⟩, fun j hj => ⟨?_, ?_⟩, fun j j1 j2 => ?_⟩
        · rw [hcn 17 0 (by omega) (by omega) (by omega), hmn 44 5 (by omega) (by omega) (by omega) (by omega)]; exact h1'
        · rw [hc, if_neg (by omega), if_pos (And.intro rfl rfl)]
        · rw [hm, if_neg (by omega), if_neg (by omega), if_pos (And.intro rfl rfl)]
        · rw [hcn 17 2 (by omega) (by omega) (by omega), hmn 44 7 (by omega) (by omega) (by omega) (by omega)]; exact h3'
        · rw [hcn 17 3 (by omega) (by omega) (by omega), hmn 44 8 (by omega) (by omega) (by omega) (by omega)]; exact h4'
        · rw [hm, if_neg (by omega), if_pos (And.intro rfl rfl)]
        · rw [b_or_t _ hz9 _ hk6 _ (by omega), hc]
          by_cases e : j = k
          · subst e
            rw [Nat.beq_refl, if_pos (And.intro rfl rfl), Bool.or_true]
            exact ⟨fun _ => nJ_nm1 (by omega), fun _ => rfl⟩
          · rw [beq_f e, Bool.or_false, if_neg (fun q => e q.2), if_neg (by omega), if_neg (by omega)]
            exact hb9 j hj
        · rw [hcn 18 v (by omega) (by omega) (by omega), hmn 53 v (by omega) (by omega) (by omega) (by omega)]; exact (h6' v hv).1
        · rw [hcn 19 v (by omega) (by omega) (by omega), hmn 54 v (by omega) (by omega) (by omega) (by omega)]; exact (h6' v hv).2.1
        · by_cases e : v = w
          · subst e
            rw [hc, if_neg (by omega), if_neg (by omega), if_pos (And.intro rfl rfl), hm, if_neg (by omega), if_neg (by omega), if_neg (by omega), if_pos (And.intro rfl rfl)]
            exact ⟨rfl, u - p, by omega, rfl⟩
          · rw [hcn 20 v (by omega) (by omega) (fun q => e q.2), hmn 55 v (by omega) (by omega) (by omega) (fun q => e q.2)]
            exact (h6' v hv).2.2.1
        · rw [hcn 21 v (by omega) (by omega) (by omega), hmn 56 v (by omega) (by omega) (by omega) (by omega)]; exact (h6' v hv).2.2.2
        · rw [hcn 22 j (by omega) (by omega) (by omega), hmn 51 j (by omega) (by omega) (by omega) (by omega)]; exact (h7' j hj).1
        · by_cases e : j = k
          · subst e
            rw [hc, if_pos (And.intro rfl rfl), hm, if_pos (And.intro rfl rfl)]
            exact ⟨rfl, Or.inr ⟨w, hw, rfl⟩⟩
          · rw [hcn 23 j (fun q => e q.2) (by omega) (by omega), hmn 52 j (fun q => e q.2) (by omega) (by omega) (by omega)]
            exact (h7' j hj).2
        · rw [hcn 22 j (by omega) (by omega) (by omega)]; exact h8' j j1 j2
      · obtain ⟨dz, hdz, edz⟩ := hd
        refine ⟨dz, hdz, ?_⟩
        rw [hc, if_neg (by omega), if_neg (by omega), if_neg (by omega)]
        exact (c1 (17, 0) 0 (by decide) (by decide)).trans edz
    · simp only [if_neg h1]
      rw [if_pos trivial]
      exact Cal.ro rfl rfl h
  · rw [if_neg (fun z => hc (Eq.mp (uns_same hS hwk) z)), if_neg hc]
    exact Cal.ro rfl rfl h
