/-! CHECK, UNDO -/
/-- a sentence as at first, its buyer found out -/
theorem found_wk {c m c' m' : FT} {T S N k w z p z9 u' : Nat} {x : Int32} (h : WkR c m T S N 10) (hk : k < S) (hS : S ≤ 6) (hz : z < 64) (hp : p < 64) (hz9 : z9 < 64) (hb9 : ∀ j, j < S → (z9.testBit j = true ↔ c 23 j ≠ -1)) (hu : u' < 10000)
    (hc : ∀ f j, c' f j = if f = 17 ∧ j = 2 then nJ (p &&& (63 ^^^ 2 ^ k)) else if f = 17 ∧ j = 1 then nJ (z &&& (63 ^^^ 2 ^ k)) else if f = 23 ∧ j = k then -1 else if f = 22 ∧ j = k then -1 else if f = 20 ∧ j = w then nJ u' else if f = 21 ∧ j = w then x else c f j)
    (hm : ∀ f j, m' f j = if f = 52 ∧ j = k then -1 else if f = 51 ∧ j = k then -1 else if f = 44 ∧ j = 9 then nJ (z9 &&& (63 ^^^ 2 ^ k)) else if f = 44 ∧ j = 7 then nJ (p &&& (63 ^^^ 2 ^ k)) else if f = 44 ∧ j = 6 then nJ (z &&& (63 ^^^ 2 ^ k)) else if f = 55 ∧ j = w then nJ u' else if f = 56 ∧ j = w then x else m f j) : WkR c' m' T S N 10 := by
  have hk6 : k < 6 := by omega
  obtain ⟨h1, h2, h3, h4, -, h6, h7, h8⟩ := h
  have hcn : ∀ f j, ¬ (f = 17 ∧ j = 2) → ¬ (f = 17 ∧ j = 1) → ¬ (f = 23 ∧ j = k) → ¬ (f = 22 ∧ j = k) → ¬ (f = 20 ∧ j = w) → ¬ (f = 21 ∧ j = w) → c' f j = c f j := fun f j a1 a2 a3 a4 a5 a6 => by rw [hc, if_neg a1, if_neg a2, if_neg a3, if_neg a4, if_neg a5, if_neg a6]
  have hmn : ∀ f j, ¬ (f = 52 ∧ j = k) → ¬ (f = 51 ∧ j = k) → ¬ (f = 44 ∧ j = 9) → ¬ (f = 44 ∧ j = 7) → ¬ (f = 44 ∧ j = 6) → ¬ (f = 55 ∧ j = w) → ¬ (f = 56 ∧ j = w) → m' f j = m f j := fun f j a1 a2 a3 a4 a5 a6 a7 => by rw [hm, if_neg a1, if_neg a2, if_neg a3, if_neg a4, if_neg a5, if_neg a6, if_neg a7]
  refine ⟨?_, ⟨_, b_clr_lt _ hz _ hk6, ?_, ?_⟩, ⟨_, b_clr_lt _ hp _ hk6, ?_, ?_⟩, ?_, ⟨_, b_clr_lt _ hz9 _ hk6, ?_, fun j hj => ?_⟩, fun v hv => ⟨?_, ?_, ?_, ?_⟩, fun j hj => ⟨?_, ?_⟩, fun j j1 j2 => ?_⟩
  · rw [hcn 17 0 (by omega) (by omega) (by omega) (by omega) (by omega) (by omega), hmn 44 5 (by omega) (by omega) (by omega) (by omega) (by omega) (by omega) (by omega)]; exact h1
  · rw [hc, if_neg (by omega), if_pos (And.intro rfl rfl)]
  · rw [hm, if_neg (by omega), if_neg (by omega), if_neg (by omega), if_neg (by omega), if_pos (And.intro rfl rfl)]
  · rw [hc, if_pos (And.intro rfl rfl)]
  · rw [hm, if_neg (by omega), if_neg (by omega), if_neg (by omega), if_pos (And.intro rfl rfl)]
  · rw [hcn 17 3 (by omega) (by omega) (by omega) (by omega) (by omega) (by omega), hmn 44 8 (by omega) (by omega) (by omega) (by omega) (by omega) (by omega) (by omega)]; exact h4
  · rw [hm, if_neg (by omega), if_neg (by omega), if_pos (And.intro rfl rfl)]
  · rw [b_clr_t _ hz9 _ hk6 _ (by omega), hc, if_neg (by omega), if_neg (by omega)]
    by_cases e : j = k
    · subst e
      rw [Nat.beq_refl, if_pos (And.intro rfl rfl)]
      simp
    · rw [beq_f e, if_neg (fun q => e q.2), if_neg (by omega), if_neg (by omega), if_neg (by omega)]
      simp only [Bool.not_false, Bool.and_true]
      exact hb9 j hj
  · rw [hcn 18 v (by omega) (by omega) (by omega) (by omega) (by omega) (by omega), hmn 53 v (by omega) (by omega) (by omega) (by omega) (by omega) (by omega) (by omega)]; exact (h6 v hv).1
  · rw [hcn 19 v (by omega) (by omega) (by omega) (by omega) (by omega) (by omega), hmn 54 v (by omega) (by omega) (by omega) (by omega) (by omega) (by omega) (by omega)]; exact (h6 v hv).2.1
  · by_cases e : v = w
    · subst e
      rw [hc, if_neg (by omega), if_neg (by omega), if_neg (by omega), if_neg (by omega), if_pos (And.intro rfl rfl), hm, if_neg (by omega), if_neg (by omega), if_neg (by omega), if_neg (by omega), if_neg (by omega), if_pos (And.intro rfl rfl)]
      exact ⟨rfl, u', hu, rfl⟩
    · rw [hcn 20 v (by omega) (by omega) (by omega) (by omega) (fun q => e q.2) (by omega), hmn 55 v (by omega) (by omega) (by omega) (by omega) (by omega) (fun q => e q.2) (by omega)]
      exact (h6 v hv).2.2.1
  · by_cases e : v = w
    · subst e
      rw [hc, if_neg (by omega), if_neg (by omega), if_neg (by omega), if_neg (by omega), if_neg (by omega), if_pos (And.intro rfl rfl), hm, if_neg (by omega), if_neg (by omega), if_neg (by omega), if_neg (by omega), if_neg (by omega), if_neg (by omega), if_pos (And.intro rfl rfl)]
    · rw [hcn 21 v (by omega) (by omega) (by omega) (by omega) (by omega) (fun q => e q.2), hmn 56 v (by omega) (by omega) (by omega) (by omega) (by omega) (by omega) (fun q => e q.2)]
      exact (h6 v hv).2.2.2
  · by_cases e : j = k
    · subst e
      rw [hc, if_neg (by omega), if_neg (by omega), if_neg (by omega), if_pos (And.intro rfl rfl), hm, if_neg (by omega), if_pos (And.intro rfl rfl)]
      exact ⟨rfl, Or.inl rfl⟩
    · rw [hcn 22 j (by omega) (by omega) (by omega) (fun q => e q.2) (by omega) (by omega), hmn 51 j (by omega) (fun q => e q.2) (by omega) (by omega) (by omega) (by omega) (by omega)]
      exact (h7 j hj).1
  · by_cases e : j = k
    · subst e
      rw [hc, if_neg (by omega), if_neg (by omega), if_pos (And.intro rfl rfl), hm, if_pos (And.intro rfl rfl)]
      exact ⟨rfl, Or.inl rfl⟩
    · rw [hcn 23 j (by omega) (by omega) (fun q => e q.2) (by omega) (by omega) (by omega), hmn 52 j (fun q => e q.2) (by omega) (by omega) (by omega) (by omega) (by omega) (by omega)]
      exact (h7 j hj).2
  · rw [hcn 22 j (by omega) (by omega) (by omega) (by omega) (by omega) (by omega)]; exact h8 j j1 j2
theorem t_check {I A : IT} {J B : JT} (d : Nat) (x : Int32) (h : Rel I A) : Cal (ev (d + 8) mPx_check 0 [vR (0, 0), vI x, vU] [] (hh I J)) (ev (d + 8) mMo_check 0 [vR (43, 0), vI x, vU] [] (hh A B)) I A := by
  obtain ⟨q, T, S, N, hru, hro, hwk, hd, et, hf, hp⟩ := ScR.parts h
  have hS := hro.1.2.1
  have hN := hro.1.2.2.1
  have e3 : I (8, 0) 3 = nJ S := hro.2.1.2.2.2.1
  have m3 : A (44, 0) 3 = nJ S := hro.2.1.2.2.2.2.1
  obtain ⟨z, hz, cz, mz⟩ := hwk.2.1
  obtain ⟨z3, hz3, cz3, mz3⟩ := hwk.2.2.2.1
  have cz : I (17, 0) 1 = nJ z := cz
  have mz : A (44, 0) 6 = nJ z := mz
  have cz3 : I (17, 0) 3 = nJ z3 := cz3
  have mz3 : A (44, 0) 8 = nJ z3 := mz3
  rw [ePx_check_0, eMo_check_0, cSent _ _ e3, mSent _ _ m3 (by omega), bI_some, bI_some, bif2, bif2]
  by_cases hx : inn x S
  · obtain ⟨k, hk, rfl⟩ := inn_ex (by omega) hx
    have hk6 : k < 6 := by omega
    have hk0 : ¬ nJ (bif true then 2 ^ k else 0) = 0 := by
      have : ∀ k, k < 6 → ¬ nJ (bif true then 2 ^ k else 0) = 0 := by decide
      exact this k hk6
    rw [if_pos hx, if_pos hx, gI_hh, gJ_hh, gI_hh, gJ_hh, cz, cz3, mz, b_and _ hz _ hk6, b_and _ hz3 _ hk6, mHas _ _ _ hz hk6, bI_some, bif2, gI_hh, gJ_hh, mz3, mHas _ _ _ hz3 hk6, bI_some, bif2]
    cases hb : z.testBit k
    · rw [if_pos (show nJ (bif false then 2 ^ k else 0) = 0 from rfl), if_neg (show ¬ false = true by decide)]
      exact Cal.ro rfl rfl h
    rw [if_neg hk0, if_pos rfl]
    cases hb3 : z3.testBit k
    · rw [if_pos (show nJ (bif false then 2 ^ k else 0) = 0 from rfl), if_neg (show ¬ false = true by decide)]
      refine keep_R2 (d + 6) (d + 4) hN hS hwk hd hp fun I1 A1 J1 B1 hk1 hp1 => ?_
      obtain ⟨hro1, hwk1⟩ := hk1.sc hro hwk
      obtain ⟨h1, ⟨z', hz', i1, a6⟩, ⟨p, hp6, i2, a7⟩, ⟨y3, hy3, i3, a8⟩, ⟨z9, hz9, e9, hb9⟩, h6, h7, h8⟩ := id hwk1
      have e9 : A1 (44, 0) 9 = nJ z9 := e9
      have i1 : I1 (17, 0) 1 = nJ z' := i1
      have i2 : I1 (17, 0) 2 = nJ p := i2
      have i3 : I1 (17, 0) 3 = nJ y3 := i3
      have a6 : A1 (44, 0) 6 = nJ z' := a6
      have a7 : A1 (44, 0) 7 = nJ p := a7
      have a8 : A1 (44, 0) 8 = nJ y3 := a8
      have hd1 : ∃ dz, dz < 1000 ∧ I1 (17, 0) 0 = nJ dz := by
        obtain ⟨dz, hdz, edz⟩ := hd
        exact ⟨dz, hdz, (hk1.1 (17, 0) 0 (by decide) (fun q => by cases q.1)).trans edz⟩
      have h23 : (z9.testBit k = true ↔ I1 (23, 0) k ≠ -1) := hb9 k hk
      rw [bnd hk6 (by omega), nJ_nat (show k < 2147483648 by omega), gI_hh, gJ_hh, gI_hh, gJ_hh, e9, mHas _ _ _ hz9 hk6, bI_some, bif2]
      by_cases hq : I1 (23, 0) k = -1
      · rw [if_pos hq, if_neg (fun q => h23.mp q hq), gI_hh, gJ_hh, i3, a8, b_or _ hy3 _ hk6]
        refine R2.ret ⟨⟨_, rfl, rfl⟩, act_Rel h hro hk1 hp1 (FwC.up (by decide)) (fun a i ha => if_neg fun q => ha (Or.inl ⟨q.1, by omega, by omega⟩)) (WkR.scal hwk1 (fun f j f1 f2 => ?_) (fun f j f1 f2 => ?_) ?_ ?_ ?_ ?_ ?_) ?_⟩
        · rw [scC_up (by omega), if_neg (by omega)]
        · rw [scM_up (by omega), if_neg (by omega)]
        · rw [scC_up (by omega), if_neg (by omega), scM_up (by omega), if_neg (by omega)]; exact h1
        · rw [scC_up (by omega), if_neg (by omega), scM_up (by omega), if_neg (by omega)]; exact ⟨z', hz', i1, a6⟩
        · rw [scC_up (by omega), if_neg (by omega), scM_up (by omega), if_neg (by omega)]; exact ⟨p, hp6, i2, a7⟩
        · rw [scC_up (by omega), if_pos (And.intro rfl rfl), scM_up (by omega), if_pos (And.intro rfl rfl)]; exact ⟨_, b_or_lt _ hy3 _ hk6, rfl, rfl⟩
        · rw [scM_up (by omega), if_neg (by omega)]; exact ⟨z9, hz9, e9, hb9⟩
        · obtain ⟨dz, hdz, edz⟩ := hd1
          exact ⟨dz, hdz, by rw [scC_up (by omega), if_neg (by omega)]; exact edz⟩
      · rw [if_neg hq, if_pos (h23.mpr hq)]
        obtain ⟨w, hw, ew⟩ := (h7 k hk).2.2.resolve_left hq
        have ew : I1 (23, 0) k = nJ w := ew
        have mw : A1 (52, 0) k = nJ w := (show I1 (23, 0) k = A1 (52, 0) k from (h7 k hk).2.1).symm.trans ew
        have hw3 : w < 3 := by omega
        obtain ⟨f1, f2, f3, f4⟩ := place_same hwk1 hw
        obtain ⟨u, hu, eu⟩ := (h6 w hw).2.2.1.2
        have eu : I1 (20, 0) w = nJ u := eu
        have mu : A1 (55, 0) w = nJ u := f3 ▸ eu
        obtain ⟨efe, fe, hfe, ef⟩ := (hro1.2.2.2.2.1 k hk).2.2
        have ef : I1 (15, 0) k = nJ fe := ef
        have mf : A1 (50, 0) k = nJ fe := (show I1 (15, 0) k = A1 (50, 0) k from efe).symm.trans ef
        have hban : I1 (8, 0) 1 = A1 (44, 0) 0 := hro1.2.1.1
        have h10 : I1 (17, 0) 0 = A1 (44, 0) 5 := h1
        rw [gI_hh, gJ_hh, eWa_findOut_0, eMo_check_41]
        simp only [bnd hk6 (show 6 ≤ 100000 by decide), bnk hk6 (show 6 ≤ 100000 by decide), nJ_nat (show k < 2147483648 by omega), ew, mw, bnd hw3 (show 3 ≤ 100000 by decide), bnk hw3 (show 3 ≤ 100000 by decide), nJ_nat (show w < 2147483648 by omega), i1, i2, b_and _ hp6 _ hk6, eu, ef]
        have hmh : up2 A1 (56, 0) w (A1 (44, 0) 5 + A1 (44, 0) 0) (44, 0) 7 = nJ p := (up_ne _ _ _ _ (by decide)).trans a7
        rw [eMo_check_59, hmh, mHas _ _ _ hp6 hk6, bI_some, bif2, gI_hh, gJ_hh]
        -- the rest of the reference's way, from any heap
        have hrest : ∀ (Am : IT) (Bm : JT), Am (44, 0) 6 = nJ z' → Am (44, 0) 7 = nJ p → Am (44, 0) 9 = nJ z9 → ev (d + 8) mMo_check 90 [vR (43, 0), vI (nJ k), vI (nJ w)] [] (hh Am Bm) = some (some (vI 1), hh (up2 (up2 (up2 (up2 (up2 Am (44, 0) 6 (nJ (z' &&& (63 ^^^ 2 ^ k)))) (44, 0) 7 (nJ (p &&& (63 ^^^ 2 ^ k)))) (44, 0) 9 (nJ (z9 &&& (63 ^^^ 2 ^ k)))) (51, 0) k (-1)) (52, 0) k (-1)) Bm) := by
          intro Am Bm b1 b2 b3
          rw [eMo_check_90, b1, b_clr _ hz' _ hk6, eMo_check_102, up_neK _ _ (by decide), b2, b_clr _ hp6 _ hk6, eMo_check_114, up_neK _ _ (by decide), up_neK _ _ (by decide), b3, b_clr _ hz9 _ hk6, eMo_check_126, bnd hk6 (by omega), eMo_check_131, bnd hk6 (by omega), nJ_nat (show k < 2147483648 by omega)]
        have hfwm : ∀ Am, FwM A1 Am → FwM A1 (up2 (up2 (up2 (up2 (up2 Am (44, 0) 6 (nJ (z' &&& (63 ^^^ 2 ^ k)))) (44, 0) 7 (nJ (p &&& (63 ^^^ 2 ^ k)))) (44, 0) 9 (nJ (z9 &&& (63 ^^^ 2 ^ k)))) (51, 0) k (-1)) (52, 0) k (-1)) := fun Am ham a i ha => by
          rw [up_at, if_neg (fun q => ha (Or.inr (Or.inl ⟨Or.inr q.1, by omega⟩))), up_at, if_neg (fun q => ha (Or.inr (Or.inl ⟨Or.inl q.1, by omega⟩))), up_at, if_neg (fun q => ha (Or.inl ⟨q.1, by omega, by omega⟩)), up_at, if_neg (fun q => ha (Or.inl ⟨q.1, by omega, by omega⟩)), up_at, if_neg (fun q => ha (Or.inl ⟨q.1, by omega, by omega⟩))]
          exact ham a i ha
        have h56 : FwM A1 (up2 A1 (56, 0) w (A1 (44, 0) 5 + A1 (44, 0) 0)) := FwM.upw (by decide) hw3
        have h44 : ∀ j, up2 A1 (56, 0) w (A1 (44, 0) 5 + A1 (44, 0) 0) (44, 0) j = A1 (44, 0) j := fun j => up_ne _ _ _ _ (by decide)
        cases hpb : p.testBit k
        · rw [if_pos (show nJ (bif false then 2 ^ k else 0) = 0 from rfl), if_neg (show ¬ false = true by decide), bV_some, gI_hh, gJ_hh, hrest _ _ ((h44 6).trans a6) ((h44 7).trans a7) ((h44 9).trans e9)]
          simp only [up_ne _ _ _ _ (show ((17, 0) : Ad) ≠ (21, 0) by decide), up_ne _ _ _ _ (show ((17, 0) : Ad) ≠ (22, 0) by decide), up_ne _ _ _ _ (show ((17, 0) : Ad) ≠ (23, 0) by decide), up_neK _ _ (show (2 : Nat) ≠ 1 by decide), i2, b_clr _ hz' _ hk6, b_clr _ hp6 _ hk6]
          refine R2.ret ⟨⟨_, rfl, rfl⟩, act_Rel h hro hk1 hp1 ((FwC.up (by decide)).tr ((FwC.up (by decide)).tr ((FwC.up (by decide)).tr ((FwC.up (by decide)).tr (FwC.up (by decide)))))) (hfwm _ h56) (found_wk (w := w) (u' := u) (x := A1 (44, 0) 5 + A1 (44, 0) 0) hwk1 hk hS hz' hp6 hz9 hb9 hu (fun f j => ?_) (fun f j => ?_)) ?_⟩
          · rw [scC_up (by omega), scC_up (by omega), scC_up (by omega), scC_up (by omega), scC_up (by omega), h10, hban]
            by_cases e : f = 20 ∧ j = w
            · rw [e.1, e.2]
              simp
              exact eu
            · rw [if_neg e]
          · rw [scM_up (by omega), scM_up (by omega), scM_up (by omega), scM_up (by omega), scM_up (by omega), scM_up (by omega)]
            by_cases e : f = 55 ∧ j = w
            · rw [e.1, e.2]
              simp
              exact mu
            · rw [if_neg e]
          · obtain ⟨dz, hdz, edz⟩ := hd1
            refine ⟨dz, hdz, ?_⟩
            rw [scC_up (by omega), if_neg (by omega), scC_up (by omega), if_neg (by omega), scC_up (by omega), if_neg (by omega), scC_up (by omega), if_neg (by omega), scC_up (by omega), if_neg (by omega)]
            exact edz
        · have h55 : up2 A1 (56, 0) w (A1 (44, 0) 5 + A1 (44, 0) 0) (55, 0) w = nJ u := (up_ne _ _ _ _ (by decide)).trans mu
          have h50 : up2 A1 (56, 0) w (A1 (44, 0) 5 + A1 (44, 0) 0) (50, 0) k = nJ fe := (up_ne _ _ _ _ (by decide)).trans mf
          have hkp : ¬ nJ (bif true then 2 ^ k else 0) = 0 := hk0
          rw [if_neg hkp, if_pos rfl, bV_some, gI_hh, gJ_hh]
          simp only [bnd hk6 (show 6 ≤ 100000 by decide), bnk hk6 (show 6 ≤ 100000 by decide), nJ_nat (show k < 2147483648 by omega), bnd hw3 (show 3 ≤ 100000 by decide), bnk hw3 (show 3 ≤ 100000 by decide), nJ_nat (show w < 2147483648 by omega), h55, h50]
          have hval : (if (0 : Int32) < nJ u - nJ fe then nJ u - nJ fe else 0) = nJ (u - fe) := by
            by_cases hl : fe < u
            · rw [nJ_sub (by omega), if_pos (lt_Ln (a := 0) (by omega) (by omega))]
            · rw [if_neg (by
                rw [i_lt, sub_toInt (by omega) (by omega)]
                have : (0 : Int32).toInt = 0 := rfl
                omega), show u - fe = 0 by omega]
              rfl
          have hmv : (if nJ u < nJ fe then ev (d + 8) mMo_check 90 [vR (43, 0), vI (nJ k), vI (nJ w)] [] (hh (up2 (up2 A1 (56, 0) w (A1 (44, 0) 5 + A1 (44, 0) 0)) (55, 0) w 0) B1) else ev (d + 8) mMo_check 90 [vR (43, 0), vI (nJ k), vI (nJ w)] [] (hh (up2 (up2 A1 (56, 0) w (A1 (44, 0) 5 + A1 (44, 0) 0)) (55, 0) w (nJ u - nJ fe)) B1)) = ev (d + 8) mMo_check 90 [vR (43, 0), vI (nJ k), vI (nJ w)] [] (hh (up2 (up2 A1 (56, 0) w (A1 (44, 0) 5 + A1 (44, 0) 0)) (55, 0) w (nJ (u - fe))) B1) := by
            by_cases hl : u < fe
            · rw [if_pos (lt_nJ hl (by omega)), show u - fe = 0 by omega]
              rfl
            · rw [if_neg (nlt_nJ (by omega) (by omega)), nJ_sub (by omega)]
          rw [hval]
          have hgo : ∀ o, o = ev (d + 8) mMo_check 90 [vR (43, 0), vI (nJ k), vI (nJ w)] [] (hh (up2 (up2 A1 (56, 0) w (A1 (44, 0) 5 + A1 (44, 0) 0)) (55, 0) w (nJ (u - fe))) B1) → R2 (some (some (vI 1), hh (up2 (up2 (up2 (up2 (up2 (up2 I1 (21, 0) w (I1 (17, 0) 0 + I1 (8, 0) 1)) (20, 0) w (nJ (u - fe))) (22, 0) k (-1)) (23, 0) k (-1)) (17, 0) 1 (nJ (z' &&& (63 ^^^ 2 ^ k)))) (17, 0) 2 (nJ (p &&& (63 ^^^ 2 ^ k)))) J1)) o (CalQ I A) := by
            intro o ho
            rw [ho, hrest _ _ (((up_ne _ _ _ _ (by decide)).trans (h44 6)).trans a6) (((up_ne _ _ _ _ (by decide)).trans (h44 7)).trans a7) (((up_ne _ _ _ _ (by decide)).trans (h44 9)).trans e9)]
            refine R2.ret ⟨⟨_, rfl, rfl⟩, act_Rel h hro hk1 hp1 ((FwC.up (by decide)).tr ((FwC.up (by decide)).tr ((FwC.up (by decide)).tr ((FwC.up (by decide)).tr ((FwC.up (by decide)).tr (FwC.up (by decide))))))) (hfwm _ (h56.tr (FwM.upw (by decide) hw3))) (found_wk (w := w) (u' := u - fe) (x := A1 (44, 0) 5 + A1 (44, 0) 0) hwk1 hk hS hz' hp6 hz9 hb9 (by omega) (fun f j => ?_) (fun f j => ?_)) ?_⟩
            · rw [scC_up (by omega), scC_up (by omega), scC_up (by omega), scC_up (by omega), scC_up (by omega), scC_up (by omega), h10, hban]
            · rw [scM_up (by omega), scM_up (by omega), scM_up (by omega), scM_up (by omega), scM_up (by omega), scM_up (by omega), scM_up (by omega)]
            · obtain ⟨dz, hdz, edz⟩ := hd1
              refine ⟨dz, hdz, ?_⟩
              rw [scC_up (by omega), if_neg (by omega), scC_up (by omega), if_neg (by omega), scC_up (by omega), if_neg (by omega), scC_up (by omega), if_neg (by omega), scC_up (by omega), if_neg (by omega), scC_up (by omega), if_neg (by omega)]
              exact edz
          have hcl := hgo _ hmv
          simp only [up_ne _ _ _ _ (show ((17, 0) : Ad) ≠ (21, 0) by decide), up_ne _ _ _ _ (show ((17, 0) : Ad) ≠ (20, 0) by decide), up_ne _ _ _ _ (show ((17, 0) : Ad) ≠ (22, 0) by decide), up_ne _ _ _ _ (show ((17, 0) : Ad) ≠ (23, 0) by decide), up_neK _ _ (show (2 : Nat) ≠ 1 by decide), i2, b_clr _ hz' _ hk6, b_clr _ hp6 _ hk6]
          exact hcl
    · rw [if_neg hk0, if_pos rfl]
      exact Cal.ro rfl rfl h
  · rw [if_neg hx, if_neg hx]
    exact Cal.ro rfl rfl h
