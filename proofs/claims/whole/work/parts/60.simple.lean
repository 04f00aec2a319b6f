/-! CALLS that only look, and small ones -/
theorem t_shop {I A : IT} {J B : JT} (d : Nat) (x : Int32) (h : Rel I A) : Cal (ev (d + 2) mPx_shop 0 [vR (0, 0), vI x] [] (hh I J)) (ev (d + 2) mMo_shop 0 [vR (43, 0), vI x] [] (hh A B)) I A := by
  obtain ⟨q, -, -, ⟨T, S, N, ⟨⟨hT, -⟩, ⟨-, e1, e2, -⟩, -, hp, -⟩, -⟩, -⟩ := id h
  have e1 : I (8, 0) 2 = nJ T := e1
  have e2 : A (44, 0) 1 = nJ T := e2
  rw [ePx_shop_0, eMo_shop_0, cTown _ _ e1, mTown _ _ e2 (by omega)]
  simp only [bI_some, bif2]
  by_cases hx : inn x T
  · obtain ⟨k, hk, rfl⟩ := inn_ex (by omega) hx
    have e3 : I (9, 0) k = A (45, 0) k := (hp k hk).1
    simp only [if_pos hx, bnd (show k < 8 by omega) (by omega), bnk (show k < 8 by omega) (by omega), nJ_nat (show k < 2147483648 by omega), e3, gI_hh, gJ_hh]
    exact Cal.ro rfl rfl h
  · simp only [if_neg hx]
    exact Cal.ro rfl rfl h
theorem bit_ret (b : Bool) : (bif b then (1 : Int32) else 0) = nJ (bif b then 1 else 0) := by cases b <;> rfl
theorem bit_if (b : Bool) : (if b = true then (1 : Int32) else 0) = nJ (bif b then 1 else 0) := by cases b <;> rfl
theorem t_sentence {I A : IT} {J B : JT} (d : Nat) (x y : Int32) (h : Rel I A) : Cal (ev (d + 2) mPx_sentence 0 [vR (0, 0), vI x, vI y] [] (hh I J)) (ev (d + 2) mMo_sentence 0 [vR (43, 0), vI x, vI y] [] (hh A B)) I A := by
  obtain ⟨q, -, -, ⟨T, S, N, ⟨⟨hT, hS, -⟩, ⟨-, -, -, e1, e2, -⟩, -, -, hs, -⟩, ⟨-, ⟨z1, l1, c1, m1⟩, ⟨z2, l2, c2, m2⟩, ⟨z3, l3, c3, m3⟩, -, -, ho, -⟩, -⟩, -⟩ := id h
  have e1 : I (8, 0) 3 = nJ S := e1
  have e2 : A (44, 0) 3 = nJ S := e2
  rw [ePx_sentence_0, eMo_sentence_0, cSent _ _ e1, mSent _ _ e2 (by omega)]
  simp only [bI_some, bif2]
  by_cases hx : inn x S
  · obtain ⟨k, hk, rfl⟩ := inn_ex (by omega) hx
    have f1 : I (13, 0) k = A (48, 0) k := (hs k hk).1.1
    have f2 : I (14, 0) k = A (49, 0) k := (hs k hk).2.1.1
    have f3 : I (15, 0) k = A (50, 0) k := (hs k hk).2.2.1
    have f4 : I (22, 0) k = A (51, 0) k := (ho k hk).1.1
    have c1 : I (17, 0) 1 = nJ z1 := c1
    have c2 : I (17, 0) 2 = nJ z2 := c2
    have c3 : I (17, 0) 3 = nJ z3 := c3
    have m1 : A (44, 0) 6 = nJ z1 := m1
    have m2 : A (44, 0) 7 = nJ z2 := m2
    have m3 : A (44, 0) 8 = nJ z3 := m3
    have hk6 : k < 6 := by omega
    simp only [if_pos hx, bnd hk6 (by omega), bnk hk6 (by omega), nJ_nat (show k < 2147483648 by omega), f1, f2, f3, f4, c1, c2, c3, m1, m2, m3, b_shr _ l1 _ hk6, b_shr _ l2 _ hk6, b_shr _ l3 _ hk6, mHas _ _ _ l1 hk6, mHas _ _ _ l2 hk6, mHas _ _ _ l3 hk6, bI_some, bif2, gI_hh, gJ_hh]
    by_cases y0 : y = 0
    · simp only [if_pos y0]
      exact Cal.ro rfl rfl h
    by_cases y1 : y = 1
    · simp only [if_neg y0, if_pos y1]
      exact Cal.ro rfl rfl h
    by_cases y2 : y = 2
    · simp only [if_neg y0, if_neg y1, if_pos y2]
      exact Cal.ro rfl rfl h
    by_cases y3 : y = 3
    · simp only [if_neg y0, if_neg y1, if_neg y2, if_pos y3]
      exact Cal.ro rfl rfl h
    by_cases y4 : y = 4
    · simp only [if_neg y0, if_neg y1, if_neg y2, if_neg y3, if_pos y4]
      cases z1.testBit k
      · exact Cal.ro rfl rfl h
      · exact Cal.ro rfl rfl h
    by_cases y5 : y = 5
    · simp only [if_neg y0, if_neg y1, if_neg y2, if_neg y3, if_neg y4, if_pos y5]
      cases z2.testBit k
      · exact Cal.ro rfl rfl h
      · exact Cal.ro rfl rfl h
    by_cases y6 : y = 6
    · simp only [if_neg y0, if_neg y1, if_neg y2, if_neg y3, if_neg y4, if_neg y5, if_pos y6]
      cases z3.testBit k
      · exact Cal.ro rfl rfl h
      · exact Cal.ro rfl rfl h
    simp only [if_neg y0, if_neg y1, if_neg y2, if_neg y3, if_neg y4, if_neg y5, if_neg y6]
    exact Cal.ro rfl rfl h
  · simp only [if_neg hx]
    exact Cal.ro rfl rfl h
theorem held_same {I A : IT} {n T S N G : Nat} {w : Int32} (hw : w ≠ -1) (hS : S ≤ 6) (h : WkR (scC I n) (scM A) T S N G) : hF (I (22, n)) w 6 = hF (A (51, 0)) w S := by
  obtain ⟨-, -, -, -, -, -, ho, hp⟩ := h
  exact hF_same hS (fun k hk => (ho k hk).1.1) (fun k h1 h2 => by
    have : I (22, n) k = -1 := hp k h1 h2
    rw [this]
    exact fun e => hw e.symm)
theorem t_walker {I A : IT} {J B : JT} (d : Nat) (x y : Int32) (h : Rel I A) : Cal (ev (d + 2) mPx_walker 0 [vR (0, 0), vI x, vI y] [] (hh I J)) (ev (d + 2) mMo_walker 0 [vR (43, 0), vI x, vI y] [] (hh A B)) I A := by
  obtain ⟨q, -, -, ⟨T, S, N, ⟨⟨hT, hS, hN, -⟩, ⟨-, -, -, -, e3, e1, e2⟩, -⟩, hwk, -⟩, -⟩ := id h
  have hw := hwk.2.2.2.2.2.1
  have e1 : I (8, 0) 4 = nJ N := e1
  have e2 : A (44, 0) 4 = nJ N := e2
  rw [ePx_walker_0, eMo_walker_0, cWalk _ _ e1, mWalk _ _ e2 (by omega)]
  simp only [bI_some, bif2]
  by_cases hx : inn x N
  · obtain ⟨k, hk, rfl⟩ := inn_ex (by omega) hx
    have f1 : I (18, 0) k = A (53, 0) k := (hw k hk).1.1
    have f2 : I (19, 0) k = A (54, 0) k := (hw k hk).2.1.1
    have f3 : I (20, 0) k = A (55, 0) k := (hw k hk).2.2.1.1
    have f4 : I (21, 0) k = A (56, 0) k := (hw k hk).2.2.2
    have f5 := held_same (w := nJ k) (nJ_nm1 (by omega)) hS hwk
    simp only [if_pos hx, bnd (show k < 3 by omega) (by omega), bnk (show k < 3 by omega) (by omega), nJ_nat (show k < 2147483648 by omega), f1, f2, f3, f4, cHeld, mTheirs _ S _ _ _ e3 hS, bI_some, f5, gI_hh, gJ_hh]
    by_cases y0 : y = 0
    · simp only [if_pos y0]
      exact Cal.ro rfl rfl h
    by_cases y1 : y = 1
    · simp only [if_neg y0, if_pos y1]
      exact Cal.ro rfl rfl h
    by_cases y2 : y = 2
    · simp only [if_neg y0, if_neg y1, if_pos y2]
      exact Cal.ro rfl rfl h
    by_cases y3 : y = 3
    · simp only [if_neg y0, if_neg y1, if_neg y2, if_pos y3]
      exact Cal.ro rfl rfl h
    by_cases y4 : y = 4
    · simp only [if_neg y0, if_neg y1, if_neg y2, if_neg y3, if_pos y4]
      exact Cal.ro rfl rfl h
    simp only [if_neg y0, if_neg y1, if_neg y2, if_neg y3, if_neg y4]
    exact Cal.ro rfl rfl h
  · simp only [if_neg hx]
    exact Cal.ro rfl rfl h
theorem t_end {I A : IT} {J B : JT} (d : Nat) (x : Int32) (h : Rel I A) : Cal (ev d mPx_end 0 [vR (0, 0), vI x] [] (hh I J)) (ev d mMo_end 0 [vR (43, 0), vI x] [] (hh A B)) I A := by
  obtain ⟨q, ⟨n, hn, e1, e2, hb⟩, -⟩ := id h
  rw [ePx_end_0, eMo_end_0, e1, e2]
  by_cases h0 : x < 0
  · rw [if_pos h0, if_pos h0]
    exact Cal.ro rfl rfl h
  by_cases h1 : nJ n < x
  · rw [if_neg h0, if_pos h1, if_neg h0, if_pos h1]
    exact Cal.ro rfl rfl h
  rw [if_neg h0, if_neg h1, if_neg h0, if_neg h1]
  have hk : x.toNatClampNeg ≤ n := by
    rw [nJ_of h0, nJ_lt (by omega) (nat_lt31 x)] at h1
    omega
  refine Cal.mk rfl rfl (Rel.tape (fun a k a1 a2 => up_ne _ _ _ _ (fun e => by rw [e] at a1; exact a1 rfl)) (fun a k a1 a2 => if_neg a1) h ⟨x.toNatClampNeg, by omega, (up_same _ _ _ _).trans (nJ_of h0), (up_same _ _ _ _).trans (nJ_of h0), fun k hk' => ?_⟩) (FrC.up (by decide)) (FrM.up (by decide))
  obtain ⟨b, b1, b2, b3⟩ := hb k (by omega)
  exact ⟨b, b1, (up_ne _ _ _ _ (by decide)).trans b2, (up_ne _ _ _ _ (by decide)).trans b3⟩
/-- a scene's own cell changes on both sides -/
theorem t_seed {I A : IT} {J B : JT} (d : Nat) (x : Int32) (h : Rel I A) : Cal (ev d mPx_seed 0 [vR (0, 0), vI x, vU] [] (hh I J)) (ev d mMo_seed 0 [vR (43, 0), vI x, vU] [] (hh A B)) I A := by
  rw [ePx_seed_0, eMo_seed_0]
  by_cases h0 : x < 0
  · rw [if_pos h0, if_pos h0]
    exact Cal.ro rfl rfl h
  rw [if_neg h0, if_neg h0]
  have e : I (7, 0) 3 = A (44, 0) 11 := by
    obtain ⟨q, -, -, ⟨T, S, N, -, -, -, -, -, ⟨e, -⟩, -⟩, -⟩ := id h
    exact e
  rw [e]
  refine Cal.mk rfl rfl (Rel.scene (fun a k ha => if_neg fun q => ?_) (fun a k ha => if_neg fun q => ?_) h (fun q _ hs => ?_)) (FrC.up (by decide)) (FrM.up (by decide))
  · unfold KC0 at ha
    rw [q.1] at ha
    simp at ha
  · unfold KM0 at ha
    rw [q.1] at ha
    simp at ha
  · obtain ⟨T, S, N, h1, h2, h3, h4, h5, h6, h7⟩ := hs
    exact ⟨T, S, N, h1, h2, h3, h4, h5, ⟨rfl, h0⟩, h7⟩
theorem t_force {I A : IT} {J B : JT} (d : Nat) (x : Int32) (h : Rel I A) : Cal (ev (d + 1) mPx_force 0 [vR (0, 0), vI x, vU] [] (hh I J)) (ev (d + 1) mMo_force 0 [vR (43, 0), vI x, vU] [] (hh A B)) I A := by
  obtain ⟨q, -, ⟨hq, e1, e2, -⟩, ⟨T, S, N, -, -, -, -, ⟨e3, -⟩, -⟩, -⟩ := id h
  have e3 : I (7, 0) 2 = A (44, 0) 12 := e3
  rw [ePx_force_0, eMo_force_0, e1, e2, mIn d x (-1) (nJ q - 1) (-1) _ rfl rfl, e3]
  simp only [bI_some, bif2]
  have e : (nJ q - 1).toInt = q - 1 := by
    rw [i_sub]
    · rw [nJ_int (by omega)]
      rfl
    · rw [nJ_int (by omega)]
      have : (1 : Int32).toInt = 1 := rfl
      omega
  have hc : (nJ q - 1 < x) = ¬ (x < nJ q) := by
    simp only [i_lt, e, nJ_int (show q < 2147483648 by omega)]
    exact propext ⟨fun _ => by omega, fun _ => by omega⟩
  by_cases h0 : x < -1
  · rw [if_pos h0, if_neg (fun z => z.1 h0)]
    exact Cal.ro rfl rfl h
  by_cases h1 : x < nJ q
  · rw [if_neg h0, if_pos h1, if_pos ⟨h0, fun z => (by rw [hc] at z; exact z h1)⟩]
    refine Cal.mk rfl rfl (Rel.scene (fun a k ha => if_neg fun q => ?_) (fun a k ha => if_neg fun q => ?_) h (fun q' hr hs => ?_)) (FrC.up (by decide)) (FrM.up (by decide))
    · unfold KC0 at ha
      rw [q.1] at ha
      simp at ha
    · unfold KM0 at ha
      rw [q.1] at ha
      simp at ha
    · obtain ⟨T, S, N, h1', h2, h3, h4, h5, h7⟩ := hs
      refine ⟨T, S, N, h1', h2, h3, h4, ⟨rfl, ?_⟩, h7⟩
      have hq' : nJ q' = nJ q := hr.2.1.symm.trans e1
      rw [nJ_eq (by have := hr.1; omega) (by omega)] at hq'
      subst hq'
      by_cases hx : x = -1
      · exact Or.inl hx
      · have hx0 : ¬ x < 0 := by
          rw [i_lt] at h0 ⊢
          rw [i_eq] at hx
          have a1 : (-1 : Int32).toInt = -1 := rfl
          have a2 : (0 : Int32).toInt = 0 := rfl
          omega
        obtain ⟨k, hk, e⟩ := inn_ex (by omega) ⟨hx0, h1⟩
        exact Or.inr ⟨k, hk, e⟩
  · rw [if_neg h0, if_neg h1, if_neg (fun z => z.2 (by rw [hc]; exact h1))]
    exact Cal.ro rfl rfl h
