/-! GIVE BACK, SWAP, SHELL, CHECK, UNDO -/
theorem cUns {I : IT} {J : JT} {S N z : Nat} (d : Nat) (x y : Int32) (hS : S ≤ 6) (e4 : I (8, 0) 4 = nJ N) (e3 : I (8, 0) 3 = nJ S) (hz : z < 64) (ez : I (17, 0) 1 = nJ z) : ev (d + 1) mPx_hasUnsealed 0 [vR (0, 0), vI x, vI y] [] (hh I J) = some (some (vI (if inn x N ∧ inn y S ∧ I (22, 0) (tn y) = x ∧ z.testBit (tn y) = false then 1 else 0)), hh I J) := by
  rw [ePx_hasUnsealed_0, cWalk _ _ e4, bI_some, bif2, gI_hh, gJ_hh, cSent _ _ e3, bI_some, bif2]
  by_cases hx : inn x N
  · by_cases hy : inn y S
    · obtain ⟨k, hk, rfl⟩ := inn_ex (by omega) hy
      have tw : tn (nJ k) = k := nJ_nat (by omega)
      rw [if_pos hx, if_pos hy, bnd (show k < 6 by omega) (by omega), gI_hh, gJ_hh, nJ_nat (by omega), ez, b_shr _ hz _ (by omega), tw]
      by_cases h1 : I (22, 0) k = x
      · rw [if_pos h1]
        cases hb : z.testBit k
        · rw [if_pos (show nJ (bif false then 1 else 0) = 0 from rfl), if_pos (And.intro hx (And.intro hy (And.intro h1 rfl)))]
        · rw [if_neg (show ¬ nJ (bif true then 1 else 0) = 0 by decide), if_neg (fun q => by cases q.2.2.2)]
      · rw [if_neg h1, if_neg (fun q => h1 q.2.2.1)]
    · rw [if_pos hx, if_neg hy, if_neg (fun q => hy q.2.1)]
  · rw [if_neg hx, if_neg (fun q => hx q.1)]
theorem mUns {A : IT} {B : JT} {S N z : Nat} (d : Nat) (x y : Int32) (hS : S ≤ 6) (hN : N ≤ 3) (m4 : A (44, 0) 4 = nJ N) (m3 : A (44, 0) 3 = nJ S) (hz : z < 64) (ez : A (44, 0) 6 = nJ z) : ev (d + 2) mMo_isOpenOf 0 [vR (43, 0), vI x, vI y] [] (hh A B) = some (some (vI (if inn x N ∧ inn y S ∧ A (51, 0) (tn y) = x ∧ z.testBit (tn y) = false then 1 else 0)), hh A B) := by
  rw [eMo_isOpenOf_0, mWalk _ _ m4 (by omega), bI_some, bif2, gI_hh, gJ_hh, mSent _ _ m3 (by omega), bI_some, bif2]
  by_cases hx : inn x N
  · by_cases hy : inn y S
    · obtain ⟨k, hk, rfl⟩ := inn_ex (by omega) hy
      have tw : tn (nJ k) = k := nJ_nat (by omega)
      rw [if_pos hx, if_pos hy, bnd (show k < 6 by omega) (by omega), gI_hh, gJ_hh, nJ_nat (by omega), ez, mHas _ _ _ hz (show k < 6 by omega), bI_some, bif2, tw]
      by_cases h1 : A (51, 0) k = x
      · rw [if_pos h1]
        cases hb : z.testBit k
        · rw [if_neg (show ¬ false = true by decide), if_pos (And.intro hx (And.intro hy (And.intro h1 rfl)))]
        · rw [if_pos rfl, if_neg (fun q => by cases q.2.2.2)]
      · rw [if_neg h1, if_neg (fun q => h1 q.2.2.1)]
    · rw [if_pos hx, if_neg hy, if_neg (fun q => hy q.2.1)]
  · rw [if_neg hx, if_neg (fun q => hx q.1)]
theorem uns_same {I A : IT} {T S N G z : Nat} {x y : Int32} (hS : S ≤ 6) (h : WkR (scC I 0) (scM A) T S N G) : (inn x N ∧ inn y S ∧ I (22, 0) (tn y) = x ∧ z.testBit (tn y) = false) = (inn x N ∧ inn y S ∧ A (51, 0) (tn y) = x ∧ z.testBit (tn y) = false) := by
  have e : inn y S → I (22, 0) (tn y) = A (51, 0) (tn y) := fun hy => by
    obtain ⟨k, hk, rfl⟩ := inn_ex (by omega) hy
    have tw : tn (nJ k) = k := nJ_nat (by omega)
    rw [tw]
    exact (h.2.2.2.2.2.2.1 k hk).1.1
  exact propext ⟨fun ⟨a, b, c, q⟩ => ⟨a, b, (e b) ▸ c, q⟩, fun ⟨a, b, c, q⟩ => ⟨a, b, (e b).symm ▸ c, q⟩⟩
theorem mIsIn {A : IT} {B : JT} (d w : Nat) (hw : w < 3) : ev d mMo_isIn 0 [vR (43, 0), vI (nJ w), vI 0] [] (hh A B) = some (some (vI (if A (54, 0) w = 0 ∧ A (53, 0) w = 0 then 1 else 0)), hh A B) := by
  rw [eMo_isIn_0, bnd hw (by omega), bnd hw (by omega), nJ_nat (by omega)]
  by_cases h1 : A (54, 0) w = 0
  · rw [if_pos h1]
    by_cases h2 : A (53, 0) w = 0
    · rw [if_pos h2, if_pos (And.intro h1 h2)]
    · rw [if_neg h2, if_neg (fun q => h2 q.2)]
  · rw [if_neg h1, if_neg (fun q => h1 q.1)]
theorem t_giveBack {I A : IT} {J B : JT} (d : Nat) (x y : Int32) (h : Rel I A) : Cal (ev (d + 8) mPx_giveBack 0 [vR (0, 0), vI x, vI y] [] (hh I J)) (ev (d + 8) mMo_giveBack 0 [vR (43, 0), vI x, vI y] [] (hh A B)) I A := by
  obtain ⟨q, T, S, N, hru, hro, hwk, hd, et, hf, hp⟩ := ScR.parts h
  have hS := hro.1.2.1
  have hN := hro.1.2.2.1
  have e3 : I (8, 0) 3 = nJ S := hro.2.1.2.2.2.1
  have m3 : A (44, 0) 3 = nJ S := hro.2.1.2.2.2.2.1
  have e4 : I (8, 0) 4 = nJ N := hro.2.1.2.2.2.2.2.1
  have m4 : A (44, 0) 4 = nJ N := hro.2.1.2.2.2.2.2.2
  obtain ⟨z, hz, cz, mz⟩ := hwk.2.1
  rw [ePx_giveBack_0, eMo_giveBack_0, cUns _ _ _ hS e4 e3 hz cz, mUns _ _ _ hS hN m4 m3 hz mz, bI_some, bI_some, bif2, bif2]
  by_cases hc : inn x N ∧ inn y S ∧ A (51, 0) (tn y) = x ∧ z.testBit (tn y) = false
  · rw [if_pos (Eq.mpr (uns_same hS hwk) hc), if_pos hc]
    obtain ⟨k, hk, rfl⟩ := inn_ex (by omega) hc.2.1
    obtain ⟨w, hw, rfl⟩ := inn_ex (by omega) hc.1
    obtain ⟨f1, f2, -, -⟩ := place_same hwk hw
    rw [gI_hh, gJ_hh, gI_hh, gJ_hh, cPlace _ _ w (by omega), mIsIn _ w (by omega), bI_some, bI_some, bif2, f1, f2]
    by_cases h1 : A (54, 0) w = 0 ∧ A (53, 0) w = 0
    · rw [if_pos h1, if_pos h1.1, if_pos h1.2]
      refine keep_R2 (d + 6) (d + 4) hN hS hwk hd hp fun I1 A1 J1 B1 hk1 hp1 => ?_
      rw [bnd (show k < 6 by omega) (by omega), bnd (show k < 6 by omega) (by omega), nJ_nat (by omega), gI_hh, gJ_hh, gI_hh, gJ_hh]
      exact own_act _ _ w (by omega) h hro hwk hd hk1 hp1 hk (Or.inl rfl)
    · rw [if_neg h1]
      have hne : ¬ (if A (54, 0) w = 0 then A (53, 0) w else -1) = 0 := by
        by_cases h2 : A (54, 0) w = 0
        · rw [if_pos h2]
          exact fun z => h1 ⟨h2, z⟩
        · rw [if_neg h2]
          decide
      rw [if_neg hne]
      exact Cal.ro rfl rfl h
  · rw [if_neg (fun z => hc (Eq.mp (uns_same hS hwk) z)), if_neg hc]
    exact Cal.ro rfl rfl h
/-- the sentences of two go over -/
def swp (a b x : Int32) : Int32 := if x = a then b else if x = b then a else x
theorem swapC_go (d a b : Nat) (I : IT) (J : JT) : ∀ (j k : Nat) (Ic : IT), k + j = 6 → (∀ i, i < k → Ic (22, 0) i = swp (nJ a) (nJ b) (I (22, 0) i)) → (∀ i, k ≤ i → Ic (22, 0) i = I (22, 0) i) → (∀ q i, q ≠ (22, 0) → Ic q i = I q i) →
    Tr (ev (d + 1) mPx_swap 24 [vU, vI (nJ a), vI (nJ b), vR (22, 0), vI (nJ k)] [] (hh Ic J)) (fun v I' _ => v = some (vI 1) ∧ (∀ i, i < 6 → I' (22, 0) i = swp (nJ a) (nJ b) (I (22, 0) i)) ∧ (∀ q i, q ≠ (22, 0) → I' q i = I q i)) := by
  intro j
  induction j with
  | zero =>
    intro k Ic hk h1 h2 h3
    obtain rfl : k = 6 := by omega
    rw [ePx_swap_24, if_neg (nlt_nL (b := 6) (Nat.le_refl _) (by decide))]
    exact Tr.ret ⟨rfl, h1, h3⟩
  | succ j ih =>
    intro k Ic hk h1 h2 h3
    rw [ePx_swap_24, if_pos (lt_nL (b := 6) (show k < 6 by omega) (by decide))]
    simp only [bnd (show k < 6 by omega) (show 6 ≤ 100000 by decide), bnk (show k < 6 by omega) (show 6 ≤ 100000 by decide), nJ_nat (show k < 2147483648 by omega), nJ_succ, h2 k (Nat.le_refl k)]
    by_cases e1 : I (22, 0) k = nJ a
    · rw [if_pos e1]
      refine ih (k + 1) _ (by omega) (fun i hi => ?_) (fun i hi => (up_neK _ _ (by omega)).trans (h2 i (by omega))) (fun q i hq => (up_ne _ _ _ _ hq).trans (h3 q i hq))
      by_cases e : i = k
      · rw [e, up_same]; unfold swp; rw [if_pos e1]
      · rw [up_neK _ _ e]; exact h1 i (by omega)
    · rw [if_neg e1]
      by_cases e2 : I (22, 0) k = nJ b
      · rw [if_pos e2]
        refine ih (k + 1) _ (by omega) (fun i hi => ?_) (fun i hi => (up_neK _ _ (by omega)).trans (h2 i (by omega))) (fun q i hq => (up_ne _ _ _ _ hq).trans (h3 q i hq))
        by_cases e : i = k
        · rw [e, up_same]; unfold swp; rw [if_neg e1, if_pos e2]
        · rw [up_neK _ _ e]; exact h1 i (by omega)
      · rw [if_neg e2]
        refine ih (k + 1) Ic (by omega) (fun i hi => ?_) (fun i hi => h2 i (by omega)) h3
        by_cases e : i = k
        · rw [e, h2 k (Nat.le_refl k)]; unfold swp; rw [if_neg e1, if_neg e2]
        · exact h1 i (by omega)
theorem swapM_go (d a b S : Nat) (A : IT) (B : JT) (hS : S ≤ 6) (m3 : A (44, 0) 3 = nJ S) : ∀ (j k : Nat) (Ac : IT), k + j = S → (∀ i, i < k → Ac (51, 0) i = swp (nJ a) (nJ b) (A (51, 0) i)) → (∀ i, k ≤ i → Ac (51, 0) i = A (51, 0) i) → (∀ q i, q ≠ (51, 0) → Ac q i = A q i) →
    Tr (ev (d + 1) mMo_swap 29 [vR (43, 0), vI (nJ a), vI (nJ b), vI (nJ k)] [] (hh Ac B)) (fun v A' _ => v = some (vI 1) ∧ (∀ i, i < S → A' (51, 0) i = swp (nJ a) (nJ b) (A (51, 0) i)) ∧ (∀ q i, (q ≠ (51, 0) ∨ S ≤ i) → A' q i = A q i)) := by
  intro j
  induction j with
  | zero =>
    intro k Ac hk h1 h2 h3
    obtain rfl : k = S := by omega
    rw [eMo_swap_29, h3 (44, 0) 3 (by decide), m3, if_neg (nlt_nJ (Nat.le_refl _) (by omega))]
    refine Tr.ret ⟨rfl, h1, fun q i hq => ?_⟩
    by_cases e : q = (51, 0)
    · rw [e]; exact h2 i (hq.resolve_left (fun z => z e))
    · exact h3 q i e
  | succ j ih =>
    intro k Ac hk h1 h2 h3
    rw [eMo_swap_29, h3 (44, 0) 3 (by decide), m3, if_pos (lt_nJ (show k < S by omega) (by omega))]
    simp only [bnd (show k < 6 by omega) (show 6 ≤ 100000 by decide), bnk (show k < 6 by omega) (show 6 ≤ 100000 by decide), nJ_nat (show k < 2147483648 by omega), nJ_succ, h2 k (Nat.le_refl k)]
    by_cases e1 : A (51, 0) k = nJ a
    · rw [if_pos e1]
      refine ih (k + 1) _ (by omega) (fun i hi => ?_) (fun i hi => (up_neK _ _ (by omega)).trans (h2 i (by omega))) (fun q i hq => (up_ne _ _ _ _ hq).trans (h3 q i hq))
      by_cases e : i = k
      · rw [e, up_same]; unfold swp; rw [if_pos e1]
      · rw [up_neK _ _ e]; exact h1 i (by omega)
    · rw [if_neg e1]
      by_cases e2 : A (51, 0) k = nJ b
      · rw [if_pos e2]
        refine ih (k + 1) _ (by omega) (fun i hi => ?_) (fun i hi => (up_neK _ _ (by omega)).trans (h2 i (by omega))) (fun q i hq => (up_ne _ _ _ _ hq).trans (h3 q i hq))
        by_cases e : i = k
        · rw [e, up_same]; unfold swp; rw [if_neg e1, if_pos e2]
        · rw [up_neK _ _ e]; exact h1 i (by omega)
      · rw [if_neg e2]
        refine ih (k + 1) _ (by omega) (fun i hi => ?_) (fun i hi => (up_neK _ _ (by omega)).trans (h2 i (by omega))) (fun q i hq => (up_ne _ _ _ _ hq).trans (h3 q i hq))
        by_cases e : i = k
        · rw [e, up_same]; unfold swp; rw [if_neg e1, if_neg e2]
        · rw [up_neK _ _ e]; exact h1 i (by omega)
theorem WkR.own2 {c m c' m' : FT} {T S N G : Nat} (h : WkR c m T S N G) (hc : ∀ f j, 17 ≤ f → f ≤ 23 → f ≠ 22 → c' f j = c f j) (hm : ∀ f j, 44 ≤ f → f ≤ 56 → f ≠ 51 → m' f j = m f j) (a7 : ∀ k, k < S → c' 22 k = m' 51 k ∧ (c' 22 k = -1 ∨ ∃ w, w < N ∧ c' 22 k = nJ w)) (a8 : ∀ k, S ≤ k → k < 6 → c' 22 k = -1) : WkR c' m' T S N G := by
  obtain ⟨h1, h2, h3, h4, h5, h6, h7, h8⟩ := h
  refine ⟨?_, ?_, ?_, ?_, ?_, fun w hw => ?_, fun j hj => ⟨a7 j hj, ?_⟩, a8⟩
  · rw [hc 17 0 (by decide) (by decide) (by decide), hm 44 5 (by decide) (by decide) (by decide)]; exact h1
  · rw [hc 17 1 (by decide) (by decide) (by decide), hm 44 6 (by decide) (by decide) (by decide)]; exact h2
  · rw [hc 17 2 (by decide) (by decide) (by decide), hm 44 7 (by decide) (by decide) (by decide)]; exact h3
  · rw [hc 17 3 (by decide) (by decide) (by decide), hm 44 8 (by decide) (by decide) (by decide)]; exact h4
  · rw [hm 44 9 (by decide) (by decide) (by decide), show c' 23 = c 23 from funext fun j => hc 23 j (by decide) (by decide) (by decide)]; exact h5
  · rw [hc 18 w (by decide) (by decide) (by decide), hc 19 w (by decide) (by decide) (by decide), hc 20 w (by decide) (by decide) (by decide), hc 21 w (by decide) (by decide) (by decide), hm 53 w (by decide) (by decide) (by decide), hm 54 w (by decide) (by decide) (by decide), hm 55 w (by decide) (by decide) (by decide), hm 56 w (by decide) (by decide) (by decide)]
    exact h6 w hw
  · rw [hc 23 j (by decide) (by decide) (by decide), hm 52 j (by decide) (by decide) (by decide)]
    exact (h7 j hj).2
theorem swp_ok {a b N : Nat} {x : Int32} (ha : a < N) (hb : b < N) (h : x = -1 ∨ ∃ w, w < N ∧ x = nJ w) : swp (nJ a) (nJ b) x = -1 ∨ ∃ w, w < N ∧ swp (nJ a) (nJ b) x = nJ w := by
  unfold swp
  by_cases h1 : x = nJ a
  · rw [if_pos h1]; exact Or.inr ⟨b, hb, rfl⟩
  · rw [if_neg h1]
    by_cases h2 : x = nJ b
    · rw [if_pos h2]; exact Or.inr ⟨a, ha, rfl⟩
    · rw [if_neg h2]; exact h
theorem t_swap {I A : IT} {J B : JT} (d : Nat) (x y : Int32) (h : Rel I A) : Cal (ev (d + 8) mPx_swap 0 [vR (0, 0), vI x, vI y, vU, vU] [] (hh I J)) (ev (d + 8) mMo_swap 0 [vR (43, 0), vI x, vI y, vU] [] (hh A B)) I A := by
  obtain ⟨q, T, S, N, hru, hro, hwk, hd, et, hf, hp⟩ := ScR.parts h
  have hS := hro.1.2.1
  have hN := hro.1.2.2.1
  have hT := hro.1.1
  have e4 : I (8, 0) 4 = nJ N := hro.2.1.2.2.2.2.2.1
  have m4 : A (44, 0) 4 = nJ N := hro.2.1.2.2.2.2.2.2
  rw [ePx_swap_0, eMo_swap_0, cTwo _ _ _ e4, bI_some, bif2, mWalk _ _ m4 (by omega), bI_some, bif2, gI_hh, gJ_hh, gI_hh, gJ_hh, mWalk _ _ m4 (by omega), bI_some, bif2]
  by_cases h1 : inn x N
  · by_cases h2 : inn y N
    · by_cases h3 : x = y
      · rw [if_neg (fun z => z.2.2 h3), if_pos h1, if_pos h2, if_pos h3]
        exact Cal.ro rfl rfl h
      · rw [if_pos (And.intro h1 (And.intro h2 h3)), if_pos h1, if_pos h2, if_neg h3]
        obtain ⟨a, ha, rfl⟩ := inn_ex (by omega) h1
        obtain ⟨b, hb, rfl⟩ := inn_ex (by omega) h2
        obtain ⟨f1, f2, -, -⟩ := place_same hwk ha
        obtain ⟨g1, g2, -, -⟩ := place_same hwk hb
        obtain ⟨t, ht, et⟩ := (hwk.2.2.2.2.2.1 a ha).1.2
        have et : A (53, 0) a = nJ t := f1 ▸ et
        rw [gI_hh, gJ_hh, cTogether _ _ a b (by omega) (by omega), bI_some, bif2, mTownOf _ a (by omega), bI_some, gI_hh, gJ_hh, mTownOf _ a (by omega), bI_some, gI_hh, gJ_hh, mTownOf _ b (by omega), bI_some, f1, f2, g1, g2, et]
        have hgo : R2 (bV (ev (d + 7) mSc_keep 0 [vR (7, 0)] [] (hh I J)) (fun h3 => ev (d + 8) mPx_swap 24 [vU, vI (nJ a), vI (nJ b), vR (22, 0), vI 0] [] (hh (gI h3) (gJ h3)))) (bV (ev (d + 7) mMo_keepsAct 0 [vR (43, 0), vU] [] (hh A B)) (fun h6 => ev (d + 8) mMo_swap 29 [vR (43, 0), vI (nJ a), vI (nJ b), vI 0] [] (hh (gI h6) (gJ h6)))) (CalQ I A) := by
          refine keep_R2 (d + 6) (d + 4) hN hS hwk hd hp fun I1 A1 J1 B1 hk1 hp1 => ?_
          obtain ⟨hro1, hwk1⟩ := hk1.sc hro hwk
          have m31 : A1 (44, 0) 3 = nJ S := hro1.2.1.2.2.2.2.1
          refine Tr.mono (swapC_go (d + 7) a b I1 J1 6 0 I1 rfl (fun i hi => absurd hi (Nat.not_lt_zero i)) (fun _ _ => rfl) (fun _ _ _ => rfl)) fun v I2 J2 ⟨q1, c1, c2⟩ => ?_
          refine Tr.mono (swapM_go (d + 7) a b S A1 B1 hS m31 S 0 A1 (by omega) (fun i hi => absurd hi (Nat.not_lt_zero i)) (fun _ _ => rfl) (fun _ _ _ => rfl)) fun v' A2 B2 ⟨q2, n1, n2⟩ => ?_
          have fc : FwC I1 I2 0 := fun q hq => funext fun i => c2 q i (fun z => hq (by rw [z]; exact in17 (by decide)))
          have fm : FwM A1 A2 := fun q i hq => n2 q i (by
            by_cases e : q = (51, 0)
            · by_cases e2 : S ≤ i
              · exact Or.inr e2
              · exact absurd (Or.inr (Or.inl ⟨Or.inl e, by omega⟩)) hq
            · exact Or.inl e)
          refine ⟨⟨1, q1, q2⟩, act_Rel h hro hk1 hp1 fc fm (WkR.own2 hwk1 (fun f j f1 f2 f3 => ?_) (fun f j f1 f2 f3 => ?_) (fun k hk => ?_) (fun k k1 k2 => ?_)) ?_⟩
          · unfold scC
            rw [c2 (f, 0) j (fun z => f3 (Prod.mk.inj z).1)]
          · unfold scM
            rw [n2 (f, 0) j (Or.inl fun z => f3 (Prod.mk.inj z).1), n2 (43, 0) j (Or.inl (by decide))]
          · show I2 (22, 0) k = A2 (51, 0) k ∧ (I2 (22, 0) k = -1 ∨ ∃ w, w < N ∧ I2 (22, 0) k = nJ w)
            rw [c1 k (by omega), n1 k hk, ← show I1 (22, 0) k = A1 (51, 0) k from (hwk1.2.2.2.2.2.2.1 k hk).1.1]
            exact ⟨rfl, swp_ok ha hb (hwk1.2.2.2.2.2.2.1 k hk).1.2⟩
          · show I2 (22, 0) k = -1
            rw [c1 k k2, show I1 (22, 0) k = -1 from hwk1.2.2.2.2.2.2.2 k k1 k2]
            unfold swp
            rw [if_neg (fun z => nJ_nm1 (a := a) (by omega) z.symm), if_neg (fun z => nJ_nm1 (a := b) (by omega) z.symm)]
          · obtain ⟨z, hz, ez⟩ := hd
            refine ⟨z, hz, ?_⟩
            show I2 (17, 0) 0 = nJ z
            rw [c2 (17, 0) 0 (by decide)]
            exact (hk1.1 (17, 0) 0 (by decide) (fun q => by cases q.1)).trans ez
        by_cases q1 : A (54, 0) a = 0
        · rw [if_pos q1, if_neg (nJ_nm1 (by omega))]
          by_cases q2 : A (54, 0) b = 0
          · rw [if_pos q2]
            by_cases q3 : nJ t = A (53, 0) b
            · rw [if_pos (And.intro q1 (And.intro q2 q3)), if_pos q3]
              exact hgo
            · rw [if_neg (fun z => q3 z.2.2), if_neg q3]
              exact Cal.ro rfl rfl h
          · rw [if_neg q2, if_neg (fun z => q2 z.2.1), if_neg (nJ_nm1 (by omega))]
            exact Cal.ro rfl rfl h
        · rw [if_neg q1, if_neg (fun z => q1 z.1), if_pos rfl]
          exact Cal.ro rfl rfl h
    · rw [if_neg (fun z => h2 z.2.1), if_pos h1, if_neg h2]
      exact Cal.ro rfl rfl h
  · rw [if_neg (fun z => h1 z.1), if_neg h1]
    exact Cal.ro rfl rfl h
