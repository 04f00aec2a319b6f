theorem FrL.hi {r : Nat} {I I' : IT} (h : FrL r I I') {s k : Nat} (hs : 39 ≤ s) : I' (s, r) k = I (s, r) k := h (s, r) k (fun z => by have := (Prod.mk.inj z.1).1; omega) (fun z => by have := (Prod.mk.inj z).1; omega) (fun z => by have := (Prod.mk.inj z.1).1; omega)
theorem FrL.p4 {r : Nat} {I I' : IT} (h : FrL r I I') : I' (37, r) 4 = I (37, r) 4 := h (37, r) 4 (fun z => by omega) (fun z => by have := (Prod.mk.inj z).1; omega) (fun z => by have := (Prod.mk.inj z.1).1; omega)
theorem FrP.hi {r : Nat} {A A' : IT} (h : FrP r A A') {s k : Nat} (hs : s = 72 ∨ s = 73 ∨ s = 74) : A' (s, 0) k = A (s, 0) k := h (s, 0) k (fun z => by have := (Prod.mk.inj z.1).1; omega) (fun z => by have := (Prod.mk.inj z).1; omega) (fun z => by rcases z.1 with z | z <;> (have := (Prod.mk.inj z).1; omega))
theorem cl_one {I A : IT} {J B : JT} {by_ : Nat → Nat} {n tk i p r sz pc c : Nat} (d d' : Nat) (h : ClS I A by_ n tk i p r sz pc c) : ∃ I' A', ev (d + 25) mRu_readClause 0 [vR (37, r), vR (1, 0)] [] (hh I J) = some (none, hh I' J) ∧ ev (d' + 11) mMo_ruleClause 0 [vR (43, 0), vI (nJ c), vU, vU] [] (hh A B) = some (none, hh A' B) ∧ FrK r I I' ∧ FrW r A A' ∧ ((∃ f, f ≠ 0 ∧ f < 100000 ∧ FlC I' by_ n tk r f 63 ∧ FlE A' by_ n f) ∨ ∃ i' p' sz' pc', ClS I' A' by_ n tk i' p' r sz' pc' (c + 1)) := by
  have hCl := h
  obtain ⟨h0, hb, hc12, e4, e32, e39, hcl⟩ := h
  have h0' := h0
  obtain ⟨⟨t1, t2, t3, t4, t5, t6, t7, t8, t9, t10⟩, hr, ⟨c1, c2, c3, c4, c5, c6⟩, ⟨b1, b2, b3⟩, hcd⟩ := h0'
  have t5 : I (1, 0) 7 = 0 := t5
  have t7 : A (43, 0) 28 = 0 := t7
  have htk := (t1.at t3).1
  have hle := (t1.at t3).2.1
  have hat := (t1.at t3).2.2.1
  have hn := t2.1
  have hM := h0.bl.1.2.1
  have hble := h0.blev (B := B) (d' + 9)
  by_cases hgo : std by_ n (tpk by_ n i) (nthD txL 8 []) = true
  · have w11 : ev (d + 24) mTe_isWord 0 [vR (1, 0), vI 11] [] (hh I J) = some (some (vI 1), hh I J) := by
      have := cIsWord (J := J) (d + 24) 11 (by decide) t1 t3 t4
      rw [if_pos (show std by_ n (tpk by_ n i) (nthD wlU 11 []) = true from hgo)] at this
      exact this
    by_cases hc : c < 12
    · have hrun := std_run (txL_pos 8 (by decide)) hgo
      have hen : enk by_ n (tpk by_ n i) = tpk by_ n i + 2 := hrun.2.2
      have hle2 := enk_le (by_ := by_) hrun.1
      have hi : i < tk := by
        by_cases e : i = tk
        · have := hat.mpr e
          omega
        · omega
      have hS1 := (h0.skip (q := tpk by_ n i + 2) hi (by omega) (by rw [← hen]; rfl)).ext (I' := up2 (up2 I (1, 0) 6 (nJ (i + 1))) (39, r) c (nJ sz)) (A' := up2 (spp A (tpk by_ n i + 2)) (72, 0) (12 * r + c) (nJ sz)) (fun s s1 s2 => funext fun k => up_ne _ _ _ _ (fun z => by have := (Prod.mk.inj z).1; omega)) (up_ne _ _ _ _ (fun z => by have := (Prod.mk.inj z).1; omega)) (up_ne _ _ _ _ (fun z => by have := (Prod.mk.inj z).1; omega)) (funext fun k => up_ne _ _ _ _ (fun z => by have := (Prod.mk.inj z).1; omega)) (fun s hs => funext fun k => up_ne _ _ _ _ (fun z => by have := (Prod.mk.inj z).1; omega))
      obtain ⟨I2, A2, v1, v2, v3, v4, v5⟩ := tk_sum (J := J) (B := B) (d + 22) (d' + 3) hS1 hb
      have e4' : I2 (37, r) 4 = nJ c := by
        rw [v3.p4, up_ne _ _ _ _ (fun z => by have := (Prod.mk.inj z).1; omega), up_ne _ _ _ _ (fun z => by have := (Prod.mk.inj z).1; omega)]
        exact e4
      have i39 : ∀ k, I2 (39, r) k = if k = c then nJ sz else I (39, r) k := fun k => by
        rw [v3.hi (by decide), up_at]
        by_cases e : k = c
        · rw [if_pos ⟨rfl, e⟩, if_pos e]
        · rw [if_neg (fun z => e z.2), if_neg e, up_ne _ _ _ _ (fun z => by have := (Prod.mk.inj z).1; omega)]
      have i40 : ∀ k, I2 (40, r) k = I (40, r) k := fun k => by
        rw [v3.hi (by decide), up_ne _ _ _ _ (fun z => by have := (Prod.mk.inj z).1; omega), up_ne _ _ _ _ (fun z => by have := (Prod.mk.inj z).1; omega)]
      have a72 : ∀ k, A2 (72, 0) (12 * r + k) = if k = c then nJ sz else A (72, 0) (12 * r + k) := fun k => by
        rw [v4.q.hi (by decide), up_at]
        by_cases e : k = c
        · rw [if_pos ⟨rfl, by omega⟩, if_pos e]
        · rw [if_neg (fun z => e (by have := z.2; omega)), if_neg e]
          exact up_ne _ _ _ _ (by decide)
      have a73 : ∀ s k, s = 73 ∨ s = 74 → A2 (s, 0) k = A (s, 0) k := fun s k hs => by
        rw [v4.q.hi (by omega), up_ne _ _ _ _ (fun z => by have := (Prod.mk.inj z).1; omega)]
        exact up_ne _ _ _ _ (fun z => by have := (Prod.mk.inj z).1; omega)
      have a32 : A2 (43, 0) 32 = nJ 0 := by
        rw [v4 (43, 0) 32 (fun z => by omega) trivial (fun z => by rcases z.1 with z | z <;> exact absurd z (by decide)), up_ne _ _ _ _ (by decide)]
        exact (up_neK _ _ (by decide)).trans e32
      have fx : FrK r I I2 := ((FrK.x FrX.u6).tr (FrK.up (by decide) (by decide))).tr v3.k
      have fy : FrW r A A2 := ((FrW.y FrY.u27).tr (FrW.up (by decide) (by omega) (by omega))).tr v4.q.w
      have hC := cl_go (d + 24) t1 hi htk t4 t5 hgo e4 hc c1 v1 e4'
      have hD := cl_goM (d' + 9) hM hle hble hgo hc hr c3 c4 v2
      rcases v5 with ⟨f, f1, f2, f3, f4⟩ | ⟨i2, sz2, pc2, g1, g2, g3, g4, g5, g6⟩
      · -- a fault in the sum
        rw [if_neg (f3.n0 f1 f2)] at hC
        rw [if_neg (f4.n0 f1 f2)] at hD
        obtain ⟨j, szf, pcf, -, -, -, -, q1, -⟩ := id f3
        rw [clT_eq (c := c) (s := szf) ((up_ne _ _ _ _ (fun z => by have := (Prod.mk.inj z).1; omega)).trans e4') ((up_ne _ _ _ _ (fun z => by have := (Prod.mk.inj z).1; omega)).trans q1) hc] at hC
        refine ⟨_, _, hC, hD, (fx.tr (FrK.up (by decide) (by decide))).tr fnI_fr, (fy.tr (FrW.up (by decide) (by omega) (by omega))).tr (FrW.up (by decide) (by omega) (by omega)), Or.inl ⟨f, f1, f2, (f3.K (by decide)).ext (fun s s1 s2 => funext fun k => ?_) ?_ ?_, f4.e.ext ?_ ?_⟩⟩
        · rw [fnI_o (fun z => by have := (Prod.mk.inj z.1).1; omega) (fun z => by have := (Prod.mk.inj z.1).1; omega), up_ne _ _ _ _ (fun z => by have := (Prod.mk.inj z).1; omega)]
        · rw [fnI_o (fun z => by omega) (fun z => by have := (Prod.mk.inj z.1).1; omega), up_ne _ _ _ _ (fun z => by have := (Prod.mk.inj z).1; omega)]
        · rw [fnI_o (fun z => by omega) (fun z => by have := (Prod.mk.inj z.1).1; omega), up_ne _ _ _ _ (fun z => by have := (Prod.mk.inj z).1; omega)]
        · funext k
          rw [up_ne _ _ _ _ (by decide), up_ne _ _ _ _ (by decide)]
        · funext k
          rw [up_ne _ _ _ _ (by decide), up_ne _ _ _ _ (by decide)]
      · have g1' := g1
        obtain ⟨⟨s1, s2, s3, s4, s5, s6, s7, s8, s9, s10⟩, -, ⟨k1, k2, k3, k4, k5, k6⟩, ⟨w1, w2, w3⟩, -⟩ := g1'
        have s5 : I2 (1, 0) 7 = 0 := s5
        have s7 : A2 (43, 0) 28 = 0 := s7
        rw [if_pos s5, k1] at hC
        rw [if_pos s7, k4] at hD
        have hS2 : RlS (up2 I2 (40, r) c (nJ sz2)) (up2 A2 (73, 0) (12 * r + c) (nJ sz2)) by_ n tk i2 (tpk by_ n i2) r sz2 sz2 pc2 := g1.ext (fun s s1 s2 => funext fun k => up_ne _ _ _ _ (fun z => by have := (Prod.mk.inj z).1; omega)) (up_ne _ _ _ _ (fun z => by have := (Prod.mk.inj z).1; omega)) (up_ne _ _ _ _ (fun z => by have := (Prod.mk.inj z).1; omega)) (funext fun k => up_ne _ _ _ _ (fun z => by have := (Prod.mk.inj z).1; omega)) (fun s hs => funext fun k => up_ne _ _ _ _ (fun z => by have := (Prod.mk.inj z).1; omega))
        have hle3 := (s1.at s3).2.1
        have hat3 := (s1.at s3).2.2.1
        have hM2 := hS2.bl.1.2.1
        have hbl2 := hS2.blev (B := B) (d' + 8)
        have w12 : ev (d + 24) mTe_isWord 0 [vR (1, 0), vI 12] [] (hh (up2 I2 (40, r) c (nJ sz2)) J) = some (some (vI (if std by_ n (tpk by_ n i2) (nthD txL 17 []) = true then 1 else 0)), hh (up2 I2 (40, r) c (nJ sz2)) J) := cIsWord (d + 24) 12 (by decide) hS2.1.1 s3 hS2.1.2.2.2.1
        have hst := mStood (B := B) (j := 17) (d' + 9) hM2 (spp_27 _ _) hle3 (by decide) (by decide)
        have h39' : ∀ k, up2 I2 (40, r) c (nJ sz2) (39, r) k = if k = c then nJ sz else I (39, r) k := fun k => (up_ne _ _ _ _ (fun z => by have := (Prod.mk.inj z).1; omega)).trans (i39 k)
        have h40' : ∀ k, up2 I2 (40, r) c (nJ sz2) (40, r) k = if k = c then nJ sz2 else I (40, r) k := fun k => by
          rw [up_at]
          by_cases e : k = c
          · rw [if_pos ⟨rfl, e⟩, if_pos e]
          · rw [if_neg (fun z => e z.2), if_neg e, i40]
        have h4' : up2 I2 (40, r) c (nJ sz2) (37, r) 4 = nJ c := (up_ne _ _ _ _ (fun z => by have := (Prod.mk.inj z).1; omega)).trans e4'
        have h38' : ∀ j, up2 I2 (40, r) c (nJ sz2) (38, r) j = I2 (38, r) j := fun j => up_ne _ _ _ _ (fun z => by have := (Prod.mk.inj z).1; omega)
        have kc0 : ∀ j, j < sz → I2 (38, r) j = I (38, r) j := fun j hj => by
          rw [g4 j hj, up_ne _ _ _ _ (fun z => by have := (Prod.mk.inj z).1; omega), up_ne _ _ _ _ (fun z => by have := (Prod.mk.inj z).1; omega)]
        have b72 : ∀ k, up2 A2 (73, 0) (12 * r + c) (nJ sz2) (72, 0) (12 * r + k) = if k = c then nJ sz else A (72, 0) (12 * r + k) := fun k => (up_ne _ _ _ _ (by decide)).trans (a72 k)
        have b73 : ∀ k, up2 A2 (73, 0) (12 * r + c) (nJ sz2) (73, 0) (12 * r + k) = if k = c then nJ sz2 else A (73, 0) (12 * r + k) := fun k => by
          rw [up_at]
          by_cases e : k = c
          · rw [if_pos ⟨rfl, by omega⟩, if_pos e]
          · rw [if_neg (fun z => e (by have := z.2; omega)), if_neg e, a73 73 _ (by decide)]
        have b74 : ∀ k, up2 A2 (73, 0) (12 * r + c) (nJ sz2) (74, 0) k = A (74, 0) k := fun k => (up_ne _ _ _ _ (by decide)).trans (a73 74 k (by decide))
        have fx2 : FrK r I (up2 I2 (40, r) c (nJ sz2)) := fx.tr (FrK.up (by decide) (by decide))
        have fy2 : FrW r A (up2 A2 (73, 0) (12 * r + c) (nJ sz2)) := fy.tr (FrW.up (by decide) (by omega) (by omega))
        rw [w12, bI_some, bif2, gI_hh, gJ_hh] at hC
        by_cases hif : std by_ n (tpk by_ n i2) (nthD txL 17 []) = true
        · -- with a test
          have hrun2 := std_run (txL_pos 17 (by decide)) hif
          have hen2 : enk by_ n (tpk by_ n i2) = tpk by_ n i2 + 2 := hrun2.2.2
          have hle4 := enk_le (by_ := by_) hrun2.1
          have hi2 : i2 < tk := by
            by_cases e : i2 = tk
            · have := hat3.mpr e
              omega
            · omega
          have htk2 : ev (d' + 10) mMo_takes 0 [vR (43, 0), vR (99, 17), vU] [] (hh (up2 A2 (73, 0) (12 * r + c) (nJ sz2)) B) = some (some (vI 1), hh (spp (up2 A2 (73, 0) (12 * r + c) (nJ sz2)) (tpk by_ n i2 + 2)) B) := by
            rw [eMo_takes_0, hbl2, bV_some, gI_hh, gJ_hh, hst, bI_some, if_pos hif, if_neg (show ¬ (1 : Int32) = 0 by decide), if_pos (Or.inr rfl), gI_hh, gJ_hh, spp_27, show nJ (tpk by_ n i2) + Int32.ofNat (nthD txL 17 []).length = nJ (tpk by_ n i2 + 2) from nJ_add _ 2]
            rw [show up2 (spp (up2 A2 (73, 0) (12 * r + c) (nJ sz2)) (tpk by_ n i2)) (43, 0) 27 (nJ (tpk by_ n i2 + 2)) = spp (up2 A2 (73, 0) (12 * r + c) (nJ sz2)) (tpk by_ n i2 + 2) from spp_spp _ _ _]
          have hS3 := (hS2.skip (q := tpk by_ n i2 + 2) hi2 (by omega) (by rw [← hen2]; rfl)).u3 (k := 34) (x := 0) (Or.inr rfl)
          have fy3 : FrW r A (up2 (spp (up2 A2 (73, 0) (12 * r + c) (nJ sz2)) (tpk by_ n i2 + 2)) (43, 0) 34 0) := (fy2.tr (FrW.y FrY.u27)).tr (FrP.u (k := 34) (by decide)).w
          have fx3 : FrK r I (up2 (up2 I2 (40, r) c (nJ sz2)) (1, 0) 6 (nJ (i2 + 1))) := fx2.tr (FrK.x FrX.u6)
          have hFc : FcP J B by_ n tk r (d + 23) (d' + 8) 0 24 := fc_all d' 10 0 rfl d
          obtain ⟨I6, y1, y2, y3⟩ := ts_all (d + 23) (d' + 8) 0 24 (by decide) hFc hS3 (by omega) (m := 0) (by decide) (up_same _ _ _ _) ((up_neK _ _ (by decide)).trans ((up_neK _ _ (by decide)).trans ((up_ne _ _ _ _ (by decide)).trans a32))) (fun k hk => by omega)
          have y1 : ev (d + 24) mRu_readTest 0 [vR (37, r), vR (1, 0), vI 0, vU, vU, vU] [] (hh (up2 (up2 I2 (40, r) c (nJ sz2)) (1, 0) 6 (nJ (i2 + 1))) J) = some (none, hh I6 J) := y1
          rw [if_pos hif, cSkip (d + 24) ((up_ne _ _ _ _ (fun z => by have := (Prod.mk.inj z).1; omega)).trans s5) hS2.1.2.2.2.1 hS2.1.1.2.1 hi2 htk, bV_some, gI_hh, gJ_hh, y1, bV_some, gI_hh, gJ_hh] at hC
          rw [htk2, bI_some, if_neg (show ¬ (1 : Int32) = 0 by decide), gI_hh, gJ_hh, eMo_test_0] at hD
          have e46 : I6 (37, r) 4 = nJ c := by
            rw [y2.p4, up_ne _ _ _ _ (fun z => by have := (Prod.mk.inj z).1; omega)]
            exact h4'
          have e396 : ∀ k, I6 (39, r) k = if k = c then nJ sz else I (39, r) k := fun k => by
            rw [y2.hi (by decide), up_ne _ _ _ _ (fun z => by have := (Prod.mk.inj z).1; omega)]
            exact h39' k
          have e406 : ∀ k, I6 (40, r) k = if k = c then nJ sz2 else I (40, r) k := fun k => by
            rw [y2.hi (by decide), up_ne _ _ _ _ (fun z => by have := (Prod.mk.inj z).1; omega)]
            exact h40' k
          rcases y3 with ⟨f, A6, z1, z2, z3, z4, z5, z6⟩ | ⟨A6, i6, sz6, pc6, z1, z2, z3, ⟨z4, z4'⟩, z5, z6, z7, z8, z9, z10⟩
          · obtain ⟨j, szf, pcf, -, -, -, -, q1, -⟩ := id z3
            rw [clT_eq (c := c) (s := szf) e46 q1 hc] at hC
            rw [z4, bV_some, gI_hh, gJ_hh] at hD
            refine ⟨_, _, hC, hD, (fx3.tr y2.k).tr fnI_fr, (fy3.tr z5.w).tr (FrW.up (by decide) (by omega) (by omega)), Or.inl ⟨f, z1, z2, z3.ext (fun s s1 s2 => funext fun k => ?_) ?_ ?_, z6.ext ?_ ?_⟩⟩
            · exact fnI_o (fun z => by have := (Prod.mk.inj z.1).1; omega) (fun z => by have := (Prod.mk.inj z.1).1; omega)
            · exact fnI_o (fun z => by omega) (fun z => by have := (Prod.mk.inj z.1).1; omega)
            · exact fnI_o (fun z => by omega) (fun z => by have := (Prod.mk.inj z.1).1; omega)
            · exact funext fun k => up_ne _ _ _ _ (by decide)
            · exact funext fun k => up_ne _ _ _ _ (by decide)
          · have z3' := z3
            obtain ⟨-, -, ⟨l1, l2, l3, l4, l5, l6⟩, -, -⟩ := z3'
            rw [clT_eq (c := c) (s := sz6) e46 l1 hc] at hC
            have hte : teK (d' + 9) A6 B = some (none, hh A6 B) := by
              unfold teK
              rw [mTop0 (d' + 9) z4, bI_some, if_neg (show ¬ (-1 : Int32) = 12 by decide), gI_hh, gJ_hh, mT7_E]
            rw [z1, hte, bV_some, gI_hh, gJ_hh, l4] at hD
            have a6 : ∀ s k, s = 72 ∨ s = 73 ∨ s = 74 → A6 (s, 0) k = up2 A2 (73, 0) (12 * r + c) (nJ sz2) (s, 0) k := fun s k hs => by
              rw [z2.hi hs, up_ne _ _ _ _ (fun z => by have := (Prod.mk.inj z).1; omega)]
              exact up_ne _ _ _ _ (fun z => by have := (Prod.mk.inj z).1; omega)
            have kc2 : ∀ j, j < sz2 → I6 (38, r) j = I2 (38, r) j := fun j hj => by
              rw [z8 j hj, up_ne _ _ _ _ (fun z => by have := (Prod.mk.inj z).1; omega), h38']
            have q38 : ∀ j, fnI I6 r c sz6 (38, r) j = I6 (38, r) j := fun j => fnI_o (fun z => by have := (Prod.mk.inj z.1).1; omega) (fun z => by have := (Prod.mk.inj z.1).1; omega)
            refine ⟨_, _, hC, hD, (fx3.tr y2.k).tr fnI_fr, (fy3.tr z2.w).tr (FrW.up (by decide) (by omega) (by omega)), Or.inr ⟨i6, tpk by_ n i6, sz6, pc6, hCl.more (b := sz2) hc (z3.ext (fun s s1 s2 => funext fun k => ?_) ?_ ?_ (funext q38) (fun s hs => ?_)) (by omega) ?_ ?_ (fun k => ?_) (fun k => ?_) (fun k hk => ?_) (fun k hk => ?_) (fun k hk => ?_) (fun j hj => ?_) (by omega) ?_ (Or.inr ?_)⟩⟩
            · exact fnI_o (fun z => by have := (Prod.mk.inj z.1).1; omega) (fun z => by have := (Prod.mk.inj z.1).1; omega)
            · exact fnI_o (fun z => by omega) (fun z => by have := (Prod.mk.inj z.1).1; omega)
            · exact fnI_o (fun z => by omega) (fun z => by have := (Prod.mk.inj z.1).1; omega)
            · exact funext fun k => up_ne _ _ _ _ (fun z => by have := (Prod.mk.inj z).1; omega)
            · unfold fnI
              rw [up_ne _ _ _ _ (fun z => by have := (Prod.mk.inj z).1; omega), up_same]
            · exact (up_ne _ _ _ _ (by decide)).trans z4'
            · unfold fnI
              rw [up_at]
              by_cases e : k = c + 1
              · rw [if_pos ⟨rfl, e⟩, if_pos e]
              · rw [if_neg (fun z => e z.2), if_neg e, up_ne _ _ _ _ (fun z => by have := (Prod.mk.inj z).1; omega)]
                exact e396 k
            · rw [fnI_o (fun z => by have := (Prod.mk.inj z.1).1; omega) (fun z => by have := (Prod.mk.inj z.1).1; omega)]
              exact e406 k
            · rw [up_ne _ _ _ _ (by decide), a6 72 _ (by decide)]
              exact b72 k
            · rw [up_ne _ _ _ _ (by decide), a6 73 _ (by decide)]
              exact b73 k
            · rw [up_at]
              by_cases e : k = c
              · rw [if_pos ⟨rfl, by omega⟩, if_pos e]
              · rw [if_neg (fun z => e (by have := z.2; omega)), if_neg e, a6 74 _ (by decide)]
                exact b74 _
            · rw [q38, kc2 j (by omega), kc0 j hj]
            · exact (g3.ext (fun j _ hj => by rw [q38, kc2 j hj])).mono (by decide) (fun _ z => z)
            · exact (z7.ext (fun j _ hj => (q38 j).symm)).mono (by decide) (fun _ z => z)
        · -- without
          have htk2 : ev (d' + 10) mMo_takes 0 [vR (43, 0), vR (99, 17), vU] [] (hh (up2 A2 (73, 0) (12 * r + c) (nJ sz2)) B) = some (some (vI 0), hh (spp (up2 A2 (73, 0) (12 * r + c) (nJ sz2)) (tpk by_ n i2)) B) := by
            rw [eMo_takes_0, hbl2, bV_some, gI_hh, gJ_hh, hst, bI_some, if_neg hif, if_pos rfl, if_pos (Or.inl rfl), gI_hh, gJ_hh, spp_27, show nJ (tpk by_ n i2) + 0 = nJ (tpk by_ n i2) from nJ_add _ 0]
            rw [show up2 (spp (up2 A2 (73, 0) (12 * r + c) (nJ sz2)) (tpk by_ n i2)) (43, 0) 27 (nJ (tpk by_ n i2)) = spp (up2 A2 (73, 0) (12 * r + c) (nJ sz2)) (tpk by_ n i2) from spp_spp _ _ _]
          have hS3 := hS2.bl
          rw [if_neg hif, clT_eq (c := c) (s := sz2) h4' ((up_ne _ _ _ _ (fun z => by have := (Prod.mk.inj z).1; omega)).trans k1) hc] at hC
          rw [htk2, bI_some, if_pos rfl, gI_hh, gJ_hh, show spp (up2 A2 (73, 0) (12 * r + c) (nJ sz2)) (tpk by_ n i2) (43, 0) 31 = nJ sz2 from (up_neK _ _ (by decide)).trans ((up_ne _ _ _ _ (by decide)).trans k4)] at hD
          have q38 : ∀ j, fnI (up2 I2 (40, r) c (nJ sz2)) r c sz2 (38, r) j = I2 (38, r) j := fun j => (fnI_o (fun z => by have := (Prod.mk.inj z.1).1; omega) (fun z => by have := (Prod.mk.inj z.1).1; omega)).trans (h38' j)
          refine ⟨_, _, hC, hD, fx2.tr fnI_fr, (fy2.tr (FrW.y FrY.u27)).tr (FrW.up (by decide) (by omega) (by omega)), Or.inr ⟨i2, tpk by_ n i2, sz2, pc2, hCl.more (b := sz2) hc (hS3.ext (fun s s1 s2 => funext fun k => ?_) ?_ ?_ (funext fun j => (q38 j).trans (h38' j).symm) (fun s hs => ?_)) (by omega) ?_ ?_ (fun k => ?_) (fun k => ?_) (fun k hk => ?_) (fun k hk => ?_) (fun k hk => ?_) (fun j hj => ?_) (by omega) ?_ (Or.inl rfl)⟩⟩
          · exact fnI_o (fun z => by have := (Prod.mk.inj z.1).1; omega) (fun z => by have := (Prod.mk.inj z.1).1; omega)
          · exact fnI_o (fun z => by omega) (fun z => by have := (Prod.mk.inj z.1).1; omega)
          · exact fnI_o (fun z => by omega) (fun z => by have := (Prod.mk.inj z.1).1; omega)
          · exact funext fun k => up_ne _ _ _ _ (fun z => by have := (Prod.mk.inj z).1; omega)
          · unfold fnI
            rw [up_ne _ _ _ _ (fun z => by have := (Prod.mk.inj z).1; omega), up_same]
          · exact (up_ne _ _ _ _ (by decide)).trans ((up_neK _ _ (by decide)).trans ((up_ne _ _ _ _ (by decide)).trans a32))
          · unfold fnI
            rw [up_at]
            by_cases e : k = c + 1
            · rw [if_pos ⟨rfl, e⟩, if_pos e]
            · rw [if_neg (fun z => e z.2), if_neg e, up_ne _ _ _ _ (fun z => by have := (Prod.mk.inj z).1; omega)]
              exact h39' k
          · rw [fnI_o (fun z => by have := (Prod.mk.inj z.1).1; omega) (fun z => by have := (Prod.mk.inj z.1).1; omega)]
            exact h40' k
          · exact (up_ne _ _ _ _ (by decide)).trans ((up_ne _ _ _ _ (by decide)).trans (b72 k))
          · exact (up_ne _ _ _ _ (by decide)).trans ((up_ne _ _ _ _ (by decide)).trans (b73 k))
          · rw [up_at]
            by_cases e : k = c
            · rw [if_pos ⟨rfl, by omega⟩, if_pos e]
            · rw [if_neg (fun z => e (by have := z.2; omega)), if_neg e]
              exact (up_ne _ _ _ _ (by decide)).trans (b74 _)
          · rw [q38, kc0 j hj]
          · exact (g3.ext (fun j _ hj => (q38 j).symm)).mono (by decide) (fun _ z => z)
    · -- one clause too many
      have hce : c = 12 := by omega
      obtain ⟨I2, A2, y1, y2, y3, y4, y5, y6, y7⟩ := rl_fault (J := J) (B := B) (d + 24) (d' + 10) 4 63 h0 (by decide) (A1 := spp A (tpk by_ n i)) FrY.u27 (spp_27 _ _) hle (by rw [spp_28]; exact t7) (by omega)
      have y1 : ev (d + 24) mTe_fail 0 [vR (1, 0), vI 4] [] (hh I J) = some (none, hh I2 J) := y1
      have y2 : ev (d' + 10) mMo_fails 0 [vR (43, 0), vI 4, vI (nJ (tpk by_ n i))] [] (hh (spp A (tpk by_ n i)) B) = some (none, hh A2 B) := y2
      refine ⟨I2, A2, ?_, ?_, FrK.x y3, FrW.y y4, Or.inl ⟨_, y5.1, y5.2, y6, y7.e⟩⟩
      · rw [eRu_readClause_0, w11, bI_some, if_neg (show ¬ (1 : Int32) = 0 by decide), gI_hh, gJ_hh, e4, if_neg (nlt_nL (b := 12) (by omega) (by omega)), y1, bV_some, gI_hh, gJ_hh]
      · rw [eMo_ruleClause_0, hble, bV_some, gI_hh, gJ_hh, mStood (d' + 10) hM (spp_27 _ _) hle (by decide) (by decide), bI_some, bif2, if_pos hgo, hce, if_pos (show nJ 12 = 12 from rfl), gI_hh, gJ_hh, spp_27, y2, bV_some, gI_hh, gJ_hh]
  · -- no word of a clause
    have w11 : ev (d + 24) mTe_isWord 0 [vR (1, 0), vI 11] [] (hh I J) = some (some (vI 0), hh I J) := by
      have := cIsWord (J := J) (d + 24) 11 (by decide) t1 t3 t4
      rw [if_neg (show ¬ std by_ n (tpk by_ n i) (nthD wlU 11 []) = true from hgo)] at this
      exact this
    obtain ⟨I2, A2, y1, y2, y3, y4, y5, y6, y7⟩ := rl_fault (J := J) (B := B) (d + 24) (d' + 10) 0 63 h0 (by decide) (A1 := spp A (tpk by_ n i)) FrY.u27 (spp_27 _ _) hle (by rw [spp_28]; exact t7) (by omega)
    have y1 : ev (d + 24) mTe_fail 0 [vR (1, 0), vI 0] [] (hh I J) = some (none, hh I2 J) := y1
    have y2 : ev (d' + 10) mMo_fails 0 [vR (43, 0), vI 0, vI (nJ (tpk by_ n i))] [] (hh (spp A (tpk by_ n i)) B) = some (none, hh A2 B) := y2
    refine ⟨I2, A2, ?_, ?_, FrK.x y3, FrW.y y4, Or.inl ⟨_, y5.1, y5.2, y6, y7.e⟩⟩
    · rw [eRu_readClause_0, w11, bI_some, if_pos rfl, gI_hh, gJ_hh, y1, bV_some, gI_hh, gJ_hh]
    · rw [eMo_ruleClause_0, hble, bV_some, gI_hh, gJ_hh, mStood (d' + 10) hM (spp_27 _ _) hle (by decide) (by decide), bI_some, bif2, if_neg hgo, gI_hh, gJ_hh, spp_27, y2, bV_some, gI_hh, gJ_hh]
