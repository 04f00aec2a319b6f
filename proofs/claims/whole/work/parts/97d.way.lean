theorem cTakeOk {I : IT} {J : JT} {by_ : Nat → Nat} {n k1 tk i : Nat} (d : Nat) (lo hi : Int32) (hT : TkS I by_ n k1 tk) (e6 : I (1, 0) 6 = nJ i) (e7 : I (1, 0) 7 = 0) (hi1 : i < tk) (hk : kB (by_ (tpk by_ n i)) = 2) (h1 : ¬ nvF by_ n (tpk by_ n i) < lo) (h2 : ¬ hi < nvF by_ n (tpk by_ n i)) : ev (d + 1) mTe_takeNumber 0 [vR (1, 0), vI lo, vI hi, vU] [] (hh I J) = some (some (vI (nvF by_ n (tpk by_ n i))), hh (up2 I (1, 0) 6 (nJ (i + 1))) J) := by
  have t1 := (hT.at (Nat.le_of_lt hi1)).1
  have hkk : i < tk ∧ kB (by_ (tpk by_ n i)) = 2 := ⟨hi1, hk⟩
  rw [eTe_takeNumber_0, cNumHere d hT (Nat.le_of_lt hi1) e6, bI_some, gI_hh, gJ_hh, cIsNum d hT (Nat.le_of_lt hi1) e6, bI_some, bif2, gI_hh, gJ_hh, if_pos hkk, if_pos hkk, if_neg h1, if_neg h2, cSkip d e7 e6 hT.2.1 hi1 t1, bV_some]
theorem hh_inj {v v' : Option Vl} {I I' : IT} {J J' : JT} (h : (some (v, hh I J) : Option Rs) = some (v', hh I' J')) : v = v' ∧ I = I' := by
  have h1 := Option.some.inj h
  exact ⟨congrArg Prod.fst h1, congrArg (fun r : Rs => gI r.2) h1⟩
theorem rd_way {I A : IT} {J B : JT} {by_ : Nat → Nat} {n tk i p T : Nat} {dy : Nat → Nat → Nat} (d d' : Nat) (h : RdS I A by_ n tk i 0 p dy T) : RdO I A J B by_ n tk (ev (d + 2) mRo_readWay 0 [vR (8, 5), vR (1, 0), vU, vU, vU] [] (hh I J)) (ev (d' + 5) mMo_readsWay 0 [vR (43, 0), vU, vU, vU, vU] [] (hh A B)) := by
  obtain ⟨hx, hc, hr⟩ := h
  obtain ⟨z, S, N, W, hD⟩ := hr rfl
  have hT := hc.1
  have m1 : A (61, 0) 1 = nJ T := hD.2.1.2.2.1
  rw [eRo_readWay_0, eMo_readsWay_0, hc.2.1, m1]
  obtain ⟨I1, A1, i1, f1, p1, r, r', o1, o2, x1, y1, hx1, -, hq⟩ := tk_num (J := J) (B := B) d d' 0 (nJ T - 1) (by decide) hx
  have hx1' := hx1
  obtain ⟨hT1, hM1, hi1, e16, e17, m127, m128, hp1, hf1, hs1⟩ := hx1'
  have i12 : I1 (8, 5) 2 = nJ T := by rw [x1.s (by decide)]; exact hc.2.1
  have hsb : sbk by_ n p1 ≤ n := rn_le (f := fun q => Nat.beq (by_ q) 32) (n := n) _ p1 rfl hp1
  have hn := hM1.1
  rw [o1, o2, bI_some, bI_some, gI_hh, gJ_hh, gI_hh, gJ_hh, cIsNum (d + 1) hT1 hi1 e16, bI_some, bif2, mBlanks (d' + 3) hM1 _ p1 rfl (by omega) m127, bV_some]
  -- behind the blanks
  have y1b : FrY A (spp A1 (sbk by_ n p1)) := y1.tr FrY.u27
  have hx1b : TxR I1 (spp A1 (sbk by_ n p1)) by_ n 0 tk i1 f1 (sbk by_ n p1) := ⟨hT1, spp_bt hM1, hi1, e16, e17, spp_27 _ _, (spp_28 _ _).trans m128, hsb, hf1, fun q => by rw [← hs1 q]; exact rn_fix⟩
  have a61 : spp A1 (sbk by_ n p1) (61, 0) 1 = nJ T := by rw [y1b.s (by decide)]; exact m1
  simp only [gI_hh, gJ_hh]
  rw [cNumHere (d + 1) hT1 hi1 e16, bI_some]
  simp only [gI_hh, gJ_hh]
  rw [i12, a61, spp_27]
  obtain ⟨I2, A2, i2, f2, p2, u, u', o3, o4, x2, y2, hx2, hk2, hq2⟩ := tk_num (J := J) (B := B) d d' 0 (nJ T - 1) (by decide) hx1b
  have e27 := hx2.2.2.2.2.1
  have m228 := hx2.2.2.2.2.2.2.1
  have hf2l := hx2.2.2.2.2.2.2.2.2.1
  by_cases hcase : f1 = 0 ∧ (i1 < tk ∧ kB (by_ (tpk by_ n i1)) = 2) ∧ nvF by_ n (tpk by_ n i1) = r
  · -- the same town twice
    obtain ⟨hf10, hkk, heq⟩ := hcase
    subst hf10
    obtain ⟨a1, a2, a3, -⟩ := hq rfl
    subst a1
    have e17 : I1 (1, 0) 7 = 0 := e17
    have hs1 := hs1 rfl
    have hok := cTakeOk (I := I1) (J := J) d 0 (nJ T - 1) hT1 e16 e17 hkk.1 hkk.2 (by rw [heq]; exact a2) (by rw [heq]; exact a3)
    rw [o3] at hok
    obtain ⟨-, hI2⟩ := hh_inj hok
    have hf20 : f2 = 0 := by
      rw [hI2, up_neK _ _ (by decide), e17] at e27
      have e27 : nJ 0 = nJ f2 := e27
      rw [nJ_eq (by decide) (by omega)] at e27
      exact e27.symm
    subst hf20
    obtain ⟨b1, -, -, -, b5, -⟩ := hq2 rfl
    have hur : r = u' := by rw [← b1, b5, heq]
    rw [if_pos hkk, if_pos hkk, heq, if_pos rfl, hs1]
    rw [hs1] at o4
    have m228' : A2 (43, 0) 28 = 0 := m228
    rw [show ev (d + 1) mTe_fail 0 [vR (1, 0), vI 1] [] (hh I1 J) = _ from cFail0 (d + 1) 1 hT1 hi1 e16 e17, bV_some, o4, bI_some]
    simp only [gI_hh, gJ_hh]
    rw [if_pos m228', if_pos hur, show ev (d' + 4) mMo_fails 0 [vR (43, 0), vI 1, vI (nJ (tpk by_ n i1))] [] (hh A2 B) = _ from mFails0 (d' + 4) (tpk by_ n i1) 1 m228', bV_some]
    have ht := (hT1.at hi1).2.1
    have hxF : TxR (up2 I1 (1, 0) 7 (nJ (1 + 8 * tpk by_ n i1 + 1))) (up2 A2 (43, 0) 28 (nJ (1 + 8 * tpk by_ n i1 + 1))) by_ n 0 tk i1 (1 + 8 * tpk by_ n i1 + 1) p2 := ⟨FrX.u7.tks hT1, FrY.u28.bt hx2.2.1, hi1, (up_neK _ _ (by decide)).trans e16, up_same _ _ _ _, (up_neK _ _ (by decide)).trans hx2.2.2.2.2.2.1, up_same _ _ _ _, hx2.2.2.2.2.2.2.2.1, by omega, fun q => by omega⟩
    have iF2 : up2 I1 (1, 0) 7 (nJ (1 + 8 * tpk by_ n i1 + 1)) (8, 5) 2 = nJ T := (up_ne _ _ _ _ (by decide)).trans i12
    obtain ⟨I3, A3, i3, f3, p3, v, v', o5, -, x3, -, hx3, hk3, -⟩ := tk_num (J := J) (B := B) d d' 0 (nJ T - 1) (by decide) hxF
    have hf3 := hk3 (by omega)
    subst hf3
    -- the reference goes on to the last number from its own fault
    obtain ⟨I4, A4, i4, f4, p4, w, w', o6, -, x4, -, hx4, hk4, -⟩ := tk_num (J := J) (B := B) d d' 1 9 (by decide) hx3
    have hf4 := hk4 (by omega)
    obtain ⟨I5, A5, i5, f5, p5, g, g', -, o7, -, y5, hx5, hk5, -⟩ := tk_num (J := J) (B := B) d d' 1 9 (by decide) hxF
    have hf5 := hk5 (by omega)
    have e47 := hx4.2.2.2.2.1
    have m528 := hx5.2.2.2.2.2.2.1
    simp only [gI_hh, gJ_hh]
    rw [iF2, o5, bI_some]
    simp only [gI_hh, gJ_hh]
    rw [o6, o7, bI_some, bI_some]
    simp only [gI_hh, gJ_hh]
    rw [e47, m528, hf4, hf5, if_neg (ne_nL (b := 0) (by omega) (by omega) (by decide)), if_neg (ne_nL (b := 0) (by omega) (by omega) (by decide))]
    obtain ⟨q1, -, q3, q4, q5, -, -, -, q9, -⟩ := hx4
    obtain ⟨-, s2, -, -, -, s6, s7, s8, -, -⟩ := hx5
    refine ⟨I4, A5, i4, f4, p5, dy, T, rfl, rfl, (FrRC.of x1).tr ((FrRC.of FrX.u7).tr ((FrRC.of x3).tr (FrRC.of x4))), (FrRM.of y1b).tr ((FrRM.of y2).tr ((FrRM.of FrY.u28).tr (FrRM.of y5))), ⟨q1, s2, q3, q4, q5, s6, by rw [s7, hf5, hf4], s8, q9, fun q => by omega⟩, hc.ext ?_ ?_, fun q => by omega⟩
    · rw [x4.s (by decide), x3.s (by decide), up_ne _ _ _ _ (by decide), x1.s (by decide)]
    · rw [x4.s (by decide), x3.s (by decide), ← x1.s (s := 10) (m := 5) (by decide)]
      exact funext fun k => up_ne _ _ _ _ (by decide)
  · -- two numbers more
    have hc2 : DrC I2 dy T := hc.ext (by rw [x2.s (by decide), x1.s (by decide)]) (by rw [x2.s (by decide), x1.s (by decide)])
    obtain ⟨I3, A3, i3, f3, p3, v, v', o5, o6, x3, y3, hx3, hk3, hq3⟩ := tk_num (J := J) (B := B) d d' 1 9 (by decide) hx2
    have e37 := hx3.2.2.2.2.1
    have m328 := hx3.2.2.2.2.2.2.1
    have hf3l := hx3.2.2.2.2.2.2.2.2.1
    have hc3 : DrC I3 dy T := hc2.ext (by rw [x3.s (by decide)]) (by rw [x3.s (by decide)])
    have hfx : FrRC I I3 := (FrRC.of x1).tr ((FrRC.of x2).tr (FrRC.of x3))
    have hfy : FrRM A A3 := (FrRM.of y1b).tr ((FrRM.of y2).tr (FrRM.of y3))
    -- what both do at last
    have last : RdO I A J B by_ n tk (if I3 (1, 0) 7 = 0 then if ((r * 8) + u) < 0 ∨ 64 ≤ ((r * 8) + u).toNatClampNeg then none else if ((u * 8) + r) < 0 ∨ 64 ≤ ((u * 8) + r).toNatClampNeg then none else if r < 0 ∨ 8 ≤ r.toNatClampNeg then none else if r < 0 ∨ 8 ≤ r.toNatClampNeg then none else if u < 0 ∨ 8 ≤ u.toNatClampNeg then none else if u < 0 ∨ 8 ≤ u.toNatClampNeg then none else some (none, hh (up2 (up2 (up2 (up2 I3 (10, 5) (((r * 8) + u).toNatClampNeg) v) (10, 5) (((u * 8) + r).toNatClampNeg) v) (12, 5) r.toNatClampNeg ((I3 (12, 5) r.toNatClampNeg) ||| (1 <<< (u &&& 31)))) (12, 5) u.toNatClampNeg (((up2 (up2 (up2 I3 (10, 5) (((r * 8) + u).toNatClampNeg) v) (10, 5) (((u * 8) + r).toNatClampNeg) v) (12, 5) r.toNatClampNeg ((I3 (12, 5) r.toNatClampNeg) ||| (1 <<< (u &&& 31)))) (12, 5) u.toNatClampNeg) ||| (1 <<< (r &&& 31)))) J) else some (none, hh I3 J)) (if A3 (43, 0) 28 = 0 then if ((8 * r') + u') < 0 ∨ 64 ≤ ((8 * r') + u').toNatClampNeg then none else if (A3 (63, 0) (((8 * r') + u').toNatClampNeg)) = 10000 then if ((8 * r') + u') < 0 ∨ 64 ≤ ((8 * r') + u').toNatClampNeg then none else if ((8 * u') + r') < 0 ∨ 64 ≤ ((8 * u') + r').toNatClampNeg then none else some (none, hh (up2 (up2 (up2 A3 (61, 0) 2 ((A3 (61, 0) 2) + 1)) (63, 0) (((8 * r') + u').toNatClampNeg) v') (63, 0) (((8 * u') + r').toNatClampNeg) v') B) else if ((8 * r') + u') < 0 ∨ 64 ≤ ((8 * r') + u').toNatClampNeg then none else if ((8 * u') + r') < 0 ∨ 64 ≤ ((8 * u') + r').toNatClampNeg then none else some (none, hh (up2 (up2 (up2 A3 (61, 0) 2 ((A3 (61, 0) 2) + 0)) (63, 0) (((8 * r') + u').toNatClampNeg) v') (63, 0) (((8 * u') + r').toNatClampNeg) v') B) else some (none, hh A3 B)) := by
      by_cases hf3 : f3 = 0
      · have hf2 : f2 = 0 := by
          by_cases e : f2 = 0
          · exact e
          · have := hk3 e
            omega
        have hf1' : f1 = 0 := by
          by_cases e : f1 = 0
          · exact e
          · have := hk2 e
            omega
        obtain ⟨a1, a2, a3, -⟩ := hq hf1'
        obtain ⟨b1, b2, b3, b4, b5, b6⟩ := hq2 hf2
        obtain ⟨c1, c2, c3, -⟩ := hq3 hf3
        have hne : r ≠ u := fun q => hcase ⟨hf1', ⟨b6, b4⟩, by rw [q]; exact b5.symm⟩
        subst a1
        subst b1
        subst c1
        obtain ⟨a, ha, rfl⟩ := inn_of hT a2 a3
        obtain ⟨b, hb, rfl⟩ := inn_of hT b2 b3
        obtain ⟨w, hw, rfl⟩ := rng_of (m := 9) (by decide) (fun q => c2 (by
          rw [i_lt] at q ⊢
          have z0 : (0 : Int32).toInt = 0 := rfl
          have z1 : (1 : Int32).toInt = 1 := rfl
          omega)) c3
        have hw1 : 1 ≤ w := by
          by_cases q : 1 ≤ w
          · exact q
          · exact absurd (lt_nL (b := 1) (show w < 1 by omega) (by decide)) c2
        have hab : a ≠ b := fun q => hne (by rw [q])
        have hD3 := ((hD.fr x1 y1b).fr x2 y2).fr x3 y3
        have hz := hD3.2.2.2.2.2.1
        have h63 := (hD3.2.2.2.1 a b (by omega) (by omega)).2
        have h612 := hD3.2.1.2.2.2.1
        have hW : W < 1000 := by
          have h1 := hD3.2.2.2.2.2.2.1
          have h2 : sumT (fun t => pop8 (z t)) 8 ≤ 100 * 8 := sumT_bd 8 (fun k _ => by have := pop8_le (z k); omega)
          omega
        have hdd := hD3.2.2.2.2.1.1 a b
        have hwr := way_wr (v := w) hD3 ha hb hab ⟨hw1, by omega⟩
        have e37 : I3 (1, 0) 7 = 0 := by rw [e37, hf3]; rfl
        have m328 : A3 (43, 0) 28 = 0 := by rw [m328, hf3]; rfl
        have hib : up2 (up2 (up2 I3 (10, 5) (8 * a + b) (nJ w)) (10, 5) (8 * b + a) (nJ w)) (12, 5) a (nJ (z a ||| 2 ^ b)) (12, 5) b = nJ (z b) := by
          rw [up_neK _ _ (fun q => hab q.symm), up_ne _ _ _ _ (by decide), up_ne _ _ _ _ (by decide)]
          exact (hz b (by omega)).2.1
        rw [if_pos e37, if_pos m328, mul8r, mul8r, mul8', mul8']
        simp only [nJ_nat (show 8 * a + b < 2147483648 by omega), nJ_nat (show 8 * b + a < 2147483648 by omega), nJ_nat (show a < 2147483648 by omega), nJ_nat (show b < 2147483648 by omega), bnk (show 8 * a + b < 64 by omega) (by omega), bnk (show 8 * b + a < 64 by omega) (by omega), bnk (show a < 8 by omega) (by omega), bnk (show b < 8 by omega) (by omega)]
        rw [(hz a (by omega)).2.1, b8_sh b (by omega), b8_sh a (by omega), nJ_or2, hib, nJ_or2, h63, h612]
        have fin : RdO I A J B by_ n tk (some (none, hh (up2 (up2 (up2 (up2 I3 (10, 5) (8 * a + b) (nJ w)) (10, 5) (8 * b + a) (nJ w)) (12, 5) a (nJ (z a ||| 2 ^ b))) (12, 5) b (nJ (z b ||| 2 ^ a))) J)) (some (none, hh (up2 (up2 (up2 A3 (61, 0) 2 (nJ (W + if dy a b = 0 then 1 else 0))) (63, 0) (8 * a + b) (nJ w)) (63, 0) (8 * b + a) (nJ w)) B)) := by
          refine ⟨_, _, i3, f3, p3, dyU dy a b w, T, rfl, rfl, hfx.tr ((((FrRC.up (by decide) (by decide)).tr (FrRC.up (by decide) (by decide))).tr (FrRC.up (by decide) (by decide))).tr (FrRC.up (by decide) (by decide))), hfy.tr (((FrRM.up (by decide) (by decide)).tr (FrRM.up (by decide) (by decide))).tr (FrRM.up (by decide) (by decide))), wr_tx hx3 (fun c hc => funext fun k => by rw [up_ne _ _ _ _ (fun q => by rw [q] at hc; exact absurd hc (by decide)), up_ne _ _ _ _ (fun q => by rw [q] at hc; exact absurd hc (by decide)), up_ne _ _ _ _ (fun q => by rw [q] at hc; exact absurd hc (by decide)), up_ne _ _ _ _ (fun q => by rw [q] at hc; exact absurd hc (by decide))]) (fun c hc => funext fun k => by rw [up_ne _ _ _ _ (fun q => by rw [q] at hc; exact absurd hc (by decide)), up_ne _ _ _ _ (fun q => by rw [q] at hc; exact absurd hc (by decide)), up_ne _ _ _ _ (fun q => by rw [q] at hc; exact absurd hc (by decide))]), hwr.c, fun _ => ⟨zU z a b, S, N, _, hwr⟩⟩
        by_cases h0 : dy a b = 0
        · rw [if_pos h0] at fin
          rw [if_pos h0, if_pos (show nJ 10000 = 10000 from rfl), nJ_succ]
          exact fin
        · rw [if_neg h0] at fin
          rw [if_neg h0, if_neg (ne_nL (b := 10000) (by omega) (by omega) (by decide)), add_zero32]
          exact fin
      · rw [e37, m328, if_neg (ne_nL (b := 0) hf3 (by omega) (by decide)), if_neg (ne_nL (b := 0) hf3 (by omega) (by decide))]
        exact ⟨I3, A3, i3, f3, p3, dy, T, rfl, rfl, hfx, hfy, hx3, hc3, fun q => absurd q hf3⟩
    have hrne : A2 (43, 0) 28 = 0 → ¬ r' = u' := fun q q' => by
      have hf2 : f2 = 0 := by
        rw [m228] at q
        have q : nJ f2 = nJ 0 := q
        rw [nJ_eq (by omega) (by decide)] at q
        exact q
      have hf1' : f1 = 0 := by
        by_cases e : f1 = 0
        · exact e
        · have := hk2 e
          omega
      obtain ⟨a1, -⟩ := hq hf1'
      obtain ⟨b1, -, -, b4, b5, b6⟩ := hq2 hf2
      exact hcase ⟨hf1', ⟨b6, b4⟩, by rw [a1, q', ← b1]; exact b5.symm⟩
    rw [o4, bI_some]
    simp only [gI_hh, gJ_hh]
    rw [o6, bI_some]
    simp only [gI_hh, gJ_hh]
    have hM : (if A2 (43, 0) 28 = 0 then if r' = u' then bV (ev (d' + 4) mMo_fails 0 [vR (43, 0), vI 1, vI (nJ (sbk by_ n p1))] [] (hh A2 B)) (fun h4 => bI (ev (d' + 4) mMo_amount 0 [vR (43, 0), vI 1, vI 9, vU, vU] [] (hh (gI h4) (gJ h4))) (fun r5 h5 => (none : Option Rs))) else (none : Option Rs) else none) = none := by
      by_cases q : A2 (43, 0) 28 = 0
      · rw [if_pos q, if_neg (hrne q)]
      · rw [if_neg q]
    have hI1 : (i1 < tk ∧ kB (by_ (tpk by_ n i1)) = 2) → nvF by_ n (tpk by_ n i1) = r → ¬ I1 (1, 0) 7 = 0 := fun q q' => by
      rw [e17]
      exact ne_nL (b := 0) (fun q'' => hcase ⟨q'', q, q'⟩) (by omega) (by decide)
    by_cases hnum : i1 < tk ∧ kB (by_ (tpk by_ n i1)) = 2
    · rw [if_pos hnum, if_pos hnum]
      by_cases heq : nvF by_ n (tpk by_ n i1) = r
      · rw [if_pos heq, cFailN (d + 1) 1 (hI1 hnum heq), bV_some]
        simp only [gI_hh, gJ_hh]
        rw [i12, o3, bI_some]
        simp only [gI_hh, gJ_hh]
        rw [o5, bI_some]
        simp only [gI_hh, gJ_hh]
        by_cases q : A2 (43, 0) 28 = 0
        · rw [if_pos q, if_neg (hrne q)]
          exact last
        · rw [if_neg q]
          exact last
      · rw [if_neg heq, o3, bI_some]
        simp only [gI_hh, gJ_hh]
        rw [o5, bI_some]
        simp only [gI_hh, gJ_hh]
        by_cases q : A2 (43, 0) 28 = 0
        · rw [if_pos q, if_neg (hrne q)]
          exact last
        · rw [if_neg q]
          exact last
    · rw [if_neg hnum, o3, bI_some]
      simp only [gI_hh, gJ_hh]
      rw [o5, bI_some]
      simp only [gI_hh, gJ_hh]
      by_cases q : A2 (43, 0) 28 = 0
      · rw [if_pos q, if_neg (hrne q)]
        exact last
      · rw [if_neg q]
        exact last
