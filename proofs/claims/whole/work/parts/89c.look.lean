/-- what the reference shows of a day, and what the class counts of it -/
theorem shown_R {I A I2 A2 : IT} {B2 : JT} {T S N L q X : Nat} {dy : Nat → Nat} {x : Int32} (d d' : Nat) (hX : X ≤ 60) (hb : TrC I A I2 A2) (hru : RusR I A q) (hro : RoR (scC I 0) (scM A) T S N) (hlg : LgR I A L N dy) (hx : x = -1 ∨ ∃ r, r < q ∧ x = nJ r) :
    ∃ h0 : Hp, Tr (ev (d' + 7) mMo_couldRule 0 [vR (43, 0), vI x, vI (nJ X), vU, vU, vU] [] (hh A2 B2)) (fun _ A4 _ => ∀ k, k < 3 → A4 (85, 0) k = twn (gI (gsq d' h0 (X + 1))) k) ∧
      ∀ (I5 : IT) (J5 : JT), FwL I I5 → Tr (ev (d + 5) mPx_countPlaces 0 [vR (0, 0), vI x, vI (nJ X), vU, vU] [] (hh I5 J5)) (fun v I6 _ => v = none ∧ ∃ (I4 : IT) (p : Nat → Nat), (∀ w, w < N → plc I4 w = twn (gI (gsq d' h0 (X + 1))) w ∧ p w ≤ 8 ∧ plc I4 w + 1 = nJ (p w)) ∧ FwL I I4 ∧ I6 (36, 0) = alk p 0 N (I4 (36, 0)) ∧ ∀ a, a ≠ (36, 0) → I6 a = I4 a) := by
  have hN := hro.1.2.2.1
  have hS := hro.1.2.1
  have m3 : A2 (44, 0) 3 = nJ S := (hb.2.1 (44, 0) 3 (fun z => by cases z.1) (fun z => by cases z.1) (by decide)).trans hro.2.1.2.2.2.2.1
  have m4 : A2 (44, 0) 4 = nJ N := (hb.2.1 (44, 0) 4 (fun z => by cases z.1) (fun z => by cases z.1) (by decide)).trans hro.2.1.2.2.2.2.2.2
  obtain ⟨A1, A3, B3, hm, g3, em⟩ := mLogged (B := B2) (d' + 5) x (nJ X) m3 m4 hS hN rfl
  have st : ∀ (I5 : IT) (J5 : JT), FwL I I5 → ∃ rl, (rl = vN ∨ ∃ a, rl = vR a) ∧ (∀ d J, ev d mPx_ruleAt 0 [vR (0, 0), vI x] [] (hh I5 J) = some (some rl, hh I5 J)) ∧ Tr (ev (d + 4) mPx_beginLogged 0 [vR (0, 0), vU, vU] [] (hh I5 J5)) (fun v I3 _ => v = none ∧ LgS I A I3 A3 T S N 0 L dy rl) := by
    intro I5 J5 h5
    have hb5 : TrC I A I5 A2 := ⟨h5, hb.2⟩
    obtain ⟨rl, hrl0, hrl, hat⟩ := cAt (hb5.rus hru) hx
    have e3 : I5 (8, 0) 3 = nJ S := by rw [h5 (8, 0) (by decide)]; exact hro.2.1.2.2.2.1
    have e4 : I5 (8, 0) 4 = nJ N := by rw [h5 (8, 0) (by decide)]; exact hro.2.1.2.2.2.2.2.1
    exact ⟨rl, hrl0, hat, (cLogged (d + 2) e3 e4 hS hN rfl).mono fun v I3 J3 ⟨q1, I1, hc, h3⟩ => ⟨q1, lg_begin hb5 hro hlg rfl hrl hc h3 hm g3⟩⟩
  refine ⟨hh A3 B3, ?_, fun I5 J5 h5 => ?_⟩
  · obtain ⟨rl, -, -, v, I3, J3, -, -, hs⟩ := st I2 (fun _ _ => 0) hb.1
    rw [em]
    exact cr_shown d' hX 61 0 1 I3 A3 B3 rfl hs (Or.inr rfl) (fun _ => rfl) (fun z => by omega)
  · obtain ⟨rl, hrl0, hat, hst⟩ := st I5 J5 h5
    have e0 : ev (d + 5) mPx_countPlaces 0 [vR (0, 0), vI x, vI (nJ X), vU, vU] [] (hh I5 J5) = bV (ev (d + 4) mPx_beginLogged 0 [vR (0, 0), vU, vU] [] (hh I5 J5)) (fun h2 => ev (d + 5) mPx_countPlaces 8 [vR (0, 0), vU, vI (nJ X), rl, vI 0] [] (hh (gI h2) (gJ h2))) := by
      rcases hrl0 with rfl | ⟨a, rfl⟩
      · rw [ePx_countPlaces_0, hat]; rfl
      · rw [ePx_countPlaces_0, hat]; rfl
    rw [e0]
    refine Tr.bV (hst.mono fun v I3 J3 ⟨q1, hs⟩ => ⟨q1, ?_⟩)
    refine cp_go (h0 := hh A3 B3) d d' hX hrl0 (fun I4 J4 hp hf => ?_) (X + 1) 0 I3 A3 J3 B3 (by omega) hs rfl
    have hch : ∃ p : Nat → Nat, ∀ w, w < N → p w ≤ 8 ∧ plc I4 w + 1 = nJ (p w) := by
      refine ⟨fun w => (plc I4 w + 1).toNatClampNeg, fun w hw => ?_⟩
      obtain ⟨-, p, hp8, ep⟩ := hp w hw
      show (plc I4 w + 1).toNatClampNeg ≤ 8 ∧ plc I4 w + 1 = nJ (plc I4 w + 1).toNatClampNeg
      have ex : (plc I4 w + 1).toNatClampNeg = p := by rw [ep]; exact nJ_nat (by omega)
      rw [ex]
      exact ⟨hp8, ep⟩
    obtain ⟨p, hp2⟩ := hch
    have e4 : I4 (8, 0) 4 = nJ N := by rw [hf (8, 0) (by decide)]; exact hro.2.1.2.2.2.2.2.1
    obtain ⟨I6, e6, r1, r2⟩ := cp23 (d + 4) hN N 0 I4 J4 (by omega) e4 hp2
    have e6 : ev (d + 5) mPx_countPlaces 23 [vR (0, 0), vU, vU, vU, vI 0] [] (hh I4 J4) = some (none, hh I6 J4) := e6
    rw [e6]
    exact Tr.ret ⟨rfl, I4, p, fun w hw => ⟨(hp w hw).1, hp2 w hw⟩, hf, r1, r2⟩
/-- a state of LOOK -/
def LkS (I A I2 A2 : IT) : Prop := (∀ a : Ad, ¬ (17 ≤ a.1 ∧ a.1 ≤ 23 ∧ a.2 = 5) → a.1 ≠ 36 → I2 a = I a) ∧ (∀ a i, ¬ (a = (87, 0) ∧ 3400 ≤ i) → ¬ (a = (43, 0) ∧ (i = 61 ∨ i = 62)) → a.1 ≠ 85 → a.1 ≠ 86 → A2 a i = A a i) ∧ Kpt A A2 ∧ ∀ k, k < 27 → I2 (36, 0) k = A2 (86, 0) k
theorem LkS.rel {I A I2 A2 : IT} (h : Rel I A) (hb : LkS I A I2 A2) : Rel I2 A2 ∧ FrC I I2 ∧ FrM A A2 := h.trial hb.1 hb.2.1
theorem LkS.base {I A I2 A2 : IT} (hb : LkS I A I2 A2) : TrC I2 A2 I2 A2 := by
  have hw : ∀ r ∈ wRows, r.1 ≠ 85 ∧ r.1 ≠ 86 ∧ r.1 ≠ 87 ∧ r.1 ≠ 43 := by decide
  exact ⟨fun _ _ => rfl, fun _ _ _ _ _ => rfl, fun r hr i hi => (hb.2.2.1 r hr i hi).trans (hb.2.1 (r.1, 0) i (fun z => (hw r hr).2.2.1 (Prod.mk.inj z.1).1) (fun z => (hw r hr).2.2.2 (Prod.mk.inj z.1).1) (hw r hr).1 (hw r hr).2.1).symm⟩
theorem lk_end {I A : IT} {J B : JT} {N : Nat} (d d' : Nat) (x2 : Int32) (hN : N ≤ 3) (e4 : I (8, 0) 4 = nJ N) (m4 : A (44, 0) 4 = nJ N) (hr : ∀ k, k < 27 → I (36, 0) k = A (86, 0) k) : ∀ j w b, w + j = N → b < N → ∃ y, ev (d + 1) mPx_look 47 [vR (0, 0), vU, vI x2, vI 1, vI (nJ b), vI (mxa (I (36, 0)) b 0 9 0), vI (nJ w), vU] [] (hh I J) = some (some (vI y), hh I J) ∧ ev (d' + 1) mMo_look 89 [vR (43, 0), vU, vI x2, vU, vI (nJ b), vI (nJ w)] [] (hh A B) = some (some (vI y), hh A B) := by
  have em : ∀ w, w < N → mxa (A (86, 0)) w 0 9 0 = mxa (I (36, 0)) w 0 9 0 := fun w hw => mxa_ext (by omega) (fun k hk => (hr k hk).symm) 9 0 0 rfl
  intro j
  induction j with
  | zero =>
    intro w b hw hb
    obtain rfl : w = N := by omega
    by_cases h2 : x2 = 0
    · refine ⟨nJ b, ?_, ?_⟩
      · rw [ePx_look_47, e4, if_neg (nlt_nJ (Nat.le_refl w) (by omega)), if_pos h2]
      · rw [eMo_look_89, m4, if_neg (nlt_nJ (Nat.le_refl w) (by omega)), if_pos h2]
    · refine ⟨mxa (I (36, 0)) b 0 9 0, ?_, ?_⟩
      · rw [ePx_look_47, e4, if_neg (nlt_nJ (Nat.le_refl w) (by omega)), if_neg h2]
      · rw [eMo_look_89, m4, if_neg (nlt_nJ (Nat.le_refl w) (by omega)), if_neg h2, mMost _ (by omega), bI_some, em b hb, gI_hh, gJ_hh]
  | succ j ih =>
    intro w b hw hb
    have hwN : w < N := by omega
    have hb2 : ¬ nJ b = -2 := fun z => by
      have := nJ_nn (a := b) (by omega)
      rw [z] at this
      exact this (by decide)
    have c1 : ev (d + 1) mPx_look 47 [vR (0, 0), vU, vI x2, vI 1, vI (nJ b), vI (mxa (I (36, 0)) b 0 9 0), vI (nJ w), vU] [] (hh I J) = if mxa (I (36, 0)) w 0 9 0 < mxa (I (36, 0)) b 0 9 0 then ev (d + 1) mPx_look 47 [vR (0, 0), vU, vI x2, vI 1, vI (nJ w), vI (mxa (I (36, 0)) w 0 9 0), vI (nJ (w + 1)), vU] [] (hh I J) else ev (d + 1) mPx_look 47 [vR (0, 0), vU, vI x2, vI 1, vI (nJ b), vI (mxa (I (36, 0)) b 0 9 0), vI (nJ (w + 1)), vU] [] (hh I J) := by
      rw [ePx_look_47, e4, if_pos (lt_nJ hwN (by omega)), if_neg (show ¬ (1 : Int32) = 0 by decide), cMost _ (by omega), bI_some, if_neg hb2, nJ_succ, gI_hh, gJ_hh]
    have c2 : ev (d' + 1) mMo_look 89 [vR (43, 0), vU, vI x2, vU, vI (nJ b), vI (nJ w)] [] (hh A B) = if mxa (I (36, 0)) w 0 9 0 < mxa (I (36, 0)) b 0 9 0 then ev (d' + 1) mMo_look 89 [vR (43, 0), vU, vI x2, vU, vI (nJ w), vI (nJ (w + 1))] [] (hh A B) else ev (d' + 1) mMo_look 89 [vR (43, 0), vU, vI x2, vU, vI (nJ b), vI (nJ (w + 1))] [] (hh A B) := by
      rw [eMo_look_89, m4, if_pos (lt_nJ hwN (by omega)), mMost _ (by omega), bI_some, gI_hh, gJ_hh, mMost _ (by omega), bI_some, em b hb, em w hwN, nJ_succ, gI_hh, gJ_hh]
    by_cases hl : mxa (I (36, 0)) w 0 9 0 < mxa (I (36, 0)) b 0 9 0
    · rw [c1, c2, if_pos hl, if_pos hl]
      exact ih (w + 1) w (by omega) hwN
    · rw [c1, c2, if_neg hl, if_neg hl]
      exact ih (w + 1) b (by omega) hb
