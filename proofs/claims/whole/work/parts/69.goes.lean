/-! A DAY of all walkers: both sides -/
theorem WkR.scal {c m c' m' : FT} {T S N G : Nat} (h : WkR c m T S N G) (hc : ∀ f k, 18 ≤ f → f ≤ 23 → c' f k = c f k) (hm : ∀ f k, 51 ≤ f → f ≤ 56 → m' f k = m f k) (a1 : c' 17 0 = m' 44 5) (a2 : ∃ z, z < 64 ∧ c' 17 1 = nJ z ∧ m' 44 6 = nJ z) (a3 : ∃ z, z < 64 ∧ c' 17 2 = nJ z ∧ m' 44 7 = nJ z) (a4 : ∃ z, z < 64 ∧ c' 17 3 = nJ z ∧ m' 44 8 = nJ z)
    (a5 : ∃ z, z < 64 ∧ m' 44 9 = nJ z ∧ ∀ k, k < S → (z.testBit k = true ↔ c 23 k ≠ -1)) : WkR c' m' T S N G := by
  obtain ⟨-, -, -, -, -, h6, h7, h8⟩ := h
  refine ⟨a1, a2, a3, a4, ?_, fun w hw => ?_, fun k hk => ?_, fun k h1 h2 => ?_⟩
  · rw [show c' 23 = c 23 from funext fun k => hc 23 k (by decide) (by decide)]
    exact a5
  · rw [hc 18 w (by decide) (by decide), hc 19 w (by decide) (by decide), hc 20 w (by decide) (by decide), hc 21 w (by decide) (by decide), hm 53 w (by decide) (by decide), hm 54 w (by decide) (by decide), hm 55 w (by decide) (by decide), hm 56 w (by decide) (by decide)]
    exact h6 w hw
  · rw [hc 22 k (by decide) (by decide), hc 23 k (by decide) (by decide), hm 51 k (by decide) (by decide), hm 52 k (by decide) (by decide)]
    exact h7 k hk
  · rw [hc 22 k (by decide) (by decide)]
    exact h8 k h1 h2
/-- the rule that goes on, on both sides -/
def RlR (I A : IT) (rl : Vl) : Prop := (rl = vN ∧ A (44, 0) 12 = -1) ∨ ∃ r, r < 6 ∧ rl = vR (37, r) ∧ A (44, 0) 12 = nJ r ∧ RuR I A r
theorem RlR.fw {I A I' A' : IT} {rl : Vl} {n : Nat} (h1 : FwC I I' n) (h2 : FwM A A') (h : RlR I A rl) : RlR I' A' rl := by
  have e : A' (44, 0) 12 = A (44, 0) 12 := h2 (44, 0) 12 (nwc (Or.inr (Or.inr (Or.inr ⟨rfl, Or.inr (by decide)⟩))))
  unfold RlR
  rw [e]
  exact h.imp id fun ⟨r, a, b, c, q⟩ => ⟨r, a, b, c, FwC.ru h1 h2 q⟩
def PsQ (I A : IT) (n T S N D : Nat) : Option Vl → IT → JT → Option Vl → IT → JT → Prop := fun v I' _ v' A' _ => (∃ x, v = some (vI x) ∧ v' = some (vI x)) ∧ WkR (scC I' n) (scM A') T S N 10 ∧ I' (17, n) 0 = nJ (D + 1) ∧ FwC I I' n ∧ FwM A A'
theorem PsQ.tr {I A I' A' : IT} {n T S N D : Nat} (h1 : FwC I I' n) (h2 : FwM A A') {v v' : Option Vl} {I'' A'' : IT} {J B : JT} (h : PsQ I' A' n T S N D v I'' J v' A'' B) : PsQ I A n T S N D v I'' J v' A'' B := by
  obtain ⟨a, b, c, e, f⟩ := h
  exact ⟨a, b, c, h1.tr e, h2.tr f⟩
/-- the end of a day -/
theorem pass_end {n T S N D b0 c d : Nat} {I A : IT} {J B : JT} (hwk : WkR (scC I n) (scM A) T S N 11) (hto : ∀ v, v < N → ∃ g, g < 10 ∧ I (19, n) v = nJ g) (eD : I (17, n) 0 = nJ D) (hz : ∃ z, z < 64 ∧ I (17, n) 1 = nJ z ∧ pop8 z = b0 + c) (hb : b0 < 100) (hcc : c < 100) :
    R2 (bI (ev d mIn_bitCount 0 [vI ((up2 I (17, n) 0 ((I (17, n) 0) + 1)) (17, n) 1)] [] (hh (up2 I (17, n) 0 ((I (17, n) 0) + 1)) J)) (fun r5 h5 => some (some (vI (r5 - nJ b0)), hh (gI h5) (gJ h5)))) (some (some (vI (nJ c)), hh (up2 A (44, 0) 5 ((A (44, 0) 5) + 1)) B)) (PsQ I A n T S N D) := by
  obtain ⟨z, hz, ez, hp⟩ := hz
  obtain ⟨h1, h2, h3, h4, h5, -⟩ := id hwk
  have h1 : I (17, n) 0 = A (44, 0) 5 := h1
  rw [up_neK _ _ (by decide), ez, cBits _ _ (by omega), bI_some, hp, nJ_sub (by omega), Nat.add_sub_cancel_left, gI_hh, gJ_hh, ← h1, eD, nJ_succ]
  refine R2.ret ⟨⟨_, rfl, rfl⟩, ?_, up_same _ _ _ _, FwC.up (by decide), fun a k a1 => ?_⟩
  · refine (WkR.scal (hwk.G (G' := 10) hto) (fun f k f1 f2 => ?_) (fun f k f1 f2 => ?_) ?_ ?_ ?_ ?_ ?_)
    · rw [scC_up (by omega), if_neg (by omega)]
    · rw [scM_up (by omega), if_neg (by omega)]
    · rw [scC_up (by omega), if_pos ⟨rfl, rfl⟩, scM_up (by omega), if_pos ⟨rfl, rfl⟩]
    · rw [scC_up (by omega), if_neg (by omega), scM_up (by omega), if_neg (by omega)]; exact h2
    · rw [scC_up (by omega), if_neg (by omega), scM_up (by omega), if_neg (by omega)]; exact h3
    · rw [scC_up (by omega), if_neg (by omega), scM_up (by omega), if_neg (by omega)]; exact h4
    · rw [scM_up (by omega), if_neg (by omega)]; exact h5
  · exact if_neg fun q => a1 (Or.inl ⟨q.1, by omega, by omega⟩)
theorem pass_go (d d' n T S N D : Nat) (rl : Vl) (hD : D < 2000) (b0 : Nat) (hb : b0 < 100) : ∀ (j w c : Nat) (I A : IT) (J B : JT), w + j = N → RoR (scC I 0) (scM A) T S N → WkR (scC I n) (scM A) T S N 11 → (∀ v, v < w → ∃ g, g < 10 ∧ I (19, n) v = nJ g) → I (17, n) 0 = nJ D → RlR I A rl → (∃ z, z < 64 ∧ I (17, n) 1 = nJ z ∧ pop8 z = b0 + c) → c ≤ 6 * w →
    R2 (ev (d + 4) mWa_pass 6 [vR (17, n), vR (8, 0), rl, vI (nJ b0), vI (nJ w)] [] (hh I J)) (ev (d' + 6) mMo_goes 4 [vR (43, 0), vI (nJ c), vI (nJ w)] [] (hh A B)) (PsQ I A n T S N D) := by
  intro j
  induction j with
  | zero =>
    intro w c I A J B hj hro hwk hto eD hrl hz hc
    obtain rfl : w = N := by omega
    obtain ⟨⟨-, -, hN, -⟩, ⟨-, -, -, -, -, e4, m4⟩, -⟩ := id hro
    have e4 : I (8, 0) 4 = nJ w := e4
    have m4 : A (44, 0) 4 = nJ w := m4
    rw [eMo_goes_4, m4, if_neg (nlt_nJ (Nat.le_refl w) (by omega))]
    rcases hrl with ⟨rfl, -⟩ | ⟨r, -, rfl, -⟩
    · rw [eWa_pass_N_6, e4, if_neg (nlt_nJ (Nat.le_refl w) (by omega))]
      exact pass_end hwk hto eD hz hb (by omega)
    · rw [eWa_pass_R_6, e4, if_neg (nlt_nJ (Nat.le_refl w) (by omega))]
      exact pass_end hwk hto eD hz hb (by omega)
  | succ j ih =>
    intro w c I A J B hj hro hwk hto eD hrl hz hc
    obtain ⟨⟨hT, -, hN, -⟩, ⟨-, -, m1, -, -, e4, m4⟩, -⟩ := id hro
    have e4 : I (8, 0) 4 = nJ N := e4
    have m4 : A (44, 0) 4 = nJ N := m4
    have m1 : A (44, 0) 1 = nJ T := m1
    have hw : w < N := by omega
    have hw3 : w < 3 := by omega
    obtain ⟨⟨-, u, hu, eu⟩, ⟨mg, g, hg, cg⟩, -⟩ := hwk.2.2.2.2.2.1 w hw
    have cg : I (19, n) w = nJ g := cg
    have mg : A (54, 0) w = nJ g := (show I (19, n) w = A (54, 0) w from mg).symm.trans cg
    have eu : I (18, n) w = nJ u := eu
    -- behind this walker's day the others'
    have hK : ∀ (I1 A1 : IT), FwC I I1 n → FwM A A1 → (∀ v, v ≠ w → I1 (19, n) v = I (19, n) v) → I1 (17, n) 1 = I (17, n) 1 → ∀ I' A' J' B' c', Stq I1 A1 I' A' n w c c' T S N D → R2 (ev (d + 4) mWa_pass 6 [vR (17, n), vR (8, 0), rl, vI (nJ b0), vI (nJ (w + 1))] [] (hh I' J')) (ev (d' + 6) mMo_goes 4 [vR (43, 0), vI (nJ c'), vI (nJ (w + 1))] [] (hh A' B')) (PsQ I A n T S N D) := by
      intro I1 A1 f1 f2 t1 s1 I' A' J' B' c' hs
      obtain ⟨a1, a2, a3, a4, a5, a6, a7, a8⟩ := hs.tr f1 f2 t1 s1
      obtain ⟨z, hz1, ez, hp⟩ := hz
      obtain ⟨z', hz', ez', hp'⟩ := a7 z hz1 ez
      refine (ih (w + 1) c' I' A' J' B' (by omega) (FwC.ro a5 a6 hro) a1 (fun v hv => ?_) a4 (RlR.fw a5 a6 hrl) ⟨z', hz', ez', by omega⟩ (by omega)).mono fun v I'' J'' v' A'' B'' h => PsQ.tr a5 a6 h
      by_cases e : v = w
      · rw [e]; exact a2
      · rw [a3 v e]; exact hto v (by omega)
    have hself := hK I A (FwC.rf I n) (FwM.rf A) (fun _ _ => rfl) rfl
    rw [eMo_goes_4, m4, if_pos (lt_nJ hw (by omega))]
    simp only [bnd hw3 (show 3 ≤ 100000 by decide), bnk hw3 (show 3 ≤ 100000 by decide), nJ_nat (show w < 2147483648 by omega), mg, nJ_succ, gI_hh, gJ_hh]
    by_cases hg0 : g = 0
    · subst hg0
      rw [if_pos (show nJ 0 = 0 from rfl)]
      rcases hrl with ⟨rfl, hf⟩ | ⟨r, hr6, rfl, hf, hru⟩
      · rw [eWa_pass_N_6, e4, if_pos (lt_nJ hw (by omega))]
        simp only [bnd hw3 (show 3 ≤ 100000 by decide), bnk hw3 (show 3 ≤ 100000 by decide), nJ_nat (show w < 2147483648 by omega), nJ_succ, gI_hh, gJ_hh]
        rw [if_pos (show I (19, n) w = 0 from cg)]
        refine R2.rV ((mOutN (d' + 4) w T A B hT m1 hf).mono fun v A1 B1 ⟨q1, q2⟩ => ⟨q1, ?_⟩)
        subst q2
        exact tail_R2 (d' := d' + 4) (K := fun h => ev (d + 4) mWa_pass 6 [vR (17, n), vR (8, 0), vN, vI (nJ b0), vI (nJ (w + 1))] [] h) (K' := fun c h => ev (d' + 6) mMo_goes 4 [vR (43, 0), vI c, vI (nJ (w + 1))] [] h) hro hwk hw eD hD hself
      · rw [eWa_pass_R_6, e4, if_pos (lt_nJ hw (by omega))]
        simp only [bnd hw3 (show 3 ≤ 100000 by decide), bnk hw3 (show 3 ≤ 100000 by decide), nJ_nat (show w < 2147483648 by omega), nJ_succ, gI_hh, gJ_hh]
        rw [if_pos (show I (19, n) w = 0 from cg)]
        obtain ⟨z, hz1, ez, -⟩ := hz
        obtain ⟨o1, g', hg', eg'⟩ := out_rel r n w z D S T N 11 u I A (by decide) hro hwk hw hu eu cg
        refine R2.lV ((cOut d r n w z D S T N u I A J hru hro hw hu eu hz1 ez eD).mono fun v I1 J1 ⟨q1, q2⟩ => ⟨q1, ?_⟩)
        refine R2.rV ((mOut d' r n w z D S T N 11 u I A B hr6 hru hf hro hwk hw hu eu hz1 ez eD hD).mono fun v A1 B1 ⟨q3, q4⟩ => ⟨q3, ?_⟩)
        rw [← q2, ← q4] at o1
        have f1 : FwC I I1 n := by
          rw [q2]
          exact (FwC.up (by decide)).tr (FwC.up (by decide))
        have f2 : FwM A A1 := by
          rw [q4]
          split
          · exact FwM.rf A
          · exact (FwM.upw (by decide) hw3).tr (FwM.upw (by decide) hw3)
        have t1 : ∀ v, v ≠ w → I1 (19, n) v = I (19, n) v := fun v hv => by
          rw [q2, up_ne _ _ _ _ (fun q => by cases q), up_neK _ _ hv]
        have s1 : I1 (17, n) 1 = I (17, n) 1 := by
          rw [q2, up_ne _ _ _ _ (fun q => by cases q), up_ne _ _ _ _ (fun q => by cases q)]
        have eD1 : I1 (17, n) 0 = nJ D := by
          rw [q2, up_ne _ _ _ _ (fun q => by cases q), up_ne _ _ _ _ (fun q => by cases q)]
          exact eD
        exact tail_R2 (d' := d' + 4) (K := fun h => ev (d + 4) mWa_pass 6 [vR (17, n), vR (8, 0), vR (37, r), vI (nJ b0), vI (nJ (w + 1))] [] h) (K' := fun c h => ev (d' + 6) mMo_goes 4 [vR (43, 0), vI c, vI (nJ (w + 1))] [] h) (FwC.ro f1 f2 hro) o1 hw eD1 hD (hK I1 A1 f1 f2 t1 s1)
    · rw [if_neg (ne_nL (b := 0) hg0 (by omega) (by decide))]
      have ht := tail_R2 (d := d + 3) (d' := d' + 4) (J := J) (B := B) (K := fun h => ev (d + 4) mWa_pass 6 [vR (17, n), vR (8, 0), rl, vI (nJ b0), vI (nJ (w + 1))] [] h) (K' := fun c h => ev (d' + 6) mMo_goes 4 [vR (43, 0), vI c, vI (nJ (w + 1))] [] h) hro hwk hw eD hD hself
      unfold tailM at ht
      rw [mg] at ht
      rcases hrl with ⟨rfl, hf⟩ | ⟨r, hr6, rfl, hf, hru⟩
      · rw [eWa_pass_N_6, e4, if_pos (lt_nJ hw (by omega))]
        simp only [bnd hw3 (show 3 ≤ 100000 by decide), bnk hw3 (show 3 ≤ 100000 by decide), nJ_nat (show w < 2147483648 by omega), nJ_succ, gI_hh, gJ_hh]
        rw [if_neg (show ¬ I (19, n) w = 0 by rw [cg]; exact ne_nL (b := 0) hg0 (by omega) (by decide))]
        exact ht
      · rw [eWa_pass_R_6, e4, if_pos (lt_nJ hw (by omega))]
        simp only [bnd hw3 (show 3 ≤ 100000 by decide), bnk hw3 (show 3 ≤ 100000 by decide), nJ_nat (show w < 2147483648 by omega), nJ_succ, gI_hh, gJ_hh]
        rw [if_neg (show ¬ I (19, n) w = 0 by rw [cg]; exact ne_nL (b := 0) hg0 (by omega) (by decide))]
        exact ht
theorem pass_goes (d d' n T S N D : Nat) (rl : Vl) (I A : IT) (J B : JT) (hD : D < 2000) (hro : RoR (scC I 0) (scM A) T S N) (hwk : WkR (scC I n) (scM A) T S N 11) (eD : I (17, n) 0 = nJ D) (hrl : RlR I A rl) :
    R2 (ev (d + 4) mWa_pass 0 [vR (17, n), vR (8, 0), rl, vU, vU] [] (hh I J)) (ev (d' + 6) mMo_goes 0 [vR (43, 0), vU, vU] [] (hh A B)) (PsQ I A n T S N D) := by
  obtain ⟨-, ⟨z, hz, ez, -⟩, -⟩ := id hwk
  have ez : I (17, n) 1 = nJ z := ez
  have hp : pop8 z ≤ 8 := by unfold pop8; omega
  have := pass_go d d' n T S N D rl hD (pop8 z) (by omega) N 0 0 I A J B (by omega) hro hwk (fun v hv => absurd hv (Nat.not_lt_zero v)) eD hrl ⟨z, hz, ez, rfl⟩ (by omega)
  rw [eMo_goes_0]
  rcases hrl with ⟨rfl, -⟩ | ⟨r, -, rfl, -⟩
  · rw [eWa_pass_N_0, ez, cBits _ _ (by omega), bI_some]
    exact this
  · rw [eWa_pass_R_0, ez, cBits _ _ (by omega), bI_some]
    exact this
