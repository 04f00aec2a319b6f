/-- what is owed of a test -/
def TsO (J B : JT) (by_ : Nat → Nat) (n tk r d' dl h m : Nat) (I A : IT) (i sz sz0 pc0 a : Nat) (o o' : Option Rs) : Prop := ∃ I', o = some (none, hh I' J) ∧ FrL r I I' ∧ ((∃ f A', f ≠ 0 ∧ f < 100000 ∧ FlC I' by_ n tk r f 63 ∧ o' = some (none, hh A' B) ∧ FrP r A A' ∧ FlE A' by_ n f) ∨ ∃ A' i' sz' pc', o' = teK (d' + 1) A' B ∧ FrP r A A' ∧ RlS I' A' by_ n tk i' (tpk by_ n i') r sz' sz' pc' ∧ (A' (43, 0) 34 = nJ m ∧ A' (43, 0) 32 = nJ dl) ∧ (∀ k, k < m → A' (75, 0) k = A (75, 0) k) ∧ i ≤ i' ∧ SgR (I' (38, r)) a sz' h ZO ∧ (∀ j, j < sz → I' (38, r) j = I (38, r) j) ∧ 3 * sz' + 3 + 3 * dl + 14 * pc0 ≤ 14 * pc' + 3 * sz0 ∧ sz ≤ sz')
theorem ts_go {J B : JT} {by_ : Nat → Nat} {n tk r : Nat} (d d' dl hf : Nat) (hdl : dl ≤ 10) (hF : FcP J B by_ n tk r d d' dl hf) : ∀ N (I A : IT) (i sz pc x4 a mm sz0 pc0 m o : Nat), tk - i = N → RlS I A by_ n tk i (tpk by_ n i) r sz sz pc → x4 < i → o ≤ 1 → m ≤ 3 * dl → A (43, 0) 34 = nJ (m + o) → A (43, 0) 32 = nJ dl → (o = 1 → A (75, 0) m = 11) → (∀ k, m = k + 1 → A (75, 0) k = 12) → sgO (I (38, r)) o a mm sz hf → 3 * sz + 3 + 3 * dl + 3 * o + 14 * pc0 ≤ 14 * pc + 3 * sz0 → 3 * sz0 ≤ 14 * pc0 → TsO J B by_ n tk r d' dl (hf + 2) m I A i sz sz0 pc0 a (ev (d + 1) mRu_readTest 8 [vR (37, r), vR (1, 0), vI (nJ dl), vI (nJ o), vI (nJ x4), vU] [] (hh I J)) (tsK (d' + 1) (anF by_ n (tpk by_ n i)) (orF by_ n (tpk by_ n i)) A B) := by
  intro N
  induction N using Nat.strongRecOn with
  | ind N ih =>
    intro I A i sz pc x4 a mm sz0 pc0 m o hN h hx ho hm h34 h32 k11 ktop hsg hbd hb0
    have h0 := h
    obtain ⟨⟨t1, t2, t3, t4, t5, t6, t7, t8, t9, t10⟩, hr, ⟨c1, c2, c3, c4, c5, c6⟩, ⟨b1, b2, b3⟩, hcd⟩ := h
    have t5 : I (1, 0) 7 = 0 := t5
    have t7 : A (43, 0) 28 = 0 := t7
    have htk := (t1.at t3).1
    have hat := (t1.at t3).2.2.1
    by_cases ha : std by_ n (tpk by_ n i) (nthD txL 19 []) = true
    · -- and
      have hrun := std_run (txL_pos 19 (by decide)) ha
      have hen : enk by_ n (tpk by_ n i) = tpk by_ n i + 3 := hrun.2.2
      have hle := enk_le (by_ := by_) hrun.1
      have hi : i < tk := by
        by_cases e : i = tk
        · have := hat.mpr e
          omega
        · omega
      have hno : ¬ std by_ n (tpk by_ n i) (nthD txL 20 []) = true := fun z => ao_ne ha z
      have hTS : tsK (d' + 1) (anF by_ n (tpk by_ n i)) (orF by_ n (tpk by_ n i)) A B = ev (d' + 2) mMo_test 7 [vR (43, 0), vI 1, vI 1, vU, vU] [] (hh (spp (opnF A (m + o) 10) (tpk by_ n i + 3)) B) := by
        unfold tsK anF orF
        rw [if_pos ha, if_neg hno, if_neg (show ¬ (1 : Int32) = 0 by decide), m42_and (d' + 1), mOpen2 d' 10 (Or.inl rfl) h34 (by omega), bV_some, gI_hh, gJ_hh, opnF_o (by decide) (fun z => absurd z.2 (by decide)), t6, show nJ (tpk by_ n i) + 3 = nJ (tpk by_ n i + 3) from nJ_add _ 3]
        rfl
      have hS1 := (h0.opn (m := m + o) (x := 10)).skip (q := tpk by_ n i + 3) hi (by omega) (by rw [← hen]; rfl)
      have e75 : ∀ k, spp (opnF A (m + o) 10) (tpk by_ n i + 3) (75, 0) k = if k = m + o then 10 else A (75, 0) k := fun k => (up_ne _ _ _ _ (by decide)).trans opnF_75
      have hfx0 : FrL r I (up2 I (1, 0) 6 (nJ (i + 1))) := FrL.x FrX.u6
      have hfy0 : FrP r A (spp (opnF A (m + o) 10) (tpk by_ n i + 3)) := opnF_fr.tr (FrN.q FrN.u27)
      have hcod0 : ∀ j, up2 I (1, 0) 6 (nJ (i + 1)) (38, r) j = I (38, r) j := fun j => up_ne _ _ _ _ (fun z => by have := (Prod.mk.inj z).1; omega)
      have hC := c8_and (J := J) (r := r) d x4 (nJ dl) t1 t3 t4 t5 (by omega) ha ho
      rw [cSkip d t5 t4 t1.2.1 hi htk, bV_some, gI_hh, gJ_hh] at hC
      obtain ⟨I2, f1, f2, f3⟩ := hF _ _ (i + 1) (tpk by_ n i + 3) sz pc (m + o + 1) hS1 (by omega) (by omega) ((up_neK _ _ (by decide)).trans opnF_34) ((up_neK _ _ (by decide)).trans ((opnF_o (by decide) (fun z => absurd z.2 (by decide))).trans h32))
      rw [f1, bV_some, gI_hh, gJ_hh] at hC
      rw [hTS, hC]
      rcases f3 with ⟨f, A2, g1, g2, g3, g4, g5, g6⟩ | ⟨A2, i2, p2, sz2, ez2, pc2, v, g1, g2, g3, ⟨g4, g4', g5⟩, g6, ⟨g7, g8⟩, g9, g10, g11, g12, g13, g14⟩
      · obtain ⟨I3, q1, q2, q3⟩ := g3.put (J := J) d 14
        obtain ⟨I4, y1, y2, y3⟩ := c8F (J := J) d (nJ dl) (nJ o) (nJ (x4 + 1)) g1 g2 q1
        rw [q3, bV_some, gI_hh, gJ_hh]
        exact ⟨I4, y1, ((hfx0.tr f2).tr q2).tr y2, Or.inl ⟨f, A2, g1, g2, y3, g4, hfy0.tr g5, g6⟩⟩
      · have hsz2 := g3.2.2.2.1
        rw [cPut d 14 g3.2.2.1.1 (by omega), bV_some, gI_hh, gJ_hh, g1]
        have hP := g3.put1 (x := 14) (by omega)
        obtain ⟨A3, s1, s2, s3, s4, s5, s6⟩ := ts_head (B := B) (m := m + o) (w := 1) (v := v) (dl := dl) d' hP (by decide) (by omega) (fun j j1 j2 => by rw [putF_c, if_neg (by omega)]; exact g6 j j1 (by omega)) (fun _ => by rw [putF_c, if_pos (by omega)]) (by omega) g7 g8 g10 (fun _ => by rw [g9 _ (by omega), e75, if_pos rfl]) (fun k hk => by
          rw [g9 k (by omega), e75, if_neg (by omega)]
          by_cases e : o = 1
          · rw [show k = m by omega, k11 e]
            decide
          · rw [ktop k (by omega)]
            decide)
        have kc : ∀ j, j < sz → putF I2 r sz2 14 (38, r) j = I (38, r) j := fun j hj => by rw [putF_c, if_neg (by omega), g12 j hj, hcod0]
        have k75 : ∀ k, k < m + o → A3 (75, 0) k = A (75, 0) k := fun k hk => by rw [s5, g9 k (by omega), e75, if_neg (by omega)]
        obtain ⟨I5, y1, y2, y3⟩ := ih (tk - i2) (by omega) (putF I2 r sz2 14) A3 i2 (sz2 + 1) pc2 (x4 + 1) a mm sz0 pc0 m o rfl s2 (by omega) ho hm s3 s4 (fun e => by rw [k75 m (by omega)]; exact k11 e) (fun k hk => by rw [k75 k (by omega)]; exact ktop k hk) ((hsg.ext (fun j hj => (kc j hj).symm)).and (g11.ext (fun j _ hj => by rw [putF_c, if_neg (by omega)])) (by rw [putF_c, if_pos rfl])) (by omega) hb0
        rw [s1]
        refine ⟨I5, y1, ((hfx0.tr f2).tr putF_fr).tr y2, ?_⟩
        rcases y3 with ⟨f, A4, z1, z2, z3, z4, z5, z6⟩ | ⟨A4, i4, sz4, pc4, z1, z2, z3, z4, z5, z6, z7, z8, z9, z10⟩
        · exact Or.inl ⟨f, A4, z1, z2, z3, z4, ((hfy0.tr g2).tr s6).tr z5, z6⟩
        · exact Or.inr ⟨A4, i4, sz4, pc4, z1, ((hfy0.tr g2).tr s6).tr z2, z3, z4, fun k hk => by rw [z5 k hk, k75 k (by omega)], by omega, z7, fun j hj => by rw [z8 j (by omega), kc j hj], z9, by omega⟩
    · obtain ⟨I1, A1, r1, r2, r3, r4, r5, r6, r7, r8, r9, r10⟩ := ts_or (J := J) (B := B) d d' h0 ho (by omega) (by omega) h34 h32 k11 ktop
      have r3' := r3
      obtain ⟨⟨s1, s2, s3, s4, s5, s6, s7, s8, s9, s10⟩, -, ⟨e1, e2, e3, e4, e5, e6⟩, ⟨w1, w2, w3⟩, -⟩ := r3'
      have s5 : I1 (1, 0) 7 = 0 := s5
      have hfin : SgR (I1 (38, r)) a (sz + o) (hf + 2) ZO := (hsg.ext (fun j hj => (r9 j hj).symm)).fin r10
      by_cases hor : std by_ n (tpk by_ n i) (nthD txL 20 []) = true
      · -- or
        have hrun := std_run (txL_pos 20 (by decide)) hor
        have hen : enk by_ n (tpk by_ n i) = tpk by_ n i + 2 := hrun.2.2
        have hle := enk_le (by_ := by_) hrun.1
        have hi : i < tk := by
          by_cases e : i = tk
          · have := hat.mpr e
            omega
          · omega
        have hTS : tsK (d' + 1) (anF by_ n (tpk by_ n i)) (orF by_ n (tpk by_ n i)) A B = ev (d' + 2) mMo_test 7 [vR (43, 0), vI 1, vI 1, vU, vU] [] (hh (spp (opnF A1 m 11) (tpk by_ n i + 2)) B) := by
          unfold tsK anF orF
          rw [if_neg ha, if_pos hor, if_pos rfl, if_neg (show ¬ (1 : Int32) = 0 by decide), m42_or (d' + 1), r2, bV_some, gI_hh, gJ_hh, mOpen2 d' 11 (Or.inr rfl) r4 (by omega), bV_some, gI_hh, gJ_hh, opnF_o (by decide) (fun z => absurd z.2 (by decide)), s6, show nJ (tpk by_ n i) + 2 = nJ (tpk by_ n i + 2) from nJ_add _ 2]
          rfl
        have hS1 := (r3.opn (m := m) (x := 11)).skip (q := tpk by_ n i + 2) hi (by omega) (by rw [← hen]; rfl)
        have e75 : ∀ k, spp (opnF A1 m 11) (tpk by_ n i + 2) (75, 0) k = if k = m then 11 else A (75, 0) k := fun k => ((up_ne _ _ _ _ (by decide)).trans opnF_75).trans (by rw [r6])
        have hfx0 : FrL r I (up2 I1 (1, 0) 6 (nJ (i + 1))) := r7.tr (FrL.x FrX.u6)
        have hfy0 : FrP r A (spp (opnF A1 m 11) (tpk by_ n i + 2)) := r8.tr (opnF_fr.tr (FrN.q FrN.u27))
        have hcod0 : ∀ j, up2 I1 (1, 0) 6 (nJ (i + 1)) (38, r) j = I1 (38, r) j := fun j => up_ne _ _ _ _ (fun z => by have := (Prod.mk.inj z).1; omega)
        have hC := c8_or (J := J) (r := r) d x4 (nJ dl) t1 t3 t4 t5 (by omega) hor r1
        rw [cSkip d s5 s4 s1.2.1 hi htk, bV_some, gI_hh, gJ_hh] at hC
        obtain ⟨I2, f1, f2, f3⟩ := hF _ _ (i + 1) (tpk by_ n i + 2) (sz + o) pc (m + 1) hS1 (by omega) (by omega) ((up_neK _ _ (by decide)).trans opnF_34) ((up_neK _ _ (by decide)).trans ((opnF_o (by decide) (fun z => absurd z.2 (by decide))).trans r5))
        rw [f1, bV_some, gI_hh, gJ_hh] at hC
        rw [hTS, hC]
        rcases f3 with ⟨f, A2, g1, g2, g3, g4, g5, g6⟩ | ⟨A2, i2, p2, sz2, ez2, pc2, v, g1, g2, g3, ⟨g4, g4', g5⟩, g6, ⟨g7, g8⟩, g9, g10, g11, g12, g13, g14⟩
        · obtain ⟨I4, y1, y2, y3⟩ := c8F (J := J) d (nJ dl) (nJ 1) (nJ (x4 + 1)) g1 g2 g3
          exact ⟨I4, y1, (hfx0.tr f2).tr y2, Or.inl ⟨f, A2, g1, g2, y3, g4, hfy0.tr g5, g6⟩⟩
        · have hsz2 := g3.2.2.2.1
          rw [g1]
          obtain ⟨A3, s1, s2, s3, s4, s5, s6⟩ := ts_head (B := B) (m := m + 1) (w := 0) (v := v) (dl := dl) d' g3 (by decide) (by omega) (fun j j1 j2 => g6 j j1 (by omega)) (fun z => absurd z (by decide)) (by omega) g7 g8 g10 (fun z => absurd z (by decide)) (fun k hk => by
            rw [g9 k (by omega), e75, if_pos (by omega)]
            decide)
          have kc : ∀ j, j < sz → I2 (38, r) j = I (38, r) j := fun j hj => by rw [g12 j (by omega), hcod0, r9 j hj]
          have k75 : ∀ k, k < m → A3 (75, 0) k = A (75, 0) k := fun k hk => by rw [s5, g9 k (by omega), e75, if_neg (by omega)]
          obtain ⟨I5, y1, y2, y3⟩ := ih (tk - i2) (by omega) I2 A3 i2 sz2 pc2 (x4 + 1) a (sz + o) sz0 pc0 m 1 rfl s2 (by omega) (by decide) hm s3 s4 (fun e => by rw [s5, g9 m (by omega), e75, if_pos rfl]) (fun k hk => by rw [k75 k (by omega)]; exact ktop k hk) (Or.inr ⟨rfl, hfin.ext (fun j _ hj => by rw [g12 j hj, hcod0]), g11.mono (by omega) (fun _ z => z)⟩) (by omega) hb0
          rw [s1]
          refine ⟨I5, y1, (hfx0.tr f2).tr y2, ?_⟩
          rcases y3 with ⟨f, A4, z1, z2, z3, z4, z5, z6⟩ | ⟨A4, i4, sz4, pc4, z1, z2, z3, z4, z5, z6, z7, z8, z9, z10⟩
          · exact Or.inl ⟨f, A4, z1, z2, z3, z4, ((hfy0.tr g2).tr s6).tr z5, z6⟩
          · exact Or.inr ⟨A4, i4, sz4, pc4, z1, ((hfy0.tr g2).tr s6).tr z2, z3, z4, fun k hk => by rw [z5 k hk, k75 k (by omega)], by omega, z7, fun j hj => by rw [z8 j (by omega), kc j hj], z9, by omega⟩
      · -- the end
        have hC := c8_none (J := J) (r := r) d x4 (nJ dl) (nJ o) t1 t3 t4 t5 (by omega) ha hor
        refine ⟨I1, ?_, r7, Or.inr ⟨A1, i, sz + o, pc, ?_, r8, r3, ⟨r4, r5⟩, fun k _ => r6 k, Nat.le_refl i, hfin, r9, by omega, by omega⟩⟩
        · rw [hC]
          rcases r1 with ⟨rfl, rfl⟩ | ⟨rfl, hp⟩
          · rw [if_pos (show nJ 0 = 0 from rfl)]
          · rw [if_neg (show ¬ nJ 1 = 0 by decide), hp, bV_some, gI_hh, gJ_hh]
        · unfold tsK anF orF
          rw [if_neg ha, if_neg hor, if_pos rfl, if_pos rfl, r2, bV_some, gI_hh, gJ_hh]
