/-- a fault at a token, on both sides -/
theorem rl_fault {I A : IT} {J B : JT} {by_ : Nat → Nat} {n tk i p r sz ez pc : Nat} (d d' k K : Nat) (h : RlS I A by_ n tk i p r sz ez pc) (hk : k < 8) {A1 : IT} (h1 : FrY A A1) {q : Nat} (h27 : A1 (43, 0) 27 = nJ q) (hq : q ≤ n) (h28 : A1 (43, 0) 28 = 0) (hK : pc ≤ K) : ∃ I' A', ev d mTe_fail 0 [vR (1, 0), vI (nJ k)] [] (hh I J) = some (none, hh I' J) ∧ ev d' mMo_fails 0 [vR (43, 0), vI (nJ k), vI (nJ (tpk by_ n i))] [] (hh A1 B) = some (none, hh A' B) ∧ FrX I I' ∧ FrY A A' ∧ (1 + 8 * tpk by_ n i + k ≠ 0 ∧ 1 + 8 * tpk by_ n i + k < 100000) ∧ FlC I' by_ n tk r (1 + 8 * tpk by_ n i + k) K ∧ FlM A' by_ n (1 + 8 * tpk by_ n i + k) K := by
  obtain ⟨⟨t1, t2, t3, t4, t5, t6, t7, t8, t9, t10⟩, hr, ⟨c1, c2, c3, c4, c5, c6⟩, ⟨b1, b2, b3⟩, hcd⟩ := h
  have t5 : I (1, 0) 7 = 0 := t5
  have hl := (t1.at t3).2.1
  have hn := t2.1
  refine ⟨_, _, cFail0 d k t1 t3 t4 t5, mFails0 d' (tpk by_ n i) k h28, FrX.u7, h1.tr FrY.u28, ⟨by omega, by omega⟩, ⟨i, sz, pc, FrX.u7.tks t1, t3, (up_neK _ _ (by decide)).trans t4, up_same _ _ _ _, ?_, by omega, ?_, hK⟩, ⟨q, pc, FrY.u28.bt (h1.bt t2), (up_neK _ _ (by decide)).trans h27, hq, up_same _ _ _ _, ?_, hK, ?_⟩⟩
  · rw [up_ne _ _ _ _ (fun z => by have := (Prod.mk.inj z).1; omega)]; exact c1
  · rw [up_ne _ _ _ _ (fun z => by have := (Prod.mk.inj z).1; omega)]; exact c2
  · rw [up_neK _ _ (by decide), h1 (43, 0) 33 (by decide)]; exact c5
  · rw [up_neK _ _ (by decide), h1 (43, 0) 35 (by decide)]; exact c6
theorem FlM.up {A : IT} {by_ : Nat → Nat} {n f K pc : Nat} (h : FlM A by_ n f K) (hp : pc ≤ K + 1) : FlM (up2 A (43, 0) 33 (nJ pc)) by_ n f (K + 1) := by
  obtain ⟨p, pc0, h1, h2, h3, h4, h5, h6, h7⟩ := h
  exact ⟨p, pc, ⟨h1.1, (up_neK _ _ (by decide)).trans h1.2.1, fun k hk => ⟨(h1.2.2 k hk).1, (up_ne _ _ _ _ (by decide)).trans (h1.2.2 k hk).2⟩⟩, (up_neK _ _ (by decide)).trans h2, h3, (up_neK _ _ (by decide)).trans h4, up_same _ _ _ _, hp, (up_neK _ _ (by decide)).trans h7⟩
theorem FlM.p {A : IT} {by_ : Nat → Nat} {n f K q : Nat} (h : FlM A by_ n f K) (hq : q ≤ n) : FlM (up2 A (43, 0) 27 (nJ q)) by_ n f K := by
  obtain ⟨p, pc0, h1, h2, h3, h4, h5, h6, h7⟩ := h
  exact ⟨q, pc0, ⟨h1.1, (up_neK _ _ (by decide)).trans h1.2.1, fun k hk => ⟨(h1.2.2 k hk).1, (up_ne _ _ _ _ (by decide)).trans (h1.2.2 k hk).2⟩⟩, up_same _ _ _ _, hq, (up_neK _ _ (by decide)).trans h4, (up_neK _ _ (by decide)).trans h5, h6, (up_neK _ _ (by decide)).trans h7⟩
theorem FrN.u33 {r : Nat} {A : IT} {x : Int32} : FrN r A (up2 A (43, 0) 33 x) := fun a k z _ _ => by rw [up_at, if_neg (fun w => z ⟨w.1, by omega⟩)]
theorem FrN.u27 {r : Nat} {A : IT} {x : Int32} : FrN r A (up2 A (43, 0) 27 x) := fun a k z _ _ => by rw [up_at, if_neg (fun w => z ⟨w.1, by omega⟩)]
/-- a value -/
theorem tk_val {I A : IT} {J B : JT} {by_ : Nat → Nat} {n tk i p r sz pc : Nat} (d d' : Nat) (h : RlS I A by_ n tk i p r sz sz pc) (hsz : sz < 290) : RlO r 61 0 I A J B by_ n tk (ev (d + 1) mRu_readValue 0 [vR (37, r), vR (1, 0), vU, vU] [] (hh I J)) (ev (d' + 5) mMo_value 0 [vR (43, 0), vU, vU] [] (hh A B)) (fun I' A' => ∃ q x, RlS I' A' by_ n tk (i + 1) q r (sz + 1) (sz + 1) (pc + 1) ∧ i < tk ∧ pc < 60 ∧ (x < 11 ∨ 1000 ≤ x) ∧ (∀ j, I' (38, r) j = if j = sz then x else I (38, r) j)) := by
  have h0 := h
  obtain ⟨⟨t1, t2, t3, t4, t5, t6, t7, t8, t9, t10⟩, hr, ⟨c1, c2, c3, c4, c5, c6⟩, ⟨b1, b2, b3⟩, hcd⟩ := h
  have t5 : I (1, 0) 7 = 0 := t5
  have t7 : A (43, 0) 28 = 0 := t7
  have hs := t10 rfl
  have hn := t2.1
  have hat := t1.at t3
  have hl := hat.2.1
  have htk := hat.1
  have e5 := t1.2.1
  have t1' : TkS (up2 I (37, r) 5 (nJ (pc + 1))) by_ n 1 tk := (show FrL r I (up2 I (37, r) 5 (nJ (pc + 1))) from fun a k h1 _ _ => by rw [up_at, if_neg (fun z => h1 ⟨z.1, Or.inr z.2⟩)]).tks t1
  have e6' : up2 I (37, r) 5 (nJ (pc + 1)) (1, 0) 6 = nJ i := (up_ne _ _ _ _ (fun z => by have := (Prod.mk.inj z).1; omega)).trans t4
  have e1' : up2 I (37, r) 5 (nJ (pc + 1)) (37, r) 1 = nJ sz := (up_neK _ _ (by decide)).trans c1
  have y0 : FrY A (spp A (tpk by_ n i)) := FrY.u27
  have m27 : spp A (tpk by_ n i) (43, 0) 27 = nJ (tpk by_ n i) := spp_27 _ _
  have m28 : spp A (tpk by_ n i) (43, 0) 28 = 0 := by rw [spp_28]; exact t7
  have m33 : spp A (tpk by_ n i) (43, 0) 33 = nJ pc := (up_neK _ _ (by decide)).trans c5
  have m35 : spp A (tpk by_ n i) (43, 0) 35 = 11 := (up_neK _ _ (by decide)).trans c6
  have m29 : spp A (tpk by_ n i) (43, 0) 29 = nJ r := (up_neK _ _ (by decide)).trans c3
  have m31 : spp A (tpk by_ n i) (43, 0) 31 = nJ sz := (up_neK _ _ (by decide)).trans c4
  have kp : ∀ x : Int32, ev d mRu_put 0 [vR (37, r), vI x] [] (hh (up2 I (37, r) 5 (nJ (pc + 1))) J) = some (none, hh (putF (up2 I (37, r) 5 (nJ (pc + 1))) r sz x) J) := fun x => cPut d x e1' (by omega)
  have ks : ∀ x : Int32, i < tk → ev d mTe_skip 0 [vR (1, 0)] [] (hh (putF (up2 I (37, r) 5 (nJ (pc + 1))) r sz x) J) = some (none, hh (up2 (putF (up2 I (37, r) 5 (nJ (pc + 1))) r sz x) (1, 0) 6 (nJ (i + 1))) J) := fun x hi => cSkip d (by
      rw [putF_o (fun z => by have := (Prod.mk.inj z.1).1; omega) (fun z => by have := (Prod.mk.inj z).1; omega), up_ne _ _ _ _ (fun z => by have := (Prod.mk.inj z).1; omega)]; exact t5) (by
      rw [putF_o (fun z => by have := (Prod.mk.inj z.1).1; omega) (fun z => by have := (Prod.mk.inj z).1; omega)]; exact e6') (by
      rw [putF_o (fun z => by have := (Prod.mk.inj z.1).1; omega) (fun z => by have := (Prod.mk.inj z).1; omega), up_ne _ _ _ _ (fun z => by have := (Prod.mk.inj z).1; omega)]; exact e5) hi htk
  have frc : ∀ x : Int32, FrL r I (up2 (putF (up2 I (37, r) 5 (nJ (pc + 1))) r sz x) (1, 0) 6 (nJ (i + 1))) := fun x a k h1 h2 h3 => by
    rw [up_at, if_neg (fun z => h3 ⟨z.1, Or.inl z.2⟩), putF_fr a k h1 h2 h3, up_at, if_neg (fun z => h1 ⟨z.1, Or.inr z.2⟩)]
  have cod : ∀ (x : Int32) j, up2 (putF (up2 I (37, r) 5 (nJ (pc + 1))) r sz x) (1, 0) 6 (nJ (i + 1)) (38, r) j = if j = sz then x else I (38, r) j := fun x j => by
    rw [up_ne _ _ _ _ (fun z => by have := (Prod.mk.inj z).1; omega), putF_c, up_ne _ _ _ _ (fun z => by have := (Prod.mk.inj z).1; omega)]
  -- faults: kind k at the token, the reference at A1, with or without counting
  have flt : ∀ k, k < 8 → ∀ A1 q, FrY A A1 → A1 (43, 0) 27 = nJ q → q ≤ n → A1 (43, 0) 28 = 0 → ∃ I' A', ev d mTe_fail 0 [vR (1, 0), vI (nJ k)] [] (hh I J) = some (none, hh I' J) ∧ ev (d' + 3) mMo_fails 0 [vR (43, 0), vI (nJ k), vI (nJ (tpk by_ n i))] [] (hh A1 B) = some (none, hh A' B) ∧ FrX I I' ∧ FrY A A' ∧ (1 + 8 * tpk by_ n i + k ≠ 0 ∧ 1 + 8 * tpk by_ n i + k < 100000) ∧ FlC I' by_ n tk r (1 + 8 * tpk by_ n i + k) 60 ∧ FlM A' by_ n (1 + 8 * tpk by_ n i + k) 60 := fun k hk A1 q q1 q2 q3 q4 => rl_fault d (d' + 3) k 60 h0 hk q1 q2 q3 q4 b3
  rw [eRu_readValue_0, cWordHere d t1 t3 t4, bI_some, gI_hh, gJ_hh, cNumHere d t1 t3 t4, bI_some, gI_hh, gJ_hh, cIsNum d t1 t3 t4, bI_some]
  simp only [gI_hh, gJ_hh]
  rw [cIsNum d t1 t3 t4, bI_some, eMo_value_0, mBlanks (d' + 3) t2 _ p rfl (by omega) t6, bV_some, hs]
  simp only [gI_hh, gJ_hh]
  rw [mDigit (d' + 3) (spp_bt t2) m27 (by omega), bI_some, bif2, c2, m27]
  by_cases hk : i < tk ∧ kB (by_ (tpk by_ n i)) = 2
  · have hlt : tpk by_ n i < n := (t1.2.2.2.1 i hk.1).1
    have hg := enk_gt (by_ := by_) (n := n) (p := tpk by_ n i)
    have hle := enk_le (by_ := by_) hlt
    have hkm : tpk by_ n i < n ∧ kB (by_ (tpk by_ n i)) = 2 := ⟨hlt, hk.2⟩
    simp only [if_pos hk, if_neg (show ¬ (1 : Int32) = 0 by decide)]
    rw [if_pos hkm]
    simp only [if_neg (show ¬ (1 : Int32) = 0 by decide), gI_hh, gJ_hh]
    rw [mDigits (A := spp A (tpk by_ n i)) (by_ := by_) (n := n) (d' + 1) (spp_bt t2) m27 m28 hlt hk.2, bI_some]
    simp only [gI_hh, gJ_hh]
    by_cases h5 : 5 < enk by_ n (tpk by_ n i) - tpk by_ n i
    · have hnv : nvF by_ n (tpk by_ n i) = -1 := if_pos h5
      rw [if_pos hnv, if_pos h5]
      have hd28 : up2 (spp (spp A (tpk by_ n i)) (enk by_ n (tpk by_ n i))) (43, 0) 28 (nJ (1 + 8 * tpk by_ n i + 1)) (43, 0) 28 = nJ (1 + 8 * tpk by_ n i + 1) := up_same _ _ _ _
      have hd28' : ¬ up2 (spp (spp A (tpk by_ n i)) (enk by_ n (tpk by_ n i))) (43, 0) 28 (nJ (1 + 8 * tpk by_ n i + 1)) (43, 0) 28 = 0 := by
        rw [hd28]
        exact ne_nL (b := 0) (by omega) (by omega) (by decide)
      have hd33 : up2 (spp (spp A (tpk by_ n i)) (enk by_ n (tpk by_ n i))) (43, 0) 28 (nJ (1 + 8 * tpk by_ n i + 1)) (43, 0) 33 = nJ pc := by
        rw [up_neK _ _ (by decide), spp_spp]
        exact (up_neK _ _ (by decide)).trans c5
      rw [mCnt (d' + 3) hd33 (by omega), if_neg (show ¬ (pc = 60 ∧ up2 (spp (spp A (tpk by_ n i)) (enk by_ n (tpk by_ n i))) (43, 0) 28 (nJ (1 + 8 * tpk by_ n i + 1)) (43, 0) 28 = 0) from fun z => hd28' z.2), bV_some]
      simp only [gI_hh, gJ_hh]
      obtain ⟨I', A', q1, -, q3, -, q5, q6, -⟩ := flt 1 (by decide) (spp A (tpk by_ n i)) _ y0 m27 hl m28
      rw [mEntryN (d' + 4) _ _ (by rw [up_neK _ _ (by decide)]; exact hd28'), bV_some, show ev d mTe_fail 0 [vR (1, 0), vI 1] [] (hh I J) = _ from q1, bV_some]
      refine ⟨I', _, rfl, rfl, FrL.x q3, ?_, Or.inl ⟨_, q5.1, q5.2, q6.K (by decide), ?_⟩⟩
      · exact (FrN.y ((FrY.u27.tr FrY.u27).tr FrY.u28)).tr FrN.u33
      · have : FlM (up2 (spp (spp A (tpk by_ n i)) (enk by_ n (tpk by_ n i))) (43, 0) 28 (nJ (1 + 8 * tpk by_ n i + 1))) by_ n (1 + 8 * tpk by_ n i + 1) 60 := ⟨enk by_ n (tpk by_ n i), pc, FrY.u28.bt (spp_bt (spp_bt t2)), (up_neK _ _ (by decide)).trans (spp_27 _ _), hle, hd28, hd33, b3, by rw [up_neK _ _ (by decide), spp_spp]; exact (up_neK _ _ (by decide)).trans c6⟩
        exact this.up (by omega)
    · have hbd := nvF_bd (n := n) hk.2 h5
      have hnv : nvF by_ n (tpk by_ n i) = nJ (nmF by_ (tpk by_ n i) (enk by_ n (tpk by_ n i) - tpk by_ n i)) := if_neg h5
      have hs33 : spp (spp A (tpk by_ n i)) (enk by_ n (tpk by_ n i)) (43, 0) 33 = nJ pc := by
        rw [spp_spp]
        exact (up_neK _ _ (by decide)).trans c5
      have hs28 : spp (spp A (tpk by_ n i)) (enk by_ n (tpk by_ n i)) (43, 0) 28 = 0 := by
        rw [spp_spp, spp_28]
        exact t7
      rw [if_neg (show ¬ nvF by_ n (tpk by_ n i) = -1 by rw [hnv]; exact nJ_nm1 (by omega)), if_neg h5, Nat.min_eq_left (show enk by_ n (tpk by_ n i) - tpk by_ n i ≤ 5 by omega), mCnt (d' + 3) hs33 (by omega), bV_some]
      simp only [gI_hh, gJ_hh]
      by_cases h60 : pc = 60
      · obtain ⟨I', A', q1, q2, q3, q4, q5, q6, q7⟩ := flt 3 (by decide) (spp (spp A (tpk by_ n i)) (enk by_ n (tpk by_ n i))) _ (FrY.u27.tr FrY.u27) (spp_27 _ _) hle hs28
        have hA' : A' = up2 (spp (spp A (tpk by_ n i)) (enk by_ n (tpk by_ n i))) (43, 0) 28 (nJ (1 + 8 * tpk by_ n i + 3)) := by
          have := mFails0 (B := B) (d' + 3) (tpk by_ n i) 3 hs28
          rw [this] at q2
          exact (hh_inj q2).2.symm
        rw [if_neg (nlt_nL (b := 60) (by omega) (by omega)), if_pos ⟨h60, hs28⟩, show ev d mTe_fail 0 [vR (1, 0), vI 3] [] (hh I J) = _ from q1, bV_some, ← hA', mEntryN (d' + 4) _ _ (by
          rw [up_neK _ _ (by decide)]
          exact q7.n0 q5.1 q5.2), bV_some]
        refine ⟨I', _, rfl, rfl, FrL.x q3, ?_, Or.inl ⟨_, q5.1, q5.2, q6.K (by decide), q7.up (by omega)⟩⟩
        exact (FrN.y q4).tr FrN.u33
      · rw [if_pos (lt_nL (b := 60) (by omega) (by decide)), if_neg (fun z => h60 z.1), nJ_succ, cIsNum d t1' t3 e6', bI_some]
        simp only [if_pos hk, if_neg (show ¬ (1 : Int32) = 0 by decide), gI_hh, gJ_hh]
        rw [kp, bV_some, gI_hh, gJ_hh, ks _ hk.1, bV_some, mEntry (r := r) (ez := sz) (d' + 4) 0 _ (by rw [up_neK _ _ (by decide)]; exact hs28) (by rw [up_neK _ _ (by decide), spp_spp]; exact (up_neK _ _ (by decide)).trans c3) (by rw [up_neK _ _ (by decide), spp_spp]; exact (up_neK _ _ (by decide)).trans c4) hr (by omega), bV_some, hnv, show (1000 : Int32) + nJ (nmF by_ (tpk by_ n i) (enk by_ n (tpk by_ n i) - tpk by_ n i)) = nJ (1000 + nmF by_ (tpk by_ n i) (enk by_ n (tpk by_ n i) - tpk by_ n i)) from nJ_add 1000 _, spp_spp]
        have hR := h0.val (q := enk by_ n (tpk by_ n i)) (x := nJ (1000 + nmF by_ (tpk by_ n i) (enk by_ n (tpk by_ n i) - tpk by_ n i))) (s := 0) (v := nJ (nmF by_ (tpk by_ n i) (enk by_ n (tpk by_ n i) - tpk by_ n i))) hk.1 hle rfl (Or.inl ⟨rfl, _, hbd, rfl, rfl⟩) hsz (by omega)
        refine ⟨_, _, rfl, rfl, frc _, ?_, Or.inr ⟨_, _, hR, hk.1, by omega, Or.inr ?_, cod _⟩⟩
        · intro a k z1 z2 z3
          rw [gI_hh, entF_fr (by omega) a k z1 z2 z3, up_at, if_neg (fun w => z1 ⟨w.1, by omega⟩)]
          unfold spp
          rw [up_at, if_neg (fun w => z1 ⟨w.1, by omega⟩)]
        · show nJ 1000 ≤ _
          rw [nJ_le (by decide) (by omega)]
          omega
  · have hkm : ¬ (tpk by_ n i < n ∧ kB (by_ (tpk by_ n i)) = 2) := fun z => hk ⟨by
      by_cases e : i = tk
      · have := hat.2.2.1.mpr e
        omega
      · omega, z.2⟩
    simp only [if_neg hk]
    rw [if_neg hkm, if_pos rfl, show wlK 1 = wlU from rfl]
    simp only [gI_hh, gJ_hh, if_true]
    have hv22 := vl_go (A := spp A (tpk by_ n i)) (B := B) (s := tpk by_ n i) (d' + 3) (spp_bt t2) m27 hl m35 m33 (by omega) wl11 0 rfl (fun j hj => by rw [Nat.zero_add]; exact wl11_at j hj)
    rcases hv22 with ⟨v1, v2⟩ | ⟨k, v1, v2, v3, v4, v5⟩
    · -- no value
      have v2 : ev (d' + 5) mMo_value 22 [vR (43, 0), vI (nJ (tpk by_ n i)), vI 0] [] (hh (spp A (tpk by_ n i)) B) = _ := v2
      obtain ⟨I', A', q1, q2, q3, q4, q5, q6, q7⟩ := rl_fault (J := J) (B := B) d (d' + 4) 0 60 h0 (by decide) y0 m27 hl m28 b3
      rw [v2, show ev (d' + 4) mMo_fails 0 [vR (43, 0), vI 0, vI (nJ (tpk by_ n i))] [] (hh (spp A (tpk by_ n i)) B) = _ from q2, bV_some]
      have hw : wfd (std by_ n (tpk by_ n i)) wlU 0 = wfd (std by_ n (tpk by_ n i)) wl5 11 := by
        rw [wlU_app]
        exact wfd_app wl11 wl5 0 v1
      have fin : ∀ o, o = bV (ev d mTe_fail 0 [vR (1, 0), vI 0] [] (hh I J)) (fun h4 => some (none, hh (gI h4) (gJ h4))) → RlO r 61 0 I A J B by_ n tk o (some (none, hh (gI (hh A' B)) (gJ (hh A' B)))) (fun I' A' => ∃ q x, RlS I' A' by_ n tk (i + 1) q r (sz + 1) (sz + 1) (pc + 1) ∧ i < tk ∧ pc < 60 ∧ (x < 11 ∨ 1000 ≤ x) ∧ (∀ j, I' (38, r) j = if j = sz then x else I (38, r) j)) := fun o ho => by
        rw [ho, show ev d mTe_fail 0 [vR (1, 0), vI 0] [] (hh I J) = _ from q1, bV_some]
        exact ⟨I', A', rfl, rfl, FrL.x q3, FrN.y q4, Or.inl ⟨_, q5.1, q5.2, q6.K (by decide), q7.K (by decide)⟩⟩
      refine fin _ ?_
      rw [hw]
      rcases wfd_ge (f := std by_ n (tpk by_ n i)) wl5 11 with e | ⟨j, j1, j2, j3⟩
      · rw [e, if_pos rfl]
      · have j2 : j < 16 := j2
        rw [j3, if_neg (nJ_nm1 (by omega)), if_neg (nlt_nL (b := 11) (by omega) (by omega))]
    · -- a word
      have v5 : ev (d' + 5) mMo_value 22 [vR (43, 0), vI (nJ (tpk by_ n i)), vI 0] [] (hh (spp A (tpk by_ n i)) B) = _ := v5
      have hw : wfd (std by_ n (tpk by_ n i)) wlU 0 = nJ k := by
        rw [wlU_app, wfd_found wl11 wl5 0 v3]
        exact v2
      obtain ⟨u1, u2⟩ := txU_ok k v1
      have hlt := std_run (txL_pos (txU k) u2) v4
      have hlen := (txL_small (txU k) u2).1
      have hle := enk_le (by_ := by_) hlt.1
      have hi : i < tk := by
        by_cases e : i = tk
        · have := hat.2.2.1.mpr e
          omega
        · omega
      rw [v5, hw, if_neg (nJ_nm1 (by omega)), if_pos (lt_nL (b := 11) v1 (by decide))]
      unfold vlF
      rw [mCnt (d' + 3) m33 (by omega), bV_some]
      simp only [gI_hh, gJ_hh]
      by_cases h60 : pc = 60
      · obtain ⟨I', A', q1, q2, q3, q4, q5, q6, q7⟩ := flt 3 (by decide) (spp A (tpk by_ n i)) _ y0 m27 hl m28
        have hA' : A' = up2 (spp A (tpk by_ n i)) (43, 0) 28 (nJ (1 + 8 * tpk by_ n i + 3)) := by
          have := mFails0 (B := B) (d' + 3) (tpk by_ n i) 3 m28
          rw [this] at q2
          exact (hh_inj q2).2.symm
        rw [if_neg (nlt_nL (b := 60) (by omega) (by omega)), if_pos (show pc = 60 ∧ spp A (tpk by_ n i) (43, 0) 28 = 0 from ⟨h60, m28⟩), show ev d mTe_fail 0 [vR (1, 0), vI 3] [] (hh I J) = _ from q1, bV_some, ← hA', mEntryN (d' + 4) _ _ (by
          rw [up_neK _ _ (by decide), up_neK _ _ (by decide)]
          exact q7.n0 q5.1 q5.2), bV_some]
        have hA27 : A' (43, 0) 27 = nJ (tpk by_ n i) := by
          rw [hA', up_neK _ _ (by decide)]
          exact m27
        have hv27 : up2 A' (43, 0) 33 (nJ (pc + 1)) (43, 0) 27 + nJ (nthD txL (txU k) []).length = nJ (enk by_ n (tpk by_ n i)) := by
          rw [up_neK _ _ (by decide), hA27, nJ_add, hlt.2.2]
        rw [hv27]
        exact ⟨I', _, rfl, rfl, FrL.x q3, ((FrN.y q4).tr FrN.u33).tr FrN.u27, Or.inl ⟨_, q5.1, q5.2, q6.K (by decide), (q7.up (by omega)).p hle⟩⟩
      · rw [if_pos (lt_nL (b := 60) (by omega) (by decide)), if_neg (show ¬ (pc = 60 ∧ spp A (tpk by_ n i) (43, 0) 28 = 0) from fun z => h60 z.1), nJ_succ, cIsNum d t1' t3 e6', bI_some]
        simp only [if_neg hk, gI_hh, gJ_hh]
        have hsp : up2 (up2 (spp A (tpk by_ n i)) (43, 0) 33 (nJ (pc + 1))) (43, 0) 27 (up2 (spp A (tpk by_ n i)) (43, 0) 33 (nJ (pc + 1)) (43, 0) 27 + nJ (nthD txL (txU k) []).length) = up2 (spp A (enk by_ n (tpk by_ n i))) (43, 0) 33 (nJ (pc + 1)) := by
          rw [up_neK _ _ (by decide), m27, nJ_add, hlt.2.2, up2_comm (by decide)]
          congr 1
          exact spp_spp A _ _
        rw [if_pos trivial, kp, bV_some, gI_hh, gJ_hh, ks _ hi, bV_some, hsp, mEntry (r := r) (ez := sz) (d' + 4) 1 _ (by rw [up_neK _ _ (by decide), spp_28]; exact t7) (by rw [up_neK _ _ (by decide)]; exact (up_neK _ _ (by decide)).trans c3) (by rw [up_neK _ _ (by decide)]; exact (up_neK _ _ (by decide)).trans c4) hr (by omega), bV_some]
        have hR := h0.val (q := enk by_ n (tpk by_ n i)) (x := nJ k) (s := 1) (v := nJ k) hi hle rfl (Or.inr (Or.inl ⟨rfl, k, v1, rfl, rfl⟩)) hsz (by omega)
        refine ⟨_, _, rfl, rfl, frc _, ?_, Or.inr ⟨_, _, hR, hi, by omega, Or.inl (lt_nL (b := 11) v1 (by decide)), cod _⟩⟩
        intro a k z1 z2 z3
        rw [gI_hh, entF_fr (by omega) a k z1 z2 z3, up_at, if_neg (fun w => z1 ⟨w.1, by omega⟩)]
        unfold spp
        rw [up_at, if_neg (fun w => z1 ⟨w.1, by omega⟩)]
