theorem w_le_L {R : RD} {S : Nat} (h : R.Ok S) : ∀ s, s < 64 → ∀ k, k < S → R.w k ≤ Lw R s k := by
  have h6 := h.s6
  intro s
  induction s using Nat.strongRecOn with
  | ind s ih =>
    intro hs k hk
    have hw := h.w k hk
    by_cases hc : s.testBit k = true ∧ s &&& R.can = s
    · have hX := Xd_or h hk hs hc.2 6 (Nat.le_refl 6)
      rw [← Xd_fl h hk hs hc.1 hc.2]
      refine Nat.le_trans ?_ (h.fl_ge hk (show Xd R s k 6 ≤ 1000000 by omega))
      refine le_mnF 6 ?_ fun i hi => ?_
      · split <;> omega
      · split
        · rename_i hb
          have hb' := hb
          rw [rst_bit s hs k (by omega) i hi, Bool.and_eq_true] at hb'
          have hiS := h.canS i (sub_iff.mp hc.2 i hb'.1)
          have := ih (rst s k) (rst_lt s hs k (by omega) hc.1) (by have := rst_lt s hs k (by omega) hc.1; omega) i hiS
          have := h.t1 i k hiS hk
          omega
        · omega
    · rw [Lw_no R hc]
      omega
theorem hw_le_H {R : RD} {S : Nat} (h : R.Ok S) {s : Nat} (hs : s < 64) : R.hw ≤ Hm R s S := by
  have hw := h.hw
  refine le_mnF S ?_ fun k hk => ?_
  · split <;> omega
  · have := w_le_L h s hs k hk
    have := h.t4 k hk
    split <;> omega
theorem H_zero {R : RD} {S : Nat} (h : R.Ok S) (n : Nat) : Hm R 0 n = R.hw := by
  have hw := h.hw
  refine Nat.le_antisymm ?_ (le_mnF n (by rw [if_pos rfl]; exact Nat.le_refl _) fun k _ => ?_)
  · have := mnF_le (g := fun k => if (0 : Nat).testBit k = true then min 1000000 (Lw R 0 k + R.ho k) else 1000000) (b := if (0 : Nat) = 0 then R.hw else 1000000) n
    rw [if_pos rfl] at this
    unfold Hm
    rw [if_pos rfl]
    exact this
  · rw [if_neg (by rw [Nat.zero_testBit]; decide)]
    omega
theorem bsR_some {H F : Nat → Nat} (h0 : H 0 < 1000000) : ∀ s, 1 ≤ s → ∃ b, bsR H F s = some b
  | 0, h => by omega
  | s + 1, _ => by
    unfold bsR
    by_cases e : s = 0
    · subst e
      rw [if_pos h0]
      exact ⟨0, rfl⟩
    · obtain ⟨b, hb⟩ := bsR_some h0 s (by omega)
      rw [hb]
      by_cases h1 : H s < 1000000
      · rw [if_pos h1]
        unfold bsS
        by_cases h2 : F b < F s ∨ (F s = F b ∧ H s < H b)
        · exact ⟨s, if_pos h2⟩
        · exact ⟨b, if_neg h2⟩
      · exact ⟨b, if_neg h1⟩
theorem bsR_none {H F : Nat → Nat} : ∀ s, (∀ t, t < s → ¬ H t < 1000000) → bsR H F s = none
  | 0, _ => rfl
  | s + 1, h => by
    unfold bsR
    rw [if_neg (h s (by omega)), bsR_none s (fun t ht => h t (by omega))]
theorem bsR_pad {H F : Nat → Nat} {m : Nat} : ∀ n, (∀ t, m ≤ t → t < m + n → ¬ H t < 1000000) → bsR H F (m + n) = bsR H F m
  | 0, _ => rfl
  | n + 1, h => by
    show (if H (m + n) < 1000000 then _ else bsR H F (m + n)) = _
    rw [if_neg (h (m + n) (by omega) (by omega)), bsR_pad n (fun t h1 h2 => h t h1 (by omega))]
theorem sub_pos32 {a b : Nat} (ha : a < 1000) (hb : b < 1000) : ((0 : Int32) < nJ a - nJ b) = (b < a) := by
  rw [i_lt, i_sub (by rw [nJ_int (by omega), nJ_int (by omega)]; omega), nJ_int (show a < 2147483648 by omega), nJ_int (show b < 2147483648 by omega)]
  have : (0 : Int32).toInt = 0 := rfl
  apply propext
  omega
theorem sub_zero32 {a b : Nat} (ha : a < 1000) (hb : b < 1000) : (nJ a - nJ b = 0) = (a = b) := by
  rw [i_eq, i_sub (by rw [nJ_int (by omega), nJ_int (by omega)]; omega), nJ_int (show a < 2147483648 by omega), nJ_int (show b < 2147483648 by omega)]
  have : (0 : Int32).toInt = 0 := rfl
  apply propext
  omega
theorem shl6 : ∀ w, w < 3 → nJ w <<< ((6 : Int32) &&& 31) = nJ (64 * w) := by decide
theorem mround_go {A : IT} {B : JT} {w : Nat} {H F : Nat → Nat} (d : Nat) (x2 : Int32) (hw3 : w < 3) (hFe : ∀ s, s < 64 → ev (d + 1) mMo_feesOf 0 [vR (43, 0), vI (nJ s), vU, vU] [] (hh A B) = some (some (vI (nJ (F s))), hh A B)) (hF : ∀ s, F s ≤ 600) (hHo : ∀ s, H s = 1000000 ∨ H s < 3000) (hz : ∀ s, s < 64 → H s < 1000000 → H 0 < 1000000) (hH : ∀ t, t < 64 → A (81, 0) (64 * w + t) = nJ (dm (H t))) : ∀ j s, s + j = 64 → 1 ≤ s → ev (d + 2) mMo_round 31 [vR (43, 0), vU, vI x2, vI (nJ (64 * w)), vI (nJ ((bsR H F s).getD 0)), vI (nJ s), vU] [] (hh A B) = ev (d + 2) mMo_round 31 [vR (43, 0), vU, vI x2, vI (nJ (64 * w)), vI (nJ ((bsR H F 64).getD 0)), vI (nJ 64), vU] [] (hh A B) := by
  intro j
  induction j with
  | zero =>
    intro s hs _
    obtain rfl : s = 64 := by omega
    rfl
  | succ j ih =>
    intro s hs h1
    have hi := ih (s + 1) (by omega) (by omega)
    have hFs := hF s
    have hb64 : (bsR H F s).getD 0 < 64 := by
      cases e : bsR H F s with
      | none => exact (show (0 : Nat) < 64 by decide)
      | some b =>
        have := (bsR_lt s b e).1
        show b < 64
        omega
    have hHs := hHo s
    have hu : bsR H F (s + 1) = if H s < 1000000 then bsS H F s (bsR H F s) else bsR H F s := rfl
    rw [← hi, eMo_round_31, if_pos (lt_nL (b := 64) (show s < 64 by omega) (by decide)), hFe s (by omega), bI_some, gI_hh, gJ_hh, hFe _ hb64, bI_some, gI_hh, gJ_hh, nJ_add, nJ_add, nJ_succ, bnd (show 64 * w + s < 192 by omega) (by omega), bnd (show 64 * w + s < 192 by omega) (by omega), bnd (show 64 * w + (bsR H F s).getD 0 < 192 by omega) (by omega), nJ_nat (show 64 * w + s < 2147483648 by omega), nJ_nat (show 64 * w + (bsR H F s).getD 0 < 2147483648 by omega), hH s (by omega), hH _ hb64, hu]
    by_cases h2 : H s < 1000000
    · obtain ⟨b, hb⟩ := bsR_some (F := F) (hz s (by omega) h2) s h1
      have hFb := hF b
      have hHb2 := (bsR_lt s b hb).2
      have hHb := hHo b
      have hsub1 := sub_pos32 (a := F s) (b := F b) (by omega) (by omega)
      have hsub2 := sub_zero32 (a := F s) (b := F b) (by omega) (by omega)
      have e1 : dm (H s) = H s := if_neg (by omega)
      have e2 : dm (H b) = H b := if_neg (by omega)
      rw [if_pos h2, hb, Option.getD_some, e1, e2, if_pos (lt_nL (b := 10000) (show H s < 10000 by omega) (by decide)), show bsS H F s (some b) = if F b < F s ∨ (F s = F b ∧ H s < H b) then some s else some b from rfl]
      by_cases q1 : F b < F s
      · rw [if_pos (Eq.mpr hsub1 q1), if_pos (Or.inl q1)]
        rfl
      · rw [if_neg (fun z => q1 (Eq.mp hsub1 z))]
        by_cases q2 : F s = F b
        · rw [if_pos (Eq.mpr hsub2 q2)]
          by_cases q3 : H s < H b
          · rw [if_pos (lt_nJ q3 (by omega)), if_pos (Or.inr ⟨q2, q3⟩)]
            rfl
          · rw [if_neg (nlt_nJ (by omega) (by omega)), if_neg (fun z => z.elim q1 (fun z => q3 z.2))]
            rfl
        · rw [if_neg (fun z => q2 (Eq.mp hsub2 z)), if_neg (fun z => z.elim q1 (fun z => q2 z.1))]
          rfl
    · have e1 : dm (H s) = 10000 := if_pos (by omega)
      rw [if_neg h2, e1, if_neg (show ¬ nJ 10000 < 10000 by decide)]
theorem mTownW {A : IT} {B : JT} (d w : Nat) (hw : w < 3) : ev d mMo_townOf 0 [vR (43, 0), vI (nJ w)] [] (hh A B) = some (some (vI (if A (54, 0) w = 0 then A (53, 0) w else -1)), hh A B) := by
  rw [eMo_townOf_0, bnd hw (by omega), bnd hw (by omega), nJ_nat (by omega)]
  split <;> rfl
/-- heaps that differ in the rounds alone -/
theorem Rel.rounds {I A I' A' : IT} (h : Rel I A) (hI : ∀ a : Ad, (a.1 < 29 ∨ 35 < a.1) → I' a = I a) (hA : ∀ a : Ad, (a.1 < 80 ∨ 84 < a.1) → A' a = A a) : Rel I' A' := by
  refine Rel_ext (fun a k ha => ?_) (fun a k ha => ?_) h
  · refine congrFun (hI a ?_) k
    rcases ha with ⟨ha, -⟩ | ⟨ha, -⟩ | ha | ha | ha
    · rw [ha]; decide
    · rw [ha]; decide
    · rw [ha]; decide
    · omega
    · omega
  · refine congrFun (hA a ?_) k
    rcases ha with ⟨ha, -⟩ | ha | ha | ha | ha | ha | ha
    · rw [ha]; decide
    · omega
    · omega
    · omega
    · omega
    · omega
    · omega
theorem t_round {I A : IT} {J B : JT} (d : Nat) (x t : Int32) (h : Rel I A) : Cal (ev (d + 4) mPx_round 0 [vR (0, 0), vI x, vI t, vU] [] (hh I J)) (ev (d + 4) mMo_round 0 [vR (43, 0), vI x, vI t, vU, vU, vU, vU] [] (hh A B)) I A := by
  obtain ⟨q, T, S, N, hru, hro, hwk, hd, et, hff, hp⟩ := ScR.parts h
  have hS : S ≤ 6 := hro.1.2.1
  have hN : N ≤ 3 := hro.1.2.2.1
  have hT := hro.1.1
  have e3 : I (8, 0) 3 = nJ S := hro.2.1.2.2.2.1
  have m3 : A (44, 0) 3 = nJ S := hro.2.1.2.2.2.2.1
  have e4 : I (8, 0) 4 = nJ N := hro.2.1.2.2.2.2.2.1
  have m4 : A (44, 0) 4 = nJ N := hro.2.1.2.2.2.2.2.2
  rw [ePx_round_0, eMo_round_0, cWalk _ _ e4, mWalk _ _ m4 (by omega), bI_some, bI_some, bif2, bif2, gI_hh, gJ_hh, gI_hh, gJ_hh]
  by_cases hx : inn x N
  · rw [if_pos hx, if_pos hx]
    obtain ⟨w, hw, rfl⟩ := inn_ex (by omega) hx
    obtain ⟨⟨w1, u, hu, w2⟩, ⟨w3, g, hg, w4⟩, -⟩ := hwk.2.2.2.2.2.1 w hw
    have w1 : I (18, 0) w = A (53, 0) w := w1
    have w2 : I (18, 0) w = nJ u := w2
    have w3 : I (19, 0) w = A (54, 0) w := w3
    rw [bnd (show w < 3 by omega) (by omega), nJ_nat (show w < 2147483648 by omega), mTownW _ _ (by omega), bI_some, gI_hh, gJ_hh, mIn _ t 0 2 0 2 rfl rfl, bI_some, bif2, gI_hh, gJ_hh, w3]
    by_cases h0 : A (54, 0) w = 0
    · rw [if_pos h0, if_pos h0, ← w1, if_neg (show ¬ I (18, 0) w = -1 by rw [w2]; exact nJ_nm1 (by omega))]
      by_cases t0 : t < 0
      · rw [if_pos t0, if_neg (fun z => z.1 t0)]
        exact Cal.ro rfl rfl h
      by_cases t1 : (2 : Int32) < t
      · rw [if_neg t0, if_pos t1, if_neg (fun z => z.2 t1)]
        exact Cal.ro rfl rfl h
      rw [if_neg t0, if_neg t1, if_pos (And.intro t0 t1)]
      obtain ⟨hR, hc, hcm, ⟨z1, z2, y1, y2, l1, l2⟩, hcan⟩ := rdF_ok hro hwk hd hw
      obtain ⟨v, I', J', ev1, rfl, rfl, hfr, hH⟩ := cPlan (I := I) (J := J) (d + 1) hR hc z1 z2 l1 l2 rfl
      obtain ⟨A', hml, ev2⟩ := mLays (A := A) (B := B) (d + 2) hR hcm
      have hfee : ∀ k, k < S → I (15, 0) k = nJ (tn (I (15, 0) k)) ∧ tn (I (15, 0) k) < 100 ∧ A (50, 0) k = nJ (tn (I (15, 0) k)) := fun k hk => by
        obtain ⟨-, -, a1, g, hg, a2⟩ := hro.2.2.2.2.1 k hk
        have a1 : I (15, 0) k = A (50, 0) k := a1
        have a2 : I (15, 0) k = nJ g := a2
        obtain ⟨q1, q2⟩ := tn_of a2 hg (by omega)
        exact ⟨q2, q1, a1.symm.trans q2⟩
      have f8 : I' (8, 0) = I (8, 0) := hfr _ (by decide) (by decide)
      have f15 : I' (15, 0) = I (15, 0) := hfr _ (by decide) (by decide)
      have g44 : A' (44, 0) = A (44, 0) := hml.1 _ (by decide) (by decide)
      have g50 : A' (50, 0) = A (50, 0) := hml.1 _ (by decide) (by decide)
      have hH' : ∀ t, t < 64 → I' (31, 0) t = nJ (Hm (rdF I S w) t S) ∧ Hm (rdF I S w) t S ≤ 1000000 := fun t ht => ⟨hH t ht, hR.H_le t S⟩
      have hM' : ∀ t, t < 64 → A' (81, 0) (64 * w + t) = nJ (dm (Hm (rdF I S w) t S)) := fun t ht => by
        rw [hml.2.2.1 t ht ht, hR.H_pad]
      have e3' : I' (8, 0) 3 = nJ S := by rw [f8]; exact e3
      have hfeeC : ∀ k, k < S → I' (15, 0) k = nJ (tn (I (15, 0) k)) ∧ tn (I (15, 0) k) < 100 := fun k hk => ⟨by rw [f15]; exact (hfee k hk).1, (hfee k hk).2.1⟩
      have hfeeM : ∀ k, k < S → A' (50, 0) k = nJ (tn (I (15, 0) k)) ∧ tn (I (15, 0) k) < 100 := fun k hk => ⟨by rw [g50]; exact (hfee k hk).2.2, (hfee k hk).2.1⟩
      have b1 := best_go (I := I') (J := J') (fee := fun k => tn (I (15, 0) k)) (H := fun t => Hm (rdF I S w) t S) (d + 2) hS e3' hfeeC hH'
      have m3' : A' (44, 0) 3 = nJ S := by rw [g44]; exact m3
      have b2 := mround_go (A := A') (B := B) (w := w) (H := fun t => Hm (rdF I S w) t S) (F := fun s => fsF (fun k => tn (I (15, 0) k)) s S) (d + 2) t (by omega) (fun s hs => mFees (d + 2) hS m3' (fun k hk => (hfeeM k hk).1) hs) (fun s => by
        have := fsF_le (fee := fun k => tn (I (15, 0) k)) (s := s) S (fun k hk => (hfeeM k hk).2)
        show fsF (fun k => tn (I (15, 0) k)) s S ≤ 600
        omega) (fun s => hR.H_or s S (Nat.le_refl S)) (fun s hs hlt => by
        have := hw_le_H hR hs
        show Hm (rdF I S w) 0 S < 1000000
        rw [H_zero hR]
        have hlt : Hm (rdF I S w) s S < 1000000 := hlt
        omega) hM' 63 1 rfl (Nat.le_refl 1)
      have hrel : Rel I' A' := Rel.rounds h (fun a ha => hfr a (fun z => by rw [z] at ha; omega) (fun z => by rw [z] at ha; omega)) (fun a ha => hml.1 a (fun z => by rw [z] at ha; omega) (fun z => by rw [z] at ha; omega))
      have hfc : FrC I I' := fun a ha => hfr a (fun z => by rw [z] at ha; omega) (fun z => by rw [z] at ha; omega)
      have hfm : FrM A A' := fun a ha => hml.1 a (fun z => by rw [z] at ha; omega) (fun z => by rw [z] at ha; omega)
      have hinit : (bsR (fun t => Hm (rdF I S w) t S) (fun s => fsF (fun k => tn (I (15, 0) k)) s S) 1).getD 0 = 0 := by
        show (if _ then _ else _ : Option Nat).getD 0 = 0
        split <;> rfl
      rw [hinit] at b2
      have b2 : ev (d + 4) mMo_round 31 [vR (43, 0), vU, vI t, vI (nJ (64 * w)), vI 0, vI 1, vU] [] (hh A' B) = _ := b2
      rw [ev1, bV_some, gI_hh, gJ_hh, b1, bI_some, gI_hh, gJ_hh, mCould (d + 2) (nJ w) hS m3 y1 y2 l1 l2, bI_some, gI_hh, gJ_hh, hcan, ev2, bV_some, gI_hh, gJ_hh, shl6 w (by omega), b2, eMo_round_31, if_neg (show ¬ nJ 64 < 64 by decide)]
      have h2S : 2 ^ S ≤ 64 := Nat.pow_le_pow_right (n := 2) (by decide) hS
      have hpad : bsR (fun t => Hm (rdF I S w) t S) (fun s => fsF (fun k => tn (I (15, 0) k)) s S) 64 = bsR (fun t => Hm (rdF I S w) t S) (fun s => fsF (fun k => tn (I (15, 0) k)) s S) (2 ^ S) := by
        have := bsR_pad (H := fun t => Hm (rdF I S w) t S) (F := fun s => fsF (fun k => tn (I (15, 0) k)) s S) (m := 2 ^ S) (64 - 2 ^ S) (fun t h1 h2 => by
          have hn : ¬ t &&& (rdF I S w).can = t := fun z => by
            have := can_lt hR
            have : t &&& (rdF I S w).can ≤ (rdF I S w).can := Nat.and_le_right
            omega
          have hpos := Nat.two_pow_pos S
          show ¬ Hm (rdF I S w) t S < 1000000
          rw [hR.H_not t (by omega) hn S]
          omega)
        rw [← this]
        congr 1
        omega
      rw [hpad]
      cases hb : bsR (fun t => Hm (rdF I S w) t S) (fun s => fsF (fun k => tn (I (15, 0) k)) s S) (2 ^ S) with
      | none =>
        rw [if_pos (show cB none = -1 from rfl)]
        have hH0 : Hm (rdF I S w) 0 S = 1000000 := by
          have ho := hR.H_or 0 S (Nat.le_refl S)
          rcases ho with ho | ho
          · exact ho
          · obtain ⟨b, hb'⟩ := bsR_some (H := fun t => Hm (rdF I S w) t S) (F := fun s => fsF (fun k => tn (I (15, 0) k)) s S) (show Hm (rdF I S w) 0 S < 1000000 by omega) (2 ^ S) (Nat.two_pow_pos S)
            rw [hb] at hb'
            cases hb'
        have e0 : A' (81, 0) (64 * w + 0) = nJ 10000 := by
          rw [hM' 0 (by decide), hH0]
          rfl
        simp only [Option.getD_none, nJ_add, bnk (show 64 * w + 0 < 192 by omega) (by omega), nJ_nat (show 64 * w + 0 < 2147483648 by omega), e0]
        rw [if_neg (show ¬ nJ 10000 < 10000 by decide)]
        exact Cal.mk rfl rfl hrel hfc hfm
      | some b =>
        obtain ⟨hb1, hb2⟩ := bsR_lt _ b hb
        have hb2 : Hm (rdF I S w) b S < 1000000 := hb2
        have hb3 := hR.H_or b S (Nat.le_refl S)
        have e0 : A' (81, 0) (64 * w + b) = nJ (Hm (rdF I S w) b S) := by
          rw [hM' b (by omega)]
          unfold dm
          rw [if_neg (by omega)]
        rw [if_neg (show ¬ cB (some b) = -1 from nJ_nm1 (by omega)), show cB (some b) = nJ b from rfl]
        simp only [Option.getD_some, nJ_add, bnk (show 64 * w + b < 192 by omega) (by omega), nJ_nat (show 64 * w + b < 2147483648 by omega), e0]
        rw [if_pos (lt_nL (b := 10000) (show Hm (rdF I S w) b S < 10000 by omega) (by decide)), cFees (d + 3) hS e3' (fun k hk => (hfeeC k hk).1) (show b < 64 by omega), mFees (d + 2) hS m3' (fun k hk => (hfeeM k hk).1) (show b < 64 by omega), bI_some, bI_some, gI_hh, gJ_hh, gI_hh, gJ_hh, bnd (show b < 64 by omega) (by omega), nJ_nat (show b < 2147483648 by omega), hH b (by omega)]
        by_cases tt : t = 0
        · rw [if_pos tt, if_pos tt]
          exact Cal.mk rfl rfl hrel hfc hfm
        · rw [if_neg tt, if_neg tt]
          by_cases t1' : t = 1
          · rw [if_pos t1', if_pos t1']
            exact Cal.mk rfl rfl hrel hfc hfm
          · rw [if_neg t1', if_neg t1']
            exact Cal.mk rfl rfl hrel hfc hfm
    · rw [if_neg h0, if_neg h0, if_pos rfl]
      exact Cal.ro rfl rfl h
  · rw [if_neg hx, if_neg hx]
    exact Cal.ro rfl rfl h
