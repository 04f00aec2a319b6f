/-- all rows up to a number tried -/
def rwI (fit : Nat → Nat → Bool) (fee : Nat → Nat) (S N : Nat) (c : Nat) : PtT := itr (fun c st => lfp fit fee S (dgc S N S (fun _ => 0) c) st) c (0, fun _ => 0)
theorem rwI_bd {fit : Nat → Nat → Bool} {fee : Nat → Nat} {S N : Nat} (hf : ∀ k, k < S → fee k < 100) (hS : S ≤ 6) : ∀ c, (rwI fit fee S N c).1 ≤ 1000
  | 0 => (show (0 : Nat) ≤ 1000 by decide)
  | c + 1 => lfp_bd hf hS (rwI_bd hf hS c)
theorem rwI_pos {fit : Nat → Nat → Bool} {fee : Nat → Nat} {S N : Nat} : ∀ c, 1 ≤ c → 1 ≤ (rwI fit fee S N c).1
  | 0, h => by omega
  | c + 1, _ => by
    by_cases e : c = 0
    · subst e
      show 1 ≤ (lfp fit fee S (dgc S N S (fun _ => 0) 0) (0, fun _ => 0)).1
      have hz : ∀ k, k < S → dgc S N S (fun _ => 0) 0 k = 0 := fun k hk => by
        unfold dgc
        rw [if_neg (by omega), Nat.zero_div, Nat.zero_mod]
      unfold lfp
      rw [if_pos ⟨(okc_iff S).mpr fun k hk h0 => absurd (hz k hk) h0, by show 0 < _ + 1; omega⟩]
      show 1 ≤ feF fee _ S + 1
      omega
    · exact Nat.le_trans (rwI_pos c (by omega)) lfp_le
theorem sum68 {A : IT} {B : JT} {S : Nat} {fee dg : Nat → Nat} (d : Nat) (x1 x2 x3 x4 : Int32) (hS : S ≤ 6) (m3 : A (44, 0) 3 = nJ S) (hf : ∀ k, k < S → A (50, 0) k = nJ (fee k)) (h82 : ∀ k, k < S → A (82, 0) k = dv (dg k)) (hdg : ∀ k, k < S → dg k ≤ 1000) : ∀ j k, k + j = S → ev (d + 1) mMo_parted 68 [vR (43, 0), vI x1, vI x2, vI x3, vI x4, vI (nJ (feF fee dg k)), vI (nJ k)] [] (hh A B) = ev (d + 1) mMo_parted 68 [vR (43, 0), vI x1, vI x2, vI x3, vI x4, vI (nJ (feF fee dg S)), vI (nJ S)] [] (hh A B) := by
  intro j
  induction j with
  | zero =>
    intro k hk
    obtain rfl : k = S := by omega
    rfl
  | succ j ih =>
    intro k hk
    rw [← ih (k + 1) (by omega), eMo_parted_68, m3, if_pos (lt_nJ (show k < S by omega) (by omega)), bnd (show k < 6 by omega) (by omega), bnd (show k < 6 by omega) (by omega), nJ_nat (show k < 2147483648 by omega), h82 k (by omega), hf k (by omega), nJ_add, nJ_succ, add_zero32, show feF fee dg (k + 1) = if dg k = 0 then feF fee dg k else feF fee dg k + fee k from rfl]
    by_cases h0 : dg k = 0
    · rw [if_pos (Eq.mpr (dv_m1 (hdg k (by omega))) h0), if_pos h0]
    · rw [if_neg (fun z => h0 (Eq.mp (dv_m1 (hdg k (by omega))) z)), if_neg h0]
theorem code57 {A0 : IT} {B : JT} {R : Nat → RD} {tg : Nat → Bool} {S N z1 z2 C : Nat} {fee : Nat → Nat} (d : Nat) (x1 : Int32) (h : RwH A0 (fun w => (R w).can) tg S N z1 z2) (hR : ∀ w, w < N → (R w).Ok S) (hrn : RnM A0 R tg S N) (hf : ∀ k, k < S → A0 (50, 0) k = nJ (fee k) ∧ fee k < 100) (hC : C < 100000) : ∀ j c A, c + j = C → (∀ a : Ad, a ≠ (82, 0) → a ≠ (83, 0) → a ≠ (84, 0) → A a = A0 a) → ((rwI (fitF R tg S) fee S N c).1 ≠ 0 → ∀ k, k < S → A (83, 0) k = (rwI (fitF R tg S) fee S N c).2 k) → ∃ A', (∀ a : Ad, a ≠ (82, 0) → a ≠ (83, 0) → a ≠ (84, 0) → A' a = A0 a) ∧ ((rwI (fitF R tg S) fee S N C).1 ≠ 0 → ∀ k, k < S → A' (83, 0) k = (rwI (fitF R tg S) fee S N C).2 k) ∧ ev (d + 3) mMo_parted 57 [vR (43, 0), vI x1, vI (nJ C), vI (dv (rwI (fitF R tg S) fee S N c).1), vI (nJ c), vU, vU] [] (hh A B) = ev (d + 3) mMo_parted 57 [vR (43, 0), vI x1, vI (nJ C), vI (dv (rwI (fitF R tg S) fee S N C).1), vI (nJ C), vU, vU] [] (hh A' B) := by
  have hS := h.s6
  intro j
  induction j with
  | zero =>
    intro c A hc h1 h2
    obtain rfl : c = C := by omega
    exact ⟨A, h1, h2, rfl⟩
  | succ j ih =>
    intro c A hc h1 h2
    have he : ∀ s, s < 80 → A (s, 0) = A0 (s, 0) := fun s hs => h1 (s, 0) (fun z => by cases z; omega) (fun z => by cases z; omega) (fun z => by cases z; omega)
    have hst : rwI (fitF R tg S) fee S N (c + 1) = lfp (fitF R tg S) fee S (dgc S N S (fun _ => 0) c) (rwI (fitF R tg S) fee S N c) := rfl
    have hdg : ∀ k, k < S → dgc S N S (fun _ => 0) c k = c / (N + 1) ^ (S - 1 - k) % (N + 1) := fun k hk => by
      unfold dgc
      rw [if_neg (by omega)]
    have hdl : ∀ k, k < S → dgc S N S (fun _ => 0) c k ≤ 1000 := fun k hk => by
      have h3 := h.n3
      have : dgc S N S (fun _ => 0) c k < N + 1 := by rw [hdg k hk]; exact Nat.mod_lt _ (by omega)
      omega
    have hm := rwI_bd (fit := fitF R tg S) (N := N) (fun k hk => (hf k hk).2) hS c
    have hfb := feF_bd (f := fee) (dg := dgc S N S (fun _ => 0) c) S (fun k hk => (hf k hk).2)
    obtain ⟨A1, a1, a2⟩ := mRow (A := A) (B := B) (code := c) (dg := dgc S N S (fun _ => 0) c) d (h.ext he) hR (fun w hw ht t hlt => by rw [h1 (81, 0) (by decide) (by decide) (by decide)]; exact hrn w hw ht t hlt) hdg (by omega)
    have h1' : ∀ a : Ad, a ≠ (82, 0) → a ≠ (83, 0) → a ≠ (84, 0) → A1 a = A0 a := fun a b1 b2 b3 => (a1 a b1 b3).trans (h1 a b1 b2 b3)
    have h2' : (rwI (fitF R tg S) fee S N c).1 ≠ 0 → ∀ k, k < S → A1 (83, 0) k = (rwI (fitF R tg S) fee S N c).2 k := fun h0 k hk => by
      rw [a1 (83, 0) (by decide) (by decide)]
      exact h2 h0 k hk
    rcases a2 with ⟨b1, b2, b3⟩ | ⟨b1, b3⟩
    · have m3 : A1 (44, 0) 3 = nJ S := by rw [h1' (44, 0) (by decide) (by decide) (by decide)]; exact h.m3
      have hs := sum68 (A := A1) (B := B) (fee := fee) (dg := dgc S N S (fun _ => 0) c) (d + 2) x1 (nJ C) (dv (rwI (fitF R tg S) fee S N c).1) (nJ c) hS m3 (fun k hk => by rw [h1' (50, 0) (by decide) (by decide) (by decide)]; exact (hf k hk).1) b2 hdl S 0 (by omega)
      have hs : ev (d + 3) mMo_parted 68 [vR (43, 0), vI x1, vI (nJ C), vI (dv (rwI (fitF R tg S) fee S N c).1), vI (nJ c), vI 0, vI 0] [] (hh A1 B) = _ := hs
      rw [eMo_parted_57, if_pos (lt_nJ (show c < C by omega) (by omega)), b3, bI_some, if_neg (show ¬ (1 : Int32) = 0 by decide), gI_hh, gJ_hh, hs, eMo_parted_68, m3, if_neg (nlt_nJ (Nat.le_refl S) (by omega)), nJ_succ]
      unfold lfp at hst
      by_cases hlt : (rwI (fitF R tg S) fee S N c).1 < feF fee (dgc S N S (fun _ => 0) c) S + 1
      · rw [if_pos ⟨b1, hlt⟩] at hst
        obtain ⟨A2, c1, c2, c3⟩ := cop_of (d := d + 2) (s1 := 82) (s2 := 83) (L := 6) (A := A1) (B := B) (by decide) (fun A B => eMo_copies_82_83_0 (d + 2) A B) (fun x2 A B => eMo_copies_82_83_2 (d + 2) x2 A B) (by decide)
        rw [if_pos (Eq.mpr (dv_lt hm (by omega)) hlt), c3, bV_some, gI_hh, gJ_hh]
        have hdv : dv (rwI (fitF R tg S) fee S N (c + 1)).1 = nJ (feF fee (dgc S N S (fun _ => 0) c) S) := by
          rw [hst]
          show dv (feF fee (dgc S N S (fun _ => 0) c) S + 1) = _
          unfold dv
          rw [if_neg (by omega)]
          rfl
        rw [← hdv]
        refine ih (c + 1) A2 (by omega) (fun a d1 d2 d3 => (funext fun i => c2 a i (fun z => d2 z.1)).trans (h1' a d1 d2 d3)) (fun _ k hk => ?_)
        rw [c1 k (by omega), b2 k hk, hst]
        exact (if_pos hk).symm
      · rw [if_neg (fun z => hlt z.2)] at hst
        rw [if_neg (fun z => hlt (Eq.mp (dv_lt hm (by omega)) z)), ← hst]
        exact ih (c + 1) A1 (by omega) h1' (by rw [hst]; exact h2')
    · unfold lfp at hst
      rw [if_neg (fun z => by rw [b1] at z; cases z.1)] at hst
      rw [eMo_parted_57, if_pos (lt_nJ (show c < C by omega) (by omega)), b3, bI_some, if_pos rfl, gI_hh, gJ_hh, nJ_succ, ← hst]
      exact ih (c + 1) A1 (by omega) h1' (by rw [hst]; exact h2')
theorem lay34 {A0 : IT} {B : JT} {R : Nat → RD} {tg : Nat → Bool} {u : Nat → Nat} {gl : Nat → Nat} {S N z1 z2 : Nat} (d : Nat) (x1 x2 : Int32) (h : RwH A0 (fun w => (R w).can) tg S N z1 z2) (hR : ∀ w, w < N → (R w).Ok S ∧ RcM A0 (R w) S w (u w) gl) : ∀ j w A, w + j = N → (∀ a : Ad, a ≠ (80, 0) → a ≠ (81, 0) → A a = A0 a) → RnM A R tg S w → ∃ A', (∀ a : Ad, a ≠ (80, 0) → a ≠ (81, 0) → A' a = A0 a) ∧ RnM A' R tg S N ∧ ev (d + 2) mMo_parted 34 [vR (43, 0), vI x1, vI x2, vI (nJ w), vU, vU, vU] [] (hh A B) = ev (d + 2) mMo_parted 57 [vR (43, 0), vI x1, vI x2, vI (-1), vI 0, vU, vU] [] (hh A' B) := by
  have hS := h.s6
  have hN := h.n3
  intro j
  induction j with
  | zero =>
    intro w A hw h1 h2
    obtain rfl : w = N := by omega
    refine ⟨A, h1, h2, ?_⟩
    have m4 : A (44, 0) 4 = nJ w := by rw [h1 (44, 0) (by decide) (by decide)]; exact h.m4
    rw [eMo_parted_34, m4, if_neg (nlt_nJ (Nat.le_refl w) (by omega))]
  | succ j ih =>
    intro w A hw h1 h2
    have hwN : w < N := by omega
    have he : ∀ s, s < 80 → A (s, 0) = A0 (s, 0) := fun s hs => h1 (s, 0) (fun z => by cases z; omega) (fun z => by cases z; omega)
    obtain ⟨r1, r2⟩ := hR w hwN
    have hA := h.ext he
    rw [eMo_parted_34, hA.m4, if_pos (lt_nJ hwN (by omega)), mTownOf _ _ (show w < 3 by omega), bI_some, gI_hh, gJ_hh, nJ_succ]
    by_cases h0 : A (54, 0) w = 0
    · have htg := Eq.mp (hA.to w hwN) h0
      have hcg := mCould (A := A) (B := B) d (nJ w) hS hA.m3 hA.y1 hA.y2 hA.l1 hA.l2
      rw [hA.ca w hwN] at hcg
      obtain ⟨A1, q1, q2⟩ := mLays (A := A) (B := B) d r1 (r2.ext he)
      rw [if_pos h0, if_neg (hA.pl w hwN), hcg, bI_some, gI_hh, gJ_hh, q2, bV_some, gI_hh, gJ_hh]
      refine ih (w + 1) A1 (by omega) (fun a a1 a2 => (q1.1 a a1 a2).trans (h1 a a1 a2)) (fun w' hw' ht t hlt => ?_)
      by_cases e : w' = w
      · rw [e, q1.2.2.1 t hlt hlt, r1.H_pad]
      · rw [q1.2.2.2 (64 * w' + t) (by omega)]
        exact h2 w' (by omega) ht t hlt
    · rw [if_neg h0, if_pos rfl]
      refine ih (w + 1) A (by omega) h1 (fun w' hw' ht t hlt => ?_)
      by_cases e : w' = w
      · rw [e] at ht
        exact absurd (Eq.mpr (hA.to w hwN) ht) h0
      · exact h2 w' (by omega) ht t hlt
theorem t_parted {I A : IT} {J B : JT} (d : Nat) (x : Int32) (h : Rel I A) : Cal (ev (d + 10) mPx_parted 0 [vR (0, 0), vI x] [] (hh I J)) (ev (d + 10) mMo_parted 0 [vR (43, 0), vI x, vU, vU, vU, vU, vU] [] (hh A B)) I A := by
  obtain ⟨q, T, S, N, hru, hro, hwk, hd, et, hff, hp⟩ := ScR.parts h
  have hS : S ≤ 6 := hro.1.2.1
  have hN : N ≤ 3 := hro.1.2.2.1
  have hT := hro.1.1
  have e3 : I (8, 0) 3 = nJ S := hro.2.1.2.2.2.1
  have m3 : A (44, 0) 3 = nJ S := hro.2.1.2.2.2.2.1
  have e4 : I (8, 0) 4 = nJ N := hro.2.1.2.2.2.2.2.1
  have m4 : A (44, 0) 4 = nJ N := hro.2.1.2.2.2.2.2.2
  rw [ePx_parted_0, eMo_parted_0, et, mIn _ x 0 6 0 6 rfl rfl, bI_some, bif2, gI_hh, gJ_hh]
  by_cases h0 : A (43, 0) 25 = 0
  · rw [if_pos h0, if_pos h0]
    exact Cal.ro rfl rfl h
  rw [if_neg h0, if_neg h0]
  by_cases x0 : x < 0
  · rw [if_pos x0, if_neg (fun z => z.1 x0)]
    exact Cal.ro rfl rfl h
  by_cases x6 : (6 : Int32) < x
  · rw [if_neg x0, if_pos x6, if_neg (fun z => z.2 x6)]
    exact Cal.ro rfl rfl h
  rw [if_neg x0, if_neg x6, if_pos (And.intro x0 x6)]
  obtain ⟨y, ey, hy⟩ : ∃ y, x = nJ y ∧ y < 7 := nJ_ex (n := 7) (by decide) x0 (by
    rw [i_lt] at x6 ⊢
    have a6 : (6 : Int32).toInt = 6 := rfl
    have a7 : (nJ 7).toInt = 7 := rfl
    omega)
  -- what both go by
  let R : Nat → RD := fun w => rdF I S w
  let fee : Nat → Nat := fun k => tn (I (15, 0) k)
  let tg : Nat → Bool := fun w => decide (I (19, 0) w = 0)
  have hR := fun w (hw : w < N) => rdF_ok (w := w) hro hwk hd hw
  have hz : (I (17, 0) 1 = nJ (tn (I (17, 0) 1)) ∧ I (17, 0) 2 = nJ (tn (I (17, 0) 2)) ∧ A (44, 0) 6 = nJ (tn (I (17, 0) 1)) ∧ A (44, 0) 7 = nJ (tn (I (17, 0) 2)) ∧ tn (I (17, 0) 1) < 64 ∧ tn (I (17, 0) 2) < 64) := by
    obtain ⟨-, k2, k3, -⟩ := hwk
    obtain ⟨z1, hz1, ez1, mz1⟩ := k2
    obtain ⟨z2, hz2, ez2, mz2⟩ := k3
    have ez1 : I (17, 0) 1 = nJ z1 := ez1
    have ez2 : I (17, 0) 2 = nJ z2 := ez2
    have mz1 : A (44, 0) 6 = nJ z1 := mz1
    have mz2 : A (44, 0) 7 = nJ z2 := mz2
    have tz1 : tn (I (17, 0) 1) = z1 := by rw [ez1]; exact nJ_nat (by omega)
    have tz2 : tn (I (17, 0) 2) = z2 := by rw [ez2]; exact nJ_nat (by omega)
    rw [tz1, tz2]
    exact ⟨ez1, ez2, mz1, mz2, hz1, hz2⟩
  have hfee : ∀ k, k < S → I (15, 0) k = nJ (fee k) ∧ fee k < 100 ∧ A (50, 0) k = nJ (fee k) := fun k hk => by
    obtain ⟨-, -, a1, g, hg, a2⟩ := hro.2.2.2.2.1 k hk
    have a1 : I (15, 0) k = A (50, 0) k := a1
    have a2 : I (15, 0) k = nJ g := a2
    obtain ⟨q1, q2⟩ := tn_of a2 hg (by omega)
    exact ⟨q2, q1, a1.symm.trans q2⟩
  have hw19 : ∀ w, w < N → I (19, 0) w = A (54, 0) w ∧ ¬ A (53, 0) w = -1 := fun w hw => by
    obtain ⟨⟨w1, t, ht, w2⟩, ⟨w3, -⟩, -⟩ := hwk.2.2.2.2.2.1 w hw
    have w1 : I (18, 0) w = A (53, 0) w := w1
    have w2 : I (18, 0) w = nJ t := w2
    refine ⟨w3, ?_⟩
    rw [← w1, w2]
    exact nJ_nm1 (by omega)
  have hA : RwH A (fun w => (R w).can) tg S N (tn (I (17, 0) 1)) (tn (I (17, 0) 2)) := ⟨hS, hN, m3, m4, hz.2.2.1, hz.2.2.2.1, hz.2.2.2.2.1, hz.2.2.2.2.2, fun w hw => (hR w hw).2.2.2.2, fun w hw => (hR w hw).1.can, fun w hw => by
    show _ = (decide (I (19, 0) w = 0) = true)
    rw [decide_eq_true_iff, (hw19 w hw).1], fun w hw => (hw19 w hw).2⟩
  -- the reference
  have hC : (N + 1) ^ S < 100000 := by
    have h1 : (N + 1) ^ S ≤ 4 ^ S := Nat.pow_le_pow_left (by omega) S
    have h2 : 4 ^ S ≤ 4 ^ 6 := Nat.pow_le_pow_right (by decide) hS
    have h3 : 4 ^ 6 = 4096 := rfl
    omega
  have hc15 : ∀ j k, k + j = S → ev (d + 10) mMo_parted 15 [vR (43, 0), vI x, vI (nJ ((N + 1) ^ k)), vI (nJ k), vU, vU, vU] [] (hh A B) = ev (d + 10) mMo_parted 34 [vR (43, 0), vI x, vI (nJ ((N + 1) ^ S)), vI (nJ 0), vU, vU, vU] [] (hh A B) := by
    intro j
    induction j with
    | zero =>
      intro k hk
      obtain rfl : k = S := by omega
      rw [eMo_parted_15, m3, if_neg (nlt_nJ (Nat.le_refl k) (by omega))]
      rfl
    | succ j ih =>
      intro k hk
      rw [← ih (k + 1) (by omega), eMo_parted_15, m3, if_pos (lt_nJ (show k < S by omega) (by omega)), m4, nJ_succ, nJ_mul, nJ_succ, Nat.pow_succ]
  obtain ⟨A1, a1, a2, a3⟩ := lay34 (A0 := A) (B := B) (d + 8) x (nJ ((N + 1) ^ S)) hA (fun w hw => ⟨(hR w hw).1, (hR w hw).2.2.1⟩) N 0 A (by omega) (fun _ _ _ => rfl) (fun w hw => by omega)
  have he1 : ∀ s, s < 80 → A1 (s, 0) = A (s, 0) := fun s hs => a1 (s, 0) (fun z => by cases z; omega) (fun z => by cases z; omega)
  obtain ⟨A2, b1, b2, b3⟩ := code57 (A0 := A1) (B := B) (C := (N + 1) ^ S) (fee := fee) (d + 7) x (hA.ext he1) (fun w hw => (hR w hw).1) a2 (fun k hk => by rw [he1 50 (by decide)]; exact ⟨(hfee k hk).2.2, (hfee k hk).2.1⟩) hC ((N + 1) ^ S) 0 A1 (by omega) (fun _ _ _ _ => rfl) (fun z => absurd rfl z)
  have b3 : ev (d + 10) mMo_parted 57 [vR (43, 0), vI x, vI (nJ ((N + 1) ^ S)), vI (-1), vI 0, vU, vU] [] (hh A1 B) = _ := b3
  have hm15 : ev (d + 10) mMo_parted 15 [vR (43, 0), vI x, vI 1, vI 0, vU, vU, vU] [] (hh A B) = ev (d + 10) mMo_parted 57 [vR (43, 0), vI x, vI (nJ ((N + 1) ^ S)), vI (dv (rwI (fitF R tg S) fee S N ((N + 1) ^ S)).1), vI (nJ ((N + 1) ^ S)), vU, vU] [] (hh A2 B) := by
    refine Eq.trans ?_ (a3.trans b3)
    have := hc15 S 0 (by omega)
    rw [Nat.pow_zero] at this
    exact this
  have hrel : ∀ I', (∀ a : Ad, (a.1 < 29 ∨ 35 < a.1) → I' a = I a) → Rel I' A2 := fun I' hI => Rel.rounds h hI (fun a ha => (b1 a (fun z => by rw [z] at ha; omega) (fun z => by rw [z] at ha; omega) (fun z => by rw [z] at ha; omega)).trans (a1 a (fun z => by rw [z] at ha; omega) (fun z => by rw [z] at ha; omega)))
  have hfm : FrM A A2 := fun a ha => (b1 a (fun z => by rw [z] at ha; omega) (fun z => by rw [z] at ha; omega) (fun z => by rw [z] at ha; omega)).trans (a1 a (fun z => by rw [z] at ha; omega) (fun z => by rw [z] at ha; omega))
  have m3' : A2 (44, 0) 3 = nJ S := by
    rw [b1 (44, 0) (by decide) (by decide) (by decide), he1 44 (by decide)]
    exact m3
  have hpos := rwI_pos (fit := fitF R tg S) (fee := fee) (S := S) (N := N) ((N + 1) ^ S) (Nat.pow_pos (Nat.succ_pos N))
  have hxm : y ≠ 0 → x - 1 = nJ (y - 1) := fun hy0 => by
    rw [ey]
    exact nJ_sub (a := y) (b := 1) (by omega)
  have hM : y ≠ 0 → ev (d + 9) mMo_isSentence 0 [vR (43, 0), vI (x - 1)] [] (hh A2 B) = some (some (vI (if y ≤ S then 1 else 0)), hh A2 B) := fun hy0 => by
    rw [hxm hy0, mSent (d + 8) _ m3' (by omega)]
    by_cases hys : y ≤ S
    · rw [if_pos hys, if_pos (inn_nJ (show y - 1 < S by omega) (by omega))]
    · rw [if_neg hys, if_neg (fun z => by
        have := z.2
        rw [nJ_lt (by omega) (by omega)] at this
        omega)]
  rw [hm15, eMo_parted_57, if_neg (nlt_nJ (Nat.le_refl _) (by omega)), e3]
  by_cases hys : y ≤ S
  · have hlt : ¬ nJ S < x := by
      rw [ey]
      exact nlt_nJ hys (by omega)
    rw [if_neg hlt]
    obtain ⟨v, I', J', ev1, rfl, c1, c2, c3⟩ := cPart (I := I) (J := J) (R := R) (fee := fee) (fit := fitF R tg S) d hS hN e3 e4 (fun k hk => ⟨(hfee k hk).1, (hfee k hk).2.1⟩) (fun w hw => ⟨(hR w hw).1, (hR w hw).2.1, rfl⟩) hz.1 hz.2.1 hz.2.2.2.2.1 hz.2.2.2.2.2 rfl
    have hDF : DFp (lfp (fitF R tg S) fee S) S N S (fun _ => 0) (0, fun _ => 0) = rwI (fitF R tg S) fee S N ((N + 1) ^ S) := by
      refine DFp_itr (fun dg dg' st hx => ?_) S (fun _ => 0) (0, fun _ => 0) (Nat.le_refl S)
      have e : (fun k => if k < S then dv (dg k) else 0) = fun k => if k < S then dv (dg' k) else 0 := funext fun k => by
        by_cases hk : k < S
        · rw [if_pos hk, if_pos hk, hx k hk]
        · rw [if_neg hk, if_neg hk]
      unfold lfp
      rw [okc_ext S hx, feF_ext S hx, e]
    rw [hDF] at c2 c3
    have hfc : FrC I I' := fun a ha => c1 a (by omega)
    rw [ev1, bV_some, gI_hh, gJ_hh]
    by_cases hy0 : y = 0
    · rw [if_pos (show x = 0 by rw [ey, hy0]; rfl), if_pos (show x = 0 by rw [ey, hy0]; rfl), c2]
      exact Cal.mk rfl rfl (hrel I' c1) hfc hfm
    · have hx0 : ¬ x = 0 := by
        rw [ey]
        exact ne_nL (b := 0) hy0 (by omega) (by decide)
      rw [if_neg hx0, if_neg hx0, hM hy0, if_pos hys, bI_some, if_neg (show ¬ (1 : Int32) = 0 by decide), hxm hy0, bnd (show y - 1 < 6 by omega) (by omega), bnd (show y - 1 < 6 by omega) (by omega), nJ_nat (show y - 1 < 2147483648 by omega), gI_hh, gJ_hh, c3 (by omega) (y - 1) (by omega), b2 (by omega) (y - 1) (by omega)]
      exact Cal.mk rfl rfl (hrel I' c1) hfc hfm
  · have hlt : nJ S < x := by
      rw [ey]
      exact lt_nJ (by omega) (by omega)
    have hx0 : ¬ x = 0 := by
      rw [ey]
      exact ne_nL (b := 0) (by omega) (by omega) (by decide)
    rw [if_pos hlt, if_neg hx0, hM (by omega), if_neg hys, bI_some, if_pos rfl]
    exact Cal.mk rfl rfl (hrel I (fun _ _ => rfl)) (FrC.rf I) hfm
