theorem cop_of {d s1 s2 L : Nat} {A : IT} {B : JT} (hne : s1 ≠ s2) (e0 : ∀ A B, ev d mMo_copies 0 [vR (s1, 0), vR (s2, 0), vU] [] (hh A B) = ev d mMo_copies 2 [vR (s1, 0), vR (s2, 0), vI (nJ 0)] [] (hh A B)) (e2 : ∀ x2 A B, ev d mMo_copies 2 [vR (s1, 0), vR (s2, 0), vI x2] [] (hh A B) = if x2 < nJ L then if x2 < 0 ∨ L ≤ x2.toNatClampNeg then none else if x2 < 0 ∨ L ≤ x2.toNatClampNeg then none else ev d mMo_copies 2 [vR (s1, 0), vR (s2, 0), vI (x2 + 1)] [] (hh (up2 A (s2, 0) x2.toNatClampNeg (A (s1, 0) x2.toNatClampNeg)) B) else some (none, hh A B)) (hL : L ≤ 1000) : ∃ A', (∀ k, k < L → A' (s2, 0) k = A (s1, 0) k) ∧ (∀ b i, ¬ (b = (s2, 0) ∧ i < L) → A' b i = A b i) ∧ ev d mMo_copies 0 [vR (s1, 0), vR (s2, 0), vU] [] (hh A B) = some (none, hh A' B) := by
  have go : ∀ j k A1, k + j = L → (∀ i, i < k → A1 (s2, 0) i = A (s1, 0) i) → (∀ b i, ¬ (b = (s2, 0) ∧ i < L) → A1 b i = A b i) → ∃ A', (∀ k, k < L → A' (s2, 0) k = A (s1, 0) k) ∧ (∀ b i, ¬ (b = (s2, 0) ∧ i < L) → A' b i = A b i) ∧ ev d mMo_copies 2 [vR (s1, 0), vR (s2, 0), vI (nJ k)] [] (hh A1 B) = some (none, hh A' B) := by
    intro j
    induction j with
    | zero =>
      intro k A1 hk h1 h2
      obtain rfl : k = L := by omega
      exact ⟨A1, h1, h2, by rw [e2, if_neg (nlt_nJ (Nat.le_refl k) (by omega))]⟩
    | succ j ih =>
      intro k A1 hk h1 h2
      have hs1 : A1 (s1, 0) k = A (s1, 0) k := h2 _ _ (fun z => hne (Prod.mk.inj z.1).1)
      obtain ⟨A', a1, a2, a3⟩ := ih (k + 1) (up2 A1 (s2, 0) k (A1 (s1, 0) k)) (by omega) (fun i hi => by
        by_cases e : i = k
        · rw [e, up_same, hs1]
        · rw [up_neK _ _ e]
          exact h1 i (by omega)) (fun b i hb => by
        rw [up_at, if_neg (fun z => hb ⟨z.1, by omega⟩)]
        exact h2 b i hb)
      refine ⟨A', a1, a2, ?_⟩
      rw [e2, if_pos (lt_nJ (show k < L by omega) (by omega)), bnd (show k < L by omega) (by omega), bnd (show k < L by omega) (by omega), nJ_nat (show k < 2147483648 by omega), nJ_succ]
      exact a3
  obtain ⟨A', a1, a2, a3⟩ := go L 0 A (by omega) (fun i hi => by omega) (fun _ _ _ => rfl)
  exact ⟨A', a1, a2, by rw [e0]; exact a3⟩
theorem RwH.ext {A0 A : IT} {can : Nat → Nat} {tg : Nat → Bool} {S N z1 z2 : Nat} (h : RwH A0 can tg S N z1 z2) (he : ∀ s, s < 80 → A (s, 0) = A0 (s, 0)) : RwH A can tg S N z1 z2 := by
  obtain ⟨hS, hN, m3, m4, y1, y2, l1, l2, ca, cl, to, pl⟩ := h
  refine ⟨hS, hN, ?_, ?_, ?_, ?_, l1, l2, ?_, cl, ?_, ?_⟩
  · rw [he 44 (by decide)]; exact m3
  · rw [he 44 (by decide)]; exact m4
  · rw [he 44 (by decide)]; exact y1
  · rw [he 44 (by decide)]; exact y2
  · rw [he 51 (by decide)]; exact ca
  · rw [he 54 (by decide)]; exact to
  · rw [he 53 (by decide)]; exact pl
/-- the rounds that are laid -/
def RnM (A : IT) (R : Nat → RD) (tg : Nat → Bool) (S N : Nat) : Prop := ∀ w, w < N → tg w = true → ∀ t, t < 64 → A (81, 0) (64 * w + t) = nJ (dm (Hm (R w) t S))
theorem row75 {A : IT} {B : JT} {R : Nat → RD} {tg : Nat → Bool} {S N : Nat} {dg : Nat → Nat} (d : Nat) (hS : S ≤ 6) (hN : N ≤ 3) (m4 : A (44, 0) 4 = nJ N) (hR : ∀ w, w < N → (R w).Ok S) (hrn : RnM A R tg S N) (hg : ∀ w, w < N → ssF dg w S ≠ 0 → tg w = true) (h84 : ∀ w, w < N → A (84, 0) w = nJ (ssF dg w S)) : ∀ j w, w + j = N → ((∃ w', w ≤ w' ∧ w' < N ∧ ssF dg w' S ≠ 0 ∧ ¬ Hm (R w') (ssF dg w' S) S < 1000000) ∧ ev (d + 1) mMo_laysRow 75 [vR (43, 0), vU, vU, vU, vI (nJ w), vU] [] (hh A B) = some (some (vI 0), hh A B)) ∨ ((∀ w', w ≤ w' → w' < N → ssF dg w' S ≠ 0 → Hm (R w') (ssF dg w' S) S < 1000000) ∧ ev (d + 1) mMo_laysRow 75 [vR (43, 0), vU, vU, vU, vI (nJ w), vU] [] (hh A B) = some (some (vI 1), hh A B)) := by
  intro j
  induction j with
  | zero =>
    intro w hw
    obtain rfl : w = N := by omega
    refine Or.inr ⟨fun w' h1 h2 => by omega, ?_⟩
    rw [eMo_laysRow_75, m4, if_neg (nlt_nJ (Nat.le_refl w) (by omega))]
  | succ j ih =>
    intro w hw
    have hwN : w < N := by omega
    have hlt := ssF_lt (dg := dg) (w := w) S hS
    rw [eMo_laysRow_75, m4, if_pos (lt_nJ hwN (by omega)), bnd (show w < 3 by omega) (by omega), nJ_nat (show w < 2147483648 by omega), bnk (show w < 3 by omega) (by omega), h84 w hwN, nJ_succ, shl6 w (by omega), nJ_add, bnd (show 64 * w + ssF dg w S < 192 by omega) (by omega), nJ_nat (show 64 * w + ssF dg w S < 2147483648 by omega)]
    have ih := ih (w + 1) (by omega)
    have cont : ((ssF dg w S ≠ 0) → Hm (R w) (ssF dg w S) S < 1000000) → ((∃ w', w ≤ w' ∧ w' < N ∧ ssF dg w' S ≠ 0 ∧ ¬ Hm (R w') (ssF dg w' S) S < 1000000) ∧ ev (d + 1) mMo_laysRow 75 [vR (43, 0), vU, vU, vU, vI (nJ (w + 1)), vU] [] (hh A B) = some (some (vI 0), hh A B)) ∨ ((∀ w', w ≤ w' → w' < N → ssF dg w' S ≠ 0 → Hm (R w') (ssF dg w' S) S < 1000000) ∧ ev (d + 1) mMo_laysRow 75 [vR (43, 0), vU, vU, vU, vI (nJ (w + 1)), vU] [] (hh A B) = some (some (vI 1), hh A B)) := fun hq => by
      rcases ih with ⟨⟨w', a1, a2, a3, a4⟩, a5⟩ | ⟨a1, a2⟩
      · exact Or.inl ⟨⟨w', by omega, a2, a3, a4⟩, a5⟩
      · refine Or.inr ⟨fun w' b1 b2 b3 => ?_, a2⟩
        by_cases e : w' = w
        · rw [e] at b3 ⊢
          exact hq b3
        · exact a1 w' (by omega) b2 b3
    by_cases h0 : ssF dg w S = 0
    · rw [if_pos (show nJ (ssF dg w S) = 0 by rw [h0]; rfl)]
      exact cont (fun z => absurd h0 z)
    · have hH := (hR w hwN).H_or (ssF dg w S) S (Nat.le_refl S)
      rw [if_neg (ne_nL (b := 0) h0 (by omega) (by decide)), hrn w hwN (hg w hwN h0) _ hlt]
      by_cases h1 : Hm (R w) (ssF dg w S) S < 1000000
      · have e1 : dm (Hm (R w) (ssF dg w S) S) = Hm (R w) (ssF dg w S) S := if_neg (by omega)
        rw [e1, if_pos (lt_nL (b := 10000) (by omega) (by decide))]
        exact cont (fun _ => h1)
      · have e1 : dm (Hm (R w) (ssF dg w S) S) = 10000 := if_pos (by omega)
        rw [e1, if_neg (show ¬ nJ 10000 < 10000 by decide)]
        exact Or.inl ⟨⟨w, Nat.le_refl w, hwN, h0, h1⟩, rfl⟩
theorem mRow {A : IT} {B : JT} {R : Nat → RD} {tg : Nat → Bool} {S N z1 z2 code : Nat} {dg : Nat → Nat} (d : Nat) (h : RwH A (fun w => (R w).can) tg S N z1 z2) (hR : ∀ w, w < N → (R w).Ok S) (hrn : RnM A R tg S N) (hdg : ∀ k, k < S → dg k = code / (N + 1) ^ (S - 1 - k) % (N + 1)) (hcode : code < 100000) : ∃ A', (∀ a : Ad, a ≠ (82, 0) → a ≠ (84, 0) → A' a = A a) ∧ ((okc (fitF R tg S) dg S = true ∧ (∀ k, k < S → A' (82, 0) k = dv (dg k)) ∧ ev (d + 2) mMo_laysRow 0 [vR (43, 0), vI (nJ code), vU, vU, vU, vU] [] (hh A B) = some (some (vI 1), hh A' B)) ∨ (okc (fitF R tg S) dg S = false ∧ ev (d + 2) mMo_laysRow 0 [vR (43, 0), vI (nJ code), vU, vU, vU, vU] [] (hh A B) = some (some (vI 0), hh A' B))) := by
  have hS := h.s6
  have hN := h.n3
  have hdl : ∀ k, k < S → dg k ≤ N := fun k hk => by
    have : dg k < N + 1 := by rw [hdg k hk]; exact Nat.mod_lt _ (by omega)
    omega
  have hiff := ok_iff (R := R) (tg := tg) (S := S) (N := N) hS hdl hR
  have st : ∀ k (A : IT), k < 3 → ev (d + 2) mMo_laysRow 11 [vR (43, 0), vU, vI (nJ (N + 1)), vI (nJ code), vI (nJ k), vU] [] (hh A B) = ev (d + 2) mMo_laysRow 11 [vR (43, 0), vU, vI (nJ (N + 1)), vI (nJ code), vI (nJ (k + 1)), vU] [] (hh (up2 A (84, 0) k 0) B) := fun k A hk => by
    rw [eMo_laysRow_11, if_pos (lt_nL (b := 3) hk (by decide)), bnd hk (by omega), nJ_nat (by omega), nJ_succ]
  have h3 : up2 (up2 (up2 A (84, 0) 0 0) (84, 0) 1 0) (84, 0) 2 0 (44, 0) = A (44, 0) := rfl
  have e0 : ev (d + 2) mMo_laysRow 0 [vR (43, 0), vI (nJ code), vU, vU, vU, vU] [] (hh A B) = ev (d + 2) mMo_laysRow 28 [vR (43, 0), vU, vI (nJ (N + 1)), vI (nJ (code / (N + 1) ^ 0)), vI (nJ S - 1), vU] [] (hh (up2 (up2 (up2 A (84, 0) 0 0) (84, 0) 1 0) (84, 0) 2 0) B) := by
    rw [eMo_laysRow_0, h.m4, nJ_succ]
    show ev (d + 2) mMo_laysRow 11 [vR (43, 0), vU, vI (nJ (N + 1)), vI (nJ code), vI (nJ 0), vU] [] (hh A B) = _
    rw [st 0 _ (by decide), st 1 _ (by decide), st 2 _ (by decide), eMo_laysRow_11, if_neg (show ¬ nJ (2 + 1) < 3 by decide), h3, h.m3, Nat.pow_zero, Nat.div_one]
  have hrs : RwS A (up2 (up2 (up2 A (84, 0) 0 0) (84, 0) 1 0) (84, 0) 2 0) dg S N 0 := by
    refine ⟨fun a a1 a2 => funext fun j => by rw [up_ne _ _ _ _ a2, up_ne _ _ _ _ a2, up_ne _ _ _ _ a2], fun k k1 k2 => by omega, fun w hw => ?_⟩
    have : w = 0 ∨ w = 1 ∨ w = 2 := by omega
    rcases this with rfl | rfl | rfl <;> rfl
  rw [e0]
  obtain ⟨A', a1, a2⟩ := row28 (A0 := A) (B := B) d h hdg hcode S 0 _ (by omega) hrs
  refine ⟨A', a1, ?_⟩
  rcases a2 with ⟨⟨k, hk, hg⟩, a3⟩ | ⟨hg, ⟨b1, b2, b3⟩, a4⟩
  · refine Or.inr ⟨?_, a3⟩
    cases e : okc (fitF R tg S) dg S
    · rfl
    · exact absurd ((hiff.mp e).1 k hk) hg
  · have h84 : ∀ w, w < N → A' (84, 0) w = nJ (ssF dg w S) := fun w hw => by rw [b3 w hw, sfF_all]
    have htg : ∀ w, w < N → ssF dg w S ≠ 0 → tg w = true := fun w hw h0 => by
      by_cases hx : ∃ k, (ssF dg w S).testBit k = true
      · obtain ⟨k, hk⟩ := hx
        obtain ⟨k1, k2⟩ := (ssF_bit S k).mp hk
        have := (hg k k1 (by omega)).1
        rw [k2, Nat.add_sub_cancel] at this
        exact this
      · exfalso
        apply h0
        apply Nat.eq_of_testBit_eq
        intro k
        rw [Nat.zero_testBit]
        cases e : (ssF dg w S).testBit k
        · rfl
        · exact absurd ⟨k, e⟩ hx
    have hrn' : RnM A' R tg S N := fun w hw ht t hlt => by
      rw [a1 (81, 0) (by decide) (by decide)]
      exact hrn w hw ht t hlt
    rcases row75 (A := A') (B := B) (d + 1) hS hN (by rw [a1 (44, 0) (by decide) (by decide)]; exact h.m4) hR hrn' htg h84 N 0 (by omega) with ⟨⟨w, c1, c2, c3, c4⟩, c5⟩ | ⟨c1, c2⟩
    · refine Or.inr ⟨?_, a4.trans c5⟩
      cases e : okc (fitF R tg S) dg S
      · rfl
      · exact absurd ((hiff.mp e).2 w c2 c3) c4
    · exact Or.inl ⟨hiff.mpr ⟨hg, fun w hw => c1 w (Nat.zero_le w) hw⟩, fun k hk => b2 k (by omega) hk, a4.trans c2⟩
theorem lfp_le {fit : Nat → Nat → Bool} {fee : Nat → Nat} {S : Nat} {dg : Nat → Nat} {st : PtT} : st.1 ≤ (lfp fit fee S dg st).1 := by
  unfold lfp
  split
  · rename_i h
    show st.1 ≤ feF fee dg S + 1
    omega
  · exact Nat.le_refl _
theorem lfp_bd {fit : Nat → Nat → Bool} {fee : Nat → Nat} {S : Nat} {dg : Nat → Nat} {st : PtT} (hf : ∀ k, k < S → fee k < 100) (hS : S ≤ 6) (h : st.1 ≤ 1000) : (lfp fit fee S dg st).1 ≤ 1000 := by
  have := feF_bd (f := fee) (dg := dg) S hf
  unfold lfp
  split
  · show feF fee dg S + 1 ≤ 1000
    omega
  · exact h
