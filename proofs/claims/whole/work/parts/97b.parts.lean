theorem inn_of {r : Int32} {T : Nat} (hT : T ≤ 8) (h1 : ¬ r < 0) (h2 : ¬ nJ T - 1 < r) : ∃ t, t < T ∧ r = nJ t := by
  have : inn r T := Eq.mp (inn_pred (by omega)) ⟨h1, h2⟩
  exact inn_ex (by omega) this
theorem rng_of {r : Int32} {m : Nat} (hm : m < 1000) (h1 : ¬ r < 0) (h2 : ¬ nJ m < r) : ∃ t, t ≤ m ∧ r = nJ t := by
  refine ⟨r.toNatClampNeg, ?_, nJ_of h1⟩
  rw [nJ_of h1, nJ_lt (by omega) (nat_lt31 r)] at h2
  omega
theorem up_row {α : Type} (f : Ad → Nat → α) (a : Ad) (k j : Nat) (x : α) : up2 f a k x a j = if j = k then x else f a j := by
  by_cases e : j = k
  · rw [e, up_same, if_pos rfl]
  · rw [up_neK _ _ e, if_neg e]
/-- a shop -/
theorem rd_shop {I A : IT} {J B : JT} {by_ : Nat → Nat} {n tk i p T : Nat} {dy : Nat → Nat → Nat} (d d' : Nat) (h : RdS I A by_ n tk i 0 p dy T) : RdO I A J B by_ n tk (ev (d + 2) mRo_readShop 0 [vR (8, 5), vR (1, 0), vU, vU] [] (hh I J)) (bI (ev (d' + 4) mMo_amount 0 [vR (43, 0), vI 0, vI ((A (61, 0) 1) - 1), vU, vU] [] (hh A B)) (fun r2 h2 => bI (ev (d' + 4) mMo_amount 0 [vR (43, 0), vI 1, vI 99, vU, vU] [] (hh (gI h2) (gJ h2))) (fun r3 h3 => if ((gI h3) (43, 0) 28) = 0 then if r2 < 0 ∨ 8 ≤ r2.toNatClampNeg then none else some (none, hh (up2 (gI h3) (62, 0) r2.toNatClampNeg r3) (gJ h3)) else some (none, hh (gI h3) (gJ h3))))) := by
  obtain ⟨hx, hc, hr⟩ := h
  obtain ⟨z, S, N, W, hD⟩ := hr rfl
  have hT := hc.1
  rw [eRo_readShop_0, hc.2.1, hD.2.1.2.2.1]
  obtain ⟨I1, A1, i1, f1, p1, r, r', o1, o2, x1, y1, hx1, -, hq⟩ := tk_num (J := J) (B := B) d d' 0 (nJ T - 1) (by decide) hx
  rw [o1, o2, bI_some, bI_some, gI_hh, gJ_hh, gI_hh, gJ_hh]
  obtain ⟨I2, A2, i2, f2, p2, q, q', o3, o4, x2, y2, hx2, hk, hq2⟩ := tk_num (J := J) (B := B) d d' 1 99 (by decide) hx1
  rw [o3, o4, bI_some, bI_some]
  simp only [gI_hh, gJ_hh]
  have e7 := hx2.2.2.2.2.1
  have m28 := hx2.2.2.2.2.2.2.1
  have hfl := hx2.2.2.2.2.2.2.2.2.1
  rw [e7, m28]
  have hc2 : DrC I2 dy T := hc.ext (by rw [x2.s (by decide), x1.s (by decide)]) (by rw [x2.s (by decide), x1.s (by decide)])
  by_cases hf : f2 = 0
  · have hf1 : f1 = 0 := by
      by_cases e : f1 = 0
      · exact e
      · have := hk e
        omega
    obtain ⟨a1, a2, a3, -⟩ := hq hf1
    obtain ⟨b1, b2, b3, -⟩ := hq2 hf
    subst a1
    subst b1
    obtain ⟨t, ht, rfl⟩ := inn_of hT a2 a3
    obtain ⟨v, hv, rfl⟩ := rng_of (m := 99) (by decide) (fun z => b2 (by
      rw [i_lt] at z ⊢
      have a0 : (0 : Int32).toInt = 0 := rfl
      have a1 : (1 : Int32).toInt = 1 := rfl
      omega)) b3
    have hD2 := (hD.fr x1 y1).fr x2 y2
    obtain ⟨d1, ⟨e1, e2, e3, e4, e5, e6, e8, e9⟩, ⟨d31, d32⟩, d4, d5, d6, d7, d8, d9⟩ := hD2
    rw [hf, if_pos (show nJ 0 = 0 from rfl), if_pos (show nJ 0 = 0 from rfl), bnd (show t < 8 by omega) (by omega), bnd (show t < 8 by omega) (by omega), nJ_nat (show t < 2147483648 by omega)]
    have n9 : ∀ s, s ≠ 9 → up2 I2 (9, 5) t (nJ v) (s, 5) = I2 (s, 5) := fun s hs => funext fun k => up_ne _ _ _ _ (fun z => hs (Prod.mk.inj z).1)
    have n62 : ∀ s, s ≠ 62 → up2 A2 (62, 0) t (nJ v) (s, 0) = A2 (s, 0) := fun s hs => funext fun k => up_ne _ _ _ _ (fun z => hs (Prod.mk.inj z).1)
    refine ⟨_, _, i2, f2, p2, dy, T, rfl, rfl, ((FrRC.of x1).tr (FrRC.of x2)).tr (FrRC.up (by decide) (by decide)), ((FrRM.of y1).tr (FrRM.of y2)).tr (FrRM.up (by decide) (by decide)), wr_tx hx2 (fun a ha => funext fun k => up_ne _ _ _ _ (fun z => by rw [z] at ha; exact absurd ha (by decide))) (fun a ha => funext fun k => up_ne _ _ _ _ (fun z => by rw [z] at ha; exact absurd ha (by decide))), hc2.ext (by rw [n9 8 (by decide)]) (by rw [n9 10 (by decide)]), fun _ => ⟨z, S, N, W, d1, ?_, ⟨fun k hk => ?_, fun k h1 h2 => ?_⟩, ?_, d5, ?_, d7, ?_, ?_⟩⟩
    · rw [n9 8 (by decide), n62 61 (by decide)]; exact ⟨e1, e2, e3, e4, e5, e6, e8, e9⟩
    · by_cases e : k = t
      · rw [e, up_same, up_same]
        exact ⟨rfl, v, by omega, rfl⟩
      · rw [up_neK _ _ e, up_neK _ _ e]
        exact d31 k hk
    · rw [up_neK _ _ (by omega)]
      exact d32 k h1 h2
    · rw [n9 10 (by decide), n62 63 (by decide)]; exact d4
    · rw [n9 12 (by decide)]; exact d6
    · rw [n9 13 (by decide), n9 14 (by decide), n9 15 (by decide), n62 64 (by decide), n62 65 (by decide), n62 66 (by decide)]; exact d8
    · rw [n9 16 (by decide), n62 67 (by decide)]; exact d9
  · rw [if_neg (ne_nL (b := 0) hf (by omega) (by decide)), if_neg (ne_nL (b := 0) hf (by omega) (by decide))]
    exact ⟨I2, A2, i2, f2, p2, dy, T, rfl, rfl, (FrRC.of x1).tr (FrRC.of x2), (FrRM.of y1).tr (FrRM.of y2), hx2, hc2, fun z => absurd z hf⟩
/-- a walker -/
theorem rd_walker {I A : IT} {J B : JT} {by_ : Nat → Nat} {n tk i p T : Nat} {dy : Nat → Nat → Nat} (d d' : Nat) (h : RdS I A by_ n tk i 0 p dy T) (hN : ∀ z S N W, DrR I A dy z T S N W → N < 3 ∧ 0 < T) : RdO I A J B by_ n tk (ev (d + 2) mRo_readWalker 0 [vR (8, 5), vR (1, 0), vU] [] (hh I J)) (bI (ev (d' + 4) mMo_amount 0 [vR (43, 0), vI 0, vI 99, vU, vU] [] (hh A B)) (fun r6 h6 => if (A (61, 0) 4) < 0 ∨ 3 ≤ (A (61, 0) 4).toNatClampNeg then none else some (none, hh (up2 (up2 (gI h6) (67, 0) ((A (61, 0) 4).toNatClampNeg) r6) (61, 0) 4 (((gI h6) (61, 0) 4) + 1)) (gJ h6)))) := by
  obtain ⟨hx, hc, hr⟩ := h
  obtain ⟨z, S, N, W, hD⟩ := hr rfl
  obtain ⟨hN3, hT0⟩ := hN z S N W hD
  rw [eRo_readWalker_0]
  obtain ⟨I1, A1, i1, f1, p1, r, r', o1, o2, x1, y1, hx1, -, hq⟩ := tk_num (J := J) (B := B) d d' 0 99 (by decide) hx
  have e7 := hx1.2.2.2.2.1
  have m28 := hx1.2.2.2.2.2.2.1
  have hfl := hx1.2.2.2.2.2.2.2.2.1
  have hD1 := hD.fr x1 y1
  have hc1 : DrC I1 dy T := hc.ext (by rw [x1.s (by decide)]) (by rw [x1.s (by decide)])
  obtain ⟨⟨d11, d12, d13, d14⟩, ⟨e1, e2, e3, e4, e5, e6, e8, e9⟩, d3, d4, d5, d6, d7, d8, d9⟩ := hD1
  have m4 : A (61, 0) 4 = nJ N := hD.2.1.2.2.2.2.2.2.2
  rw [o1, o2, bI_some, bI_some]
  simp only [gI_hh, gJ_hh]
  rw [e7, m4, e8, e9, bnd hN3 (by omega), bnd hN3 (by omega), nJ_nat (show N < 2147483648 by omega), nJ_succ]
  have n67 : ∀ s, s ≠ 67 → s ≠ 61 → up2 (up2 A1 (67, 0) N r') (61, 0) 4 (nJ (N + 1)) (s, 0) = A1 (s, 0) := fun s hs hs' => funext fun k => by rw [up_ne _ _ _ _ (fun z => hs' (Prod.mk.inj z).1), up_ne _ _ _ _ (fun z => hs (Prod.mk.inj z).1)]
  have hfm : FrRM A (up2 (up2 A1 (67, 0) N r') (61, 0) 4 (nJ (N + 1))) := ((FrRM.of y1).tr (FrRM.up (by decide) (by decide))).tr (FrRM.up (by decide) (by decide))
  have hax : ∀ a : Ad, (a.1 = 43 ∨ a.1 = 68) → up2 (up2 A1 (67, 0) N r') (61, 0) 4 (nJ (N + 1)) a = A1 a := fun a ha => funext fun k => by rw [up_ne _ _ _ _ (fun z => by rw [z] at ha; exact absurd ha (by decide)), up_ne _ _ _ _ (fun z => by rw [z] at ha; exact absurd ha (by decide))]
  by_cases hf : f1 = 0
  · obtain ⟨a1, a2, a3, -⟩ := hq hf
    subst a1
    obtain ⟨v, hv, rfl⟩ := rng_of (m := 99) (by decide) a2 a3
    rw [hf, if_pos (show nJ 0 = 0 from rfl)]
    have n16 : ∀ s, s ≠ 16 → s ≠ 8 → up2 (up2 I1 (16, 5) N (nJ v)) (8, 5) 4 (nJ (N + 1)) (s, 5) = I1 (s, 5) := fun s hs hs' => funext fun k => by rw [up_ne _ _ _ _ (fun z => hs' (Prod.mk.inj z).1), up_ne _ _ _ _ (fun z => hs (Prod.mk.inj z).1)]
    refine ⟨_, _, i1, f1, p1, dy, T, rfl, rfl, ((FrRC.of x1).tr (FrRC.up (by decide) (by decide))).tr (FrRC.up (by decide) (by decide)), hfm, wr_tx hx1 (fun a ha => funext fun k => by rw [up_ne _ _ _ _ (fun z => by rw [z] at ha; exact absurd ha (by decide)), up_ne _ _ _ _ (fun z => by rw [z] at ha; exact absurd ha (by decide))]) hax, hc1.ext (by rw [up_neK _ _ (by decide), up_ne _ _ _ _ (by decide)]) (by rw [n16 10 (by decide) (by decide)]), fun _ => ⟨z, S, N + 1, W, ⟨d11, d12, by omega, fun _ => hT0⟩, ⟨?_, ?_, ?_, ?_, ?_, ?_, up_same _ _ _ _, up_same _ _ _ _⟩, ?_, ?_, d5, ?_, d7, ?_, fun k hk => ?_⟩⟩
    · rw [up_neK _ _ (by decide), up_ne _ _ _ _ (by decide), up_neK _ _ (by decide), up_ne _ _ _ _ (by decide)]; exact e1
    · rw [up_neK _ _ (by decide), up_ne _ _ _ _ (by decide)]; exact e2
    · rw [up_neK _ _ (by decide), up_ne _ _ _ _ (by decide)]; exact e3
    · rw [up_neK _ _ (by decide), up_ne _ _ _ _ (by decide)]; exact e4
    · rw [up_neK _ _ (by decide), up_ne _ _ _ _ (by decide)]; exact e5
    · rw [up_neK _ _ (by decide), up_ne _ _ _ _ (by decide)]; exact e6
    · rw [n16 9 (by decide) (by decide), n67 62 (by decide) (by decide)]; exact d3
    · rw [n16 10 (by decide) (by decide), n67 63 (by decide) (by decide)]; exact d4
    · rw [n16 12 (by decide) (by decide)]; exact d6
    · rw [n16 13 (by decide) (by decide), n16 14 (by decide) (by decide), n16 15 (by decide) (by decide), n67 64 (by decide) (by decide), n67 65 (by decide) (by decide), n67 66 (by decide) (by decide)]; exact d8
    · rw [up_ne _ _ _ _ (by decide), up_row, up_ne _ _ _ _ (by decide), up_row]
      by_cases e : k = N
      · rw [if_pos e, if_pos e]
        exact ⟨rfl, v, by omega, rfl⟩
      · rw [if_neg e, if_neg e]
        exact d9 k (by omega)
  · rw [if_neg (ne_nL (b := 0) hf (by omega) (by decide))]
    exact ⟨I1, _, i1, f1, p1, dy, T, rfl, rfl, FrRC.of x1, hfm, wr_tx hx1 (fun _ _ => rfl) hax, hc1, fun z => absurd z hf⟩
/-- a sentence -/
theorem rd_sent {I A : IT} {J B : JT} {by_ : Nat → Nat} {n tk i p T : Nat} {dy : Nat → Nat → Nat} (d d' : Nat) (h : RdS I A by_ n tk i 0 p dy T) (hS : ∀ z S N W, DrR I A dy z T S N W → S < 6) : RdO I A J B by_ n tk (ev (d + 2) mRo_readSentence 0 [vR (8, 5), vR (1, 0), vU, vU, vU] [] (hh I J)) (ev (d' + 5) mMo_readsSentence 0 [vR (43, 0), vU] [] (hh A B)) := by
  obtain ⟨hx, hc, hr⟩ := h
  obtain ⟨z, S, N, W, hD⟩ := hr rfl
  have hS6 := hS z S N W hD
  have hT := hc.1
  have m1 : A (61, 0) 1 = nJ T := hD.2.1.2.2.1
  have m3 : A (61, 0) 3 = nJ S := hD.2.1.2.2.2.2.2.1
  rw [eRo_readSentence_0, eMo_readsSentence_0, hc.2.1, m1, m3]
  obtain ⟨I1, A1, i1, f1, p1, r, r', o1, o2, x1, y1, hx1, -, hq⟩ := tk_num (J := J) (B := B) d d' 0 (nJ T - 1) (by decide) hx
  rw [o1, o2, bI_some, bI_some]
  simp only [gI_hh, gJ_hh, nJ_nat (show S < 2147483648 by omega), bnk (show S < 6 by omega) (by omega)]
  have w1 : TxR I1 (up2 A1 (64, 0) S r') by_ n 0 tk i1 f1 p1 := wr_tx hx1 (fun _ _ => rfl) (fun a ha => funext fun k => up_ne _ _ _ _ (fun z => by rw [z] at ha; exact absurd ha (by decide)))
  obtain ⟨I2, A2, i2, f2, p2, q, q', o3, o4, x2, y2, hx2, hk2, hq2⟩ := tk_num (J := J) (B := B) d d' 0 299 (by decide) w1
  rw [o3, o4, bI_some, bI_some]
  simp only [gI_hh, gJ_hh]
  have w2 : TxR I2 (up2 A2 (65, 0) S q') by_ n 0 tk i2 f2 p2 := wr_tx hx2 (fun _ _ => rfl) (fun a ha => funext fun k => up_ne _ _ _ _ (fun z => by rw [z] at ha; exact absurd ha (by decide)))
  obtain ⟨I3, A3, i3, f3, p3, u, u', o5, o6, x3, y3, hx3, hk3, hq3⟩ := tk_num (J := J) (B := B) d d' 0 99 (by decide) w2
  rw [o5, o6, bI_some, bI_some]
  simp only [gI_hh, gJ_hh]
  have e7 := hx3.2.2.2.2.1
  have hfl := hx3.2.2.2.2.2.2.2.2.1
  have a61 : A3 (61, 0) = A (61, 0) := by
    rw [y3.s (by decide)]
    refine (funext fun k => up_ne _ _ _ _ (by decide)).trans ?_
    rw [y2.s (by decide)]
    refine (funext fun k => up_ne _ _ _ _ (by decide)).trans ?_
    exact y1.s (by decide)
  have i3s : ∀ s, s ≠ 1 → I3 (s, 5) = I (s, 5) := fun s hs => by rw [x3.s hs, x2.s hs, x1.s hs]
  have hc3 : DrC I3 dy T := hc.ext (by rw [i3s 8 (by decide)]) (i3s 10 (by decide))
  have a3s : ∀ s, s ≠ 43 → s ≠ 64 → s ≠ 65 → A3 (s, 0) = A (s, 0) := fun s h1 h2 h3 => by
    rw [y3.s h1]
    refine (funext fun k => up_ne _ _ _ _ (fun z => h3 (Prod.mk.inj z).1)).trans ?_
    rw [y2.s h1]
    refine (funext fun k => up_ne _ _ _ _ (fun z => h2 (Prod.mk.inj z).1)).trans ?_
    exact y1.s h1
  have a64 : ∀ k, A3 (64, 0) k = if k = S then r' else A (64, 0) k := fun k => by
    rw [y3.s (by decide), up_ne _ _ _ _ (by decide), y2.s (by decide)]
    by_cases e : k = S
    · rw [e, up_same, if_pos rfl]
    · rw [up_neK _ _ e, if_neg e, y1.s (by decide)]
  have a65 : ∀ k, A3 (65, 0) k = if k = S then q' else A (65, 0) k := fun k => by
    rw [y3.s (by decide)]
    by_cases e : k = S
    · rw [e, up_same, if_pos rfl]
    · rw [up_neK _ _ e, if_neg e, y2.s (by decide), up_ne _ _ _ _ (by decide), y1.s (by decide)]
  have hfm : FrRM A (up2 (up2 A3 (66, 0) S u') (61, 0) 3 (nJ (S + 1))) := (((((FrRM.of y1).tr (FrRM.up (by decide) (by decide))).tr (FrRM.of y2)).tr (FrRM.up (by decide) (by decide))).tr (FrRM.of y3)).tr ((FrRM.up (by decide) (by decide)).tr (FrRM.up (by decide) (by decide)))
  have hax : ∀ a : Ad, (a.1 = 43 ∨ a.1 = 68) → up2 (up2 A3 (66, 0) S u') (61, 0) 3 (nJ (S + 1)) a = A3 a := fun a ha => funext fun k => by rw [up_ne _ _ _ _ (fun z => by rw [z] at ha; exact absurd ha (by decide)), up_ne _ _ _ _ (fun z => by rw [z] at ha; exact absurd ha (by decide))]
  have hfx : FrRC I I3 := ((FrRC.of x1).tr (FrRC.of x2)).tr (FrRC.of x3)
  obtain ⟨⟨d11, d12, d13, d14⟩, ⟨e1, e2, e3, e4, e5, e6, e8, e9⟩, d3, d4, d5, d6, d7, d8, d9⟩ := hD
  have es : I3 (8, 5) 3 = nJ S := by rw [i3s 8 (by decide)]; exact e5
  rw [e7, a61, m3, es, bnd hS6 (by omega), nJ_nat (show S < 2147483648 by omega), nJ_succ]
  simp only [bnk (show S < 6 by omega) (by omega)]
  by_cases hf : f3 = 0
  · have hf2 : f2 = 0 := by
      by_cases e : f2 = 0
      · exact e
      · have := hk3 e
        omega
    have hf1 : f1 = 0 := by
      by_cases e : f1 = 0
      · exact e
      · have := hk2 e
        omega
    obtain ⟨a1, a2, a3, -⟩ := hq hf1
    obtain ⟨b1, b2, b3, -⟩ := hq2 hf2
    obtain ⟨c1, c2, c3, -⟩ := hq3 hf
    subst a1
    subst b1
    subst c1
    obtain ⟨t, ht, rfl⟩ := inn_of hT a2 a3
    obtain ⟨v, hv, rfl⟩ := rng_of (m := 299) (by decide) b2 b3
    obtain ⟨w, hw, rfl⟩ := rng_of (m := 99) (by decide) c2 c3
    rw [hf, if_pos (show nJ 0 = 0 from rfl)]
    have nI : ∀ s, s ≠ 13 → s ≠ 14 → s ≠ 15 → s ≠ 8 → s ≠ 1 → up2 (up2 (up2 (up2 I3 (13, 5) S (nJ t)) (14, 5) S (nJ v)) (15, 5) S (nJ w)) (8, 5) 3 (nJ (S + 1)) (s, 5) = I (s, 5) := fun s h1 h2 h3 h4 h5 => by
      refine (funext fun k => ?_).trans (i3s s h5)
      rw [up_ne _ _ _ _ (fun z => h4 (Prod.mk.inj z).1), up_ne _ _ _ _ (fun z => h3 (Prod.mk.inj z).1), up_ne _ _ _ _ (fun z => h2 (Prod.mk.inj z).1), up_ne _ _ _ _ (fun z => h1 (Prod.mk.inj z).1)]
    have nA : ∀ s, s ≠ 66 → s ≠ 61 → s ≠ 43 → s ≠ 64 → s ≠ 65 → up2 (up2 A3 (66, 0) S (nJ w)) (61, 0) 3 (nJ (S + 1)) (s, 0) = A (s, 0) := fun s h1 h2 h3 h4 h5 => by
      refine (funext fun k => ?_).trans (a3s s h3 h4 h5)
      rw [up_ne _ _ _ _ (fun z => h2 (Prod.mk.inj z).1), up_ne _ _ _ _ (fun z => h1 (Prod.mk.inj z).1)]
    have i8 : I3 (8, 5) = I (8, 5) := i3s 8 (by decide)
    refine ⟨_, _, i3, f3, p3, dy, T, rfl, rfl, hfx.tr ((((FrRC.up (by decide) (by decide)).tr (FrRC.up (by decide) (by decide))).tr (FrRC.up (by decide) (by decide))).tr (FrRC.up (by decide) (by decide))), hfm, wr_tx hx3 (fun a ha => funext fun k => by rw [up_ne _ _ _ _ (fun z => by rw [z] at ha; exact absurd ha (by decide)), up_ne _ _ _ _ (fun z => by rw [z] at ha; exact absurd ha (by decide)), up_ne _ _ _ _ (fun z => by rw [z] at ha; exact absurd ha (by decide)), up_ne _ _ _ _ (fun z => by rw [z] at ha; exact absurd ha (by decide))]) hax, hc.ext ?_ (nI 10 (by decide) (by decide) (by decide) (by decide) (by decide)), fun _ => ⟨z, S + 1, N, W, ⟨d11, by omega, d13, d14⟩, ⟨?_, ?_, ?_, ?_, up_same _ _ _ _, up_same _ _ _ _, ?_, ?_⟩, ?_, ?_, d5, ?_, d7, fun k hk => ?_, ?_⟩⟩
    · rw [up_neK _ _ (by decide), up_ne _ _ _ _ (by decide), up_ne _ _ _ _ (by decide), up_ne _ _ _ _ (by decide), i8]
    · rw [up_neK _ _ (by decide), up_ne _ _ _ _ (by decide), up_ne _ _ _ _ (by decide), up_ne _ _ _ _ (by decide), i8, up_neK _ _ (by decide), up_ne _ _ _ _ (by decide), a61]; exact e1
    · rw [up_neK _ _ (by decide), up_ne _ _ _ _ (by decide), up_ne _ _ _ _ (by decide), up_ne _ _ _ _ (by decide), i8]; exact e2
    · rw [up_neK _ _ (by decide), up_ne _ _ _ _ (by decide), a61]; exact e3
    · rw [up_neK _ _ (by decide), up_ne _ _ _ _ (by decide), a61]; exact e4
    · rw [up_neK _ _ (by decide), up_ne _ _ _ _ (by decide), up_ne _ _ _ _ (by decide), up_ne _ _ _ _ (by decide), i8]; exact e8
    · rw [up_neK _ _ (by decide), up_ne _ _ _ _ (by decide), a61]; exact e9
    · rw [nI 9 (by decide) (by decide) (by decide) (by decide) (by decide), nA 62 (by decide) (by decide) (by decide) (by decide) (by decide)]; exact d3
    · rw [nI 10 (by decide) (by decide) (by decide) (by decide) (by decide), nA 63 (by decide) (by decide) (by decide) (by decide) (by decide)]; exact d4
    · rw [nI 12 (by decide) (by decide) (by decide) (by decide) (by decide)]; exact d6
    · have j13 : up2 (up2 (up2 (up2 I3 (13, 5) S (nJ t)) (14, 5) S (nJ v)) (15, 5) S (nJ w)) (8, 5) 3 (nJ (S + 1)) (13, 5) k = if k = S then nJ t else I3 (13, 5) k := by
        rw [up_ne _ _ _ _ (by decide), up_ne _ _ _ _ (by decide), up_ne _ _ _ _ (by decide), up_row]
      have j14 : up2 (up2 (up2 (up2 I3 (13, 5) S (nJ t)) (14, 5) S (nJ v)) (15, 5) S (nJ w)) (8, 5) 3 (nJ (S + 1)) (14, 5) k = if k = S then nJ v else I3 (14, 5) k := by
        rw [up_ne _ _ _ _ (by decide), up_ne _ _ _ _ (by decide), up_row, up_ne _ _ _ _ (by decide)]
      have j15 : up2 (up2 (up2 (up2 I3 (13, 5) S (nJ t)) (14, 5) S (nJ v)) (15, 5) S (nJ w)) (8, 5) 3 (nJ (S + 1)) (15, 5) k = if k = S then nJ w else I3 (15, 5) k := by
        rw [up_ne _ _ _ _ (by decide), up_row, up_ne _ _ _ _ (by decide), up_ne _ _ _ _ (by decide)]
      have j64 : up2 (up2 A3 (66, 0) S (nJ w)) (61, 0) 3 (nJ (S + 1)) (64, 0) k = if k = S then nJ t else A (64, 0) k := by
        rw [up_ne _ _ _ _ (by decide), up_ne _ _ _ _ (by decide), a64]
      have j65 : up2 (up2 A3 (66, 0) S (nJ w)) (61, 0) 3 (nJ (S + 1)) (65, 0) k = if k = S then nJ v else A (65, 0) k := by
        rw [up_ne _ _ _ _ (by decide), up_ne _ _ _ _ (by decide), a65]
      have j66 : up2 (up2 A3 (66, 0) S (nJ w)) (61, 0) 3 (nJ (S + 1)) (66, 0) k = if k = S then nJ w else A (66, 0) k := by
        rw [up_ne _ _ _ _ (by decide), up_row, a3s 66 (by decide) (by decide) (by decide)]
      rw [j13, j14, j15, j64, j65, j66]
      by_cases e : k = S
      · rw [if_pos e, if_pos e, if_pos e, if_pos e, if_pos e, if_pos e]
        exact ⟨⟨rfl, t, ht, rfl⟩, ⟨rfl, v, by omega, rfl⟩, ⟨rfl, w, by omega, rfl⟩⟩
      · simp only [if_neg e]
        rw [i3s 13 (by decide), i3s 14 (by decide), i3s 15 (by decide)]
        exact d8 k (by omega)
    · rw [nI 16 (by decide) (by decide) (by decide) (by decide) (by decide), nA 67 (by decide) (by decide) (by decide) (by decide) (by decide)]; exact d9
  · rw [if_neg (ne_nL (b := 0) hf (by omega) (by decide))]
    exact ⟨I3, _, i3, f3, p3, dy, T, rfl, rfl, hfx, hfm, wr_tx hx3 (fun _ _ => rfl) hax, hc3, fun z => absurd z hf⟩
