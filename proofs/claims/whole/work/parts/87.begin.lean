/-! BEGINNING: a walk at its first day -/
theorem fill_go {f : Nat → IT → JT → Option Rs} {P : Ad → Prop} [DecidablePred P] {x : Ad → Int32} {n : Nat} {g : Nat → IT → IT} (hg : ∀ k I b i, g k I b i = if P b ∧ i = k then x b else I b i) (h1 : ∀ k I J, k < n → f k I J = f (k + 1) (g k I) J) : ∀ j k I J, k + j = n → ∃ I', f k I J = f n I' J ∧ ∀ b i, I' b i = if P b ∧ k ≤ i ∧ i < n then x b else I b i := by
  intro j
  induction j with
  | zero =>
    intro k I J hk
    obtain rfl : k = n := by omega
    exact ⟨I, rfl, fun b i => (if_neg (fun z => by omega)).symm⟩
  | succ j ih =>
    intro k I J hk
    obtain ⟨I', e, h2⟩ := ih (k + 1) (g k I) J (by omega)
    refine ⟨I', (h1 k I J (by omega)).trans e, fun b i => ?_⟩
    rw [h2 b i, hg]
    by_cases hb : P b
    · by_cases e1 : i = k
      · rw [if_neg (fun z => by omega), if_pos ⟨hb, e1⟩, if_pos ⟨hb, by omega, by omega⟩]
      · by_cases e2 : k + 1 ≤ i ∧ i < n
        · rw [if_pos ⟨hb, e2⟩, if_pos ⟨hb, by omega, by omega⟩]
        · rw [if_neg (fun z => e2 z.2), if_neg (fun z => e1 z.2), if_neg (fun z => by omega)]
    · rw [if_neg (fun z => hb z.1), if_neg (fun z => hb z.1), if_neg (fun z => hb z.1)]
theorem fill_of {d s n L : Nat} {x : Int32} {I : IT} {J : JT} (e0 : ∀ I J, ev d mAr_fill 0 [vR (s, n), vI x, vU, vU] [] (hh I J) = ev d mAr_fill 5 [vR (s, n), vI x, vI (nJ 0), vI (nJ L)] [] (hh I J))
    (e5 : ∀ x2 x3 I J, ev d mAr_fill 5 [vR (s, n), vI x, vI x2, vI x3] [] (hh I J) = if x2 < x3 then if x2 < 0 ∨ L ≤ x2.toNatClampNeg then none else ev d mAr_fill 5 [vR (s, n), vI x, vI (x2 + 1), vI x3] [] (hh (up2 I (s, n) x2.toNatClampNeg x) J) else some (none, hh I J)) (hL : L ≤ 1000) :
    Tr (ev d mAr_fill 0 [vR (s, n), vI x, vU, vU] [] (hh I J)) (fun v I' J' => v = none ∧ (∀ i, i < L → I' (s, n) i = x) ∧ (∀ b i, ¬ (b = (s, n) ∧ i < L) → I' b i = I b i) ∧ J' = J) := by
  obtain ⟨I', e, h2⟩ := fill_go (f := fun k I J => ev d mAr_fill 5 [vR (s, n), vI x, vI (nJ k), vI (nJ L)] [] (hh I J)) (P := fun b => b = (s, n)) (x := fun _ => x) (n := L) (g := fun k I => up2 I (s, n) k x) (fun k I b i => up_at _ _ _ _ _ _) (fun k I J hk => by
    show ev d mAr_fill 5 [vR (s, n), vI x, vI (nJ k), vI (nJ L)] [] (hh I J) = ev d mAr_fill 5 [vR (s, n), vI x, vI (nJ (k + 1)), vI (nJ L)] [] (hh (up2 I (s, n) k x) J)
    rw [e5, if_pos (lt_nJ hk (by omega)), bnd hk (by omega), nJ_nat (by omega), nJ_succ]) L 0 I J (by omega)
  have e : ev d mAr_fill 5 [vR (s, n), vI x, vI (nJ 0), vI (nJ L)] [] (hh I J) = ev d mAr_fill 5 [vR (s, n), vI x, vI (nJ L), vI (nJ L)] [] (hh I' J) := e
  rw [e0, e, e5, if_neg (nlt_nJ (Nat.le_refl L) (by omega))]
  exact Tr.ret ⟨rfl, fun i hi => (h2 (s, n) i).trans (if_pos ⟨rfl, Nat.zero_le i, hi⟩), fun b i hb => (h2 b i).trans (if_neg (fun z => hb ⟨z.1, z.2.2⟩)), rfl⟩
/-- the walk of the class at its beginning -/
def BgC (I I' : IT) (n n1 : Nat) : Prop := (∀ k, k < 4 → I' (17, n) k = 0) ∧ (∀ k, k < 3 → I' (18, n) k = 0 ∧ I' (19, n) k = 0 ∧ I' (20, n) k = I (16, n1) k ∧ I' (21, n) k = 0) ∧ (∀ k, k < 6 → I' (22, n) k = -1 ∧ I' (23, n) k = -1) ∧ FwC I I' n
theorem cBegin (d n n1 : Nat) (I : IT) (J : JT) : Tr (ev (d + 1) mWa_begin 0 [vR (17, n), vR (8, n1)] [] (hh I J)) (fun v I' J' => v = none ∧ BgC I I' n n1 ∧ J' = J) := by
  rw [eWa_begin_0]
  refine Tr.bV ((fill_of (fun I J => eAr_fill_18_0 d n 0 I J) (fun x2 x3 I J => eAr_fill_18_5 d n 0 x2 x3 I J) (by decide)).mono fun v I1 J1 ⟨a1, a2, a3, a4⟩ => ⟨a1, ?_⟩)
  refine Tr.bV ((fill_of (fun I J => eAr_fill_19_0 d n 0 I J) (fun x2 x3 I J => eAr_fill_19_5 d n 0 x2 x3 I J) (by decide)).mono fun v I2 J2 ⟨b1, b2, b3, b4⟩ => ⟨b1, ?_⟩)
  refine Tr.bV ((fill_of (fun I J => eAr_fill_21_0 d n 0 I J) (fun x2 x3 I J => eAr_fill_21_5 d n 0 x2 x3 I J) (by decide)).mono fun v I3 J3 ⟨c1, c2, c3, c4⟩ => ⟨c1, ?_⟩)
  refine Tr.bV ((fill_of (fun I J => eAr_fill_22_0 d n (-1) I J) (fun x2 x3 I J => eAr_fill_22_5 d n (-1) x2 x3 I J) (by decide)).mono fun v I4 J4 ⟨d1, d2, d3, d4⟩ => ⟨d1, ?_⟩)
  refine Tr.bV ((fill_of (fun I J => eAr_fill_23_0 d n (-1) I J) (fun x2 x3 I J => eAr_fill_23_5 d n (-1) x2 x3 I J) (by decide)).mono fun v I5 J5 ⟨f1, f2, f3, f4⟩ => ⟨f1, ?_⟩)
  have g3 : ∀ b i, b.1 ≠ 23 → I5 b i = I4 b i := fun b i hb => f3 b i (fun z => hb (by rw [z.1]))
  have g2 : ∀ b i, b.1 ≠ 22 → I4 b i = I3 b i := fun b i hb => d3 b i (fun z => hb (by rw [z.1]))
  have g1 : ∀ b i, b.1 ≠ 21 → I3 b i = I2 b i := fun b i hb => c3 b i (fun z => hb (by rw [z.1]))
  have g0 : ∀ b i, b.1 ≠ 19 → I2 b i = I1 b i := fun b i hb => b3 b i (fun z => hb (by rw [z.1]))
  have gg : ∀ b i, b.1 ≠ 18 → I1 b i = up2 (up2 (up2 (up2 I (17, n) 0 0) (17, n) 1 0) (17, n) 2 0) (17, n) 3 0 b i := fun b i hb => a3 b i (fun z => hb (by rw [z.1]))
  refine Tr.ret ⟨rfl, ⟨fun k hk => ?_, fun k hk => ⟨?_, ?_, ?_, ?_⟩, fun k hk => ⟨?_, ?_⟩, fun a ha => funext fun k => ?_⟩, ?_⟩
  · show cpA I5 (20, n) (16, n1) 0 0 3 (17, n) k = 0
    rw [cpA_ne (fun z => by cases (Prod.mk.inj z).1), g3 (17, n) k (show (17 : Nat) ≠ 23 by decide), g2 (17, n) k (show (17 : Nat) ≠ 22 by decide), g1 (17, n) k (show (17 : Nat) ≠ 21 by decide), g0 (17, n) k (show (17 : Nat) ≠ 19 by decide), gg (17, n) k (show (17 : Nat) ≠ 18 by decide)]
    have : k = 0 ∨ k = 1 ∨ k = 2 ∨ k = 3 := by omega
    rcases this with rfl | rfl | rfl | rfl <;> simp [up2]
  · show cpA I5 (20, n) (16, n1) 0 0 3 (18, n) k = 0
    rw [cpA_ne (fun z => by cases (Prod.mk.inj z).1), g3 (18, n) k (show (18 : Nat) ≠ 23 by decide), g2 (18, n) k (show (18 : Nat) ≠ 22 by decide), g1 (18, n) k (show (18 : Nat) ≠ 21 by decide), g0 (18, n) k (show (18 : Nat) ≠ 19 by decide), a2 k hk]
  · show cpA I5 (20, n) (16, n1) 0 0 3 (19, n) k = 0
    rw [cpA_ne (fun z => by cases (Prod.mk.inj z).1), g3 (19, n) k (show (19 : Nat) ≠ 23 by decide), g2 (19, n) k (show (19 : Nat) ≠ 22 by decide), g1 (19, n) k (show (19 : Nat) ≠ 21 by decide), b2 k hk]
  · show cpA I5 (20, n) (16, n1) 0 0 3 (20, n) k = I (16, n1) k
    rw [cpA_in hk, g3 (16, n1) k (show (16 : Nat) ≠ 23 by decide), g2 (16, n1) k (show (16 : Nat) ≠ 22 by decide), g1 (16, n1) k (show (16 : Nat) ≠ 21 by decide), g0 (16, n1) k (show (16 : Nat) ≠ 19 by decide), gg (16, n1) k (show (16 : Nat) ≠ 18 by decide), up_ne _ _ _ _ (fun z => by cases (Prod.mk.inj z).1), up_ne _ _ _ _ (fun z => by cases (Prod.mk.inj z).1), up_ne _ _ _ _ (fun z => by cases (Prod.mk.inj z).1), up_ne _ _ _ _ (fun z => by cases (Prod.mk.inj z).1)]
  · show cpA I5 (20, n) (16, n1) 0 0 3 (21, n) k = 0
    rw [cpA_ne (fun z => by cases (Prod.mk.inj z).1), g3 (21, n) k (show (21 : Nat) ≠ 23 by decide), g2 (21, n) k (show (21 : Nat) ≠ 22 by decide), c2 k hk]
  · show cpA I5 (20, n) (16, n1) 0 0 3 (22, n) k = -1
    rw [cpA_ne (fun z => by cases (Prod.mk.inj z).1), g3 (22, n) k (show (22 : Nat) ≠ 23 by decide), d2 k hk]
  · show cpA I5 (20, n) (16, n1) 0 0 3 (23, n) k = -1
    rw [cpA_ne (fun z => by cases (Prod.mk.inj z).1), f2 k hk]
  · show cpA I5 (20, n) (16, n1) 0 0 3 a k = I a k
    have hne : ∀ s, 17 ≤ s → s ≤ 23 → a ≠ (s, n) := fun s h1 h2 q => ha (by rw [q]; exact ⟨h1, h2, rfl⟩)
    rw [cpA_ne (hne 20 (by decide) (by decide)), f3 a k (fun z => hne 23 (by decide) (by decide) z.1), gI_hh, d3 a k (fun z => hne 22 (by decide) (by decide) z.1), gI_hh, c3 a k (fun z => hne 21 (by decide) (by decide) z.1), gI_hh, b3 a k (fun z => hne 19 (by decide) (by decide) z.1), gI_hh, a3 a k (fun z => hne 18 (by decide) (by decide) z.1), up_ne _ _ _ _ (hne 17 (by decide) (by decide)), up_ne _ _ _ _ (hne 17 (by decide) (by decide)), up_ne _ _ _ _ (hne 17 (by decide) (by decide)), up_ne _ _ _ _ (hne 17 (by decide) (by decide))]
  · show J5 = J
    rw [f4, gJ_hh, d4, gJ_hh, c4, gJ_hh, b4, gJ_hh, a4]
