/-! SCENES copied (the class); what a scene's relation looks at -/
def CpI (I Ic : IT) (n n1 : Nat) (l : List (Nat × Nat × Nat)) : Prop := (∀ r ∈ l, ∀ k, r.2.1 ≤ k → k < r.2.2 → Ic (r.1, n) k = I (r.1, n1) k) ∧ (∀ a : Ad, ¬ (7 ≤ a.1 ∧ a.1 ≤ 27 ∧ a.2 = n) → Ic a = I a) ∧ Ic (7, n) 10 = I (7, n) 10
theorem CpI.nil (I : IT) (n n1 : Nat) : CpI I I n n1 [] := ⟨fun r hr => (by cases hr), fun _ _ => rfl, rfl⟩
theorem CpI.src {I Ic : IT} {n n1 : Nat} {l : List (Nat × Nat × Nat)} (hn : n ≠ n1) (h : CpI I Ic n n1 l) (f k : Nat) : Ic (f, n1) k = I (f, n1) k := by
  rw [h.2.1 (f, n1) (fun q => hn q.2.2.symm)]
theorem CpI.u {I Ic : IT} {n n1 : Nat} {l : List (Nat × Nat × Nat)} (hn : n ≠ n1) (f k : Nat) (hf : 7 ≤ f ∧ f ≤ 27) (hk : ¬ (f = 7 ∧ k = 10)) (h : CpI I Ic n n1 l) : CpI I (up2 Ic (f, n) k (Ic (f, n1) k)) n n1 ((f, k, k + 1) :: l) := by
  obtain ⟨h1, h2, h3⟩ := id h
  refine ⟨fun r hr j j1 j2 => ?_, fun a ha => ?_, ?_⟩
  · rw [up_at]
    by_cases e : ((r.1, n) : Ad) = (f, n) ∧ j = k
    · rw [if_pos e, h.src hn, (Prod.mk.inj e.1).1, e.2]
    · rw [if_neg e]
      rcases List.mem_cons.mp hr with rfl | hr
      · exact absurd ⟨rfl, by show j = k; have a1 : k ≤ j := j1; have a2 : j < k + 1 := j2; omega⟩ e
      · exact h1 r hr j j1 j2
  · funext j
    rw [up_ne _ _ _ _ (fun e => ha (by rw [e]; exact ⟨hf.1, hf.2, rfl⟩)), h2 a ha]
  · rw [up_at, if_neg (fun e => hk ⟨(Prod.mk.inj e.1).1.symm, e.2.symm⟩)]
    exact h3
theorem CpI.c {I Ic : IT} {n n1 : Nat} {l : List (Nat × Nat × Nat)} (hn : n ≠ n1) (f L : Nat) (hf : 8 ≤ f ∧ f ≤ 27) (h : CpI I Ic n n1 l) : CpI I (cpA Ic (f, n) (f, n1) 0 0 L) n n1 ((f, 0, L) :: l) := by
  obtain ⟨h1, h2, h3⟩ := id h
  refine ⟨fun r hr j j1 j2 => ?_, fun a ha => ?_, ?_⟩
  · rw [cpA_at]
    by_cases e : ((r.1, n) : Ad) = (f, n) ∧ 0 ≤ j ∧ j < 0 + L
    · rw [if_pos e, h.src hn, (Prod.mk.inj e.1).1, Nat.zero_add, Nat.sub_zero]
    · rw [if_neg e]
      rcases List.mem_cons.mp hr with rfl | hr
      · exact absurd ⟨rfl, Nat.zero_le j, by show j < 0 + L; have a2 : j < L := j2; omega⟩ e
      · exact h1 r hr j j1 j2
  · funext j
    rw [cpA_ne (fun e => ha (by rw [e]; exact ⟨by show 7 ≤ f; omega, hf.2, rfl⟩)), h2 a ha]
  · rw [cpA_ne (fun e => by have := (Prod.mk.inj e).1; omega)]
    exact h3
def sRows : List (Nat × Nat × Nat) := [(7, 9, 10), (27, 0, 560), (7, 7, 8), (26, 0, 10), (25, 0, 10), (24, 0, 10), (7, 3, 4), (7, 2, 3), (23, 0, 6), (22, 0, 6), (21, 0, 3), (20, 0, 3), (19, 0, 3), (18, 0, 3), (17, 3, 4), (17, 2, 3), (17, 1, 2), (17, 0, 1), (16, 0, 3), (15, 0, 6), (14, 0, 6), (13, 0, 6), (12, 0, 8), (11, 0, 64), (10, 0, 64), (9, 0, 8), (8, 4, 5), (8, 3, 4), (8, 2, 3), (8, 1, 2), (8, 0, 1)]
theorem cScene (d n n1 : Nat) (hn : n ≠ n1) (I : IT) (J : JT) (h0 : I (8, n1) 0 = 0 ∨ I (8, n1) 0 = 1) : Tr (ev (d + 1) mSc_copyFrom 0 [vR (7, n), vR (7, n1)] [] (hh I J)) (fun v I' J' => v = none ∧ CpI I I' n n1 sRows ∧ J' = J) := by
  rw [eSc_copyFrom_0, eRo_copyFrom_0, if_pos h0, eRo_copyFrom_4, eRo_copyFrom_8, eRo_copyFrom_12, eRo_copyFrom_16, eRo_copyFrom_20, eRo_copyFrom_28, eRo_copyFrom_36, eRo_copyFrom_44, eRo_copyFrom_52, eRo_copyFrom_60, eRo_copyFrom_68, eRo_copyFrom_76, eRo_copyFrom_84, bV_some, gI_hh, gJ_hh]
  have g := CpI.nil I n n1
  have g := g.u hn 8 0 (by decide) (by decide)
  have g := g.u hn 8 1 (by decide) (by decide)
  have g := g.u hn 8 2 (by decide) (by decide)
  have g := g.u hn 8 3 (by decide) (by decide)
  have g := g.u hn 8 4 (by decide) (by decide)
  have g := g.c hn 9 8 (by decide)
  have g := g.c hn 10 64 (by decide)
  have g := g.c hn 11 64 (by decide)
  have g := g.c hn 12 8 (by decide)
  have g := g.c hn 13 6 (by decide)
  have g := g.c hn 14 6 (by decide)
  have g := g.c hn 15 6 (by decide)
  have g := g.c hn 16 3 (by decide)
  generalize (cpA _ (16, n) (16, n1) 0 0 3 : IT) = I1 at g ⊢
  rw [eSc_copyFrom_5, eWa_copyFrom_0, eWa_copyFrom_4, eWa_copyFrom_8, eWa_copyFrom_12, eWa_copyFrom_16, eWa_copyFrom_24, eWa_copyFrom_32, eWa_copyFrom_40, eWa_copyFrom_48, eWa_copyFrom_56, eWa_copyFrom_64, bV_some, gI_hh, gJ_hh]
  have g := g.u hn 17 0 (by decide) (by decide)
  have g := g.u hn 17 1 (by decide) (by decide)
  have g := g.u hn 17 2 (by decide) (by decide)
  have g := g.u hn 17 3 (by decide) (by decide)
  have g := g.c hn 18 3 (by decide)
  have g := g.c hn 19 3 (by decide)
  have g := g.c hn 20 3 (by decide)
  have g := g.c hn 21 3 (by decide)
  have g := g.c hn 22 6 (by decide)
  have g := g.c hn 23 6 (by decide)
  generalize (cpA _ (23, n) (23, n1) 0 0 6 : IT) = I2 at g ⊢
  rw [eSc_copyFrom_10, eSc_copyFrom_14, eSc_copyFrom_18, eSc_copyFrom_26, eSc_copyFrom_34, eSc_copyFrom_42, eSc_copyFrom_46, eSc_copyFrom_54, eSc_copyFrom_58]
  have g := g.u hn 7 2 (by decide) (by decide)
  have g := g.u hn 7 3 (by decide) (by decide)
  have g := g.c hn 24 10 (by decide)
  have g := g.c hn 25 10 (by decide)
  have g := g.c hn 26 10 (by decide)
  have g := g.u hn 7 7 (by decide) (by decide)
  have g := g.c hn 27 560 (by decide)
  have g := g.u hn 7 9 (by decide) (by decide)
  exact Tr.ret ⟨rfl, g, rfl⟩
/-- places of a scene of the class -/
def inS (f k : Nat) : Prop := ∃ r ∈ sRows, r.1 = f ∧ r.2.1 ≤ k ∧ k < r.2.2
/-- places of a scene of the reference -/
def inT (f k : Nat) : Prop := (f = 43 ∧ (k = 25 ∨ k = 48)) ∨ (f = 44 ∧ k < 13) ∨ (f = 45 ∧ k < 8) ∨ ((f = 46 ∨ f = 47) ∧ k < 64) ∨ ((48 ≤ f ∧ f ≤ 52) ∧ k < 6) ∨ ((53 ≤ f ∧ f ≤ 56) ∧ k < 3) ∨ ((57 ≤ f ∧ f ≤ 59) ∧ k < 10) ∨ (f = 60 ∧ k < 3) ∨ (f = 78 ∧ k < 580)
theorem sumT_ext {f g : Nat → Nat} : ∀ n, (∀ k, k < n → f k = g k) → sumT f n = sumT g n
  | 0, _ => rfl
  | n + 1, h => by
    unfold sumT
    rw [sumT_ext n (fun k hk => h k (by omega)), h n (by omega)]
theorem RoR_ext2 {c m c' m' : FT} {T S N : Nat} (c8 : ∀ k, k < 5 → c' 8 k = c 8 k) (c9 : ∀ k, k < 8 → c' 9 k = c 9 k) (c10 : ∀ k, k < 64 → c' 10 k = c 10 k) (c11 : ∀ k, k < 64 → c' 11 k = c 11 k) (c12 : ∀ k, k < 8 → c' 12 k = c 12 k) (c13 : ∀ k, k < 6 → c' 13 k = c 13 k) (c14 : ∀ k, k < 6 → c' 14 k = c 14 k) (c15 : ∀ k, k < 6 → c' 15 k = c 15 k) (c16 : ∀ k, k < 3 → c' 16 k = c 16 k)
    (m44 : ∀ k, k < 5 → m' 44 k = m 44 k) (m45 : ∀ k, k < 8 → m' 45 k = m 45 k) (m46 : ∀ k, k < 64 → m' 46 k = m 46 k) (m47 : ∀ k, k < 64 → m' 47 k = m 47 k) (m48 : ∀ k, k < 6 → m' 48 k = m 48 k) (m49 : ∀ k, k < 6 → m' 49 k = m 49 k) (m50 : ∀ k, k < 6 → m' 50 k = m 50 k) (m60 : ∀ k, k < 3 → m' 60 k = m 60 k) (h : RoR c m T S N) : RoR c' m' T S N := by
  obtain ⟨⟨hT, hS, hN, h0⟩, h1, ⟨p1, p2, p3, p4, p5, p6, p7⟩, h3, h4, h5⟩ := h
  have ed : ∀ a b, a < T → b < T → dst c' a b = dst c a b := fun a b ha hb => by unfold dst; rw [c11 _ (by omega)]
  have ey : ∀ a b, a < T → b < 8 → dyC c' a b = dyC c a b := fun a b ha hb => by unfold dyC; rw [c10 _ (by omega)]
  refine ⟨⟨hT, hS, hN, h0⟩, ?_, ⟨fun a b ha hb => ?_, fun a ha => ?_, fun a b ha hb => ?_, fun a ha => ?_, fun a b e ha hb he => ?_, fun a ha => ?_, ?_⟩, fun k hk => ?_, fun k hk => ?_, fun k hk => ?_⟩
  · rw [c8 1 (by decide), c8 2 (by decide), c8 3 (by decide), c8 4 (by decide), m44 0 (by decide), m44 1 (by decide), m44 3 (by decide), m44 4 (by decide)]
    exact h1
  · rw [ey a b ha (by omega), c10 _ (by omega), m46 _ (by omega)]
    exact p1 a b ha hb
  · rw [ey a a ha (by omega)]
    exact p2 a ha
  · rw [ed a b ha hb, c11 _ (by omega), m47 _ (by omega)]
    exact p3 a b ha hb
  · rw [ed a a ha ha]
    exact p4 a ha
  · rw [ed a e ha he, ed a b ha hb, ed b e hb he]
    exact p5 a b e ha hb he
  · obtain ⟨z, hz, e1, e2⟩ := p6 a ha
    refine ⟨z, hz, (c12 a (by omega)).trans e1, fun b hb => ?_⟩
    rw [ey a b ha hb]
    exact e2 b hb
  · rw [m44 2 (by decide)]
    obtain ⟨z, hz, e1, e2⟩ := p7
    exact ⟨z, hz, e1, (sumT_ext T (fun k hk => by rw [c12 k (by omega)])).trans e2⟩
  · rw [c9 k (by omega), m45 k (by omega)]
    exact h3 k hk
  · rw [c13 k (by omega), c14 k (by omega), c15 k (by omega), m48 k (by omega), m49 k (by omega), m50 k (by omega)]
    exact h4 k hk
  · rw [c16 k (by omega), m60 k (by omega)]
    exact h5 k hk
theorem inS_row {f lo hi : Nat} (hr : (f, lo, hi) ∈ sRows) {k : Nat} (h1 : lo ≤ k) (h2 : k < hi) : inS f k := ⟨_, hr, rfl, h1, h2⟩
theorem ScR_ext {c m c' m' : FT} {q : Nat} (hc : ∀ f k, inS f k → c' f k = c f k) (hm : ∀ f k, inT f k → m' f k = m f k) (h : ScR c m q) : ScR c' m' q := by
  obtain ⟨T, S, N, h1, h2, ⟨dz, hdz, edz⟩, h4, h5, h6, ⟨L, hL, l1, l2, l3⟩, P, hP, p1, p2, p3⟩ := h
  have hN := h1.1.2.2.1
  have hS := h1.1.2.1
  have r : ∀ f L, (f, 0, L) ∈ sRows → ∀ k, k < L → c' f k = c f k := fun f L hr k hk => hc f k (inS_row hr (Nat.zero_le k) hk)
  have r1 : ∀ f k, (f, k, k + 1) ∈ sRows → c' f k = c f k := fun f k hr => hc f k (inS_row hr (Nat.le_refl k) (Nat.lt_succ_self k))
  have c17 : ∀ k, k < 4 → c' 17 k = c 17 k := fun k hk => by
    have e : k = 0 ∨ k = 1 ∨ k = 2 ∨ k = 3 := by omega
    rcases e with rfl | rfl | rfl | rfl
    · exact r1 17 0 (by decide)
    · exact r1 17 1 (by decide)
    · exact r1 17 2 (by decide)
    · exact r1 17 3 (by decide)
  have c8 : ∀ k, k < 5 → c' 8 k = c 8 k := fun k hk => by
    have e : k = 0 ∨ k = 1 ∨ k = 2 ∨ k = 3 ∨ k = 4 := by omega
    rcases e with rfl | rfl | rfl | rfl | rfl
    · exact r1 8 0 (by decide)
    · exact r1 8 1 (by decide)
    · exact r1 8 2 (by decide)
    · exact r1 8 3 (by decide)
    · exact r1 8 4 (by decide)
  have cW : ∀ f k, 17 ≤ f → f ≤ 23 → (f = 17 → k < 4) → (18 ≤ f → f ≤ 21 → k < 3) → (22 ≤ f → k < 6) → c' f k = c f k := fun f k f1 f2 a b e => by
    have q : f = 17 ∨ f = 18 ∨ f = 19 ∨ f = 20 ∨ f = 21 ∨ f = 22 ∨ f = 23 := by omega
    rcases q with rfl | rfl | rfl | rfl | rfl | rfl | rfl
    · exact c17 k (a rfl)
    · exact r 18 3 (by decide) k (b (by decide) (by decide))
    · exact r 19 3 (by decide) k (b (by decide) (by decide))
    · exact r 20 3 (by decide) k (b (by decide) (by decide))
    · exact r 21 3 (by decide) k (b (by decide) (by decide))
    · exact r 22 6 (by decide) k (e (by decide))
    · exact r 23 6 (by decide) k (e (by decide))
  have m44 : ∀ k, k < 13 → m' 44 k = m 44 k := fun k hk => hm 44 k (Or.inr (Or.inl ⟨rfl, hk⟩))
  refine ⟨T, S, N, RoR_ext2 c8 (r 9 8 (by decide)) (r 10 64 (by decide)) (r 11 64 (by decide)) (r 12 8 (by decide)) (r 13 6 (by decide)) (r 14 6 (by decide)) (r 15 6 (by decide)) (r 16 3 (by decide)) (fun k hk => m44 k (by omega)) (fun k hk => hm 45 k (by unfold inT; omega)) (fun k hk => hm 46 k (by unfold inT; omega)) (fun k hk => hm 47 k (by unfold inT; omega)) (fun k hk => hm 48 k (by unfold inT; omega)) (fun k hk => hm 49 k (by unfold inT; omega)) (fun k hk => hm 50 k (by unfold inT; omega)) (fun k hk => hm 60 k (by unfold inT; omega)) h1,
    WkR_ext hN hS cW (fun f k hf k1 k2 k3 => hm f k ?_) h2, ⟨dz, hdz, (c17 0 (by decide)).trans edz⟩, ?_, ?_, ?_, ⟨L, hL, ?_, ?_, fun i hi => ?_⟩, P, hP, ?_, ?_, fun j hj => past_wk hN hS (fun i hi => r 27 560 (by decide) _ (by omega)) (fun i hi => hm 78 _ (by unfold inT; omega)) (p3 j hj)⟩
  · unfold inT
    rcases hf with rfl | hf
    · have := k1 rfl
      omega
    · by_cases e : f ≤ 52
      · have := k3 hf.1 e
        omega
      · have := k2 (by omega)
        omega
  · rw [c8 0 (by decide), hm 43 25 (Or.inl ⟨rfl, Or.inl rfl⟩)]; exact h4
  · rw [r1 7 2 (by decide), m44 12 (by decide)]; exact h5
  · rw [r1 7 3 (by decide), m44 11 (by decide)]; exact h6
  · rw [r1 7 7 (by decide)]; exact l1
  · rw [m44 10 (by decide)]; exact l2
  · rw [r 24 10 (by decide) i (by omega), r 25 10 (by decide) i (by omega), r 26 10 (by decide) i (by omega), hm 57 i (by unfold inT; omega), hm 58 i (by unfold inT; omega), hm 59 i (by unfold inT; omega)]
    exact l3 i hi
  · rw [r1 7 9 (by decide)]; exact p1
  · rw [hm 43 48 (Or.inl ⟨rfl, Or.inr rfl⟩)]; exact p2
