/-! THE PAST of the reference: rows laid there and taken back -/
def MRe (s L d : Nat) : Prop := ∀ (x2 : Int32) (I : IT) (J : JT), ev (d + 1) mMo_movesRow 2 [vR (43, 0), vR (s, 0), vI x2] [] (hh I J) = if x2 < nJ L then if x2 < 0 ∨ L ≤ x2.toNatClampNeg then none else bI (ev d mMo_moves 0 [vR (43, 0), vI (I (s, 0) x2.toNatClampNeg), vU] [] (hh I J)) (fun r1 h1 => if x2 < 0 ∨ L ≤ x2.toNatClampNeg then none else ev (d + 1) mMo_movesRow 2 [vR (43, 0), vR (s, 0), vI (x2 + 1)] [] (hh (up2 (gI h1) (s, 0) x2.toNatClampNeg r1) (gJ h1))) else some (none, hh I J)
theorem mMoves0 {A : IT} {B : JT} (d q : Nat) (x : Int32) (h5 : A (43, 0) 50 = 0) (h4 : A (43, 0) 49 = nJ q) (hq : q < 580) : ev d mMo_moves 0 [vR (43, 0), vI x, vU] [] (hh A B) = some (some (vI x), hh (up2 (up2 A (78, 0) q x) (43, 0) 49 (nJ (q + 1))) B) := by
  rw [eMo_moves_0, if_pos h5, h4, bnd hq (by omega), nJ_nat (by omega), nJ_succ]
theorem mMoves1 {A : IT} {B : JT} (d q : Nat) (x : Int32) (h5 : A (43, 0) 50 = 1) (h4 : A (43, 0) 49 = nJ q) (hq : q < 580) : ev d mMo_moves 0 [vR (43, 0), vI x, vU] [] (hh A B) = some (some (vI (A (78, 0) q)), hh (up2 A (43, 0) 49 (nJ (q + 1))) B) := by
  rw [eMo_moves_0, if_neg (by rw [h5]; decide), h4, bnd hq (by omega), bnd hq (by omega), nJ_nat (by omega), nJ_succ, up_id rfl]
/-- laid so far: scalars first, then rows -/
def OutP (A Ac : IT) (q0 q : Nat) (l : List (Nat × Nat × Nat)) : Prop := Ac (43, 0) 49 = nJ (q0 + q) ∧ Ac (43, 0) 50 = 0 ∧ (∀ r ∈ l, r.2.1 + r.2.2 ≤ q ∧ ∀ i, i < r.2.2 → Ac (78, 0) (q0 + r.2.1 + i) = A (r.1, 0) i) ∧ (5 ≤ q ∧ ∀ i, i < 5 → Ac (78, 0) (q0 + i) = A (44, 0) (5 + i)) ∧ (∀ a i, ¬ (a = (78, 0) ∧ q0 ≤ i ∧ i < q0 + q) → ¬ (a = (43, 0) ∧ (i = 49 ∨ i = 50)) → Ac a i = A a i)
theorem rowP_out {s L d : Nat} (he : MRe s L d) (hL : L ≤ 1000) (hs1 : s ≠ 78) (hs2 : s ≠ 43) (q : Nat) (hq : q + L ≤ 580) (A : IT) (B : JT) (h62 : A (43, 0) 50 = 0) :
    ∀ (j k : Nat) (Ac : IT), k + j = L → Ac (43, 0) 49 = nJ (q + k) → (∀ i, i < k → Ac (78, 0) (q + i) = A (s, 0) i) → (∀ a i, ¬ (a = (78, 0) ∧ q ≤ i ∧ i < q + k) → ¬ (a = (43, 0) ∧ i = 49) → Ac a i = A a i) →
    Tr (ev (d + 1) mMo_movesRow 2 [vR (43, 0), vR (s, 0), vI (nJ k)] [] (hh Ac B)) (fun v A' B' => v = none ∧ A' (43, 0) 49 = nJ (q + L) ∧ (∀ i, i < L → A' (78, 0) (q + i) = A (s, 0) i) ∧ (∀ a i, ¬ (a = (78, 0) ∧ q ≤ i ∧ i < q + L) → ¬ (a = (43, 0) ∧ i = 49) → A' a i = A a i) ∧ B' = B) := by
  intro j
  induction j with
  | zero =>
    intro k Ac hk h1 h2 h3
    obtain rfl : k = L := by omega
    rw [he, if_neg (nlt_nJ (Nat.le_refl k) (by omega))]
    exact Tr.ret ⟨rfl, h1, h2, h3, rfl⟩
  | succ j ih =>
    intro k Ac hk h1 h2 h3
    have h5 : Ac (43, 0) 50 = 0 := (h3 (43, 0) 50 (fun z => by cases z.1) (fun z => by omega)).trans h62
    have hsk : Ac (s, 0) k = A (s, 0) k := h3 (s, 0) k (fun z => hs1 (Prod.mk.inj z.1).1) (fun z => hs2 (Prod.mk.inj z.1).1)
    rw [he, if_pos (lt_nJ (show k < L by omega) (by omega)), bnd (show k < L by omega) (by omega), nJ_nat (show k < 2147483648 by omega), mMoves0 d (q + k) _ h5 h1 (by omega), bI_some, bnk (show k < L by omega) (by omega), gI_hh, gJ_hh, nJ_succ]
    rw [up_id (f := up2 (up2 Ac (78, 0) (q + k) (Ac (s, 0) k)) (43, 0) 49 (nJ (q + k + 1))) (a := (s, 0)) (k := k) (by rw [up_ne _ _ _ _ (fun z => hs2 (Prod.mk.inj z).1), up_ne _ _ _ _ (fun z => hs1 (Prod.mk.inj z).1)])]
    refine ih (k + 1) _ (by omega) (up_same _ _ _ _) (fun i hi => ?_) (fun a i a1 a2 => ?_)
    · rw [up_ne _ _ _ _ (by decide)]
      by_cases e : i = k
      · subst e
        rw [up_same, hsk]
      · rw [up_neK _ _ (by omega)]
        exact h2 i (by omega)
    · rw [up_at, if_neg a2, up_at, if_neg (fun z => a1 ⟨z.1, by omega, by omega⟩)]
      exact h3 a i (fun z => a1 ⟨z.1, by omega, by omega⟩) a2
theorem rowP_back {s L d : Nat} (he : MRe s L d) (hL : L ≤ 1000) (hs1 : s ≠ 78) (hs2 : s ≠ 43) (q : Nat) (hq : q + L ≤ 580) (A : IT) (B : JT) (h62 : A (43, 0) 50 = 1) :
    ∀ (j k : Nat) (Ac : IT), k + j = L → Ac (43, 0) 49 = nJ (q + k) → (∀ i, i < k → Ac (s, 0) i = A (78, 0) (q + i)) → (∀ a i, ¬ (a = (s, 0) ∧ i < k) → ¬ (a = (43, 0) ∧ i = 49) → Ac a i = A a i) →
    Tr (ev (d + 1) mMo_movesRow 2 [vR (43, 0), vR (s, 0), vI (nJ k)] [] (hh Ac B)) (fun v A' B' => v = none ∧ A' (43, 0) 49 = nJ (q + L) ∧ (∀ i, i < L → A' (s, 0) i = A (78, 0) (q + i)) ∧ (∀ a i, ¬ (a = (s, 0) ∧ i < L) → ¬ (a = (43, 0) ∧ i = 49) → A' a i = A a i) ∧ B' = B) := by
  intro j
  induction j with
  | zero =>
    intro k Ac hk h1 h2 h3
    obtain rfl : k = L := by omega
    rw [he, if_neg (nlt_nJ (Nat.le_refl k) (by omega))]
    exact Tr.ret ⟨rfl, h1, h2, h3, rfl⟩
  | succ j ih =>
    intro k Ac hk h1 h2 h3
    have h5 : Ac (43, 0) 50 = 1 := (h3 (43, 0) 50 (fun z => hs2 (Prod.mk.inj z.1).1.symm) (fun z => by omega)).trans h62
    rw [he, if_pos (lt_nJ (show k < L by omega) (by omega)), bnd (show k < L by omega) (by omega), nJ_nat (show k < 2147483648 by omega), mMoves1 d (q + k) _ h5 h1 (by omega), bI_some, bnk (show k < L by omega) (by omega), gI_hh, gJ_hh, nJ_succ]
    refine ih (k + 1) _ (by omega) ?_ (fun i hi => ?_) (fun a i a1 a2 => ?_)
    · rw [up_ne _ _ _ _ (fun z => hs2 (Prod.mk.inj z).1.symm), up_same]
      rfl
    · by_cases e : i = k
      · subst e
        rw [up_same, h3 (78, 0) (q + i) (fun z => hs1 (Prod.mk.inj z.1).1.symm) (fun z => by cases z.1)]
      · rw [up_neK _ _ e, up_ne _ _ _ _ (fun z => hs2 (Prod.mk.inj z).1)]
        exact h2 i (by omega)
    · rw [up_at, if_neg (fun z => a1 ⟨z.1, by omega⟩), up_at, if_neg a2]
      exact h3 a i (fun z => a1 ⟨z.1, by omega⟩) a2
theorem OutP.step {A Ac : IT} {B : JT} {q0 q s L d : Nat} {l : List (Nat × Nat × Nat)} (he : MRe s L d) (he0 : ∀ I J, ev (d + 1) mMo_movesRow 0 [vR (43, 0), vR (s, 0), vU] [] (hh I J) = ev (d + 1) mMo_movesRow 2 [vR (43, 0), vR (s, 0), vI 0] [] (hh I J)) (hL : L ≤ 1000) (hs1 : s ≠ 78) (hs2 : s ≠ 43) (hq : q0 + q + L ≤ 580) (h : OutP A Ac q0 q l) :
    Tr (ev (d + 1) mMo_movesRow 0 [vR (43, 0), vR (s, 0), vU] [] (hh Ac B)) (fun v A' B' => v = none ∧ OutP A A' q0 (q + L) ((s, q, L) :: l) ∧ B' = B) := by
  obtain ⟨h1, h2, h3, ⟨h50, h5⟩, h4⟩ := h
  rw [he0]
  refine (rowP_out he hL hs1 hs2 (q0 + q) hq Ac B h2 L 0 Ac (by omega) h1 (fun i hi => absurd hi (Nat.not_lt_zero i)) (fun _ _ _ _ => rfl)).mono fun v A' B' ⟨q1, q2, q3, q4, q5⟩ => ⟨q1, ⟨?_, ?_, ?_, ⟨by omega, fun i hi => ?_⟩, ?_⟩, q5⟩
  · rw [q2, Nat.add_assoc]
  · rw [q4 (43, 0) 50 (fun z => by cases z.1) (fun z => by omega)]
    exact h2
  · intro r hr
    rcases List.mem_cons.mp hr with rfl | hr
    · refine ⟨Nat.le_refl _, fun i hi => ?_⟩
      rw [q3 i hi]
      exact h4 (s, 0) i (fun z => hs1 (Prod.mk.inj z.1).1) (fun z => hs2 (Prod.mk.inj z.1).1)
    · obtain ⟨a1, a2⟩ := h3 r hr
      refine ⟨by omega, fun i hi => ?_⟩
      rw [q4 (78, 0) (q0 + r.2.1 + i) (fun z => by omega) (fun z => by cases z.1)]
      exact a2 i hi
  · rw [q4 (78, 0) (q0 + i) (fun z => by omega) (fun z => by cases z.1)]
    exact h5 i hi
  · intro a i a1 a2
    rw [q4 a i (fun z => a1 ⟨z.1, by omega, by omega⟩) (fun z => a2 ⟨z.1, Or.inl z.2⟩)]
    exact h4 a i (fun z => a1 ⟨z.1, by omega, by omega⟩) a2
def BckP (A Ac : IT) (q0 q : Nat) (l : List (Nat × Nat × Nat)) : Prop := Ac (43, 0) 49 = nJ (q0 + q) ∧ Ac (43, 0) 50 = 1 ∧ (∀ r ∈ l, ∀ i, i < r.2.2 → Ac (r.1, 0) i = A (78, 0) (q0 + r.2.1 + i)) ∧ (∀ i, i < 5 → Ac (44, 0) (5 + i) = A (78, 0) (q0 + i)) ∧ (∀ a i, (∀ r ∈ l, ¬ (a = (r.1, 0) ∧ i < r.2.2)) → ¬ (a = (44, 0) ∧ 5 ≤ i ∧ i < 10) → ¬ (a = (43, 0) ∧ (i = 49 ∨ i = 50)) → Ac a i = A a i)
theorem BckP.step {A Ac : IT} {B : JT} {q0 q s L d : Nat} {l : List (Nat × Nat × Nat)} (he : MRe s L d) (he0 : ∀ I J, ev (d + 1) mMo_movesRow 0 [vR (43, 0), vR (s, 0), vU] [] (hh I J) = ev (d + 1) mMo_movesRow 2 [vR (43, 0), vR (s, 0), vI 0] [] (hh I J)) (hL : L ≤ 1000) (hs1 : s ≠ 78) (hs2 : s ≠ 43) (hs3 : s ≠ 44) (hq : q0 + q + L ≤ 580) (hl : ∀ r ∈ l, r.1 ≠ s ∧ r.1 ≠ 78 ∧ r.1 ≠ 43) (h : BckP A Ac q0 q l) :
    Tr (ev (d + 1) mMo_movesRow 0 [vR (43, 0), vR (s, 0), vU] [] (hh Ac B)) (fun v A' B' => v = none ∧ BckP A A' q0 (q + L) ((s, q, L) :: l) ∧ B' = B) := by
  obtain ⟨h1, h2, h3, h5, h4⟩ := h
  rw [he0]
  refine (rowP_back he hL hs1 hs2 (q0 + q) hq Ac B h2 L 0 Ac (by omega) h1 (fun i hi => absurd hi (Nat.not_lt_zero i)) (fun _ _ _ _ => rfl)).mono fun v A' B' ⟨q1, q2, q3, q4, q5⟩ => ⟨q1, ⟨?_, ?_, ?_, fun i hi => ?_, ?_⟩, q5⟩
  · rw [q2, Nat.add_assoc]
  · rw [q4 (43, 0) 50 (fun z => hs2 (Prod.mk.inj z.1).1.symm) (fun z => by omega)]
    exact h2
  · intro r hr i hi
    rcases List.mem_cons.mp hr with rfl | hr
    · rw [q3 i hi]
      exact h4 (78, 0) (q0 + q + i) (fun r hr z => (hl r hr).2.1 (Prod.mk.inj z.1).1.symm) (fun z => by cases z.1) (fun z => by cases z.1)
    · rw [q4 (r.1, 0) i (fun z => (hl r hr).1 (Prod.mk.inj z.1).1) (fun z => (hl r hr).2.2 (Prod.mk.inj z.1).1)]
      exact h3 r hr i hi
  · rw [q4 (44, 0) (5 + i) (fun z => hs3 (Prod.mk.inj z.1).1.symm) (fun z => by cases z.1)]
    exact h5 i hi
  · intro a i a1 a3 a2
    rw [q4 a i (fun z => a1 (s, q, L) List.mem_cons_self z) (fun z => a2 ⟨z.1, Or.inl z.2⟩)]
    exact h4 a i (fun r hr => a1 r (List.mem_cons_of_mem _ hr)) a3 a2
theorem mre51 (d : Nat) : MRe 51 6 d := fun x I J => eMo_movesRow_51_2 d x I J
theorem mre52 (d : Nat) : MRe 52 6 d := fun x I J => eMo_movesRow_52_2 d x I J
theorem mre53 (d : Nat) : MRe 53 3 d := fun x I J => eMo_movesRow_53_2 d x I J
theorem mre54 (d : Nat) : MRe 54 3 d := fun x I J => eMo_movesRow_54_2 d x I J
theorem mre55 (d : Nat) : MRe 55 3 d := fun x I J => eMo_movesRow_55_2 d x I J
theorem mre56 (d : Nat) : MRe 56 3 d := fun x I J => eMo_movesRow_56_2 d x I J
def pRows : List (Nat × Nat × Nat) := [(56, 26, 3), (55, 23, 3), (54, 20, 3), (53, 17, 3), (52, 11, 6), (51, 5, 6)]
/-- scalars, then the rows -/
theorem lay_go (d q0 : Nat) (A : IT) (B : JT) (hq : q0 + 29 ≤ 580) (h50 : A (43, 0) 50 = 0) : ∀ (j k : Nat) (Ac : IT), k + j = 5 → Ac (43, 0) 49 = nJ (q0 + k) → (∀ i, i < k → Ac (78, 0) (q0 + i) = A (44, 0) (5 + i)) → (∀ a i, ¬ (a = (78, 0) ∧ q0 ≤ i ∧ i < q0 + k) → ¬ (a = (43, 0) ∧ i = 49) → Ac a i = A a i) →
    Tr (ev (d + 2) mMo_movesAll 10 [vR (43, 0), vU, vU, vI (nJ (5 + k))] [] (hh Ac B)) (fun v A' B' => v = none ∧ OutP A A' q0 29 pRows ∧ B' = B) := by
  intro j
  induction j with
  | zero =>
    intro k Ac hk h1 h2 h3
    obtain rfl : k = 5 := by omega
    rw [eMo_movesAll_10, if_neg (nlt_nL (b := 10) (by decide) (by decide))]
    have h0 : OutP A Ac q0 5 [] := ⟨h1, (h3 (43, 0) 50 (fun z => by cases z.1) (fun z => by omega)).trans h50, fun r hr => (by cases hr), ⟨Nat.le_refl 5, h2⟩, fun a i a1 a2 => h3 a i a1 (fun z => a2 ⟨z.1, Or.inl z.2⟩)⟩
    refine Tr.bV ((OutP.step (mre51 d) (fun I J => eMo_movesRow_51_0 d I J) (by decide) (by decide) (by decide) (by omega) h0).mono fun v A1 B1 ⟨q1, h1, e1⟩ => ⟨q1, ?_⟩)
    refine Tr.bV ((OutP.step (mre52 d) (fun I J => eMo_movesRow_52_0 d I J) (by decide) (by decide) (by decide) (by omega) h1).mono fun v A2 B2 ⟨q1, h2, e2⟩ => ⟨q1, ?_⟩)
    refine Tr.bV ((OutP.step (mre53 d) (fun I J => eMo_movesRow_53_0 d I J) (by decide) (by decide) (by decide) (by omega) h2).mono fun v A3 B3 ⟨q1, h3, e3⟩ => ⟨q1, ?_⟩)
    refine Tr.bV ((OutP.step (mre54 d) (fun I J => eMo_movesRow_54_0 d I J) (by decide) (by decide) (by decide) (by omega) h3).mono fun v A4 B4 ⟨q1, h4, e4⟩ => ⟨q1, ?_⟩)
    refine Tr.bV ((OutP.step (mre55 d) (fun I J => eMo_movesRow_55_0 d I J) (by decide) (by decide) (by decide) (by omega) h4).mono fun v A5 B5 ⟨q1, h5, e5⟩ => ⟨q1, ?_⟩)
    refine Tr.bV ((OutP.step (mre56 d) (fun I J => eMo_movesRow_56_0 d I J) (by decide) (by decide) (by decide) (by omega) h5).mono fun v A6 B6 ⟨q1, h6, e6⟩ => ⟨q1, ?_⟩)
    refine Tr.ret ⟨rfl, h6, ?_⟩
    show B6 = B
    rw [e6, e5, e4, e3, e2, e1]
  | succ j ih =>
    intro k Ac hk h1 h2 h3
    have h5 : Ac (43, 0) 50 = 0 := (h3 (43, 0) 50 (fun z => by cases z.1) (fun z => by omega)).trans h50
    have hsk : Ac (44, 0) (5 + k) = A (44, 0) (5 + k) := h3 (44, 0) (5 + k) (fun z => by cases z.1) (fun z => by cases z.1)
    rw [eMo_movesAll_10, if_pos (lt_nL (b := 10) (show 5 + k < 10 by omega) (by decide)), bnd (show 5 + k < 13 by omega) (by omega), nJ_nat (show 5 + k < 2147483648 by omega), mMoves0 (d + 1) (q0 + k) _ h5 h1 (by omega), bI_some, bnk (show 5 + k < 13 by omega) (by omega), gI_hh, gJ_hh, nJ_succ, Nat.add_assoc]
    rw [up_id (f := up2 (up2 Ac (78, 0) (q0 + k) (Ac (44, 0) (5 + k))) (43, 0) 49 (nJ (q0 + k + 1))) (a := (44, 0)) (k := 5 + k) (by rw [up_ne _ _ _ _ (by decide), up_ne _ _ _ _ (by decide)])]
    refine ih (k + 1) _ (by omega) (up_same _ _ _ _) (fun i hi => ?_) (fun a i a1 a2 => ?_)
    · rw [up_ne _ _ _ _ (by decide)]
      by_cases e : i = k
      · subst e
        rw [up_same, hsk]
      · rw [up_neK _ _ (by omega)]
        exact h2 i (by omega)
    · rw [up_at, if_neg a2, up_at, if_neg (fun z => a1 ⟨z.1, by omega, by omega⟩)]
      exact h3 a i (fun z => a1 ⟨z.1, by omega, by omega⟩) a2
theorem mLay (d k : Nat) (A : IT) (B : JT) (hk : k < 20) : Tr (ev (d + 2) mMo_movesAll 0 [vR (43, 0), vI (nJ k), vI 0, vU] [] (hh A B)) (fun v A' B' => v = none ∧ (∀ r ∈ pRows, ∀ i, i < r.2.2 → A' (78, 0) (29 * k + r.2.1 + i) = A (r.1, 0) i) ∧ (∀ i, i < 5 → A' (78, 0) (29 * k + i) = A (44, 0) (5 + i)) ∧ (∀ a i, ¬ (a = (78, 0) ∧ 29 * k ≤ i ∧ i < 29 * k + 29) → ¬ (a = (43, 0) ∧ (i = 49 ∨ i = 50)) → A' a i = A a i) ∧ B' = B) := by
  rw [eMo_movesAll_0, if_pos (Or.inl rfl), show (29 : Int32) * nJ k = nJ (29 * k) from nJ_mul 29 k]
  refine (lay_go d (29 * k) (up2 (up2 A (43, 0) 49 (nJ (29 * k))) (43, 0) 50 0) B (by omega) (up_same _ _ _ _) 5 0 _ rfl ((up_neK _ _ (by decide)).trans (up_same _ _ _ _)) (fun i hi => absurd hi (Nat.not_lt_zero i)) (fun _ _ _ _ => rfl)).mono fun v A' B' ⟨q1, ⟨_, _, k3, ⟨_, k5⟩, k4⟩, e⟩ => ⟨q1, fun r hr i hi => ?_, fun i hi => ?_, fun a i a1 a2 => ?_, e⟩
  · have h43 : ∀ r ∈ pRows, r.1 ≠ 43 := by decide
    rw [(k3 r hr).2 i hi, up_ne _ _ _ _ (fun z => h43 r hr (Prod.mk.inj z).1), up_ne _ _ _ _ (fun z => h43 r hr (Prod.mk.inj z).1)]
  · rw [k5 i hi, up_ne _ _ _ _ (by decide), up_ne _ _ _ _ (by decide)]
  · rw [k4 a i a1 a2, up_at, if_neg (fun z => a2 ⟨z.1, Or.inr z.2⟩), up_at, if_neg (fun z => a2 ⟨z.1, Or.inl z.2⟩)]
theorem take_go (d q0 : Nat) (A : IT) (B : JT) (hq : q0 + 29 ≤ 580) (h50 : A (43, 0) 50 = 1) : ∀ (j k : Nat) (Ac : IT), k + j = 5 → Ac (43, 0) 49 = nJ (q0 + k) → (∀ i, i < k → Ac (44, 0) (5 + i) = A (78, 0) (q0 + i)) → (∀ a i, ¬ (a = (44, 0) ∧ 5 ≤ i ∧ i < 5 + k) → ¬ (a = (43, 0) ∧ i = 49) → Ac a i = A a i) →
    Tr (ev (d + 2) mMo_movesAll 10 [vR (43, 0), vU, vU, vI (nJ (5 + k))] [] (hh Ac B)) (fun v A' B' => v = none ∧ BckP A A' q0 29 pRows ∧ B' = B) := by
  intro j
  induction j with
  | zero =>
    intro k Ac hk h1 h2 h3
    obtain rfl : k = 5 := by omega
    rw [eMo_movesAll_10, if_neg (nlt_nL (b := 10) (by decide) (by decide))]
    have h0 : BckP A Ac q0 5 [] := ⟨h1, (h3 (43, 0) 50 (fun z => by cases z.1) (fun z => by omega)).trans h50, fun r hr => (by cases hr), h2, fun a i _ a3 a2 => h3 a i a3 (fun z => a2 ⟨z.1, Or.inl z.2⟩)⟩
    refine Tr.bV ((BckP.step (mre51 d) (fun I J => eMo_movesRow_51_0 d I J) (by decide) (by decide) (by decide) (by decide) (by omega) (by decide) h0).mono fun v A1 B1 ⟨q1, h1, e1⟩ => ⟨q1, ?_⟩)
    refine Tr.bV ((BckP.step (mre52 d) (fun I J => eMo_movesRow_52_0 d I J) (by decide) (by decide) (by decide) (by decide) (by omega) (by decide) h1).mono fun v A2 B2 ⟨q1, h2, e2⟩ => ⟨q1, ?_⟩)
    refine Tr.bV ((BckP.step (mre53 d) (fun I J => eMo_movesRow_53_0 d I J) (by decide) (by decide) (by decide) (by decide) (by omega) (by decide) h2).mono fun v A3 B3 ⟨q1, h3, e3⟩ => ⟨q1, ?_⟩)
    refine Tr.bV ((BckP.step (mre54 d) (fun I J => eMo_movesRow_54_0 d I J) (by decide) (by decide) (by decide) (by decide) (by omega) (by decide) h3).mono fun v A4 B4 ⟨q1, h4, e4⟩ => ⟨q1, ?_⟩)
    refine Tr.bV ((BckP.step (mre55 d) (fun I J => eMo_movesRow_55_0 d I J) (by decide) (by decide) (by decide) (by decide) (by omega) (by decide) h4).mono fun v A5 B5 ⟨q1, h5, e5⟩ => ⟨q1, ?_⟩)
    refine Tr.bV ((BckP.step (mre56 d) (fun I J => eMo_movesRow_56_0 d I J) (by decide) (by decide) (by decide) (by decide) (by omega) (by decide) h5).mono fun v A6 B6 ⟨q1, h6, e6⟩ => ⟨q1, ?_⟩)
    refine Tr.ret ⟨rfl, h6, ?_⟩
    show B6 = B
    rw [e6, e5, e4, e3, e2, e1]
  | succ j ih =>
    intro k Ac hk h1 h2 h3
    have h5 : Ac (43, 0) 50 = 1 := (h3 (43, 0) 50 (fun z => by cases z.1) (fun z => by omega)).trans h50
    rw [eMo_movesAll_10, if_pos (lt_nL (b := 10) (show 5 + k < 10 by omega) (by decide)), bnd (show 5 + k < 13 by omega) (by omega), nJ_nat (show 5 + k < 2147483648 by omega), mMoves1 (d + 1) (q0 + k) _ h5 h1 (by omega), bI_some, bnk (show 5 + k < 13 by omega) (by omega), gI_hh, gJ_hh, nJ_succ, Nat.add_assoc]
    refine ih (k + 1) _ (by omega) ?_ (fun i hi => ?_) (fun a i a1 a2 => ?_)
    · rw [up_ne _ _ _ _ (by decide), up_same]
      rfl
    · by_cases e : i = k
      · subst e
        rw [up_same, h3 (78, 0) (q0 + i) (fun z => by cases z.1) (fun z => by cases z.1)]
      · rw [up_neK _ _ (by omega), up_ne _ _ _ _ (by decide)]
        exact h2 i (by omega)
    · rw [up_at, if_neg (fun z => a1 ⟨z.1, by omega, by omega⟩), up_at, if_neg a2]
      exact h3 a i (fun z => a1 ⟨z.1, by omega, by omega⟩) a2
theorem mTakeB (d k : Nat) (A : IT) (B : JT) (hk : k < 20) : Tr (ev (d + 2) mMo_movesAll 0 [vR (43, 0), vI (nJ k), vI 1, vU] [] (hh A B)) (fun v A' B' => v = none ∧ (∀ r ∈ pRows, ∀ i, i < r.2.2 → A' (r.1, 0) i = A (78, 0) (29 * k + r.2.1 + i)) ∧ (∀ i, i < 5 → A' (44, 0) (5 + i) = A (78, 0) (29 * k + i)) ∧ (∀ a i, (∀ r ∈ pRows, ¬ (a = (r.1, 0) ∧ i < r.2.2)) → ¬ (a = (44, 0) ∧ 5 ≤ i ∧ i < 10) → ¬ (a = (43, 0) ∧ (i = 49 ∨ i = 50)) → A' a i = A a i) ∧ B' = B) := by
  rw [eMo_movesAll_0, if_pos (Or.inr rfl), show (29 : Int32) * nJ k = nJ (29 * k) from nJ_mul 29 k]
  refine (take_go d (29 * k) (up2 (up2 A (43, 0) 49 (nJ (29 * k))) (43, 0) 50 1) B (by omega) (up_same _ _ _ _) 5 0 _ rfl ((up_neK _ _ (by decide)).trans (up_same _ _ _ _)) (fun i hi => absurd hi (Nat.not_lt_zero i)) (fun _ _ _ _ => rfl)).mono fun v A' B' ⟨q1, ⟨_, _, k3, k5, k4⟩, e⟩ => ⟨q1, fun r hr i hi => ?_, fun i hi => ?_, fun a i a1 a3 a2 => ?_, e⟩
  · rw [k3 r hr i hi, up_ne _ _ _ _ (by decide), up_ne _ _ _ _ (by decide)]
  · rw [k5 i hi, up_ne _ _ _ _ (by decide), up_ne _ _ _ _ (by decide)]
  · rw [k4 a i a1 a3 a2, up_at, if_neg (fun z => a2 ⟨z.1, Or.inr z.2⟩), up_at, if_neg (fun z => a2 ⟨z.1, Or.inl z.2⟩)]
