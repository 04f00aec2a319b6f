/-! IMAGES of the reference: rows carried out and back -/
def CRe (s L d : Nat) : Prop := ∀ (x2 : Int32) (I : IT) (J : JT), ev d mMo_carryRow 2 [vR (43, 0), vR (s, 0), vI x2] [] (hh I J) = if x2 < nJ L then if (I (43, 0) 62) = 0 then if x2 < 0 ∨ L ≤ x2.toNatClampNeg then none else if (I (43, 0) 61) < 0 ∨ 4250 ≤ (I (43, 0) 61).toNatClampNeg then none else ev d mMo_carryRow 2 [vR (43, 0), vR (s, 0), vI (x2 + 1)] [] (hh (up2 (up2 I (87, 0) ((I (43, 0) 61).toNatClampNeg) (I (s, 0) x2.toNatClampNeg)) (43, 0) 61 ((I (43, 0) 61) + 1)) J) else if (I (43, 0) 61) < 0 ∨ 4250 ≤ (I (43, 0) 61).toNatClampNeg then none else if x2 < 0 ∨ L ≤ x2.toNatClampNeg then none else ev d mMo_carryRow 2 [vR (43, 0), vR (s, 0), vI (x2 + 1)] [] (hh (up2 (up2 I (s, 0) x2.toNatClampNeg (I (87, 0) ((I (43, 0) 61).toNatClampNeg))) (43, 0) 61 ((I (43, 0) 61) + 1)) J) else some (none, hh I J)
theorem row_out {s L d : Nat} (he : CRe s L d) (hL : L ≤ 1000) (hs1 : s ≠ 87) (hs2 : s ≠ 43) (q : Nat) (hq : q + L ≤ 4250) (A : IT) (B : JT) (h62 : A (43, 0) 62 = 0) :
    ∀ (j k : Nat) (Ac : IT), k + j = L → Ac (43, 0) 61 = nJ (q + k) → (∀ i, i < k → Ac (87, 0) (q + i) = A (s, 0) i) → (∀ a i, ¬ (a = (87, 0) ∧ q ≤ i ∧ i < q + k) → ¬ (a = (43, 0) ∧ i = 61) → Ac a i = A a i) →
    Tr (ev d mMo_carryRow 2 [vR (43, 0), vR (s, 0), vI (nJ k)] [] (hh Ac B)) (fun v A' B' => v = none ∧ A' (43, 0) 61 = nJ (q + L) ∧ (∀ i, i < L → A' (87, 0) (q + i) = A (s, 0) i) ∧ (∀ a i, ¬ (a = (87, 0) ∧ q ≤ i ∧ i < q + L) → ¬ (a = (43, 0) ∧ i = 61) → A' a i = A a i) ∧ B' = B) := by
  intro j
  induction j with
  | zero =>
    intro k Ac hk h1 h2 h3
    obtain rfl : k = L := by omega
    rw [he, if_neg (nlt_nJ (Nat.le_refl k) (by omega))]
    exact Tr.ret ⟨rfl, h1, h2, h3, rfl⟩
  | succ j ih =>
    intro k Ac hk h1 h2 h3
    rw [he, if_pos (lt_nJ (show k < L by omega) (by omega)), h3 (43, 0) 62 (fun q => by cases q.1) (fun q => by omega), if_pos h62, bnd (show k < L by omega) (by omega), h1, bnd (show q + k < 4250 by omega) (by omega), nJ_nat (show k < 2147483648 by omega), nJ_nat (show q + k < 2147483648 by omega), nJ_succ, nJ_succ]
    refine ih (k + 1) _ (by omega) (up_same _ _ _ _) (fun i hi => ?_) (fun a i a1 a2 => ?_)
    · rw [up_ne _ _ _ _ (by decide)]
      by_cases e : i = k
      · subst e
        rw [up_same, h3 (s, 0) i (fun q => hs1 (Prod.mk.inj q.1).1) (fun q => hs2 (Prod.mk.inj q.1).1)]
      · rw [up_neK _ _ (by omega)]
        exact h2 i (by omega)
    · rw [up_at, if_neg a2, up_at, if_neg (fun z => a1 ⟨z.1, by omega, by omega⟩)]
      exact h3 a i (fun z => a1 ⟨z.1, by omega, by omega⟩) a2
theorem row_back {s L d : Nat} (he : CRe s L d) (hL : L ≤ 1000) (hs1 : s ≠ 87) (hs2 : s ≠ 43) (q : Nat) (hq : q + L ≤ 4250) (A : IT) (B : JT) (h62 : A (43, 0) 62 = 1) :
    ∀ (j k : Nat) (Ac : IT), k + j = L → Ac (43, 0) 61 = nJ (q + k) → (∀ i, i < k → Ac (s, 0) i = A (87, 0) (q + i)) → (∀ a i, ¬ (a = (s, 0) ∧ i < k) → ¬ (a = (43, 0) ∧ i = 61) → Ac a i = A a i) →
    Tr (ev d mMo_carryRow 2 [vR (43, 0), vR (s, 0), vI (nJ k)] [] (hh Ac B)) (fun v A' B' => v = none ∧ A' (43, 0) 61 = nJ (q + L) ∧ (∀ i, i < L → A' (s, 0) i = A (87, 0) (q + i)) ∧ (∀ a i, ¬ (a = (s, 0) ∧ i < L) → ¬ (a = (43, 0) ∧ i = 61) → A' a i = A a i) ∧ B' = B) := by
  intro j
  induction j with
  | zero =>
    intro k Ac hk h1 h2 h3
    obtain rfl : k = L := by omega
    rw [he, if_neg (nlt_nJ (Nat.le_refl k) (by omega))]
    exact Tr.ret ⟨rfl, h1, h2, h3, rfl⟩
  | succ j ih =>
    intro k Ac hk h1 h2 h3
    rw [he, if_pos (lt_nJ (show k < L by omega) (by omega)), h3 (43, 0) 62 (fun q => hs2 (Prod.mk.inj q.1).1.symm) (fun q => by omega), if_neg (by rw [h62]; decide), h1, bnd (show q + k < 4250 by omega) (by omega), bnd (show k < L by omega) (by omega), nJ_nat (show k < 2147483648 by omega), nJ_nat (show q + k < 2147483648 by omega), nJ_succ, nJ_succ]
    refine ih (k + 1) _ (by omega) (up_same _ _ _ _) (fun i hi => ?_) (fun a i a1 a2 => ?_)
    · rw [up_ne _ _ _ _ (fun z => hs2 (Prod.mk.inj z).1)]
      by_cases e : i = k
      · subst e
        rw [up_same, h3 (87, 0) (q + i) (fun z => hs1 (Prod.mk.inj z.1).1.symm) (fun z => by cases z.1)]
      · rw [up_neK _ _ e]
        exact h2 i (by omega)
    · rw [up_at, if_neg a2, up_at, if_neg (fun z => a1 ⟨z.1, by omega⟩)]
      exact h3 a i (fun z => a1 ⟨z.1, by omega⟩) a2
/-- rows carried out so far: (row, where it begins, how long) -/
def Out (A Ac : IT) (q0 q : Nat) (l : List (Nat × Nat × Nat)) : Prop := Ac (43, 0) 61 = nJ (q0 + q) ∧ Ac (43, 0) 62 = 0 ∧ (∀ r ∈ l, r.2.1 + r.2.2 ≤ q ∧ ∀ i, i < r.2.2 → Ac (87, 0) (q0 + r.2.1 + i) = A (r.1, 0) i) ∧ (∀ a i, ¬ (a = (87, 0) ∧ q0 ≤ i ∧ i < q0 + q) → ¬ (a = (43, 0) ∧ (i = 61 ∨ i = 62)) → Ac a i = A a i)
theorem Out.step {A Ac : IT} {B : JT} {q0 q s L d : Nat} {l : List (Nat × Nat × Nat)} (he : CRe s L d) (he0 : ∀ I J, ev d mMo_carryRow 0 [vR (43, 0), vR (s, 0), vU] [] (hh I J) = ev d mMo_carryRow 2 [vR (43, 0), vR (s, 0), vI 0] [] (hh I J)) (hL : L ≤ 1000) (hs1 : s ≠ 87) (hs2 : s ≠ 43) (hq : q0 + q + L ≤ 4250) (h : Out A Ac q0 q l) :
    Tr (ev d mMo_carryRow 0 [vR (43, 0), vR (s, 0), vU] [] (hh Ac B)) (fun v A' B' => v = none ∧ Out A A' q0 (q + L) ((s, q, L) :: l) ∧ B' = B) := by
  obtain ⟨h1, h2, h3, h4⟩ := h
  rw [he0]
  refine (row_out he hL hs1 hs2 (q0 + q) hq Ac B h2 L 0 Ac (by omega) h1 (fun i hi => absurd hi (Nat.not_lt_zero i)) (fun _ _ _ _ => rfl)).mono fun v A' B' ⟨q1, q2, q3, q4, q5⟩ => ⟨q1, ⟨?_, ?_, ?_, ?_⟩, q5⟩
  · rw [q2, Nat.add_assoc]
  · rw [q4 (43, 0) 62 (fun z => by cases z.1) (fun z => by omega)]
    exact h2
  · intro r hr
    rcases List.mem_cons.mp hr with rfl | hr
    · refine ⟨Nat.le_refl _, fun i hi => ?_⟩
      rw [q3 i hi]
      exact h4 (s, 0) i (fun z => hs1 (Prod.mk.inj z.1).1) (fun z => hs2 (Prod.mk.inj z.1).1)
    · obtain ⟨a1, a2⟩ := h3 r hr
      refine ⟨by omega, fun i hi => ?_⟩
      rw [q4 (87, 0) (q0 + r.2.1 + i) (fun z => by omega) (fun z => by cases z.1)]
      exact a2 i hi
  · intro a i a1 a2
    rw [q4 a i (fun z => a1 ⟨z.1, by omega, by omega⟩) (fun z => a2 ⟨z.1, Or.inl z.2⟩)]
    exact h4 a i (fun z => a1 ⟨z.1, by omega, by omega⟩) a2
/-- rows carried back so far -/
def Bck (A Ac : IT) (q0 q : Nat) (l : List (Nat × Nat × Nat)) : Prop := Ac (43, 0) 61 = nJ (q0 + q) ∧ Ac (43, 0) 62 = 1 ∧ (∀ r ∈ l, ∀ i, i < r.2.2 → Ac (r.1, 0) i = A (87, 0) (q0 + r.2.1 + i)) ∧ (∀ a i, (∀ r ∈ l, ¬ (a = (r.1, 0) ∧ i < r.2.2)) → ¬ (a = (43, 0) ∧ (i = 61 ∨ i = 62)) → Ac a i = A a i)
theorem Bck.step {A Ac : IT} {B : JT} {q0 q s L d : Nat} {l : List (Nat × Nat × Nat)} (he : CRe s L d) (he0 : ∀ I J, ev d mMo_carryRow 0 [vR (43, 0), vR (s, 0), vU] [] (hh I J) = ev d mMo_carryRow 2 [vR (43, 0), vR (s, 0), vI 0] [] (hh I J)) (hL : L ≤ 1000) (hs1 : s ≠ 87) (hs2 : s ≠ 43) (hq : q0 + q + L ≤ 4250) (hl : ∀ r ∈ l, r.1 ≠ s ∧ r.1 ≠ 87 ∧ r.1 ≠ 43) (h : Bck A Ac q0 q l) :
    Tr (ev d mMo_carryRow 0 [vR (43, 0), vR (s, 0), vU] [] (hh Ac B)) (fun v A' B' => v = none ∧ Bck A A' q0 (q + L) ((s, q, L) :: l) ∧ B' = B) := by
  obtain ⟨h1, h2, h3, h4⟩ := h
  rw [he0]
  refine (row_back he hL hs1 hs2 (q0 + q) hq Ac B h2 L 0 Ac (by omega) h1 (fun i hi => absurd hi (Nat.not_lt_zero i)) (fun _ _ _ _ => rfl)).mono fun v A' B' ⟨q1, q2, q3, q4, q5⟩ => ⟨q1, ⟨?_, ?_, ?_, ?_⟩, q5⟩
  · rw [q2, Nat.add_assoc]
  · rw [q4 (43, 0) 62 (fun z => hs2 (Prod.mk.inj z.1).1.symm) (fun z => by omega)]
    exact h2
  · intro r hr i hi
    rcases List.mem_cons.mp hr with rfl | hr
    · rw [q3 i hi]
      exact h4 (87, 0) (q0 + q + i) (fun r hr z => (hl r hr).2.1 (Prod.mk.inj z.1).1.symm) (fun z => by cases z.1)
    · rw [q4 (r.1, 0) i (fun z => (hl r hr).1 (Prod.mk.inj z.1).1) (fun z => (hl r hr).2.2 (Prod.mk.inj z.1).1)]
      exact h3 r hr i hi
  · intro a i a1 a2
    rw [q4 a i (fun z => a1 (s, q, L) List.mem_cons_self z) (fun z => a2 ⟨z.1, Or.inl z.2⟩)]
    exact h4 a i (fun r hr => a1 r (List.mem_cons_of_mem _ hr)) a2
theorem cre44 (d : Nat) : CRe 44 13 d := fun x I J => eMo_carryRow_44_2 d x I J
theorem cre51 (d : Nat) : CRe 51 6 d := fun x I J => eMo_carryRow_51_2 d x I J
theorem cre52 (d : Nat) : CRe 52 6 d := fun x I J => eMo_carryRow_52_2 d x I J
theorem cre53 (d : Nat) : CRe 53 3 d := fun x I J => eMo_carryRow_53_2 d x I J
theorem cre54 (d : Nat) : CRe 54 3 d := fun x I J => eMo_carryRow_54_2 d x I J
theorem cre55 (d : Nat) : CRe 55 3 d := fun x I J => eMo_carryRow_55_2 d x I J
theorem cre56 (d : Nat) : CRe 56 3 d := fun x I J => eMo_carryRow_56_2 d x I J
def wRows : List (Nat × Nat × Nat) := [(56, 34, 3), (55, 31, 3), (54, 28, 3), (53, 25, 3), (52, 19, 6), (51, 13, 6), (44, 0, 13)]
/-- what the fifth image keeps -/
def Kpt (A0 A : IT) : Prop := ∀ r ∈ wRows, ∀ i, i < r.2.2 → A (87, 0) (3400 + r.2.1 + i) = A0 (r.1, 0) i
theorem mKeep (d : Nat) (A : IT) (B : JT) : Tr (ev (d + 2) mMo_keepsAll 0 [vR (43, 0)] [] (hh A B)) (fun v A' B' => v = none ∧ Kpt A A' ∧ (∀ a i, ¬ (a = (87, 0) ∧ 3400 ≤ i) → ¬ (a = (43, 0) ∧ (i = 61 ∨ i = 62)) → A' a i = A a i) ∧ B' = B) := by
  rw [eMo_keepsAll_0, eMo_carriesAll_0, if_pos (Or.inl rfl)]
  have h0 : Out A (up2 (up2 A (43, 0) 61 (850 * 4)) (43, 0) 62 0) 3400 0 [] := ⟨up_neK _ _ (by decide) |>.trans (up_same _ _ _ _), up_same _ _ _ _, fun r hr => (by cases hr), fun a i a1 a2 => by rw [up_at, if_neg (fun z => a2 ⟨z.1, Or.inr z.2⟩), up_at, if_neg (fun z => a2 ⟨z.1, Or.inl z.2⟩)]⟩
  refine Tr.bV (Tr.bV ((Out.step (cre44 d) (fun I J => eMo_carryRow_44_0 d I J) (by decide) (by decide) (by decide) (by decide) h0).mono fun v A1 B1 ⟨q1, h1, e1⟩ => ⟨q1, ?_⟩))
  refine Tr.bV ((Out.step (cre51 d) (fun I J => eMo_carryRow_51_0 d I J) (by decide) (by decide) (by decide) (by decide) h1).mono fun v A2 B2 ⟨q1, h2, e2⟩ => ⟨q1, ?_⟩)
  refine Tr.bV ((Out.step (cre52 d) (fun I J => eMo_carryRow_52_0 d I J) (by decide) (by decide) (by decide) (by decide) h2).mono fun v A3 B3 ⟨q1, h3, e3⟩ => ⟨q1, ?_⟩)
  refine Tr.bV ((Out.step (cre53 d) (fun I J => eMo_carryRow_53_0 d I J) (by decide) (by decide) (by decide) (by decide) h3).mono fun v A4 B4 ⟨q1, h4, e4⟩ => ⟨q1, ?_⟩)
  refine Tr.bV ((Out.step (cre54 d) (fun I J => eMo_carryRow_54_0 d I J) (by decide) (by decide) (by decide) (by decide) h4).mono fun v A5 B5 ⟨q1, h5, e5⟩ => ⟨q1, ?_⟩)
  refine Tr.bV ((Out.step (cre55 d) (fun I J => eMo_carryRow_55_0 d I J) (by decide) (by decide) (by decide) (by decide) h5).mono fun v A6 B6 ⟨q1, h6, e6⟩ => ⟨q1, ?_⟩)
  refine Tr.bV ((Out.step (cre56 d) (fun I J => eMo_carryRow_56_0 d I J) (by decide) (by decide) (by decide) (by decide) h6).mono fun v A7 B7 ⟨q1, h7, e7⟩ => ⟨q1, ?_⟩)
  rw [if_pos rfl]
  obtain ⟨-, -, k3, k4⟩ := h7
  refine Tr.ret ⟨rfl, Tr.ret ⟨rfl, fun r hr i hi => (k3 r hr).2 i hi, fun a i a1 a2 => k4 a i (fun z => a1 ⟨z.1, z.2.1⟩) a2, ?_⟩⟩
  show B7 = B
  rw [e7, e6, e5, e4, e3, e2, e1]
theorem mBack (d : Nat) (A : IT) (B : JT) : Tr (ev (d + 2) mMo_laysBack 0 [vR (43, 0)] [] (hh A B)) (fun v A' B' => v = none ∧ (∀ r ∈ wRows, ∀ i, i < r.2.2 → A' (r.1, 0) i = A (87, 0) (3400 + r.2.1 + i)) ∧ (∀ a i, (∀ r ∈ wRows, ¬ (a = (r.1, 0) ∧ i < r.2.2)) → ¬ (a = (43, 0) ∧ (i = 61 ∨ i = 62)) → A' a i = A a i) ∧ B' = B) := by
  rw [eMo_laysBack_0, eMo_carriesAll_0, if_pos (Or.inr rfl)]
  have h0 : Bck A (up2 (up2 A (43, 0) 61 (850 * 4)) (43, 0) 62 1) 3400 0 [] := ⟨up_neK _ _ (by decide) |>.trans (up_same _ _ _ _), up_same _ _ _ _, fun r hr => (by cases hr), fun a i a1 a2 => by rw [up_at, if_neg (fun z => a2 ⟨z.1, Or.inr z.2⟩), up_at, if_neg (fun z => a2 ⟨z.1, Or.inl z.2⟩)]⟩
  refine Tr.bV (Tr.bV ((Bck.step (cre44 d) (fun I J => eMo_carryRow_44_0 d I J) (by decide) (by decide) (by decide) (by decide) (by decide) h0).mono fun v A1 B1 ⟨q1, h1, e1⟩ => ⟨q1, ?_⟩))
  refine Tr.bV ((Bck.step (cre51 d) (fun I J => eMo_carryRow_51_0 d I J) (by decide) (by decide) (by decide) (by decide) (by decide) h1).mono fun v A2 B2 ⟨q1, h2, e2⟩ => ⟨q1, ?_⟩)
  refine Tr.bV ((Bck.step (cre52 d) (fun I J => eMo_carryRow_52_0 d I J) (by decide) (by decide) (by decide) (by decide) (by decide) h2).mono fun v A3 B3 ⟨q1, h3, e3⟩ => ⟨q1, ?_⟩)
  refine Tr.bV ((Bck.step (cre53 d) (fun I J => eMo_carryRow_53_0 d I J) (by decide) (by decide) (by decide) (by decide) (by decide) h3).mono fun v A4 B4 ⟨q1, h4, e4⟩ => ⟨q1, ?_⟩)
  refine Tr.bV ((Bck.step (cre54 d) (fun I J => eMo_carryRow_54_0 d I J) (by decide) (by decide) (by decide) (by decide) (by decide) h4).mono fun v A5 B5 ⟨q1, h5, e5⟩ => ⟨q1, ?_⟩)
  refine Tr.bV ((Bck.step (cre55 d) (fun I J => eMo_carryRow_55_0 d I J) (by decide) (by decide) (by decide) (by decide) (by decide) h5).mono fun v A6 B6 ⟨q1, h6, e6⟩ => ⟨q1, ?_⟩)
  refine Tr.bV ((Bck.step (cre56 d) (fun I J => eMo_carryRow_56_0 d I J) (by decide) (by decide) (by decide) (by decide) (by decide) h6).mono fun v A7 B7 ⟨q1, h7, e7⟩ => ⟨q1, ?_⟩)
  rw [if_pos rfl]
  obtain ⟨-, -, k3, k4⟩ := h7
  refine Tr.ret ⟨rfl, Tr.ret ⟨rfl, k3, k4, ?_⟩⟩
  show B7 = B
  rw [e7, e6, e5, e4, e3, e2, e1]
