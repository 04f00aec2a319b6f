/-! A CLAUSE of a rule -/
theorem TkS.ext {I I' : IT} {by_ : Nat → Nat} {n k1 tk : Nat} (h : TkS I by_ n k1 tk) (hI : ∀ s, 1 ≤ s → s ≤ 5 → I' (s, 0) = I (s, 0)) : TkS I' by_ n k1 tk := by
  unfold TkS TkP BtC at h ⊢
  rw [hI 1 (by decide) (by decide), hI 2 (by decide) (by decide), hI 3 (by decide) (by decide), hI 4 (by decide) (by decide), hI 5 (by decide) (by decide)]
  exact h
theorem BtM.ext {A A' : IT} {by_ : Nat → Nat} {n : Nat} (h : BtM A by_ n) (h43 : A' (43, 0) = A (43, 0)) (h68 : A' (68, 0) = A (68, 0)) : BtM A' by_ n := by
  unfold BtM at h ⊢
  rw [h43, h68]
  exact h
theorem RlS.ext {I A I' A' : IT} {by_ : Nat → Nat} {n tk i p r sz ez pc : Nat} (h : RlS I A by_ n tk i p r sz ez pc) (hI : ∀ s, 1 ≤ s → s ≤ 5 → I' (s, 0) = I (s, 0)) (h1 : I' (37, r) 1 = I (37, r) 1) (h5 : I' (37, r) 5 = I (37, r) 5) (h38 : I' (38, r) = I (38, r)) (hA : ∀ s, (s = 43 ∨ s = 68 ∨ s = 69 ∨ s = 70) → A' (s, 0) = A (s, 0)) : RlS I' A' by_ n tk i p r sz ez pc := by
  obtain ⟨ht, hr, hc, hb, hcd⟩ := h
  refine ⟨ht.ext hI (hA 43 (by decide)) (hA 68 (by decide)), hr, ?_, hb, ?_⟩
  · rw [h1, h5, hA 43 (by decide)]
    exact hc
  · rw [h38, hA 69 (by decide), hA 70 (by decide)]
    exact hcd
theorem FlC.ext {I I' : IT} {by_ : Nat → Nat} {n tk r f K : Nat} (h : FlC I by_ n tk r f K) (hI : ∀ s, 1 ≤ s → s ≤ 5 → I' (s, 0) = I (s, 0)) (h1 : I' (37, r) 1 = I (37, r) 1) (h5 : I' (37, r) 5 = I (37, r) 5) : FlC I' by_ n tk r f K := by
  obtain ⟨i, sz, pc, a1, a2, a3, a4, a5, a6, a7, a8⟩ := h
  refine ⟨i, sz, pc, a1.ext hI, a2, ?_, ?_, h1.trans a5, a6, h5.trans a7, a8⟩
  · rw [hI 1 (by decide) (by decide)]; exact a3
  · rw [hI 1 (by decide) (by decide)]; exact a4
theorem FlE.ext {A A' : IT} {by_ : Nat → Nat} {n f : Nat} (h : FlE A by_ n f) (h43 : A' (43, 0) = A (43, 0)) (h68 : A' (68, 0) = A (68, 0)) : FlE A' by_ n f := by
  obtain ⟨p, a1, a2, a3, a4⟩ := h
  refine ⟨p, a1.ext h43 h68, ?_, a3, ?_⟩
  · rw [h43]; exact a2
  · rw [h43]; exact a4
/-- the cells that a rule's reading may change -/
def FrK (r : Nat) (I I' : IT) : Prop := ∀ a k, ¬ (37 ≤ a.1 ∧ a.1 ≤ 40 ∧ a.2 = r) → ¬ (a = (1, 0) ∧ (k = 6 ∨ k = 7)) → I' a k = I a k
def FrW (r : Nat) (A A' : IT) : Prop := ∀ a k, ¬ (a = (43, 0) ∧ (k = 27 ∨ k = 28 ∨ k = 31 ∨ k = 32 ∨ k = 33 ∨ k = 34)) → a ≠ (75, 0) → ¬ ((a = (69, 0) ∨ a = (70, 0)) ∧ 300 * r ≤ k ∧ k < 300 * r + 300) → ¬ ((a = (72, 0) ∨ a = (73, 0) ∨ a = (74, 0)) ∧ 12 * r ≤ k ∧ k < 12 * r + 12) → A' a k = A a k
theorem FrK.rf (r : Nat) (I : IT) : FrK r I I := fun _ _ _ _ => rfl
theorem FrW.rf (r : Nat) (I : IT) : FrW r I I := fun _ _ _ _ _ _ => rfl
theorem FrK.tr {r : Nat} {I I' I'' : IT} (h : FrK r I I') (h' : FrK r I' I'') : FrK r I I'' := fun a k h1 h2 => (h' a k h1 h2).trans (h a k h1 h2)
theorem FrW.tr {r : Nat} {I I' I'' : IT} (h : FrW r I I') (h' : FrW r I' I'') : FrW r I I'' := fun a k h1 h2 h3 h4 => (h' a k h1 h2 h3 h4).trans (h a k h1 h2 h3 h4)
theorem FrL.k {r : Nat} {I I' : IT} (h : FrL r I I') : FrK r I I' := fun a k h1 h2 => h a k (fun z => h1 (by rw [z.1]; exact ⟨show 37 ≤ 37 by decide, show 37 ≤ 40 by decide, rfl⟩)) (fun z => h1 (by rw [z]; exact ⟨show 37 ≤ 38 by decide, show 38 ≤ 40 by decide, rfl⟩)) h2
theorem FrP.w {r : Nat} {A A' : IT} (h : FrP r A A') : FrW r A A' := fun a k h1 h2 h3 _ => h a k h1 h2 h3
theorem FrK.x {r : Nat} {I I' : IT} (h : FrX I I') : FrK r I I' := fun a k _ h2 => h a k h2
theorem FrW.y {r : Nat} {I I' : IT} (h : FrY I I') : FrW r I I' := fun a k h1 _ _ _ => h a k (fun z => h1 ⟨z.1, by omega⟩)
theorem FrK.up {r s k : Nat} {I : IT} {x : Int32} (h1 : 37 ≤ s) (h2 : s ≤ 40) : FrK r I (up2 I (s, r) k x) := fun a j q _ => up_ne _ _ _ _ (fun z => q (by rw [z]; exact ⟨h1, h2, rfl⟩))
theorem FrW.up {r s k : Nat} {A : IT} {x : Int32} (h1 : s = 72 ∨ s = 73 ∨ s = 74) (h2 : 12 * r ≤ k) (h3 : k < 12 * r + 12) : FrW r A (up2 A (s, 0) k x) := fun a j _ _ _ q => by
  rw [up_at, if_neg (fun z => q ⟨?_, by omega⟩)]
  rw [z.1]
  rcases h1 with rfl | rfl | rfl <;> simp
/-- the end of a clause in the class -/
def fnI (H : IT) (r c s : Nat) : IT := up2 (up2 H (37, r) 4 (nJ (c + 1))) (39, r) (c + 1) (nJ s)
theorem cl_tail {H : IT} {J : JT} {r c s : Nat} (h4 : H (37, r) 4 = nJ c) (h1 : H (37, r) 1 = nJ s) (hc : c < 12) : (if ((up2 H (37, r) 4 ((H (37, r) 4) + 1)) (37, r) 4) < 0 ∨ 13 ≤ ((up2 H (37, r) 4 ((H (37, r) 4) + 1)) (37, r) 4).toNatClampNeg then none else some (none, hh (up2 (up2 H (37, r) 4 ((H (37, r) 4) + 1)) (39, r) (((up2 H (37, r) 4 ((H (37, r) 4) + 1)) (37, r) 4).toNatClampNeg) ((up2 H (37, r) 4 ((H (37, r) 4) + 1)) (37, r) 1)) J) : Option Rs) = some (none, hh (fnI H r c s) J) := by
  rw [up_same, up_neK _ _ (by decide), h4, h1, nJ_succ, bnd (show c + 1 < 13 by omega) (by decide), nJ_nat (by omega)]
  rfl
theorem fnI_o {H : IT} {r c s : Nat} {a : Ad} {k : Nat} (h1 : ¬ (a = (37, r) ∧ k = 4)) (h2 : ¬ (a = (39, r) ∧ k = c + 1)) : fnI H r c s a k = H a k := by
  unfold fnI
  rw [up_at, if_neg h2, up_at, if_neg h1]
theorem fnI_fr {H : IT} {r c s : Nat} : FrK r H (fnI H r c s) := (FrK.up (by decide) (by decide)).tr (FrK.up (by decide) (by decide))
/-- between clauses -/
def ClS (I A : IT) (by_ : Nat → Nat) (n tk i p r sz pc c : Nat) : Prop := RlS I A by_ n tk i p r sz sz pc ∧ 3 * sz ≤ 14 * pc ∧ c ≤ 12 ∧ I (37, r) 4 = nJ c ∧ A (43, 0) 32 = nJ 0 ∧ (0 < c → I (39, r) c = nJ sz) ∧ ∀ k, k < c → ∃ a b e, e ≤ sz ∧ I (39, r) k = nJ a ∧ I (40, r) k = nJ b ∧ I (39, r) (k + 1) = nJ e ∧ A (72, 0) (12 * r + k) = nJ a ∧ A (73, 0) (12 * r + k) = nJ b ∧ A (74, 0) (12 * r + k) = nJ e ∧ SgR (I (38, r)) a b 40 (fun _ => True) ∧ (b = e ∨ SgR (I (38, r)) b e 40 ZO)
/-- one clause more -/
theorem ClS.more {I A I' A' : IT} {by_ : Nat → Nat} {n tk i p i' p' r sz pc c b sz' pc' : Nat} (h : ClS I A by_ n tk i p r sz pc c) (hc : c < 12) (hR : RlS I' A' by_ n tk i' p' r sz' sz' pc') (hb : 3 * sz' ≤ 14 * pc') (h4 : I' (37, r) 4 = nJ (c + 1)) (h32 : A' (43, 0) 32 = nJ 0) (h39 : ∀ k, I' (39, r) k = if k = c + 1 then nJ sz' else if k = c then nJ sz else I (39, r) k) (h40 : ∀ k, I' (40, r) k = if k = c then nJ b else I (40, r) k) (h72 : ∀ k, k < 12 → A' (72, 0) (12 * r + k) = if k = c then nJ sz else A (72, 0) (12 * r + k)) (h73 : ∀ k, k < 12 → A' (73, 0) (12 * r + k) = if k = c then nJ b else A (73, 0) (12 * r + k)) (h74 : ∀ k, k < 12 → A' (74, 0) (12 * r + k) = if k = c then nJ sz' else A (74, 0) (12 * r + k)) (hcd : ∀ j, j < sz → I' (38, r) j = I (38, r) j) (hsz : sz ≤ sz') (hs1 : SgR (I' (38, r)) sz b 40 (fun _ => True)) (hs2 : b = sz' ∨ SgR (I' (38, r)) b sz' 40 ZO) : ClS I' A' by_ n tk i' p' r sz' pc' (c + 1) := by
  obtain ⟨h0, h0b, hc12, e4, e32, e39, hcl⟩ := h
  refine ⟨hR, hb, by omega, h4, h32, fun _ => by rw [h39, if_pos rfl], fun k hk => ?_⟩
  by_cases e : k = c
  · subst e
    exact ⟨sz, b, sz', Nat.le_refl _, by rw [h39, if_neg (by omega), if_pos rfl], by rw [h40, if_pos rfl], by rw [h39, if_pos rfl], by rw [h72 k hc, if_pos rfl], by rw [h73 k hc, if_pos rfl], by rw [h74 k hc, if_pos rfl], hs1, hs2⟩
  · obtain ⟨a, b0, e0, q1, q2, q3, q4, q5, q6, q7, q8, q9⟩ := hcl k (by omega)
    have hb0 : b0 ≤ sz := by
      rcases q9 with z | z
      · omega
      · have := z.1
        omega
    refine ⟨a, b0, e0, by omega, ?_, ?_, ?_, ?_, ?_, ?_, q8.ext (fun j _ hj => (hcd j (by omega)).symm), ?_⟩
    · rw [h39, if_neg (by omega), if_neg e]; exact q2
    · rw [h40, if_neg e]; exact q3
    · rw [h39, if_neg (by omega)]
      by_cases e2 : k + 1 = c
      · rw [if_pos e2, ← e39 (by omega), ← e2]; exact q4
      · rw [if_neg e2]; exact q4
    · rw [h72 k (by omega), if_neg e]; exact q5
    · rw [h73 k (by omega), if_neg e]; exact q6
    · rw [h74 k (by omega), if_neg e]; exact q7
    · rcases q9 with z | z
      · exact Or.inl z
      · exact Or.inr (z.ext (fun j _ hj => (hcd j (by omega)).symm))
