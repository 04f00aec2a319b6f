/-! RULES are read: values -/
/-- the class behind a fault -/
def FlC (I : IT) (by_ : Nat → Nat) (n tk r f K : Nat) : Prop := ∃ i sz pc, TkS I by_ n 1 tk ∧ i ≤ tk ∧ I (1, 0) 6 = nJ i ∧ I (1, 0) 7 = nJ f ∧ I (37, r) 1 = nJ sz ∧ sz ≤ 400 ∧ I (37, r) 5 = nJ pc ∧ pc ≤ K
def FlM (A : IT) (by_ : Nat → Nat) (n f K : Nat) : Prop := ∃ p pc, BtM A by_ n ∧ A (43, 0) 27 = nJ p ∧ p ≤ n ∧ A (43, 0) 28 = nJ f ∧ A (43, 0) 33 = nJ pc ∧ pc ≤ K ∧ A (43, 0) 35 = 11
/-- both, without one; all codes of the reference stand in the class too -/
def RlS (I A : IT) (by_ : Nat → Nat) (n tk i p r sz ez pc : Nat) : Prop := TxR I A by_ n 1 tk i 0 p ∧ r < 6 ∧ (I (37, r) 1 = nJ sz ∧ I (37, r) 5 = nJ pc ∧ A (43, 0) 29 = nJ r ∧ A (43, 0) 31 = nJ ez ∧ A (43, 0) 33 = nJ pc ∧ A (43, 0) 35 = 11) ∧ (ez ≤ sz ∧ sz ≤ 290 ∧ pc ≤ 60) ∧ ∀ j, j < ez → CdR (I (38, r) j) (A (69, 0) (300 * r + j)) (A (70, 0) (300 * r + j))
def FrL (r : Nat) (I I' : IT) : Prop := ∀ a k, ¬ (a = (37, r) ∧ (k = 1 ∨ k = 5)) → a ≠ (38, r) → ¬ (a = (1, 0) ∧ (k = 6 ∨ k = 7)) → I' a k = I a k
def FrN (r : Nat) (A A' : IT) : Prop := ∀ a k, ¬ (a = (43, 0) ∧ (k = 27 ∨ k = 28 ∨ k = 31 ∨ k = 33)) → True → ¬ ((a = (69, 0) ∨ a = (70, 0)) ∧ 300 * r ≤ k ∧ k < 300 * r + 300) → A' a k = A a k
theorem FrL.rf (r : Nat) (I : IT) : FrL r I I := fun _ _ _ _ _ => rfl
theorem FrN.rf (r : Nat) (A : IT) : FrN r A A := fun _ _ _ _ _ => rfl
theorem FrL.tr {r : Nat} {I I' I'' : IT} (h : FrL r I I') (h' : FrL r I' I'') : FrL r I I'' := fun a k h1 h2 h3 => (h' a k h1 h2 h3).trans (h a k h1 h2 h3)
theorem FrN.tr {r : Nat} {I I' I'' : IT} (h : FrN r I I') (h' : FrN r I' I'') : FrN r I I'' := fun a k h1 h2 h3 => (h' a k h1 h2 h3).trans (h a k h1 h2 h3)
theorem FrL.x {r : Nat} {I I' : IT} (h : FrX I I') : FrL r I I' := fun a k _ _ h3 => h a k h3
theorem FrN.y {r : Nat} {A A' : IT} (h : FrY A A') : FrN r A A' := fun a k h1 _ _ => h a k (fun z => h1 ⟨z.1, by omega⟩)
theorem FrL.tks {r : Nat} {I I' : IT} {by_ : Nat → Nat} {n k1 tk : Nat} (h : FrL r I I') (hT : TkS I by_ n k1 tk) : TkS I' by_ n k1 tk := by
  have e : ∀ s, s ≠ 37 → s ≠ 38 → s ≠ 1 → I' (s, 0) = I (s, 0) := fun s h1 h2 h3 => funext fun k => h _ k (fun z => h1 (Prod.mk.inj z.1).1) (fun z => h2 (Prod.mk.inj z).1) (fun z => h3 (Prod.mk.inj z.1).1)
  have e15 : I' (1, 0) 5 = I (1, 0) 5 := h _ _ (fun z => by have := (Prod.mk.inj z.1).1; omega) (fun z => by have := (Prod.mk.inj z).1; omega) (by decide)
  have e11 : I' (1, 0) 1 = I (1, 0) 1 := h _ _ (fun z => by have := (Prod.mk.inj z.1).1; omega) (fun z => by have := (Prod.mk.inj z).1; omega) (by decide)
  unfold TkS TkP BtC at hT ⊢
  rw [e 2 (by decide) (by decide) (by decide), e 3 (by decide) (by decide) (by decide), e 4 (by decide) (by decide) (by decide), e 5 (by decide) (by decide) (by decide), e15, e11]
  exact hT
theorem FrN.bt {r : Nat} {A A' : IT} {by_ : Nat → Nat} {n : Nat} (h : FrN r A A') (hb : BtM A by_ n) : BtM A' by_ n := by
  have e68 : A' (68, 0) = A (68, 0) := funext fun k => h _ k (fun z => by cases z.1) (by decide) (fun z => z.1.elim (fun w => by cases w) (fun w => by cases w))
  have e26 : A' (43, 0) 26 = A (43, 0) 26 := h _ _ (by decide) (by decide) (fun z => z.1.elim (fun w => by cases w) (fun w => by cases w))
  unfold BtM at hb ⊢
  rw [e68, e26]
  exact hb
/-- a code is put -/
def putF (I : IT) (r sz : Nat) (x : Int32) : IT := up2 (up2 I (38, r) sz x) (37, r) 1 (nJ (sz + 1))
theorem cPut {I : IT} {J : JT} {r sz : Nat} (d : Nat) (x : Int32) (e1 : I (37, r) 1 = nJ sz) (hs : sz < 400) : ev d mRu_put 0 [vR (37, r), vI x] [] (hh I J) = some (none, hh (putF I r sz x) J) := by
  rw [eRu_put_0, e1, if_pos (lt_nL (b := 400) hs (by decide)), bnd hs (by omega), nJ_nat (show sz < 2147483648 by omega), nJ_succ]
  rfl
theorem putF_fr {I : IT} {r sz : Nat} {x : Int32} : FrL r I (putF I r sz x) := fun a k h1 h2 h3 => by
  unfold putF
  rw [up_at, if_neg (fun z => h1 ⟨z.1, Or.inl z.2⟩), up_ne _ _ _ _ h2]
theorem putF_1 {I : IT} {r sz : Nat} {x : Int32} : putF I r sz x (37, r) 1 = nJ (sz + 1) := up_same _ _ _ _
theorem putF_o {I : IT} {r sz : Nat} {x : Int32} {a : Ad} {k : Nat} (h1 : ¬ (a = (37, r) ∧ k = 1)) (h2 : a ≠ (38, r)) : putF I r sz x a k = I a k := by
  unfold putF
  rw [up_at, if_neg h1, up_ne _ _ _ _ h2]
theorem putF_c {I : IT} {r sz j : Nat} {x : Int32} : putF I r sz x (38, r) j = if j = sz then x else I (38, r) j := by
  unfold putF
  rw [up_ne _ _ _ _ (fun z => by cases (Prod.mk.inj z).1), up_row]
/-- an entry is made -/
def entF (A : IT) (r ez : Nat) (x y : Int32) : IT := up2 (up2 (up2 A (69, 0) (300 * r + ez) x) (70, 0) (300 * r + ez) y) (43, 0) 31 (nJ (ez + 1))
theorem mEntry {A : IT} {B : JT} {r ez : Nat} (d : Nat) (x y : Int32) (hf : A (43, 0) 28 = 0) (e29 : A (43, 0) 29 = nJ r) (e31 : A (43, 0) 31 = nJ ez) (hr : r < 6) (he : ez < 300) : ev d mMo_entry 0 [vR (43, 0), vI x, vI y] [] (hh A B) = some (none, hh (entF A r ez x y) B) := by
  have ei : 300 * nJ r + nJ ez = nJ (300 * r + ez) := by
    rw [show 300 * nJ r = nJ (300 * r) from nJ_mul 300 r, nJ_add]
  rw [eMo_entry_0, if_pos hf, e29, e31, ei, bnd (show 300 * r + ez < 1800 by omega) (by omega), bnd (show 300 * r + ez < 1800 by omega) (by omega), nJ_nat (show 300 * r + ez < 2147483648 by omega), nJ_succ]
  rfl
theorem mEntryN {A : IT} {B : JT} (d : Nat) (x y : Int32) (hf : ¬ A (43, 0) 28 = 0) : ev d mMo_entry 0 [vR (43, 0), vI x, vI y] [] (hh A B) = some (none, hh A B) := by
  rw [eMo_entry_0, if_neg hf]
theorem entF_fr {A : IT} {r ez : Nat} {x y : Int32} (he : ez < 300) : FrN r A (entF A r ez x y) := fun a k h1 h2 h3 => by
  unfold entF
  rw [up_at, if_neg (fun z => h1 ⟨z.1, by omega⟩), up_at, if_neg (fun z => h3 ⟨Or.inr z.1, by omega, by omega⟩), up_at, if_neg (fun z => h3 ⟨Or.inl z.1, by omega, by omega⟩)]
theorem entF_43 {A : IT} {r ez k : Nat} {x y : Int32} (hk : k ≠ 31) : entF A r ez x y (43, 0) k = A (43, 0) k := by
  unfold entF
  rw [up_neK _ _ hk, up_ne _ _ _ _ (by decide), up_ne _ _ _ _ (by decide)]
theorem entF_31 {A : IT} {r ez : Nat} {x y : Int32} : entF A r ez x y (43, 0) 31 = nJ (ez + 1) := up_same _ _ _ _
theorem entF_69 {A : IT} {r ez j : Nat} {x y : Int32} : entF A r ez x y (69, 0) (300 * r + j) = if j = ez then x else A (69, 0) (300 * r + j) := by
  unfold entF
  rw [up_ne _ _ _ _ (by decide), up_ne _ _ _ _ (by decide), up_row]
  by_cases e : j = ez
  · rw [if_pos e, if_pos (by omega)]
  · rw [if_neg e, if_neg (by omega)]
theorem entF_70 {A : IT} {r ez j : Nat} {x y : Int32} : entF A r ez x y (70, 0) (300 * r + j) = if j = ez then y else A (70, 0) (300 * r + j) := by
  unfold entF
  rw [up_ne _ _ _ _ (by decide), up_row, up_ne _ _ _ _ (by decide)]
  by_cases e : j = ez
  · rw [if_pos e, if_pos (by omega)]
  · rw [if_neg e, if_neg (by omega)]
/-- the same code on both sides -/
theorem RlS.both {I A : IT} {by_ : Nat → Nat} {n tk i p r sz pc : Nat} {x s v : Int32} (h : RlS I A by_ n tk i p r sz sz pc) (hc : CdR x s v) (hs : sz < 290) : RlS (putF I r sz x) (entF A r sz s v) by_ n tk i p r (sz + 1) (sz + 1) pc := by
  obtain ⟨hx, hr, ⟨c1, c2, c3, c4, c5, c6⟩, ⟨b1, b2, b3⟩, hcd⟩ := h
  refine ⟨?_, hr, ⟨putF_1, ?_, ?_, entF_31, ?_, ?_⟩, ⟨Nat.le_refl _, by omega, b3⟩, fun j hj => ?_⟩
  · obtain ⟨t1, t2, t3, t4, t5, t6, t7, t8, t9, t10⟩ := hx
    exact ⟨putF_fr.tks t1, (entF_fr (by omega)).bt t2, t3, (putF_o (fun z => by have := (Prod.mk.inj z.1).1; omega) (fun z => by have := (Prod.mk.inj z).1; omega)).trans t4, (putF_o (fun z => by have := (Prod.mk.inj z.1).1; omega) (fun z => by have := (Prod.mk.inj z).1; omega)).trans t5, (entF_43 (by decide)).trans t6, (entF_43 (by decide)).trans t7, t8, t9, t10⟩
  · rw [putF_o (fun z => by omega) (fun z => by have := (Prod.mk.inj z).1; omega)]; exact c2
  · rw [entF_43 (by decide)]; exact c3
  · rw [entF_43 (by decide)]; exact c5
  · rw [entF_43 (by decide)]; exact c6
  · rw [putF_c, entF_69, entF_70]
    by_cases e : j = sz
    · rw [if_pos e, if_pos e, if_pos e]
      exact hc
    · rw [if_neg e, if_neg e, if_neg e]
      exact hcd j (by omega)
theorem FlC.K {I : IT} {by_ : Nat → Nat} {n tk r f K K' : Nat} (h : FlC I by_ n tk r f K) (hk : K ≤ K') : FlC I by_ n tk r f K' := by
  obtain ⟨i, sz, pc, h1, h2, h3, h4, h5, h6, h7, h8⟩ := h
  exact ⟨i, sz, pc, h1, h2, h3, h4, h5, h6, h7, by omega⟩
theorem FlM.K {A : IT} {by_ : Nat → Nat} {n f K K' : Nat} (h : FlM A by_ n f K) (hk : K ≤ K') : FlM A by_ n f K' := by
  obtain ⟨p, pc, h1, h2, h3, h4, h5, h6, h7⟩ := h
  exact ⟨p, pc, h1, h2, h3, h4, h5, by omega, h7⟩
/-- behind a fault a code is put without harm -/
theorem FlC.put {I : IT} {J : JT} {by_ : Nat → Nat} {n tk r f K : Nat} (d : Nat) (x : Int32) (h : FlC I by_ n tk r f K) : ∃ I', FlC I' by_ n tk r f K ∧ FrL r I I' ∧ ev d mRu_put 0 [vR (37, r), vI x] [] (hh I J) = some (none, hh I' J) := by
  obtain ⟨i, sz, pc, h1, h2, h3, h4, h5, h6, h7, h8⟩ := h
  by_cases hs : sz < 400
  · refine ⟨putF I r sz x, ⟨i, sz + 1, pc, putF_fr.tks h1, h2, ?_, ?_, putF_1, by omega, ?_, h8⟩, putF_fr, cPut d x h5 hs⟩
    · rw [putF_o (fun z => by have := (Prod.mk.inj z.1).1; omega) (fun z => by have := (Prod.mk.inj z).1; omega)]; exact h3
    · rw [putF_o (fun z => by have := (Prod.mk.inj z.1).1; omega) (fun z => by have := (Prod.mk.inj z).1; omega)]; exact h4
    · rw [putF_o (fun z => by omega) (fun z => by have := (Prod.mk.inj z).1; omega)]; exact h7
  · refine ⟨I, ⟨i, sz, pc, h1, h2, h3, h4, h5, h6, h7, h8⟩, FrL.rf r I, ?_⟩
    rw [eRu_put_0, h5, if_neg (nlt_nL (b := 400) (by omega) (by omega))]
theorem FlC.n0 {I : IT} {by_ : Nat → Nat} {n tk r f K : Nat} (h : FlC I by_ n tk r f K) (hf : f ≠ 0) (hl : f < 100000) : ¬ I (1, 0) 7 = 0 := by
  obtain ⟨i, sz, pc, h1, h2, h3, h4, -⟩ := h
  rw [h4]
  exact ne_nL (b := 0) hf (by omega) (by decide)
theorem FlM.n0 {A : IT} {by_ : Nat → Nat} {n f K : Nat} (h : FlM A by_ n f K) (hf : f ≠ 0) (hl : f < 100000) : ¬ A (43, 0) 28 = 0 := by
  obtain ⟨p, pc, h1, h2, h3, h4, -⟩ := h
  rw [h4]
  exact ne_nL (b := 0) hf (by omega) (by decide)
/-- what a part of a rule leaves: a fault on both sides, or Q -/
def RlO (r K f0 : Nat) (I A : IT) (J B : JT) (by_ : Nat → Nat) (n tk : Nat) (o o' : Option Rs) (Q : IT → IT → Prop) : Prop := ∃ I' A', o = some (none, hh I' J) ∧ o' = some (none, hh A' B) ∧ FrL r I I' ∧ FrN r A A' ∧ ((∃ f, f ≠ 0 ∧ f < 100000 ∧ FlC I' by_ n tk r f K ∧ FlM A' by_ n f K) ∨ Q I' A')
