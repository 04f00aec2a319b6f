/-! THE STACK of the reference's tests -/
def FrP (r : Nat) (A A' : IT) : Prop := ∀ a k, ¬ (a = (43, 0) ∧ (k = 27 ∨ k = 28 ∨ k = 31 ∨ k = 32 ∨ k = 33 ∨ k = 34)) → a ≠ (75, 0) → ¬ ((a = (69, 0) ∨ a = (70, 0)) ∧ 300 * r ≤ k ∧ k < 300 * r + 300) → A' a k = A a k
theorem FrP.rf (r : Nat) (A : IT) : FrP r A A := fun _ _ _ _ _ => rfl
theorem FrP.tr {r : Nat} {I I' I'' : IT} (h : FrP r I I') (h' : FrP r I' I'') : FrP r I I'' := fun a k h1 h2 h3 => (h' a k h1 h2 h3).trans (h a k h1 h2 h3)
theorem FrN.q {r : Nat} {A A' : IT} (h : FrN r A A') : FrP r A A' := fun a k h1 _ h3 => h a k (fun z => h1 ⟨z.1, by omega⟩) trivial h3
theorem FrP.bt {r : Nat} {A A' : IT} {by_ : Nat → Nat} {n : Nat} (h : FrP r A A') (hb : BtM A by_ n) : BtM A' by_ n := by
  refine ⟨hb.1, ?_, fun k hk => ⟨(hb.2.2 k hk).1, ?_⟩⟩
  · rw [h (43, 0) 26 (by decide) (by decide) (fun z => by rcases z.1 with z | z <;> exact absurd z (by decide))]
    exact hb.2.1
  · rw [h (68, 0) k (fun z => absurd z.1 (by decide)) (by decide) (fun z => by rcases z.1 with z | z <;> exact absurd z (by decide))]
    exact (hb.2.2 k hk).2
/-- what of a fault outlasts a test -/
def FlE (A : IT) (by_ : Nat → Nat) (n f : Nat) : Prop := ∃ p, BtM A by_ n ∧ A (43, 0) 27 = nJ p ∧ p ≤ 1000 ∧ A (43, 0) 28 = nJ f
theorem FlM.e {A : IT} {by_ : Nat → Nat} {n f K : Nat} (h : FlM A by_ n f K) : FlE A by_ n f := by
  obtain ⟨p, pc, h1, h2, h3, h4, -⟩ := h
  have := h1.1
  exact ⟨p, h1, h2, by omega, h4⟩
theorem FlE.n0 {A : IT} {by_ : Nat → Nat} {n f : Nat} (h : FlE A by_ n f) (hf : f ≠ 0) (hl : f < 100000) : ¬ A (43, 0) 28 = 0 := by
  obtain ⟨p, h1, h2, h3, h4⟩ := h
  rw [h4]
  exact ne_nL (b := 0) hf (by omega) (by decide)
theorem mTop0 {A : IT} {B : JT} (d : Nat) (h : A (43, 0) 34 = nJ 0) : ev d mMo_top 0 [vR (43, 0)] [] (hh A B) = some (some (vI (-1)), hh A B) := by
  rw [eMo_top_0, if_pos (show A (43, 0) 34 = 0 from h)]
theorem mTopS {A : IT} {B : JT} {m : Nat} (d : Nat) (h : A (43, 0) 34 = nJ (m + 1)) (hm : m < 402) : ev d mMo_top 0 [vR (43, 0)] [] (hh A B) = some (some (vI (A (75, 0) m)), hh A B) := by
  have e : nJ (m + 1) - 1 = nJ m := nJ_sub (show 1 ≤ m + 1 by omega)
  rw [eMo_top_0, h, if_neg (ne_nL (b := 0) (by omega) (by omega) (by decide)), e, bnd hm (by decide), nJ_nat (by omega)]
/-- one more on the stack -/
def opnF (A : IT) (m : Nat) (x : Int32) : IT := up2 (up2 A (75, 0) m x) (43, 0) 34 (nJ (m + 1))
theorem mOpen2 {A : IT} {B : JT} {m : Nat} (d : Nat) (x : Int32) (hx : x = 10 ∨ x = 11) (h : A (43, 0) 34 = nJ m) (hm : m < 402) : ev (d + 1) mMo_opens 0 [vR (43, 0), vI x] [] (hh A B) = some (none, hh (opnF A m x) B) := by
  have h9 : ¬ x = 9 := by rcases hx with rfl | rfl <;> decide
  have h12 : ¬ x = 12 := by rcases hx with rfl | rfl <;> decide
  rw [eMo_opens_0, if_neg h9, if_neg h12, h, bnd hm (by decide), nJ_nat (by omega), nJ_succ]
  rfl
theorem mOpenD {A : IT} {B : JT} {m dl : Nat} (d : Nat) (x : Int32) (hx : x = 9 ∨ x = 12) (h : A (43, 0) 34 = nJ m) (hm : m < 402) (h32 : A (43, 0) 32 = nJ dl) (hd : dl < 10) : ev (d + 1) mMo_opens 0 [vR (43, 0), vI x] [] (hh A B) = some (none, hh (opnF (up2 A (43, 0) 32 (nJ (dl + 1))) m x) B) := by
  have e : ¬ nJ dl = 10 := ne_nL (b := 10) (by omega) (by omega) (by decide)
  rw [eMo_opens_0, h32, if_neg e, h]
  rcases hx with rfl | rfl
  · rw [if_pos rfl, bnd hm (by decide), nJ_nat (by omega), nJ_succ, nJ_succ]
    rfl
  · rw [if_neg (show ¬ (12 : Int32) = 9 by decide), if_pos rfl, bnd hm (by decide), nJ_nat (by omega), nJ_succ, nJ_succ]
    rfl
/-- too deep -/
theorem mOpenX {A : IT} {B : JT} {m s : Nat} (d : Nat) (x : Int32) (hx : x = 9 ∨ x = 12) (h : A (43, 0) 34 = nJ m) (hm : m < 402) (h32 : A (43, 0) 32 = nJ 10) (h27 : A (43, 0) 27 = nJ s) (h28 : A (43, 0) 28 = 0) : ev (d + 1) mMo_opens 0 [vR (43, 0), vI x] [] (hh A B) = some (none, hh (opnF (up2 (up2 A (43, 0) 28 (nJ (1 + 8 * s + 2))) (43, 0) 32 (nJ 11)) m x) B) := by
  have hf : ev d mMo_fails 0 [vR (43, 0), vI 2, vI (nJ s)] [] (hh A B) = some (none, hh (up2 A (43, 0) 28 (nJ (1 + 8 * s + 2))) B) := mFails0 d s 2 h28
  have h32' : up2 A (43, 0) 28 (nJ (1 + 8 * s + 2)) (43, 0) 32 = nJ 10 := (up_neK _ _ (by decide)).trans h32
  have h34' : up2 A (43, 0) 28 (nJ (1 + 8 * s + 2)) (43, 0) 34 = nJ m := (up_neK _ _ (by decide)).trans h
  rw [eMo_opens_0, h32, if_pos (show nJ 10 = 10 from rfl), h27, hf, bV_some, gI_hh, gJ_hh, h32', h34']
  rcases hx with rfl | rfl
  · rw [if_pos rfl, bnd hm (by decide), nJ_nat (by omega), nJ_succ, nJ_succ]
    rfl
  · rw [if_neg (show ¬ (12 : Int32) = 9 by decide), if_pos rfl, bnd hm (by decide), nJ_nat (by omega), nJ_succ, nJ_succ]
    rfl
/-- one answered -/
def ansF (A : IT) (r ez m dl : Nat) (x : Int32) : IT := up2 (up2 (entF A r ez x 0) (43, 0) 34 (nJ m)) (43, 0) 32 (nJ dl)
theorem mAnsStep {A : IT} {B : JT} {r ez m dl : Nat} (d : Nat) (x : Int32) (h28 : A (43, 0) 28 = 0) (h29 : A (43, 0) 29 = nJ r) (h31 : A (43, 0) 31 = nJ ez) (hr : r < 6) (he : ez < 300) (h34 : A (43, 0) 34 = nJ (m + 1)) (hm : m < 402) (h75 : A (75, 0) m = x) (h32 : A (43, 0) 32 = nJ (if x = 9 then dl + 1 else dl)) : ev (d + 1) mMo_answers 0 [vR (43, 0), vI x] [] (hh A B) = ev (d + 1) mMo_answers 0 [vR (43, 0), vI x] [] (hh (ansF A r ez m dl x) B) := by
  have e34 : entF A r ez x 0 (43, 0) 34 - 1 = nJ m := by
    rw [entF_43 (by decide), h34]
    exact nJ_sub (show 1 ≤ m + 1 by omega)
  have e32 : entF A r ez x 0 (43, 0) 32 = nJ (if x = 9 then dl + 1 else dl) := (entF_43 (by decide)).trans h32
  rw [eMo_answers_0, mTopS d h34 hm, bI_some, h75, if_pos rfl]
  simp only [gI_hh, gJ_hh]
  rw [if_pos h28, mEntry d x 0 h28 h29 h31 hr he, bV_some]
  simp only [gI_hh, gJ_hh]
  rw [e34, e32]
  by_cases h9 : x = 9
  · rw [if_pos h9, if_pos h9, show nJ (dl + 1) - 1 = nJ dl from nJ_sub (show 1 ≤ dl + 1 by omega)]
    rfl
  · rw [if_neg h9, if_neg h9, show nJ dl - 0 = nJ dl from nJ_sub (show 0 ≤ dl by omega)]
    rfl
theorem mAnsNo {A : IT} {B : JT} {m : Nat} (d : Nat) (x : Int32) (hx : ¬ x = -1) (h34 : A (43, 0) 34 = nJ m) (hm : m ≤ 402) (h75 : ∀ k, m = k + 1 → ¬ A (75, 0) k = x) : ev (d + 1) mMo_answers 0 [vR (43, 0), vI x] [] (hh A B) = some (none, hh A B) := by
  rw [eMo_answers_0]
  cases m with
  | zero => rw [mTop0 d h34, bI_some, if_neg (fun z => hx z.symm)]
  | succ m => rw [mTopS d h34 (by omega), bI_some, if_neg (h75 m rfl)]
theorem RlS.ans {I A : IT} {by_ : Nat → Nat} {n tk i p r sz ez pc m dl : Nat} {x : Int32} (h : RlS I A by_ n tk i p r sz ez pc) (he : ez < sz) (hc : CdR (I (38, r) ez) x 0) : RlS I (ansF A r ez m dl x) by_ n tk i p r sz (ez + 1) pc := by
  obtain ⟨⟨t1, t2, t3, t4, t5, t6, t7, t8, t9, t10⟩, hr, ⟨c1, c2, c3, c4, c5, c6⟩, ⟨b1, b2, b3⟩, hcd⟩ := h
  have o : ∀ k, k ≠ 31 → k ≠ 34 → k ≠ 32 → ansF A r ez m dl x (43, 0) k = A (43, 0) k := fun k h1 h2 h3 => by
    unfold ansF
    rw [up_neK _ _ h3, up_neK _ _ h2, entF_43 h1]
  have o2 : ∀ (a : Ad) k, a ≠ (43, 0) → ansF A r ez m dl x a k = entF A r ez x 0 a k := fun a k h => by
    unfold ansF
    rw [up_ne _ _ _ _ h, up_ne _ _ _ _ h]
  refine ⟨⟨t1, ⟨t2.1, (o 26 (by decide) (by decide) (by decide)).trans t2.2.1, fun k hk => ⟨(t2.2.2 k hk).1, ?_⟩⟩, t3, t4, t5, (o 27 (by decide) (by decide) (by decide)).trans t6, (o 28 (by decide) (by decide) (by decide)).trans t7, t8, t9, t10⟩, hr, ⟨c1, c2, (o 29 (by decide) (by decide) (by decide)).trans c3, ?_, (o 33 (by decide) (by decide) (by decide)).trans c5, (o 35 (by decide) (by decide) (by decide)).trans c6⟩, ⟨by omega, b2, b3⟩, fun j hj => ?_⟩
  · rw [o2 _ _ (by decide)]
    unfold entF
    rw [up_ne _ _ _ _ (by decide), up_ne _ _ _ _ (by decide), up_ne _ _ _ _ (by decide)]
    exact (t2.2.2 k hk).2
  · unfold ansF
    rw [up_neK _ _ (by decide), up_neK _ _ (by decide)]
    exact entF_31
  · rw [o2 _ _ (by decide), o2 _ _ (by decide), entF_69, entF_70]
    by_cases e : j = ez
    · rw [if_pos e, if_pos e, e]
      exact hc
    · rw [if_neg e, if_neg e]
      exact hcd j (by omega)
theorem ansF_fr {A : IT} {r ez m dl : Nat} {x : Int32} (he : ez < 300) : FrP r A (ansF A r ez m dl x) := fun a k h1 h2 h3 => by
  unfold ansF
  rw [up_at, if_neg (fun z => h1 ⟨z.1, by omega⟩), up_at, if_neg (fun z => h1 ⟨z.1, by omega⟩)]
  exact entF_fr he a k (fun z => h1 ⟨z.1, by omega⟩) trivial h3
theorem ansF_75 {A : IT} {r ez m dl k : Nat} {x : Int32} : ansF A r ez m dl x (75, 0) k = A (75, 0) k := by
  unfold ansF entF
  rw [up_ne _ _ _ _ (by decide), up_ne _ _ _ _ (by decide), up_ne _ _ _ _ (by decide), up_ne _ _ _ _ (by decide), up_ne _ _ _ _ (by decide)]
/-- all of one sort that wait on top are answered -/
theorem mAnsG {I : IT} {B : JT} {by_ : Nat → Nat} {n tk i p r sz pc m dl : Nat} (d : Nat) (x c : Int32) (hx : ¬ x = -1) (hc : CdR c x 0) : ∀ v (A : IT) (ez : Nat), RlS I A by_ n tk i p r sz ez pc → ez + v ≤ sz → (∀ j, ez ≤ j → j < ez + v → I (38, r) j = c) → m + v ≤ 402 → A (43, 0) 34 = nJ (m + v) → A (43, 0) 32 = nJ (if x = 9 then dl + v else dl) → (∀ k, m = k + 1 → ¬ A (75, 0) k = x) → (∀ k, m ≤ k → k < m + v → A (75, 0) k = x) → ∃ A', ev (d + 1) mMo_answers 0 [vR (43, 0), vI x] [] (hh A B) = some (none, hh A' B) ∧ RlS I A' by_ n tk i p r sz (ez + v) pc ∧ A' (43, 0) 34 = nJ m ∧ A' (43, 0) 32 = nJ dl ∧ (∀ k, A' (75, 0) k = A (75, 0) k) ∧ FrP r A A'
  | 0, A, ez, h, _, _, hm, h34, h32, h75, _ => by
    refine ⟨A, mAnsNo d x hx h34 hm h75, h, h34, ?_, fun _ => rfl, FrP.rf r A⟩
    rw [h32]
    split <;> rfl
  | v + 1, A, ez, h, hs, hcod, hm, h34, h32, h75, h75' => by
    have h0 := h
    obtain ⟨⟨t1, t2, t3, t4, t5, t6, t7, t8, t9, t10⟩, hr, ⟨c1, c2, c3, c4, c5, c6⟩, ⟨b1, b2, b3⟩, hcd⟩ := h
    have hst := mAnsStep (B := B) (m := m + v) (dl := if x = 9 then dl + v else dl) d x t7 c3 c4 hr (by omega) h34 (by omega) (h75' (m + v) (by omega) (by omega)) (by
      rw [h32]
      by_cases e : x = 9
      · rw [if_pos e, if_pos e, if_pos e]
        rfl
      · rw [if_neg e, if_neg e, if_neg e])
    have hR := h0.ans (m := m + v) (dl := if x = 9 then dl + v else dl) (x := x) (by omega) (by rw [hcod ez (by omega) (by omega)]; exact hc)
    obtain ⟨A', a1, a2, a3, a4, a5, a6⟩ := mAnsG (m := m) (dl := dl) d x c hx hc v (ansF A r ez (m + v) (if x = 9 then dl + v else dl) x) (ez + 1) hR (by omega) (fun j j1 j2 => hcod j (by omega) (by omega)) (by omega) (by
      unfold ansF
      rw [up_neK _ _ (by decide), up_same]) (by
      unfold ansF
      rw [up_same]) (fun k hk => by rw [ansF_75]; exact h75 k hk) (fun k k1 k2 => by rw [ansF_75]; exact h75' k k1 (by omega))
    refine ⟨A', hst.trans a1, ?_, a3, a4, fun k => (a5 k).trans ansF_75, (ansF_fr (by omega)).tr a6⟩
    rw [show ez + (v + 1) = ez + 1 + v by omega]
    exact a2
