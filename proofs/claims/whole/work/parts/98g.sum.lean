theorem sumK_eq {A A2 : IT} {B : JT} (d : Nat) (w : Int32) (h : ev (d + 6) mMo_term 4 [vR (43, 0), vU] [] (hh A B) = ev (d + 6) mMo_term 4 [vR (43, 0), vU] [] (hh A2 B)) : sumK d w A B = sumK d w A2 B := by
  unfold sumK
  rw [h]
/-- the class's loop: a sign of a term, of a sum, or none -/
theorem c7_mul {I : IT} {J : JT} {by_ : Nat → Nat} {n tk i r c : Nat} (d x3 : Nat) (w : Int32) (hT : TkS I by_ n 1 tk) (hi : i ≤ tk) (e6 : I (1, 0) 6 = nJ i) (e7 : I (1, 0) 7 = 0) (hx : x3 < 400) (hcs : csF by_ n tk i = nJ c) (hc : c = 42 ∨ c = 47 ∨ c = 37) : ev (d + 2) mRu_readSum 7 [vR (37, r), vR (1, 0), vI w, vI (nJ x3), vU, vU] [] (hh I J) = bV (ev (d + 1) mTe_skip 0 [vR (1, 0)] [] (hh I J)) (fun h1 => bV (ev (d + 1) mRu_readValue 0 [vR (37, r), vR (1, 0), vU, vU] [] (hh (gI h1) (gJ h1))) (fun h2 => bV (ev (d + 1) mRu_put 0 [vR (37, r), vI (nJ c)] [] (hh (gI h2) (gJ h2))) (fun h3 => ev (d + 2) mRu_readSum 7 [vR (37, r), vR (1, 0), vI w, vI (nJ (x3 + 1)), vU, vU] [] (hh (gI h3) (gJ h3))))) := by
  rw [eRu_readSum_7, if_pos (lt_nL (b := 400) hx (by decide)), if_pos e7, cSignHere (d + 1) hT hi e6, bI_some, hcs]
  simp only [gI_hh, gJ_hh, eRu_readSum_38, if_true, nJ_succ]
  rcases hc with rfl | rfl | rfl
  · rw [if_neg (show ¬ nJ 42 = 43 by decide), if_neg (show ¬ nJ 42 = 45 by decide), if_pos (show nJ 42 = 42 from rfl)]
  · rw [if_neg (show ¬ nJ 47 = 43 by decide), if_neg (show ¬ nJ 47 = 45 by decide), if_neg (show ¬ nJ 47 = 42 by decide), if_pos (show nJ 47 = 47 from rfl)]
  · rw [if_neg (show ¬ nJ 37 = 43 by decide), if_neg (show ¬ nJ 37 = 45 by decide), if_neg (show ¬ nJ 37 = 42 by decide), if_neg (show ¬ nJ 37 = 47 by decide), if_pos (show nJ 37 = 37 from rfl)]
theorem c7_add {I : IT} {J : JT} {by_ : Nat → Nat} {n tk i r c : Nat} (d x3 : Nat) (w : Int32) (hT : TkS I by_ n 1 tk) (hi : i ≤ tk) (e6 : I (1, 0) 6 = nJ i) (e7 : I (1, 0) 7 = 0) (hx : x3 < 400) (hcs : csF by_ n tk i = nJ c) (hc : c = 43 ∨ c = 45) {I1 : IT} (hI1 : (w = -1 ∧ I1 = I) ∨ (w ≠ -1 ∧ ev (d + 1) mRu_put 0 [vR (37, r), vI w] [] (hh I J) = some (none, hh I1 J))) : ev (d + 2) mRu_readSum 7 [vR (37, r), vR (1, 0), vI w, vI (nJ x3), vU, vU] [] (hh I J) = bV (ev (d + 1) mTe_skip 0 [vR (1, 0)] [] (hh I1 J)) (fun h1 => bV (ev (d + 1) mRu_readValue 0 [vR (37, r), vR (1, 0), vU, vU] [] (hh (gI h1) (gJ h1))) (fun h2 => ev (d + 2) mRu_readSum 7 [vR (37, r), vR (1, 0), vI (nJ c), vI (nJ (x3 + 1)), vU, vU] [] (hh (gI h2) (gJ h2)))) := by
  rw [eRu_readSum_7, if_pos (lt_nL (b := 400) hx (by decide)), if_pos e7, cSignHere (d + 1) hT hi e6, bI_some, hcs]
  simp only [gI_hh, gJ_hh, eRu_readSum_22, eRu_readSum_38, if_neg (show ¬ (1 : Int32) = 0 by decide), nJ_succ]
  have key : (if w = -1 then bV (ev (d + 1) mTe_skip 0 [vR (1, 0)] [] (hh I J)) (fun h10 => bV (ev (d + 1) mRu_readValue 0 [vR (37, r), vR (1, 0), vU, vU] [] (hh (gI h10) (gJ h10))) (fun h11 => ev (d + 2) mRu_readSum 7 [vR (37, r), vR (1, 0), vI (nJ c), vI (nJ (x3 + 1)), vU, vU] [] (hh (gI h11) (gJ h11)))) else bV (ev (d + 1) mRu_put 0 [vR (37, r), vI w] [] (hh I J)) (fun h13 => bV (ev (d + 1) mTe_skip 0 [vR (1, 0)] [] (hh (gI h13) (gJ h13))) (fun h17 => bV (ev (d + 1) mRu_readValue 0 [vR (37, r), vR (1, 0), vU, vU] [] (hh (gI h17) (gJ h17))) (fun h18 => ev (d + 2) mRu_readSum 7 [vR (37, r), vR (1, 0), vI (nJ c), vI (nJ (x3 + 1)), vU, vU] [] (hh (gI h18) (gJ h18)))))) = bV (ev (d + 1) mTe_skip 0 [vR (1, 0)] [] (hh I1 J)) (fun h1 => bV (ev (d + 1) mRu_readValue 0 [vR (37, r), vR (1, 0), vU, vU] [] (hh (gI h1) (gJ h1))) (fun h2 => ev (d + 2) mRu_readSum 7 [vR (37, r), vR (1, 0), vI (nJ c), vI (nJ (x3 + 1)), vU, vU] [] (hh (gI h2) (gJ h2)))) := by
    rcases hI1 with ⟨h1, h2⟩ | ⟨h1, h2⟩
    · rw [if_pos h1, h2]
    · rw [if_neg h1, h2, bV_some]
  rcases hc with rfl | rfl
  · rw [if_pos (show nJ 43 = 43 from rfl)]
    exact key
  · rw [if_neg (show ¬ nJ 45 = 43 by decide), if_pos (show nJ 45 = 45 from rfl)]
    exact key
theorem c7_end {I : IT} {J : JT} {by_ : Nat → Nat} {n tk i r : Nat} (d x3 : Nat) (w : Int32) (hT : TkS I by_ n 1 tk) (hi : i ≤ tk) (e6 : I (1, 0) 6 = nJ i) (e7 : I (1, 0) 7 = 0) (hx : x3 < 400) (hc : ¬ (tpk by_ n i < n ∧ (by_ (tpk by_ n i) = 42 ∨ by_ (tpk by_ n i) = 47 ∨ by_ (tpk by_ n i) = 37 ∨ by_ (tpk by_ n i) = 43 ∨ by_ (tpk by_ n i) = 45))) : ev (d + 2) mRu_readSum 7 [vR (37, r), vR (1, 0), vI w, vI (nJ x3), vU, vU] [] (hh I J) = if w = -1 then some (none, hh I J) else bV (ev (d + 1) mRu_put 0 [vR (37, r), vI w] [] (hh I J)) (fun h2 => some (none, hh (gI h2) (gJ h2))) := by
  have n43 : ¬ csF by_ n tk i = 43 := fun z => by
    have := Eq.mp (cs_is (c := 43) hT hi rfl (by decide) (by decide) (by decide)) z
    exact hc ⟨this.1, by omega⟩
  have n45 : ¬ csF by_ n tk i = 45 := fun z => by
    have := Eq.mp (cs_is (c := 45) hT hi rfl (by decide) (by decide) (by decide)) z
    exact hc ⟨this.1, by omega⟩
  have n42 : ¬ csF by_ n tk i = 42 := fun z => by
    have := Eq.mp (cs_is (c := 42) hT hi rfl (by decide) (by decide) (by decide)) z
    exact hc ⟨this.1, by omega⟩
  have n47 : ¬ csF by_ n tk i = 47 := fun z => by
    have := Eq.mp (cs_is (c := 47) hT hi rfl (by decide) (by decide) (by decide)) z
    exact hc ⟨this.1, by omega⟩
  have n37 : ¬ csF by_ n tk i = 37 := fun z => by
    have := Eq.mp (cs_is (c := 37) hT hi rfl (by decide) (by decide) (by decide)) z
    exact hc ⟨this.1, by omega⟩
  rw [eRu_readSum_7, if_pos (lt_nL (b := 400) hx (by decide)), if_pos e7, cSignHere (d + 1) hT hi e6, bI_some, if_neg n43, if_neg n45, if_pos (show (0 : Int32) = 0 from rfl), if_neg n42, if_neg n47, if_neg n37]
/-- the codes of a sum so far -/
def sgW (cd : Nat → Int32) (w : Int32) (a m b : Nat) : Prop := (w = -1 ∧ SgR cd a b 2 (fun _ => True)) ∨ (w ≠ -1 ∧ SgR cd a m 3 (fun _ => True) ∧ SgR cd m b 2 (fun _ => True))
theorem sgW.ext {cd cd' : Nat → Int32} {w : Int32} {a m b : Nat} (h : sgW cd w a m b) (he : ∀ j, j < b → cd j = cd' j) : sgW cd' w a m b := by
  rcases h with ⟨h1, h2⟩ | ⟨h1, h2, h3⟩
  · exact Or.inl ⟨h1, h2.ext (fun j _ hj => he j hj)⟩
  · have := h3.1
    exact Or.inr ⟨h1, h2.ext (fun j _ hj => he j (by omega)), h3.ext (fun j _ hj => he j hj)⟩
/-- a term is made longer -/
theorem sgW.mul {cd : Nat → Int32} {w x : Int32} {a m b : Nat} (h : sgW cd w a m b) (hv : cd b < 11 ∨ 1000 ≤ cd b) (hx : cd (b + 1) = x) (hb : ¬ x < 11 ∧ x < 1000 ∧ x ≠ 13) : sgW cd w a m (b + 2) := by
  rcases h with ⟨h1, h2⟩ | ⟨h1, h2, h3⟩
  · exact Or.inl ⟨h1, sg_bin h2 (sg_val hv) hx hb (fun _ _ _ _ => trivial) (Nat.le_refl 2) (by decide)⟩
  · exact Or.inr ⟨h1, h2, sg_bin h3 (sg_val hv) hx hb (fun _ _ _ _ => trivial) (Nat.le_refl 2) (by decide)⟩
/-- what waits is put -/
theorem sgW.fin {cd : Nat → Int32} {w : Int32} {a m b : Nat} (h : sgW cd w a m b) (hw : w = 43 ∨ w = 45) (hx : cd b = w) : SgR cd a (b + 1) 3 (fun _ => True) := by
  rcases h with ⟨h1, -⟩ | ⟨-, h2, h3⟩
  · rcases hw with rfl | rfl <;> exact absurd h1 (by decide)
  · refine sg_bin h2 h3 hx ?_ (fun _ _ _ _ => trivial) (Nat.le_refl 3) (by decide)
    rcases hw with rfl | rfl <;> decide
