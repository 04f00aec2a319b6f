/-! WORTH of a town by a rule: both sides -/
def evl (sn : Nat → Int64) (cd : Nat → Int32) (a b : Nat) : Int64 := match pxG sn cd a (b - a) [] with
  | some (v :: _) => v
  | _ => 0
theorem SgR.ev1 {cd : Nat → Int32} {a b : Nat} {P : Int64 → Prop} (h : SgR cd a b 40 P) (sn : Nat → Int64) : P (evl sn cd a b) ∧ pxG sn cd a (b - a) [] = some [evl sn cd a b] := by
  obtain ⟨v, hv, e⟩ := h.2 sn [] (by decide)
  unfold evl
  rw [e]
  exact ⟨hv, rfl⟩
def tn (x : Int32) : Nat := x.toNatClampNeg
/-- the sum of the first clause without a test, or whose test holds -/
def wvG (sn : Nat → Int64) (cd sa ta : Nat → Int32) : Nat → Nat → Int64
  | _, 0 => 0
  | i, n + 1 => if tn (ta i) = tn (sa (i + 1)) ∨ evl sn cd (tn (ta i)) (tn (sa (i + 1))) ≠ 0 then evl sn cd (tn (sa i)) (tn (ta i)) else wvG sn cd sa ta (i + 1) n
theorem cRun (d r a b z : Nat) (I A : IT) (J : JT) (sn : Nat → Int64) {P : Int64 → Prop} (hz : z ≤ 300) (hb : b ≤ z) (hcd : ∀ j, j < z → CdR (I (38, r) j) (A (69, 0) (300 * r + j)) (A (70, 0) (300 * r + j))) (hs : ∀ k, k < 11 → J (41, r) k = sn k) (h : SgR (I (38, r)) a b 40 P) :
    Tr (ev (d + 1) mRu_run 0 [vR (37, r), vI (nJ a), vI (nJ b), vU, vU, vU] [] (hh I J)) (fun v I' J' => v = some (vL (evl sn (I (38, r)) a b)) ∧ I' = I ∧ ∀ q, q ≠ (42, r) → J' q = J q) := by
  rw [eRu_run_0]
  exact run_go d r b I sn _ (by omega) (b - a) a 0 J (by have := h.1; omega) (by decide) (fun j _ hj => ⟨_, _, hcd j (by omega)⟩) hs (h.ev1 sn).2
theorem mAns (d r a b z : Nat) (I A : IT) (B : JT) (sn : Nat → Int64) {P : Int64 → Prop} (hr : r < 6) (hz : z ≤ 300) (hb : b ≤ z) (hcd : ∀ j, j < z → CdR (I (38, r) j) (A (69, 0) (300 * r + j)) (A (70, 0) (300 * r + j))) (hs : ∀ k, k < 11 → B (76, 0) k = sn k) (h : SgR (I (38, r)) a b 40 P) :
    Tr (ev (d + 2) mMo_answer 0 [vR (43, 0), vI (nJ r), vI (nJ a), vI (nJ b), vU, vU, vU, vU] [] (hh A B)) (fun v A' B' => v = some (vL (evl sn (I (38, r)) a b)) ∧ A' = A ∧ ∀ q, q ≠ (77, 0) → B' q = B q) := by
  rw [eMo_answer_0]
  exact ans_go d r b z I A sn _ hb hz hr hcd (b - a) a 0 B (by have := h.1; omega) (by decide) hs (h.ev1 sn).2
theorem worth_go (d r n z : Nat) (I A : IT) (sn : Nat → Int64) (hn : n ≤ 12) (hz : z ≤ 300) (e4 : I (37, r) 4 = nJ n) (hcd : ∀ j, j < z → CdR (I (38, r) j) (A (69, 0) (300 * r + j)) (A (70, 0) (300 * r + j)))
    (hcl : ∀ i, i < n → ∃ a b e, e ≤ z ∧ I (39, r) i = nJ a ∧ I (40, r) i = nJ b ∧ I (39, r) (i + 1) = nJ e ∧ A (72, 0) (12 * r + i) = nJ a ∧ A (73, 0) (12 * r + i) = nJ b ∧ A (74, 0) (12 * r + i) = nJ e ∧ SgR (I (38, r)) a b 40 (fun _ => True) ∧ (b = e ∨ SgR (I (38, r)) b e 40 ZO)) :
    ∀ (cnt i : Nat) (J : JT), i + cnt = n → (∀ k, k < 11 → J (41, r) k = sn k) →
    Tr (ev (d + 2) mRu_worth 8 [vR (37, r), vU, vU, vU, vU, vI (nJ i), vU] [] (hh I J)) (fun v I' J' => v = some (vL (wvG sn (I (38, r)) (I (39, r)) (I (40, r)) i cnt)) ∧ I' = I ∧ ∀ a, a ≠ (42, r) → J' a = J a) := by
  intro cnt
  induction cnt with
  | zero =>
    intro i J hi hs
    obtain rfl : i = n := by omega
    rw [eRu_worth_8 _ _ 0 0, e4, if_neg (nlt_nJ (Nat.le_refl i) (by omega))]
    exact Tr.ret ⟨rfl, rfl, fun _ _ => rfl⟩
  | succ cnt ih =>
    intro i J hi hs
    obtain ⟨a, b, e, hez, h1, h2, h3, -, -, -, hs1, hs2⟩ := hcl i (by omega)
    have hbe : b ≤ e := hs2.elim (fun q => by omega) (fun q => Nat.le_of_lt q.1)
    have ha := hs1.1
    rw [eRu_worth_8 _ _ 0 0, e4, if_pos (lt_nJ (show i < n by omega) (by omega)), nJ_succ]
    simp only [bnd (show i < 12 by omega) (show 12 ≤ 100000 by decide), bnk (show i < 12 by omega) (show 12 ≤ 100000 by decide), bnd (show i < 13 by omega) (show 13 ≤ 100000 by decide), bnk (show i < 13 by omega) (show 13 ≤ 100000 by decide), bnd (show i + 1 < 13 by omega) (show 13 ≤ 100000 by decide), bnk (show i + 1 < 13 by omega) (show 13 ≤ 100000 by decide), nJ_nat (show i < 2147483648 by omega), nJ_nat (show i + 1 < 2147483648 by omega), h1, h2, h3, i10, i00, if_true, if_false, gI_hh, gJ_hh]
    show Tr _ (fun v I' J' => v = some (vL (if tn (I (40, r) i) = tn (I (39, r) (i + 1)) ∨ evl sn (I (38, r)) (tn (I (40, r) i)) (tn (I (39, r) (i + 1))) ≠ 0 then evl sn (I (38, r)) (tn (I (39, r) i)) (tn (I (40, r) i)) else wvG sn (I (38, r)) (I (39, r)) (I (40, r)) (i + 1) cnt)) ∧ I' = I ∧ ∀ a, a ≠ (42, r) → J' a = J a)
    have t1 : tn (I (39, r) i) = a := by rw [h1]; exact nJ_nat (by omega)
    have t2 : tn (I (40, r) i) = b := by rw [h2]; exact nJ_nat (by omega)
    have t3 : tn (I (39, r) (i + 1)) = e := by rw [h3]; exact nJ_nat (by omega)
    rw [t1, t2, t3]
    by_cases hq : b = e
    · rw [if_pos (show nJ b = nJ e by rw [hq]), if_pos (Or.inl hq)]
      refine Tr.bL ((cRun d r a b z I A J sn hz (by omega) hcd hs hs1).mono fun v I' J' ⟨q1, q2, q3⟩ => ⟨_, q1, ?_⟩)
      exact Tr.ret ⟨rfl, q2, q3⟩
    · have hs2 := hs2.resolve_left hq
      rw [if_neg (ne_nJ hq (by omega) (by omega))]
      refine Tr.bL ((cRun d r b e z I A J sn hz hez hcd hs hs2).mono fun v I' J' ⟨q1, q2, q3⟩ => ⟨_, q1, ?_⟩)
      subst q2
      have hs' : ∀ k, k < 11 → J' (41, r) k = sn k := fun k hk => by
        rw [q3 (41, r) (fun q => by cases q)]
        exact hs k hk
      simp only [gI_hh, gJ_hh, cmp_eq, h1, h2]
      by_cases hv : evl sn (I' (38, r)) b e = 0
      · rw [if_pos hv, if_neg (fun q => q.elim hq (fun q => q hv))]
        exact (ih (i + 1) J' (by omega) hs').mono fun v I'' J'' ⟨p1, p2, p3⟩ => ⟨p1, p2, fun q hq => (p3 q hq).trans (q3 q hq)⟩
      · rw [if_neg hv, if_pos (Or.inr hv)]
        refine Tr.bL ((cRun d r a b z I' A J' sn hz (by omega) hcd hs' hs1).mono fun v I'' J'' ⟨p1, p2, p3⟩ => ⟨_, p1, ?_⟩)
        exact Tr.ret ⟨rfl, p2, fun q hq => (p3 q hq).trans (q3 q hq)⟩
theorem wanted_go (d r n z : Nat) (I A : IT) (sn : Nat → Int64) (hr : r < 6) (hn : n ≤ 12) (hz : z ≤ 300) (e4 : A (71, 0) r = nJ n) (hcd : ∀ j, j < z → CdR (I (38, r) j) (A (69, 0) (300 * r + j)) (A (70, 0) (300 * r + j)))
    (hcl : ∀ i, i < n → ∃ a b e, e ≤ z ∧ I (39, r) i = nJ a ∧ I (40, r) i = nJ b ∧ I (39, r) (i + 1) = nJ e ∧ A (72, 0) (12 * r + i) = nJ a ∧ A (73, 0) (12 * r + i) = nJ b ∧ A (74, 0) (12 * r + i) = nJ e ∧ SgR (I (38, r)) a b 40 (fun _ => True) ∧ (b = e ∨ SgR (I (38, r)) b e 40 ZO)) :
    ∀ (cnt i : Nat) (B : JT), i + cnt = n → (∀ k, k < 11 → B (76, 0) k = sn k) →
    Tr (ev (d + 3) mMo_wanted 9 [vR (43, 0), vI (nJ r), vI (nJ (12 * r + i))] [] (hh A B)) (fun v A' B' => v = some (vL (wvG sn (I (38, r)) (I (39, r)) (I (40, r)) i cnt)) ∧ A' = A ∧ ∀ a, a ≠ (77, 0) → B' a = B a) := by
  have e12 : (12 : Int32) * nJ r + nJ n = nJ (12 * r + n) := by
    show nJ 12 * nJ r + nJ n = _
    rw [nJ_mul, nJ_add]
  intro cnt
  induction cnt with
  | zero =>
    intro i B hi hs
    obtain rfl : i = n := by omega
    rw [eMo_wanted_9, bnd hr (by omega), nJ_nat (show r < 2147483648 by omega), e4, e12, if_neg (nlt_nJ (Nat.le_refl _) (by omega))]
    exact Tr.ret ⟨rfl, rfl, fun _ _ => rfl⟩
  | succ cnt ih =>
    intro i B hi hs
    obtain ⟨a, b, e, hez, h1, h2, h3, m1, m2, m3, hs1, hs2⟩ := hcl i (by omega)
    have hbe : b ≤ e := hs2.elim (fun q => by omega) (fun q => Nat.le_of_lt q.1)
    have ha := hs1.1
    rw [eMo_wanted_9, bnd hr (by omega), nJ_nat (show r < 2147483648 by omega), e4, e12, if_pos (lt_nJ (show 12 * r + i < 12 * r + n by omega) (by omega)), nJ_succ]
    simp only [bnd (show 12 * r + i < 72 by omega) (show 72 ≤ 100000 by decide), bnk (show 12 * r + i < 72 by omega) (show 72 ≤ 100000 by decide), nJ_nat (show 12 * r + i < 2147483648 by omega), m1, m2, m3, gI_hh, gJ_hh]
    show Tr _ (fun v I' J' => v = some (vL (if tn (I (40, r) i) = tn (I (39, r) (i + 1)) ∨ evl sn (I (38, r)) (tn (I (40, r) i)) (tn (I (39, r) (i + 1))) ≠ 0 then evl sn (I (38, r)) (tn (I (39, r) i)) (tn (I (40, r) i)) else wvG sn (I (38, r)) (I (39, r)) (I (40, r)) (i + 1) cnt)) ∧ I' = A ∧ ∀ a, a ≠ (77, 0) → J' a = B a)
    have t1 : tn (I (39, r) i) = a := by rw [h1]; exact nJ_nat (by omega)
    have t2 : tn (I (40, r) i) = b := by rw [h2]; exact nJ_nat (by omega)
    have t3 : tn (I (39, r) (i + 1)) = e := by rw [h3]; exact nJ_nat (by omega)
    rw [t1, t2, t3]
    by_cases hq : b = e
    · rw [if_pos (show nJ b = nJ e by rw [hq]), if_pos (Or.inl hq)]
      refine Tr.bL ((mAns d r a b z I A B sn hr hz (by omega) hcd hs hs1).mono fun v I' J' ⟨q1, q2, q3⟩ => ⟨_, q1, ?_⟩)
      exact Tr.ret ⟨rfl, q2, q3⟩
    · have hs2 := hs2.resolve_left hq
      have hzo := (hs2.ev1 sn).1
      rw [if_neg (ne_nJ hq (by omega) (by omega))]
      refine Tr.bL ((mAns d r b e z I A B sn hr hz hez hcd hs hs2).mono fun v A' B' ⟨q1, q2, q3⟩ => ⟨_, q1, ?_⟩)
      subst q2
      have hs' : ∀ k, k < 11 → B' (76, 0) k = sn k := fun k hk => by
        rw [q3 (76, 0) (fun q => by cases q)]
        exact hs k hk
      simp only [gI_hh, gJ_hh, cmp_eq, m1, m2]
      rcases hzo with hv | hv
      · rw [if_neg (show ¬ evl sn (I (38, r)) b e = 1 by rw [hv]; decide), if_neg (fun q => q.elim hq (fun q => q hv))]
        exact (ih (i + 1) B' (by omega) hs').mono fun v I'' J'' ⟨p1, p2, p3⟩ => ⟨p1, p2, fun q hq => (p3 q hq).trans (q3 q hq)⟩
      · rw [if_pos hv, if_pos (Or.inr (by rw [hv]; decide))]
        refine Tr.bL ((mAns d r a b z I A' B' sn hr hz (by omega) hcd hs' hs1).mono fun v I'' J'' ⟨p1, p2, p3⟩ => ⟨_, p1, ?_⟩)
        exact Tr.ret ⟨rfl, p2, fun q hq => (p3 q hq).trans (q3 q hq)⟩
/-- what a rule wants, out of what is seen -/
def wnt (I : IT) (r : Nat) (sn : Nat → Int64) : Int64 := wvG sn (I (38, r)) (I (39, r)) (I (40, r)) 0 (tn (I (37, r) 4))
theorem cWorth8 (d r : Nat) (I A : IT) (J : JT) (sn : Nat → Int64) (h : RuR I A r) (hs : ∀ k, k < 11 → J (41, r) k = sn k) :
    Tr (ev (d + 2) mRu_worth 8 [vR (37, r), vU, vU, vU, vU, vI 0, vU] [] (hh I J)) (fun v I' J' => v = some (vL (wnt I r sn)) ∧ I' = I ∧ ∀ a, a ≠ (42, r) → J' a = J a) := by
  obtain ⟨n, z, hn, hz, e4, -, hcd, hcl⟩ := h
  have := worth_go d r n z I A sn hn hz e4 hcd hcl n 0 J (by omega) hs
  unfold wnt
  rw [e4, show tn (nJ n) = n from nJ_nat (by omega)]
  exact this
theorem mWanted (d r : Nat) (I A : IT) (B : JT) (sn : Nat → Int64) (hr : r < 6) (h : RuR I A r) (hf : A (44, 0) 12 = nJ r) (hs : ∀ k, k < 11 → B (76, 0) k = sn k) :
    Tr (ev (d + 3) mMo_wanted 0 [vR (43, 0), vU, vU] [] (hh A B)) (fun v A' B' => v = some (vL (wnt I r sn)) ∧ A' = A ∧ ∀ a, a ≠ (77, 0) → B' a = B a) := by
  obtain ⟨n, z, hn, hz, e4, e5, hcd, hcl⟩ := h
  have := wanted_go d r n z I A sn hr hn hz e5 hcd hcl n 0 B (by omega) hs
  rw [eMo_wanted_0, hf, show (12 : Int32) * nJ r = nJ (12 * r + 0) from nJ_mul 12 r]
  unfold wnt
  rw [e4, show tn (nJ n) = n from nJ_nat (by omega)]
  exact this
