/-! RULES evaluated: the class's run over codes and the reference's answer over entries are one pure run over a stack -/
def sk (row : Nat → Int64) : Nat → List Int64
  | 0 => []
  | n + 1 => row n :: sk row n
theorem sk_len (row : Nat → Int64) : ∀ n, (sk row n).length = n
  | 0 => rfl
  | n + 1 => by
    show (sk row n).length + 1 = n + 1
    rw [sk_len row n]
theorem sk_ext {r r' : Nat → Int64} : ∀ n, (∀ k, k < n → r k = r' k) → sk r n = sk r' n
  | 0, _ => rfl
  | n + 1, h => by
    unfold sk
    rw [h n (by omega), sk_ext n (fun k hk => h k (by omega))]
theorem sk_up (J : JT) (a : Ad) (k n : Nat) (x : Int64) (h : n ≤ k) : sk (up2 J a k x a) n = sk (J a) n := sk_ext n (fun j hj => up_neK J x (by omega))
theorem sk_push (J : JT) (a : Ad) (n : Nat) (x : Int64) : sk (up2 J a n x a) (n + 1) = x :: sk (J a) n := by
  show up2 J a n x a n :: sk (up2 J a n x a) n = _
  rw [up_same, sk_up J a n n x (Nat.le_refl n)]
theorem cJoin {I : IT} {J : JT} (d : Nat) (x : Int32) (a b : Int64) : ev d mRu_join 0 [vI x, vL a, vU, vL b, vU] [] (hh I J) = some (some (vL (jnF x a b)), hh I J) := by
  have n1 : ∀ {u v : Int32}, u ≠ v → x = u → x ≠ v := fun h e => e ▸ h
  rw [eRu_join_0]
  simp only [eRu_join_33, eRu_join_23, eRu_join_41, eRu_join_57, eRu_join_73, eRu_join_49, eRu_join_65, cmp_lt, cmp_gt, cmp_eq]
  unfold jnF
  by_cases h1 : x = 14
  · subst h1; rfl
  by_cases h2 : x = 15
  · subst h2; rfl
  by_cases h3 : x = 37
  · subst h3
    by_cases hb : b = 0
    · subst hb; rfl
    · simp only [if_neg hb]; rfl
  by_cases h4 : x = 42
  · subst h4; rfl
  by_cases h5 : x = 43
  · subst h5; rfl
  by_cases h6 : x = 45
  · subst h6; rfl
  by_cases h7 : x = 47
  · subst h7
    by_cases hb : b = 0
    · subst hb; rfl
    · simp only [if_neg hb]; rfl
  by_cases h8 : x = 60
  · subst h8
    by_cases hb : a < b
    · simp only [if_pos hb]; rfl
    · simp only [if_neg hb]; rfl
  by_cases h9 : x = 61
  · subst h9
    by_cases hb : a = b
    · simp only [if_pos hb]; rfl
    · simp only [if_neg hb]; rfl
  by_cases h10 : x = 62
  · subst h10
    by_cases hb : b < a
    · simp only [if_pos hb]; rfl
    · simp only [if_neg hb]; rfl
  by_cases h11 : x = 316
  · subst h11
    by_cases hb : b < a
    · simp only [if_pos hb]; rfl
    · simp only [if_neg hb]; rfl
  by_cases h12 : x = 318
  · subst h12
    by_cases hb : a < b
    · simp only [if_pos hb]; rfl
    · simp only [if_neg hb]; rfl
  simp only [if_neg h1, if_neg h2, if_neg h3, if_neg h4, if_neg h5, if_neg h6, if_neg h7, if_neg h8, if_neg h9, if_neg h10, if_neg h11, if_neg h12]
/-- a code of two values -/
def BinR (x s : Int32) : Prop := (s = 2 ∧ x = 43) ∨ (s = 3 ∧ x = 45) ∨ (s = 4 ∧ x = 60) ∨ (s = 5 ∧ x = 316) ∨ (s = 6 ∧ x = 61) ∨ (s = 7 ∧ x = 318) ∨ (s = 8 ∧ x = 62) ∨ (s = 10 ∧ x = 14) ∨ (s = 11 ∧ x = 15) ∨ (s = 13 ∧ x = 42) ∨ (s = 14 ∧ x = 47) ∨ (s = 15 ∧ x = 37)
theorem CdR.cases {x s v : Int32} (h : CdR x s v) : (s = 0 ∧ ∃ n, n < 100000 ∧ v = nJ n ∧ x = nJ (1000 + n)) ∨ (s = 1 ∧ ∃ n, n < 11 ∧ v = nJ n ∧ x = nJ n) ∨ (s = 9 ∧ x = 13) ∨ BinR x s := by
  unfold CdR at h
  unfold BinR
  rcases h with h | h | h | h | h | h | h | h | h | h | h | h | h | h | h
  · exact Or.inl h
  · exact Or.inr (Or.inl h)
  · exact Or.inr (Or.inr (Or.inr (Or.inl h)))
  · exact Or.inr (Or.inr (Or.inr (Or.inr (Or.inl h))))
  · exact Or.inr (Or.inr (Or.inr (Or.inr (Or.inr (Or.inl h)))))
  · exact Or.inr (Or.inr (Or.inr (Or.inr (Or.inr (Or.inr (Or.inl h))))))
  · exact Or.inr (Or.inr (Or.inr (Or.inr (Or.inr (Or.inr (Or.inr (Or.inl h)))))))
  · exact Or.inr (Or.inr (Or.inr (Or.inr (Or.inr (Or.inr (Or.inr (Or.inr (Or.inl h))))))))
  · exact Or.inr (Or.inr (Or.inr (Or.inr (Or.inr (Or.inr (Or.inr (Or.inr (Or.inr (Or.inl h)))))))))
  · exact Or.inr (Or.inr (Or.inl h))
  · exact Or.inr (Or.inr (Or.inr (Or.inr (Or.inr (Or.inr (Or.inr (Or.inr (Or.inr (Or.inr (Or.inl h))))))))))
  · exact Or.inr (Or.inr (Or.inr (Or.inr (Or.inr (Or.inr (Or.inr (Or.inr (Or.inr (Or.inr (Or.inr (Or.inl h)))))))))))
  · exact Or.inr (Or.inr (Or.inr (Or.inr (Or.inr (Or.inr (Or.inr (Or.inr (Or.inr (Or.inr (Or.inr (Or.inr (Or.inl h))))))))))))
  · exact Or.inr (Or.inr (Or.inr (Or.inr (Or.inr (Or.inr (Or.inr (Or.inr (Or.inr (Or.inr (Or.inr (Or.inr (Or.inr (Or.inl h)))))))))))))
  · exact Or.inr (Or.inr (Or.inr (Or.inr (Or.inr (Or.inr (Or.inr (Or.inr (Or.inr (Or.inr (Or.inr (Or.inr (Or.inr (Or.inr h)))))))))))))
theorem BinR.x {x s : Int32} (h : BinR x s) : ¬ x < 11 ∧ x < 1000 ∧ x ≠ 13 := by
  unfold BinR at h
  rcases h with ⟨-, h⟩ | ⟨-, h⟩ | ⟨-, h⟩ | ⟨-, h⟩ | ⟨-, h⟩ | ⟨-, h⟩ | ⟨-, h⟩ | ⟨-, h⟩ | ⟨-, h⟩ | ⟨-, h⟩ | ⟨-, h⟩ | ⟨-, h⟩ <;> subst h <;> decide
theorem BinR.s {x s : Int32} (h : BinR x s) : s ≠ 0 ∧ s ≠ 1 ∧ s ≠ 9 := by
  unfold BinR at h
  rcases h with ⟨h, -⟩ | ⟨h, -⟩ | ⟨h, -⟩ | ⟨h, -⟩ | ⟨h, -⟩ | ⟨h, -⟩ | ⟨h, -⟩ | ⟨h, -⟩ | ⟨h, -⟩ | ⟨h, -⟩ | ⟨h, -⟩ | ⟨h, -⟩ <;> subst h <;> decide
theorem mTruth {I : IT} {J : JT} (d : Nat) (p : Prop) [Decidable p] : (if p then bL (ev d mMo_truth 0 [vI 1] [] (hh I J)) (fun r1 h1 => some (some (vL r1), hh (gI h1) (gJ h1))) else bL (ev d mMo_truth 0 [vI 0] [] (hh I J)) (fun r1 h1 => some (some (vL r1), hh (gI h1) (gJ h1)))) = some (some (vL (if p then 1 else 0)), hh I J) := by
  rw [eMo_truth_0, eMo_truth_0]
  by_cases h : p
  · rw [if_pos h, if_pos h]; rfl
  · rw [if_neg h, if_neg h]; rfl
theorem mTruthN {I : IT} {J : JT} (d : Nat) (p : Prop) [Decidable p] : (if p then bL (ev d mMo_truth 0 [vI 0] [] (hh I J)) (fun r1 h1 => some (some (vL r1), hh (gI h1) (gJ h1))) else bL (ev d mMo_truth 0 [vI 1] [] (hh I J)) (fun r1 h1 => some (some (vL r1), hh (gI h1) (gJ h1)))) = some (some (vL (if p then 0 else 1)), hh I J) := by
  rw [eMo_truth_0, eMo_truth_0]
  by_cases h : p
  · rw [if_pos h, if_pos h]; rfl
  · rw [if_neg h, if_neg h]; rfl
theorem mBoth {I : IT} {J : JT} (d : Nat) {x s : Int32} (a b : Int64) (h : BinR x s) : ev (d + 1) mMo_both 0 [vI s, vL a, vU, vL b, vU] [] (hh I J) = some (some (vL (jnF x a b)), hh I J) := by
  rw [eMo_both_0]
  simp only [eMo_both_41, eMo_both_50, eMo_both_59, eMo_both_68, eMo_both_77, eMo_both_23, eMo_both_33, cmp_lt, cmp_gt, cmp_eq, mTruth, mTruthN]
  unfold BinR at h
  rcases h with ⟨h, k⟩ | ⟨h, k⟩ | ⟨h, k⟩ | ⟨h, k⟩ | ⟨h, k⟩ | ⟨h, k⟩ | ⟨h, k⟩ | ⟨h, k⟩ | ⟨h, k⟩ | ⟨h, k⟩ | ⟨h, k⟩ | ⟨h, k⟩
  · subst h; subst k; rfl
  · subst h; subst k; rfl
  · subst h; subst k; rfl
  · subst h; subst k; rfl
  · subst h; subst k; rfl
  · subst h; subst k; rfl
  · subst h; subst k; rfl
  · subst h; subst k; rfl
  · subst h; subst k; rfl
  · subst h; subst k; rfl
  · subst h; subst k
    by_cases hb : b = 0
    · subst hb; rfl
    · simp only [if_neg hb]
      show some (some (vL (a / b)), hh I J) = some (some (vL (if b = 0 then 0 else a / b)), hh I J)
      rw [if_neg hb]
  · subst h; subst k
    by_cases hb : b = 0
    · subst hb; rfl
    · simp only [if_neg hb]
      show some (some (vL (a - a / b * b)), hh I J) = some (some (vL (if b = 0 then 0 else a - a / b * b)), hh I J)
      rw [if_neg hb]
/-- codes as they may stand in a rule of the class -/
def OkX (x : Int32) : Prop := ∃ s v, CdR x s v
theorem pxS_num {sn : Nat → Int64} {n : Nat} {st : List Int64} (hn : n < 100000) (hl : st.length < 40) : pxS sn (nJ (1000 + n)) st = some ((nJ n).toInt64 :: st) := by
  have h1 : ¬ nJ (1000 + n) < 11 := nlt_nL (b := 11) (by omega) (by omega)
  have h2 : (1000 : Int32) ≤ nJ (1000 + n) := by
    show nJ 1000 ≤ nJ (1000 + n)
    rw [nJ_le (by decide) (by omega)]
    omega
  unfold pxS
  rw [if_pos (Or.inr h2), if_pos hl, if_neg h1]
  have e : nJ (1000 + n) - 1000 = nJ n := by
    show nJ (1000 + n) - nJ 1000 = nJ n
    rw [nJ_sub (by omega), show 1000 + n - 1000 = n by omega]
  rw [e]
theorem pxS_wrd {sn : Nat → Int64} {n : Nat} {st : List Int64} (hn : n < 11) (hl : st.length < 40) : pxS sn (nJ n) st = some (sn n :: st) := by
  have h1 : nJ n < 11 := lt_nL (b := 11) hn (by decide)
  unfold pxS
  rw [if_pos (Or.inl h1), if_pos hl, if_pos h1, nJ_nat (by omega)]
theorem pxS_full {sn : Nat → Int64} {x : Int32} {st : List Int64} (hx : x < 11 ∨ 1000 ≤ x) (hl : ¬ st.length < 40) : pxS sn x st = none := by
  unfold pxS
  rw [if_pos hx, if_neg hl]
theorem pxS_not {sn : Nat → Int64} {st : List Int64} : pxS sn 13 st = match st with
    | a :: l => some ((1 - a) :: l)
    | [] => none := by
  unfold pxS
  rw [if_neg (by decide), if_pos rfl]
  rfl
theorem pxS_bin {sn : Nat → Int64} {x : Int32} {st : List Int64} (h : ¬ x < 11 ∧ x < 1000 ∧ x ≠ 13) : pxS sn x st = match st with
    | b :: a :: l => some (jnF x a b :: l)
    | _ => none := by
  have h2 : ¬ (1000 : Int32) ≤ x := fun q => by
    have := h.2.1
    rw [i_lt] at this
    rw [i_le] at q
    omega
  unfold pxS
  rw [if_neg (fun q => q.elim h.1 h2), if_neg h.2.2]
  rfl
theorem nJ_m1 {n : Nat} (h : 1 ≤ n) : nJ n + (-1) = nJ (n - 1) := by
  have : nJ n - 1 = nJ (n - 1) := nJ_sub h
  rw [← this]
  exact (Int32.sub_eq_add_neg (nJ n) 1).symm
theorem nJ_m1' {n : Nat} (h : 1 ≤ n) : nJ n - 1 = nJ (n - 1) := nJ_sub h
theorem run_go (d r e : Nat) (I : IT) (sn : Nat → Int64) (w : Int64) (he : e ≤ 400) : ∀ (cnt i top : Nat) (J : JT), i + cnt = e → top ≤ 40 → (∀ j, i ≤ j → j < e → OkX (I (38, r) j)) → (∀ k, k < 11 → J (41, r) k = sn k) → pxG sn (I (38, r)) i cnt (sk (J (42, r)) top) = some [w] →
    Tr (ev (d + 1) mRu_run 4 [vR (37, r), vU, vI (nJ e), vI (nJ top), vI (nJ i), vU] [] (hh I J)) (fun v I' J' => v = some (vL w) ∧ I' = I ∧ ∀ a, a ≠ (42, r) → J' a = J a) := by
  intro cnt
  induction cnt with
  | zero =>
    intro i top J hi ht hc hs hp
    obtain rfl : i = e := by omega
    have hp : some (sk (J (42, r)) top) = some [w] := hp
    have hp := Option.some.inj hp
    have hl := sk_len (J (42, r)) top
    rw [hp] at hl
    obtain rfl : top = 1 := hl.symm
    have hw : J (42, r) 0 = w := by
      have : [J (42, r) 0] = [w] := hp
      exact List.head_eq_of_cons_eq this
    rw [eRu_run_4, if_neg (nlt_nJ (Nat.le_refl i) (by omega)), if_neg (by decide), hw]
    exact Tr.ret ⟨rfl, rfl, fun _ _ => rfl⟩
  | succ cnt ih =>
    intro i top J hi ht hc hs hp
    have hlen := sk_len (J (42, r)) top
    rw [eRu_run_4, if_pos (lt_nJ (show i < e by omega) (by omega)), bnd (show i < 400 by omega) (by omega), nJ_nat (show i < 2147483648 by omega)]
    have hp' : (pxS sn (I (38, r) i) (sk (J (42, r)) top)).bind (pxG sn (I (38, r)) (i + 1) cnt) = some [w] := hp
    obtain ⟨s, v, hcd⟩ := hc i (Nat.le_refl i) (by omega)
    have hc' : ∀ j, i + 1 ≤ j → j < e → OkX (I (38, r) j) := fun j h1 h2 => hc j (by omega) h2
    rcases hcd.cases with ⟨-, n, hn, -, hx⟩ | ⟨-, n, hn, -, hx⟩ | ⟨-, hx⟩ | hb
    · rw [hx] at hp' ⊢
      have h1 : ¬ nJ (1000 + n) < 11 := nlt_nL (b := 11) (by omega) (by omega)
      have h2 : ¬ nJ (1000 + n) < 1000 := nlt_nL (b := 1000) (by omega) (by omega)
      have h3 : (1000 : Int32) ≤ nJ (1000 + n) := by
        show nJ 1000 ≤ nJ (1000 + n)
        rw [nJ_le (by decide) (by omega)]
        omega
      by_cases hl : top < 40
      · rw [pxS_num hn (by omega)] at hp'
        have e1 : nJ (1000 + n) - 1000 = nJ n := by
          show nJ (1000 + n) - nJ 1000 = nJ n
          rw [nJ_sub (by omega), show 1000 + n - 1000 = n by omega]
        rw [if_neg h1, if_neg h2, eRu_run_18, if_pos (lt_nL (b := 40) hl (by decide)), if_neg h1, bnd hl (by omega), nJ_nat (show top < 2147483648 by omega), nJ_succ top, nJ_succ i, e1]
        refine (ih (i + 1) (top + 1) _ (by omega) (by omega) hc' (fun k hk => (up_ne _ _ _ _ (fun q => by cases q)).trans (hs k hk)) ?_).mono fun v I' J' ⟨q1, q2, q3⟩ => ⟨q1, q2, fun a ha => (q3 a ha).trans (funext fun k => up_ne _ _ _ _ ha)⟩
        rw [sk_push]
        exact hp'
      · rw [pxS_full (Or.inr h3) (by omega)] at hp'
        cases hp'
    · rw [hx] at hp' ⊢
      have h1 : nJ n < 11 := lt_nL (b := 11) hn (by decide)
      by_cases hl : top < 40
      · rw [pxS_wrd hn (by omega)] at hp'
        rw [if_pos h1, eRu_run_18, if_pos (lt_nL (b := 40) hl (by decide)), if_pos h1, bnd hn (by omega), bnd hl (by omega), nJ_nat (show n < 2147483648 by omega), nJ_nat (show top < 2147483648 by omega), nJ_succ top, nJ_succ i, hs n hn]
        refine (ih (i + 1) (top + 1) _ (by omega) (by omega) hc' (fun k hk => (up_ne _ _ _ _ (fun q => by cases q)).trans (hs k hk)) ?_).mono fun v I' J' ⟨q1, q2, q3⟩ => ⟨q1, q2, fun a ha => (q3 a ha).trans (funext fun k => up_ne _ _ _ _ ha)⟩
        rw [sk_push]
        exact hp'
      · rw [pxS_full (Or.inl h1) (by omega)] at hp'
        cases hp'
    · rw [hx] at hp' ⊢
      rw [pxS_not] at hp'
      rw [if_neg (by decide), if_pos (by decide), eRu_run_41, if_pos rfl]
      cases top with
      | zero => cases hp'
      | succ top =>
        rw [if_neg (nlt_nL (b := 1) (by omega) (by omega)), nJ_m1' (by omega), Nat.add_sub_cancel, bnd (show top < 40 by omega) (by omega), bnd (show top < 40 by omega) (by omega), nJ_nat (show top < 2147483648 by omega), nJ_succ i]
        refine (ih (i + 1) (top + 1) _ (by omega) (by omega) hc' (fun k hk => (up_ne _ _ _ _ (fun q => by cases q)).trans (hs k hk)) ?_).mono fun v I' J' ⟨q1, q2, q3⟩ => ⟨q1, q2, fun a ha => (q3 a ha).trans (funext fun k => up_ne _ _ _ _ ha)⟩
        rw [sk_push]
        exact hp'
    · obtain ⟨h1, h2, h3⟩ := hb.x
      rw [pxS_bin ⟨h1, h2, h3⟩] at hp'
      rw [if_neg h1, if_pos h2, eRu_run_41, if_neg h3, eRu_run_64]
      match top, hlen, ht, hp' with
      | 0, _, _, hp' => cases hp'
      | 1, _, _, hp' => cases hp'
      | top + 2, _, ht, hp' =>
        rw [if_neg (nlt_nL (b := 2) (by omega) (by omega)), eRu_run_69, nJ_m1 (by omega), show top + 2 - 1 = top + 1 from rfl, eRu_run_70, eRu_run_75, nJ_m1' (by omega), show top + 1 - 1 = top from rfl, eRu_run_81, bnd (show top < 40 by omega) (by omega), nJ_nat (show top < 2147483648 by omega), eRu_run_82, bnd (show top + 1 < 40 by omega) (by omega), nJ_nat (show top + 1 < 2147483648 by omega), cJoin]
        rw [bL_some, gI_hh, gJ_hh, eRu_run_87, bnd (show top < 40 by omega) (by omega), nJ_nat (show top < 2147483648 by omega), nJ_succ i]
        refine (ih (i + 1) (top + 1) _ (by omega) (by omega) hc' (fun k hk => (up_ne _ _ _ _ (fun q => by cases q)).trans (hs k hk)) ?_).mono fun v I' J' ⟨q1, q2, q3⟩ => ⟨q1, q2, fun a ha => (q3 a ha).trans (funext fun k => up_ne _ _ _ _ ha)⟩
        show pxG sn (I (38, r)) (i + 1) cnt (sk (up2 J (42, r) top _ (42, r)) (top + 1)) = _
        rw [sk_push]
        exact hp'
theorem ans_go (d r e z : Nat) (I A : IT) (sn : Nat → Int64) (w : Int64) (he : e ≤ z) (hz : z ≤ 300) (hr : r < 6) (hcd : ∀ j, j < z → CdR (I (38, r) j) (A (69, 0) (300 * r + j)) (A (70, 0) (300 * r + j))) : ∀ (cnt i top : Nat) (B : JT), i + cnt = e → top ≤ 40 → (∀ k, k < 11 → B (76, 0) k = sn k) → pxG sn (I (38, r)) i cnt (sk (B (77, 0)) top) = some [w] →
    Tr (ev (d + 2) mMo_answer 4 [vR (43, 0), vI (nJ r), vU, vI (nJ e), vI (nJ top), vI (nJ i), vU, vU] [] (hh A B)) (fun v A' B' => v = some (vL w) ∧ A' = A ∧ ∀ a, a ≠ (77, 0) → B' a = B a) := by
  intro cnt
  induction cnt with
  | zero =>
    intro i top B hi ht hs hp
    obtain rfl : i = e := by omega
    have hp : some (sk (B (77, 0)) top) = some [w] := hp
    have hp := Option.some.inj hp
    have hl := sk_len (B (77, 0)) top
    rw [hp] at hl
    obtain rfl : top = 1 := hl.symm
    have hw : B (77, 0) 0 = w := by
      have : [B (77, 0) 0] = [w] := hp
      exact List.head_eq_of_cons_eq this
    rw [eMo_answer_4, if_neg (nlt_nJ (Nat.le_refl i) (by omega)), hw]
    exact Tr.ret ⟨rfl, rfl, fun _ _ => rfl⟩
  | succ cnt ih =>
    intro i top B hi ht hs hp
    have hlen := sk_len (B (77, 0)) top
    have hix : (300 : Int32) * nJ r + nJ i = nJ (300 * r + i) := by
      show nJ 300 * nJ r + nJ i = _
      rw [nJ_mul, nJ_add]
    rw [eMo_answer_4, if_pos (lt_nJ (show i < e by omega) (by omega)), hix, bnd (show 300 * r + i < 1800 by omega) (by omega), bnd (show 300 * r + i < 1800 by omega) (by omega), nJ_nat (show 300 * r + i < 2147483648 by omega), nJ_succ i]
    have hp' : (pxS sn (I (38, r) i) (sk (B (77, 0)) top)).bind (pxG sn (I (38, r)) (i + 1) cnt) = some [w] := hp
    have hcd1 := hcd i (by omega)
    rcases hcd1.cases with ⟨hs0, n, hn, hv, hx⟩ | ⟨hs0, n, hn, hv, hx⟩ | ⟨hs0, hx⟩ | hb
    · rw [hx] at hp'
      rw [hs0, hv]
      have h3 : (1000 : Int32) ≤ nJ (1000 + n) := by
        show nJ 1000 ≤ nJ (1000 + n)
        rw [nJ_le (by decide) (by omega)]
        omega
      by_cases hl : top < 40
      · rw [pxS_num hn (by omega)] at hp'
        rw [if_pos rfl, if_pos rfl, bnd (show top < 300 by omega) (by omega), nJ_nat (show top < 2147483648 by omega), nJ_succ top]
        refine (ih (i + 1) (top + 1) _ (by omega) (by omega) (fun k hk => (up_ne _ _ _ _ (fun q => by cases q)).trans (hs k hk)) ?_).mono fun v I' J' ⟨q1, q2, q3⟩ => ⟨q1, q2, fun a ha => (q3 a ha).trans (funext fun k => up_ne _ _ _ _ ha)⟩
        rw [sk_push]
        exact hp'
      · rw [pxS_full (Or.inr h3) (by omega)] at hp'
        cases hp'
    · rw [hx] at hp'
      rw [hs0, hv]
      have h1 : nJ n < 11 := lt_nL (b := 11) hn (by decide)
      by_cases hl : top < 40
      · rw [pxS_wrd hn (by omega)] at hp'
        rw [if_neg (by decide), if_pos rfl, if_neg (by decide), bnd hn (by omega), bnd (show top < 300 by omega) (by omega), nJ_nat (show n < 2147483648 by omega), nJ_nat (show top < 2147483648 by omega), nJ_succ top, hs n hn]
        refine (ih (i + 1) (top + 1) _ (by omega) (by omega) (fun k hk => (up_ne _ _ _ _ (fun q => by cases q)).trans (hs k hk)) ?_).mono fun v I' J' ⟨q1, q2, q3⟩ => ⟨q1, q2, fun a ha => (q3 a ha).trans (funext fun k => up_ne _ _ _ _ ha)⟩
        rw [sk_push]
        exact hp'
      · rw [pxS_full (Or.inl h1) (by omega)] at hp'
        cases hp'
    · rw [hx, pxS_not] at hp'
      rw [hs0, if_neg (by decide), if_neg (by decide), if_pos rfl]
      cases top with
      | zero => cases hp'
      | succ top =>
        rw [nJ_m1' (by omega), Nat.add_sub_cancel, bnd (show top < 300 by omega) (by omega), bnd (show top < 300 by omega) (by omega), nJ_nat (by omega)]
        refine (ih (i + 1) (top + 1) _ (by omega) (by omega) (fun k hk => (up_ne _ _ _ _ (fun q => by cases q)).trans (hs k hk)) ?_).mono fun v I' J' ⟨q1, q2, q3⟩ => ⟨q1, q2, fun a ha => (q3 a ha).trans (funext fun k => up_ne _ _ _ _ ha)⟩
        rw [sk_push]
        exact hp'
    · rw [pxS_bin hb.x] at hp'
      obtain ⟨g1, g2, g3⟩ := hb.s
      rw [if_neg g1, if_neg g2, if_neg g3]
      match top, hlen, ht, hp' with
      | 0, _, _, hp' => cases hp'
      | 1, _, _, hp' => cases hp'
      | top + 2, _, ht, hp' =>
        rw [eMo_answer_63, nJ_m1 (by omega), show top + 2 - 1 = top + 1 from rfl, eMo_answer_64, eMo_answer_69, nJ_m1' (by omega), show top + 1 - 1 = top from rfl, eMo_answer_75, bnd (show top < 300 by omega) (by omega), nJ_nat (show top < 2147483648 by omega), eMo_answer_76, bnd (show top + 1 < 300 by omega) (by omega), nJ_nat (show top + 1 < 2147483648 by omega), mBoth d _ _ hb]
        rw [bL_some, gI_hh, gJ_hh, eMo_answer_81, bnd (show top < 300 by omega) (by omega), nJ_nat (show top < 2147483648 by omega), nJ_succ i]
        refine (ih (i + 1) (top + 1) _ (by omega) (by omega) (fun k hk => (up_ne _ _ _ _ (fun q => by cases q)).trans (hs k hk)) ?_).mono fun v I' J' ⟨q1, q2, q3⟩ => ⟨q1, q2, fun a ha => (q3 a ha).trans (funext fun k => up_ne _ _ _ _ ha)⟩
        show pxG sn (I (38, r)) (i + 1) cnt (sk (up2 B (77, 0) top _ (77, 0)) (top + 1)) = _
        rw [sk_push]
        exact hp'
