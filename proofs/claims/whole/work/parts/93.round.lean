/-! ROUND -/
def rdF (I : IT) (S w : Nat) : RD := (tn (I (17, 0) 0), fun k => tn (I (14, 0) k), fun k => dst (scC I 0) (tn (I (18, 0) w)) (tn (I (13, 0) k)), fun i k => dst (scC I 0) (tn (I (13, 0) i)) (tn (I (13, 0) k)), fun k => dst (scC I 0) (tn (I (13, 0) k)) 0, dst (scC I 0) (tn (I (18, 0) w)) 0, opF (I (22, 0)) (nJ w) (tn (I (17, 0) 1) ||| tn (I (17, 0) 2)) S)
theorem tn_of {x : Int32} {k n : Nat} (h : x = nJ k) (hk : k < n) (hn : n ≤ 100000) : tn x < n ∧ x = nJ (tn x) := by
  have e : tn x = k := by rw [h]; exact nJ_nat (by omega)
  rw [e]
  exact ⟨hk, h⟩
theorem rdF_ok {I A : IT} {T S N w : Nat} (hro : RoR (scC I 0) (scM A) T S N) (hwk : WkR (scC I 0) (scM A) T S N 10) (hd : DayOk (scC I 0)) (hw : w < N) : (rdF I S w).Ok S ∧ RcC I (rdF I S w) S w (tn (I (18, 0) w)) (fun k => tn (I (13, 0) k)) ∧ RcM A (rdF I S w) S w (tn (I (18, 0) w)) (fun k => tn (I (13, 0) k)) ∧ (I (17, 0) 1 = nJ (tn (I (17, 0) 1)) ∧ I (17, 0) 2 = nJ (tn (I (17, 0) 2)) ∧ A (44, 0) 6 = nJ (tn (I (17, 0) 1)) ∧ A (44, 0) 7 = nJ (tn (I (17, 0) 2)) ∧ tn (I (17, 0) 1) < 64 ∧ tn (I (17, 0) 2) < 64) ∧ opF (A (51, 0)) (nJ w) (tn (I (17, 0) 1) ||| tn (I (17, 0) 2)) S = (rdF I S w).can := by
  obtain ⟨⟨hT, hS, hN, hNT⟩, ⟨-, e2, m1, e3, m3, e4, m4⟩, hm, hpr, hsn, -⟩ := hro
  obtain ⟨k1, k2, k3, k4, k5, k6, k7, k8⟩ := hwk
  obtain ⟨z, hz, ez⟩ := hd
  have hT0 : 0 < T := hNT (by omega)
  obtain ⟨z1, hz1, ez1, mz1⟩ := k2
  obtain ⟨z2, hz2, ez2, mz2⟩ := k3
  have ez : I (17, 0) 0 = nJ z := ez
  have ez1 : I (17, 0) 1 = nJ z1 := ez1
  have ez2 : I (17, 0) 2 = nJ z2 := ez2
  have mz1 : A (44, 0) 6 = nJ z1 := mz1
  have mz2 : A (44, 0) 7 = nJ z2 := mz2
  have k1 : I (17, 0) 0 = A (44, 0) 5 := k1
  have tz : tn (I (17, 0) 0) = z := by rw [ez]; exact nJ_nat (by omega)
  have tz1 : tn (I (17, 0) 1) = z1 := by rw [ez1]; exact nJ_nat (by omega)
  have tz2 : tn (I (17, 0) 2) = z2 := by rw [ez2]; exact nJ_nat (by omega)
  obtain ⟨⟨w1, t, ht, w2⟩, -⟩ := k6 w hw
  have w1 : I (18, 0) w = A (53, 0) w := w1
  have w2 : I (18, 0) w = nJ t := w2
  have tu : tn (I (18, 0) w) = t := by rw [w2]; exact nJ_nat (by omega)
  have hg : ∀ k, k < S → tn (I (13, 0) k) < T ∧ I (13, 0) k = nJ (tn (I (13, 0) k)) ∧ A (48, 0) k = nJ (tn (I (13, 0) k)) ∧ tn (I (14, 0) k) < 300 ∧ I (14, 0) k = nJ (tn (I (14, 0) k)) ∧ A (49, 0) k = nJ (tn (I (14, 0) k)) := fun k hk => by
    obtain ⟨⟨a1, g, hg, a2⟩, ⟨b1, v, hv, b2⟩, -⟩ := hsn k hk
    have a1 : I (13, 0) k = A (48, 0) k := a1
    have a2 : I (13, 0) k = nJ g := a2
    have b1 : I (14, 0) k = A (49, 0) k := b1
    have b2 : I (14, 0) k = nJ v := b2
    obtain ⟨q1, q2⟩ := tn_of a2 hg (by omega)
    obtain ⟨r1, r2⟩ := tn_of b2 hv (by omega)
    exact ⟨q1, q2, a1.symm.trans q2, r1, r2, b1.symm.trans r2⟩
  have hdd : ∀ a b, a < T → b < T → (dst (scC I 0) a b = 1000000 ∨ dst (scC I 0) a b < 2400) ∧ I (11, 0) (8 * a + b) = nJ (dst (scC I 0) a b) ∧ A (47, 0) (8 * a + b) = nJ (dm (dst (scC I 0) a b)) := fun a b ha hb => by
    obtain ⟨x, x1, x2, x3, x4⟩ := hm.d ha hb
    rw [x4]
    exact ⟨x1, x2, x3⟩
  have htri := hm.2.2.2.2.1
  have hcan : (rdF I S w).can = opF (I (22, 0)) (nJ w) (z1 ||| z2) S := by
    show opF (I (22, 0)) (nJ w) (tn (I (17, 0) 1) ||| tn (I (17, 0) 2)) S = _
    rw [tz1, tz2]
  refine ⟨⟨hS, by show tn (I (17, 0) 0) < 1000; omega, fun k hk => (hg k hk).2.2.2.1, by rw [hcan]; exact opF_lt S hS, fun k hk => by rw [hcan] at hk; exact opF_bit S hS k hk, fun k hk => (hdd _ _ (by omega) (hg k hk).1).1, fun i k hi hk => (hdd _ _ (hg i hi).1 (hg k hk).1).1, fun k hk => (hdd _ _ (hg k hk).1 hT0).1, (hdd _ _ (by omega) hT0).1, fun i k hi hk => htri _ _ _ (by omega) (hg i hi).1 (hg k hk).1, fun i j k hi hj hk => htri _ _ _ (hg i hi).1 (hg j hj).1 (hg k hk).1, fun i k hi hk => htri _ _ _ (hg i hi).1 (hg k hk).1 hT0, fun k hk => htri _ _ _ (by omega) (hg k hk).1 hT0⟩, ⟨⟨e3, by show I (17, 0) 0 = nJ (tn (I (17, 0) 0)); rw [tz]; exact ez, by rw [tu]; exact w2, by omega, by omega⟩, fun k hk => ⟨by have := (hg k hk).1; dsimp only; omega, (hg k hk).2.1, (hg k hk).2.2.2.2.1, (hdd _ _ (by omega) (hg k hk).1).2.1, (hdd _ _ (hg k hk).1 hT0).2.1, fun i hi => (hdd _ _ (hg i hi).1 (hg k hk).1).2.1⟩, (hdd _ _ (by omega) hT0).2.1⟩, ⟨⟨by show A (44, 0) 5 = nJ (tn (I (17, 0) 0)); rw [tz, ← k1]; exact ez, by rw [tu, ← w1]; exact w2, by omega, by omega⟩, fun k hk => ⟨by have := (hg k hk).1; dsimp only; omega, (hg k hk).2.2.1, (hg k hk).2.2.2.2.2, (hdd _ _ (by omega) (hg k hk).1).2.2, (hdd _ _ (hg k hk).1 hT0).2.2, fun i hi => (hdd _ _ (hg i hi).1 (hg k hk).1).2.2⟩, (hdd _ _ (by omega) hT0).2.2⟩, ⟨by rw [tz1]; exact ez1, by rw [tz2]; exact ez2, by rw [tz1]; exact mz1, by rw [tz2]; exact mz2, by omega, by omega⟩, ?_⟩
  rw [hcan, tz1, tz2]
  exact opF_ext S fun k hk => ((k7 k hk).1.1).symm
/-- what a set brings -/
def fsF (fee : Nat → Nat) (s : Nat) : Nat → Nat
  | 0 => 0
  | k + 1 => if s.testBit k = true then fsF fee s k + fee k else fsF fee s k
theorem fsF_le {fee : Nat → Nat} {s : Nat} : ∀ n, (∀ k, k < n → fee k < 100) → fsF fee s n ≤ 100 * n
  | 0, _ => Nat.le_refl 0
  | n + 1, h => by
    unfold fsF
    have := fsF_le (fee := fee) (s := s) n (fun k hk => h k (by omega))
    have := h n (by omega)
    split <;> omega
theorem add_zero32 (x : Int32) : x + 0 = x := Int32.add_zero x
theorem cFees {I : IT} {J : JT} {S s : Nat} {fee : Nat → Nat} (d : Nat) (hS : S ≤ 6) (e3 : I (8, 0) 3 = nJ S) (hf : ∀ k, k < S → I (15, 0) k = nJ (fee k)) (hs : s < 64) : ev d mRo_feesOf 0 [vR (8, 0), vI (nJ s), vU, vU] [] (hh I J) = some (some (vI (nJ (fsF fee s S))), hh I J) := by
  have go : ∀ j k, k + j = S → ev d mRo_feesOf 4 [vR (8, 0), vI (nJ s), vI (nJ (fsF fee s k)), vI (nJ k)] [] (hh I J) = some (some (vI (nJ (fsF fee s S))), hh I J) := by
    intro j
    induction j with
    | zero =>
      intro k hk
      obtain rfl : k = S := by omega
      rw [eRo_feesOf_4, e3, if_neg (nlt_nJ (Nat.le_refl k) (by omega))]
    | succ j ih =>
      intro k hk
      have hi := ih (k + 1) (by omega)
      rw [eRo_feesOf_4, e3, if_pos (lt_nJ (show k < S by omega) (by omega)), bnd (show k < 6 by omega) (by omega), nJ_nat (show k < 2147483648 by omega), hf k (by omega), nJ_add, nJ_succ, add_zero32]
      rw [show fsF fee s (k + 1) = if s.testBit k = true then fsF fee s k + fee k else fsF fee s k from rfl] at hi
      cases hb : s.testBit k with
      | false =>
        rw [hb, if_neg (show ¬ false = true by decide)] at hi
        rw [if_pos (Eq.mpr (shr6 hs (show k < 6 by omega)) hb)]
        exact hi
      | true =>
        rw [hb, if_pos rfl] at hi
        rw [if_neg (fun z => by have := Eq.mp (shr6 hs (show k < 6 by omega)) z; rw [hb] at this; cases this)]
        exact hi
  rw [eRo_feesOf_0]
  exact go S 0 (by omega)
theorem mFees {A : IT} {B : JT} {S s : Nat} {fee : Nat → Nat} (d : Nat) (hS : S ≤ 6) (e3 : A (44, 0) 3 = nJ S) (hf : ∀ k, k < S → A (50, 0) k = nJ (fee k)) (hs : s < 64) : ev (d + 1) mMo_feesOf 0 [vR (43, 0), vI (nJ s), vU, vU] [] (hh A B) = some (some (vI (nJ (fsF fee s S))), hh A B) := by
  have go : ∀ j k, k + j = S → ev (d + 1) mMo_feesOf 4 [vR (43, 0), vI (nJ s), vI (nJ (fsF fee s k)), vI (nJ k)] [] (hh A B) = some (some (vI (nJ (fsF fee s S))), hh A B) := by
    intro j
    induction j with
    | zero =>
      intro k hk
      obtain rfl : k = S := by omega
      rw [eMo_feesOf_4, e3, if_neg (nlt_nJ (Nat.le_refl k) (by omega))]
    | succ j ih =>
      intro k hk
      have hi := ih (k + 1) (by omega)
      rw [eMo_feesOf_4, e3, if_pos (lt_nJ (show k < S by omega) (by omega)), mHas _ _ _ hs (show k < 6 by omega), bI_some, bif2, bnd (show k < 6 by omega) (by omega), nJ_nat (show k < 2147483648 by omega), gI_hh, gJ_hh, hf k (by omega), nJ_add, nJ_succ, add_zero32]
      rw [show fsF fee s (k + 1) = if s.testBit k = true then fsF fee s k + fee k else fsF fee s k from rfl] at hi
      cases hb : s.testBit k with
      | false =>
        rw [hb, if_neg (show ¬ false = true by decide)] at hi
        rw [if_neg (show ¬ false = true by decide)]
        exact hi
      | true =>
        rw [hb, if_pos rfl] at hi
        rw [if_pos rfl]
        exact hi
  rw [eMo_feesOf_0]
  exact go S 0 (by omega)
/-- which set is the best -/
def bsS (H F : Nat → Nat) (s : Nat) : Option Nat → Option Nat
  | none => some s
  | some b => if F b < F s ∨ (F s = F b ∧ H s < H b) then some s else some b
def bsR (H F : Nat → Nat) : Nat → Option Nat
  | 0 => none
  | s + 1 => if H s < 1000000 then bsS H F s (bsR H F s) else bsR H F s
theorem bsR_lt {H F : Nat → Nat} : ∀ s b, bsR H F s = some b → b < s ∧ H b < 1000000
  | 0, _, h => by cases h
  | s + 1, b, h => by
    unfold bsR at h
    by_cases h1 : H s < 1000000
    · rw [if_pos h1] at h
      cases e : bsR H F s with
      | none =>
        rw [e] at h
        cases h
        exact ⟨by omega, h1⟩
      | some c =>
        rw [e] at h
        have := bsR_lt s c e
        by_cases h2 : F c < F s ∨ (F s = F c ∧ H s < H c)
        · rw [show bsS H F s (some c) = if F c < F s ∨ (F s = F c ∧ H s < H c) then some s else some c from rfl, if_pos h2] at h
          cases h
          exact ⟨by omega, h1⟩
        · rw [show bsS H F s (some c) = if F c < F s ∨ (F s = F c ∧ H s < H c) then some s else some c from rfl, if_neg h2] at h
          cases h
          exact ⟨by omega, this.2⟩
    · rw [if_neg h1] at h
      have := bsR_lt s b h
      exact ⟨by omega, this.2⟩
theorem best_go {I : IT} {J : JT} {S : Nat} {fee H : Nat → Nat} (d : Nat) (hS : S ≤ 6) (e3 : I (8, 0) 3 = nJ S) (hf : ∀ k, k < S → I (15, 0) k = nJ (fee k) ∧ fee k < 100) (hH : ∀ t, t < 64 → I (31, 0) t = nJ (H t) ∧ H t ≤ 1000000) : ev (d + 1) mRd_bestSet 0 [vR (29, 0), vR (8, 0), vU, vU, vU, vU, vU] [] (hh I J) = some (some (vI (cB (bsR H (fun s => fsF fee s S) (2 ^ S)))), hh I J) := by
  have h2 : 2 ^ S ≤ 64 := Nat.pow_le_pow_right (n := 2) (by decide) hS
  let F := fun s => fsF fee s S
  have hF : ∀ s, F s ≤ 600 := fun s => by
    have := fsF_le (fee := fee) (s := s) S (fun k hk => (hf k hk).2)
    show fsF fee s S ≤ 600
    omega
  let cF : Option Nat → Int32 := fun o => match o with
    | none => -1
    | some b => nJ (F b)
  have go : ∀ j s, s + j = 2 ^ S → ev (d + 1) mRd_bestSet 6 [vR (29, 0), vR (8, 0), vI (cB (bsR H F s)), vI (cF (bsR H F s)), vI (nJ s), vU, vU] [] (hh I J) = some (some (vI (cB (bsR H F (2 ^ S)))), hh I J) := by
    intro j
    induction j with
    | zero =>
      intro s hs
      obtain rfl : s = 2 ^ S := by omega
      rw [eRd_bestSet_6, e3, b8_sh S (by omega), if_neg (nlt_nJ (Nat.le_refl _) (by omega))]
    | succ j ih =>
      intro s hs
      have hi := ih (s + 1) (by omega)
      obtain ⟨hs1, hs2⟩ := hH s (by omega)
      have hFs := hF s
      rw [eRd_bestSet_6, e3, b8_sh S (by omega), if_pos (lt_nJ (show s < 2 ^ S by omega) (by omega)), bnd (show s < 64 by omega) (by omega), nJ_nat (show s < 2147483648 by omega), hs1, nJ_succ, cFees d hS e3 (fun k hk => (hf k hk).1) (show s < 64 by omega), bI_some, gI_hh, gJ_hh]
      simp only [bnk (show s < 64 by omega) (by omega), if_neg (show ¬ (1 : Int32) = 0 by decide), hs1]
      rw [show bsR H F (s + 1) = if H s < 1000000 then bsS H F s (bsR H F s) else bsR H F s from rfl] at hi
      by_cases h1 : H s < 1000000
      · rw [if_pos h1] at hi
        rw [if_pos (lt_nL (b := 1000000) h1 (by decide))]
        cases e : bsR H F s with
        | none =>
          rw [e] at hi
          rw [if_pos (show cB none = -1 from rfl), if_pos (show cF none < nJ (fsF fee s S) by
            show (-1 : Int32) < nJ (fsF fee s S)
            rw [i_lt, nJ_int (show fsF fee s S < 2147483648 by have : fsF fee s S ≤ 600 := hFs; omega)]
            have : (-1 : Int32).toInt = -1 := rfl
            omega)]
          exact hi
        | some b =>
          rw [e] at hi
          obtain ⟨hb, hHb⟩ := bsR_lt s b e
          obtain ⟨hb1, hb2⟩ := hH b (by omega)
          have hFb := hF b
          have hFs' : fsF fee s S ≤ 600 := hFs
          have hFb' : fsF fee b S ≤ 600 := hFb
          rw [if_neg (show ¬ cB (some b) = -1 from nJ_nm1 (by omega)), show cB (some b) = nJ b from rfl, show cF (some b) = nJ (fsF fee b S) from rfl, bnd (show b < 64 by omega) (by omega), nJ_nat (show b < 2147483648 by omega), hb1]
          have hi : ev (d + 1) mRd_bestSet 6 [vR (29, 0), vR (8, 0), vI (cB (if fsF fee b S < fsF fee s S ∨ (fsF fee s S = fsF fee b S ∧ H s < H b) then some s else some b)), vI (cF (if fsF fee b S < fsF fee s S ∨ (fsF fee s S = fsF fee b S ∧ H s < H b) then some s else some b)), vI (nJ (s + 1)), vU, vU] [] (hh I J) = some (some (vI (cB (bsR H F (2 ^ S)))), hh I J) := hi
          by_cases q1 : fsF fee b S < fsF fee s S
          · rw [if_pos (Or.inl q1)] at hi
            rw [if_neg (ne_nJ (by omega) (by omega) (by omega)), if_pos (lt_nJ q1 (by omega))]
            exact hi
          · by_cases q2 : fsF fee s S = fsF fee b S
            · rw [if_pos (show nJ (fsF fee s S) = nJ (fsF fee b S) by rw [q2])]
              simp only [if_neg (nlt_nJ (show fsF fee s S ≤ fsF fee b S by omega) (by omega)), if_true]
              by_cases q3 : H s < H b
              · rw [if_pos (Or.inr ⟨q2, q3⟩)] at hi
                rw [if_pos (lt_nJ q3 (by omega))]
                exact hi
              · rw [if_neg (fun z => z.elim q1 (fun z => q3 z.2))] at hi
                rw [if_neg (nlt_nJ (by omega) (by omega))]
                exact hi
            · rw [if_neg (fun z => z.elim q1 (fun z => q2 z.1))] at hi
              rw [if_neg (ne_nJ q2 (by omega) (by omega)), if_neg (nlt_nJ (by omega) (by omega))]
              exact hi
      · rw [if_neg h1] at hi
        rw [if_neg (nlt_nL (b := 1000000) (by omega) (by omega))]
        exact hi
  rw [eRd_bestSet_0]
  exact go (2 ^ S) 0 (by omega)
