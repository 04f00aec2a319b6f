/-- what they may go for -/
def opF (row : Nat → Int32) (w : Int32) (z : Nat) : Nat → Nat
  | 0 => 0
  | k + 1 => if (row k = w ∨ row k = -1) ∧ z.testBit k = false then opF row w z k ||| 2 ^ k else opF row w z k
theorem opF_lt {row : Nat → Int32} {w : Int32} {z : Nat} : ∀ n, n ≤ 6 → opF row w z n < 64
  | 0, _ => (show (0 : Nat) < 64 by decide)
  | n + 1, h => by
    unfold opF
    have := opF_lt (row := row) (w := w) (z := z) n (by omega)
    split
    · exact b_or_lt _ this n (by omega)
    · exact this
theorem opF_ext {r r' : Nat → Int32} {w : Int32} {z : Nat} : ∀ n, (∀ k, k < n → r k = r' k) → opF r w z n = opF r' w z n
  | 0, _ => rfl
  | n + 1, h => by
    unfold opF
    rw [opF_ext n (fun k hk => h k (by omega)), h n (by omega)]
theorem opF_bit {row : Nat → Int32} {w : Int32} {z : Nat} : ∀ n, n ≤ 6 → ∀ k, (opF row w z n).testBit k = true → k < n
  | 0, _, k, h => by
    rw [show opF row w z 0 = 0 from rfl, Nat.zero_testBit] at h
    cases h
  | n + 1, hn, k, h => by
    unfold opF at h
    split at h
    · rw [Nat.testBit_or, Bool.or_eq_true, Nat.testBit_two_pow, decide_eq_true_iff] at h
      rcases h with h | h
      · have := opF_bit n (by omega) k h
        omega
      · omega
    · have := opF_bit n (by omega) k h
      omega
theorem shr6 {z k : Nat} (hz : z < 64) (hk : k < 6) : (((nJ z >>> (nJ k &&& 31)) &&& 1) = 0) = (z.testBit k = false) := b8_shr0 (by omega) (by omega)
theorem cOpenT {I : IT} {J : JT} {S z1 z2 : Nat} (d : Nat) (w : Int32) (hS : S ≤ 6) (e3 : I (8, 0) 3 = nJ S) (h1 : I (17, 0) 1 = nJ z1) (h2 : I (17, 0) 2 = nJ z2) (hz1 : z1 < 64) (hz2 : z2 < 64) : ev d mRd_openTo 0 [vR (29, 0), vR (8, 0), vR (17, 0), vI w, vU, vU, vU, vU] [] (hh I J) = some (some (vI (nJ (opF (I (22, 0)) w (z1 ||| z2) S))), hh I J) := by
  have hz : z1 ||| z2 < 64 := Nat.or_lt_two_pow (n := 6) hz1 hz2
  have go : ∀ j k, k + j = S → ev d mRd_openTo 4 [vU, vR (8, 0), vR (17, 0), vI w, vI (nJ (opF (I (22, 0)) w (z1 ||| z2) k)), vI (nJ k), vU, vU] [] (hh I J) = some (some (vI (nJ (opF (I (22, 0)) w (z1 ||| z2) S))), hh I J) := by
    intro j
    induction j with
    | zero =>
      intro k hk
      obtain rfl : k = S := by omega
      rw [eRd_openTo_4, e3, if_neg (nlt_nJ (Nat.le_refl k) (by omega))]
    | succ j ih =>
      intro k hk
      have hi := ih (k + 1) (by omega)
      have hl := opF_lt (row := I (22, 0)) (w := w) (z := z1 ||| z2) k (by omega)
      rw [eRd_openTo_4, e3, if_pos (lt_nJ (show k < S by omega) (by omega)), bnd (show k < 6 by omega) (by omega), bnd (show k < 6 by omega) (by omega), nJ_nat (show k < 2147483648 by omega)]
      simp only [eRd_openTo_23, h1, h2, nJ_or2, or_zero32, nJ_succ, b_or _ hl k (show k < 6 by omega), if_neg (show ¬ (1 : Int32) = 0 by decide)]
      have hu : opF (I (22, 0)) w (z1 ||| z2) (k + 1) = if (I (22, 0) k = w ∨ I (22, 0) k = -1) ∧ (z1 ||| z2).testBit k = false then opF (I (22, 0)) w (z1 ||| z2) k ||| 2 ^ k else opF (I (22, 0)) w (z1 ||| z2) k := rfl
      rw [hu] at hi
      by_cases hb : (z1 ||| z2).testBit k = false
      · rw [if_pos (Eq.mpr (shr6 hz (show k < 6 by omega)) hb), if_pos (Eq.mpr (shr6 hz (show k < 6 by omega)) hb)]
        by_cases hw : I (22, 0) k = w
        · rw [if_pos hw]
          rw [if_pos ⟨Or.inl hw, hb⟩] at hi
          exact hi
        · rw [if_neg hw]
          by_cases hm : I (22, 0) k = -1
          · rw [if_pos hm]
            rw [if_pos ⟨Or.inr hm, hb⟩] at hi
            exact hi
          · rw [if_neg hm]
            rw [if_neg (fun z => z.1.elim hw hm)] at hi
            exact hi
      · have hb' : ¬ ((nJ (z1 ||| z2) >>> (nJ k &&& 31)) &&& 1) = 0 := fun z => hb (Eq.mp (shr6 hz (show k < 6 by omega)) z)
        rw [if_neg hb', if_neg hb']
        rw [if_neg (fun z => hb z.2)] at hi
        split
        · exact hi
        · split
          · exact hi
          · exact hi
  rw [eRd_openTo_0]
  exact go S 0 (by omega)
theorem mCould {A : IT} {B : JT} {S z1 z2 : Nat} (d : Nat) (w : Int32) (hS : S ≤ 6) (e3 : A (44, 0) 3 = nJ S) (h1 : A (44, 0) 6 = nJ z1) (h2 : A (44, 0) 7 = nJ z2) (hz1 : z1 < 64) (hz2 : z2 < 64) : ev (d + 1) mMo_couldGoFor 0 [vR (43, 0), vI w, vU, vU] [] (hh A B) = some (some (vI (nJ (opF (A (51, 0)) w (z1 ||| z2) S))), hh A B) := by
  have hz : z1 ||| z2 < 64 := Nat.or_lt_two_pow (n := 6) hz1 hz2
  have go : ∀ j k, k + j = S → ev (d + 1) mMo_couldGoFor 4 [vR (43, 0), vI w, vI (nJ (opF (A (51, 0)) w (z1 ||| z2) k)), vI (nJ k)] [] (hh A B) = some (some (vI (nJ (opF (A (51, 0)) w (z1 ||| z2) S))), hh A B) := by
    intro j
    induction j with
    | zero =>
      intro k hk
      obtain rfl : k = S := by omega
      rw [eMo_couldGoFor_4, e3, if_neg (nlt_nJ (Nat.le_refl k) (by omega))]
    | succ j ih =>
      intro k hk
      have hi := ih (k + 1) (by omega)
      have hl := opF_lt (row := A (51, 0)) (w := w) (z := z1 ||| z2) k (by omega)
      rw [eMo_couldGoFor_4, e3, if_pos (lt_nJ (show k < S by omega) (by omega)), bnd (show k < 6 by omega) (by omega), bnd (show k < 6 by omega) (by omega), nJ_nat (show k < 2147483648 by omega), h1, h2, nJ_or2, mHas _ _ _ hz (show k < 6 by omega)]
      simp only [bI_some, or_zero32, nJ_succ, b_or _ hl k (show k < 6 by omega), gI_hh, gJ_hh, bif2]
      have hu : opF (A (51, 0)) w (z1 ||| z2) (k + 1) = if (A (51, 0) k = w ∨ A (51, 0) k = -1) ∧ (z1 ||| z2).testBit k = false then opF (A (51, 0)) w (z1 ||| z2) k ||| 2 ^ k else opF (A (51, 0)) w (z1 ||| z2) k := rfl
      rw [hu] at hi
      cases hb : (z1 ||| z2).testBit k with
      | false =>
        rw [hb] at hi
        simp only [if_neg (show ¬ false = true by decide)]
        by_cases hw : A (51, 0) k = w
        · rw [if_pos hw]
          rw [if_pos ⟨Or.inl hw, rfl⟩] at hi
          exact hi
        · rw [if_neg hw]
          by_cases hm : A (51, 0) k = -1
          · rw [if_pos hm]
            rw [if_pos ⟨Or.inr hm, rfl⟩] at hi
            exact hi
          · rw [if_neg hm]
            rw [if_neg (fun z => z.1.elim hw hm)] at hi
            exact hi
      | true =>
        rw [hb, if_neg (fun z => by cases z.2)] at hi
        simp only [if_true]
        split
        · exact hi
        · split
          · exact hi
          · exact hi
  rw [eMo_couldGoFor_0]
  exact go S 0 (by omega)
/-- the table on the way -/
def Pu (R : RD) (s l : Nat) : Nat → Nat → Nat := fun t k => if t.testBit k = true ∧ t &&& R.can = t then (if rst t k < s then Lw R t k else if rst t k = s then mnF (fun i => if s.testBit i = true then R.fl k (Lw R s i + R.dd i k) else 1000000) 1000000 l else 1000000) else 1000000
def Hu (R : RD) (S s l : Nat) : Nat → Nat := fun t => if t < s then Hm R t S else if t = s then Hm R s l else 1000000
theorem RD.Ok.L_le {R : RD} {S : Nat} (h : R.Ok S) (s k : Nat) : Lw R s k ≤ 1000000 := by
  have := h.L_or s k
  omega
theorem RD.Ok.Pu_le {R : RD} {S : Nat} (h : R.Ok S) (s l t k : Nat) : Pu R s l t k ≤ 1000000 := by
  unfold Pu
  split
  · split
    · exact h.L_le t k
    · split
      · exact mnF_le l
      · exact Nat.le_refl _
  · exact Nat.le_refl _
theorem RD.Ok.H_le {R : RD} {S : Nat} (h : R.Ok S) (s n : Nat) : Hm R s n ≤ 1000000 := by
  have := h.hw
  have h1 : (if s = 0 then R.hw else 1000000) ≤ 1000000 := by split <;> omega
  exact Nat.le_trans (mnF_le n) h1
theorem RD.Ok.Pu_self {R : RD} {S : Nat} (h : R.Ok S) {s l : Nat} (hs : s < 64) (hl : l < 6) : Pu R s l s l = Lw R s l := by
  unfold Pu
  by_cases hc : s.testBit l = true ∧ s &&& R.can = s
  · rw [if_pos hc, if_pos (rst_lt s hs l hl hc.1)]
  · rw [if_neg hc, Lw_no R hc]
theorem and_x {c s : Nat} : ∀ k, k < 8 → ((c &&& (255 ^^^ s)).testBit k = true ↔ c.testBit k = true ∧ s.testBit k = false) := fun k hk => by
  rw [Nat.testBit_and, Nat.testBit_xor, b8_255 k hk]
  cases c.testBit k <;> cases s.testBit k <;> simp
/-- a push -/
theorem Pu_step {R : RD} {S : Nat} (h : R.Ok S) {s l : Nat} (hs : s < 64) (hl : l < S) (hL : Lw R s l < 1000000) {t k : Nat} (ht : t < 64) (hk : k < 6) : GF R (Pu R s l) s l (Pu R s l s l) (R.can &&& (255 ^^^ s)) S t k = Pu R s (l + 1) t k := by
  have h6 := h.s6
  have hsc : s.testBit l = true ∧ s &&& R.can = s := by
    by_cases hc : s.testBit l = true ∧ s &&& R.can = s
    · exact hc
    · rw [Lw_no R hc] at hL
      omega
  unfold GF
  rw [h.Pu_self hs (by omega)]
  by_cases hc : k < S ∧ (R.can &&& (255 ^^^ s)).testBit k = true ∧ t = s ||| 2 ^ k
  · obtain ⟨c1, c2, c3⟩ := hc
    obtain ⟨c4, c5⟩ := (and_x k (by omega)).mp c2
    obtain ⟨r1, r2, r3⟩ := rst_of s hs k hk c5
    have hsub : t &&& R.can = t := sub_iff.mpr fun b hb => by
      rw [c3, Nat.testBit_or, Bool.or_eq_true, Nat.testBit_two_pow, decide_eq_true_iff] at hb
      rcases hb with hb | hb
      · exact sub_iff.mp hsc.2 b hb
      · rw [← hb]
        exact c4
    rw [if_pos ⟨c1, c2, c3⟩]
    have ht1 : t.testBit k = true := by rw [c3]; exact r3
    have hr : rst t k = s := by rw [c3]; exact r1
    unfold Pu
    have hcc : t.testBit k = true ∧ t &&& R.can = t := ⟨ht1, hsub⟩
    simp only [if_pos hcc, hr, Nat.lt_irrefl, if_true, if_false]
    show _ = min _ _
    dsimp only
    rw [if_pos hsc.1]
  · rw [if_neg hc]
    unfold Pu
    by_cases c : t.testBit k = true ∧ t &&& R.can = t
    · rw [if_pos c, if_pos c]
      by_cases hr : rst t k = s
      · exfalso
        have hck := sub_iff.mp c.2 k c.1
        refine hc ⟨h.canS k hck, (and_x k (by omega)).mpr ⟨hck, ?_⟩, ?_⟩
        · rw [← hr, rst_bit t ht k hk k hk, Nat.beq_refl]
          simp
        · rw [← hr]
          exact (rst_or t ht k hk c.1).symm
      · rw [if_neg hr, if_neg hr]
    · rw [if_neg c, if_neg c]
theorem Pu_none {R : RD} {S : Nat} (h : R.Ok S) {s l : Nat} (hL : Lw R s l = 1000000) {t k : Nat} : Pu R s l t k = Pu R s (l + 1) t k := by
  unfold Pu
  by_cases c : t.testBit k = true ∧ t &&& R.can = t
  · have hk := h.canS k (sub_iff.mp c.2 k c.1)
    rw [if_pos c, if_pos c]
    have e : mnF (fun i => if s.testBit i = true then R.fl k (Lw R s i + R.dd i k) else 1000000) 1000000 (l + 1) = mnF (fun i => if s.testBit i = true then R.fl k (Lw R s i + R.dd i k) else 1000000) 1000000 l := by
      have h1 := mnF_le (g := fun i => if s.testBit i = true then R.fl k (Lw R s i + R.dd i k) else 1000000) (b := 1000000) l
      show min (mnF _ _ l) _ = _
      dsimp only at h1 ⊢
      rw [hL, h.fl_far hk (by omega)]
      split <;> omega
    rw [e]
  · rw [if_neg c, if_neg c]
theorem Pu_next {R : RD} {S : Nat} (h : R.Ok S) {s : Nat} (h1 : 1 ≤ s) {t k : Nat} (ht : t < 64) : Pu R s S t k = Pu R (s + 1) 0 t k := by
  unfold Pu
  by_cases c : t.testBit k = true ∧ t &&& R.can = t
  · rw [if_pos c, if_pos c]
    by_cases r1 : rst t k < s
    · rw [if_pos r1, if_pos (by omega)]
    · by_cases r2 : rst t k = s
      · rw [if_neg r1, if_pos r2, if_pos (by omega), Lw_push h ht c.1 c.2 (by omega), r2]
      · rw [if_neg r1, if_neg r2, if_neg (by omega)]
        split <;> rfl
  · rw [if_neg c, if_neg c]
theorem Hu_step {R : RD} {S : Nat} (h : R.Ok S) {s l : Nat} (hs : s < 64) (hl : l < S) (hL : Lw R s l < 1000000) (t : Nat) : (if t = s then min (Hu R S s l s) (min 1000000 (Lw R s l + R.ho l)) else Hu R S s l t) = Hu R S s (l + 1) t := by
  have hsc : s.testBit l = true := by
    by_cases hc : s.testBit l = true ∧ s &&& R.can = s
    · exact hc.1
    · rw [Lw_no R hc] at hL
      omega
  unfold Hu
  by_cases e : t = s
  · rw [if_pos e, e, if_neg (Nat.lt_irrefl s), if_pos rfl, if_neg (Nat.lt_irrefl s), if_pos rfl]
    show _ = min (Hm R s l) (if s.testBit l = true then min 1000000 (Lw R s l + R.ho l) else 1000000)
    rw [if_pos hsc]
  · rw [if_neg e, if_neg e, if_neg e]
theorem Hu_none {R : RD} {S : Nat} (h : R.Ok S) {s l : Nat} (hL : Lw R s l = 1000000) (t : Nat) : Hu R S s l t = Hu R S s (l + 1) t := by
  unfold Hu
  have e : Hm R s (l + 1) = Hm R s l := by
    have := h.H_le s l
    show min (Hm R s l) (if s.testBit l = true then min 1000000 (Lw R s l + R.ho l) else 1000000) = Hm R s l
    split <;> omega
  rw [e]
theorem Hu_next {R : RD} {S s : Nat} (t : Nat) : Hu R S s S t = Hu R S (s + 1) 0 t := by
  unfold Hu
  by_cases h1 : t < s
  · rw [if_pos h1, if_pos (by omega)]
  · by_cases h2 : t = s
    · rw [if_neg h1, if_pos h2, if_pos (by omega), h2]
    · rw [if_neg h1, if_neg h2, if_neg (by omega)]
      split
      · show _ = (if s + 1 = 0 then R.hw else 1000000)
        rw [if_neg (by omega)]
      · rfl
