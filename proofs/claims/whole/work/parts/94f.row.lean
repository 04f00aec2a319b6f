/-! PARTED: the reference -/
theorem nJ_div {a b : Nat} (ha : a < 100000) (hb : b < 100000) : nJ a / nJ b = nJ (a / b) := by
  have e1 : (nJ a / nJ b).toInt = (a / b : Nat) := by
    rw [Int32.toInt_div_of_ne_left _ _ (fun z => by
      have := congrArg Int32.toInt z
      rw [nJ_int (by omega)] at this
      have h2 : Int32.minValue.toInt = -2147483648 := rfl
      omega), nJ_int (by omega), nJ_int (by omega)]
    exact Int.ofNat_tdiv a b
  have h3 : a / b < 2147483648 := Nat.lt_of_le_of_lt (Nat.div_le_self a b) (by omega)
  rw [i_eq, e1, nJ_int h3]
theorem nJ_mod {a b : Nat} (ha : a < 100000) (hb : b < 100000) : (nJ a - nJ a / nJ b * nJ b) - 1 = dv (a % b) := by
  rw [nJ_div ha hb, nJ_mul]
  have h1 := Nat.div_add_mod a b
  have h2 : a / b * b ≤ a := Nat.div_mul_le_self a b
  rw [nJ_sub h2]
  have h3 : a - a / b * b = a % b := by
    rw [Nat.mul_comm] at h1
    omega
  rw [h3]
  unfold dv
  by_cases h0 : a % b = 0
  · rw [if_pos h0, h0]
    rfl
  · rw [if_neg h0]
    exact nJ_sub (a := a % b) (b := 1) (by omega)
theorem dv_m1 {m : Nat} (hm : m ≤ 1000) : (dv m = -1) = (m = 0) := by
  rw [i_eq, dv_int hm]
  have : (-1 : Int32).toInt = -1 := rfl
  apply propext
  omega
/-- the sentences of one walker among the last n -/
def sfF (dg : Nat → Nat) (w S : Nat) : Nat → Nat
  | 0 => 0
  | n + 1 => if dg (S - (n + 1)) = w + 1 then sfF dg w S n ||| 2 ^ (S - (n + 1)) else sfF dg w S n
theorem sfF_bit {dg : Nat → Nat} {w S : Nat} : ∀ n, n ≤ S → ∀ k, (sfF dg w S n).testBit k = true ↔ (S - n ≤ k ∧ k < S) ∧ dg k = w + 1
  | 0, _, k => by
    rw [show sfF dg w S 0 = 0 from rfl, Nat.zero_testBit]
    exact ⟨fun z => absurd z (by decide), fun z => absurd z.1 (by omega)⟩
  | n + 1, hn, k => by
    have ih := sfF_bit (dg := dg) (w := w) (S := S) n (by omega) k
    rw [show sfF dg w S (n + 1) = if dg (S - (n + 1)) = w + 1 then sfF dg w S n ||| 2 ^ (S - (n + 1)) else sfF dg w S n from rfl]
    by_cases e : dg (S - (n + 1)) = w + 1
    · rw [if_pos e, Nat.testBit_or, Bool.or_eq_true, ih, Nat.testBit_two_pow, decide_eq_true_iff]
      constructor
      · rintro (h | h)
        · exact ⟨by omega, h.2⟩
        · rw [← h]
          exact ⟨by omega, e⟩
      · intro h
        by_cases ek : k = S - (n + 1)
        · exact Or.inr ek.symm
        · exact Or.inl ⟨by omega, h.2⟩
    · rw [if_neg e, ih]
      constructor
      · intro h
        exact ⟨by omega, h.2⟩
      · intro h
        by_cases ek : k = S - (n + 1)
        · rw [ek] at h
          exact absurd h.2 e
        · exact ⟨by omega, h.2⟩
theorem sfF_lt {dg : Nat → Nat} {w S : Nat} (hS : S ≤ 6) : ∀ n, n ≤ S → sfF dg w S n < 64
  | 0, _ => (show (0 : Nat) < 64 by decide)
  | n + 1, h => by
    have := sfF_lt (dg := dg) (w := w) hS n (by omega)
    rw [show sfF dg w S (n + 1) = if dg (S - (n + 1)) = w + 1 then sfF dg w S n ||| 2 ^ (S - (n + 1)) else sfF dg w S n from rfl]
    split
    · exact b_or_lt _ this _ (by omega)
    · exact this
theorem sfF_all {dg : Nat → Nat} {w S : Nat} : sfF dg w S S = ssF dg w S := by
  apply Nat.eq_of_testBit_eq
  intro k
  rw [Bool.eq_iff_iff, sfF_bit S (Nat.le_refl S) k, ssF_bit S k]
  exact ⟨fun h => ⟨h.1.2, h.2⟩, fun h => ⟨⟨by omega, h.1⟩, h.2⟩⟩
/-- what the reference has when it lays rows -/
abbrev RwH (A0 : IT) (can : Nat → Nat) (tg : Nat → Bool) (S N : Nat) (z1 z2 : Nat) : Prop := (S ≤ 6) ∧ (N ≤ 3) ∧ (A0 (44, 0) 3 = nJ S) ∧ (A0 (44, 0) 4 = nJ N) ∧ (A0 (44, 0) 6 = nJ z1) ∧ (A0 (44, 0) 7 = nJ z2) ∧ (z1 < 64) ∧ (z2 < 64) ∧ (∀ w, w < N → opF (A0 (51, 0)) (nJ w) (z1 ||| z2) S = can w) ∧ (∀ w, w < N → can w < 64) ∧ (∀ w, w < N → (A0 (54, 0) w = 0) = (tg w = true)) ∧ (∀ w, w < N → ¬ A0 (53, 0) w = -1)
theorem RwH.s6 {A0 : IT} {can : Nat → Nat} {tg : Nat → Bool} {S N : Nat} {z1 z2 : Nat} (h : RwH A0 can tg S N z1 z2) : S ≤ 6 := h.1
theorem RwH.n3 {A0 : IT} {can : Nat → Nat} {tg : Nat → Bool} {S N : Nat} {z1 z2 : Nat} (h : RwH A0 can tg S N z1 z2) : N ≤ 3 := h.2.1
theorem RwH.m3 {A0 : IT} {can : Nat → Nat} {tg : Nat → Bool} {S N : Nat} {z1 z2 : Nat} (h : RwH A0 can tg S N z1 z2) : A0 (44, 0) 3 = nJ S := h.2.2.1
theorem RwH.m4 {A0 : IT} {can : Nat → Nat} {tg : Nat → Bool} {S N : Nat} {z1 z2 : Nat} (h : RwH A0 can tg S N z1 z2) : A0 (44, 0) 4 = nJ N := h.2.2.2.1
theorem RwH.y1 {A0 : IT} {can : Nat → Nat} {tg : Nat → Bool} {S N : Nat} {z1 z2 : Nat} (h : RwH A0 can tg S N z1 z2) : A0 (44, 0) 6 = nJ z1 := h.2.2.2.2.1
theorem RwH.y2 {A0 : IT} {can : Nat → Nat} {tg : Nat → Bool} {S N : Nat} {z1 z2 : Nat} (h : RwH A0 can tg S N z1 z2) : A0 (44, 0) 7 = nJ z2 := h.2.2.2.2.2.1
theorem RwH.l1 {A0 : IT} {can : Nat → Nat} {tg : Nat → Bool} {S N : Nat} {z1 z2 : Nat} (h : RwH A0 can tg S N z1 z2) : z1 < 64 := h.2.2.2.2.2.2.1
theorem RwH.l2 {A0 : IT} {can : Nat → Nat} {tg : Nat → Bool} {S N : Nat} {z1 z2 : Nat} (h : RwH A0 can tg S N z1 z2) : z2 < 64 := h.2.2.2.2.2.2.2.1
theorem RwH.ca {A0 : IT} {can : Nat → Nat} {tg : Nat → Bool} {S N : Nat} {z1 z2 : Nat} (h : RwH A0 can tg S N z1 z2) : ∀ w, w < N → opF (A0 (51, 0)) (nJ w) (z1 ||| z2) S = can w := h.2.2.2.2.2.2.2.2.1
theorem RwH.cl {A0 : IT} {can : Nat → Nat} {tg : Nat → Bool} {S N : Nat} {z1 z2 : Nat} (h : RwH A0 can tg S N z1 z2) : ∀ w, w < N → can w < 64 := h.2.2.2.2.2.2.2.2.2.1
theorem RwH.to {A0 : IT} {can : Nat → Nat} {tg : Nat → Bool} {S N : Nat} {z1 z2 : Nat} (h : RwH A0 can tg S N z1 z2) : ∀ w, w < N → (A0 (54, 0) w = 0) = (tg w = true) := h.2.2.2.2.2.2.2.2.2.2.1
theorem RwH.pl {A0 : IT} {can : Nat → Nat} {tg : Nat → Bool} {S N : Nat} {z1 z2 : Nat} (h : RwH A0 can tg S N z1 z2) : ∀ w, w < N → ¬ A0 (53, 0) w = -1 := h.2.2.2.2.2.2.2.2.2.2.2
/-- a place of the row that can be -/
def gdF (can : Nat → Nat) (tg : Nat → Bool) (dg : Nat → Nat) (k : Nat) : Prop := dg k ≠ 0 → tg (dg k - 1) = true ∧ (can (dg k - 1)).testBit k = true
def RwS (A0 A : IT) (dg : Nat → Nat) (S N n : Nat) : Prop := (∀ a : Ad, a ≠ (82, 0) → a ≠ (84, 0) → A a = A0 a) ∧ (∀ k, S - n ≤ k → k < S → A (82, 0) k = dv (dg k)) ∧ (∀ w, w < N → A (84, 0) w = nJ (sfF dg w S n))
theorem row28 {A0 : IT} {B : JT} {can : Nat → Nat} {tg : Nat → Bool} {S N z1 z2 code : Nat} {dg : Nat → Nat} (d : Nat) (h : RwH A0 can tg S N z1 z2) (hdg : ∀ k, k < S → dg k = code / (N + 1) ^ (S - 1 - k) % (N + 1)) (hcode : code < 100000) : ∀ j n A, n + j = S → RwS A0 A dg S N n → ∃ A', (∀ a : Ad, a ≠ (82, 0) → a ≠ (84, 0) → A' a = A0 a) ∧ (((∃ k, k < j ∧ ¬ gdF can tg dg k) ∧ ev (d + 2) mMo_laysRow 28 [vR (43, 0), vU, vI (nJ (N + 1)), vI (nJ (code / (N + 1) ^ n)), vI (nJ j - 1), vU] [] (hh A B) = some (some (vI 0), hh A' B)) ∨ ((∀ k, k < j → gdF can tg dg k) ∧ RwS A0 A' dg S N S ∧ ev (d + 2) mMo_laysRow 28 [vR (43, 0), vU, vI (nJ (N + 1)), vI (nJ (code / (N + 1) ^ n)), vI (nJ j - 1), vU] [] (hh A B) = ev (d + 2) mMo_laysRow 75 [vR (43, 0), vU, vU, vU, vI 0, vU] [] (hh A' B))) := by
  obtain ⟨hS, hN, m3, m4, y1, y2, l1, l2, ca, cl, to, pl⟩ := h
  intro j
  induction j with
  | zero =>
    intro n A hn hs
    obtain rfl : n = S := by omega
    refine ⟨A, hs.1, Or.inr ⟨fun k hk => by omega, hs, ?_⟩⟩
    rw [eMo_laysRow_28, if_pos (show nJ 0 - 1 < 0 by decide)]
  | succ j ih =>
    intro n A hn hs
    have hjS : j < S := by omega
    have ej : nJ (j + 1) - 1 = nJ j := nJ_sub (a := j + 1) (b := 1) (by omega)
    have hjd : dg j = code / (N + 1) ^ n % (N + 1) := by
      rw [hdg j hjS]
      congr 3
      omega
    have hq : code / (N + 1) ^ n < 100000 := Nat.lt_of_le_of_lt (Nat.div_le_self _ _) hcode
    have hdj : dg j < N + 1 := by rw [hjd]; exact Nat.mod_lt _ (by omega)
    have hdiv : code / (N + 1) ^ n / (N + 1) = code / (N + 1) ^ (n + 1) := by rw [Nat.div_div_eq_div_mul, Nat.pow_succ]
    have hm1 : nJ j + (-1) = nJ j - 1 := by
      rw [i_eq, i_add (by rw [nJ_int (by omega)]; have : (-1 : Int32).toInt = -1 := rfl; omega), i_sub (by rw [nJ_int (by omega)]; have : (1 : Int32).toInt = 1 := rfl; omega)]
      have h1 : (-1 : Int32).toInt = -1 := rfl
      have h2 : (1 : Int32).toInt = 1 := rfl
      omega
    have hSn : S - (n + 1) = j := by omega
    rw [eMo_laysRow_28, ej, if_neg (nJ_nn (by omega)), if_neg (ne_nL (b := 0) (by omega) (by omega) (by decide)), if_neg (ne_nL (b := 0) (by omega) (by omega) (by decide)), bnd (show j < 6 by omega) (by omega), nJ_mod hq (show N + 1 < 100000 by omega), nJ_div hq (show N + 1 < 100000 by omega), ← hjd, hdiv, nJ_nat (show j < 2147483648 by omega), hm1]
    have hfr1 : ∀ a : Ad, a ≠ (82, 0) → a ≠ (84, 0) → up2 A (82, 0) j (dv (dg j)) a = A0 a := fun a a1 a2 => (funext fun i => up_ne _ _ _ _ a1).trans (hs.1 a a1 a2)
    by_cases h0 : dg j = 0
    · rw [if_pos (Eq.mpr (dv_m1 (show dg j ≤ 1000 by omega)) h0)]
      have hs1 : RwS A0 (up2 A (82, 0) j (dv (dg j))) dg S N (n + 1) := by
        refine ⟨hfr1, fun k k1 k2 => ?_, fun w hw => ?_⟩
        · by_cases e : k = j
          · rw [e, up_same]
          · rw [up_neK _ _ e]
            exact hs.2.1 k (by omega) k2
        · rw [up_ne _ _ _ _ (by decide), hs.2.2 w hw, show sfF dg w S (n + 1) = if dg (S - (n + 1)) = w + 1 then sfF dg w S n ||| 2 ^ (S - (n + 1)) else sfF dg w S n from rfl, hSn, if_neg (by omega)]
      obtain ⟨A', a1, a2⟩ := ih (n + 1) _ (by omega) hs1
      refine ⟨A', a1, ?_⟩
      rcases a2 with ⟨⟨k, hk, hg⟩, a3⟩ | ⟨hg, a3, a4⟩
      · exact Or.inl ⟨⟨k, by omega, hg⟩, a3⟩
      · refine Or.inr ⟨fun k hk => ?_, a3, a4⟩
        by_cases e : k = j
        · rw [e]
          exact fun z => absurd h0 z
        · exact hg k (by omega)
    · have hw : dg j - 1 < N := by omega
      have edv : dv (dg j) = nJ (dg j - 1) := by
        unfold dv
        rw [if_neg h0]
      have g54 : up2 A (82, 0) j (nJ (dg j - 1)) (54, 0) = A0 (54, 0) := by rw [← edv]; exact hfr1 _ (by decide) (by decide)
      have g53 : up2 A (82, 0) j (nJ (dg j - 1)) (53, 0) = A0 (53, 0) := by rw [← edv]; exact hfr1 _ (by decide) (by decide)
      have g44 : up2 A (82, 0) j (nJ (dg j - 1)) (44, 0) = A0 (44, 0) := by rw [← edv]; exact hfr1 _ (by decide) (by decide)
      have g51 : up2 A (82, 0) j (nJ (dg j - 1)) (51, 0) = A0 (51, 0) := by rw [← edv]; exact hfr1 _ (by decide) (by decide)
      rw [if_neg (fun z => h0 (Eq.mp (dv_m1 (show dg j ≤ 1000 by omega)) z)), edv, mTownOf _ _ (show dg j - 1 < 3 by omega), bI_some, gI_hh, gJ_hh, g54, g53]
      by_cases ht : A0 (54, 0) (dg j - 1) = 0
      · have htg := Eq.mp (to _ hw) ht
        have hcg := mCould (A := up2 A (82, 0) j (nJ (dg j - 1))) (B := B) d (nJ (dg j - 1)) hS (by rw [g44]; exact m3) (by rw [g44]; exact y1) (by rw [g44]; exact y2) l1 l2
        rw [g51, ca _ hw] at hcg
        rw [if_pos ht, if_neg (pl _ hw), hcg, bI_some, gI_hh, gJ_hh, mHas _ _ _ (cl _ hw) (show j < 6 by omega), bI_some, bif2, gI_hh, gJ_hh, bnd (show dg j - 1 < 3 by omega) (by omega), bnd (show dg j - 1 < 3 by omega) (by omega), nJ_nat (show dg j - 1 < 2147483648 by omega)]
        cases hb : (can (dg j - 1)).testBit j with
        | false =>
          rw [if_neg (show ¬ false = true by decide)]
          refine ⟨up2 A (82, 0) j (nJ (dg j - 1)), by rw [← edv]; exact hfr1, Or.inl ⟨⟨j, by omega, fun z => ?_⟩, rfl⟩⟩
          have := (z h0).2
          rw [hb] at this
          cases this
        | true =>
          have e84 : up2 A (82, 0) j (nJ (dg j - 1)) (84, 0) (dg j - 1) = nJ (sfF dg (dg j - 1) S n) := (up_ne _ _ _ _ (by decide)).trans (hs.2.2 _ hw)
          have hlt := sfF_lt (dg := dg) (w := dg j - 1) hS n (by omega)
          rw [if_pos rfl, e84, b_or _ hlt j (by omega)]
          have hs1 : RwS A0 (up2 (up2 A (82, 0) j (nJ (dg j - 1))) (84, 0) (dg j - 1) (nJ (sfF dg (dg j - 1) S n ||| 2 ^ j))) dg S N (n + 1) := by
            refine ⟨fun a a1 a2 => (funext fun i => up_ne _ _ _ _ a2).trans (by rw [← edv]; exact hfr1 a a1 a2), fun k k1 k2 => ?_, fun w hw' => ?_⟩
            · rw [up_ne _ _ _ _ (by decide)]
              by_cases e : k = j
              · rw [e, up_same, edv]
              · rw [up_neK _ _ e]
                exact hs.2.1 k (by omega) k2
            · rw [show sfF dg w S (n + 1) = if dg (S - (n + 1)) = w + 1 then sfF dg w S n ||| 2 ^ (S - (n + 1)) else sfF dg w S n from rfl, hSn]
              by_cases e : w = dg j - 1
              · rw [e, up_same, if_pos (by omega)]
              · rw [up_neK _ _ e, up_ne _ _ _ _ (by decide), if_neg (by omega)]
                exact hs.2.2 w hw'
          obtain ⟨A', a1, a2⟩ := ih (n + 1) _ (by omega) hs1
          refine ⟨A', a1, ?_⟩
          rcases a2 with ⟨⟨k, hk, hg⟩, a3⟩ | ⟨hg, a3, a4⟩
          · exact Or.inl ⟨⟨k, by omega, hg⟩, a3⟩
          · refine Or.inr ⟨fun k hk => ?_, a3, a4⟩
            by_cases e : k = j
            · rw [e]
              exact fun _ => ⟨htg, hb⟩
            · exact hg k (by omega)
      · rw [if_neg ht, if_pos rfl]
        refine ⟨up2 A (82, 0) j (nJ (dg j - 1)), by rw [← edv]; exact hfr1, Or.inl ⟨⟨j, by omega, fun z => ?_⟩, rfl⟩⟩
        exact ht (Eq.mpr (to _ hw) (z h0).1)
