/-! LEAVES: small methods of both, as equations -/
theorem lt_nJ {a b : Nat} (h : a < b) (hb : b < 2147483648) : nJ a < nJ b := by
  rw [nJ_lt (by omega) hb]
  exact h
theorem nlt_nJ {a b : Nat} (h : b ≤ a) (ha : a < 2147483648) : ¬ nJ a < nJ b := by
  rw [nJ_lt ha (by omega)]
  omega
theorem ne_nJ {a b : Nat} (h : a ≠ b) (ha : a < 2147483648) (hb : b < 2147483648) : ¬ nJ a = nJ b := by
  rw [nJ_eq ha hb]
  exact h
theorem lt_nL {a b : Nat} (h : a < b) (hb : b < 2147483648) : nJ a < (OfNat.ofNat b : Int32) := lt_nJ h hb
theorem nlt_nL {a b : Nat} (h : b ≤ a) (ha : a < 2147483648) : ¬ nJ a < (OfNat.ofNat b : Int32) := nlt_nJ h ha
theorem lt_Ln {a b : Nat} (h : a < b) (hb : b < 2147483648) : (OfNat.ofNat a : Int32) < nJ b := lt_nJ h hb
theorem nlt_Ln {a b : Nat} (h : b ≤ a) (ha : a < 2147483648) : ¬ (OfNat.ofNat a : Int32) < nJ b := nlt_nJ h ha
theorem ne_nL {a b : Nat} (h : a ≠ b) (ha : a < 2147483648) (hb : b < 2147483648) : ¬ nJ a = (OfNat.ofNat b : Int32) := ne_nJ h ha hb
theorem nJ_nm1 {a : Nat} (ha : a < 2147483648) : ¬ nJ a = -1 := by
  rw [nJ_ne_neg ha]
  exact id
theorem nJ_nn {a : Nat} (ha : a < 2147483648) : ¬ nJ a < 0 := by
  rw [nJ_neg ha]
  exact id
theorem i10 : ((1 : Int32) = 0) = False := by decide
theorem i00 : ((0 : Int32) = 0) = True := by decide
/-- within 0 and below n -/
abbrev inn (x : Int32) (n : Nat) : Prop := ¬ x < 0 ∧ x < nJ n
theorem inn_ex {x : Int32} {n : Nat} (hn : n < 2147483648) (h : inn x n) : ∃ k, k < n ∧ x = nJ k := by
  obtain ⟨k, e, hk⟩ := nJ_ex hn h.1 h.2
  exact ⟨k, hk, e⟩
theorem inn_nJ {k n : Nat} (h : k < n) (hn : n < 2147483648) : inn (nJ k) n := ⟨nJ_nn (by omega), lt_nJ h hn⟩
theorem bif2 {α : Type} {p : Prop} [Decidable p] {a b : α} : (if (if p then (1 : Int32) else 0) = 0 then a else b) = if p then b else a := by
  by_cases h : p
  · rw [if_pos h, if_pos h, if_neg (by decide)]
  · rw [if_neg h, if_neg h, if_pos rfl]
theorem zo_if {α : Type} {p : Prop} [Decidable p] {o : Option α} : (if (if p then (1 : Int32) else 0) = 0 ∨ (if p then (1 : Int32) else 0) = 1 then o else none) = o := by
  by_cases h : p
  · rw [if_pos h]
    exact if_pos (Or.inr rfl)
  · rw [if_neg h]
    exact if_pos (Or.inl rfl)
theorem cIn {d : Nat} {x : Int32} {I : IT} {J : JT} {n : Nat} (f : Int32) (hf : f = nJ n) : (if x < 0 then some (some (vI 0), hh I J) else if x < f then some (some (vI 1), hh I J) else some (some (vI 0), hh I J)) = (some (some (vI (if inn x n then 1 else 0)), hh I J) : Option Rs) := by
  subst hf
  by_cases h0 : x < 0
  · rw [if_pos h0, if_neg (fun q => q.1 h0)]
  · by_cases h1 : x < nJ n
    · rw [if_neg h0, if_pos h1, if_pos ⟨h0, h1⟩]
    · rw [if_neg h0, if_neg h1, if_neg (fun q => h1 q.2)]
theorem cTown {I : IT} {J : JT} {T : Nat} (d : Nat) (x : Int32) (h : I (8, 0) 2 = nJ T) : ev d mPx_isTown 0 [vR (0, 0), vI x] [] (hh I J) = some (some (vI (if inn x T then 1 else 0)), hh I J) := by
  rw [ePx_isTown_0]
  exact cIn (d := d) _ h
theorem cSent {I : IT} {J : JT} {T : Nat} (d : Nat) (x : Int32) (h : I (8, 0) 3 = nJ T) : ev d mPx_isSentence 0 [vR (0, 0), vI x] [] (hh I J) = some (some (vI (if inn x T then 1 else 0)), hh I J) := by
  rw [ePx_isSentence_0]
  exact cIn (d := d) _ h
theorem cWalk {I : IT} {J : JT} {T : Nat} (d : Nat) (x : Int32) (h : I (8, 0) 4 = nJ T) : ev d mPx_isWalker 0 [vR (0, 0), vI x] [] (hh I J) = some (some (vI (if inn x T then 1 else 0)), hh I J) := by
  rw [ePx_isWalker_0]
  exact cIn (d := d) _ h
theorem mIn {I : IT} {J : JT} (d : Nat) (x lo hi : Int32) (L H : Int64) (hL : L = lo.toInt64) (hH : H = hi.toInt64) : ev d mMo_in 0 [vL x.toInt64, vU, vL L, vU, vL H, vU] [] (hh I J) = some (some (vI (if ¬ x < lo ∧ ¬ hi < x then 1 else 0)), hh I J) := by
  subst hL
  subst hH
  rw [eMo_in_0]
  simp only [cmp_lt, cmp_gt, l_lt]
  by_cases h0 : x < lo
  · rw [if_pos h0, if_neg (fun q => q.1 h0)]
  · by_cases h1 : hi < x
    · rw [if_neg h0, if_pos h1, if_neg (fun q => q.2 h1)]
    · rw [if_neg h0, if_neg h1, if_pos ⟨h0, h1⟩]
theorem inn_pred {x : Int32} {n : Nat} (hn : n < 1000000) : (¬ x < 0 ∧ ¬ nJ n - 1 < x) = inn x n := by
  have e : (nJ n - 1).toInt = n - 1 := by
    rw [i_sub]
    · rw [nJ_int (by omega)]
      rfl
    · rw [nJ_int (by omega)]
      have : (1 : Int32).toInt = 1 := rfl
      omega
  unfold inn
  simp only [i_lt, e, nJ_int (show n < 2147483648 by omega)]
  exact propext ⟨fun q => ⟨q.1, by omega⟩, fun q => ⟨q.1, by omega⟩⟩
theorem mTown {I : IT} {J : JT} {T : Nat} (d : Nat) (x : Int32) (h : I (44, 0) 1 = nJ T) (hT : T < 1000000) : ev (d + 1) mMo_isTown 0 [vR (43, 0), vI x] [] (hh I J) = some (some (vI (if inn x T then 1 else 0)), hh I J) := by
  rw [eMo_isTown_0, h, mIn d x 0 (nJ T - 1) 0 _ rfl rfl]
  simp only [bI_some, zo_if, inn_pred hT]
theorem mSent {I : IT} {J : JT} {T : Nat} (d : Nat) (x : Int32) (h : I (44, 0) 3 = nJ T) (hT : T < 1000000) : ev (d + 1) mMo_isSentence 0 [vR (43, 0), vI x] [] (hh I J) = some (some (vI (if inn x T then 1 else 0)), hh I J) := by
  rw [eMo_isSentence_0, h, mIn d x 0 (nJ T - 1) 0 _ rfl rfl]
  simp only [bI_some, zo_if, inn_pred hT]
theorem mWalk {I : IT} {J : JT} {T : Nat} (d : Nat) (x : Int32) (h : I (44, 0) 4 = nJ T) (hT : T < 1000000) : ev (d + 1) mMo_isWalker 0 [vR (43, 0), vI x] [] (hh I J) = some (some (vI (if inn x T then 1 else 0)), hh I J) := by
  rw [eMo_isWalker_0, h, mIn d x 0 (nJ T - 1) 0 _ rfl rfl]
  simp only [bI_some, zo_if, inn_pred hT]
/-! bits -/
theorem b_shr : ∀ z, z < 64 → ∀ k, k < 6 → ((nJ z >>> (nJ k &&& 31)) &&& 1) = nJ (bif z.testBit k then 1 else 0) := by decide +kernel
theorem b_and : ∀ z, z < 64 → ∀ k, k < 6 → (nJ z &&& (1 <<< (nJ k &&& 31))) = nJ (bif z.testBit k then 2 ^ k else 0) := by decide +kernel
theorem b_or : ∀ z, z < 64 → ∀ k, k < 6 → (nJ z ||| (1 <<< (nJ k &&& 31))) = nJ (z ||| 2 ^ k) := by decide +kernel
theorem b_or_lt : ∀ z, z < 64 → ∀ k, k < 6 → (z ||| 2 ^ k) < 64 := by decide +kernel
theorem b_clr : ∀ z, z < 64 → ∀ k, k < 6 → (nJ z &&& ((1 <<< (nJ k &&& 31)) ^^^ (-1))) = nJ (z &&& (63 ^^^ 2 ^ k)) := by decide +kernel
theorem b_clr_lt : ∀ z, z < 64 → ∀ k, k < 6 → (z &&& (63 ^^^ 2 ^ k)) < 64 := by decide +kernel
theorem b_or_t : ∀ z, z < 64 → ∀ k, k < 6 → ∀ j, j < 6 → (z ||| 2 ^ k).testBit j = (z.testBit j || Nat.beq j k) := by decide +kernel
theorem b_clr_t : ∀ z, z < 64 → ∀ k, k < 6 → ∀ j, j < 6 → (z &&& (63 ^^^ 2 ^ k)).testBit j = (z.testBit j && !Nat.beq j k) := by decide +kernel
/-- has, of a set and a place -/
theorem mHas {I : IT} {J : JT} (d z k : Nat) (hz : z < 64) (hk : k < 6) : ev d mMo_has 0 [vI (nJ z), vI (nJ k)] [] (hh I J) = some (some (vI (if z.testBit k = true then 1 else 0)), hh I J) := by
  rw [eMo_has_0, b_shr z hz k hk]
  cases z.testBit k <;> rfl
/-- their sentences, as bits -/
def hF (row : Nat → Int32) (w : Int32) : Nat → Int32
  | 0 => 0
  | k + 1 => hF row w k ||| (if row k = w then 1 <<< (nJ k &&& 31) else 0)
theorem held_go (d n : Nat) (w : Int32) (I : IT) (J : JT) : ∀ j k, k + j = 6 → ev d mWa_held 4 [vR (17, n), vI w, vI (hF (I (22, n)) w k), vI (nJ k)] [] (hh I J) = some (some (vI (hF (I (22, n)) w 6)), hh I J) := by
  intro j
  induction j with
  | zero =>
    intro k hk
    obtain rfl : k = 6 := by omega
    rw [eWa_held_4, if_neg (nlt_nL (b := 6) (Nat.le_refl 6) (by decide))]
  | succ j ih =>
    intro k hk
    have h1 := ih (k + 1) (by omega)
    rw [eWa_held_4, if_pos (lt_nL (b := 6) (show k < 6 by omega) (by decide)), bnd (by omega) (by omega), nJ_nat (by omega), nJ_succ]
    by_cases h : I (22, n) k = w
    · rw [if_pos h]
      simp only [hF, if_pos h] at h1 ⊢
      exact h1
    · rw [if_neg h]
      simp only [hF, if_neg h] at h1 ⊢
      exact h1
theorem cHeld (d n : Nat) (w : Int32) (I : IT) (J : JT) : ev d mWa_held 0 [vR (17, n), vI w, vU, vU] [] (hh I J) = some (some (vI (hF (I (22, n)) w 6)), hh I J) := by
  rw [eWa_held_0]
  exact held_go d n w I J 6 0 rfl
theorem theirs_go (d S : Nat) (w : Int32) (I : IT) (J : JT) (hS : I (44, 0) 3 = nJ S) (h6 : S ≤ 6) : ∀ j k, k + j = S → ev d mMo_theirs 4 [vR (43, 0), vI w, vI (hF (I (51, 0)) w k), vI (nJ k)] [] (hh I J) = some (some (vI (hF (I (51, 0)) w S)), hh I J) := by
  intro j
  induction j with
  | zero =>
    intro k hk
    obtain rfl : k = S := by omega
    rw [eMo_theirs_4, hS, if_neg (nlt_nJ (Nat.le_refl k) (by omega))]
  | succ j ih =>
    intro k hk
    have h1 := ih (k + 1) (by omega)
    rw [eMo_theirs_4, hS, if_pos (lt_nJ (show k < S by omega) (by omega)), bnd (by omega) (by omega), nJ_nat (by omega), nJ_succ]
    by_cases h : I (51, 0) k = w
    · rw [if_pos h]
      simp only [hF, if_pos h] at h1 ⊢
      exact h1
    · rw [if_neg h]
      simp only [hF, if_neg h] at h1 ⊢
      exact h1
theorem mTheirs (d S : Nat) (w : Int32) (I : IT) (J : JT) (hS : I (44, 0) 3 = nJ S) (h6 : S ≤ 6) : ev d mMo_theirs 0 [vR (43, 0), vI w, vU, vU] [] (hh I J) = some (some (vI (hF (I (51, 0)) w S)), hh I J) := by
  rw [eMo_theirs_0]
  exact theirs_go d S w I J hS h6 S 0 (by omega)
theorem or_zero32 (x : Int32) : x ||| 0 = x := Int32.or_zero
theorem hF_ext {r r' : Nat → Int32} {w : Int32} : ∀ n, (∀ k, k < n → r k = r' k) → hF r w n = hF r' w n
  | 0, _ => rfl
  | n + 1, h => by
    unfold hF
    rw [hF_ext n (fun k hk => h k (by omega)), h n (by omega)]
theorem hF_pad {r : Nat → Int32} {w : Int32} {S : Nat} : ∀ n, (∀ k, S ≤ k → k < S + n → r k ≠ w) → hF r w (S + n) = hF r w S
  | 0, _ => rfl
  | n + 1, h => by
    show hF r w (S + n) ||| (if r (S + n) = w then 1 <<< (nJ (S + n) &&& 31) else 0) = _
    rw [if_neg (h (S + n) (by omega) (by omega)), or_zero32]
    exact hF_pad n (fun k h1 h2 => h k h1 (by omega))
theorem hF_same {r r' : Nat → Int32} {w : Int32} {S : Nat} (hS : S ≤ 6) (h : ∀ k, k < S → r k = r' k) (hp : ∀ k, S ≤ k → k < 6 → r k ≠ w) : hF r w 6 = hF r' w S := by
  have e : S + (6 - S) = 6 := by omega
  have := hF_pad (r := r) (w := w) (S := S) (6 - S) (fun k h1 h2 => hp k h1 (by omega))
  rw [e] at this
  rw [← hF_ext S h, ← this]
