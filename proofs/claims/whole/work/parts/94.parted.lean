/-! PARTED: rows of digits, a digit for each sentence: 0 nobody, w + 1 a walker -/
def dv (d : Nat) : Int32 := if d = 0 then -1 else nJ (d - 1)
def ssF (dg : Nat → Nat) (w : Nat) : Nat → Nat
  | 0 => 0
  | k + 1 => if dg k = w + 1 then ssF dg w k ||| 2 ^ k else ssF dg w k
theorem ssF_lt {dg : Nat → Nat} {w : Nat} : ∀ n, n ≤ 6 → ssF dg w n < 64
  | 0, _ => (show (0 : Nat) < 64 by decide)
  | n + 1, h => by
    unfold ssF
    have := ssF_lt (dg := dg) (w := w) n (by omega)
    split
    · exact b_or_lt _ this n (by omega)
    · exact this
theorem ssF_bit {dg : Nat → Nat} {w : Nat} : ∀ n k, (ssF dg w n).testBit k = true ↔ k < n ∧ dg k = w + 1
  | 0, k => by
    rw [show ssF dg w 0 = 0 from rfl, Nat.zero_testBit]
    exact ⟨fun z => absurd z (by decide), fun z => absurd z.1 (by omega)⟩
  | n + 1, k => by
    have ih := ssF_bit (dg := dg) (w := w) n k
    unfold ssF
    by_cases e : dg n = w + 1
    · rw [if_pos e, Nat.testBit_or, Bool.or_eq_true, ih, Nat.testBit_two_pow, decide_eq_true_iff]
      constructor
      · rintro (h | h)
        · exact ⟨by omega, h.2⟩
        · rw [← h]
          exact ⟨by omega, e⟩
      · intro h
        by_cases ek : k = n
        · exact Or.inr ek.symm
        · exact Or.inl ⟨by omega, h.2⟩
    · rw [if_neg e, ih]
      constructor
      · intro h
        exact ⟨by omega, h.2⟩
      · intro h
        by_cases ek : k = n
        · rw [ek] at h
          exact absurd h.2 e
        · exact ⟨by omega, h.2⟩
theorem ssF_ext {dg dg' : Nat → Nat} {w : Nat} : ∀ n, (∀ k, k < n → dg k = dg' k) → ssF dg w n = ssF dg' w n
  | 0, _ => rfl
  | n + 1, h => by
    unfold ssF
    rw [ssF_ext n (fun k hk => h k (by omega)), h n (by omega)]
def feF (fee : Nat → Nat) (dg : Nat → Nat) : Nat → Nat
  | 0 => 0
  | k + 1 => if dg k = 0 then feF fee dg k else feF fee dg k + fee k
theorem feF_ext {fee dg dg' : Nat → Nat} : ∀ n, (∀ k, k < n → dg k = dg' k) → feF fee dg n = feF fee dg' n
  | 0, _ => rfl
  | n + 1, h => by
    unfold feF
    rw [feF_ext n (fun k hk => h k (by omega)), h n (by omega)]
def okc (fit : Nat → Nat → Bool) (dg : Nat → Nat) : Nat → Bool
  | 0 => true
  | k + 1 => okc fit dg k && (decide (dg k = 0) || fit (dg k - 1) (ssF dg (dg k - 1) (k + 1)))
theorem okc_ext {fit : Nat → Nat → Bool} {dg dg' : Nat → Nat} : ∀ n, (∀ k, k < n → dg k = dg' k) → okc fit dg n = okc fit dg' n
  | 0, _ => rfl
  | n + 1, h => by
    unfold okc
    rw [okc_ext n (fun k hk => h k (by omega)), h n (by omega), ssF_ext (n + 1) h]
theorem okc_le {fit : Nat → Nat → Bool} {dg : Nat → Nat} {m : Nat} : ∀ n, m ≤ n → okc fit dg n = true → okc fit dg m = true
  | 0, h, h' => by
    obtain rfl : m = 0 := by omega
    exact h'
  | n + 1, h, h' => by
    by_cases e : m = n + 1
    · rw [e]
      exact h'
    · unfold okc at h'
      rw [Bool.and_eq_true] at h'
      exact okc_le n (by omega) h'.1
theorem okc_iff {fit : Nat → Nat → Bool} {dg : Nat → Nat} : ∀ n, okc fit dg n = true ↔ ∀ k, k < n → dg k ≠ 0 → fit (dg k - 1) (ssF dg (dg k - 1) (k + 1)) = true
  | 0 => ⟨fun _ k hk => by omega, fun _ => rfl⟩
  | n + 1 => by
    unfold okc
    rw [Bool.and_eq_true, okc_iff n, Bool.or_eq_true, decide_eq_true_iff]
    constructor
    · rintro ⟨h1, h2⟩ k hk h0
      by_cases e : k = n
      · rw [e] at h0 ⊢
        exact h2.resolve_left h0
      · exact h1 k (by omega) h0
    · intro h
      refine ⟨fun k hk => h k (by omega), ?_⟩
      by_cases e : dg n = 0
      · exact Or.inl e
      · exact Or.inr (h n (by omega) e)
/-- how many fees are left from k on -/
def lfF (fee : Nat → Nat) (S k : Nat) : Nat := sumT fee S - sumT fee k
theorem sumT_le {f : Nat → Nat} : ∀ m n, m ≤ n → sumT f m ≤ sumT f n
  | m, 0, h => by
    obtain rfl : m = 0 := by omega
    exact Nat.le_refl _
  | m, n + 1, h => by
    by_cases e : m = n + 1
    · rw [e]
      exact Nat.le_refl _
    · have := sumT_le (f := f) m n (by omega)
      show sumT f m ≤ sumT f n + f n
      omega
theorem feF_le {fee dg : Nat → Nat} {k : Nat} : ∀ n, k ≤ n → feF fee dg n ≤ feF fee dg k + (sumT fee n - sumT fee k)
  | 0, h => by
    obtain rfl : k = 0 := by omega
    exact Nat.le_add_right _ _
  | n + 1, h => by
    by_cases e : k = n + 1
    · rw [e]
      exact Nat.le_add_right _ _
    · have ih := feF_le (fee := fee) (dg := dg) (k := k) n (by omega)
      have := sumT_le (f := fee) k n (by omega)
      have e1 : feF fee dg (n + 1) = if dg n = 0 then feF fee dg n else feF fee dg n + fee n := rfl
      have e2 : sumT fee (n + 1) = sumT fee n + fee n := rfl
      rw [e1, e2]
      split <;> omega
abbrev PtT : Type := Nat × (Nat → Int32)
/-- a row tried -/
def lfp (fit : Nat → Nat → Bool) (fee : Nat → Nat) (S : Nat) (dg : Nat → Nat) (st : PtT) : PtT := if okc fit dg S = true ∧ st.1 < feF fee dg S + 1 then (feF fee dg S + 1, fun k => if k < S then dv (dg k) else 0) else st
def itr {α : Type} (f : Nat → α → α) : Nat → α → α
  | 0, a => a
  | n + 1, a => f n (itr f n a)
def dgU (dg : Nat → Nat) (k v : Nat) : Nat → Nat := fun j => if j = k then v else dg j
def DFp (lf : (Nat → Nat) → PtT → PtT) (S N : Nat) : Nat → (Nat → Nat) → PtT → PtT
  | 0, dg, st => lf dg st
  | n + 1, dg, st => itr (fun v st => DFp lf S N n (dgU dg (S - (n + 1)) v) st) (N + 1) st
theorem itr_id {α : Type} {f : Nat → α → α} {a : α} : ∀ n, (∀ i, i < n → f i a = a) → itr f n a = a
  | 0, _ => rfl
  | n + 1, h => by
    unfold itr
    rw [itr_id n (fun i hi => h i (by omega)), h n (by omega)]
theorem itr_ext {α : Type} {f g : Nat → α → α} {a : α} : ∀ n, (∀ i, i < n → ∀ x, f i x = g i x) → itr f n a = itr g n a
  | 0, _ => rfl
  | n + 1, h => by
    unfold itr
    rw [itr_ext n (fun i hi => h i (by omega)), h n (by omega)]
theorem itr_add {α : Type} {f : Nat → α → α} {a : α} {m : Nat} : ∀ n, itr f (m + n) a = itr (fun i => f (m + i)) n (itr f m a)
  | 0 => rfl
  | n + 1 => by
    show f (m + n) (itr f (m + n) a) = f (m + n) _
    rw [itr_add n]
theorem itr_mul {α : Type} {f : Nat → α → α} {b : Nat} : ∀ n (a : α), itr f (n * b) a = itr (fun i x => itr (fun j => f (i * b + j)) b x) n a
  | 0, a => by rw [Nat.zero_mul]; rfl
  | n + 1, a => by
    rw [Nat.succ_mul, itr_add, itr_mul n a]
    rfl
theorem DFp_id {lf : (Nat → Nat) → PtT → PtT} {S N : Nat} {st : PtT} : ∀ n dg, n ≤ S → (∀ dg', (∀ j, j < S - n → dg' j = dg j) → lf dg' st = st) → DFp lf S N n dg st = st
  | 0, dg, _, h => h dg (fun _ _ => rfl)
  | n + 1, dg, hn, h => by
    unfold DFp
    refine itr_id _ fun v _ => DFp_id n _ (by omega) fun dg' h' => h dg' fun j hj => ?_
    rw [h' j (by omega)]
    unfold dgU
    rw [if_neg (by omega)]
/-- digits of a number behind those that stand -/
def dgc (S N n : Nat) (dg : Nat → Nat) (c : Nat) : Nat → Nat := fun k => if k < S - n then dg k else c / (N + 1) ^ (S - 1 - k) % (N + 1)
theorem DFp_itr {lf : (Nat → Nat) → PtT → PtT} {S N : Nat} (hlf : ∀ dg dg' st, (∀ k, k < S → dg k = dg' k) → lf dg st = lf dg' st) : ∀ n dg st, n ≤ S → DFp lf S N n dg st = itr (fun c st => lf (dgc S N n dg c) st) ((N + 1) ^ n) st
  | 0, dg, st, _ => by
    show lf dg st = lf (dgc S N 0 dg 0) st
    exact hlf _ _ _ fun k hk => by
      unfold dgc
      rw [if_pos (by omega)]
  | n + 1, dg, st, hn => by
    have hp : (N + 1) ^ (n + 1) = (N + 1) * (N + 1) ^ n := by rw [Nat.pow_succ, Nat.mul_comm]
    rw [hp, itr_mul]
    unfold DFp
    refine itr_ext _ fun v hv x => ?_
    rw [DFp_itr hlf n _ x (by omega)]
    refine itr_ext _ fun c hc y => hlf _ _ _ fun k hk => ?_
    unfold dgc dgU
    by_cases h1 : k < S - (n + 1)
    · rw [if_pos h1, if_pos (by omega), if_neg (by omega)]
    · rw [if_neg h1]
      have hpos : 0 < (N + 1) ^ n := Nat.pow_pos (Nat.succ_pos N)
      by_cases h2 : k = S - (n + 1)
      · rw [if_pos (by omega), if_pos h2, h2]
        have e : S - 1 - (S - (n + 1)) = n := by omega
        rw [e, Nat.add_comm, Nat.add_mul_div_right _ _ hpos, Nat.div_eq_of_lt hc, Nat.zero_add, Nat.mod_eq_of_lt hv]
      · rw [if_neg (by omega)]
        obtain ⟨m, hm⟩ : ∃ m, n = (S - 1 - k) + 1 + m := ⟨n - (S - 1 - k) - 1, by omega⟩
        have e : v * (N + 1) ^ n + c = c + (N + 1) ^ (S - 1 - k) * ((N + 1) * ((N + 1) ^ m * v)) := by
          rw [hm, Nat.pow_add, Nat.pow_add, Nat.pow_one]
          have : v * ((N + 1) ^ (S - 1 - k) * (N + 1) * (N + 1) ^ m) = (N + 1) ^ (S - 1 - k) * ((N + 1) * ((N + 1) ^ m * v)) := by
            rw [Nat.mul_comm v, Nat.mul_assoc, Nat.mul_assoc]
          rw [this, Nat.add_comm]
        rw [e, Nat.add_mul_div_left _ _ (Nat.pow_pos (Nat.succ_pos N)), Nat.add_mul_mod_self_left]
