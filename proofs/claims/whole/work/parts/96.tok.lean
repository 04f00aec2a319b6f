/-! TOKENS -/
def rn (f : Nat → Bool) (n p : Nat) : Nat := if p < n ∧ f p = true then rn f n (p + 1) else p
termination_by n - p
theorem rn_go {f : Nat → Bool} {n p : Nat} (h1 : p < n) (h2 : f p = true) : rn f n p = rn f n (p + 1) := by
  rw [rn, if_pos ⟨h1, h2⟩]
theorem rn_stop {f : Nat → Bool} {n p : Nat} (h : ¬ (p < n ∧ f p = true)) : rn f n p = p := by
  rw [rn, if_neg h]
theorem rn_ge {f : Nat → Bool} {n : Nat} : ∀ j p, n - p = j → p ≤ rn f n p := by
  intro j
  induction j with
  | zero =>
    intro p hp
    rw [rn_stop (fun z => by omega)]
    exact Nat.le_refl p
  | succ j ih =>
    intro p hp
    by_cases h : p < n ∧ f p = true
    · rw [rn_go h.1 h.2]
      have := ih (p + 1) (by omega)
      omega
    · rw [rn_stop h]
      exact Nat.le_refl p
theorem rn_le {f : Nat → Bool} {n : Nat} : ∀ j p, n - p = j → p ≤ n → rn f n p ≤ n := by
  intro j
  induction j with
  | zero =>
    intro p hp h
    rw [rn_stop (fun z => by omega)]
    exact h
  | succ j ih =>
    intro p hp h
    by_cases h1 : p < n ∧ f p = true
    · rw [rn_go h1.1 h1.2]
      exact ih (p + 1) (by omega) (by omega)
    · rw [rn_stop h1]
      exact h
theorem rn_all {f : Nat → Bool} {n : Nat} : ∀ j p, n - p = j → ∀ q, p ≤ q → q < rn f n p → f q = true := by
  intro j
  induction j with
  | zero =>
    intro p hp q h1 h2
    rw [rn_stop (fun z => by omega)] at h2
    omega
  | succ j ih =>
    intro p hp q h1 h2
    by_cases h3 : p < n ∧ f p = true
    · rw [rn_go h3.1 h3.2] at h2
      by_cases e : q = p
      · rw [e]
        exact h3.2
      · exact ih (p + 1) (by omega) q (by omega) h2
    · rw [rn_stop h3] at h2
      omega
theorem rn_end {f : Nat → Bool} {n : Nat} : ∀ j p, n - p = j → rn f n p < n → f (rn f n p) = false := by
  intro j
  induction j with
  | zero =>
    intro p hp h
    rw [rn_stop (fun z => by omega)] at h
    omega
  | succ j ih =>
    intro p hp h
    by_cases h3 : p < n ∧ f p = true
    · rw [rn_go h3.1 h3.2] at h ⊢
      exact ih (p + 1) (by omega) h
    · rw [rn_stop h3] at h ⊢
      cases e : f p
      · rfl
      · exact absurd ⟨h, e⟩ h3
theorem rn_fix {f : Nat → Bool} {n p : Nat} : rn f n (rn f n p) = rn f n p := rn_stop fun z => by
  rw [rn_end _ p rfl z.1] at z
  cases z.2
/-- kinds of bytes: 1 letter, 2 digit, 3 sign, 4 blank -/
def kB (b : Nat) : Nat := if 97 ≤ b ∧ b ≤ 122 then 1 else if 48 ≤ b ∧ b ≤ 57 then 2 else if b = 32 then 4 else 3
theorem kB_or (b : Nat) : kB b = 1 ∨ kB b = 2 ∨ kB b = 3 ∨ kB b = 4 := by
  unfold kB
  split
  · exact Or.inl rfl
  · split
    · exact Or.inr (Or.inl rfl)
    · split
      · exact Or.inr (Or.inr (Or.inr rfl))
      · exact Or.inr (Or.inr (Or.inl rfl))
theorem kB4 {b : Nat} : kB b = 4 ↔ b = 32 := by
  unfold kB
  split
  · omega
  · split
    · omega
    · split <;> omega
def sbk (by_ : Nat → Nat) (n p : Nat) : Nat := rn (fun q => Nat.beq (by_ q) 32) n p
def enk (by_ : Nat → Nat) (n p : Nat) : Nat := if kB (by_ p) = 3 then (if (by_ p = 60 ∨ by_ p = 62) ∧ p + 1 < n ∧ by_ (p + 1) = 61 then p + 2 else p + 1) else rn (fun q => Nat.beq (kB (by_ q)) (kB (by_ p))) n (p + 1)
theorem enk_gt {by_ : Nat → Nat} {n p : Nat} : p < enk by_ n p := by
  unfold enk
  split
  · split <;> omega
  · have := rn_ge (f := fun q => Nat.beq (kB (by_ q)) (kB (by_ p))) (n := n) _ (p + 1) rfl
    omega
theorem enk_le {by_ : Nat → Nat} {n p : Nat} (hp : p < n) : enk by_ n p ≤ n := by
  unfold enk
  split
  · split <;> omega
  · exact rn_le _ (p + 1) rfl (by omega)
def tpk (by_ : Nat → Nat) (n : Nat) : Nat → Nat
  | 0 => sbk by_ n 0
  | i + 1 => sbk by_ n (enk by_ n (tpk by_ n i))
theorem sbk_blank {by_ : Nat → Nat} {n p : Nat} (hp : p < n) (h : by_ p = 32) : sbk by_ n (enk by_ n p) = sbk by_ n p := by
  have hk : kB (by_ p) = 4 := kB4.mpr h
  have e : enk by_ n p = sbk by_ n p := by
    unfold enk sbk
    rw [if_neg (by omega), rn_go (f := fun q => Nat.beq (by_ q) 32) hp (by show Nat.beq (by_ p) 32 = true; rw [h]; rfl), hk]
    congr 1
    funext q
    rw [Bool.eq_iff_iff, Nat.beq_eq, Nat.beq_eq]
    exact kB4
  rw [e]
  exact rn_fix
theorem sbk_non {by_ : Nat → Nat} {n p : Nat} (h : by_ p ≠ 32) : sbk by_ n p = p := rn_stop fun z => h (by
  have := z.2
  rw [Nat.beq_eq] at this
  exact this)
/-- the class's bytes -/
def BtC (I : IT) (by_ : Nat → Nat) (n : Nat) : Prop := n ≤ 400 ∧ I (1, 0) 1 = nJ n ∧ ∀ k, k < n → by_ k < 256 ∧ I (2, 0) k = nJ (by_ k)
def srF (x : Int32) : Int32 := if x < 97 then if x < 48 then if x = 32 then 4 else 3 else if (57 : Int32) < x then if x = 32 then 4 else 3 else 2 else if (122 : Int32) < x then if x < 48 then if x = 32 then 4 else 3 else if (57 : Int32) < x then if x = 32 then 4 else 3 else 2 else 1
theorem srF_ok : ∀ b, b < 256 → srF (nJ b) = nJ (kB b) := by decide +kernel
theorem cSort {I : IT} {J : JT} (d b : Nat) (hb : b < 256) : ev d mTe_sortOf 0 [vI (nJ b)] [] (hh I J) = some (some (vI (nJ (kB b))), hh I J) := by
  rw [eTe_sortOf_0, ← srF_ok b hb]
  unfold srF
  by_cases h5 : nJ b = 32
  · rw [h5]
    rfl
  · by_cases h1 : nJ b < 97 <;> by_cases h2 : nJ b < 48 <;> by_cases h3 : (57 : Int32) < nJ b <;> by_cases h4 : (122 : Int32) < nJ b <;> simp only [h1, h2, h3, h4, h5, if_true, if_false]
theorem kB_lt (b : Nat) : kB b < 5 := by
  have := kB_or b
  omega
theorem cStop {I : IT} {J : JT} {by_ : Nat → Nat} {n p : Nat} (d : Nat) (h : BtC I by_ n) (hp : p < n) : ev (d + 1) mTe_stopOf 0 [vR (1, 0), vI (nJ p), vU, vU, vU] [] (hh I J) = some (some (vI (nJ (enk by_ n p))), hh I J) := by
  obtain ⟨hn, e1, hb⟩ := h
  obtain ⟨b1, b2⟩ := hb p hp
  have hk := kB_lt (by_ p)
  have go : ∀ j q, n - q = j → q ≤ n → ev (d + 1) mTe_stopOf 47 [vR (1, 0), vU, vI (nJ (kB (by_ p))), vI (nJ q), vU] [] (hh I J) = some (some (vI (nJ (rn (fun q => Nat.beq (kB (by_ q)) (kB (by_ p))) n q))), hh I J) := by
    intro j
    induction j with
    | zero =>
      intro q hq hqn
      rw [rn_stop (fun z => by omega), eTe_stopOf_47, e1, if_neg (nlt_nJ (by omega) (by omega))]
    | succ j ih =>
      intro q hq hqn
      have hqn' : q < n := by omega
      obtain ⟨c1, c2⟩ := hb q hqn'
      have hk2 := kB_lt (by_ q)
      rw [eTe_stopOf_47, e1, if_pos (lt_nJ hqn' (by omega)), bnd (show q < 400 by omega) (by omega), nJ_nat (show q < 2147483648 by omega), c2, cSort d _ c1, bI_some, nJ_succ, gI_hh, gJ_hh]
      by_cases e : kB (by_ q) = kB (by_ p)
      · rw [if_pos (show nJ (kB (by_ q)) = nJ (kB (by_ p)) by rw [e]), ih (q + 1) (by omega) (by omega), rn_go (f := fun q => Nat.beq (kB (by_ q)) (kB (by_ p))) hqn' (by rw [e]; exact Nat.beq_refl _)]
      · rw [if_neg (ne_nJ e (by omega) (by omega)), rn_stop (fun z => e (by
          have := z.2
          rw [Nat.beq_eq] at this
          exact this))]
  have hs2 : (nJ p + 1) + 1 = nJ (p + 2) := by rw [nJ_succ, nJ_succ]
  rw [eTe_stopOf_0, bnd (show p < 400 by omega) (by omega), nJ_nat (show p < 2147483648 by omega), b2, cSort d _ b1, bI_some]
  simp only [gI_hh, gJ_hh, bnk (show p < 400 by omega) (by omega), b2, nJ_succ, e1, if_neg (show ¬ (1 : Int32) = 0 by decide)]
  unfold enk
  by_cases h3 : kB (by_ p) = 3
  · rw [if_pos (show nJ (kB (by_ p)) = 3 by rw [h3]; rfl), if_pos h3]
    have inner : (if nJ (p + 1) < nJ n then if nJ (p + 1) < 0 ∨ 400 ≤ (nJ (p + 1)).toNatClampNeg then none else if I (2, 0) (nJ (p + 1)).toNatClampNeg = 61 then some (some (vI (nJ (p + 2))), hh I J) else some (some (vI (nJ (p + 1))), hh I J) else some (some (vI (nJ (p + 1))), hh I J)) = (some (some (vI (nJ (if p + 1 < n ∧ by_ (p + 1) = 61 then p + 2 else p + 1))), hh I J) : Option Rs) := by
      by_cases h4 : p + 1 < n
      · obtain ⟨c1, c2⟩ := hb (p + 1) h4
        rw [if_pos (lt_nJ h4 (by omega)), bnd (show p + 1 < 400 by omega) (by omega), nJ_nat (show p + 1 < 2147483648 by omega), c2]
        by_cases h5 : by_ (p + 1) = 61
        · rw [if_pos (show nJ (by_ (p + 1)) = 61 by rw [h5]; rfl), if_pos ⟨h4, h5⟩]
        · rw [if_neg (ne_nL (b := 61) h5 (by omega) (by decide)), if_neg (fun z => h5 z.2)]
      · rw [if_neg (nlt_nJ (by omega) (by omega)), if_neg (fun z => h4 z.1)]
    by_cases h60 : by_ p = 60
    · rw [if_pos (show nJ (by_ p) = 60 by rw [h60]; rfl), inner]
      congr 5
      by_cases hc : p + 1 < n ∧ by_ (p + 1) = 61
      · rw [if_pos hc, if_pos ⟨Or.inl h60, hc⟩]
      · rw [if_neg hc, if_neg (fun z => hc z.2)]
    · rw [if_neg (ne_nL (b := 60) h60 (by omega) (by decide))]
      by_cases h62 : by_ p = 62
      · rw [if_pos (show nJ (by_ p) = 62 by rw [h62]; rfl), inner]
        congr 5
        by_cases hc : p + 1 < n ∧ by_ (p + 1) = 61
        · rw [if_pos hc, if_pos ⟨Or.inr h62, hc⟩]
        · rw [if_neg hc, if_neg (fun z => hc z.2)]
      · rw [if_neg (ne_nL (b := 62) h62 (by omega) (by decide)), if_neg (show ¬ ((by_ p = 60 ∨ by_ p = 62) ∧ p + 1 < n ∧ by_ (p + 1) = 61) from fun z => z.1.elim h60 h62)]
        rfl
  · rw [if_neg (ne_nL (b := 3) h3 (by omega) (by decide)), if_neg h3]
    exact go _ (p + 1) rfl (by omega)
/-- a number of digits -/
def nmF (by_ : Nat → Nat) (p : Nat) : Nat → Nat
  | 0 => 0
  | k + 1 => 10 * nmF by_ p k + (by_ (p + k) - 48)
theorem nmF_lt {by_ : Nat → Nat} {p : Nat} : ∀ k, (∀ i, i < k → by_ (p + i) ≤ 57) → nmF by_ p k < 10 ^ k
  | 0, _ => (show 0 < 10 ^ 0 by decide)
  | k + 1, h => by
    have h1 := nmF_lt (by_ := by_) (p := p) k (fun i hi => h i (by omega))
    have h2 := h k (by omega)
    unfold nmF
    rw [Nat.pow_succ]
    omega
def nvF (by_ : Nat → Nat) (n p : Nat) : Int32 := if 5 < enk by_ n p - p then -1 else nJ (nmF by_ p (enk by_ n p - p))
theorem dig_run {by_ : Nat → Nat} {n p : Nat} (hk : kB (by_ p) = 2) (i : Nat) (hi : p + i < enk by_ n p) : 48 ≤ by_ (p + i) ∧ by_ (p + i) ≤ 57 := by
  have d2 : ∀ b, kB b = 2 → 48 ≤ b ∧ b ≤ 57 := fun b hb => by
    unfold kB at hb
    split at hb
    · omega
    · split at hb
      · assumption
      · split at hb <;> omega
  by_cases e : i = 0
  · rw [e]
    exact d2 _ hk
  · unfold enk at hi
    rw [if_neg (by omega)] at hi
    have := rn_all _ (p + 1) rfl (p + i) (by omega) hi
    rw [Nat.beq_eq, hk] at this
    exact d2 _ this
theorem p10_5 {k : Nat} (h : k ≤ 5) : 10 ^ k ≤ 100000 := Nat.pow_le_pow_right (n := 10) (by decide) h
theorem dig_step {v b : Nat} (hv : v < 100000) (h1 : 48 ≤ b) (h2 : b ≤ 57) : ((nJ v * 10) + nJ b) - 48 = nJ (10 * v + (b - 48)) ∧ ((10 * nJ v) + nJ b) - 48 = nJ (10 * v + (b - 48)) := by
  have e : ∀ x, x = 10 * v → nJ x + nJ b - 48 = nJ (10 * v + (b - 48)) := fun x hx => by
    rw [hx, nJ_add]
    have := nJ_sub (a := 10 * v + b) (b := 48) (by omega)
    rw [show 10 * v + b - 48 = 10 * v + (b - 48) by omega] at this
    exact this
  refine ⟨?_, ?_⟩
  · rw [show nJ v * 10 = nJ (v * 10) from nJ_mul v 10]
    exact e _ (Nat.mul_comm _ _)
  · rw [show 10 * nJ v = nJ (10 * v) from nJ_mul 10 v]
    exact e _ rfl
theorem cNum {I : IT} {J : JT} {by_ : Nat → Nat} {n p : Nat} (d : Nat) (h : BtC I by_ n) (hp : p < n) (hk : kB (by_ p) = 2) : ev d mTe_numberOf 0 [vR (1, 0), vI (nJ p), vI (nJ (enk by_ n p)), vU, vU] [] (hh I J) = some (some (vI (nvF by_ n p)), hh I J) := by
  obtain ⟨hn, e1, hb⟩ := h
  have hg := enk_gt (by_ := by_) (n := n) (p := p)
  have hl := enk_le (by_ := by_) hp
  rw [eTe_numberOf_0, nJ_sub (show p ≤ enk by_ n p by omega)]
  unfold nvF
  by_cases h5 : 5 < enk by_ n p - p
  · rw [if_pos (lt_Ln (a := 5) h5 (by omega)), if_pos h5]
  · rw [if_neg (nlt_Ln (a := 5) (by omega) (by omega)), if_neg h5]
    have go : ∀ j k, k + j = enk by_ n p - p → ev d mTe_numberOf 11 [vR (1, 0), vU, vI (nJ (enk by_ n p)), vI (nJ (nmF by_ p k)), vI (nJ (p + k))] [] (hh I J) = some (some (vI (nJ (nmF by_ p (enk by_ n p - p)))), hh I J) := by
      intro j
      induction j with
      | zero =>
        intro k hk'
        obtain rfl : k = enk by_ n p - p := by omega
        rw [eTe_numberOf_11, if_neg (nlt_nJ (by omega) (by omega))]
      | succ j ih =>
        intro k hk'
        obtain ⟨c1, c2⟩ := hb (p + k) (by omega)
        obtain ⟨d1, d2⟩ := dig_run (n := n) hk k (by omega)
        have hv := nmF_lt (by_ := by_) (p := p) k (fun i hi => (dig_run (n := n) hk i (by omega)).2)
        have := p10_5 (show k ≤ 5 by omega)
        rw [eTe_numberOf_11, if_pos (lt_nJ (show p + k < enk by_ n p by omega) (by omega)), bnd (show p + k < 400 by omega) (by omega), nJ_nat (show p + k < 2147483648 by omega), c2, (dig_step (by omega) d1 d2).1, nJ_succ]
        exact ih (k + 1) (by omega)
    exact go (enk by_ n p - p) 0 (by omega)
