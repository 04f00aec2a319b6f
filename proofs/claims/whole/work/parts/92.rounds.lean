/-! ROUNDS: how long a set of sentences takes, as numbers -/
theorem sub_iff {t c : Nat} : t &&& c = t ↔ ∀ b, t.testBit b = true → c.testBit b = true := by
  constructor
  · intro h b hb
    have : (t &&& c).testBit b = true := by rw [h]; exact hb
    rw [Nat.testBit_and, Bool.and_eq_true] at this
    exact this.2
  · intro h
    apply Nat.eq_of_testBit_eq
    intro b
    rw [Nat.testBit_and]
    cases e : t.testBit b
    · rfl
    · rw [h b e]
      rfl
def rst (s k : Nat) : Nat := s &&& (63 ^^^ 2 ^ k)
theorem rst_lt : ∀ s, s < 64 → ∀ k, k < 6 → s.testBit k = true → rst s k < s := by decide +kernel
theorem rst_or : ∀ s, s < 64 → ∀ k, k < 6 → s.testBit k = true → rst s k ||| 2 ^ k = s := by decide +kernel
theorem rst_bit : ∀ s, s < 64 → ∀ k, k < 6 → ∀ j, j < 6 → (rst s k).testBit j = (s.testBit j && !Nat.beq j k) := by decide +kernel
theorem rst_of : ∀ s, s < 64 → ∀ k, k < 6 → s.testBit k = false → rst (s ||| 2 ^ k) k = s ∧ s ||| 2 ^ k < 64 ∧ (s ||| 2 ^ k).testBit k = true := by decide +kernel
theorem bit6 {s : Nat} (hs : s < 64) {b : Nat} (h : s.testBit b = true) : b < 6 := by
  by_cases hb : b < 6
  · exact hb
  · rw [Nat.testBit_lt_two_pow (Nat.lt_of_lt_of_le hs (show 2 ^ 6 ≤ 2 ^ b from Nat.pow_le_pow_right (by decide) (by omega)))] at h
    cases h
def mnF (g : Nat → Nat) (b : Nat) : Nat → Nat
  | 0 => b
  | n + 1 => min (mnF g b n) (g n)
theorem mnF_ext {g g' : Nat → Nat} {b : Nat} : ∀ n, (∀ i, i < n → g i = g' i) → mnF g b n = mnF g' b n
  | 0, _ => rfl
  | n + 1, h => by
    unfold mnF
    rw [mnF_ext n (fun i hi => h i (by omega)), h n (by omega)]
theorem mnF_le {g : Nat → Nat} {b : Nat} : ∀ n, mnF g b n ≤ b
  | 0 => Nat.le_refl _
  | n + 1 => by
    unfold mnF
    have := mnF_le (g := g) (b := b) n
    omega
theorem mnF_le2 {g : Nat → Nat} {b : Nat} : ∀ n i, i < n → mnF g b n ≤ g i
  | 0, i, h => by omega
  | n + 1, i, h => by
    unfold mnF
    by_cases e : i = n
    · subst e
      omega
    · have := mnF_le2 (g := g) (b := b) n i (by omega)
      omega
theorem le_mnF {g : Nat → Nat} {b x : Nat} : ∀ n, x ≤ b → (∀ i, i < n → x ≤ g i) → x ≤ mnF g b n
  | 0, h, _ => h
  | n + 1, h, h' => by
    unfold mnF
    have := le_mnF (g := g) n h (fun i hi => h' i (by omega))
    have := h' n (by omega)
    omega
theorem mnF_pad {g : Nat → Nat} {b S : Nat} : ∀ n, (∀ i, S ≤ i → i < S + n → b ≤ g i) → mnF g b (S + n) = mnF g b S
  | 0, _ => rfl
  | n + 1, h => by
    show min (mnF g b (S + n)) (g (S + n)) = _
    have h1 := h (S + n) (by omega) (by omega)
    have h2 := mnF_le (g := g) (b := b) (S + n)
    rw [mnF_pad n (fun i a1 a2 => h i a1 (by omega))] at h2 ⊢
    omega
theorem mnF_mono {f : Nat → Nat} (hf : ∀ x y, x ≤ y → f x ≤ f y) {g : Nat → Nat} {b : Nat} : ∀ n, f (mnF g b n) = mnF (fun i => f (g i)) (f b) n
  | 0 => rfl
  | n + 1 => by
    have ih := mnF_mono hf (g := g) (b := b) n
    unfold mnF
    rw [← ih]
    rcases Nat.le_total (mnF g b n) (g n) with h | h
    · have := hf _ _ h
      rw [Nat.min_eq_left h, Nat.min_eq_left this]
    · have := hf _ _ h
      rw [Nat.min_eq_right h, Nat.min_eq_right this]
/-- what a round is made of: day, due, the ways there, between, home, from where they are home, what they may go for -/
def RD : Type := Nat × (Nat → Nat) × (Nat → Nat) × (Nat → Nat → Nat) × (Nat → Nat) × Nat × Nat
def RD.day (R : RD) : Nat := R.1
def RD.due (R : RD) : Nat → Nat := R.2.1
def RD.w (R : RD) : Nat → Nat := R.2.2.1
def RD.dd (R : RD) : Nat → Nat → Nat := R.2.2.2.1
def RD.ho (R : RD) : Nat → Nat := R.2.2.2.2.1
def RD.hw (R : RD) : Nat := R.2.2.2.2.2.1
def RD.can (R : RD) : Nat := R.2.2.2.2.2.2
def RD.fl (R : RD) (k x : Nat) : Nat := if R.day + (x - 1) ≤ R.due k then x else 1000000
abbrev RD.Ok (R : RD) (S : Nat) : Prop := (S ≤ 6) ∧ (R.day < 1000) ∧ (∀ k, k < S → R.due k < 300) ∧ (R.can < 64) ∧ (∀ k, R.can.testBit k = true → k < S) ∧ (∀ k, k < S → R.w k = 1000000 ∨ R.w k < 2400) ∧ (∀ i k, i < S → k < S → R.dd i k = 1000000 ∨ R.dd i k < 2400) ∧ (∀ k, k < S → R.ho k = 1000000 ∨ R.ho k < 2400) ∧ (R.hw = 1000000 ∨ R.hw < 2400) ∧ (∀ i k, i < S → k < S → R.w k ≤ R.w i + R.dd i k) ∧ (∀ i j k, i < S → j < S → k < S → R.dd i k ≤ R.dd i j + R.dd j k) ∧ (∀ i k, i < S → k < S → R.ho i ≤ R.dd i k + R.ho k) ∧ (∀ k, k < S → R.hw ≤ R.w k + R.ho k)
theorem RD.Ok.s6 {R : RD} {S : Nat} (h : R.Ok S) : S ≤ 6 := h.1
theorem RD.Ok.day {R : RD} {S : Nat} (h : R.Ok S) : R.day < 1000 := h.2.1
theorem RD.Ok.due {R : RD} {S : Nat} (h : R.Ok S) : ∀ k, k < S → R.due k < 300 := h.2.2.1
theorem RD.Ok.can {R : RD} {S : Nat} (h : R.Ok S) : R.can < 64 := h.2.2.2.1
theorem RD.Ok.canS {R : RD} {S : Nat} (h : R.Ok S) : ∀ k, R.can.testBit k = true → k < S := h.2.2.2.2.1
theorem RD.Ok.w {R : RD} {S : Nat} (h : R.Ok S) : ∀ k, k < S → R.w k = 1000000 ∨ R.w k < 2400 := h.2.2.2.2.2.1
theorem RD.Ok.dd {R : RD} {S : Nat} (h : R.Ok S) : ∀ i k, i < S → k < S → R.dd i k = 1000000 ∨ R.dd i k < 2400 := h.2.2.2.2.2.2.1
theorem RD.Ok.ho {R : RD} {S : Nat} (h : R.Ok S) : ∀ k, k < S → R.ho k = 1000000 ∨ R.ho k < 2400 := h.2.2.2.2.2.2.2.1
theorem RD.Ok.hw {R : RD} {S : Nat} (h : R.Ok S) : R.hw = 1000000 ∨ R.hw < 2400 := h.2.2.2.2.2.2.2.2.1
theorem RD.Ok.t1 {R : RD} {S : Nat} (h : R.Ok S) : ∀ i k, i < S → k < S → R.w k ≤ R.w i + R.dd i k := h.2.2.2.2.2.2.2.2.2.1
theorem RD.Ok.t2 {R : RD} {S : Nat} (h : R.Ok S) : ∀ i j k, i < S → j < S → k < S → R.dd i k ≤ R.dd i j + R.dd j k := h.2.2.2.2.2.2.2.2.2.2.1
theorem RD.Ok.t3 {R : RD} {S : Nat} (h : R.Ok S) : ∀ i k, i < S → k < S → R.ho i ≤ R.dd i k + R.ho k := h.2.2.2.2.2.2.2.2.2.2.2.1
theorem RD.Ok.t4 {R : RD} {S : Nat} (h : R.Ok S) : ∀ k, k < S → R.hw ≤ R.w k + R.ho k := h.2.2.2.2.2.2.2.2.2.2.2.2
def Lw (R : RD) (s k : Nat) : Nat := if h : s < 64 ∧ k < 6 ∧ s.testBit k = true then (if s &&& R.can = s then R.fl k (if rst s k = 0 then R.w k else mnF (fun i => if (rst s k).testBit i = true then Lw R (rst s k) i + R.dd i k else 1000000) 1000000 6) else 1000000) else 1000000
termination_by s
decreasing_by exact rst_lt s h.1 k h.2.1 h.2.2
theorem Lw_eq (R : RD) {s k : Nat} (hs : s < 64) (hk : k < 6) (hb : s.testBit k = true) (hc : s &&& R.can = s) : Lw R s k = R.fl k (if rst s k = 0 then R.w k else mnF (fun i => if (rst s k).testBit i = true then Lw R (rst s k) i + R.dd i k else 1000000) 1000000 6) := by
  rw [Lw, dif_pos ⟨hs, hk, hb⟩, if_pos hc]
theorem Lw_no (R : RD) {s k : Nat} (h : ¬ (s.testBit k = true ∧ s &&& R.can = s)) : Lw R s k = 1000000 := by
  rw [Lw]
  by_cases h1 : s < 64 ∧ k < 6 ∧ s.testBit k = true
  · rw [dif_pos h1, if_neg (fun z => h ⟨h1.2.2, z⟩)]
  · rw [dif_neg h1]
theorem RD.Ok.fl_or {R : RD} {S : Nat} (h : R.Ok S) {k : Nat} (hk : k < S) (x : Nat) : R.fl k x = 1000000 ∨ (R.fl k x = x ∧ x ≤ 300) := by
  have := h.due k hk
  unfold RD.fl
  split <;> omega
theorem RD.Ok.fl_far {R : RD} {S : Nat} (h : R.Ok S) {k : Nat} (hk : k < S) {x : Nat} (hx : 1000000 ≤ x) : R.fl k x = 1000000 := by
  have := h.due k hk
  unfold RD.fl
  split <;> omega
theorem RD.Ok.fl_mono {R : RD} {S : Nat} (h : R.Ok S) {k : Nat} (hk : k < S) (x y : Nat) (hxy : x ≤ y) : R.fl k x ≤ R.fl k y := by
  have := h.due k hk
  unfold RD.fl
  split <;> split <;> omega
theorem RD.Ok.fl_ge {R : RD} {S : Nat} (h : R.Ok S) {k : Nat} (hk : k < S) {x : Nat} (hx : x ≤ 1000000) : x ≤ R.fl k x := by
  unfold RD.fl
  split <;> omega
theorem RD.Ok.L_or {R : RD} {S : Nat} (h : R.Ok S) (s k : Nat) : Lw R s k = 1000000 ∨ Lw R s k ≤ 300 := by
  by_cases hc : s.testBit k = true ∧ s &&& R.can = s
  · rw [Lw]
    split
    · rename_i h1
      rw [if_pos hc.2]
      have hk : k < S := h.canS k (sub_iff.mp hc.2 k hc.1)
      have := h.fl_or hk (if rst s k = 0 then R.w k else mnF (fun i => if (rst s k).testBit i = true then Lw R (rst s k) i + R.dd i k else 1000000) 1000000 6)
      omega
    · exact Or.inl rfl
  · exact Or.inl (Lw_no R hc)
/-- the same as pushed on -/
theorem Lw_push {R : RD} {S : Nat} (h : R.Ok S) {s k : Nat} (hs : s < 64) (hb : s.testBit k = true) (hc : s &&& R.can = s) (h0 : rst s k ≠ 0) : Lw R s k = mnF (fun i => if (rst s k).testBit i = true then R.fl k (Lw R (rst s k) i + R.dd i k) else 1000000) 1000000 S := by
  have hk : k < S := h.canS k (sub_iff.mp hc k hb)
  have h6 := h.s6
  rw [Lw_eq R hs (by omega) hb hc, if_neg h0, mnF_mono (h.fl_mono hk), h.fl_far hk (Nat.le_refl _)]
  have e : mnF (fun i => R.fl k (if (rst s k).testBit i = true then Lw R (rst s k) i + R.dd i k else 1000000)) 1000000 6 = mnF (fun i => if (rst s k).testBit i = true then R.fl k (Lw R (rst s k) i + R.dd i k) else 1000000) 1000000 6 := mnF_ext 6 fun i _ => by
    by_cases hi : (rst s k).testBit i = true
    · simp only [if_pos hi]
    · simp only [if_neg hi]
      exact h.fl_far hk (Nat.le_refl _)
  rw [e]
  obtain ⟨n, hn⟩ : ∃ n, 6 = S + n := ⟨6 - S, by omega⟩
  rw [hn]
  refine mnF_pad n fun i a1 a2 => ?_
  have hi : ¬ (rst s k).testBit i = true := fun z => by
    rw [rst_bit s hs k (by omega) i (by omega), Bool.and_eq_true] at z
    have := h.canS i (sub_iff.mp hc i z.1)
    omega
  rw [if_neg hi]
  exact Nat.le_refl _
/-- the days till home -/
def Hm (R : RD) (s : Nat) (n : Nat) : Nat := mnF (fun k => if s.testBit k = true then min 1000000 (Lw R s k + R.ho k) else 1000000) (if s = 0 then R.hw else 1000000) n
theorem RD.Ok.H_or {R : RD} {S : Nat} (h : R.Ok S) (s n : Nat) (hn : n ≤ S) : Hm R s n = 1000000 ∨ Hm R s n < 3000 := by
  have h1 : (if s = 0 then R.hw else 1000000) = 1000000 ∨ (if s = 0 then R.hw else 1000000) < 2400 := by
    have := h.hw
    split <;> omega
  induction n with
  | zero =>
    show (if s = 0 then R.hw else 1000000) = 1000000 ∨ (if s = 0 then R.hw else 1000000) < 3000
    omega
  | succ n ih =>
    have ih := ih (by omega)
    have h2 : (if s.testBit n = true then min 1000000 (Lw R s n + R.ho n) else 1000000) = 1000000 ∨ (if s.testBit n = true then min 1000000 (Lw R s n + R.ho n) else 1000000) < 3000 := by
      have := h.L_or s n
      have := h.ho n (by omega)
      split <;> omega
    show min (Hm R s n) (if s.testBit n = true then min 1000000 (Lw R s n + R.ho n) else 1000000) = 1000000 ∨ min (Hm R s n) (if s.testBit n = true then min 1000000 (Lw R s n + R.ho n) else 1000000) < 3000
    omega
theorem RD.Ok.H_pad {R : RD} {S : Nat} (h : R.Ok S) (s : Nat) : Hm R s 6 = Hm R s S := by
  have h6 := h.s6
  obtain ⟨n, hn⟩ : ∃ n, 6 = S + n := ⟨6 - S, by omega⟩
  rw [hn]
  refine mnF_pad n fun i a1 a2 => ?_
  have hi : Lw R s i = 1000000 := Lw_no R fun z => by
    have := h.canS i (sub_iff.mp z.2 i z.1)
    omega
  have := h.hw
  simp only [hi]
  split <;> split <;> omega
theorem RD.Ok.H_not {R : RD} {S : Nat} (h : R.Ok S) (s : Nat) (h0 : s ≠ 0) (hc : ¬ s &&& R.can = s) (n : Nat) : Hm R s n = 1000000 := by
  unfold Hm
  rw [if_neg h0]
  refine Nat.le_antisymm (mnF_le n) (le_mnF n (Nat.le_refl _) fun i _ => ?_)
  rw [Lw_no R (fun z => hc z.2)]
  split <;> omega
