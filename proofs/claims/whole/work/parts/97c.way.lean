/-! A WAY -/
theorem pop_or : ∀ z, z < 256 → ∀ b, b < 8 → pop8 (z ||| 2 ^ b) = pop8 z + (if z.testBit b = true then 0 else 1) := by decide +kernel
theorem sumT_add {f g : Nat → Nat} : ∀ n, sumT (fun t => f t + g t) n = sumT f n + sumT g n
  | 0 => rfl
  | n + 1 => by
    show sumT (fun t => f t + g t) n + (f n + g n) = sumT f n + f n + (sumT g n + g n)
    rw [sumT_add n]
    omega
theorem sumT_one {a e : Nat} : ∀ n, sumT (fun t => if t = a then e else 0) n = if a < n then e else 0
  | 0 => rfl
  | n + 1 => by
    show sumT (fun t => if t = a then e else 0) n + (if n = a then e else 0) = _
    rw [sumT_one n]
    by_cases h : a < n
    · rw [if_pos h, if_neg (by omega), if_pos (by omega)]
      rfl
    · by_cases h2 : n = a
      · rw [if_neg h, if_pos h2, if_pos (by omega)]
        omega
      · rw [if_neg h, if_neg h2, if_neg (by omega)]
def dyU (dy : Nat → Nat → Nat) (a b v : Nat) : Nat → Nat → Nat := fun x y => if (x = a ∧ y = b) ∨ (x = b ∧ y = a) then v else dy x y
def zU (z : Nat → Nat) (a b : Nat) : Nat → Nat := fun x => if x = a then z a ||| 2 ^ b else if x = b then z b ||| 2 ^ a else z x
/-- the way written on both sides -/
theorem way_wr {I A : IT} {dy : Nat → Nat → Nat} {z : Nat → Nat} {T S N W a b v : Nat} (h : DrR I A dy z T S N W) (ha : a < T) (hb : b < T) (hab : a ≠ b) (hv : 1 ≤ v ∧ v < 10) : DrR (up2 (up2 (up2 (up2 I (10, 5) (8 * a + b) (nJ v)) (10, 5) (8 * b + a) (nJ v)) (12, 5) a (nJ (z a ||| 2 ^ b))) (12, 5) b (nJ (z b ||| 2 ^ a))) (up2 (up2 (up2 A (61, 0) 2 (nJ (W + if dy a b = 0 then 1 else 0))) (63, 0) (8 * a + b) (nJ v)) (63, 0) (8 * b + a) (nJ v)) (dyU dy a b v) (zU z a b) T S N (W + if dy a b = 0 then 1 else 0) := by
  obtain ⟨d1, ⟨e1, e2, e3, e4, e5, e6, e8, e9⟩, d3, d4, ⟨d51, d52⟩, d6, d7, d8, d9⟩ := h
  have hT := d1.1
  have nI : ∀ s, s ≠ 10 → s ≠ 12 → up2 (up2 (up2 (up2 I (10, 5) (8 * a + b) (nJ v)) (10, 5) (8 * b + a) (nJ v)) (12, 5) a (nJ (z a ||| 2 ^ b))) (12, 5) b (nJ (z b ||| 2 ^ a)) (s, 5) = I (s, 5) := fun s h1 h2 => funext fun k => by
    rw [up_ne _ _ _ _ (fun q => h2 (Prod.mk.inj q).1), up_ne _ _ _ _ (fun q => h2 (Prod.mk.inj q).1), up_ne _ _ _ _ (fun q => h1 (Prod.mk.inj q).1), up_ne _ _ _ _ (fun q => h1 (Prod.mk.inj q).1)]
  have nA : ∀ s, s ≠ 61 → s ≠ 63 → up2 (up2 (up2 A (61, 0) 2 (nJ (W + if dy a b = 0 then 1 else 0))) (63, 0) (8 * a + b) (nJ v)) (63, 0) (8 * b + a) (nJ v) (s, 0) = A (s, 0) := fun s h1 h2 => funext fun k => by
    rw [up_ne _ _ _ _ (fun q => h2 (Prod.mk.inj q).1), up_ne _ _ _ _ (fun q => h2 (Prod.mk.inj q).1), up_ne _ _ _ _ (fun q => h1 (Prod.mk.inj q).1)]
  have a61 : ∀ k, up2 (up2 (up2 A (61, 0) 2 (nJ (W + if dy a b = 0 then 1 else 0))) (63, 0) (8 * a + b) (nJ v)) (63, 0) (8 * b + a) (nJ v) (61, 0) k = if k = 2 then nJ (W + if dy a b = 0 then 1 else 0) else A (61, 0) k := fun k => by
    rw [up_ne _ _ _ _ (by decide), up_ne _ _ _ _ (by decide), up_row]
  have hsy : dy a b = 0 ↔ dy b a = 0 := by
    constructor
    · intro q
      by_cases e : dy b a = 0
      · exact e
      · exact absurd q (d52 b a e).2.2.2
    · intro q
      by_cases e : dy a b = 0
      · exact e
      · exact absurd q (d52 a b e).2.2.2
  refine ⟨d1, ⟨?_, ?_, ?_, ?_, ?_, ?_, ?_, ?_⟩, ?_, fun x y hx hy => ⟨?_, ?_⟩, ⟨fun x y => ?_, fun x y hxy => ?_⟩, fun x hx => ?_, ?_, ?_, ?_⟩
  · rw [nI 8 (by decide) (by decide), a61, if_neg (by decide)]; exact e1
  · rw [nI 8 (by decide) (by decide)]; exact e2
  · rw [a61, if_neg (by decide)]; exact e3
  · rw [a61, if_pos rfl]
  · rw [nI 8 (by decide) (by decide)]; exact e5
  · rw [a61, if_neg (by decide)]; exact e6
  · rw [nI 8 (by decide) (by decide)]; exact e8
  · rw [a61, if_neg (by decide)]; exact e9
  · rw [nI 9 (by decide) (by decide), nA 62 (by decide) (by decide)]; exact d3
  · rw [up_ne _ _ _ _ (by decide), up_ne _ _ _ _ (by decide), up_row, up_row]
    unfold dyU
    by_cases q1 : 8 * x + y = 8 * b + a
    · rw [if_pos q1, if_pos (by omega)]
    · rw [if_neg q1]
      by_cases q2 : 8 * x + y = 8 * a + b
      · rw [if_pos q2, if_pos (by omega)]
      · rw [if_neg q2, if_neg (by omega)]
        exact (d4 x y hx hy).1
  · rw [up_row, up_row, up_ne _ _ _ _ (by decide)]
    unfold dyU
    by_cases q1 : 8 * x + y = 8 * b + a
    · rw [if_pos q1, if_pos (show (x = a ∧ y = b) ∨ (x = b ∧ y = a) by omega), if_neg (by omega)]
    · rw [if_neg q1]
      by_cases q2 : 8 * x + y = 8 * a + b
      · rw [if_pos q2, if_pos (show (x = a ∧ y = b) ∨ (x = b ∧ y = a) by omega), if_neg (by omega)]
      · rw [if_neg q2, if_neg (show ¬ ((x = a ∧ y = b) ∨ (x = b ∧ y = a)) by omega)]
        exact (d4 x y hx hy).2
  · unfold dyU
    split
    · omega
    · exact d51 x y
  · unfold dyU at hxy ⊢
    by_cases q : (x = a ∧ y = b) ∨ (x = b ∧ y = a)
    · rw [if_pos (show (y = a ∧ x = b) ∨ (y = b ∧ x = a) by omega)]
      refine ⟨by omega, by omega, by omega, by omega⟩
    · rw [if_neg q] at hxy
      rw [if_neg (show ¬ ((y = a ∧ x = b) ∨ (y = b ∧ x = a)) by omega)]
      exact d52 x y hxy
  · have hbit : ∀ c, c < 8 → ∀ m, m < 8 → ∀ q, q < 8 → ((z c) ||| 2 ^ m).testBit q = (!Nat.beq (dy c q) 0 || Nat.beq q m) := fun c hc m hm q hq => by
      rw [Nat.testBit_or, (d6 c hc).2.2 q hq, Nat.testBit_two_pow]
      congr 1
      rw [Bool.eq_iff_iff, decide_eq_true_iff, Nat.beq_eq]
      exact eq_comm
    have hbit2 : ∀ c m, (c = a ∧ m = b) ∨ (c = b ∧ m = a) → ∀ q, q < 8 → ((z c) ||| 2 ^ m).testBit q = !Nat.beq (dyU dy a b v c q) 0 := fun c m hcm q hq => by
      rw [hbit c (by omega) m (by omega) q hq]
      unfold dyU
      by_cases e : q = m
      · rw [if_pos (by omega), e, Nat.beq_refl, Bool.or_true, beq_f (show v ≠ 0 by omega)]
        rfl
      · rw [if_neg (by omega), beq_f e, Bool.or_false]
    have hrow : up2 (up2 (up2 (up2 I (10, 5) (8 * a + b) (nJ v)) (10, 5) (8 * b + a) (nJ v)) (12, 5) a (nJ (z a ||| 2 ^ b))) (12, 5) b (nJ (z b ||| 2 ^ a)) (12, 5) x = if x = b then nJ (z b ||| 2 ^ a) else if x = a then nJ (z a ||| 2 ^ b) else I (12, 5) x := by
      rw [up_row, up_row, up_ne _ _ _ _ (by decide), up_ne _ _ _ _ (by decide)]
    rw [hrow]
    unfold zU
    by_cases q1 : x = a
    · rw [if_pos q1, if_neg (show ¬ x = b by omega), if_pos q1, q1]
      exact ⟨or_lt8 (d6 a (by omega)).1 (p_lt8 (by omega)), rfl, fun q hq => hbit2 a b (Or.inl ⟨rfl, rfl⟩) q hq⟩
    · by_cases q2 : x = b
      · rw [if_neg q1, if_pos q2, if_pos q2, q2]
        exact ⟨or_lt8 (d6 b (by omega)).1 (p_lt8 (by omega)), rfl, fun q hq => hbit2 b a (Or.inr ⟨rfl, rfl⟩) q hq⟩
      · rw [if_neg q1, if_neg q2, if_neg q2, if_neg q1]
        obtain ⟨z1, z2, z3⟩ := d6 x hx
        refine ⟨z1, z2, fun q hq => ?_⟩
        rw [z3 q hq]
        unfold dyU
        rw [if_neg (by omega)]
  · have hp : ∀ c m, c < 8 → m < 8 → pop8 (z c ||| 2 ^ m) = pop8 (z c) + (if dy c m = 0 then 1 else 0) := fun c m hc hm => by
      rw [pop_or _ (d6 c hc).1 m hm, (d6 c hc).2.2 m hm]
      by_cases e : dy c m = 0
      · rw [if_pos e, e]
        rfl
      · rw [if_neg e, beq_f e]
        rfl
    have e : sumT (fun t => pop8 (zU z a b t)) 8 = sumT (fun t => pop8 (z t) + ((if t = a then (if dy a b = 0 then 1 else 0) else 0) + (if t = b then (if dy a b = 0 then 1 else 0) else 0))) 8 := sumT_ext 8 fun t ht => by
      unfold zU
      by_cases q1 : t = a
      · rw [if_pos q1, if_pos q1, if_neg (show ¬ t = b by omega), hp a b (by omega) (by omega), q1]
        rfl
      · by_cases q2 : t = b
        · rw [if_neg q1, if_pos q2, if_neg q1, if_pos q2, hp b a (by omega) (by omega), q2]
          by_cases q3 : dy a b = 0
          · rw [if_pos q3, if_pos (hsy.mp q3)]
          · rw [if_neg q3, if_neg (fun w => q3 (hsy.mpr w))]
        · rw [if_neg q1, if_neg q2, if_neg q1, if_neg q2]
          rfl
    rw [e, sumT_add, sumT_add, sumT_one, sumT_one, d7, if_pos (show a < 8 by omega), if_pos (show b < 8 by omega)]
    omega
  · rw [nI 13 (by decide) (by decide), nI 14 (by decide) (by decide), nI 15 (by decide) (by decide), nA 64 (by decide) (by decide), nA 65 (by decide) (by decide), nA 66 (by decide) (by decide)]; exact d8
  · rw [nI 16 (by decide) (by decide), nA 67 (by decide) (by decide)]; exact d9
