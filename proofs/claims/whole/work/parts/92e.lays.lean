/-! ROUNDS of the reference -/
def RcM (A : IT) (R : RD) (S w u : Nat) (gl : Nat → Nat) : Prop := (A (44, 0) 5 = nJ R.day ∧ A (53, 0) w = nJ u ∧ u < 8 ∧ w < 3) ∧ (∀ k, k < S → gl k < 8 ∧ A (48, 0) k = nJ (gl k) ∧ A (49, 0) k = nJ (R.due k) ∧ A (47, 0) (8 * u + gl k) = nJ (dm (R.w k)) ∧ A (47, 0) (8 * gl k) = nJ (dm (R.ho k)) ∧ ∀ i, i < S → A (47, 0) (8 * gl i + gl k) = nJ (dm (R.dd i k))) ∧ A (47, 0) (8 * u) = nJ (dm R.hw)
def MlS (A0 A : IT) (R : RD) (w s l : Nat) : Prop := (∀ a : Ad, a ≠ (80, 0) → a ≠ (81, 0) → A a = A0 a) ∧ (∀ t k, t < 64 → k < 6 → (t < s ∨ (t = s ∧ k < l)) → A (80, 0) (6 * t + k) = nJ (dm (Lw R t k))) ∧ (∀ t, t < s → t < 64 → A (81, 0) (64 * w + t) = nJ (dm (Hm R t 6))) ∧ (∀ i, ¬ (64 * w ≤ i ∧ i < 64 * w + 64) → A (81, 0) i = A0 (81, 0) i)
theorem MlS.rc {A0 A : IT} {R : RD} {S w s l u : Nat} {gl : Nat → Nat} (h : MlS A0 A R w s l) (hc : RcM A0 R S w u gl) : RcM A R S w u gl := by
  have e : ∀ s, s ≠ 80 → s ≠ 81 → A (s, 0) = A0 (s, 0) := fun s h1 h2 => h.1 (s, 0) (fun z => h1 (Prod.mk.inj z).1) (fun z => h2 (Prod.mk.inj z).1)
  unfold RcM at hc ⊢
  rw [e 44 (by decide) (by decide), e 53 (by decide) (by decide), e 48 (by decide) (by decide), e 49 (by decide) (by decide), e 47 (by decide) (by decide)]
  exact hc
/-- any value of the place at hand -/
theorem MlS.w {A0 A : IT} {R : RD} {w s l : Nat} (h : MlS A0 A R w s l) (hl : l < 6) (x : Int32) : MlS A0 (up2 A (80, 0) (6 * s + l) x) R w s l := by
  refine ⟨fun a h1 h2 => funext fun j => (up_ne _ _ _ _ h1).trans (congrFun (h.1 a h1 h2) j), fun t k ht hk hq => ?_, fun t ht ht' => (up_ne _ _ _ _ (by decide)).trans (h.2.2.1 t ht ht'), fun i hi => (up_ne _ _ _ _ (by decide)).trans (h.2.2.2 i hi)⟩
  rw [up_neK _ _ (show 6 * t + k ≠ 6 * s + l by omega)]
  exact h.2.1 t k ht hk hq
theorem MlS.nx {A0 A : IT} {R : RD} {w s l : Nat} (h : MlS A0 A R w s l) (hx : A (80, 0) (6 * s + l) = nJ (dm (Lw R s l))) : MlS A0 A R w s (l + 1) := by
  refine ⟨h.1, fun t k ht hk hq => ?_, h.2.2⟩
  by_cases e : t = s ∧ k = l
  · rw [e.1, e.2]
    exact hx
  · exact h.2.1 t k ht hk (by omega)
theorem MlS.rd {A0 A : IT} {R : RD} {w s : Nat} (h : MlS A0 A R w s 6) {x : Int32} (hx : x = nJ (dm (Hm R s 6))) (hs : s < 64) : MlS A0 (up2 A (81, 0) (64 * w + s) x) R w (s + 1) 0 := by
  refine ⟨fun a h1 h2 => funext fun j => (up_ne _ _ _ _ h2).trans (congrFun (h.1 a h1 h2) j), fun t k ht hk hq => (up_ne _ _ _ _ (by decide)).trans (h.2.1 t k ht hk (by omega)), fun t ht ht' => ?_, fun i hi => ?_⟩
  · by_cases e : t = s
    · rw [e, up_same]
      exact hx
    · rw [up_neK _ _ (show 64 * w + t ≠ 64 * w + s by omega)]
      exact h.2.2.1 t (by omega) ht'
  · rw [up_neK _ _ (show i ≠ 64 * w + s by omega)]
    exact h.2.2.2 i hi
theorem mTime {A : IT} {B : JT} {R : RD} {S w u : Nat} {gl : Nat → Nat} (d : Nat) (hR : R.Ok S) (hc : RcM A R S w u gl) {k x : Nat} (hk : k < S) (hx : x < 10000) : ev d mMo_isInTime 0 [vR (43, 0), vI (nJ k), vI (nJ x)] [] (hh A B) = some (some (vI (if R.day + (x - 1) ≤ R.due k then 1 else 0)), hh A B) := by
  have h6 := hR.s6
  have hdu := hR.due k hk
  have hda := hR.day
  obtain ⟨⟨c2, c3, c4, c5⟩, c6, c7⟩ := hc
  obtain ⟨k1, k2, k3, -⟩ := c6 k hk
  have fin : ∀ y, y < 20000 → (if nJ (R.due k) < nJ y then some (some (vI 0), hh A B) else some (some (vI 1), hh A B)) = some (some (vI (if y ≤ R.due k then 1 else 0)), hh A B) := fun y hy => by
    by_cases h : R.due k < y
    · rw [if_pos (lt_nJ h (by omega)), if_neg (by omega)]
    · rw [if_neg (nlt_nJ (by omega) (by omega)), if_pos (by omega)]
  rw [eMo_isInTime_0, bnd (show k < 6 by omega) (by omega), bnd (show k < 6 by omega) (by omega), nJ_nat (show k < 2147483648 by omega), k3, c2]
  by_cases h0 : x = 0
  · rw [if_pos (show nJ x = 0 by rw [h0]; rfl), h0, show nJ R.day + 0 = nJ R.day from nJ_add R.day 0]
    exact fin R.day (by omega)
  · have e : nJ x - 1 = nJ (x - 1) := nJ_sub (a := x) (b := 1) (by omega)
    rw [if_neg (ne_nL (b := 0) h0 (by omega) (by decide)), e, nJ_add]
    exact fin _ (by omega)
/-- the days to one's goal, taken so far -/
def Xd (R : RD) (s k i : Nat) : Nat := mnF (fun i => if (rst s k).testBit i = true then Lw R (rst s k) i + R.dd i k else 1000000) (if rst s k = 0 then R.w k else 1000000) i
theorem Xd_or {R : RD} {S : Nat} (h : R.Ok S) {s k : Nat} (hk : k < S) (hs : s < 64) (hc : s &&& R.can = s) : ∀ i, i ≤ 6 → Xd R s k i = 1000000 ∨ Xd R s k i < 3000 := by
  have h6 := h.s6
  intro i
  induction i with
  | zero =>
    intro _
    have := h.w k hk
    show (if rst s k = 0 then R.w k else 1000000) = 1000000 ∨ (if rst s k = 0 then R.w k else 1000000) < 3000
    split <;> omega
  | succ i ih =>
    intro hi
    have ih := ih (by omega)
    show min (Xd R s k i) (if (rst s k).testBit i = true then Lw R (rst s k) i + R.dd i k else 1000000) = 1000000 ∨ min (Xd R s k i) (if (rst s k).testBit i = true then Lw R (rst s k) i + R.dd i k else 1000000) < 3000
    split
    · rename_i hb
      rw [rst_bit s hs k (by omega) i (by omega), Bool.and_eq_true] at hb
      have := h.dd i k (h.canS i (sub_iff.mp hc i hb.1)) hk
      have := h.L_or (rst s k) i
      omega
    · omega
theorem Xd_fl {R : RD} {S : Nat} (h : R.Ok S) {s k : Nat} (hk : k < S) (hs : s < 64) (hb : s.testBit k = true) (hc : s &&& R.can = s) : R.fl k (Xd R s k 6) = Lw R s k := by
  have h6 := h.s6
  rw [Lw_eq R hs (by omega) hb hc]
  congr 1
  unfold Xd
  by_cases h0 : rst s k = 0
  · rw [if_pos h0, if_pos h0]
    have := h.w k hk
    refine Nat.le_antisymm (mnF_le 6) (le_mnF 6 (Nat.le_refl _) fun i _ => ?_)
    rw [h0, if_neg (by rw [Nat.zero_testBit]; decide)]
    omega
  · rw [if_neg h0, if_neg h0]
theorem dm_lt {x : Nat} (h : x = 1000000 ∨ x < 3000) : (dm x < 10000) = (x < 1000000) := by
  unfold dm
  apply propext
  split <;> omega
theorem dm_add {a b c : Nat} (ha : a = 1000000 ∨ a ≤ 300) (hb : b = 1000000 ∨ b < 2400) (hc : c = 1000000 ∨ c < 3000) : (if dm a + dm b < dm c then dm a + dm b else dm c) = dm (min c (min 1000000 (a + b))) := by
  unfold dm
  by_cases h1 : a = 1000000
  · rw [if_pos h1]
    by_cases h2 : c = 1000000
    · rw [if_pos h2, if_neg (by omega), if_pos (by omega)]
    · rw [if_neg h2, if_neg (by omega), if_neg (by omega)]
      omega
  · rw [if_neg h1]
    by_cases h3 : b = 1000000
    · rw [if_pos h3]
      by_cases h2 : c = 1000000
      · rw [if_pos h2, if_neg (by omega), if_pos (by omega)]
      · rw [if_neg h2, if_neg (by omega), if_neg (by omega)]
        omega
    · rw [if_neg h3]
      by_cases h2 : c = 1000000
      · rw [if_pos h2, if_pos (by omega), if_neg (by omega)]
        omega
      · rw [if_neg h2]
        by_cases h4 : a + b < c
        · rw [if_pos h4, if_neg (by omega)]
          omega
        · rw [if_neg h4, if_neg (by omega)]
          omega
theorem dm_add2 {a b c : Nat} (ha : a = 1000000 ∨ a ≤ 300) (hb : b = 1000000 ∨ b < 2400) (hc : c = 1000000 ∨ c < 3000) : (if dm a + dm b < dm c then dm a + dm b else dm c) = dm (min c (a + b)) := by
  rw [dm_add ha hb hc]
  congr 1
  omega
theorem dm_le {x : Nat} (h : x ≤ 1000000) : dm x < 1000000 := by
  unfold dm
  split <;> omega
theorem lays78 {A : IT} {B : JT} {A0 : IT} {R : RD} {S w u s l : Nat} {gl : Nat → Nat} (d : Nat) (x1 x2 x3 x5 : Int32) (hR : R.Ok S) (hc0 : RcM A0 R S w u gl) (hp : MlS A0 A R w s l) (hs : s < 64) (hl : l < S) (hb : s.testBit l = true) (hsc : s &&& R.can = s) : ∀ n i, i + n = 6 → ev (d + 1) mMo_laysRounds 78 [vR (43, 0), vI x1, vI x2, vI x3, vI (nJ s), vI x5, vI (nJ l), vI (nJ (6 * s + l)), vI (nJ (rst s l)), vI (nJ (dm (Xd R s l i))), vI (nJ i), vU] [] (hh A B) = ev (d + 1) mMo_laysRounds 78 [vR (43, 0), vI x1, vI x2, vI x3, vI (nJ s), vI x5, vI (nJ l), vI (nJ (6 * s + l)), vI (nJ (rst s l)), vI (nJ (dm (Xd R s l 6))), vI (nJ 6), vU] [] (hh A B) := by
  have h6 := hR.s6
  have hrl := rst_lt s hs l (by omega) hb
  intro n
  induction n with
  | zero =>
    intro i hi
    obtain rfl : i = 6 := by omega
    rfl
  | succ n ih =>
    intro i hi
    have hX := Xd_or hR hl hs hsc i (by omega)
    have hstep : Xd R s l (i + 1) = min (Xd R s l i) (if (rst s l).testBit i = true then Lw R (rst s l) i + R.dd i l else 1000000) := rfl
    rw [← ih (i + 1) (by omega), eMo_laysRounds_78, if_pos (lt_nL (b := 6) (show i < 6 by omega) (by decide)), mHas _ _ _ (show rst s l < 64 by omega) (show i < 6 by omega), bI_some, nJ_succ, gI_hh, gJ_hh, hstep]
    cases hbi : (rst s l).testBit i with
    | false =>
      rw [if_neg (show ¬ false = true by decide), if_neg (show ¬ false = true by decide), if_pos rfl, Nat.min_eq_left (by omega)]
    | true =>
      have hbi' := hbi
      rw [rst_bit s hs l (by omega) i (by omega), Bool.and_eq_true] at hbi'
      have hiS : i < S := hR.canS i (sub_iff.mp hsc i hbi'.1)
      obtain ⟨⟨c2, c3, c4, c5⟩, c6, c7⟩ := hp.rc hc0
      obtain ⟨i1, i2, -, -, -, -⟩ := c6 i hiS
      obtain ⟨l1, l2, -, -, -, l6⟩ := c6 l hl
      have eL := hp.2.1 (rst s l) i (by omega) (by omega) (Or.inl hrl)
      have e6 : 6 * nJ (rst s l) + nJ i = nJ (6 * rst s l + i) := by
        rw [show 6 * nJ (rst s l) = nJ (6 * rst s l) from nJ_mul 6 _, nJ_add]
      have e8 : 8 * nJ (gl i) + nJ (gl l) = nJ (8 * gl i + gl l) := by
        rw [show 8 * nJ (gl i) = nJ (8 * gl i) from nJ_mul 8 _, nJ_add]
      have hLo := hR.L_or (rst s l) i
      have hdo := hR.dd i l hiS hl
      have hk := dm_add2 hLo hdo hX
      rw [if_pos rfl, if_neg (show ¬ (1 : Int32) = 0 by decide), if_pos rfl, e6, bnd (show 6 * rst s l + i < 384 by omega) (by omega), bnd (show i < 6 by omega) (by omega), bnd (show l < 6 by omega) (by omega), nJ_nat (show i < 2147483648 by omega), nJ_nat (show l < 2147483648 by omega), i2, l2, e8, bnd (show 8 * gl i + gl l < 64 by omega) (by omega), nJ_nat (show 8 * gl i + gl l < 2147483648 by omega), nJ_nat (show 6 * rst s l + i < 2147483648 by omega), eL, l6 i hiS, nJ_add, ← hk]
      have := dm_le (show Lw R (rst s l) i ≤ 1000000 by omega)
      have := dm_le (show R.dd i l ≤ 1000000 by omega)
      have := dm_le (show Xd R s l i ≤ 1000000 by omega)
      by_cases hlt : dm (Lw R (rst s l) i) + dm (R.dd i l) < dm (Xd R s l i)
      · rw [if_pos (lt_nJ hlt (by omega)), if_pos hlt]
      · rw [if_neg (nlt_nJ (by omega) (by omega)), if_neg hlt]
theorem Hm_in {R : RD} {s l : Nat} (hb : s.testBit l = true) : Hm R s (l + 1) = min (Hm R s l) (min 1000000 (Lw R s l + R.ho l)) := by
  show min (Hm R s l) (if s.testBit l = true then _ else _) = _
  rw [if_pos hb]
theorem Hm_out {R : RD} {S s l : Nat} (h : R.Ok S) (hL : Lw R s l = 1000000) : Hm R s (l + 1) = Hm R s l := by
  have := h.H_le s l
  show min (Hm R s l) (if s.testBit l = true then min 1000000 (Lw R s l + R.ho l) else 1000000) = Hm R s l
  split <;> omega
theorem and_x0 {c s : Nat} (hs : s < 256) : s &&& (255 ^^^ c) = 0 ↔ s &&& c = s := by
  rw [sub_iff]
  constructor
  · intro h b hb
    by_cases hb8 : b < 8
    · cases hc : c.testBit b
      · have := (and_x (c := s) (s := c) b hb8).mpr ⟨hb, hc⟩
        rw [h, Nat.zero_testBit] at this
        cases this
      · rfl
    · rw [Nat.testBit_lt_two_pow (Nat.lt_of_lt_of_le hs (show 2 ^ 8 ≤ 2 ^ b from Nat.pow_le_pow_right (by decide) (by omega)))] at hb
      cases hb
  · intro h
    apply Nat.eq_of_testBit_eq
    intro b
    rw [Nat.zero_testBit]
    by_cases hb8 : b < 8
    · cases hx : (s &&& (255 ^^^ c)).testBit b
      · rfl
      · have := (and_x b hb8).mp hx
        rw [h b this.1] at this
        cases this.2
    · rw [Nat.testBit_and, Nat.testBit_lt_two_pow (Nat.lt_of_lt_of_le hs (show 2 ^ 8 ≤ 2 ^ b from Nat.pow_le_pow_right (by decide) (by omega)))]
      rfl
