/-! HOW FAR: towns by days -/
def D0 (dy : Nat → Nat → Nat) (a b : Nat) : Nat := if a = b then 0 else if dy a b = 0 then 1000000 else dy a b
def FL (dy : Nat → Nat → Nat) : Nat → Nat → Nat → Nat
  | 0, a, b => D0 dy a b
  | k + 1, a, b => min (FL dy k a b) (FL dy k a k + FL dy k k b)
theorem FL_diag {dy : Nat → Nat → Nat} {a : Nat} : ∀ k, FL dy k a a = 0
  | 0 => if_pos rfl
  | k + 1 => by
    unfold FL
    rw [FL_diag k]
    exact Nat.zero_min _
theorem FL_row {dy : Nat → Nat → Nat} (k a : Nat) : FL dy (k + 1) a k = FL dy k a k := by
  show min (FL dy k a k) (FL dy k a k + FL dy k k k) = _
  rw [FL_diag]
  omega
theorem FL_col {dy : Nat → Nat → Nat} (k b : Nat) : FL dy (k + 1) k b = FL dy k k b := by
  show min (FL dy k k b) (FL dy k k k + FL dy k k b) = _
  rw [FL_diag]
  omega
theorem FL_tri {dy : Nat → Nat → Nat} : ∀ k a b e, b < k → FL dy k a e ≤ FL dy k a b + FL dy k b e
  | 0, _, _, _, h => by omega
  | k + 1, a, b, e, h => by
    have h1 : ∀ x y, FL dy (k + 1) x y = min (FL dy k x y) (FL dy k x k + FL dy k k y) := fun _ _ => rfl
    by_cases hb : b = k
    · rw [hb, FL_row, FL_col, h1]
      omega
    · have t1 := FL_tri (dy := dy) k a b e (by omega)
      have t2 := FL_tri (dy := dy) k k b e (by omega)
      have t3 := FL_tri (dy := dy) k a b k (by omega)
      rw [h1, h1, h1]
      omega
theorem FL_or {dy : Nat → Nat → Nat} (hd : ∀ a b, dy a b < 10) : ∀ k a b, FL dy k a b = 1000000 ∨ FL dy k a b ≤ 9 * 2 ^ k
  | 0, a, b => by
    have := hd a b
    show D0 dy a b = 1000000 ∨ D0 dy a b ≤ 9 * 2 ^ 0
    unfold D0
    split
    · omega
    · split <;> omega
  | k + 1, a, b => by
    have h1 := FL_or hd k a b
    have h2 := FL_or hd k a k
    have h3 := FL_or hd k k b
    show min (FL dy k a b) (FL dy k a k + FL dy k k b) = 1000000 ∨ min (FL dy k a b) (FL dy k a k + FL dy k k b) ≤ 9 * 2 ^ (k + 1)
    rw [Nat.pow_succ]
    omega
theorem FL_bd {dy : Nat → Nat → Nat} (hd : ∀ a b, dy a b < 10) {k : Nat} (hk : k ≤ 8) (a b : Nat) : FL dy k a b = 1000000 ∨ FL dy k a b < 2400 := by
  have h1 := FL_or hd k a b
  have h2 : 2 ^ k ≤ 2 ^ 8 := Nat.pow_le_pow_right (by decide) hk
  have h3 : 2 ^ 8 = 256 := rfl
  omega
theorem FL_iso {dy : Nat → Nat → Nat} {t : Nat} (hd : ∀ a b, dy a b < 10) (h : ∀ a, dy a t = 0 ∧ dy t a = 0) : ∀ k, k ≤ 8 → ∀ a, a ≠ t → FL dy k a t = 1000000 ∧ FL dy k t a = 1000000
  | 0, _, a, ha => by
    show D0 dy a t = 1000000 ∧ D0 dy t a = 1000000
    unfold D0
    rw [if_neg ha, if_pos (h a).1, if_neg (show ¬ t = a from fun z => ha z.symm), if_pos (h a).2]
    exact ⟨rfl, rfl⟩
  | k + 1, hk, a, ha => by
    have ih := FL_iso hd h k (by omega)
    obtain ⟨i1, i2⟩ := ih a ha
    have b1 := FL_bd hd (show k ≤ 8 by omega) a k
    have b2 := FL_bd hd (show k ≤ 8 by omega) k a
    show min (FL dy k a t) (FL dy k a k + FL dy k k t) = 1000000 ∧ min (FL dy k t a) (FL dy k t k + FL dy k k a) = 1000000
    by_cases e : k = t
    · rw [← e] at i1 i2 ⊢
      rw [FL_diag, i1, i2]
      omega
    · obtain ⟨j1, j2⟩ := ih k e
      rw [i1, i2, j1, j2]
      omega
theorem FL_pad {dy : Nat → Nat → Nat} {T : Nat} (hd : ∀ a b, dy a b < 10) (h : ∀ t, T ≤ t → ∀ a, dy a t = 0 ∧ dy t a = 0) : ∀ n, T + n ≤ 8 → ∀ a b, a < T → b < T → FL dy (T + n) a b = FL dy T a b
  | 0, _, _, _, _, _ => rfl
  | n + 1, hn, a, b, ha, hb => by
    have i1 := (FL_iso hd (h (T + n) (by omega)) (T + n) (by omega) a (by omega)).1
    have h1 := FL_bd hd (show T + n ≤ 8 by omega) a b
    show min (FL dy (T + n) a b) (FL dy (T + n) a (T + n) + FL dy (T + n) (T + n) b) = _
    rw [i1, ← FL_pad hd h n (by omega) a b ha hb]
    omega
/-- the table on its way: a and b are next -/
def Fm (dy : Nat → Nat → Nat) (k a b : Nat) : Nat → Nat → Nat := fun x y => if x < a ∨ (x = a ∧ y < b) then FL dy (k + 1) x y else FL dy k x y
theorem Fm_at {dy : Nat → Nat → Nat} {k a b : Nat} : Fm dy k a b a k = FL dy k a k ∧ Fm dy k a b k b = FL dy k k b ∧ Fm dy k a b a b = FL dy k a b := by
  unfold Fm
  refine ⟨?_, ?_, if_neg (by omega)⟩
  · split
    · exact FL_row k a
    · rfl
  · split
    · exact FL_col k b
    · rfl
theorem Fm_step {dy : Nat → Nat → Nat} {k a b : Nat} (x y : Nat) : Fm dy k a (b + 1) x y = if x = a ∧ y = b then FL dy (k + 1) a b else Fm dy k a b x y := by
  unfold Fm
  by_cases e : x = a ∧ y = b
  · rw [if_pos (by omega), if_pos e, e.1, e.2]
  · rw [if_neg e]
    by_cases h1 : x < a ∨ (x = a ∧ y < b)
    · rw [if_pos h1, if_pos (by omega)]
    · rw [if_neg h1, if_neg (by omega)]
def FcS (I0 I : IT) (n : Nat) (D : Nat → Nat → Nat) : Prop := (∀ a : Ad, a ≠ (11, n) → I a = I0 a) ∧ ∀ x y, x < 8 → y < 8 → I (11, n) (8 * x + y) = nJ (D x y)
theorem FcS.ext {I0 I : IT} {n : Nat} {D D' : Nat → Nat → Nat} (h : FcS I0 I n D) (he : ∀ x y, x < 8 → y < 8 → D x y = D' x y) : FcS I0 I n D' := ⟨h.1, fun x y hx hy => by rw [← he x y hx hy]; exact h.2 x y hx hy⟩
theorem FcS.up {I0 I : IT} {n : Nat} {D : Nat → Nat → Nat} (h : FcS I0 I n D) {a b : Nat} (ha : a < 8) (hb : b < 8) (v : Nat) : FcS I0 (up2 I (11, n) (8 * a + b) (nJ v)) n (fun x y => if x = a ∧ y = b then v else D x y) := by
  refine ⟨fun c hc => (funext fun j => up_ne _ _ _ _ hc).trans (h.1 c hc), fun x y hx hy => ?_⟩
  by_cases e : x = a ∧ y = b
  · rw [e.1, e.2, up_same]
    dsimp only
    rw [if_pos ⟨rfl, rfl⟩]
  · rw [up_neK _ _ (show 8 * x + y ≠ 8 * a + b by omega)]
    dsimp only
    rw [if_neg e]
    exact h.2 x y hx hy
theorem mul8r (a b : Nat) : nJ a * 8 + nJ b = nJ (8 * a + b) := by
  rw [show nJ a * 8 = nJ (a * 8) from nJ_mul a 8, nJ_add, Nat.mul_comm]
/-- distances, by the class -/
theorem cMeas {I : IT} {J : JT} {n T : Nat} {dy : Nat → Nat → Nat} (d : Nat) (hT : T ≤ 8) (e2 : I (8, n) 2 = nJ T) (hd : ∀ a b, dy a b < 10) (hz : ∀ a, dy a a = 0) (h10 : ∀ a b, a < 8 → b < 8 → I (10, n) (8 * a + b) = nJ (dy a b)) : ∃ I', (∀ a : Ad, a ≠ (11, n) → I' a = I a) ∧ (∀ a b, a < T → b < T → I' (11, n) (8 * a + b) = nJ (FL dy T a b)) ∧ ev d mRo_measure 0 [vR (8, n), vU, vU, vU, vU] [] (hh I J) = some (none, hh I' J) := by
  -- the days first
  have g1 : ∀ j i I1, i + j = 64 → (∀ a : Ad, a ≠ (11, n) → I1 a = I a) → (∀ x y, x < 8 → y < 8 → 8 * x + y < i → I1 (11, n) (8 * x + y) = nJ (if dy x y = 0 then 1000000 else dy x y)) → ∃ I2, FcS I I2 n (fun x y => if dy x y = 0 then 1000000 else dy x y) ∧ ev d mRo_measure 2 [vR (8, n), vI (nJ i), vU, vU, vU] [] (hh I1 J) = ev d mRo_measure 24 [vR (8, n), vI 0, vU, vU, vU] [] (hh I2 J) := by
    intro j
    induction j with
    | zero =>
      intro i I1 hi h1 h2
      obtain rfl : i = 64 := by omega
      exact ⟨I1, ⟨h1, fun x y hx hy => h2 x y hx hy (by omega)⟩, by rw [eRo_measure_2, if_neg (show ¬ nJ 64 < 64 by decide)]⟩
    | succ j ih =>
      intro i I1 hi h1 h2
      have e10 : I1 (10, n) i = nJ (dy (i / 8) (i % 8)) := by
        rw [h1 (10, n) (fun z => by cases (Prod.mk.inj z).1)]
        have := h10 (i / 8) (i % 8) (by omega) (by omega)
        rw [show 8 * (i / 8) + i % 8 = i by omega] at this
        exact this
      have key : ∀ v, v = nJ (if dy (i / 8) (i % 8) = 0 then 1000000 else dy (i / 8) (i % 8)) → ∃ I2, FcS I I2 n (fun x y => if dy x y = 0 then 1000000 else dy x y) ∧ ev d mRo_measure 2 [vR (8, n), vI (nJ (i + 1)), vU, vU, vU] [] (hh (up2 I1 (11, n) i v) J) = ev d mRo_measure 24 [vR (8, n), vI 0, vU, vU, vU] [] (hh I2 J) := fun v hv => by
        refine ih (i + 1) _ (by omega) (fun a ha => (funext fun j => up_ne _ _ _ _ ha).trans (h1 a ha)) (fun x y hx hy hlt => ?_)
        by_cases e : 8 * x + y = i
        · rw [e, up_same, hv]
          rw [show i / 8 = x by omega, show i % 8 = y by omega]
        · rw [up_neK _ _ e]
          exact h2 x y hx hy (by omega)
      have hdd := hd (i / 8) (i % 8)
      rw [eRo_measure_2, if_pos (lt_nL (b := 64) (show i < 64 by omega) (by decide))]
      simp only [nJ_nat (show i < 2147483648 by omega), nJ_succ, e10]
      by_cases h0 : dy (i / 8) (i % 8) = 0
      · rw [if_pos (show nJ (dy (i / 8) (i % 8)) = 0 by rw [h0]; rfl)]
        simp only [bnk (show i < 64 by omega) (by omega)]
        exact key _ (by rw [if_pos h0]; rfl)
      · rw [if_neg (ne_nL (b := 0) h0 (by omega) (by decide))]
        simp only [bnk (show i < 64 by omega) (by omega)]
        exact key _ (by rw [if_neg h0])
  obtain ⟨I2, s1, q1⟩ := g1 64 0 I rfl (fun _ _ => rfl) (fun x y _ _ h => by omega)
  have q1 : ev d mRo_measure 2 [vR (8, n), vI 0, vU, vU, vU] [] (hh I J) = _ := q1
  have g2 : ∀ j t I1, t + j = 8 → FcS I I1 n (fun x y => if x = y ∧ x < t then 0 else if dy x y = 0 then 1000000 else dy x y) → ∃ I2, FcS I I2 n (FL dy 0) ∧ ev d mRo_measure 24 [vR (8, n), vI (nJ t), vU, vU, vU] [] (hh I1 J) = ev d mRo_measure 40 [vR (8, n), vI 0, vU, vU, vU] [] (hh I2 J) := by
    intro j
    induction j with
    | zero =>
      intro t I1 ht hs
      obtain rfl : t = 8 := by omega
      refine ⟨I1, hs.ext fun x y hx hy => ?_, by rw [eRo_measure_24, if_neg (show ¬ nJ 8 < 8 by decide)]⟩
      show _ = D0 dy x y
      unfold D0
      by_cases e : x = y
      · rw [if_pos ⟨e, hx⟩, if_pos e]
      · rw [if_neg (fun z => e z.1), if_neg e]
    | succ j ih =>
      intro t I1 ht hs
      rw [eRo_measure_24, if_pos (lt_nL (b := 8) (show t < 8 by omega) (by decide)), mul8r, bnd (show 8 * t + t < 64 by omega) (by omega), nJ_nat (show 8 * t + t < 2147483648 by omega), nJ_succ]
      refine ih (t + 1) _ (by omega) ((hs.up (show t < 8 by omega) (show t < 8 by omega) 0).ext fun x y hx hy => ?_)
      by_cases e : x = t ∧ y = t
      · rw [if_pos e, if_pos (by omega)]
      · rw [if_neg e]
        by_cases e' : x = y ∧ x < t
        · rw [if_pos e', if_pos (by omega)]
        · rw [if_neg e', if_neg (show ¬ (x = y ∧ x < t + 1) by omega)]
  obtain ⟨I3, s2, q2⟩ := g2 8 0 I2 rfl (s1.ext fun x y _ _ => by rw [if_neg (show ¬ (x = y ∧ x < 0) by omega)])
  have q2 : ev d mRo_measure 24 [vR (8, n), vI 0, vU, vU, vU] [] (hh I2 J) = _ := q2
  have eT : ∀ {I1 : IT} {D}, FcS I I1 n D → I1 (8, n) 2 = nJ T := fun hs => by
    rw [hs.1 (8, n) (fun z => by cases (Prod.mk.inj z).1)]
    exact e2
  -- one step of all
  have g3 : ∀ k, k < T → ∀ a, a < T → ∀ j b I1, b + j = T → FcS I I1 n (fun x y => if x < T ∧ y < T then Fm dy k a b x y else FL dy 0 x y) → ∃ I2, FcS I I2 n (fun x y => if x < T ∧ y < T then Fm dy k (a + 1) 0 x y else FL dy 0 x y) ∧ ev d mRo_measure 52 [vR (8, n), vI (nJ k), vI (nJ a), vI (nJ b), vU] [] (hh I1 J) = ev d mRo_measure 46 [vR (8, n), vI (nJ k), vI (nJ (a + 1)), vU, vU] [] (hh I2 J) := by
    intro k hk a ha j
    induction j with
    | zero =>
      intro b I1 hb hs
      obtain rfl : b = T := by omega
      refine ⟨I1, hs.ext fun x y _ _ => ?_, by rw [eRo_measure_52, eT hs, if_neg (nlt_nJ (Nat.le_refl b) (by omega)), nJ_succ]⟩
      by_cases e : x < b ∧ y < b
      · rw [if_pos e, if_pos e]
        unfold Fm
        by_cases h1 : x < a ∨ (x = a ∧ y < b)
        · rw [if_pos h1, if_pos (by omega)]
        · rw [if_neg h1, if_neg (by omega)]
      · rw [if_neg e, if_neg e]
    | succ j ih =>
      intro b I1 hb hs
      have hbT : b < T := by omega
      obtain ⟨f1, f2, f3⟩ := Fm_at (dy := dy) (k := k) (a := a) (b := b)
      have v1 : I1 (11, n) (8 * a + k) = nJ (if a < T ∧ k < T then Fm dy k a b a k else FL dy 0 a k) := hs.2 a k (by omega) (by omega)
      have v2 : I1 (11, n) (8 * k + b) = nJ (if k < T ∧ b < T then Fm dy k a b k b else FL dy 0 k b) := hs.2 k b (by omega) (by omega)
      have v3 : I1 (11, n) (8 * a + b) = nJ (if a < T ∧ b < T then Fm dy k a b a b else FL dy 0 a b) := hs.2 a b (by omega) (by omega)
      rw [if_pos ⟨ha, hk⟩, f1] at v1
      rw [if_pos ⟨hk, hbT⟩, f2] at v2
      rw [if_pos ⟨ha, hbT⟩, f3] at v3
      have b1 := FL_bd hd (show k ≤ 8 by omega) a k
      have b2 := FL_bd hd (show k ≤ 8 by omega) k b
      have b3 := FL_bd hd (show k ≤ 8 by omega) a b
      have hmin : FL dy (k + 1) a b = min (FL dy k a b) (FL dy k a k + FL dy k k b) := rfl
      rw [eRo_measure_52, eT hs, if_pos (lt_nJ hbT (by omega)), mul8r, mul8r, mul8r, bnd (show 8 * a + k < 64 by omega) (by omega), bnd (show 8 * k + b < 64 by omega) (by omega), bnd (show 8 * a + b < 64 by omega) (by omega), bnd (show 8 * a + b < 64 by omega) (by omega), nJ_nat (show 8 * a + k < 2147483648 by omega), nJ_nat (show 8 * k + b < 2147483648 by omega), nJ_nat (show 8 * a + b < 2147483648 by omega), v1, v2, v3, nJ_add, nJ_succ]
      by_cases hlt : FL dy k a k + FL dy k k b < FL dy k a b
      · rw [if_pos (lt_nJ hlt (by omega))]
        refine ih (b + 1) _ (by omega) ((hs.up (show a < 8 by omega) (show b < 8 by omega) _).ext fun x y _ _ => ?_)
        by_cases e : x = a ∧ y = b
        · rw [if_pos e, if_pos (by omega), Fm_step, if_pos e, hmin]
          omega
        · rw [if_neg e, Fm_step, if_neg e]
      · rw [if_neg (nlt_nJ (by omega) (by omega))]
        refine ih (b + 1) _ (by omega) (hs.ext fun x y _ _ => ?_)
        rw [Fm_step]
        by_cases e : x = a ∧ y = b
        · rw [if_pos e, e.1, e.2, if_pos ⟨ha, hbT⟩, if_pos ⟨ha, hbT⟩, f3, hmin]
          omega
        · rw [if_neg e]
  have g4 : ∀ k, k < T → ∀ j a I1, a + j = T → FcS I I1 n (fun x y => if x < T ∧ y < T then Fm dy k a 0 x y else FL dy 0 x y) → ∃ I2, FcS I I2 n (fun x y => if x < T ∧ y < T then FL dy (k + 1) x y else FL dy 0 x y) ∧ ev d mRo_measure 46 [vR (8, n), vI (nJ k), vI (nJ a), vU, vU] [] (hh I1 J) = ev d mRo_measure 40 [vR (8, n), vI (nJ (k + 1)), vU, vU, vU] [] (hh I2 J) := by
    intro k hk j
    induction j with
    | zero =>
      intro a I1 ha hs
      obtain rfl : a = T := by omega
      refine ⟨I1, hs.ext fun x y _ _ => ?_, by rw [eRo_measure_46, eT hs, if_neg (nlt_nJ (Nat.le_refl a) (by omega)), nJ_succ]⟩
      by_cases e : x < a ∧ y < a
      · rw [if_pos e, if_pos e]
        unfold Fm
        rw [if_pos (Or.inl e.1)]
      · rw [if_neg e, if_neg e]
    | succ j ih =>
      intro a I1 ha hs
      obtain ⟨I2, c1, c2⟩ := g3 k hk a (by omega) T 0 I1 (by omega) hs
      obtain ⟨I3, c3, c4⟩ := ih (a + 1) I2 (by omega) c1
      refine ⟨I3, c3, ?_⟩
      rw [eRo_measure_46, eT hs, if_pos (lt_nJ (show a < T by omega) (by omega))]
      exact Eq.trans c2 c4
  have g5 : ∀ j k I1, k + j = T → FcS I I1 n (fun x y => if x < T ∧ y < T then FL dy k x y else FL dy 0 x y) → ∃ I2, FcS I I2 n (fun x y => if x < T ∧ y < T then FL dy T x y else FL dy 0 x y) ∧ ev d mRo_measure 40 [vR (8, n), vI (nJ k), vU, vU, vU] [] (hh I1 J) = some (none, hh I2 J) := by
    intro j
    induction j with
    | zero =>
      intro k I1 hk hs
      obtain rfl : k = T := by omega
      exact ⟨I1, hs, by rw [eRo_measure_40, eT hs, if_neg (nlt_nJ (Nat.le_refl k) (by omega))]⟩
    | succ j ih =>
      intro k I1 hk hs
      obtain ⟨I2, c1, c2⟩ := g4 k (by omega) T 0 I1 (by omega) (hs.ext fun x y _ _ => by
        by_cases e : x < T ∧ y < T
        · rw [if_pos e, if_pos e]
          unfold Fm
          rw [if_neg (by omega)]
        · rw [if_neg e, if_neg e])
      obtain ⟨I3, c3, c4⟩ := ih (k + 1) I2 (by omega) c1
      refine ⟨I3, c3, ?_⟩
      rw [eRo_measure_40, eT hs, if_pos (lt_nJ (show k < T by omega) (by omega))]
      exact Eq.trans c2 c4
  obtain ⟨I4, s4, q4⟩ := g5 T 0 I3 (by omega) (s2.ext fun x y _ _ => by split <;> rfl)
  have q4 : ev d mRo_measure 40 [vR (8, n), vI 0, vU, vU, vU] [] (hh I3 J) = _ := q4
  refine ⟨I4, s4.1, fun a b ha hb => ?_, ?_⟩
  · have : I4 (11, n) (8 * a + b) = nJ (if a < T ∧ b < T then FL dy T a b else FL dy 0 a b) := s4.2 a b (by omega) (by omega)
    rw [if_pos ⟨ha, hb⟩] at this
    exact this
  · rw [eRo_measure_0, q1, q2, q4]
