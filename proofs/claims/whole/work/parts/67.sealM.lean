/-! the reference's sealing and paying -/
theorem b_or_same : ∀ z, z < 64 → ∀ k, k < 6 → z.testBit k = true → (z ||| 2 ^ k) = z := by decide +kernel
theorem slF_no {z : Nat} {p : Nat → Bool} (h : ∀ k, p k = false) : ∀ n, slF z p n = z
  | 0 => rfl
  | n + 1 => by
    unfold slF
    rw [h n]
    exact slF_no h n
theorem psF_no {q : Nat} {p : Nat → Bool} {fe : Nat → Nat} (h : ∀ k, p k = false) : ∀ n, psF q p fe n = q
  | 0 => rfl
  | n + 1 => by
    unfold psF
    rw [h n]
    exact psF_no h n
theorem beq_f {a b : Nat} (h : a ≠ b) : Nat.beq a b = false := by
  cases hq : Nat.beq a b
  · rfl
  · rw [Nat.beq_eq] at hq; exact absurd hq h
theorem blt_succ (i k : Nat) : Nat.blt i (k + 1) = (Nat.blt i k || Nat.beq i k) := by
  rw [Bool.eq_iff_iff]
  simp only [Bool.or_eq_true, Nat.blt_eq, Nat.beq_eq]
  omega
def SpM (I A Ac : IT) (n w u D z p q S k : Nat) : Prop :=
  Ac (44, 0) 6 = nJ (slF z (okS I n w u D) S) ∧ Ac (44, 0) 7 = nJ (slF p (pyS I n w u D z) k) ∧ Ac (55, 0) w = nJ (psF q (pyS I n w u D z) (fe0 I) k) ∧
  (∀ i, Ac (51, 0) i = bif Nat.blt i k && pyS I n w u D z i then -1 else A (51, 0) i) ∧
  (∀ a i, ¬ (a = (44, 0) ∧ (i = 6 ∨ i = 7)) → ¬ (a = (55, 0) ∧ i = w) → a ≠ (51, 0) → Ac a i = A a i)
theorem pay_go (d n w u D z p q S T N G c : Nat) (I A : IT) (B : JT) (hro : RoR (scC I 0) (scM A) T S N) (hwk : WkR (scC I n) (scM A) T S N G) (hw : w < N) (hz : z < 64) (hp : p < 64) (hq : q < 10000) (hu : u < T) (eu : I (18, n) w = nJ u) :
    ∀ (j k : Nat) (Ac : IT), k + j = S → SpM I A Ac n w u D z p q S k → Tr (ev (d + 1) mMo_sealsAll 56 [vR (43, 0), vI (nJ w), vI (nJ c), vI (nJ k)] [] (hh Ac B)) (fun v A' B' => v = some (vI (nJ c)) ∧ SpM I A A' n w u D z p q S S ∧ B' = B) := by
  obtain ⟨⟨hT, hS, hN, -⟩, ⟨-, -, -, -, m3, -, -⟩, -, -, hse, -⟩ := hro
  obtain ⟨-, -, -, -, -, hwa, hso, -⟩ := hwk
  have m3 : A (44, 0) 3 = nJ S := m3
  have ew : A (53, 0) w = nJ u := (show I (18, n) w = A (53, 0) w from (hwa w hw).1.1).symm.trans eu
  intro j
  induction j with
  | zero =>
    intro k Ac hk hi
    obtain rfl : k = S := by omega
    have c3 : Ac (44, 0) 3 = nJ k := (hi.2.2.2.2 (44, 0) 3 (fun q => by omega) (fun q => by cases q.1) (fun q => by cases q)).trans m3
    rw [eMo_sealsAll_56, c3, if_neg (nlt_nJ (Nat.le_refl k) (by omega))]
    exact Tr.ret ⟨rfl, hi, rfl⟩
  | succ j ih =>
    intro k Ac hk hi
    obtain ⟨i1, i2, i3, i4, i5⟩ := id hi
    have hk6 : k < 6 := by omega
    have c3 : Ac (44, 0) 3 = nJ S := (i5 (44, 0) 3 (fun q => by omega) (fun q => by cases q.1) (fun q => by cases q)).trans m3
    have cu : Ac (53, 0) w = nJ u := (i5 (53, 0) w (fun q => by cases q.1) (fun q => by cases q.1) (fun q => by cases q)).trans ew
    have c50 : Ac (50, 0) k = A (50, 0) k := i5 (50, 0) k (fun q => by cases q.1) (fun q => by cases q.1) (fun q => by cases q)
    have c51 : Ac (51, 0) k = I (22, n) k := by
      rw [i4 k, blt_f (Nat.le_refl k)]
      exact (show I (22, n) k = A (51, 0) k from (hso k (by omega)).1.1).symm
    obtain ⟨e15, f, hf, ef⟩ := (hse k (by omega)).2.2
    have ef : I (15, 0) k = nJ f := ef
    have e15 : A (50, 0) k = nJ f := (show I (15, 0) k = A (50, 0) k from e15).symm.trans ef
    have tf : fe0 I k = f := by unfold fe0; rw [ef]; exact nJ_nat (by omega)
    have hsl := slF_lt (p := okS I n w u D) hz S hS
    have hsl2 := slF_lt (p := pyS I n w u D z) hp k (by omega)
    have hps := psF_lt (p := pyS I n w u D z) (fe := fe0 I) hq k
    rw [eMo_sealsAll_56, c3, if_pos (lt_nJ (show k < S by omega) (by omega)), bnd (show w < 3 by omega) (by omega), nJ_nat (show w < 2147483648 by omega), cu]
    by_cases hu0 : u = 0
    · rw [if_pos (show nJ u = 0 by rw [hu0]; rfl), bnd hk6 (by omega), nJ_nat (show k < 2147483648 by omega), c51, nJ_succ]
      by_cases ho : I (22, n) k = nJ w
      · have o1 : ow I n w k = true := by simp [ow, ho]
        have hbit := slF_bit (p := okS I n w u D) hz S hS k hk6
        rw [blt_t (show k < S by omega), Bool.true_and] at hbit
        have hpy : pyS I n w u D z k = (z.testBit k || okS I n w u D k) := by
          unfold pyS
          rw [hu0, o1]
          simp
        rw [if_pos ho, i1, mHas _ _ _ hsl hk6, bI_some, bif2, hbit]
        cases hzk : (z.testBit k || okS I n w u D k)
        · rw [hzk] at hpy
          rw [if_neg (by decide), gI_hh, gJ_hh]
          refine ih (k + 1) Ac (by omega) ⟨i1, ?_, ?_, fun i => ?_, i5⟩
          · rw [i2]
            show _ = nJ (bif pyS I n w u D z k then _ else _)
            rw [hpy]
            rfl
          · rw [i3]
            show _ = nJ (bif pyS I n w u D z k then _ else _)
            rw [hpy]
            rfl
          · rw [i4 i, blt_succ]
            by_cases e : i = k
            · subst e
              rw [hpy]
              simp
            · rw [beq_f e, Bool.or_false]
        · rw [hzk] at hpy
          have hfin : ∀ x, x = nJ (psF q (pyS I n w u D z) (fe0 I) (k + 1)) → Tr (ev (d + 1) mMo_sealsAll 56 [vR (43, 0), vI (nJ w), vI (nJ c), vI (nJ (k + 1))] [] (hh (up2 (up2 (up2 Ac (55, 0) w x) (44, 0) 7 (nJ (slF p (pyS I n w u D z) k) ||| (1 <<< (nJ k &&& 31)))) (51, 0) k (-1)) B)) (fun v A' B' => v = some (vI (nJ c)) ∧ SpM I A A' n w u D z p q S S ∧ B' = B) := by
            intro x hx
            rw [b_or _ hsl2 k hk6, hx]
            refine ih (k + 1) _ (by omega) ⟨?_, ?_, ?_, fun i => ?_, fun a i h1 h2 h3 => ?_⟩
            · rw [up_ne _ _ _ _ (fun q => by cases q), up_neK _ _ (by decide), up_ne _ _ _ _ (fun q => by cases q)]
              exact i1
            · rw [up_ne _ _ _ _ (fun q => by cases q), up_same]
              show _ = nJ (bif pyS I n w u D z k then _ else _)
              rw [hpy]
              rfl
            · rw [up_ne _ _ _ _ (fun q => by cases q), up_ne _ _ _ _ (fun q => by cases q), up_same]
            · by_cases e : i = k
              · subst e
                rw [up_same, blt_succ, Nat.beq_refl, hpy]
                simp
              · rw [up_neK _ _ e, up_ne _ _ _ _ (fun q => by cases q), up_ne _ _ _ _ (fun q => by cases q), i4 i, blt_succ, beq_f e, Bool.or_false]
            · rw [up_ne _ _ _ _ h3, up_at, if_neg (fun q => h1 ⟨q.1, Or.inr q.2⟩), up_at, if_neg h2]
              exact i5 a i h1 h2 h3
          have hpq : psF q (pyS I n w u D z) (fe0 I) (k + 1) = min 9999 (psF q (pyS I n w u D z) (fe0 I) k + f) := by
            show (bif pyS I n w u D z k then _ else _) = _
            rw [hpy, tf]
            rfl
          simp only [if_true, bnd (show w < 3 by omega) (show 3 ≤ 100000 by decide), bnk (show w < 3 by omega) (show 3 ≤ 100000 by decide), bnd hk6 (show 6 ≤ 100000 by decide), bnk hk6 (show 6 ≤ 100000 by decide), gI_hh, gJ_hh, i2, i3, c50, e15, nJ_add]
          by_cases hc : 9999 < psF q (pyS I n w u D z) (fe0 I) k + f
          · rw [if_pos (lt_Ln (a := 9999) hc (by omega))]
            refine hfin _ ?_
            rw [hpq, Nat.min_eq_left (by omega)]
            rfl
          · rw [if_neg (nlt_Ln (b := psF q (pyS I n w u D z) (fe0 I) k + f) (a := 9999) (by omega) (by omega))]
            refine hfin _ ?_
            rw [hpq, Nat.min_eq_right (by omega)]
      · have o1 : ow I n w k = false := by simp [ow, ho]
        have hpy : pyS I n w u D z k = false := by unfold pyS; rw [o1]; simp
        rw [if_neg ho]
        refine ih (k + 1) Ac (by omega) ⟨i1, ?_, ?_, fun i => ?_, i5⟩
        · rw [i2]
          show _ = nJ (bif pyS I n w u D z k then _ else _)
          rw [hpy]
          rfl
        · rw [i3]
          show _ = nJ (bif pyS I n w u D z k then _ else _)
          rw [hpy]
          rfl
        · rw [i4 i, blt_succ]
          by_cases e : i = k
          · subst e
            rw [hpy]
            simp
          · rw [beq_f e, Bool.or_false]
    · rw [if_neg (ne_nL (b := 0) hu0 (by omega) (by decide))]
      have hpy : ∀ i, pyS I n w u D z i = false := fun i => by
        unfold pyS
        rw [beq_f hu0]
        rfl
      refine Tr.ret ⟨rfl, ⟨i1, ?_, ?_, fun i => ?_, i5⟩, rfl⟩
      · rw [i2, slF_no hpy, slF_no hpy]
      · rw [i3, psF_no hpy, psF_no hpy]
      · rw [i4 i, hpy, Bool.and_false, Bool.and_false]
theorem sealM_go (d n w u D z p q S T N G : Nat) (I A : IT) (B : JT) (hro : RoR (scC I 0) (scM A) T S N) (hwk : WkR (scC I n) (scM A) T S N G) (hw : w < N) (hz : z < 64) (hp : p < 64) (hq : q < 10000) (hu : u < T) (eu : I (18, n) w = nJ u) (eD : I (17, n) 0 = nJ D) (hD : D < 2000) (ep : A (44, 0) 7 = nJ p) (eq : A (55, 0) w = nJ q) :
    ∀ (j k : Nat) (Ac : IT), k + j = S → Ac (44, 0) 6 = nJ (slF z (okS I n w u D) k) → (∀ a i, ¬ (a = (44, 0) ∧ i = 6) → Ac a i = A a i) → Tr (ev (d + 1) mMo_sealsAll 4 [vR (43, 0), vI (nJ w), vI (nJ (cn (fun k => okS I n w u D k && !z.testBit k) k)), vI (nJ k)] [] (hh Ac B)) (fun v A' B' => v = some (vI (nJ (cn (fun k => okS I n w u D k && !z.testBit k) S))) ∧ SpM I A A' n w u D z p q S S ∧ B' = B) := by
  have hro' := hro
  have hwk' := hwk
  obtain ⟨⟨hT, hS, hN, -⟩, ⟨-, -, -, -, m3, -, -⟩, -, -, hse, -⟩ := hro
  obtain ⟨wd, -, -, -, -, hwa, hso, -⟩ := hwk
  have m3 : A (44, 0) 3 = nJ S := m3
  have mD : A (44, 0) 5 = nJ D := (show I (17, n) 0 = A (44, 0) 5 from wd).symm.trans eD
  have ew : A (53, 0) w = nJ u := (show I (18, n) w = A (53, 0) w from (hwa w hw).1.1).symm.trans eu
  intro j
  induction j with
  | zero =>
    intro k Ac hk i1 i5
    obtain rfl : k = S := by omega
    have c3 : Ac (44, 0) 3 = nJ k := (i5 (44, 0) 3 (fun q => by omega)).trans m3
    rw [eMo_sealsAll_4, c3, if_neg (nlt_nJ (Nat.le_refl k) (by omega))]
    refine pay_go d n w u D z p q k T N G _ I A B hro' hwk' hw hz hp hq hu eu k 0 Ac (by omega) ⟨i1, ?_, ?_, fun i => ?_, fun a i h1 _ _ => i5 a i (fun q => h1 ⟨q.1, Or.inl q.2⟩)⟩
    · rw [i5 _ _ (fun q => absurd q.2 (by decide))]
      exact ep
    · rw [i5 _ _ (fun q => by cases q.1)]
      exact eq
    · rw [i5 _ _ (fun q => by cases q.1), blt_f (Nat.zero_le i)]
      rfl
  | succ j ih =>
    intro k Ac hk i1 i5
    have hk6 : k < 6 := by omega
    have c3 : Ac (44, 0) 3 = nJ S := (i5 (44, 0) 3 (fun q => by omega)).trans m3
    have cu : Ac (53, 0) w = nJ u := (i5 (53, 0) w (fun q => by cases q.1)).trans ew
    have cD : Ac (44, 0) 5 = nJ D := (i5 (44, 0) 5 (fun q => by omega)).trans mD
    have c51 : Ac (51, 0) k = I (22, n) k := (i5 (51, 0) k (fun q => by cases q.1)).trans (show I (22, n) k = A (51, 0) k from (hso k (by omega)).1.1).symm
    have c48 : Ac (48, 0) k = I (13, 0) k := (i5 (48, 0) k (fun q => by cases q.1)).trans (show I (13, 0) k = A (48, 0) k from (hse k (by omega)).1.1).symm
    obtain ⟨e14, y, hy, ey⟩ := (hse k (by omega)).2.1
    have ey : I (14, 0) k = nJ y := ey
    have c49 : Ac (49, 0) k = nJ y := (i5 (49, 0) k (fun q => by cases q.1)).trans ((show I (14, 0) k = A (49, 0) k from e14).symm.trans ey)
    have ty : du0 I k = y := by unfold du0; rw [ey]; exact nJ_nat (by omega)
    have hsl := slF_lt (p := okS I n w u D) hz k (by omega)
    have hbit := slF_bit (p := okS I n w u D) hz k (by omega) k hk6
    rw [blt_f (Nat.le_refl k), Bool.false_and, Bool.or_false] at hbit
    have hih := ih (k + 1)
    have hcs : ∀ b, (okS I n w u D k && !z.testBit k) = b → cn (fun k => okS I n w u D k && !z.testBit k) (k + 1) = cn (fun k => okS I n w u D k && !z.testBit k) k + (bif b then 1 else 0) := fun b hb => by
      show _ + (bif (okS I n w u D k && !z.testBit k) then 1 else 0) = _
      rw [hb]
    have hss : ∀ b, okS I n w u D k = b → slF z (okS I n w u D) (k + 1) = bif b then slF z (okS I n w u D) k ||| 2 ^ k else slF z (okS I n w u D) k := fun b hb => by
      show (bif okS I n w u D k then _ else _) = _
      rw [hb]
    rw [eMo_sealsAll_4, c3, if_pos (lt_nJ (show k < S by omega) (by omega)), bnd hk6 (by omega), nJ_nat (show k < 2147483648 by omega), c51, nJ_succ]
    by_cases ho : I (22, n) k = nJ w
    · have o1 : ow I n w k = true := by simp [ow, ho]
      rw [if_pos ho, i1, mHas _ _ _ hsl hk6, bI_some, bif2, hbit]
      simp only [bnd (show w < 3 by omega) (show 3 ≤ 100000 by decide), bnk (show w < 3 by omega) (show 3 ≤ 100000 by decide), bnd hk6 (show 6 ≤ 100000 by decide), bnk hk6 (show 6 ≤ 100000 by decide), gI_hh, gJ_hh, c48, c49, cu, cD, i1, nJ_nat (show w < 2147483648 by omega)]
      cases hzk : z.testBit k
      · rw [if_neg (by decide)]
        by_cases hg : I (13, 0) k = nJ u
        · rw [if_pos hg]
          by_cases hd : y < D
          · rw [if_pos (lt_nJ hd (by omega))]
            have hb : okS I n w u D k = false := by
              have : Nat.ble D (du0 I k) = false := by
                rw [ty]
                cases hq : Nat.ble D y
                · rfl
                · rw [Nat.ble_eq] at hq; omega
              unfold okS
              rw [this]
              simp
            have h1 := hih Ac (by omega) (by rw [hss false hb]; exact i1) i5
            rw [hcs false (by rw [hb]; rfl)] at h1
            exact h1
          · rw [if_neg (nlt_nJ (by omega) (by omega)), b_or _ hsl k hk6, nJ_succ]
            have hb : okS I n w u D k = true := by
              have : Nat.ble D (du0 I k) = true := by rw [ty, Nat.ble_eq]; omega
              unfold okS
              rw [this, o1]
              simp [hg]
            have h1 := hih (up2 Ac (44, 0) 6 (nJ (slF z (okS I n w u D) k ||| 2 ^ k))) (by omega) (by rw [up_same, hss true hb]; rfl) (fun a i ha => (if_neg ha).trans (i5 a i ha))
            rw [hcs true (by rw [hb, hzk]; rfl)] at h1
            exact h1
        · rw [if_neg hg]
          have hb : okS I n w u D k = false := by
            unfold okS
            simp [hg]
          have h1 := hih Ac (by omega) (by rw [hss false hb]; exact i1) i5
          rw [hcs false (by rw [hb]; rfl)] at h1
          exact h1
      · rw [if_pos rfl]
        have h1 := hih Ac (by omega) (by
          rw [i1]
          cases hb : okS I n w u D k
          · rw [hss false hb]; rfl
          · rw [hss true hb]
            show _ = nJ (slF z (okS I n w u D) k ||| 2 ^ k)
            rw [b_or_same _ hsl k hk6 (by rw [hbit]; exact hzk)]) i5
        rw [hcs false (by rw [hzk]; simp)] at h1
        exact h1
    · have o1 : ow I n w k = false := by simp [ow, ho]
      have hok : okS I n w u D k = false := by unfold okS; rw [o1]; simp
      rw [if_neg ho]
      have h1 := hih Ac (by omega) (by rw [hss false hok]; exact i1) i5
      rw [hcs false (by rw [hok]; rfl)] at h1
      exact h1
theorem mSeal (d n w u D z p q S T N G : Nat) (I A : IT) (B : JT) (hro : RoR (scC I 0) (scM A) T S N) (hwk : WkR (scC I n) (scM A) T S N G) (hw : w < N) (hz : z < 64) (hp : p < 64) (hq : q < 10000) (hu : u < T) (eu : I (18, n) w = nJ u) (eD : I (17, n) 0 = nJ D) (hD : D < 2000) (ez : A (44, 0) 6 = nJ z) (ep : A (44, 0) 7 = nJ p) (eq : A (55, 0) w = nJ q) :
    Tr (ev (d + 1) mMo_sealsAll 0 [vR (43, 0), vI (nJ w), vU, vU] [] (hh A B)) (fun v A' B' => v = some (vI (nJ (cn (fun k => okS I n w u D k && !z.testBit k) S))) ∧ SpM I A A' n w u D z p q S S ∧ B' = B) := by
  rw [eMo_sealsAll_0]
  exact sealM_go d n w u D z p q S T N G I A B hro hwk hw hz hp hq hu eu eD hD ep eq S 0 A (by omega) ez (fun _ _ _ => rfl)
