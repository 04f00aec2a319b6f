/-! SEALING AND PAYING: both sides -/
def okS (I : IT) (n w u D : Nat) : Nat → Bool := fun k => ow I n w k && (decide (I (13, 0) k = nJ u) && Nat.ble D (du0 I k))
def slF (z : Nat) (p : Nat → Bool) : Nat → Nat
  | 0 => z
  | k + 1 => bif p k then slF z p k ||| 2 ^ k else slF z p k
theorem slF_lt {z : Nat} {p : Nat → Bool} (hz : z < 64) : ∀ n, n ≤ 6 → slF z p n < 64
  | 0, _ => hz
  | n + 1, h => by
    unfold slF
    have := slF_lt (p := p) hz n (by omega)
    cases p n
    · exact this
    · exact b_or_lt _ this n (by omega)
theorem slF_bit {z : Nat} {p : Nat → Bool} (hz : z < 64) : ∀ n, n ≤ 6 → ∀ k, k < 6 → (slF z p n).testBit k = (z.testBit k || (Nat.blt k n && p k))
  | 0, _, k, _ => by
    rw [blt_f (Nat.zero_le k)]
    simp [slF]
  | n + 1, h, k, hk => by
    have ih := slF_bit (p := p) hz n (by omega) k hk
    have hl := slF_lt (p := p) hz n (by omega)
    have hb : Nat.blt k (n + 1) = (Nat.blt k n || Nat.beq k n) := by
      rw [Bool.eq_iff_iff]
      simp only [Bool.or_eq_true, Nat.blt_eq, Nat.beq_eq]
      omega
    unfold slF
    rw [hb]
    by_cases e : k = n
    · subst e
      rw [Nat.beq_refl k, Bool.or_true, Bool.true_and]
      rw [blt_f (Nat.le_refl k)] at ih
      cases hp : p k
      · rw [show (bif false then slF z p k ||| 2 ^ k else slF z p k) = slF z p k from rfl, ih]
        simp
      · rw [show (bif true then slF z p k ||| 2 ^ k else slF z p k) = slF z p k ||| 2 ^ k from rfl, b_or_t _ hl k hk k hk, Nat.beq_refl k]
        simp
    · have h1 : Nat.beq k n = false := by
        cases hq : Nat.beq k n
        · rfl
        · rw [Nat.beq_eq] at hq; exact absurd hq e
      rw [h1, Bool.or_false]
      cases hp : p n
      · exact ih
      · rw [show (bif true then slF z p n ||| 2 ^ n else slF z p n) = slF z p n ||| 2 ^ n from rfl, b_or_t _ hl n (by omega) k hk, h1, Bool.or_false]
        exact ih
theorem cn_or {p q : Nat → Bool} : ∀ n, cn (fun k => p k || q k) n = cn p n + cn (fun k => q k && !p k) n
  | 0 => rfl
  | n + 1 => by
    unfold cn
    rw [cn_or n]
    cases p n <;> cases q n <;> simp <;> omega
theorem pop_sl {z : Nat} {p : Nat → Bool} {S : Nat} (hz : z < 64) (hS : S ≤ 6) : pop8 (slF z p S) = pop8 z + cn (fun k => p k && !z.testBit k) S := by
  rw [pop_cn _ (slF_lt hz S hS), cn_ext (p' := fun k => z.testBit k || (Nat.blt k S && p k)) 6 (fun k hk => slF_bit hz S hS k hk), cn_or, pop_cn z hz]
  congr 1
  rw [cn_six (p := fun k => Nat.blt k S && p k && !z.testBit k) hS (fun k h1 _ => by simp [blt_f h1])]
  exact cn_ext S (fun k hk => by simp [blt_t hk])
/-- who is at home is paid -/
def pyS (I : IT) (n w u D z : Nat) : Nat → Bool := fun k => Nat.beq u 0 && (ow I n w k && (z.testBit k || okS I n w u D k))
def psF (q : Nat) (p : Nat → Bool) (fe : Nat → Nat) : Nat → Nat
  | 0 => q
  | k + 1 => bif p k then min 9999 (psF q p fe k + fe k) else psF q p fe k
theorem psF_lt {q : Nat} {p : Nat → Bool} {fe : Nat → Nat} (hq : q < 10000) : ∀ n, psF q p fe n < 10000
  | 0 => hq
  | n + 1 => by
    unfold psF
    cases p n
    · exact psF_lt hq n
    · show min 9999 _ < 10000
      omega
def fe0 (I : IT) : Nat → Nat := fun k => tn (I (15, 0) k)
/-- how it is once the first k are gone through -/
def SpI (I Ic : IT) (n w u D z p q k : Nat) : Prop :=
  Ic (17, n) 1 = nJ (slF z (okS I n w u D) k) ∧ Ic (17, n) 2 = nJ (slF p (pyS I n w u D z) k) ∧ Ic (20, n) w = nJ (psF q (pyS I n w u D z) (fe0 I) k) ∧
  (∀ i, Ic (22, n) i = bif Nat.blt i k && pyS I n w u D z i then -1 else I (22, n) i) ∧
  (∀ a i, ¬ (a = (17, n) ∧ (i = 1 ∨ i = 2)) → ¬ (a = (20, n) ∧ i = w) → a ≠ (22, n) → Ic a i = I a i)
theorem seal_go (d n w u D z p q S T N : Nat) (I : IT) (J : JT) (hS : S ≤ 6) (hw : w < 3) (hz : z < 64) (hp : p < 64) (hq : q < 10000) (hD : D < 2000) (hu : u < T) (hT : T ≤ 8) (e3 : I (8, 0) 3 = nJ S) (eu : I (18, n) w = nJ u) (eD : I (17, n) 0 = nJ D)
    (hdu : ∀ k, k < S → ∃ x, x < 300 ∧ I (14, 0) k = nJ x) (hfe : ∀ k, k < S → ∃ x, x < 100 ∧ I (15, 0) k = nJ x) :
    ∀ (j k : Nat) (Ic : IT), k + j = S → SpI I Ic n w u D z p q k → Tr (ev d mWa_sealAndPay 2 [vR (17, n), vR (8, 0), vI (nJ w), vI (nJ k), vU] [] (hh Ic J)) (fun v I' J' => v = none ∧ SpI I I' n w u D z p q S ∧ J' = J) := by
  intro j
  induction j with
  | zero =>
    intro k Ic hk hi
    obtain rfl : k = S := by omega
    have c3 : Ic (8, 0) 3 = nJ k := (hi.2.2.2.2 (8, 0) 3 (fun q => by cases q.1) (fun q => by cases q.1) (fun q => by cases q)).trans e3
    rw [eWa_sealAndPay_2, c3, if_neg (nlt_nJ (Nat.le_refl k) (by omega))]
    exact Tr.ret ⟨rfl, hi, rfl⟩
  | succ j ih =>
    intro k Ic hk hi
    obtain ⟨i1, i2, i3, i4, i5⟩ := id hi
    have hk6 : k < 6 := by omega
    have c3 : Ic (8, 0) 3 = nJ S := (i5 (8, 0) 3 (fun q => by cases q.1) (fun q => by cases q.1) (fun q => by cases q)).trans e3
    have cu : Ic (18, n) w = nJ u := (i5 (18, n) w (fun q => by cases q.1) (fun q => by cases q.1) (fun q => by cases q)).trans eu
    have cD : Ic (17, n) 0 = nJ D := (i5 (17, n) 0 (fun q => by omega) (fun q => by cases q.1) (fun q => by cases q)).trans eD
    have c13 : Ic (13, 0) k = I (13, 0) k := i5 (13, 0) k (fun q => by cases q.1) (fun q => by cases q.1) (fun q => by cases q)
    have c14 : Ic (14, 0) k = I (14, 0) k := i5 (14, 0) k (fun q => by cases q.1) (fun q => by cases q.1) (fun q => by cases q)
    have c15 : Ic (15, 0) k = I (15, 0) k := i5 (15, 0) k (fun q => by cases q.1) (fun q => by cases q.1) (fun q => by cases q)
    have c22 : Ic (22, n) k = I (22, n) k := by rw [i4 k, blt_f (Nat.le_refl k)]; rfl
    obtain ⟨y, hy, ey⟩ := hdu k (by omega)
    obtain ⟨f, hf, ef⟩ := hfe k (by omega)
    have ty : du0 I k = y := by unfold du0; rw [ey]; exact nJ_nat (by omega)
    have tf : fe0 I k = f := by unfold fe0; rw [ef]; exact nJ_nat (by omega)
    have hsl := slF_lt (p := okS I n w u D) hz k (by omega)
    have hsl2 := slF_lt (p := pyS I n w u D z) hp k (by omega)
    have hps := psF_lt (p := pyS I n w u D z) (fe := fe0 I) hq k
    have hbs : ∀ i, Nat.blt i (k + 1) = (Nat.blt i k || Nat.beq i k) := fun i => by
      rw [Bool.eq_iff_iff]
      simp only [Bool.or_eq_true, Nat.blt_eq, Nat.beq_eq]
      omega
    rw [eWa_sealAndPay_2, c3, if_pos (lt_nJ (show k < S by omega) (by omega)), bnd hk6 (by omega), nJ_nat (show k < 2147483648 by omega), c22, nJ_succ]
    by_cases ho : I (22, n) k = nJ w
    · have o1 : ow I n w k = true := by simp [ow, ho]
      rw [if_pos ho]
      simp only [bnd hk6 (show 6 ≤ 100000 by decide), bnk hk6 (show 6 ≤ 100000 by decide), bnd hw (show 3 ≤ 100000 by decide), bnk hw (show 3 ≤ 100000 by decide), nJ_nat (show w < 2147483648 by omega), c13, c14, c15, cu, cD, ey, ef, i1, i2, i3, gI_hh, gJ_hh]
      -- is it sealed now
      have key : ∀ (b : Bool), okS I n w u D k = b → Tr (if nJ u = 0 then if (nJ (slF z (okS I n w u D) (k + 1)) &&& (1 <<< (nJ k &&& 31))) = 0 then ev d mWa_sealAndPay 2 [vR (17, n), vR (8, 0), vI (nJ w), vI (nJ (k + 1)), vU] [] (hh (bif b then up2 Ic (17, n) 1 (nJ (slF z (okS I n w u D) (k + 1))) else Ic) J) else ev d mWa_sealAndPay 2 [vR (17, n), vR (8, 0), vI (nJ w), vI (nJ (k + 1)), vU] [] (hh (up2 (up2 (up2 (bif b then up2 Ic (17, n) 1 (nJ (slF z (okS I n w u D) (k + 1))) else Ic) (17, n) 2 (nJ (slF p (pyS I n w u D z) k) ||| (1 <<< (nJ k &&& 31)))) (20, n) w (if nJ (psF q (pyS I n w u D z) (fe0 I) k) + nJ f < 9999 then nJ (psF q (pyS I n w u D z) (fe0 I) k) + nJ f else 9999)) (22, n) k (-1)) J) else ev d mWa_sealAndPay 2 [vR (17, n), vR (8, 0), vI (nJ w), vI (nJ (k + 1)), vU] [] (hh (bif b then up2 Ic (17, n) 1 (nJ (slF z (okS I n w u D) (k + 1))) else Ic) J)) (fun v I' J' => v = none ∧ SpI I I' n w u D z p q S ∧ J' = J) := by
        intro b hb
        have hsk : slF z (okS I n w u D) (k + 1) = bif b then slF z (okS I n w u D) k ||| 2 ^ k else slF z (okS I n w u D) k := by
          show (bif okS I n w u D k then _ else _) = _
          rw [hb]
        -- the heap behind the seal
        have hI1 : SpI I (bif b then up2 Ic (17, n) 1 (nJ (slF z (okS I n w u D) (k + 1))) else Ic) n w u D z p q k ∨ True := Or.inr trivial
        have g1 : (bif b then up2 Ic (17, n) 1 (nJ (slF z (okS I n w u D) (k + 1))) else Ic) (17, n) 1 = nJ (slF z (okS I n w u D) (k + 1)) := by
          cases b
          · show Ic (17, n) 1 = _
            rw [i1, hsk]
            rfl
          · exact up_same _ _ _ _
        have g5 : ∀ a i, ¬ (a = (17, n) ∧ i = 1) → (bif b then up2 Ic (17, n) 1 (nJ (slF z (okS I n w u D) (k + 1))) else Ic) a i = Ic a i := by
          intro a i ha
          cases b
          · rfl
          · exact if_neg ha
        generalize (bif b then up2 Ic (17, n) 1 (nJ (slF z (okS I n w u D) (k + 1))) else Ic) = Ib at g1 g5 ⊢
        have hsl1 := slF_lt (p := okS I n w u D) hz (k + 1) (by omega)
        have hbit := slF_bit (p := okS I n w u D) hz (k + 1) (by omega) k hk6
        rw [blt_t (Nat.lt_succ_self k), Bool.true_and] at hbit
        by_cases hu0 : u = 0
        · rw [if_pos (show nJ u = 0 by rw [hu0]; rfl), b_and _ hsl1 k hk6, hbit]
          have hpy : pyS I n w u D z k = (z.testBit k || okS I n w u D k) := by
            unfold pyS
            rw [hu0, o1]
            simp
          cases hzk : (z.testBit k || okS I n w u D k)
          · rw [if_pos (show nJ (bif false then 2 ^ k else 0) = 0 from rfl)]
            rw [hzk] at hpy
            refine ih (k + 1) Ib (by omega) ⟨g1, ?_, ?_, fun i => ?_, fun a i h1 h2 h3 => ?_⟩
            · rw [g5 _ _ (fun q => absurd q.2 (by decide)), i2]
              show _ = nJ (bif pyS I n w u D z k then _ else _)
              rw [hpy]
              rfl
            · rw [g5 _ _ (fun q => by cases q.1), i3]
              show _ = nJ (bif pyS I n w u D z k then _ else _)
              rw [hpy]
              rfl
            · rw [g5 _ _ (fun q => by cases q.1), i4 i, hbs i]
              by_cases e : i = k
              · subst e
                rw [hpy]
                simp
              · have : Nat.beq i k = false := by
                  cases hq : Nat.beq i k
                  · rfl
                  · rw [Nat.beq_eq] at hq; exact absurd hq e
                rw [this, Bool.or_false]
            · rw [g5 _ _ (fun q => h1 ⟨q.1, Or.inl q.2⟩)]
              exact i5 a i h1 h2 h3
          · have hne : ¬ nJ (bif true then 2 ^ k else 0) = 0 := by
              have hk2 : ∀ k, k < 6 → ¬ nJ (bif true then 2 ^ k else 0) = 0 := by decide
              exact hk2 k hk6
            rw [if_neg hne]
            rw [hzk] at hpy
            have hpur : (if nJ (psF q (pyS I n w u D z) (fe0 I) k) + nJ f < 9999 then nJ (psF q (pyS I n w u D z) (fe0 I) k) + nJ f else 9999) = nJ (psF q (pyS I n w u D z) (fe0 I) (k + 1)) := by
              show _ = nJ (bif pyS I n w u D z k then _ else _)
              rw [hpy, nJ_add, tf]
              show _ = nJ (min 9999 _)
              by_cases hc : psF q (pyS I n w u D z) (fe0 I) k + f < 9999
              · rw [if_pos (lt_nL (b := 9999) hc (by decide)), Nat.min_eq_right (by omega)]
              · rw [if_neg (nlt_nL (b := 9999) (by omega) (by omega)), Nat.min_eq_left (by omega)]
                rfl
            rw [hpur, b_or _ hsl2 k hk6]
            refine ih (k + 1) _ (by omega) ⟨?_, ?_, ?_, fun i => ?_, fun a i h1 h2 h3 => ?_⟩
            · rw [up_ne _ _ _ _ (fun q => by cases q), up_ne _ _ _ _ (fun q => by cases q), up_neK _ _ (by decide)]
              exact g1
            · rw [up_ne _ _ _ _ (fun q => by cases q), up_ne _ _ _ _ (fun q => by cases q), up_same]
              show _ = nJ (bif pyS I n w u D z k then _ else _)
              rw [hpy]
              rfl
            · rw [up_ne _ _ _ _ (fun q => by cases q), up_same]
            · by_cases e : i = k
              · subst e
                rw [up_same, hbs, Nat.beq_refl, hpy]
                simp
              · have : Nat.beq i k = false := by
                  cases hq : Nat.beq i k
                  · rfl
                  · rw [Nat.beq_eq] at hq; exact absurd hq e
                rw [up_neK _ _ e, up_ne _ _ _ _ (fun q => by cases q), up_ne _ _ _ _ (fun q => by cases q), g5 _ _ (fun q => by cases q.1), i4 i, hbs i, this, Bool.or_false]
            · rw [up_ne _ _ _ _ h3, up_at, if_neg h2, up_at, if_neg (fun q => h1 ⟨q.1, Or.inr q.2⟩), g5 _ _ (fun q => h1 ⟨q.1, Or.inl q.2⟩)]
              exact i5 a i h1 h2 h3
        · rw [if_neg (ne_nL (b := 0) hu0 (by omega) (by decide))]
          have hpy : ∀ i, pyS I n w u D z i = false := fun i => by
            unfold pyS
            have : Nat.beq u 0 = false := by
              cases hq : Nat.beq u 0
              · rfl
              · rw [Nat.beq_eq] at hq; exact absurd hq hu0
            rw [this]
            rfl
          refine ih (k + 1) Ib (by omega) ⟨g1, ?_, ?_, fun i => ?_, fun a i h1 h2 h3 => ?_⟩
          · rw [g5 _ _ (fun q => absurd q.2 (by decide)), i2]
            show _ = nJ (bif pyS I n w u D z k then _ else _)
            rw [hpy]
            rfl
          · rw [g5 _ _ (fun q => by cases q.1), i3]
            show _ = nJ (bif pyS I n w u D z k then _ else _)
            rw [hpy]
            rfl
          · rw [g5 _ _ (fun q => by cases q.1), i4 i, hpy, Bool.and_false, Bool.and_false]
          · rw [g5 _ _ (fun q => h1 ⟨q.1, Or.inl q.2⟩)]
            exact i5 a i h1 h2 h3
      have hsk0 : ∀ b, okS I n w u D k = b → slF z (okS I n w u D) (k + 1) = bif b then slF z (okS I n w u D) k ||| 2 ^ k else slF z (okS I n w u D) k := fun b hb => by
        show (bif okS I n w u D k then _ else _) = _
        rw [hb]
      by_cases hg : I (13, 0) k = nJ u
      · rw [if_pos hg]
        by_cases hd : y < D
        · rw [if_pos (lt_nJ hd (by omega))]
          have hb : okS I n w u D k = false := by
            have : Nat.ble D (du0 I k) = false := by
              rw [ty]
              cases hq : Nat.ble D y
              · rfl
              · rw [Nat.ble_eq] at hq; omega
            unfold okS
            rw [this]
            simp
          have := key false hb
          rw [hsk0 false hb] at this
          exact this
        · rw [if_neg (nlt_nJ (by omega) (by omega))]
          have hb : okS I n w u D k = true := by
            have : Nat.ble D (du0 I k) = true := by rw [ty, Nat.ble_eq]; omega
            unfold okS
            rw [this, o1]
            simp [hg]
          have := key true hb
          rw [hsk0 true hb] at this
          simp only [up_same, up_neK _ _ (show (2 : Nat) ≠ 1 by decide), i2, b_or _ hsl k hk6]
          exact this
      · rw [if_neg hg]
        have hb : okS I n w u D k = false := by
          unfold okS
          simp [hg]
        have := key false hb
        rw [hsk0 false hb] at this
        exact this
    · have o1 : ow I n w k = false := by simp [ow, ho]
      have hpy : pyS I n w u D z k = false := by unfold pyS; rw [o1]; simp
      have hok : okS I n w u D k = false := by unfold okS; rw [o1]; simp
      rw [if_neg ho]
      refine ih (k + 1) Ic (by omega) ⟨?_, ?_, ?_, fun i => ?_, i5⟩
      · rw [i1]
        show _ = nJ (bif okS I n w u D k then _ else _)
        rw [hok]
        rfl
      · rw [i2]
        show _ = nJ (bif pyS I n w u D z k then _ else _)
        rw [hpy]
        rfl
      · rw [i3]
        show _ = nJ (bif pyS I n w u D z k then _ else _)
        rw [hpy]
        rfl
      · rw [i4 i, hbs i]
        by_cases e : i = k
        · subst e
          rw [hpy]
          simp
        · have : Nat.beq i k = false := by
            cases hq : Nat.beq i k
            · rfl
            · rw [Nat.beq_eq] at hq; exact absurd hq e
          rw [this, Bool.or_false]
theorem cSeal (d n w u D z p q S T N : Nat) (I : IT) (J : JT) (hS : S ≤ 6) (hw : w < 3) (hz : z < 64) (hp : p < 64) (hq : q < 10000) (hD : D < 2000) (hu : u < T) (hT : T ≤ 8) (e3 : I (8, 0) 3 = nJ S) (eu : I (18, n) w = nJ u) (eD : I (17, n) 0 = nJ D) (ez : I (17, n) 1 = nJ z) (ep : I (17, n) 2 = nJ p) (eq : I (20, n) w = nJ q)
    (hdu : ∀ k, k < S → ∃ x, x < 300 ∧ I (14, 0) k = nJ x) (hfe : ∀ k, k < S → ∃ x, x < 100 ∧ I (15, 0) k = nJ x) :
    Tr (ev d mWa_sealAndPay 0 [vR (17, n), vR (8, 0), vI (nJ w), vU, vU] [] (hh I J)) (fun v I' J' => v = none ∧ SpI I I' n w u D z p q S ∧ J' = J) := by
  rw [eWa_sealAndPay_0]
  exact seal_go d n w u D z p q S T N I J hS hw hz hp hq hD hu hT e3 eu eD hdu hfe S 0 I (by omega) ⟨ez, ep, eq, fun i => by rw [blt_f (Nat.zero_le i)]; rfl, fun _ _ _ _ _ => rfl⟩
