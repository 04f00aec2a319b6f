/-! SEALS: the least cut -/
def fbd (I : IT) : Nat → Nat
  | 0 => 1
  | t + 1 => if I (9, 0) (t + 1) = 0 then fbd I t else fbd I t ||| 2 ^ (t + 1)
theorem fbd_lt {I : IT} : ∀ t, t < 8 → fbd I t < 256
  | 0, _ => (show (1 : Nat) < 256 by decide)
  | t + 1, h => by
    unfold fbd
    split
    · exact fbd_lt t (by omega)
    · exact or_lt8 (fbd_lt t (by omega)) (p_lt8 h)
theorem fbd_bit {I : IT} : ∀ t, t < 8 → ∀ b, (fbd I t).testBit b = true ↔ b = 0 ∨ (1 ≤ b ∧ b ≤ t ∧ I (9, 0) b ≠ 0)
  | 0, _, b => by
    show Nat.testBit 1 b = true ↔ _
    have : Nat.testBit 1 b = decide (0 = b) := Nat.testBit_two_pow (n := 0) (m := b)
    rw [this, decide_eq_true_iff]
    omega
  | t + 1, h, b => by
    have ih := fbd_bit (I := I) t (by omega) b
    unfold fbd
    by_cases e : I (9, 0) (t + 1) = 0
    · rw [if_pos e, ih]
      constructor
      · rintro (h | ⟨h1, h2, h3⟩)
        · exact Or.inl h
        · exact Or.inr ⟨h1, by omega, h3⟩
      · rintro (h | ⟨h1, h2, h3⟩)
        · exact Or.inl h
        · refine Or.inr ⟨h1, ?_, h3⟩
          by_cases e' : b = t + 1
          · rw [e'] at h3
            exact absurd e h3
          · omega
    · rw [if_neg e, Nat.testBit_or, Bool.or_eq_true, ih, Nat.testBit_two_pow, decide_eq_true_iff]
      constructor
      · rintro ((h | ⟨h1, h2, h3⟩) | h)
        · exact Or.inl h
        · exact Or.inr ⟨h1, by omega, h3⟩
        · exact Or.inr ⟨by omega, by omega, by rw [← h]; exact e⟩
      · rintro (h | ⟨h1, h2, h3⟩)
        · exact Or.inl (Or.inl h)
        · by_cases e' : b = t + 1
          · exact Or.inr e'.symm
          · exact Or.inl (Or.inr ⟨h1, by omega, h3⟩)
theorem barr_go {I : IT} {J : JT} {T : Nat} (d : Nat) (x1 : Int32) (hT : T ≤ 8) (e2 : I (8, 0) 2 = nJ T) : ∀ j t, t + 1 + j = T → ev (d + 1) mRo_leastCut 4 [vR (8, 0), vI x1, vI (nJ (fbd I t)), vI (nJ (t + 1)), vU, vU, vU] [] (hh I J) = ev (d + 1) mRo_leastCut 29 [vR (8, 0), vI x1, vI (nJ (fbd I (T - 1))), vI (-1), vI 9, vI 0, vU] [] (hh I J) := by
  intro j
  induction j with
  | zero =>
    intro t ht
    obtain rfl : T = t + 1 := by omega
    rw [eRo_leastCut_4, e2, if_neg (nlt_nJ (Nat.le_refl _) (by omega))]
    rfl
  | succ j ih =>
    intro t ht
    have h1 := ih (t + 1) (by omega)
    rw [eRo_leastCut_4, e2, if_pos (lt_nJ (show t + 1 < T by omega) (by omega)), bnd (show t + 1 < 8 by omega) (by omega), nJ_nat (by omega), nJ_succ]
    by_cases e : I (9, 0) (t + 1) = 0
    · rw [if_pos e]
      simp only [fbd, if_pos e] at h1
      rw [or_zero32]
      exact h1
    · rw [if_neg e, b8_sh _ (by omega), nJ_or2]
      simp only [fbd, if_neg e] at h1
      exact h1
def fwr : Option Nat → Nat → Bool
  | none, _ => true
  | some b, s => Nat.blt (pop8 s) (pop8 b)
/-- the least of those below s -/
def lsb (ok : Nat → Bool) : Nat → Option Nat
  | 0 => none
  | s + 1 => bif ok s && fwr (lsb ok s) s then some s else lsb ok s
theorem lsb_lt {ok : Nat → Bool} : ∀ s b, lsb ok s = some b → b < s
  | 0, _, h => by cases h
  | s + 1, b, h => by
    unfold lsb at h
    cases e : (ok s && fwr (lsb ok s) s) with
    | true =>
      rw [e] at h
      cases h
      omega
    | false =>
      rw [e] at h
      have := lsb_lt s b h
      omega
theorem pop8_le (z : Nat) : pop8 z ≤ 8 := by
  unfold pop8
  omega
def cB : Option Nat → Int32
  | none => -1
  | some b => nJ b
def cP : Option Nat → Int32
  | none => 9
  | some b => nJ (pop8 b)
def mB : Option Nat → Int32
  | none => -2
  | some b => nJ b
theorem cut_go {I : IT} {J : JT} {T k fb : Nat} {near : Nat → Nat} (d : Nat) (hT : T ≤ 8) (hk : k < 8) (e2 : I (8, 0) 2 = nJ T) (hfb : fb < 256) (hn : ∀ a, a < T → near a < 256 ∧ I (12, 0) a = nJ (near a)) (ok : Nat → Bool) (hok : ∀ s, s < 2 ^ T → (ok s = true ↔ s &&& fb = 0 ∧ (tkt near s T 8 1).testBit k = false)) : ∀ j s, s + j = 2 ^ T → ev (d + 1) mRo_leastCut 29 [vR (8, 0), vI (nJ k), vI (nJ fb), vI (cB (lsb ok s)), vI (cP (lsb ok s)), vI (nJ s), vU] [] (hh I J) = some (some (vI (cB (lsb ok (2 ^ T)))), hh I J) := by
  have h2T : 2 ^ T ≤ 256 := Nat.pow_le_pow_right (n := 2) (by decide) hT
  intro j
  induction j with
  | zero =>
    intro s hs
    obtain rfl : s = 2 ^ T := by omega
    rw [eRo_leastCut_29, e2, b8_sh T (by omega), if_neg (nlt_nJ (Nat.le_refl _) (by omega))]
  | succ j ih =>
    intro s hs
    have hsT : s < 2 ^ T := by omega
    have hi := ih (s + 1) (by omega)
    have hr : ev d mRo_isReached 0 [vR (8, 0), vI (nJ k), vI (nJ s), vU, vU, vU, vU] [] (hh I J) = some (some (vI (if (tkt near s T 8 1).testBit k = true then 1 else 0)), hh I J) := by
      rw [eRo_isReached_0]
      exact cReach (I := I) (J := J) d hT hk e2 (show s < 256 by omega) hn 8 0 1 0 rfl (by decide) (by decide) (fun z => absurd z (by decide))
    have hb := lsb_lt (ok := ok) s
    have hlt : (nJ (pop8 s) < cP (lsb ok s)) ↔ fwr (lsb ok s) s = true := by
      have := pop8_le s
      cases e : lsb ok s with
      | none => exact ⟨fun _ => rfl, fun _ => lt_nL (b := 9) (by omega) (by decide)⟩
      | some b =>
        have := pop8_le b
        show nJ (pop8 s) < nJ (pop8 b) ↔ Nat.blt (pop8 s) (pop8 b) = true
        rw [nJ_lt (by omega) (by omega), Nat.blt_eq]
    rw [eRo_leastCut_29, e2, b8_sh T (by omega), if_pos (lt_nJ hsT (by omega)), cBits _ _ (by omega), bI_some, nJ_and2, nJ_succ, gI_hh, gJ_hh, hr, bI_some, gI_hh, gJ_hh]
    have hu : lsb ok (s + 1) = bif ok s && fwr (lsb ok s) s then some s else lsb ok s := rfl
    by_cases h1 : s &&& fb = 0
    · rw [if_pos (show nJ (s &&& fb) = 0 by rw [h1]; rfl)]
      by_cases h2 : nJ (pop8 s) < cP (lsb ok s)
      · rw [if_pos h2]
        cases h3 : (tkt near s T 8 1).testBit k with
        | false =>
          rw [(hok s hsT).mpr ⟨h1, h3⟩, hlt.mp h2] at hu
          rw [hu] at hi
          rw [if_neg (show ¬ false = true by decide), if_pos rfl]
          exact hi
        | true =>
          have : ok s = false := by
            cases h : ok s
            · rfl
            · rw [((hok s hsT).mp h).2] at h3
              cases h3
          rw [this] at hu
          rw [hu] at hi
          rw [if_pos rfl, if_neg (by decide)]
          exact hi
      · have : fwr (lsb ok s) s = false := by
          cases h : fwr (lsb ok s) s
          · rfl
          · exact absurd (hlt.mpr h) h2
        rw [if_neg h2]
        rw [this, Bool.and_false] at hu
        rw [hu] at hi
        exact hi
    · have hl : s &&& fb < 256 := Nat.lt_of_le_of_lt Nat.and_le_left (show s < 256 by omega)
      have : ok s = false := by
        cases h : ok s
        · rfl
        · exact absurd ((hok s hsT).mp h).1 h1
      rw [this] at hu
      rw [hu] at hi
      rw [if_neg (ne_nL (b := 0) h1 (by omega) (by decide))]
      exact hi
/-- all its towns have no shop -/
def flg (A : IT) (s : Nat) : Nat → Bool
  | 0 => true
  | t + 1 => flg A s t && (!s.testBit t || decide (A (45, 0) t = 0))
theorem flg_iff {A : IT} {s : Nat} : ∀ t, flg A s t = true ↔ ∀ b, b < t → s.testBit b = true → A (45, 0) b = 0
  | 0 => ⟨fun _ b hb => by omega, fun _ => rfl⟩
  | t + 1 => by
    unfold flg
    rw [Bool.and_eq_true, flg_iff t, Bool.or_eq_true, decide_eq_true_iff, Bool.not_eq_true']
    constructor
    · rintro ⟨h1, h2⟩ b hb h3
      by_cases e : b = t
      · subst e
        rcases h2 with h2 | h2
        · rw [h2] at h3
          cases h3
        · exact h2
      · exact h1 b (by omega) h3
    · intro h
      refine ⟨fun b hb => h b (by omega), ?_⟩
      cases e : s.testBit t
      · exact Or.inl rfl
      · exact Or.inr (h t (by omega) e)
theorem flag_go {A : IT} {B : JT} {T s : Nat} (d : Nat) (x1 x2 x3 : Int32) (hT : T ≤ 8) (m1 : A (44, 0) 1 = nJ T) (hs : s < 256) : ∀ j t, t + j = T → ev (d + 1) mMo_seals 30 [vR (43, 0), vI x1, vI x2, vI x3, vI (nJ s), vI (bif flg A s t then 1 else 0), vI (nJ t)] [] (hh A B) = ev (d + 1) mMo_seals 30 [vR (43, 0), vI x1, vI x2, vI x3, vI (nJ s), vI (bif flg A s T then 1 else 0), vI (nJ T)] [] (hh A B) := by
  intro j
  induction j with
  | zero =>
    intro t ht
    obtain rfl : t = T := by omega
    rfl
  | succ j ih =>
    intro t ht
    rw [← ih (t + 1) (by omega), eMo_seals_30, m1, if_pos (lt_nJ (show t < T by omega) (by omega)), mHas8 _ _ _ hs (by omega), bI_some, bnd (show t < 8 by omega) (by omega), nJ_nat (by omega), nJ_succ, gI_hh, gJ_hh]
    have hu : flg A s (t + 1) = (flg A s t && (!s.testBit t || decide (A (45, 0) t = 0))) := rfl
    rw [hu]
    cases h1 : flg A s t with
    | false => rfl
    | true =>
      rw [cond_true, if_neg (show ¬ (1 : Int32) = 0 by decide)]
      cases h2 : s.testBit t with
      | false => rfl
      | true =>
        rw [if_pos rfl, if_neg (show ¬ (1 : Int32) = 0 by decide)]
        by_cases h3 : A (45, 0) t = 0
        · rw [if_pos h3, h3]
          rfl
        · rw [if_neg h3, decide_eq_false h3]
          rfl
theorem mseal_go {A : IT} {B : JT} {T k : Nat} {near : Nat → Nat} (d : Nat) (x2 : Int32) (hT : T ≤ 8) (hk : k < 8) (m1 : A (44, 0) 1 = nJ T) (hn : RdM A T near) (ok : Nat → Bool) (hev : ∀ s, s < 2 ^ T → s % 2 = 1 → ok s = false) (hok : ∀ s, s < 2 ^ T → s % 2 = 0 → (ok s = true ↔ flg A s T = true ∧ (tkt near s T 8 1).testBit k = false)) : ∀ j s, s + 2 * j = 2 ^ T → s % 2 = 0 → ev (d + 2) mMo_seals 18 [vR (43, 0), vI (nJ k), vI x2, vI (mB (lsb ok s)), vI (nJ s), vU, vU] [] (hh A B) = ev (d + 2) mMo_seals 18 [vR (43, 0), vI (nJ k), vI x2, vI (mB (lsb ok (2 ^ T))), vI (nJ (2 ^ T)), vU, vU] [] (hh A B) := by
  have h2T : 2 ^ T ≤ 256 := Nat.pow_le_pow_right (n := 2) (by decide) hT
  intro j
  induction j with
  | zero =>
    intro s hs _
    obtain rfl : s = 2 ^ T := by omega
    rfl
  | succ j ih =>
    intro s hs h0
    have hsT : s < 2 ^ T := by omega
    have hi := ih (s + 2) (by omega) (by omega)
    have hod : lsb ok (s + 2) = lsb ok (s + 1) := by
      show (bif ok (s + 1) && _ then some (s + 1) else lsb ok (s + 1)) = _
      rw [hev (s + 1) (by omega) (by omega)]
      rfl
    have hu : lsb ok (s + 1) = bif ok s && fwr (lsb ok s) s then some s else lsb ok s := rfl
    have hf := flag_go (A := A) (B := B) (d + 1) (nJ k) x2 (mB (lsb ok s)) hT m1 (show s < 256 by omega) T 0 (by omega)
    have hf : ev (d + 2) mMo_seals 30 [vR (43, 0), vI (nJ k), vI x2, vI (mB (lsb ok s)), vI (nJ s), vI 1, vI 0] [] (hh A B) = _ := hf
    have e2 : nJ s + 2 = nJ (s + 2) := nJ_add s 2
    have htl : tkt near s T 8 1 < 256 := by
      have g : ∀ n z, z < 256 → tkt near s T n z < 256 := by
        intro n
        induction n with
        | zero => intro z hz; exact hz
        | succ n ih => intro z hz; exact ih _ (tka_lt (fun a ha => (hn a ha).1) T 0 z (by omega) hz)
      exact g 8 1 (by decide)
    rw [eMo_seals_18, m1, b8_sh T (by omega), if_pos (lt_nJ hsT (by omega)), hf, eMo_seals_30, m1, if_neg (nlt_nJ (Nat.le_refl T) (by omega)), e2, mComes d hT m1 (show s < 256 by omega) hn, bI_some, mHas8 _ _ _ htl hk, bI_some, gI_hh, gJ_hh, mBits _ _ (show s < 256 by omega), bI_some, gI_hh, gJ_hh]
    rw [hod, hu] at hi
    cases h1 : flg A s T with
    | false =>
      have : ok s = false := by
        cases h : ok s
        · rfl
        · rw [((hok s hsT h0).mp h).1] at h1
          cases h1
      rw [this] at hi
      rw [cond_false, if_pos rfl]
      exact hi
    | true =>
      rw [cond_true, if_neg (show ¬ (1 : Int32) = 0 by decide)]
      cases h3 : (tkt near s T 8 1).testBit k with
      | true =>
        have : ok s = false := by
          cases h : ok s
          · rfl
          · rw [((hok s hsT h0).mp h).2] at h3
            cases h3
        rw [this] at hi
        rw [if_pos rfl, if_neg (show ¬ (1 : Int32) = 0 by decide)]
        exact hi
      | false =>
        rw [(hok s hsT h0).mpr ⟨h1, h3⟩, Bool.true_and] at hi
        rw [if_neg (show ¬ false = true by decide), if_pos rfl]
        cases hb : lsb ok s with
        | none =>
          rw [hb] at hi
          rw [if_pos (show mB none = -2 from rfl)]
          exact hi
        | some b =>
          have hbs := lsb_lt (ok := ok) s b hb
          rw [hb] at hi
          have hne : ¬ mB (some b) = -2 := fun z => by
            have : nJ b < 0 := by
              have z : nJ b = -2 := z
              rw [z]
              decide
            exact nJ_nn (by omega) this
          have := pop8_le s
          have := pop8_le b
          rw [if_neg hne, show mB (some b) = nJ b from rfl, mBits _ _ (show b < 256 by omega), bI_some, gI_hh, gJ_hh]
          by_cases hp : pop8 s < pop8 b
          · rw [if_pos (lt_nJ hp (by omega))]
            have : Nat.blt (pop8 s) (pop8 b) = true := by rw [Nat.blt_eq]; exact hp
            rw [show fwr (some b) s = true from this, cond_true] at hi
            exact hi
          · rw [if_neg (nlt_nJ (show pop8 b ≤ pop8 s by omega) (by omega))]
            have : Nat.blt (pop8 s) (pop8 b) = false := by
              cases h : Nat.blt (pop8 s) (pop8 b)
              · rfl
              · rw [Nat.blt_eq] at h; exact absurd h hp
            rw [show fwr (some b) s = false from this, cond_false] at hi
            exact hi
theorem t_seals {I A : IT} {J B : JT} (d : Nat) (x t : Int32) (h : Rel I A) : Cal (ev (d + 3) mPx_seals 0 [vR (0, 0), vI x, vI t, vU] [] (hh I J)) (ev (d + 3) mMo_seals 0 [vR (43, 0), vI x, vI t, vU, vU, vU, vU] [] (hh A B)) I A := by
  obtain ⟨q, T, S, N, hru, hro, hwk, hd, et, hf, hp⟩ := ScR.parts h
  have hT := hro.1.1
  have e2 : I (8, 0) 2 = nJ T := hro.2.1.2.1
  have m1 : A (44, 0) 1 = nJ T := hro.2.1.2.2.1
  have h2T : 2 ^ T ≤ 256 := Nat.pow_le_pow_right (n := 2) (by decide) hT
  have hpr : ∀ k, k < T → I (9, 0) k = A (45, 0) k := fun k hk => (hro.2.2.2.1 k hk).1
  obtain ⟨near, hn, hnm⟩ := rd_of hro
  rw [ePx_seals_0, eMo_seals_0, cTown _ _ e2, mTown _ _ m1 (by omega), bI_some, bI_some, bif2, bif2, gI_hh, gJ_hh, gI_hh, gJ_hh, mIn _ t 0 1 0 1 rfl rfl, bI_some, bif2, gI_hh, gJ_hh]
  by_cases hx : inn x T
  · rw [if_pos hx, if_pos hx]
    by_cases x0 : x = 0
    · rw [if_pos x0, if_pos x0]
      exact Cal.ro rfl rfl h
    rw [if_neg x0, if_neg x0]
    by_cases t0 : t < 0
    · rw [if_pos t0, if_neg (fun z => z.1 t0)]
      exact Cal.ro rfl rfl h
    by_cases t1 : (1 : Int32) < t
    · rw [if_neg t0, if_pos t1, if_neg (fun z => z.2 t1)]
      exact Cal.ro rfl rfl h
    rw [if_neg t0, if_neg t1, if_pos (And.intro t0 t1)]
    obtain ⟨k, hk, rfl⟩ := inn_ex (by omega) hx
    have hev2 : 2 ^ T % 2 = 0 := by
      obtain ⟨u, rfl⟩ : ∃ u, T = u + 1 := ⟨T - 1, by omega⟩
      rw [Nat.pow_succ]
      omega
    let fb := fbd I (T - 1)
    have hfb : fb < 256 := fbd_lt (T - 1) (by omega)
    let ok : Nat → Bool := fun s => decide (s &&& fb = 0) && !(tkt near s T 8 1).testBit k
    have hok : ∀ s, s < 2 ^ T → (ok s = true ↔ s &&& fb = 0 ∧ (tkt near s T 8 1).testBit k = false) := fun s _ => by
      show (decide (s &&& fb = 0) && !(tkt near s T 8 1).testBit k) = true ↔ _
      rw [Bool.and_eq_true, decide_eq_true_iff, Bool.not_eq_true']
    have hand : ∀ s, s &&& fb = 0 ↔ ∀ b, s.testBit b = true → fb.testBit b = false := fun s => by
      constructor
      · intro h b hb
        have : (s &&& fb).testBit b = false := by rw [h, Nat.zero_testBit]
        rw [Nat.testBit_and, hb, Bool.true_and] at this
        exact this
      · intro h
        apply Nat.eq_of_testBit_eq
        intro b
        rw [Nat.testBit_and, Nat.zero_testBit]
        cases hb : s.testBit b
        · rfl
        · rw [h b hb]
          rfl
    have hbit0 : ∀ s : Nat, s % 2 = 1 → s.testBit 0 = true := fun s hs => by
      rw [Nat.testBit_zero]
      exact decide_eq_true hs
    have hod : ∀ s, s < 2 ^ T → s % 2 = 1 → ok s = false := fun s hs h1 => by
      cases e : ok s
      · rfl
      · have := (hand s).mp ((hok s hs).mp e).1 0 (hbit0 s h1)
        rw [(fbd_bit (I := I) (T - 1) (by omega) 0).mpr (Or.inl rfl)] at this
        cases this
    have hfl : ∀ s, s < 2 ^ T → s % 2 = 0 → (s &&& fb = 0 ↔ flg A s T = true) := fun s hs h0 => by
      rw [hand, flg_iff]
      constructor
      · intro hh b hb h1
        have h2 := hh b h1
        rw [← hpr b hb]
        by_cases e : I (9, 0) b = 0
        · exact e
        · have h3 : b ≠ 0 := fun z => by
            rw [z, Nat.testBit_zero, decide_eq_true_iff] at h1
            omega
          have h3' : 1 ≤ b := Nat.one_le_iff_ne_zero.mpr h3
          rw [(fbd_bit (I := I) (T - 1) (by omega) b).mpr (Or.inr ⟨h3', by omega, e⟩)] at h2
          cases h2
      · intro hh b h1
        cases e : fb.testBit b
        · rfl
        · rcases (fbd_bit (I := I) (T - 1) (by omega) b).mp e with z | ⟨z1, z2, z3⟩
          · rw [z, Nat.testBit_zero, decide_eq_true_iff] at h1
            omega
          · exact absurd ((hpr b (by omega)).trans (hh b (by omega) h1)) z3
    have c1 : ev (d + 2) mRo_leastCut 0 [vR (8, 0), vI (nJ k), vU, vU, vU, vU, vU] [] (hh I J) = some (some (vI (cB (lsb ok (2 ^ T)))), hh I J) := by
      rw [eRo_leastCut_0]
      refine (barr_go (I := I) (J := J) (d + 1) (nJ k) hT e2 (T - 1) 0 (by omega)).trans ?_
      exact cut_go (I := I) (J := J) (d + 1) hT (by omega) e2 hfb hn ok hok (2 ^ T) 0 (by omega)
    have c2 : ev (d + 3) mMo_seals 18 [vR (43, 0), vI (nJ k), vI t, vI (-2), vI 0, vU, vU] [] (hh A B) = ev (d + 3) mMo_seals 18 [vR (43, 0), vI (nJ k), vI t, vI (mB (lsb ok (2 ^ T))), vI (nJ (2 ^ T)), vU, vU] [] (hh A B) :=
      mseal_go (A := A) (B := B) (d + 1) t hT (by omega) m1 hnm ok hod (fun s hs h0 => (hok s hs).trans (by rw [hfl s hs h0])) (2 ^ T / 2) 0 (by omega) rfl
    rw [c1, bI_some, gI_hh, gJ_hh, c2, eMo_seals_18, m1, b8_sh T (by omega), if_neg (nlt_nJ (Nat.le_refl (2 ^ T)) (by omega))]
    cases hb : lsb ok (2 ^ T) with
    | none =>
      rw [if_pos (show cB none = -1 from rfl), if_pos (show mB none = -2 from rfl)]
      exact Cal.ro rfl rfl h
    | some b =>
      have hbs := lsb_lt (ok := ok) _ b hb
      have hne : ¬ mB (some b) = -2 := fun z => by
        have : nJ b < 0 := by
          have z : nJ b = -2 := z
          rw [z]
          decide
        exact nJ_nn (by omega) this
      rw [if_neg (show ¬ cB (some b) = -1 from nJ_nm1 (by omega)), if_neg hne, show cB (some b) = nJ b from rfl, show mB (some b) = nJ b from rfl, cBits _ _ (show b < 256 by omega), mBits _ _ (show b < 256 by omega), bI_some, bI_some, gI_hh, gJ_hh, gI_hh, gJ_hh]
      by_cases tt : t = 0
      · rw [if_pos tt, if_neg (show ¬ t = 1 by rw [tt]; decide)]
        exact Cal.ro rfl rfl h
      · have : t = 1 := by
          rw [i_lt] at t0 t1
          have tt' : t.toInt ≠ 0 := fun z => tt (by rw [i_eq]; exact z)
          rw [i_eq]
          have a0 : (0 : Int32).toInt = 0 := rfl
          have a1 : (1 : Int32).toInt = 1 := rfl
          omega
        rw [if_neg tt, if_pos this]
        exact Cal.ro rfl rfl h
  · rw [if_neg hx, if_neg hx]
    exact Cal.ro rfl rfl h
