/-! THE REFERENCE reads bytes -/
def BtM (A : IT) (by_ : Nat → Nat) (n : Nat) : Prop := n ≤ 400 ∧ A (43, 0) 26 = nJ n ∧ ∀ k, k < n → by_ k < 256 ∧ A (68, 0) k = (nJ (by_ k)).toInt8.toInt32
def spp (A : IT) (p : Nat) : IT := up2 A (43, 0) 27 (nJ p)
theorem spp_self {A : IT} {p : Nat} (h : A (43, 0) 27 = nJ p) : spp A p = A := by
  funext a k
  unfold spp
  rw [up_at]
  split
  · rename_i e
    rw [e.1, e.2, h]
  · rfl
theorem spp_spp (A : IT) (p q : Nat) : spp (spp A p) q = spp A q := by
  funext a k
  unfold spp
  rw [up_at, up_at, up_at]
  split <;> rfl
theorem spp_bt {A : IT} {by_ : Nat → Nat} {n p : Nat} (h : BtM A by_ n) : BtM (spp A p) by_ n := ⟨h.1, (up_neK _ _ (by decide)).trans h.2.1, fun k hk => ⟨(h.2.2 k hk).1, (up_ne _ _ _ _ (by decide)).trans (h.2.2 k hk).2⟩⟩
theorem spp_27 (A : IT) (p : Nat) : spp A p (43, 0) 27 = nJ p := up_same _ _ _ _
theorem spp_28 (A : IT) (p : Nat) : spp A p (43, 0) 28 = A (43, 0) 28 := up_neK _ _ (by decide)
theorem s8_255 : ∀ b, b < 256 → ((nJ b).toInt8.toInt32 &&& 255) = nJ b := by decide +kernel
theorem s8_val : ∀ b, b < 256 → (nJ b).toInt8.toInt32 = if b < 128 then nJ b else nJ b - 256 := by decide +kernel
theorem s8_letter : ∀ b, b < 256 → ((nJ b).toInt8.toInt32 < 97 ∨ (122 : Int32) < (nJ b).toInt8.toInt32) = (kB b ≠ 1) := by
  have h : ∀ b, b < 256 → (decide ((nJ b).toInt8.toInt32 < 97) || decide ((122 : Int32) < (nJ b).toInt8.toInt32)) = !Nat.beq (kB b) 1 := by decide +kernel
  intro b hb
  have := h b hb
  apply propext
  rw [Bool.eq_iff_iff, Bool.or_eq_true, decide_eq_true_iff, decide_eq_true_iff, Bool.not_eq_true', ← Bool.not_eq_true, Nat.beq_eq] at this
  exact this
theorem s8_eq {b c : Nat} (hb : b < 256) (hc : c < 128) : ((nJ b).toInt8.toInt32 = Int32.ofNat c) = (b = c) := by
  rw [s8_val b hb]
  by_cases h : b < 128
  · rw [if_pos h]
    exact nJ_eq (by omega) (by omega)
  · rw [if_neg h]
    apply propext
    constructor
    · intro z
      rw [i_eq, i_sub (by rw [nJ_int (by omega)]; have : (256 : Int32).toInt = 256 := rfl; omega), nJ_int (by omega)] at z
      have h1 : (256 : Int32).toInt = 256 := rfl
      have h2 : (Int32.ofNat c).toInt = c := nJ_int (by omega)
      omega
    · intro z
      omega
def sgn (by_ : Nat → Nat) (n p : Nat) : Int32 := if p < n then nJ (by_ p) else -1
theorem mSign {A : IT} {B : JT} {by_ : Nat → Nat} {n p : Nat} (d : Nat) (h : BtM A by_ n) (hp : A (43, 0) 27 = nJ p) (hpl : p ≤ 1000) : ev d mMo_sign 0 [vR (43, 0)] [] (hh A B) = some (some (vI (sgn by_ n p)), hh A B) := by
  obtain ⟨hn, e, hb⟩ := h
  rw [eMo_sign_0, hp, e]
  unfold sgn
  by_cases hlt : p < n
  · obtain ⟨b1, b2⟩ := hb p hlt
    rw [if_pos (lt_nJ hlt (by omega)), bnd (show p < 400 by omega) (by omega), nJ_nat (show p < 2147483648 by omega), b2, s8_255 _ b1, if_pos hlt]
  · rw [if_neg (nlt_nJ (by omega) (by omega)), if_neg hlt]
theorem sgn_is {by_ : Nat → Nat} {n p c : Nat} (hb : ∀ k, k < n → by_ k < 256) (hc : c < 1000) : (sgn by_ n p = (OfNat.ofNat c : Int32)) = (p < n ∧ by_ p = c) := by
  unfold sgn
  apply propext
  by_cases hlt : p < n
  · have := hb p hlt
    rw [if_pos hlt]
    show nJ (by_ p) = nJ c ↔ _
    rw [nJ_eq (by omega) (by omega)]
    exact ⟨fun z => ⟨hlt, z⟩, fun z => z.2⟩
  · rw [if_neg hlt]
    exact ⟨fun z => absurd z.symm (nJ_nm1 (a := c) (by omega)), fun z => absurd z.1 hlt⟩
theorem mBlanks {A : IT} {B : JT} {by_ : Nat → Nat} {n : Nat} (d : Nat) (h : BtM A by_ n) : ∀ j p, n - p = j → p ≤ 1000 → A (43, 0) 27 = nJ p → ev (d + 1) mMo_blanks 0 [vR (43, 0)] [] (hh A B) = some (none, hh (spp A (sbk by_ n p)) B) := by
  intro j
  induction j generalizing A with
  | zero =>
    intro p hj hpl hp
    have hs : sbk by_ n p = p := rn_stop (fun z => by omega)
    rw [eMo_blanks_0, mSign d h hp hpl, bI_some, if_neg (fun z => by
      have := Eq.mp (sgn_is (c := 32) (fun k hk => (h.2.2 k hk).1) (by decide)) z
      omega), hs, spp_self hp]
  | succ j ih =>
    intro p hj hpl hp
    rw [eMo_blanks_0, mSign d h hp hpl, bI_some]
    by_cases h32 : by_ p = 32
    · rw [if_pos (Eq.mpr (sgn_is (c := 32) (fun k hk => (h.2.2 k hk).1) (by decide)) ⟨by omega, h32⟩), gI_hh, gJ_hh, hp, nJ_succ]
      have := ih (A := spp A (p + 1)) (spp_bt h) (p + 1) (by omega) (by have := h.1; omega) (spp_27 _ _)
      rw [spp_spp] at this
      have hs : sbk by_ n p = sbk by_ n (p + 1) := rn_go (by omega) (by show Nat.beq (by_ p) 32 = true; rw [h32]; rfl)
      rw [hs]
      exact this
    · rw [if_neg (fun z => h32 (Eq.mp (sgn_is (c := 32) (fun k hk => (h.2.2 k hk).1) (by decide)) z).2), sbk_non h32, spp_self hp]
theorem kB2 {b : Nat} : kB b = 2 ↔ 48 ≤ b ∧ b ≤ 57 := by
  unfold kB
  split
  · omega
  · split
    · omega
    · split <;> omega
theorem mDigit {A : IT} {B : JT} {by_ : Nat → Nat} {n p : Nat} (d : Nat) (h : BtM A by_ n) (hp : A (43, 0) 27 = nJ p) (hpl : p ≤ 1000) : ev (d + 1) mMo_isDigit 0 [vR (43, 0)] [] (hh A B) = some (some (vI (if p < n ∧ kB (by_ p) = 2 then 1 else 0)), hh A B) := by
  rw [eMo_isDigit_0, mSign d h hp hpl, bI_some, gI_hh, gJ_hh, mIn d _ 48 57 48 57 rfl rfl, bI_some, zo_if]
  congr 4
  have : (¬ sgn by_ n p < 48 ∧ ¬ (57 : Int32) < sgn by_ n p) ↔ (p < n ∧ kB (by_ p) = 2) := by
    unfold sgn
    by_cases hlt : p < n
    · have hb := (h.2.2 p hlt).1
      rw [if_pos hlt, kB2]
      constructor
      · rintro ⟨z1, z2⟩
        refine ⟨hlt, ?_, ?_⟩
        · by_cases q : 48 ≤ by_ p
          · exact q
          · exact absurd (lt_nL (b := 48) (show by_ p < 48 by omega) (by decide)) z1
        · by_cases q : by_ p ≤ 57
          · exact q
          · exact absurd (lt_Ln (a := 57) (show 57 < by_ p by omega) (by omega)) z2
      · rintro ⟨-, z1, z2⟩
        exact ⟨nlt_nL (b := 48) z1 (by omega), nlt_Ln (a := 57) z2 (by omega)⟩
    · rw [if_neg hlt]
      exact ⟨fun z => absurd (show (-1 : Int32) < 48 by decide) z.1, fun z => absurd z.1 hlt⟩
  by_cases hc : p < n ∧ kB (by_ p) = 2
  · rw [if_pos hc, if_pos (this.mpr hc)]
  · rw [if_neg hc, if_neg (fun z => hc (this.mp z))]
theorem eqT_len {by_ : Nat → Nat} : ∀ (t : List Nat) (p : Nat), eqT by_ p t = true ↔ ∀ k, k < t.length → by_ (p + k) = nthD t k 0 := by
  intro t
  induction t with
  | nil =>
    intro p
    exact ⟨fun _ k hk => absurd hk (Nat.not_lt_zero k), fun _ => rfl⟩
  | cons c t ih =>
    intro p
    show (Nat.beq (by_ p) c && eqT by_ (p + 1) t) = true ↔ _
    rw [Bool.and_eq_true, Nat.beq_eq, ih (p + 1)]
    constructor
    · rintro ⟨h1, h2⟩ k hk
      cases k with
      | zero => exact h1
      | succ k =>
        rw [List.length_cons] at hk
        have := h2 k (by omega)
        rw [show p + 1 + k = p + (k + 1) by omega] at this
        exact this
    · intro h
      refine ⟨h 0 (by rw [List.length_cons]; omega), fun k hk => ?_⟩
      have := h (k + 1) (by rw [List.length_cons]; omega)
      rw [show p + (k + 1) = p + 1 + k by omega] at this
      exact this
theorem txL_pos : ∀ k, k < 21 → 0 < (nthD txL k []).length := by decide +kernel
theorem nthD_mem' : ∀ (l : List Nat) (i : Nat), i < l.length → nthD l i 0 ∈ l := by
  intro l
  induction l with
  | nil => intro i h; exact absurd h (Nat.not_lt_zero i)
  | cons x l ih =>
    intro i h
    cases i with
    | zero => exact List.mem_cons_self
    | succ i => exact List.mem_cons_of_mem _ (ih i (by rw [List.length_cons] at h; omega))
theorem mStood {A : IT} {B : JT} {by_ : Nat → Nat} {n p j : Nat} (d : Nat) (h : BtM A by_ n) (hp : A (43, 0) 27 = nJ p) (hpl : p ≤ n) (hj : 2 ≤ j) (hj' : j < 21) : ev d mMo_stood 0 [vR (43, 0), vR (99, j), vU, vU, vU] [] (hh A B) = some (some (vI (if std by_ n p (nthD txL j []) = true then 1 else 0)), hh A B) := by
  obtain ⟨hn, e26, hb⟩ := h
  obtain ⟨t1, t2⟩ := txL_small j hj'
  have t0 := txL_pos j hj'
  have g34 : ∀ m k, k + m = (nthD txL j []).length → p + (nthD txL j []).length ≤ n → (∀ i, i < k → by_ (p + i) = nthD (nthD txL j []) i 0) → ev d mMo_stood 34 [vR (43, 0), vR (99, j), vU, vI 1, vI (nJ k)] [] (hh A B) = some (some (vI (if eqT by_ p (nthD txL j []) = true then 1 else 0)), hh A B) := by
    intro m
    induction m with
    | zero =>
      intro k hk hl hm
      obtain rfl : k = (nthD txL j []).length := by omega
      rw [eMo_stood_34, if_neg (nlt_nJ (Nat.le_refl _) (by omega)), if_pos (Or.inr rfl), if_pos ((eqT_len _ p).mpr hm)]
    | succ m ih =>
      intro k hk hl hm
      have hkl : k < (nthD txL j []).length := by omega
      obtain ⟨b1, b2⟩ := hb (p + k) (by omega)
      have hc := t2 _ (nthD_mem' _ k hkl)
      rw [eMo_stood_34, if_pos (lt_nJ hkl (by omega)), if_neg (show ¬ (1 : Int32) = 0 by decide), hp, nJ_add, bnd (show p + k < 400 by omega) (by omega), bnd hkl (by omega), nJ_nat (show p + k < 2147483648 by omega), nJ_nat (show k < 2147483648 by omega), b2, nJ_succ]
      by_cases e : by_ (p + k) = nthD (nthD txL j []) k 0
      · rw [if_pos (Eq.mpr (s8_eq b1 hc) e)]
        refine ih (k + 1) (by omega) hl fun i hi => ?_
        by_cases e' : i = k
        · rw [e']
          exact e
        · exact hm i (by omega)
      · have hne : ¬ eqT by_ p (nthD txL j []) = true := fun z => e ((eqT_len _ p).mp z k hkl)
        rw [if_neg (fun z => e (Eq.mp (s8_eq b1 hc) z)), if_neg hne, eMo_stood_34]
        by_cases h2 : nJ (k + 1) < Int32.ofNat (nthD txL j []).length
        · rw [if_pos h2, if_pos rfl, if_pos (Or.inl rfl)]
        · rw [if_neg h2, if_pos (Or.inl rfl)]
  have hln := rn_le (f := fun q => Nat.beq (kB (by_ q)) 1) (n := n) _ p rfl hpl
  have hge := rn_ge (f := fun q => Nat.beq (kB (by_ q)) 1) (n := n) _ p rfl
  have fin : ∀ e, e = lnB by_ n p → (if nJ e - nJ p = Int32.ofNat (nthD txL j []).length then ev d mMo_stood 34 [vR (43, 0), vR (99, j), vU, vI 1, vI 0] [] (hh A B) else ev d mMo_stood 34 [vR (43, 0), vR (99, j), vU, vI 0, vI 0] [] (hh A B)) = some (some (vI (if std by_ n p (nthD txL j []) = true then 1 else 0)), hh A B) := fun e he => by
    have hle : p ≤ e ∧ e ≤ n := by rw [he]; exact ⟨hge, hln⟩
    rw [nJ_sub hle.1]
    have hstd : std by_ n p (nthD txL j []) = (Nat.beq e (p + (nthD txL j []).length) && eqT by_ p (nthD txL j [])) := by rw [he]; rfl
    by_cases hl : e - p = (nthD txL j []).length
    · have hbq : Nat.beq e (p + (nthD txL j []).length) = true := by rw [Nat.beq_eq]; omega
      rw [if_pos (show nJ (e - p) = Int32.ofNat (nthD txL j []).length by rw [hl]), hstd, hbq, Bool.true_and]
      exact g34 (nthD txL j []).length 0 (by omega) (by omega) (fun i hi => by omega)
    · have hbq : Nat.beq e (p + (nthD txL j []).length) = false := beq_f (by omega)
      rw [if_neg (show ¬ nJ (e - p) = Int32.ofNat (nthD txL j []).length from ne_nJ hl (by omega) (by omega)), hstd, hbq, Bool.false_and, if_neg (show ¬ false = true by decide), eMo_stood_34, if_pos (show (0 : Int32) < Int32.ofNat (nthD txL j []).length from lt_Ln (a := 0) t0 (by omega)), if_pos rfl, if_pos (Or.inl rfl)]
  have g3 : ∀ m q, n - q = m → p ≤ q → q ≤ n → rn (fun q => Nat.beq (kB (by_ q)) 1) n q = lnB by_ n p → ev d mMo_stood 3 [vR (43, 0), vR (99, j), vI (nJ q), vU, vU] [] (hh A B) = some (some (vI (if std by_ n p (nthD txL j []) = true then 1 else 0)), hh A B) := by
    intro m
    induction m with
    | zero =>
      intro q hq hpq hqn hr
      rw [rn_stop (fun z => by omega)] at hr
      rw [eMo_stood_3, e26, if_neg (nlt_nJ (by omega) (by omega)), hp]
      exact fin q hr
    | succ m ih =>
      intro q hq hpq hqn hr
      obtain ⟨b1, b2⟩ := hb q (by omega)
      rw [eMo_stood_3, e26, if_pos (lt_nJ (show q < n by omega) (by omega)), bnd (show q < 400 by omega) (by omega), bnd (show q < 400 by omega) (by omega), nJ_nat (show q < 2147483648 by omega), b2, hp, nJ_succ]
      by_cases hk : kB (by_ q) = 1
      · have hn' : ¬ ((nJ (by_ q)).toInt8.toInt32 < 97 ∨ (122 : Int32) < (nJ (by_ q)).toInt8.toInt32) := fun z => (Eq.mp (s8_letter _ b1) z) hk
        rw [if_neg (fun z => hn' (Or.inl z)), if_neg (fun z => hn' (Or.inr z))]
        refine ih (q + 1) (by omega) (by omega) (by omega) ?_
        rw [← hr]
        exact (rn_go (by omega) (by show Nat.beq (kB (by_ q)) 1 = true; rw [hk]; rfl)).symm
      · have hn' := Eq.mpr (s8_letter _ b1) hk
        have hr' : q = lnB by_ n p := by
          rw [← hr]
          exact (rn_stop (fun z => hk (by have := z.2; rw [Nat.beq_eq] at this; exact this))).symm
        by_cases h97 : (nJ (by_ q)).toInt8.toInt32 < 97
        · rw [if_pos h97]
          exact fin q hr'
        · rw [if_neg h97, if_pos (hn'.resolve_left h97)]
          exact fin q hr'
  rw [eMo_stood_0, hp]
  exact g3 _ p rfl (Nat.le_refl p) hpl rfl
