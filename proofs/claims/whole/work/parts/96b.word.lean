/-! WORDS -/
def lnB (by_ : Nat → Nat) (n p : Nat) : Nat := rn (fun q => Nat.beq (kB (by_ q)) 1) n p
def eqT (by_ : Nat → Nat) : Nat → List Nat → Bool
  | _, [] => true
  | p, c :: t => Nat.beq (by_ p) c && eqT by_ (p + 1) t
/-- a word stands at p, as far as letters go on -/
def std (by_ : Nat → Nat) (n p : Nat) (t : List Nat) : Bool := Nat.beq (lnB by_ n p) (p + t.length) && eqT by_ p t
def wsc (by_ : Nat → Nat) (p L : Nat) : List Nat → Option Nat → Nat → Int32
  | [], m, k => if m = some L then nJ k else -1
  | c :: r, m, k => if c = 32 then (if m = some L then nJ k else wsc by_ p L r (some 0) (k + 1)) else match m with
    | none => wsc by_ p L r none k
    | some j => if j < L ∧ by_ (p + j) = c then wsc by_ p L r (some (j + 1)) k else wsc by_ p L r none k
def cO : Option Nat → Int32
  | none => -1
  | some m => nJ m
theorem nthD_app (pre : List Nat) : ∀ (c : Nat) (r : List Nat), nthD (pre ++ c :: r) pre.length 0 = c := by
  induction pre with
  | nil => intro c r; rfl
  | cons x pre ih => intro c r; exact ih c r
theorem cWordG {I : IT} {J : JT} {by_ : Nat → Nat} {n p q k1 : Nat} {T : List Nat} (d : Nat) (h : BtC I by_ n) (hT : nthD txL k1 [] = T) (hlen : T.length ≤ 200) (hch : ∀ c ∈ T, c < 256) (hpq : p < q) (hq : q ≤ n) : ∀ (r pre : List Nat) (m : Option Nat) (k : Nat), T = pre ++ r → k + r.length ≤ 300 → (∀ j, m = some j → j ≤ q - p) → ev d mTe_wordOf 6 [vR (1, 0), vR (99, k1), vI (nJ p), vI (nJ q), vI (nJ k), vI (cO m), vI (nJ pre.length), vU] [] (hh I J) = some (some (vI (wsc by_ p (q - p) r m k)), hh I J) := by
  obtain ⟨hn, e1, hb⟩ := h
  intro r
  have hm : ∀ m : Option Nat, (∀ j, m = some j → j ≤ q - p) → ((cO m = nJ (q - p)) ↔ m = some (q - p)) := fun m hj => by
    cases m with
    | none => exact ⟨fun z => absurd z.symm (nJ_nm1 (by omega)), fun z => by cases z⟩
    | some j =>
      have := hj j rfl
      show nJ j = nJ (q - p) ↔ some j = some (q - p)
      rw [nJ_eq (by omega) (by omega)]
      exact ⟨fun z => by rw [z], fun z => Option.some.inj z⟩
  induction r with
  | nil =>
    intro pre m k hpr hk hj
    rw [List.append_nil] at hpr
    have hl : pre.length = T.length := by rw [hpr]
    rw [eTe_wordOf_6, hT, hl, if_neg (nlt_nJ (Nat.le_refl _) (by omega)), if_pos rfl, nJ_sub (show p ≤ q by omega), nJ_succ, nJ_succ]
    unfold wsc
    by_cases h1 : m = some (q - p)
    · rw [if_pos ((hm m hj).mpr h1), if_pos h1]
    · rw [if_neg (fun z => h1 ((hm m hj).mp z)), if_neg h1, eTe_wordOf_6, hT, if_pos (lt_nJ (show T.length < T.length + 1 by omega) (by omega))]
  | cons c r ih =>
    intro pre m k hpr hk hj
    have hl : pre.length < T.length := by
      rw [hpr, List.length_append, List.length_cons]
      omega
    have hc : nthD T pre.length 0 = c := by rw [hpr]; exact nthD_app pre c r
    have hcm : c < 256 := hch c (by rw [hpr]; exact List.mem_append_right _ List.mem_cons_self)
    have hpr' : T = (pre ++ [c]) ++ r := by rw [hpr, List.append_assoc]; rfl
    have hl' : (pre ++ [c]).length = pre.length + 1 := by rw [List.length_append]; rfl
    rw [List.length_cons] at hk
    have nx := fun m' k' (hk' : k' ≤ k + 1) (hj' : ∀ j, m' = some j → j ≤ q - p) => ih (pre ++ [c]) m' k' hpr' (by omega) hj'
    rw [hl'] at nx
    rw [eTe_wordOf_6, hT, if_neg (nlt_nJ (by omega) (by omega)), if_neg (ne_nJ (by omega) (by omega) (by omega)), bnd hl (by omega), nJ_nat (show pre.length < 2147483648 by omega), hc, nJ_sub (show p ≤ q by omega)]
    simp only [nJ_succ, bnk hl (by omega), if_neg (show ¬ (1 : Int32) = 0 by decide), if_true]
    unfold wsc
    by_cases h32 : c = 32
    · rw [if_pos (show Int32.ofNat c = 32 by rw [h32]; rfl), if_pos h32]
      by_cases h1 : m = some (q - p)
      · rw [if_pos ((hm m hj).mpr h1), if_pos h1]
      · rw [if_neg (fun z => h1 ((hm m hj).mp z)), if_neg h1]
        exact nx (some 0) (k + 1) (Nat.le_refl _) (fun j hj' => by cases hj'; omega)
    · rw [if_neg (show ¬ Int32.ofNat c = 32 from ne_nL (b := 32) h32 (by omega) (by decide)), if_neg h32]
      cases m with
      | none =>
        rw [if_pos (show cO none = -1 from rfl)]
        exact nx none k (by omega) (fun j hj' => by cases hj')
      | some j =>
        have hjl := hj j rfl
        rw [if_neg (show ¬ cO (some j) = -1 from nJ_nm1 (by omega)), show cO (some j) = nJ j from rfl, nJ_succ]
        dsimp only
        have no : ev d mTe_wordOf 6 [vR (1, 0), vR (99, k1), vI (nJ p), vI (nJ q), vI (nJ k), vI (-1), vI (nJ (pre.length + 1)), vU] [] (hh I J) = some (some (vI (wsc by_ p (q - p) r none k)), hh I J) := nx none k (by omega) (fun j hj' => by cases hj')
        by_cases h2 : j < q - p
        · obtain ⟨b1, b2⟩ := hb (p + j) (by omega)
          rw [if_pos (lt_nJ h2 (by omega)), nJ_add, bnd (show p + j < 400 by omega) (by omega), nJ_nat (show p + j < 2147483648 by omega), b2]
          by_cases h3 : by_ (p + j) = c
          · rw [if_pos (show nJ (by_ (p + j)) = Int32.ofNat c by rw [h3]), if_pos ⟨h2, h3⟩]
            exact nx (some (j + 1)) k (by omega) (fun j' hj' => by cases hj'; omega)
          · rw [if_neg (show ¬ nJ (by_ (p + j)) = Int32.ofNat c from ne_nJ h3 (by omega) (by omega)), if_neg (show ¬ (j < q - p ∧ by_ (p + j) = c) from fun z => h3 z.2)]
            exact no
        · rw [if_neg (nlt_nJ (by omega) (by omega)), if_neg (show ¬ (j < q - p ∧ by_ (p + j) = c) from fun z => h2 z.1)]
          exact no
theorem wsc_none {by_ : Nat → Nat} {p L : Nat} {k : Nat} {r : List Nat} : ∀ w : List Nat, (∀ c ∈ w, c ≠ 32) → wsc by_ p L (w ++ 32 :: r) none k = wsc by_ p L r (some 0) (k + 1) := by
  intro w
  induction w with
  | nil => intro _; rfl
  | cons c w ih =>
    intro h
    show (if c = 32 then _ else _) = _
    rw [if_neg (h c List.mem_cons_self)]
    exact ih (fun c hc => h c (List.mem_cons_of_mem _ hc))
theorem wsc_none' {by_ : Nat → Nat} {p L : Nat} {k : Nat} : ∀ w : List Nat, (∀ c ∈ w, c ≠ 32) → wsc by_ p L w none k = -1 := by
  intro w
  induction w with
  | nil => intro _; rfl
  | cons c w ih =>
    intro h
    show (if c = 32 then _ else _) = _
    rw [if_neg (h c List.mem_cons_self)]
    exact ih (fun c hc => h c (List.mem_cons_of_mem _ hc))
theorem wsc_word {by_ : Nat → Nat} {p L : Nat} {k : Nat} {r : List Nat} : ∀ (w : List Nat) (j : Nat), (∀ c ∈ w, c ≠ 32) → wsc by_ p L (w ++ 32 :: r) (some j) k = if (Nat.beq L (j + w.length) && eqT by_ (p + j) w) = true then nJ k else wsc by_ p L r (some 0) (k + 1) := by
  intro w
  induction w with
  | nil =>
    intro j _
    show (if some j = some L then nJ k else _) = _
    by_cases e : j = L
    · rw [if_pos (by rw [e]), if_pos (by rw [e]; show (Nat.beq L L && true) = true; rw [Nat.beq_refl]; rfl)]
    · rw [if_neg (fun z => e (Option.some.inj z)), if_neg (fun z => by
        rw [Bool.and_eq_true, Nat.beq_eq] at z
        exact e z.1.symm)]
  | cons c w ih =>
    intro j h
    have hw : ∀ c ∈ w, c ≠ 32 := fun c hc => h c (List.mem_cons_of_mem _ hc)
    show (if c = 32 then _ else if j < L ∧ by_ (p + j) = c then wsc by_ p L (w ++ 32 :: r) (some (j + 1)) k else wsc by_ p L (w ++ 32 :: r) none k) = _
    rw [if_neg (h c List.mem_cons_self), List.length_cons]
    show _ = if (Nat.beq L (j + (w.length + 1)) && (Nat.beq (by_ (p + j)) c && eqT by_ (p + j + 1) w)) = true then _ else _
    by_cases h1 : j < L ∧ by_ (p + j) = c
    · rw [if_pos h1, ih (j + 1) hw, show j + 1 + w.length = j + (w.length + 1) by omega, h1.2, Nat.beq_refl, Bool.true_and]
      rfl
    · rw [if_neg h1, wsc_none w hw, if_neg (fun z => by
        rw [Bool.and_eq_true, Bool.and_eq_true, Nat.beq_eq, Nat.beq_eq] at z
        exact h1 ⟨by omega, z.2.1⟩)]
theorem wsc_last {by_ : Nat → Nat} {p L : Nat} {k : Nat} : ∀ (w : List Nat) (j : Nat), (∀ c ∈ w, c ≠ 32) → wsc by_ p L w (some j) k = if (Nat.beq L (j + w.length) && eqT by_ (p + j) w) = true then nJ k else -1 := by
  intro w
  induction w with
  | nil =>
    intro j _
    show (if some j = some L then nJ k else _) = _
    by_cases e : j = L
    · rw [if_pos (by rw [e]), if_pos (by rw [e]; show (Nat.beq L L && true) = true; rw [Nat.beq_refl]; rfl)]
    · rw [if_neg (fun z => e (Option.some.inj z)), if_neg (fun z => by
        rw [Bool.and_eq_true, Nat.beq_eq] at z
        exact e z.1.symm)]
  | cons c w ih =>
    intro j h
    have hw : ∀ c ∈ w, c ≠ 32 := fun c hc => h c (List.mem_cons_of_mem _ hc)
    show (if c = 32 then _ else if j < L ∧ by_ (p + j) = c then wsc by_ p L w (some (j + 1)) k else wsc by_ p L w none k) = _
    rw [if_neg (h c List.mem_cons_self), List.length_cons]
    show _ = if (Nat.beq L (j + (w.length + 1)) && (Nat.beq (by_ (p + j)) c && eqT by_ (p + j + 1) w)) = true then _ else _
    by_cases h1 : j < L ∧ by_ (p + j) = c
    · rw [if_pos h1, ih (j + 1) hw, show j + 1 + w.length = j + (w.length + 1) by omega, h1.2, Nat.beq_refl, Bool.true_and]
      rfl
    · rw [if_neg h1, wsc_none' w hw, if_neg (fun z => by
        rw [Bool.and_eq_true, Bool.and_eq_true, Nat.beq_eq, Nat.beq_eq] at z
        exact h1 ⟨by omega, z.2.1⟩)]
/-- the first of some words that stands there -/
def wfd (f : List Nat → Bool) : List (List Nat) → Nat → Int32
  | [], _ => -1
  | w :: l, k => if f w = true then nJ k else wfd f l (k + 1)
def joinW : List (List Nat) → List Nat
  | [] => []
  | [w] => w
  | w :: l => w ++ 32 :: joinW l
theorem wsc_join {by_ : Nat → Nat} {p L : Nat} : ∀ (l : List (List Nat)) (k : Nat), l ≠ [] → (∀ w ∈ l, ∀ c ∈ w, c ≠ 32) → wsc by_ p L (joinW l) (some 0) k = wfd (fun w => Nat.beq L w.length && eqT by_ p w) l k
  | [], _, h, _ => absurd rfl h
  | [w], k, _, h => by
    show wsc by_ p L w (some 0) k = if _ then nJ k else -1
    rw [wsc_last w 0 (h w List.mem_cons_self), Nat.zero_add]
    rfl
  | w :: w' :: l, k, _, h => by
    show wsc by_ p L (w ++ 32 :: joinW (w' :: l)) (some 0) k = if _ then nJ k else wfd _ (w' :: l) (k + 1)
    rw [wsc_word w 0 (h w List.mem_cons_self), Nat.zero_add, wsc_join (w' :: l) (k + 1) (by simp) (fun v hv => h v (List.mem_cons_of_mem _ hv))]
    rfl
def wlR : List (List Nat) := [nthD txL 2 [], nthD txL 3 [], nthD txL 4 [], nthD txL 5 [], nthD txL 6 [], nthD txL 7 []]
def wlU : List (List Nat) := [nthD txL 7 [], nthD txL 3 [], nthD txL 9 [], nthD txL 10 [], nthD txL 11 [], nthD txL 12 [], nthD txL 13 [], nthD txL 14 [], nthD txL 15 [], nthD txL 16 [], nthD txL 4 [], nthD txL 8 [], nthD txL 17 [], nthD txL 18 [], nthD txL 19 [], nthD txL 20 []]
theorem wlR_join : nthD txL 0 [] = joinW wlR := by decide +kernel
theorem wlU_join : nthD txL 1 [] = joinW wlU := by decide +kernel
theorem wlR_32 : ∀ w ∈ wlR, ∀ c ∈ w, c ≠ 32 := by decide +kernel
theorem wlU_32 : ∀ w ∈ wlU, ∀ c ∈ w, c ≠ 32 := by decide +kernel
theorem txL_small : ∀ k, k < 21 → (nthD txL k []).length ≤ 100 ∧ ∀ c ∈ nthD txL k [], c < 128 := by decide +kernel
/-- the words of a text: of the roads, or of a rule -/
def wlK (k1 : Nat) : List (List Nat) := if k1 = 0 then wlR else wlU
theorem cWord {I : IT} {J : JT} {by_ : Nat → Nat} {n p k1 : Nat} (d : Nat) (hk : k1 < 2) (h : BtC I by_ n) (hp : p < n) (hkb : kB (by_ p) = 1) : ev d mTe_wordOf 0 [vR (1, 0), vR (99, k1), vI (nJ p), vI (nJ (enk by_ n p)), vU, vU, vU, vU] [] (hh I J) = some (some (vI (wfd (std by_ n p) (wlK k1) 0)), hh I J) := by
  have hg := enk_gt (by_ := by_) (n := n) (p := p)
  have hl := enk_le (by_ := by_) hp
  have hsm := txL_small k1 (by omega)
  have hw := cWordG (I := I) (J := J) (p := p) (q := enk by_ n p) d h rfl (by omega) (fun c hc => by have := hsm.2 c hc; omega) hg hl (nthD txL k1 []) [] (some 0) 0 rfl (by omega) (fun j hj => by cases hj; omega)
  have hw : ev d mTe_wordOf 6 [vR (1, 0), vR (99, k1), vI (nJ p), vI (nJ (enk by_ n p)), vI 0, vI 0, vI 0, vU] [] (hh I J) = _ := hw
  have hln : lnB by_ n p = enk by_ n p := by
    unfold lnB enk
    rw [if_neg (by omega), rn_go (f := fun q => Nat.beq (kB (by_ q)) 1) hp (by show Nat.beq (kB (by_ p)) 1 = true; rw [hkb]; rfl), hkb]
  have hf : (fun w : List Nat => Nat.beq (enk by_ n p - p) w.length && eqT by_ p w) = std by_ n p := by
    funext w
    unfold std
    rw [hln]
    congr 1
    rw [Bool.eq_iff_iff, Nat.beq_eq, Nat.beq_eq]
    omega
  rw [eTe_wordOf_0, hw]
  congr 4
  unfold wlK
  by_cases h0 : k1 = 0
  · rw [if_pos h0, h0, wlR_join, wsc_join wlR 0 (by decide) wlR_32, hf]
  · have h1 : k1 = 1 := by omega
    rw [if_neg h0, h1, wlU_join, wsc_join wlU 0 (by decide) wlU_32, hf]
