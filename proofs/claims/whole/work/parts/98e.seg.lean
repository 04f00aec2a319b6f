/-! SEGMENTS of codes -/
theorem pxG_add {sn : Nat → Int64} {cd : Nat → Int32} {n : Nat} : ∀ m a st, pxG sn cd a (m + n) st = (pxG sn cd a m st).bind (fun st' => pxG sn cd (a + m) n st')
  | 0, a, st => by
    rw [Nat.zero_add]
    rfl
  | m + 1, a, st => by
    rw [show m + 1 + n = (m + n) + 1 by omega]
    show (pxS sn (cd a) st).bind (pxG sn cd (a + 1) (m + n)) = ((pxS sn (cd a) st).bind (pxG sn cd (a + 1) m)).bind _
    cases pxS sn (cd a) st with
    | none => rfl
    | some st' =>
      show pxG sn cd (a + 1) (m + n) st' = (pxG sn cd (a + 1) m st').bind _
      rw [pxG_add m (a + 1) st', show a + 1 + m = a + (m + 1) by omega]
theorem pxG_ext {sn : Nat → Int64} {cd cd' : Nat → Int32} : ∀ n a st, (∀ j, a ≤ j → j < a + n → cd j = cd' j) → pxG sn cd a n st = pxG sn cd' a n st
  | 0, _, _, _ => rfl
  | n + 1, a, st, h => by
    show (pxS sn (cd a) st).bind (pxG sn cd (a + 1) n) = (pxS sn (cd' a) st).bind (pxG sn cd' (a + 1) n)
    rw [h a (by omega) (by omega)]
    congr 1
    funext st'
    exact pxG_ext n (a + 1) st' (fun j h1 h2 => h j (by omega) (by omega))
theorem SgR.ext {cd cd' : Nat → Int32} {a b h : Nat} {P : Int64 → Prop} (hs : SgR cd a b h P) (he : ∀ j, a ≤ j → j < b → cd j = cd' j) : SgR cd' a b h P := by
  refine ⟨hs.1, fun sn st hl => ?_⟩
  have h1 := hs.1
  obtain ⟨v, v1, v2⟩ := hs.2 sn st hl
  exact ⟨v, v1, by rw [← pxG_ext (b - a) a st (fun j q1 q2 => he j q1 (by omega))]; exact v2⟩
theorem SgR.mono {cd : Nat → Int32} {a b h h' : Nat} {P P' : Int64 → Prop} (hs : SgR cd a b h P) (hh : h ≤ h') (hP : ∀ v, P v → P' v) : SgR cd a b h' P' := by
  refine ⟨hs.1, fun sn st hl => ?_⟩
  obtain ⟨v, v1, v2⟩ := hs.2 sn st (by omega)
  exact ⟨v, hP v v1, v2⟩
theorem sg_val {cd : Nat → Int32} {a : Nat} (hx : cd a < 11 ∨ 1000 ≤ cd a) : SgR cd a (a + 1) 1 (fun _ => True) := by
  refine ⟨by omega, fun sn st hl => ?_⟩
  rw [show a + 1 - a = 0 + 1 by omega]
  refine ⟨if cd a < 11 then sn (cd a).toNatClampNeg else (cd a - 1000).toInt64, trivial, ?_⟩
  show (pxS sn (cd a) st).bind (pxG sn cd (a + 1) 0) = _
  unfold pxS
  rw [if_pos hx, if_pos (by omega)]
  rfl
theorem sg_bin {cd : Nat → Int32} {a b c h1 h2 h : Nat} {P1 P2 P : Int64 → Prop} {x : Int32} (s1 : SgR cd a b h1 P1) (s2 : SgR cd b c h2 P2) (hc : cd c = x) (hx : ¬ x < 11 ∧ x < 1000 ∧ x ≠ 13) (hP : ∀ u v, P1 u → P2 v → P (jnF x u v)) (e1 : h1 ≤ h) (e2 : h2 + 1 ≤ h) : SgR cd a (c + 1) h P := by
  have q1 := s1.1
  have q2 := s2.1
  refine ⟨by omega, fun sn st hl => ?_⟩
  obtain ⟨u, u1, u2⟩ := s1.2 sn st (by omega)
  obtain ⟨v, v1, v2⟩ := s2.2 sn (u :: st) (by rw [List.length_cons]; omega)
  refine ⟨jnF x u v, hP u v u1 v1, ?_⟩
  rw [show c + 1 - a = (b - a) + ((c - b) + 1) by omega, pxG_add, u2]
  show pxG sn cd (a + (b - a)) ((c - b) + 1) (u :: st) = _
  rw [show a + (b - a) = b by omega, pxG_add, v2]
  show pxG sn cd (b + (c - b)) 1 (v :: u :: st) = _
  rw [show b + (c - b) = c by omega]
  show (pxS sn (cd c) (v :: u :: st)).bind (pxG sn cd (c + 1) 0) = _
  rw [hc, pxS_bin hx]
  rfl
theorem sg_not {cd : Nat → Int32} {a b h : Nat} (s1 : SgR cd a b h ZO) (hc : cd b = 13) : SgR cd a (b + 1) h ZO := by
  have q1 := s1.1
  refine ⟨by omega, fun sn st hl => ?_⟩
  obtain ⟨u, u1, u2⟩ := s1.2 sn st hl
  refine ⟨1 - u, ?_, ?_⟩
  · rcases u1 with rfl | rfl
    · exact Or.inr (by decide)
    · exact Or.inl (by decide)
  · rw [show b + 1 - a = (b - a) + 1 by omega, pxG_add, u2]
    show pxG sn cd (a + (b - a)) 1 (u :: st) = _
    rw [show a + (b - a) = b by omega]
    show (pxS sn (cd b) (u :: st)).bind (pxG sn cd (b + 1) 0) = _
    rw [hc, pxS_not]
    rfl
theorem jn_cmp {x : Int32} (hx : x = 60 ∨ x = 316 ∨ x = 61 ∨ x = 318 ∨ x = 62) (u v : Int64) : ZO (jnF x u v) := by
  unfold ZO
  rcases hx with rfl | rfl | rfl | rfl | rfl
  · show (if u < v then (1 : Int64) else 0) = 0 ∨ (if u < v then (1 : Int64) else 0) = 1
    split
    · exact Or.inr rfl
    · exact Or.inl rfl
  · show (if v < u then (0 : Int64) else 1) = 0 ∨ (if v < u then (0 : Int64) else 1) = 1
    split
    · exact Or.inl rfl
    · exact Or.inr rfl
  · show (if u = v then (1 : Int64) else 0) = 0 ∨ (if u = v then (1 : Int64) else 0) = 1
    split
    · exact Or.inr rfl
    · exact Or.inl rfl
  · show (if u < v then (0 : Int64) else 1) = 0 ∨ (if u < v then (0 : Int64) else 1) = 1
    split
    · exact Or.inl rfl
    · exact Or.inr rfl
  · show (if v < u then (1 : Int64) else 0) = 0 ∨ (if v < u then (1 : Int64) else 0) = 1
    split
    · exact Or.inr rfl
    · exact Or.inl rfl
theorem jn_log {x : Int32} (hx : x = 14 ∨ x = 15) {u v : Int64} (hu : ZO u) (hv : ZO v) : ZO (jnF x u v) := by
  unfold ZO at *
  rcases hx with rfl | rfl <;> rcases hu with rfl | rfl <;> rcases hv with rfl | rfl <;> decide
/-- the sign that stands there, as the class has it -/
def csF (by_ : Nat → Nat) (n tk i : Nat) : Int32 := if i < tk ∧ kB (by_ (tpk by_ n i)) = 3 then nJ (by_ (tpk by_ n i) + (if 1 < enk by_ n (tpk by_ n i) - tpk by_ n i then 256 else 0)) else -1
theorem cSignHere {I : IT} {J : JT} {by_ : Nat → Nat} {n k1 tk i : Nat} (d : Nat) (h : TkS I by_ n k1 tk) (hi : i ≤ tk) (e6 : I (1, 0) 6 = nJ i) : ev d mTe_signHere 0 [vR (1, 0)] [] (hh I J) = some (some (vI (csF by_ n tk i)), hh I J) := by
  obtain ⟨t1, t2, t3, t4, t5, t6⟩ := h.at hi
  have hk := kB_lt (by_ (tpk by_ n i))
  rw [eTe_signHere_0, e6, bnd (show i < 401 by omega) (by omega), bnd (show i < 401 by omega) (by omega), nJ_nat (show i < 2147483648 by omega), t4, t5]
  unfold csF
  by_cases e : i = tk
  · rw [if_pos e, if_neg (show ¬ nJ 0 = 3 by decide), if_neg (show ¬ (i < tk ∧ kB (by_ (tpk by_ n i)) = 3) by omega)]
  · rw [if_neg e, if_neg e]
    by_cases h3 : kB (by_ (tpk by_ n i)) = 3
    · rw [if_pos (show nJ (kB (by_ (tpk by_ n i))) = 3 by rw [h3]; rfl), if_pos (show i < tk ∧ kB (by_ (tpk by_ n i)) = 3 by omega)]
      unfold tvF
      rw [if_neg (show ¬ kB (by_ (tpk by_ n i)) = 1 by omega), if_neg (show ¬ kB (by_ (tpk by_ n i)) = 2 by omega)]
    · rw [if_neg (ne_nL (b := 3) h3 (by omega) (by decide)), if_neg (show ¬ (i < tk ∧ kB (by_ (tpk by_ n i)) = 3) by omega)]
/-- a sign of one byte -/
theorem cs_is {I : IT} {by_ : Nat → Nat} {n k1 tk i c : Nat} (h : TkS I by_ n k1 tk) (hi : i ≤ tk) (hc : kB c = 3) (hl : c < 256) (h60 : c ≠ 60) (h62 : c ≠ 62) : (csF by_ n tk i = (OfNat.ofNat c : Int32)) = (tpk by_ n i < n ∧ by_ (tpk by_ n i) = c) := by
  obtain ⟨t1, t2, t3, -⟩ := h.at hi
  apply propext
  unfold csF
  by_cases e : i = tk
  · have hq := t3.mpr e
    rw [if_neg (show ¬ (i < tk ∧ kB (by_ (tpk by_ n i)) = 3) by omega)]
    exact ⟨fun z => absurd z.symm (nJ_nm1 (a := c) (by omega)), fun z => by omega⟩
  · have hlt := (h.2.2.2.1 i (by omega)).1
    have hb := (h.1.2.2 _ hlt).1
    by_cases h3 : kB (by_ (tpk by_ n i)) = 3
    · rw [if_pos (show i < tk ∧ kB (by_ (tpk by_ n i)) = 3 by omega)]
      show nJ _ = nJ c ↔ _
      rw [nJ_eq (by split <;> omega) (by omega)]
      constructor
      · intro z
        refine ⟨hlt, ?_⟩
        split at z <;> omega
      · rintro ⟨-, z⟩
        have hen : enk by_ n (tpk by_ n i) = tpk by_ n i + 1 := by
          unfold enk
          rw [if_pos h3, if_neg (by omega)]
        rw [hen, if_neg (by omega), z]
        rfl
    · rw [if_neg (fun z => h3 z.2)]
      exact ⟨fun z => absurd z.symm (nJ_nm1 (a := c) (by omega)), fun z => absurd (by rw [z.2]; exact hc) h3⟩
theorem enk1 {by_ : Nat → Nat} {n s c : Nat} (h : by_ s = c) (hc : kB c = 3) (h60 : c ≠ 60) (h62 : c ≠ 62) : enk by_ n s = s + 1 := by
  unfold enk
  rw [h, if_pos hc, if_neg (by omega)]
