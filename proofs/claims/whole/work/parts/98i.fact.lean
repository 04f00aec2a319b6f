/-! A FACT with no bracket in front -/
theorem eqT_uniq {by_ : Nat → Nat} : ∀ (w v : List Nat) (p : Nat), w.length = v.length → eqT by_ p w = true → eqT by_ p v = true → w = v
  | [], [], _, _, _, _ => rfl
  | [], _ :: _, _, h, _, _ => by simp at h
  | _ :: _, [], _, h, _, _ => by simp at h
  | a :: w, b :: v, p, h, h1, h2 => by
    unfold eqT at h1 h2
    rw [Bool.and_eq_true, Nat.beq_eq] at h1 h2
    rw [eqT_uniq w v (p + 1) (by simpa using h) h1.2 h2.2, ← h1.1, ← h2.1]
theorem std_uniq {by_ : Nat → Nat} {n s : Nat} {w v : List Nat} (h1 : std by_ n s w = true) (h2 : std by_ n s v = true) : w = v := by
  unfold std at h1 h2
  rw [Bool.and_eq_true, Nat.beq_eq] at h1 h2
  exact eqT_uniq w v s (by omega) h1.2 h2.2
theorem nthD_memW : ∀ (l : List (List Nat)) (j : Nat), j < l.length → nthD l j [] ∈ l
  | [], _, h => by simp at h
  | a :: l, 0, _ => List.mem_cons_self
  | a :: l, j + 1, h => List.mem_cons_of_mem _ (nthD_memW l j (by simpa using h))
theorem wfd_iff {f : List Nat → Bool} (hu : ∀ w v, f w = true → f v = true → w = v) : ∀ (l : List (List Nat)) (k j : Nat), l.Nodup → k + l.length ≤ 1000 → j < l.length → (wfd f l k = nJ (k + j) ↔ f (nthD l j []) = true)
  | [], _, _, _, _, h => by simp at h
  | w :: l, k, 0, hn, hb, _ => by
    show (if f w = true then nJ k else wfd f l (k + 1)) = nJ k ↔ f w = true
    by_cases hw : f w = true
    · rw [if_pos hw]
      exact ⟨fun _ => hw, fun _ => rfl⟩
    · rw [if_neg hw]
      refine ⟨fun z => ?_, fun z => absurd z hw⟩
      rw [List.length_cons] at hb
      rcases wfd_ge (f := f) l (k + 1) with e | ⟨j, j1, j2, e⟩
      · exact absurd (z.symm.trans e) (nJ_nm1 (by omega))
      · have : k = j := (nJ_eq (by omega) (by omega)).mp (z.symm.trans e)
        omega
  | w :: l, k, j + 1, hn, hb, hj => by
    show (if f w = true then nJ k else wfd f l (k + 1)) = nJ (k + (j + 1)) ↔ f (nthD l j []) = true
    rw [List.length_cons] at hb hj
    have hn' := List.nodup_cons.mp hn
    by_cases hw : f w = true
    · rw [if_pos hw]
      refine ⟨fun z => ?_, fun z => ?_⟩
      · have : k = k + (j + 1) := (nJ_eq (by omega) (by omega)).mp z
        omega
      · have := hu w _ hw z
        exact absurd (by rw [this]; exact nthD_memW l j (by omega)) hn'.1
    · rw [if_neg hw, show k + (j + 1) = (k + 1) + j by omega]
      exact wfd_iff hu l (k + 1) j hn'.2 (by omega) (by omega)
theorem wlU_nd : wlU.Nodup := by decide +kernel
theorem wlU_len : wlU.length = 16 := rfl
theorem cIsWord {I : IT} {J : JT} {by_ : Nat → Nat} {n tk i : Nat} (d k : Nat) (hk : k < 16) (h : TkS I by_ n 1 tk) (hi : i ≤ tk) (e6 : I (1, 0) 6 = nJ i) : ev d mTe_isWord 0 [vR (1, 0), vI (nJ k)] [] (hh I J) = some (some (vI (if std by_ n (tpk by_ n i) (nthD wlU k []) = true then 1 else 0)), hh I J) := by
  obtain ⟨t1, t2, t3, t4, t5, t6⟩ := h.at hi
  have hkb := kB_lt (by_ (tpk by_ n i))
  have hpos : 0 < (nthD wlU k []).length := wlU_pos _ (nthD_memW wlU k (by rw [wlU_len]; exact hk))
  rw [eTe_isWord_0, e6, bnd (show i < 401 by omega) (by omega), bnd (show i < 401 by omega) (by omega), nJ_nat (show i < 2147483648 by omega), t4, t5]
  by_cases e : i = tk
  · have hq : tpk by_ n i = n := t3.mpr e
    rw [if_pos e, if_neg (show ¬ nJ 0 = 1 by decide), std_no hpos (fun z => by omega), if_neg (by decide)]
  · rw [if_neg e, if_neg e]
    by_cases h1 : kB (by_ (tpk by_ n i)) = 1
    · rw [if_pos (show nJ (kB (by_ (tpk by_ n i))) = 1 by rw [h1]; rfl)]
      unfold tvF
      rw [if_pos h1]
      have hw : (wfd (std by_ n (tpk by_ n i)) (wlK 1) 0 = nJ k) = (std by_ n (tpk by_ n i) (nthD wlU k []) = true) := propext (by
        have := wfd_iff (f := std by_ n (tpk by_ n i)) (fun w v => std_uniq) wlU 0 k wlU_nd (by rw [wlU_len]; decide) (by rw [wlU_len]; exact hk)
        rw [Nat.zero_add] at this
        exact this)
      by_cases q : std by_ n (tpk by_ n i) (nthD wlU k []) = true
      · rw [if_pos (Eq.mpr hw q), if_pos q]
      · rw [if_neg (fun z => q (Eq.mp hw z)), if_neg q]
    · rw [if_neg (ne_nL (b := 1) h1 (by omega) (by decide)), std_no hpos (fun z => h1 z.2), if_neg (by decide)]
theorem cIsSign {I : IT} {J : JT} {by_ : Nat → Nat} {n k1 tk i : Nat} (d c : Nat) (h : TkS I by_ n k1 tk) (hi : i ≤ tk) (e6 : I (1, 0) 6 = nJ i) (hc : kB c = 3) (hl : c < 256) (h60 : c ≠ 60) (h62 : c ≠ 62) : ev d mTe_isSign 0 [vR (1, 0), vI (nJ c)] [] (hh I J) = some (some (vI (if tpk by_ n i < n ∧ by_ (tpk by_ n i) = c then 1 else 0)), hh I J) := by
  have hcs : (csF by_ n tk i = nJ c) = (tpk by_ n i < n ∧ by_ (tpk by_ n i) = c) := cs_is h hi hc hl h60 h62
  obtain ⟨t1, t2, t3, t4, t5, t6⟩ := h.at hi
  have hkb := kB_lt (by_ (tpk by_ n i))
  rw [eTe_isSign_0, e6, bnd (show i < 401 by omega) (by omega), bnd (show i < 401 by omega) (by omega), nJ_nat (show i < 2147483648 by omega), t4, t5]
  have key : (if tpk by_ n i < n ∧ by_ (tpk by_ n i) = c then (1 : Int32) else 0) = if csF by_ n tk i = nJ c then 1 else 0 := by
    by_cases q : tpk by_ n i < n ∧ by_ (tpk by_ n i) = c
    · rw [if_pos q, if_pos (Eq.mpr hcs q)]
    · rw [if_neg q, if_neg (fun z => q (Eq.mp hcs z))]
  rw [key]
  unfold csF
  by_cases e : i = tk
  · rw [if_pos e, if_neg (show ¬ nJ 0 = 3 by decide), if_neg (show ¬ (i < tk ∧ kB (by_ (tpk by_ n i)) = 3) by omega), if_neg (fun z => nJ_nm1 (a := c) (by omega) z.symm)]
  · rw [if_neg e, if_neg e]
    by_cases h3 : kB (by_ (tpk by_ n i)) = 3
    · rw [if_pos (show nJ (kB (by_ (tpk by_ n i))) = 3 by rw [h3]; rfl), if_pos (show i < tk ∧ kB (by_ (tpk by_ n i)) = 3 by omega)]
      unfold tvF
      rw [if_neg (show ¬ kB (by_ (tpk by_ n i)) = 1 by omega), if_neg (show ¬ kB (by_ (tpk by_ n i)) = 2 by omega)]
      by_cases q : nJ (by_ (tpk by_ n i) + (if 1 < enk by_ n (tpk by_ n i) - tpk by_ n i then 256 else 0)) = nJ c
      · rw [if_pos q, if_pos q]
      · rw [if_neg q, if_neg q]
    · rw [if_neg (ne_nL (b := 3) h3 (by omega) (by decide)), if_neg (show ¬ (i < tk ∧ kB (by_ (tpk by_ n i)) = 3) by omega), if_neg (fun z => nJ_nm1 (a := c) (by omega) z.symm)]
/-- which sign compares, on both sides -/
theorem cmp_cases {I : IT} {by_ : Nat → Nat} {n k1 tk i : Nat} (h : TkS I by_ n k1 tk) (hi : i ≤ tk) : ((¬ csF by_ n tk i = 60 ∧ ¬ csF by_ n tk i = 61 ∧ ¬ csF by_ n tk i = 62 ∧ ¬ csF by_ n tk i = 316 ∧ ¬ csF by_ n tk i = 318) ∧ ¬ (tpk by_ n i < n ∧ (by_ (tpk by_ n i) = 60 ∨ by_ (tpk by_ n i) = 61 ∨ by_ (tpk by_ n i) = 62))) ∨ ∃ b c e, tpk by_ n i < n ∧ by_ (tpk by_ n i) = b ∧ csF by_ n tk i = nJ c ∧ enk by_ n (tpk by_ n i) = tpk by_ n i + 1 + e ∧ ((b = 60 ∧ c = 60 ∧ e = 0) ∨ (b = 60 ∧ c = 316 ∧ e = 1) ∨ (b = 61 ∧ c = 61 ∧ e = 0) ∨ (b = 62 ∧ c = 62 ∧ e = 0) ∨ (b = 62 ∧ c = 318 ∧ e = 1)) ∧ e = (if b ≠ 61 ∧ tpk by_ n i + 1 < n ∧ by_ (tpk by_ n i + 1) = 61 then 1 else 0) ∧ i < tk := by
  obtain ⟨t1, t2, t3, -⟩ := h.at hi
  by_cases e : i = tk
  · have hq := t3.mpr e
    left
    unfold csF
    rw [if_neg (show ¬ (i < tk ∧ kB (by_ (tpk by_ n i)) = 3) by omega)]
    exact ⟨by decide, fun z => by omega⟩
  · have hlt := (h.2.2.2.1 i (by omega)).1
    have hb := (h.1.2.2 _ hlt).1
    by_cases hb3 : by_ (tpk by_ n i) = 60 ∨ by_ (tpk by_ n i) = 61 ∨ by_ (tpk by_ n i) = 62
    · right
      have h3 : kB (by_ (tpk by_ n i)) = 3 := by
        rcases hb3 with z | z | z <;> (rw [z]; rfl)
      have hcs : csF by_ n tk i = nJ (by_ (tpk by_ n i) + (if 1 < enk by_ n (tpk by_ n i) - tpk by_ n i then 256 else 0)) := if_pos ⟨by omega, h3⟩
      have hen : enk by_ n (tpk by_ n i) = if (by_ (tpk by_ n i) = 60 ∨ by_ (tpk by_ n i) = 62) ∧ tpk by_ n i + 1 < n ∧ by_ (tpk by_ n i + 1) = 61 then tpk by_ n i + 2 else tpk by_ n i + 1 := by
        unfold enk
        rw [if_pos h3]
      by_cases hq : tpk by_ n i + 1 < n ∧ by_ (tpk by_ n i + 1) = 61
      · rcases hb3 with z | z | z
        · rw [if_pos ⟨Or.inl z, hq⟩] at hen
          rw [hen, if_pos (by omega), z] at hcs
          exact ⟨60, 316, 1, hlt, z, hcs, by omega, by decide, by rw [if_pos ⟨by decide, hq⟩], by omega⟩
        · rw [if_neg (by omega)] at hen
          rw [hen, if_neg (by omega), z] at hcs
          exact ⟨61, 61, 0, hlt, z, hcs, by omega, by decide, by rw [if_neg (fun w => w.1 rfl)], by omega⟩
        · rw [if_pos ⟨Or.inr z, hq⟩] at hen
          rw [hen, if_pos (by omega), z] at hcs
          exact ⟨62, 318, 1, hlt, z, hcs, by omega, by decide, by rw [if_pos ⟨by decide, hq⟩], by omega⟩
      · rw [if_neg (fun w => hq w.2)] at hen
        rw [hen, if_neg (by omega)] at hcs
        rcases hb3 with z | z | z <;> rw [z] at hcs
        · exact ⟨60, 60, 0, hlt, z, hcs, by omega, by decide, by rw [if_neg (fun w => hq w.2)], by omega⟩
        · exact ⟨61, 61, 0, hlt, z, hcs, by omega, by decide, by rw [if_neg (fun w => hq w.2)], by omega⟩
        · exact ⟨62, 62, 0, hlt, z, hcs, by omega, by decide, by rw [if_neg (fun w => hq w.2)], by omega⟩
    · left
      refine ⟨?_, fun z => hb3 z.2⟩
      unfold csF
      split
      · rename_i q
        have hen : enk by_ n (tpk by_ n i) = tpk by_ n i + 1 := by
          unfold enk
          rw [if_pos q.2, if_neg (by omega)]
        rw [hen, if_neg (by omega)]
        exact ⟨ne_nL (b := 60) (by omega) (by omega) (by decide), ne_nL (b := 61) (by omega) (by omega) (by decide), ne_nL (b := 62) (by omega) (by omega) (by decide), ne_nL (b := 316) (by omega) (by omega) (by decide), ne_nL (b := 318) (by omega) (by omega) (by decide)⟩
      · decide
