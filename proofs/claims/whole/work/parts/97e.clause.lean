/-! A CLAUSE of roads -/
theorem std_no {by_ : Nat → Nat} {n s : Nat} {t : List Nat} (ht : 0 < t.length) (h : ¬ (s < n ∧ kB (by_ s) = 1)) : std by_ n s t = false := by
  unfold std
  have : lnB by_ n s = s := rn_stop (fun z => h ⟨z.1, by have := z.2; rw [Nat.beq_eq] at this; exact this⟩)
  rw [this, beq_f (by omega), Bool.false_and]
theorem wlR_pos : ∀ w ∈ wlR, 0 < w.length := by decide +kernel
theorem wlU_pos : ∀ w ∈ wlU, 0 < w.length := by decide +kernel
theorem wfd_no {f : List Nat → Bool} : ∀ (l : List (List Nat)) (k : Nat), (∀ w ∈ l, f w = false) → wfd f l k = -1
  | [], _, _ => rfl
  | w :: l, k, h => by
    unfold wfd
    rw [h w List.mem_cons_self, if_neg (by decide)]
    exact wfd_no l (k + 1) (fun v hv => h v (List.mem_cons_of_mem _ hv))
theorem cWordHere {I : IT} {J : JT} {by_ : Nat → Nat} {n k1 tk i : Nat} (d : Nat) (h : TkS I by_ n k1 tk) (hi : i ≤ tk) (e6 : I (1, 0) 6 = nJ i) : ev d mTe_wordHere 0 [vR (1, 0)] [] (hh I J) = some (some (vI (wfd (std by_ n (tpk by_ n i)) (wlK k1) 0)), hh I J) := by
  obtain ⟨t1, t2, t3, t4, t5, t6⟩ := h.at hi
  have hk := kB_lt (by_ (tpk by_ n i))
  have hno : ¬ (tpk by_ n i < n ∧ kB (by_ (tpk by_ n i)) = 1) → wfd (std by_ n (tpk by_ n i)) (wlK k1) 0 = -1 := fun q => wfd_no _ 0 fun w hw => std_no (by
    unfold wlK at hw
    split at hw
    · exact wlR_pos w hw
    · exact wlU_pos w hw) q
  rw [eTe_wordHere_0, e6, bnd (show i < 401 by omega) (by omega), bnd (show i < 401 by omega) (by omega), nJ_nat (show i < 2147483648 by omega), t4, t5]
  by_cases e : i = tk
  · have hq : tpk by_ n i = n := t3.mpr e
    rw [if_pos e, if_neg (show ¬ nJ 0 = 1 by decide), hno (fun z => by omega)]
  · rw [if_neg e, if_neg e]
    by_cases h1 : kB (by_ (tpk by_ n i)) = 1
    · rw [if_pos (show nJ (kB (by_ (tpk by_ n i))) = 1 by rw [h1]; rfl)]
      unfold tvF
      rw [if_pos h1]
    · rw [if_neg (ne_nL (b := 1) h1 (by omega) (by decide)), hno (fun z => h1 z.2)]
theorem std_run {by_ : Nat → Nat} {n s : Nat} {t : List Nat} (ht : 0 < t.length) (h : std by_ n s t = true) : s < n ∧ kB (by_ s) = 1 ∧ enk by_ n s = s + t.length := by
  by_cases hc : s < n ∧ kB (by_ s) = 1
  · refine ⟨hc.1, hc.2, ?_⟩
    unfold std at h
    rw [Bool.and_eq_true, Nat.beq_eq] at h
    rw [← h.1]
    unfold lnB enk
    rw [if_neg (by omega), hc.2, ← rn_go (f := fun q => Nat.beq (kB (by_ q)) 1) hc.1 (by show Nat.beq (kB (by_ s)) 1 = true; rw [hc.2]; rfl)]
  · rw [std_no ht hc] at h
    cases h
theorem mRoadsWord {A : IT} {B : JT} (d k : Nat) (hk : k < 6) : ev d mMo_roadsWord 0 [vI (nJ k)] [] (hh A B) = some (some (vR (99, 2 + k)), hh A B) := by
  rw [eMo_roadsWord_0]
  have : k = 0 ∨ k = 1 ∨ k = 2 ∨ k = 3 ∨ k = 4 ∨ k = 5 := by omega
  rcases this with rfl | rfl | rfl | rfl | rfl | rfl <;> rfl
theorem bR_some {a : Ad} {h : Hp} {f : Ad → Hp → Option Rs} {g : Hp → Option Rs} : bR (some (some (vR a), h)) f g = f a h := rfl
/-- with the word found -/
noncomputable def rcF (A : IT) (B : JT) (d k c s : Nat) : Option Rs := bI (ev d mMo_isFull 0 [vR (43, 0), vI (nJ k), vI (nJ c)] [] (hh A B)) (fun r4 h4 => if r4 = 0 then bV (ev d mMo_roadsPart 0 [vR (43, 0), vI (nJ k), vU, vU] [] (hh (up2 (gI h4) (43, 0) 27 (((gI h4) (43, 0) 27) + nJ (nthD txL (2 + k) []).length)) (gJ h4))) (fun h6 => some (none, hh (gI h6) (gJ h6))) else bV (ev d mMo_fails 0 [vR (43, 0), vI 4, vI (nJ s)] [] (hh (gI h4) (gJ h4))) (fun h7 => some (none, hh (gI h7) (gJ h7))))
theorem isFull_heap {A : IT} {B : JT} (d : Nat) (x y : Int32) : ∃ v, ev d mMo_isFull 0 [vR (43, 0), vI x, vI y] [] (hh A B) = some (some (vI v), hh A B) := by
  have h13 : ∀ y0 y1 : Int32, ∃ v, ev d mMo_isFull 13 [vR (43, 0), vI x, vU] [vI y1, vI y0] (hh A B) = some (some (vI v), hh A B) := fun y0 y1 => by
    rw [eMo_isFull_13]
    repeat' split
    all_goals exact ⟨_, rfl⟩
  rw [eMo_isFull_0]
  repeat' split
  all_goals first
    | exact ⟨_, rfl⟩
    | exact h13 _ _
theorem rc_step {A : IT} {B : JT} {by_ : Nat → Nat} {n s c k : Nat} (d : Nat) (h : BtM A by_ n) (hp : A (43, 0) 27 = nJ s) (hs : s ≤ n) (hk : k < 6) : ev (d + 1) mMo_roadsClause 7 [vR (43, 0), vI (nJ c), vI (nJ s), vI (nJ k)] [] (hh A B) = if std by_ n s (nthD txL (2 + k) []) = true then rcF A B d k c s else ev (d + 1) mMo_roadsClause 7 [vR (43, 0), vI (nJ c), vI (nJ s), vI (nJ (k + 1))] [] (hh A B) := by
  rw [eMo_roadsClause_7, if_pos (lt_nL (b := 6) hk (by decide)), mRoadsWord d k hk, bR_some, gI_hh, gJ_hh, mStood d h hp hs (by omega) (by omega), bI_some, bif2, nJ_succ]
  by_cases hst : std by_ n s (nthD txL (2 + k) []) = true
  · rw [if_pos hst, if_pos hst, if_neg (ne_nL (b := 6) (by omega) (by omega) (by decide))]
    unfold rcF
    obtain ⟨v, hv⟩ := isFull_heap (A := A) (B := B) d (nJ k) (nJ c)
    simp only [gI_hh, gJ_hh]
    rw [hv, bI_some, bI_some]
    simp only [gI_hh, gJ_hh]
    rw [mRoadsWord d k hk, bR_some]
    rfl
  · rw [if_neg hst, if_neg hst]
theorem rc_go {A : IT} {B : JT} {by_ : Nat → Nat} {n s c : Nat} (d : Nat) (h : BtM A by_ n) (hp : A (43, 0) 27 = nJ s) (hs : s ≤ n) : (wfd (std by_ n s) wlR 0 = -1 ∧ ev (d + 1) mMo_roadsClause 7 [vR (43, 0), vI (nJ c), vI (nJ s), vI 0] [] (hh A B) = bV (ev d mMo_fails 0 [vR (43, 0), vI 0, vI (nJ s)] [] (hh A B)) (fun h14 => some (none, hh (gI h14) (gJ h14)))) ∨ ∃ k, k < 6 ∧ wfd (std by_ n s) wlR 0 = nJ k ∧ std by_ n s (nthD txL (2 + k) []) = true ∧ ev (d + 1) mMo_roadsClause 7 [vR (43, 0), vI (nJ c), vI (nJ s), vI 0] [] (hh A B) = rcF A B d k c s := by
  have st := fun k (hk : k < 6) => rc_step (A := A) (B := B) (c := c) d h hp hs hk
  have s0 : ev (d + 1) mMo_roadsClause 7 [vR (43, 0), vI (nJ c), vI (nJ s), vI 0] [] (hh A B) = _ := st 0 (by decide)
  rw [s0, st 1 (by decide), st 2 (by decide), st 3 (by decide), st 4 (by decide), st 5 (by decide)]
  unfold wlR wfd wfd wfd wfd wfd wfd wfd
  by_cases h0 : std by_ n s (nthD txL 2 []) = true
  · exact Or.inr ⟨0, by decide, by rw [if_pos h0], h0, if_pos h0⟩
  by_cases h1 : std by_ n s (nthD txL 3 []) = true
  · exact Or.inr ⟨1, by decide, by rw [if_neg h0, if_pos h1], h1, (if_neg h0).trans (if_pos h1)⟩
  by_cases h2 : std by_ n s (nthD txL 4 []) = true
  · exact Or.inr ⟨2, by decide, by rw [if_neg h0, if_neg h1, if_pos h2], h2, (if_neg h0).trans ((if_neg h1).trans (if_pos h2))⟩
  by_cases h3 : std by_ n s (nthD txL 5 []) = true
  · exact Or.inr ⟨3, by decide, by rw [if_neg h0, if_neg h1, if_neg h2, if_pos h3], h3, (if_neg h0).trans ((if_neg h1).trans ((if_neg h2).trans (if_pos h3)))⟩
  by_cases h4 : std by_ n s (nthD txL 6 []) = true
  · exact Or.inr ⟨4, by decide, by rw [if_neg h0, if_neg h1, if_neg h2, if_neg h3, if_pos h4], h4, (if_neg h0).trans ((if_neg h1).trans ((if_neg h2).trans ((if_neg h3).trans (if_pos h4))))⟩
  by_cases h5 : std by_ n s (nthD txL 7 []) = true
  · exact Or.inr ⟨5, by decide, by rw [if_neg h0, if_neg h1, if_neg h2, if_neg h3, if_neg h4, if_pos h5], h5, (if_neg h0).trans ((if_neg h1).trans ((if_neg h2).trans ((if_neg h3).trans ((if_neg h4).trans (if_pos h5)))))⟩
  refine Or.inl ⟨by rw [if_neg h0, if_neg h1, if_neg h2, if_neg h3, if_neg h4, if_neg h5], ?_⟩
  refine (if_neg h0).trans ((if_neg h1).trans ((if_neg h2).trans ((if_neg h3).trans ((if_neg h4).trans ((if_neg h5).trans ?_)))))
  rw [eMo_roadsClause_7, if_neg (show ¬ nJ (5 + 1) < 6 by decide), if_pos (show nJ (5 + 1) = 6 from rfl)]
/-- no room, or not in its place -/
def fulF (k c T S N : Nat) : Prop := c = 40 ∨ ¬ (k = 0 ↔ c = 0) ∨ (k = 1 ∧ T = 8) ∨ (k = 4 ∧ S = 6) ∨ (k = 5 ∧ (N = 3 ∨ T = 0))
theorem mFull {A : IT} {B : JT} {k c T S N : Nat} (d : Nat) (hk : k < 6) (hc : c ≤ 40) (e1 : A (61, 0) 1 = nJ T) (e3 : A (61, 0) 3 = nJ S) (e4 : A (61, 0) 4 = nJ N) (hT : T ≤ 8) (hS : S ≤ 6) (hN : N ≤ 3) : ∃ v, ev d mMo_isFull 0 [vR (43, 0), vI (nJ k), vI (nJ c)] [] (hh A B) = some (some (vI v), hh A B) ∧ (v = 0 ↔ ¬ fulF k c T S N) := by
  have n0 : ∀ {x y : Nat}, x ≠ y → x < 1000 → y < 1000 → ¬ nJ x = nJ y := fun h hx hy => ne_nJ h (by omega) (by omega)
  rw [eMo_isFull_0]
  unfold fulF
  by_cases h40 : c = 40
  · rw [if_pos (show nJ c = 40 by rw [h40]; rfl)]
    exact ⟨1, rfl, fun z => absurd z (by decide), fun z => absurd (Or.inl h40) z⟩
  rw [if_neg (ne_nL (b := 40) h40 (by omega) (by decide))]
  have g13 : ∀ y : Int32, ∃ v, ev d mMo_isFull 13 [vR (43, 0), vI (nJ k), vU] [vI y, vI y] (hh A B) = some (some (vI v), hh A B) ∧ (v = 0 ↔ ¬ ((k = 1 ∧ T = 8) ∨ (k = 4 ∧ S = 6) ∨ (k = 5 ∧ (N = 3 ∨ T = 0)))) := fun y => by
    rw [eMo_isFull_13, if_pos rfl, e1, e3, e4]
    have hk6 : k = 0 ∨ k = 1 ∨ k = 2 ∨ k = 3 ∨ k = 4 ∨ k = 5 := by omega
    rcases hk6 with rfl | rfl | rfl | rfl | rfl | rfl
    · exact ⟨0, rfl, fun _ => by omega, fun _ => rfl⟩
    · rw [if_pos (show nJ 1 = 1 from rfl)]
      by_cases e : T = 8
      · rw [if_pos (show nJ T = 8 by rw [e]; rfl)]
        exact ⟨1, rfl, fun z => absurd z (by decide), fun z => absurd (Or.inl ⟨rfl, e⟩) z⟩
      · rw [if_neg (ne_nL (b := 8) e (by omega) (by decide))]
        exact ⟨0, rfl, fun _ => by omega, fun _ => rfl⟩
    · exact ⟨0, rfl, fun _ => by omega, fun _ => rfl⟩
    · exact ⟨0, rfl, fun _ => by omega, fun _ => rfl⟩
    · rw [if_neg (show ¬ nJ 4 = 1 by decide), if_neg (show ¬ nJ 4 = 2 by decide), if_neg (show ¬ nJ 4 = 3 by decide), if_pos (show nJ 4 = 4 from rfl)]
      by_cases e : S = 6
      · rw [if_pos (show nJ S = 6 by rw [e]; rfl)]
        exact ⟨1, rfl, fun z => absurd z (by decide), fun z => absurd (Or.inr (Or.inl ⟨rfl, e⟩)) z⟩
      · rw [if_neg (ne_nL (b := 6) e (by omega) (by decide))]
        exact ⟨0, rfl, fun _ => by omega, fun _ => rfl⟩
    · rw [if_neg (show ¬ nJ 5 = 1 by decide), if_neg (show ¬ nJ 5 = 2 by decide), if_neg (show ¬ nJ 5 = 3 by decide), if_neg (show ¬ nJ 5 = 4 by decide), if_pos (show nJ 5 = 5 from rfl)]
      by_cases e : N = 3
      · rw [if_pos (show nJ N = 3 by rw [e]; rfl)]
        exact ⟨1, rfl, fun z => absurd z (by decide), fun z => absurd (Or.inr (Or.inr ⟨rfl, Or.inl e⟩)) z⟩
      · rw [if_neg (ne_nL (b := 3) e (by omega) (by decide))]
        by_cases e' : T = 0
        · rw [if_pos (show nJ T = 0 by rw [e']; rfl)]
          exact ⟨1, rfl, fun z => absurd z (by decide), fun z => absurd (Or.inr (Or.inr ⟨rfl, Or.inr e'⟩)) z⟩
        · rw [if_neg (ne_nL (b := 0) e' (by omega) (by decide))]
          exact ⟨0, rfl, fun _ => by omega, fun _ => rfl⟩
  by_cases k0 : k = 0
  · rw [if_pos (show nJ k = 0 by rw [k0]; rfl)]
    by_cases c0 : c = 0
    · rw [if_pos (show nJ c = 0 by rw [c0]; rfl)]
      obtain ⟨v, v1, v2⟩ := g13 1
      exact ⟨v, v1, v2.trans ⟨fun z => by omega, fun z => by omega⟩⟩
    · rw [if_neg (ne_nL (b := 0) c0 (by omega) (by decide)), eMo_isFull_13, if_neg (show ¬ (1 : Int32) = 0 by decide)]
      exact ⟨1, rfl, fun z => absurd z (by decide), fun z => by omega⟩
  · rw [if_neg (ne_nL (b := 0) k0 (by omega) (by decide))]
    by_cases c0 : c = 0
    · rw [if_pos (show nJ c = 0 by rw [c0]; rfl), eMo_isFull_13, if_neg (show ¬ (0 : Int32) = 1 by decide)]
      exact ⟨1, rfl, fun z => absurd z (by decide), fun z => by omega⟩
    · rw [if_neg (ne_nL (b := 0) c0 (by omega) (by decide))]
      obtain ⟨v, v1, v2⟩ := g13 0
      exact ⟨v, v1, v2.trans ⟨fun z => by omega, fun z => by omega⟩⟩
theorem cNoRoom {I : IT} {J : JT} {k T S N : Nat} (d : Nat) (hk : k < 6) (e2 : I (8, 5) 2 = nJ T) (e3 : I (8, 5) 3 = nJ S) (e4 : I (8, 5) 4 = nJ N) (hT : T ≤ 8) (hS : S ≤ 6) (hN : N ≤ 3) : ∃ v, ev d mRo_hasNoRoom 0 [vR (8, 5), vI (nJ k)] [] (hh I J) = some (some (vI v), hh I J) ∧ (v = 0 ↔ ¬ ((k = 1 ∧ T = 8) ∨ (k = 4 ∧ S = 6) ∨ (k = 5 ∧ (N = 3 ∨ T = 0)))) := by
  rw [eRo_hasNoRoom_0, e2, e3, e4]
  have hk6 : k = 0 ∨ k = 1 ∨ k = 2 ∨ k = 3 ∨ k = 4 ∨ k = 5 := by omega
  rcases hk6 with rfl | rfl | rfl | rfl | rfl | rfl
  · exact ⟨0, rfl, fun _ => by omega, fun _ => rfl⟩
  · rw [if_pos (show nJ 1 = 1 from rfl)]
    by_cases e : T = 8
    · rw [if_neg (nlt_nL (b := 8) (by omega) (by omega))]
      exact ⟨1, rfl, fun z => absurd z (by decide), fun z => absurd (Or.inl ⟨rfl, e⟩) z⟩
    · rw [if_pos (lt_nL (b := 8) (by omega) (by decide))]
      exact ⟨0, rfl, fun _ => by omega, fun _ => rfl⟩
  · exact ⟨0, rfl, fun _ => by omega, fun _ => rfl⟩
  · exact ⟨0, rfl, fun _ => by omega, fun _ => rfl⟩
  · rw [if_neg (show ¬ nJ 4 = 1 by decide), if_neg (show ¬ nJ 4 = 2 by decide), if_neg (show ¬ nJ 4 = 3 by decide), if_pos (show nJ 4 = 4 from rfl)]
    by_cases e : S = 6
    · rw [if_neg (nlt_nL (b := 6) (by omega) (by omega))]
      exact ⟨1, rfl, fun z => absurd z (by decide), fun z => absurd (Or.inr (Or.inl ⟨rfl, e⟩)) z⟩
    · rw [if_pos (lt_nL (b := 6) (by omega) (by decide))]
      exact ⟨0, rfl, fun _ => by omega, fun _ => rfl⟩
  · rw [if_neg (show ¬ nJ 5 = 1 by decide), if_neg (show ¬ nJ 5 = 2 by decide), if_neg (show ¬ nJ 5 = 3 by decide), if_neg (show ¬ nJ 5 = 4 by decide), if_pos (show nJ 5 = 5 from rfl)]
    by_cases e : N = 3
    · rw [if_neg (nlt_nL (b := 3) (by omega) (by omega))]
      exact ⟨1, rfl, fun z => absurd z (by decide), fun z => absurd (Or.inr (Or.inr ⟨rfl, Or.inl e⟩)) z⟩
    · rw [if_pos (lt_nL (b := 3) (by omega) (by decide))]
      by_cases e' : T = 0
      · rw [if_pos (show nJ T = 0 by rw [e']; rfl)]
        exact ⟨1, rfl, fun z => absurd z (by decide), fun z => absurd (Or.inr (Or.inr ⟨rfl, Or.inr e'⟩)) z⟩
      · rw [if_neg (ne_nL (b := 0) e' (by omega) (by decide))]
        exact ⟨0, rfl, fun _ => by omega, fun _ => rfl⟩
