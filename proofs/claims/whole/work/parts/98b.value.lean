theorem up2_comm {α : Type} {f : Ad → Nat → α} {a b : Ad} {k j : Nat} {x y : α} (h : ¬ (a = b ∧ k = j)) : up2 (up2 f a k x) b j y = up2 (up2 f b j y) a k x := by
  funext c i
  rw [up_at, up_at, up_at, up_at]
  by_cases h1 : c = b ∧ i = j
  · rw [if_pos h1, if_neg (fun z => h ⟨z.1.symm.trans h1.1, z.2.symm.trans h1.2⟩), if_pos h1]
  · rw [if_neg h1, if_neg h1]
def txU (k : Nat) : Nat := nthD [7, 3, 9, 10, 11, 12, 13, 14, 15, 16, 4] k 0
theorem txU_ok : ∀ k, k < 11 → 2 ≤ txU k ∧ txU k < 21 := by decide
theorem mWordOf {A : IT} {B : JT} (d k : Nat) (hk : k < 11) : ev d mMo_wordOf 0 [vI (nJ k)] [] (hh A B) = some (some (vR (99, txU k)), hh A B) := by
  rw [eMo_wordOf_0]
  have : k = 0 ∨ k = 1 ∨ k = 2 ∨ k = 3 ∨ k = 4 ∨ k = 5 ∨ k = 6 ∨ k = 7 ∨ k = 8 ∨ k = 9 ∨ k = 10 := by omega
  rcases this with rfl | rfl | rfl | rfl | rfl | rfl | rfl | rfl | rfl | rfl | rfl <;> rfl
def wl11 : List (List Nat) := [nthD txL 7 [], nthD txL 3 [], nthD txL 9 [], nthD txL 10 [], nthD txL 11 [], nthD txL 12 [], nthD txL 13 [], nthD txL 14 [], nthD txL 15 [], nthD txL 16 [], nthD txL 4 []]
def wl5 : List (List Nat) := [nthD txL 8 [], nthD txL 17 [], nthD txL 18 [], nthD txL 19 [], nthD txL 20 []]
theorem wlU_app : wlU = wl11 ++ wl5 := rfl
theorem wl11_at : ∀ k, k < 11 → nthD wl11 k [] = nthD txL (txU k) [] := by decide +kernel
theorem wfd_app {f : List Nat → Bool} : ∀ (l l2 : List (List Nat)) (k : Nat), (∀ w ∈ l, f w = false) → wfd f (l ++ l2) k = wfd f l2 (k + l.length)
  | [], l2, k, _ => rfl
  | w :: l, l2, k, h => by
    show (if f w = true then _ else wfd f (l ++ l2) (k + 1)) = _
    rw [h w List.mem_cons_self, if_neg (by decide), wfd_app l l2 (k + 1) (fun v hv => h v (List.mem_cons_of_mem _ hv)), List.length_cons]
    congr 1
    omega
theorem wfd_found {f : List Nat → Bool} : ∀ (l l2 : List (List Nat)) (k : Nat), (∃ w ∈ l, f w = true) → wfd f (l ++ l2) k = wfd f l k
  | [], _, _, h => by
    obtain ⟨w, hw, -⟩ := h
    cases hw
  | w :: l, l2, k, h => by
    show (if f w = true then nJ k else wfd f (l ++ l2) (k + 1)) = if f w = true then nJ k else wfd f l (k + 1)
    by_cases e : f w = true
    · rw [if_pos e, if_pos e]
    · rw [if_neg e, if_neg e]
      obtain ⟨v, hv, hf⟩ := h
      rcases List.mem_cons.mp hv with rfl | hv
      · exact absurd hf e
      · exact wfd_found l l2 (k + 1) ⟨v, hv, hf⟩
theorem wfd_ge {f : List Nat → Bool} : ∀ (l : List (List Nat)) (k : Nat), wfd f l k = -1 ∨ ∃ j, k ≤ j ∧ j < k + l.length ∧ wfd f l k = nJ j
  | [], _ => Or.inl rfl
  | w :: l, k => by
    unfold wfd
    by_cases e : f w = true
    · rw [if_pos e]
      exact Or.inr ⟨k, Nat.le_refl k, by rw [List.length_cons]; omega, rfl⟩
    · rw [if_neg e]
      rcases wfd_ge (f := f) l (k + 1) with h | ⟨j, h1, h2, h3⟩
      · exact Or.inl h
      · exact Or.inr ⟨j, by omega, by rw [List.length_cons]; omega, h3⟩
noncomputable def vlF (A : IT) (B : JT) (d k s : Nat) : Option Rs := bV (ev d mMo_isCounted 0 [vR (43, 0), vI (nJ s)] [] (hh A B)) (fun h4 => bV (ev d mMo_entry 0 [vR (43, 0), vI 1, vI (nJ k)] [] (hh (up2 (gI h4) (43, 0) 27 (((gI h4) (43, 0) 27) + nJ (nthD txL (txU k) []).length)) (gJ h4))) (fun h6 => some (none, hh (gI h6) (gJ h6))))
/-- it is counted -/
theorem mCnt {A : IT} {B : JT} {pc s : Nat} (d : Nat) (h33 : A (43, 0) 33 = nJ pc) (hp : pc ≤ 100000) : ev (d + 1) mMo_isCounted 0 [vR (43, 0), vI (nJ s)] [] (hh A B) = some (none, hh (if pc = 60 ∧ A (43, 0) 28 = 0 then up2 (up2 A (43, 0) 28 (nJ (1 + 8 * s + 3))) (43, 0) 33 (nJ (pc + 1)) else up2 A (43, 0) 33 (nJ (pc + 1))) B) := by
  rw [eMo_isCounted_0, h33]
  by_cases h60 : pc = 60
  · rw [if_pos (show nJ pc = 60 by rw [h60]; rfl)]
    by_cases hf : A (43, 0) 28 = 0
    · rw [if_pos ⟨h60, hf⟩, show ev d mMo_fails 0 [vR (43, 0), vI 3, vI (nJ s)] [] (hh A B) = _ from mFails0 d s 3 hf, bV_some, gI_hh, gJ_hh, up_neK _ _ (by decide), h33, nJ_succ]
    · rw [if_neg (fun z => hf z.2), mFailsN d 3 _ hf, bV_some, gI_hh, gJ_hh, h33, nJ_succ]
  · rw [if_neg (ne_nL (b := 60) h60 (by omega) (by decide)), if_neg (fun z => h60 z.1), nJ_succ]
theorem vl_step {A : IT} {B : JT} {by_ : Nat → Nat} {n s k pc : Nat} (d : Nat) (h : BtM A by_ n) (hp : A (43, 0) 27 = nJ s) (hs : s ≤ n) (hk : k < 11) (h35 : A (43, 0) 35 = 11) (h33 : A (43, 0) 33 = nJ pc) (hpc : pc ≤ 100000) : ev (d + 2) mMo_value 22 [vR (43, 0), vI (nJ s), vI (nJ k)] [] (hh A B) = if std by_ n s (nthD txL (txU k) []) = true then vlF A B (d + 1) k s else ev (d + 2) mMo_value 22 [vR (43, 0), vI (nJ s), vI (nJ (k + 1))] [] (hh A B) := by
  obtain ⟨u1, u2⟩ := txU_ok k hk
  rw [eMo_value_22, h35, if_pos (lt_nL (b := 11) hk (by decide)), mWordOf (d + 1) k hk, bR_some, gI_hh, gJ_hh, mStood (d + 1) h hp hs u1 u2, bI_some, bif2, nJ_succ]
  by_cases hst : std by_ n s (nthD txL (txU k) []) = true
  · rw [if_pos hst, if_pos hst]
    unfold vlF
    simp only [gI_hh, gJ_hh]
    rw [h35, if_neg (ne_nL (b := 11) (by omega) (by omega) (by decide)), mCnt d h33 hpc, bV_some, bV_some]
    simp only [gI_hh, gJ_hh]
    rw [mWordOf (d + 1) k hk, bR_some]
    rfl
  · rw [if_neg hst, if_neg hst]
theorem vl_go {A : IT} {B : JT} {by_ : Nat → Nat} {n s pc : Nat} (d : Nat) (h : BtM A by_ n) (hp : A (43, 0) 27 = nJ s) (hs : s ≤ n) (h35 : A (43, 0) 35 = 11) (h33 : A (43, 0) 33 = nJ pc) (hpc : pc ≤ 100000) : ∀ (l : List (List Nat)) (k : Nat), k + l.length = 11 → (∀ j, j < l.length → nthD l j [] = nthD txL (txU (k + j)) []) → ((∀ w ∈ l, std by_ n s w = false) ∧ ev (d + 2) mMo_value 22 [vR (43, 0), vI (nJ s), vI (nJ k)] [] (hh A B) = bV (ev (d + 1) mMo_fails 0 [vR (43, 0), vI 0, vI (nJ s)] [] (hh A B)) (fun h12 => some (none, hh (gI h12) (gJ h12)))) ∨ ∃ j, j < 11 ∧ wfd (std by_ n s) l k = nJ j ∧ (∃ w ∈ l, std by_ n s w = true) ∧ std by_ n s (nthD txL (txU j) []) = true ∧ ev (d + 2) mMo_value 22 [vR (43, 0), vI (nJ s), vI (nJ k)] [] (hh A B) = vlF A B (d + 1) j s := by
  intro l
  induction l with
  | nil =>
    intro k hk _
    obtain rfl : k = 11 := hk
    refine Or.inl ⟨fun w hw => (by cases hw), ?_⟩
    rw [eMo_value_22, h35, if_neg (show ¬ nJ 11 < 11 by decide), if_pos (show nJ 11 = 11 from rfl)]
  | cons w l ih =>
    intro k hk hl
    rw [List.length_cons] at hk
    have hw : w = nthD txL (txU k) [] := hl 0 (by rw [List.length_cons]; omega)
    have st := vl_step (A := A) (B := B) d h hp hs (show k < 11 by omega) h35 h33 hpc
    rw [st, ← hw]
    by_cases e : std by_ n s w = true
    · refine Or.inr ⟨k, by omega, ?_, ⟨w, List.mem_cons_self, e⟩, by rw [← hw]; exact e, by rw [if_pos e]⟩
      unfold wfd
      rw [if_pos e]
    · rw [if_neg e]
      have e' : std by_ n s w = false := by
        cases q : std by_ n s w
        · rfl
        · exact absurd q e
      rcases ih (k + 1) (by omega) (fun j hj => by
        have := hl (j + 1) (by rw [List.length_cons]; omega)
        rw [show k + (j + 1) = k + 1 + j by omega] at this
        exact this) with ⟨h1, h2⟩ | ⟨j, h1, h2, ⟨v, h3, h4⟩, h5, h6⟩
      · refine Or.inl ⟨fun v hv => ?_, h2⟩
        rcases List.mem_cons.mp hv with rfl | hv
        · exact e'
        · exact h1 v hv
      · refine Or.inr ⟨j, h1, ?_, ⟨v, List.mem_cons_of_mem _ h3, h4⟩, h5, h6⟩
        unfold wfd
        rw [if_neg e]
        exact h2
/-- a value read on both sides -/
theorem RlS.val {I A : IT} {by_ : Nat → Nat} {n tk i p q r sz pc : Nat} {x s v : Int32} (h : RlS I A by_ n tk i p r sz sz pc) (hi : i < tk) (hq : q ≤ n) (hqs : sbk by_ n q = tpk by_ n (i + 1)) (hc : CdR x s v) (hs : sz < 290) (hp : pc < 60) : RlS (up2 (putF (up2 I (37, r) 5 (nJ (pc + 1))) r sz x) (1, 0) 6 (nJ (i + 1))) (entF (up2 (spp A q) (43, 0) 33 (nJ (pc + 1))) r sz s v) by_ n tk (i + 1) q r (sz + 1) (sz + 1) (pc + 1) := by
  obtain ⟨⟨t1, t2, t3, t4, t5, t6, t7, t8, t9, t10⟩, hr, ⟨c1, c2, c3, c4, c5, c6⟩, ⟨b1, b2, b3⟩, hcd⟩ := h
  have fc : FrL r I (up2 (putF (up2 I (37, r) 5 (nJ (pc + 1))) r sz x) (1, 0) 6 (nJ (i + 1))) := fun a k h1 h2 h3 => by
    rw [up_at, if_neg (fun z => h3 ⟨z.1, Or.inl z.2⟩), putF_fr a k h1 h2 h3, up_at, if_neg (fun z => h1 ⟨z.1, Or.inr z.2⟩)]
  have fm : FrN r A (entF (up2 (spp A q) (43, 0) 33 (nJ (pc + 1))) r sz s v) := fun a k h1 h2 h3 => by
    rw [entF_fr (by omega) a k h1 h2 h3, up_at, if_neg (fun z => h1 ⟨z.1, by omega⟩)]
    unfold spp
    rw [up_at, if_neg (fun z => h1 ⟨z.1, by omega⟩)]
  refine ⟨⟨fc.tks t1, fm.bt t2, hi, up_same _ _ _ _, ?_, ?_, ?_, hq, by decide, fun _ => hqs⟩, hr, ⟨?_, ?_, ?_, entF_31, ?_, ?_⟩, ⟨Nat.le_refl _, by omega, by omega⟩, fun j hj => ?_⟩
  · rw [up_neK _ _ (by decide), putF_o (fun z => by have := (Prod.mk.inj z.1).1; omega) (fun z => by have := (Prod.mk.inj z).1; omega), up_ne _ _ _ _ (fun z => by have := (Prod.mk.inj z).1; omega)]; exact t5
  · rw [entF_43 (by decide), up_neK _ _ (by decide)]; exact spp_27 _ _
  · rw [entF_43 (by decide), up_neK _ _ (by decide), spp_28]; exact t7
  · rw [up_ne _ _ _ _ (fun z => by have := (Prod.mk.inj z).1; omega)]; exact putF_1
  · rw [up_ne _ _ _ _ (fun z => by have := (Prod.mk.inj z).1; omega), putF_o (fun z => by omega) (fun z => by have := (Prod.mk.inj z).1; omega), up_same]
  · rw [entF_43 (by decide), up_neK _ _ (by decide)]
    unfold spp
    rw [up_neK _ _ (by decide)]; exact c3
  · rw [entF_43 (by decide), up_same]
  · rw [entF_43 (by decide), up_neK _ _ (by decide)]
    unfold spp
    rw [up_neK _ _ (by decide)]; exact c6
  · rw [up_ne _ _ _ _ (fun z => by have := (Prod.mk.inj z).1; omega), putF_c, entF_69, entF_70]
    by_cases e : j = sz
    · rw [if_pos e, if_pos e, if_pos e]
      exact hc
    · rw [if_neg e, if_neg e, if_neg e, up_ne _ _ _ _ (fun z => by have := (Prod.mk.inj z).1; omega), up_ne _ _ _ _ (by decide), up_ne _ _ _ _ (by decide)]
      unfold spp
      rw [up_ne _ _ _ _ (by decide), up_ne _ _ _ _ (by decide)]
      exact hcd j (by omega)
