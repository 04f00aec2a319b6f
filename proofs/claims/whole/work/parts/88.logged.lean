/-! LOGGED: which rules answer the log -/
def FwL (I I' : IT) : Prop := ∀ a : Ad, ¬ (17 ≤ a.1 ∧ a.1 ≤ 23 ∧ a.2 = 5) → I' a = I a
theorem FwL.tr5 {I I' I'' : IT} (h : FwL I I') (h' : FwC I' I'' 5) : FwL I I'' := fun a h1 => (h' a h1).trans (h a h1)
/-- the reference between two trials -/
def KeM (A A2 : IT) : Prop := (∀ a i, ¬ (a = (87, 0) ∧ 3400 ≤ i) → ¬ (a = (43, 0) ∧ (i = 61 ∨ i = 62)) → a.1 ≠ 85 → A2 a i = A a i) ∧ Kpt A A2
/-- and in one -/
def InM (A A2 : IT) : Prop := ∃ A1, KeM A A1 ∧ ∀ a i, ¬ wCell a i → ¬ (a = (44, 0) ∧ i < 13) → A2 a i = A1 a i
theorem InM.fw {A A2 A3 : IT} (h : InM A A2) (h' : FwM A2 A3) : InM A A3 := by
  obtain ⟨A1, h1, h2⟩ := h
  exact ⟨A1, h1, fun a i a1 a2 => (h' a i a1).trans (h2 a i a1 a2)⟩
theorem InM.shown {A A2 : IT} (k : Nat) (x : Int32) (h : InM A A2) : InM A (up2 A2 (85, 0) k x) := by
  obtain ⟨A1, ⟨h1, h2⟩, h3⟩ := h
  refine ⟨up2 A1 (85, 0) k x, ⟨fun a i a1 a2 a3 => ?_, fun r hr i hi => ?_⟩, fun a i a1 a2 => ?_⟩
  · rw [up_ne _ _ _ _ (fun z => a3 (by rw [z]))]
    exact h1 a i a1 a2 a3
  · rw [up_ne _ _ _ _ (by decide)]
    exact h2 r hr i hi
  · rw [up_at, up_at, h3 a i a1 a2]
theorem in_laid {A A4 : IT} {B4 : JT} (d : Nat) (h : InM A A4) : Tr (ev (d + 2) mMo_laysBack 0 [vR (43, 0)] [] (hh A4 B4)) (fun v A5 _ => v = none ∧ KeM A A5) := by
  obtain ⟨A1, ⟨h1, h2⟩, h3⟩ := h
  refine (mBack d A4 B4).mono fun v A5 B5 ⟨q1, q2, q3, _⟩ => ⟨q1, ?_⟩
  have e' : ∀ (a : Ad) (i : Nat), a.1 ≠ 85 → (fun (a : Ad) (i : Nat) => if a.1 = 85 then A1 a i else A a i) a i = A a i := fun a i b1 => if_neg b1
  have hw : ∀ r ∈ wRows, r.1 ≠ 85 := by decide
  have hk : Kpt (fun (a : Ad) (i : Nat) => if a.1 = 85 then A1 a i else A a i) A1 := fun r hr i hi => (h2 r hr i hi).trans (e' (r.1, 0) i (hw r hr)).symm
  obtain ⟨l1, l2⟩ := laid hk (fun a i a1 a2 => by
    by_cases hc : a.1 = 85
    · exact (if_pos hc).symm
    · exact (h1 a i a1 a2 hc).trans (e' a i hc).symm) h3 q2 q3
  exact ⟨fun a i a1 a2 a3 => (l1 a i a1 a2).trans (e' a i a3), fun r hr i hi => (l2 r hr i hi).trans (e' (r.1, 0) i (hw r hr))⟩
/-- the log -/
def LgR (I A : IT) (L N : Nat) (dy : Nat → Nat) : Prop := L ≤ 10 ∧ I (7, 0) 7 = nJ L ∧ A (44, 0) 10 = nJ L ∧ ∀ i, i < L → I (24, 0) i = nJ (dy i) ∧ A (57, 0) i = nJ (dy i) ∧ dy i < 61 ∧ (∃ w, w < N ∧ I (25, 0) i = nJ w ∧ A (58, 0) i = nJ w) ∧ I (26, 0) i = A (59, 0) i
theorem LgR_ext {I A I' A' : IT} {L N : Nat} {dy : Nat → Nat} (h1 : ∀ a : Ad, a.1 = 7 ∨ a.1 = 24 ∨ a.1 = 25 ∨ a.1 = 26 → a.2 = 0 → I' a = I a) (h2 : A' (44, 0) 10 = A (44, 0) 10) (h3 : ∀ (a : Ad) k, 57 ≤ a.1 → a.1 ≤ 59 → A' a k = A a k) (h : LgR I A L N dy) : LgR I' A' L N dy := by
  obtain ⟨g0, g1, g2, g3⟩ := h
  refine ⟨g0, by rw [h1 (7, 0) (Or.inl rfl) rfl]; exact g1, by rw [h2]; exact g2, fun i hi => ?_⟩
  rw [h1 (24, 0) (Or.inr (Or.inl rfl)) rfl, h1 (25, 0) (Or.inr (Or.inr (Or.inl rfl))) rfl, h1 (26, 0) (Or.inr (Or.inr (Or.inr rfl))) rfl, h3 (57, 0) i (by decide) (by decide), h3 (58, 0) i (by decide) (by decide), h3 (59, 0) i (by decide) (by decide)]
  exact g3 i hi
theorem LgR.fw {I A I' A' : IT} {L N : Nat} {dy : Nat → Nat} (f1 : FwC I I' 5) (f2 : FwM A A') (h : LgR I A L N dy) : LgR I' A' L N dy :=
  LgR_ext (fun a _ a2 => f1 a (fun z => by omega)) (f2 (44, 0) 10 (nwc (Or.inr (Or.inr (Or.inr ⟨rfl, Or.inr (by decide)⟩))))) (fun a k a1 a2 => f2 a k (nwc (by omega))) h
/-- a day of a trial that the log is held against -/
def LgS (I A I3 A3 : IT) (T S N D L : Nat) (dy : Nat → Nat) (rl : Vl) : Prop := FwL I I3 ∧ InM A A3 ∧ RoR (scC I3 0) (scM A3) T S N ∧ WkR (scC I3 5) (scM A3) T S N 10 ∧ I3 (17, 5) 0 = nJ D ∧ RlR I3 A3 rl ∧ LgR I3 A3 L N dy
theorem LgS.fw {I A I3 A3 I4 A4 : IT} {T S N D L D' : Nat} {dy : Nat → Nat} {rl : Vl} (h : LgS I A I3 A3 T S N D L dy rl) (f1 : FwC I3 I4 5) (f2 : FwM A3 A4) (hw : WkR (scC I4 5) (scM A4) T S N 10) (eD : I4 (17, 5) 0 = nJ D') : LgS I A I4 A4 T S N D' L dy rl := by
  obtain ⟨h1, h2, h3, -, -, h6, h7⟩ := h
  exact ⟨h1.tr5 f1, h2.fw f2, FwC.ro f1 f2 h3, hw, eD, RlR.fw f1 f2 h6, h7.fw f1 f2⟩
theorem LgS.shown {I A I3 A3 : IT} {T S N D L : Nat} {dy : Nat → Nat} {rl : Vl} (k : Nat) (x : Int32) (h : LgS I A I3 A3 T S N D L dy rl) : LgS I A I3 (up2 A3 (85, 0) k x) T S N D L dy rl := by
  obtain ⟨h1, h2, h3, h4, h5, h6, h7⟩ := h
  have e : scM (up2 A3 (85, 0) k x) = scM A3 := scM_ext (fun a i ha => up_ne _ _ _ _ (fun z => by
    rcases ha with ⟨e, -⟩ | ha | ha
    · rw [e] at z; cases z
    · rw [z] at ha; exact absurd ha (by decide)
    · rw [z] at ha; exact absurd ha (by decide)))
  refine ⟨h1, h2.shown k x, by rw [e]; exact h3, by rw [e]; exact h4, h5, ?_, LgR_ext (fun _ _ _ => rfl) (up_ne _ _ _ _ (by decide)) (fun a i a1 a2 => up_ne _ _ _ _ (fun z => by rw [z] at a2; exact absurd a2 (by decide))) h7⟩
  unfold RlR
  rw [show up2 A3 (85, 0) k x (44, 0) 12 = A3 (44, 0) 12 from up_ne _ _ _ _ (by decide)]
  rcases h6 with h6 | ⟨r, r1, r2, r3, r4⟩
  · exact Or.inl h6
  · exact Or.inr ⟨r, r1, r2, r3, RuR_ext (fun _ _ _ _ _ => rfl) (fun a i a1 a2 => up_ne _ _ _ _ (fun z => by rw [z] at a2; exact absurd a2 (by decide))) r4⟩
/-- the flag stays through the log -/
theorem l40 {A : IT} {B : JT} {L i : Nat} {dy : Nat → Nat} (d : Nat) (x2 f : Int32) (hL : L ≤ 10) (e10 : A (44, 0) 10 = nJ L) (h57 : ∀ k, k < L → A (57, 0) k = nJ (dy k) ∧ dy k < 61) (hi : i < 100) (hf : f = 0 ∨ (f = 1 ∧ ∀ k, k < L → dy k ≠ i)) : ∀ j k, k + j = L → ev (d + 1) mMo_couldRule 40 [vR (43, 0), vU, vI x2, vI f, vI (nJ i), vI (nJ k)] [] (hh A B) = ev (d + 1) mMo_couldRule 73 [vR (43, 0), vU, vI x2, vI f, vI (nJ i), vI 0] [] (hh A B) := by
  intro j
  induction j with
  | zero =>
    intro k hk
    obtain rfl : k = L := by omega
    rw [eMo_couldRule_40, e10, if_neg (nlt_nJ (Nat.le_refl k) (by omega))]
  | succ j ih =>
    intro k hk
    have hkL : k < L := by omega
    rcases hf with rfl | ⟨rfl, hd⟩
    · rw [eMo_couldRule_40, e10, if_pos (lt_nJ hkL (by omega)), if_pos rfl, nJ_succ]
      exact ih (k + 1) (by omega)
    · have hne : ¬ nJ (dy k) = nJ i := fun z => by
        rw [nJ_eq (by have := (h57 k hkL).2; omega) (by omega)] at z
        exact hd k hkL z
      rw [eMo_couldRule_40, e10, if_pos (lt_nJ hkL (by omega)), if_neg (by decide), bnd (show k < 10 by omega) (by omega), nJ_nat (by omega), (h57 k hkL).1, if_neg hne, nJ_succ]
      exact ih (k + 1) (by omega)
theorem l73 {I A I3 : IT} {B : JT} {T S N D L i : Nat} {dy : Nat → Nat} {rl : Vl} (d : Nat) (x2 f : Int32) : ∀ j k (A3 : IT), k + j = 3 → LgS I A I3 A3 T S N D L dy rl → ∃ A4, ev (d + 1) mMo_couldRule 73 [vR (43, 0), vU, vI x2, vI f, vI (nJ i), vI (nJ k)] [] (hh A3 B) = ev (d + 1) mMo_couldRule 32 [vR (43, 0), vU, vI x2, vI f, vI (nJ (i + 1)), vU] [] (hh A4 B) ∧ LgS I A I3 A4 T S N D L dy rl := by
  intro j
  induction j with
  | zero =>
    intro k A3 hk h
    obtain rfl : k = 3 := by omega
    refine ⟨A3, ?_, h⟩
    rw [eMo_couldRule_73, if_neg (show ¬ nJ 3 < 3 by decide), nJ_succ]
  | succ j ih =>
    intro k A3 hk h
    have hk3 : k < 3 := by omega
    by_cases hx : nJ i = x2
    · obtain ⟨A4, e, h4⟩ := ih (k + 1) (up2 A3 (85, 0) k (if A3 (54, 0) k = 0 then A3 (53, 0) k else -1)) (by omega) (h.shown k _)
      refine ⟨A4, ?_, h4⟩
      rw [eMo_couldRule_73, if_pos (lt_nL (b := 3) hk3 (by decide)), if_pos hx, mTownOf _ k hk3, bI_some, bnd hk3 (by omega), nJ_nat (by omega), nJ_succ, gI_hh, gJ_hh]
      exact e
    · refine ⟨A3, ?_, h⟩
      rw [eMo_couldRule_73, if_pos (lt_nL (b := 3) hk3 (by decide)), if_neg hx, nJ_succ]
/-- the reference to the end of its days, once its answer stands -/
theorem cr_tail {I A : IT} {T S N L : Nat} {dy : Nat → Nat} {rl : Vl} (d' : Nat) (x2 f : Int32) : ∀ j i (I3 A3 : IT) (B3 : JT), i + j = 61 → LgS I A I3 A3 T S N i L dy rl → (f = 0 ∨ (f = 1 ∧ ∀ k, k < L → dy k < i)) → Tr (ev (d' + 7) mMo_couldRule 32 [vR (43, 0), vU, vI x2, vI f, vI (nJ i), vU] [] (hh A3 B3)) (fun v A4 _ => v = some (vI f) ∧ KeM A A4) := by
  intro j
  induction j with
  | zero =>
    intro i I3 A3 B3 hi h hf
    obtain rfl : i = 61 := by omega
    rw [eMo_couldRule_32, if_pos (show (60 : Int32) < nJ 61 by decide)]
    refine Tr.bV ((in_laid (d' + 4) h.2.1).mono fun v A5 B5 ⟨q1, q2⟩ => ⟨q1, ?_⟩)
    rw [if_pos (show f = 0 ∨ f = 1 from hf.imp id (fun z => z.1))]
    exact Tr.ret ⟨rfl, q2⟩
  | succ j ih =>
    intro i I3 A3 B3 hi h hf
    obtain ⟨h1, h2, h3, h4, h5, h6, h7⟩ := id h
    obtain ⟨v, I4, J4, e1, v', A4, B4, e2, ⟨x, rfl, rfl⟩, p3, p4, p5, p6⟩ := pass_goes 0 d' 5 T S N i rl I3 A3 (fun _ _ => 0) B3 (by omega) h3 h4.up10 h5 h6
    have g := h.fw p5 p6 p3 p4
    obtain ⟨l0, -, l2, l3⟩ := g.2.2.2.2.2.2
    have e40 := l40 (A := A4) (B := B4) (L := L) (i := i) (dy := dy) (d' + 6) x2 f l0 l2 (fun k hk => ⟨(l3 k hk).2.1, (l3 k hk).2.2.1⟩) (by omega) (hf.imp id (fun z => ⟨z.1, fun k hk => by have := z.2 k hk; omega⟩)) L 0 (by omega)
    obtain ⟨A5, e73, g5⟩ := l73 (B := B4) (i := i) (d' + 6) x2 f 3 0 A4 (by omega) g
    have e40 : ev (d' + 7) mMo_couldRule 40 [vR (43, 0), vU, vI x2, vI f, vI (nJ i), vI 0] [] (hh A4 B4) = ev (d' + 7) mMo_couldRule 73 [vR (43, 0), vU, vI x2, vI f, vI (nJ i), vI 0] [] (hh A4 B4) := e40
    have e73 : ev (d' + 7) mMo_couldRule 73 [vR (43, 0), vU, vI x2, vI f, vI (nJ i), vI 0] [] (hh A4 B4) = ev (d' + 7) mMo_couldRule 32 [vR (43, 0), vU, vI x2, vI f, vI (nJ (i + 1)), vU] [] (hh A5 B4) := e73
    rw [eMo_couldRule_32, if_neg (show ¬ (60 : Int32) < nJ i from nlt_Ln (a := 60) (by omega) (by decide)), e2, bI_some, gI_hh, gJ_hh, e40, e73]
    exact ih (i + 1) I4 A5 B4 (by omega) g5 (hf.imp id (fun z => ⟨z.1, fun k hk => by have := z.2 k hk; omega⟩))
/-- how much of the log lies ahead -/
def lgn (dy : Nat → Nat) (i k : Nat) : Nat → Nat
  | 0 => 0
  | m + 1 => lgn dy i k m + (if i < dy m ∨ (dy m = i ∧ k ≤ m) then 1 else 0)
theorem lgn_le (dy : Nat → Nat) (i k : Nat) : ∀ n, lgn dy i k n ≤ n
  | 0 => Nat.le_refl 0
  | n + 1 => by
    have := lgn_le dy i k n
    unfold lgn
    split <;> omega
theorem lgn_zero (dy : Nat → Nat) (i : Nat) : ∀ n, lgn dy i 0 n = 0 → ∀ m, m < n → dy m < i
  | 0, _, m, hm => by omega
  | n + 1, h, m, hm => by
    unfold lgn at h
    have h1 : lgn dy i 0 n = 0 := by omega
    by_cases e : m = n
    · subst e
      by_cases hc : i < dy m ∨ (dy m = i ∧ 0 ≤ m)
      · rw [if_pos hc] at h; omega
      · omega
    · exact lgn_zero dy i n h1 m (by omega)
theorem lgn_skip (dy : Nat → Nat) (i k : Nat) (hk : dy k ≠ i) : ∀ n, lgn dy i (k + 1) n = lgn dy i k n
  | 0 => rfl
  | n + 1 => by
    unfold lgn
    rw [lgn_skip dy i k hk n]
    by_cases e : n = k
    · subst e
      by_cases h1 : i < dy n
      · rw [if_pos (Or.inl h1), if_pos (Or.inl h1)]
      · rw [if_neg (fun z => by omega), if_neg (fun z => by omega)]
    · by_cases h1 : i < dy n ∨ (dy n = i ∧ k ≤ n)
      · rw [if_pos h1, if_pos (by omega)]
      · rw [if_neg h1, if_neg (by omega)]
theorem lgn_hit (dy : Nat → Nat) (i k : Nat) (hk : dy k = i) : ∀ n, lgn dy i k n = lgn dy i (k + 1) n + (if k < n then 1 else 0)
  | 0 => rfl
  | n + 1 => by
    unfold lgn
    rw [lgn_hit dy i k hk n]
    by_cases e : n = k
    · subst e
      rw [if_neg (show ¬ n < n by omega), if_pos (Or.inr ⟨hk, Nat.le_refl n⟩), if_neg (fun z => by omega), if_pos (Nat.lt_succ_self n)]
    · by_cases h1 : i < dy n ∨ (dy n = i ∧ k ≤ n)
      · by_cases h2 : k < n
        · rw [if_pos h1, if_pos h2, if_pos (by omega), if_pos (by omega)]
        · rw [if_pos h1, if_neg h2, if_pos (by omega), if_neg (by omega)]
      · by_cases h2 : k < n
        · rw [if_neg h1, if_pos h2, if_neg (by omega), if_pos (by omega)]
        · rw [if_neg h1, if_neg h2, if_neg (by omega), if_neg (by omega)]
theorem lgn_next (dy : Nat → Nat) (i L : Nat) : ∀ n, n ≤ L → lgn dy i L n = lgn dy (i + 1) 0 n
  | 0, _ => rfl
  | n + 1, h => by
    unfold lgn
    rw [lgn_next dy i L n (by omega)]
    by_cases h1 : i < dy n
    · rw [if_pos (Or.inl h1), if_pos (by omega)]
    · rw [if_neg (by omega), if_neg (by omega)]
theorem lgn_all (dy : Nat → Nat) : ∀ n, lgn dy 0 0 n = n
  | 0 => rfl
  | n + 1 => by
    unfold lgn
    rw [lgn_all dy n, if_pos (by omega)]
