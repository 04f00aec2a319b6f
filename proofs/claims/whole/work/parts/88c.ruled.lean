theorem fill_ix {f : Nat → IT → JT → Option Rs} {a : Ad} {x : Nat → Int32} {n : Nat} (h1 : ∀ k I J, k < n → f k I J = f (k + 1) (up2 I a k (x k)) J) : ∀ j k I J, k + j = n → ∃ I', f k I J = f n I' J ∧ ∀ b i, I' b i = if b = a ∧ k ≤ i ∧ i < n then x i else I b i := by
  intro j
  induction j with
  | zero =>
    intro k I J hk
    obtain rfl : k = n := by omega
    exact ⟨I, rfl, fun b i => (if_neg (fun z => by omega)).symm⟩
  | succ j ih =>
    intro k I J hk
    obtain ⟨I', e, h2⟩ := ih (k + 1) (up2 I a k (x k)) J (by omega)
    refine ⟨I', (h1 k I J (by omega)).trans e, fun b i => ?_⟩
    rw [h2 b i, up_at]
    by_cases hb : b = a
    · by_cases e1 : i = k
      · rw [if_neg (fun z => by omega), if_pos ⟨hb, e1⟩, if_pos ⟨hb, by omega, by omega⟩, e1]
      · by_cases e2 : k + 1 ≤ i ∧ i < n
        · rw [if_pos ⟨hb, e2⟩, if_pos ⟨hb, by omega, by omega⟩]
        · rw [if_neg (fun z => e2 z.2), if_neg (fun z => e1 z.2), if_neg (fun z => by omega)]
    · rw [if_neg (fun z => hb z.1), if_neg (fun z => hb z.1), if_neg (fun z => hb z.1)]
def TrC (I A I2 A2 : IT) : Prop := FwL I I2 ∧ KeM A A2
theorem TrC.rel {I A I2 A2 : IT} (h : Rel I A) (hb : TrC I A I2 A2) : Rel I2 A2 ∧ FrC I I2 ∧ FrM A A2 := h.trial (fun a ha _ => hb.1 a ha) (fun a i a1 a2 a3 _ => hb.2.1 a i a1 a2 a3)
theorem TrC.views {I A I2 A2 : IT} (hb : TrC I A I2 A2) : scC I2 0 = scC I 0 ∧ scM A2 = scM A := by
  refine ⟨scC_ext (fun a k a1 a2 a3 => by rw [hb.1 a (fun z => by omega)]), scM_ext (fun a k ha => hb.2.1 a k (fun z => ?_) (fun z => ?_) (fun z => ?_))⟩
  · rcases ha with ⟨e, hk⟩ | ha | ha
    · rw [e] at z; cases z.1
    · rw [z.1] at ha; simp at ha
    · rw [z.1] at ha; simp at ha
  · rcases ha with ⟨e, hk⟩ | ha | ha
    · omega
    · rw [z.1] at ha; simp at ha
    · rw [z.1] at ha; simp at ha
  · rcases ha with ⟨e, hk⟩ | ha | ha
    · rw [e] at z; cases z
    · omega
    · omega
theorem TrC.rus {I A I2 A2 : IT} {q : Nat} (hb : TrC I A I2 A2) (hru : RusR I A q) : RusR I2 A2 q := RusR_ext (fun a k ha => by
      rw [hb.1 a (fun z => by
        rcases ha with ⟨e, -⟩ | ha
        · rw [e] at z; simp at z
        · omega)]) (fun a k ha => hb.2.1 a k (fun z => by
        rcases ha with ⟨e, -⟩ | ha
        · rw [e] at z; simp at z
        · rw [z.1] at ha; simp at ha) (fun z => by
        rcases ha with ⟨e, hk⟩ | ha
        · omega
        · rw [z.1] at ha; simp at ha) (fun z => by
        rcases ha with ⟨e, -⟩ | ha
        · rw [e] at z; simp at z
        · omega)) hru
theorem TrC.log {I A I2 A2 : IT} {L N : Nat} {dy : Nat → Nat} (hb : TrC I A I2 A2) (h : LgR I A L N dy) : LgR I2 A2 L N dy :=
  LgR_ext (fun a a1 a2 => hb.1 a (fun z => by omega)) (hb.2.1 (44, 0) 10 (fun z => by cases z.1) (fun z => by cases z.1) (by decide)) (fun a k a1 a2 => hb.2.1 a k (fun z => by rw [z.1] at a2; exact absurd a2 (by decide)) (fun z => by rw [z.1] at a1; exact absurd a1 (by decide)) (by omega)) h
/-- the walk of the class at its beginning, the first sentences given out -/
theorem cLogged {I : IT} {J : JT} {S N M : Nat} (d : Nat) (e3 : I (8, 0) 3 = nJ S) (e4 : I (8, 0) 4 = nJ N) (hS : S ≤ 6) (hN : N ≤ 3) (hM : M = if S < N then S else N) : Tr (ev (d + 2) mPx_beginLogged 0 [vR (0, 0), vU, vU] [] (hh I J)) (fun v I' _ => v = none ∧ ∃ I1, BgC I I1 5 0 ∧ ∀ b i, I' b i = if b = (22, 5) ∧ 0 ≤ i ∧ i < M then nJ i else I1 b i) := by
  rw [ePx_beginLogged_0]
  refine Tr.bV ((cBegin d 5 0 I J).mono fun v I1 J1 ⟨a1, a2, a3⟩ => ⟨a1, ?_⟩)
  have hM3 : M ≤ 3 := by rw [hM]; split <;> omega
  have f3 : I1 (8, 0) 3 = nJ S := by rw [a2.2.2.2 (8, 0) (by decide)]; exact e3
  have f4 : I1 (8, 0) 4 = nJ N := by rw [a2.2.2.2 (8, 0) (by decide)]; exact e4
  have eM : (if nJ S < nJ N then nJ S else nJ N) = nJ M := by
    rw [hM]
    by_cases h : S < N
    · rw [if_pos h, if_pos (lt_nJ h (by omega))]
    · rw [if_neg h, if_neg (nlt_nJ (by omega) (by omega))]
  rw [gI_hh, gJ_hh, f3, f4, eM]
  obtain ⟨I2, e, h2⟩ := fill_ix (f := fun k I J => ev (d + 2) mPx_beginLogged 18 [vR (0, 0), vI (nJ M), vI (nJ k)] [] (hh I J)) (a := (22, 5)) (x := fun k => nJ k) (n := M) (fun k I J hk => by
    show ev (d + 2) mPx_beginLogged 18 [vR (0, 0), vI (nJ M), vI (nJ k)] [] (hh I J) = ev (d + 2) mPx_beginLogged 18 [vR (0, 0), vI (nJ M), vI (nJ (k + 1))] [] (hh (up2 I (22, 5) k (nJ k)) J)
    rw [ePx_beginLogged_18, if_pos (lt_nJ hk (by omega)), bnd (show k < 6 by omega) (by omega), nJ_nat (by omega), nJ_succ]) M 0 I1 J1 (by omega)
  have e : ev (d + 2) mPx_beginLogged 18 [vR (0, 0), vI (nJ M), vI 0] [] (hh I1 J1) = ev (d + 2) mPx_beginLogged 18 [vR (0, 0), vI (nJ M), vI (nJ M)] [] (hh I2 J1) := e
  rw [e, ePx_beginLogged_18, if_neg (nlt_nJ (Nat.le_refl M) (by omega))]
  exact Tr.ret ⟨rfl, I1, a2, h2⟩
theorem mLogged {A : IT} {B : JT} {S N M : Nat} (d : Nat) (x x2 : Int32) (e3 : A (44, 0) 3 = nJ S) (e4 : A (44, 0) 4 = nJ N) (hS : S ≤ 6) (hN : N ≤ 3) (hM : M = if S < N then S else N) : ∃ A1 A3 B3, BgM (up2 A (44, 0) 12 x) A1 ∧ (∀ b i, A3 b i = if b = (51, 0) ∧ 0 ≤ i ∧ i < M then nJ i else A1 b i) ∧ ev (d + 2) mMo_couldRule 0 [vR (43, 0), vI x, vI x2, vU, vU, vU] [] (hh A B) = ev (d + 2) mMo_couldRule 32 [vR (43, 0), vU, vI x2, vI 1, vI 0, vU] [] (hh A3 B3) := by
  obtain ⟨v, A1, B1, eb, rfl, hb, -⟩ := mBegins d (up2 A (44, 0) 12 x) B
  have hM3 : M ≤ 3 := by rw [hM]; split <;> omega
  have f3 : A1 (44, 0) 3 = nJ S := (hb.2.2.2 (44, 0) 3 (nwc (Or.inr (Or.inr (Or.inr ⟨rfl, Or.inl (by decide)⟩))))).trans ((up_neK _ _ (by decide)).trans e3)
  have f4 : A1 (44, 0) 4 = nJ N := (hb.2.2.2 (44, 0) 4 (nwc (Or.inr (Or.inr (Or.inr ⟨rfl, Or.inl (by decide)⟩))))).trans ((up_neK _ _ (by decide)).trans e4)
  have st : ∀ j k (I : IT) (J : JT), k + j = M → I (44, 0) 3 = nJ S → I (44, 0) 4 = nJ N → ∃ I', ev (d + 2) mMo_couldRule 9 [vR (43, 0), vU, vI x2, vI (nJ k), vU, vU] [] (hh I J) = ev (d + 2) mMo_couldRule 32 [vR (43, 0), vU, vI x2, vI 1, vI 0, vU] [] (hh I' J) ∧ ∀ b i, I' b i = if b = (51, 0) ∧ k ≤ i ∧ i < M then nJ i else I b i := by
    intro j
    induction j with
    | zero =>
      intro k I J hk g3 g4
      obtain rfl : k = M := by omega
      refine ⟨I, ?_, fun b i => (if_neg (fun z => by omega)).symm⟩
      rw [eMo_couldRule_9, g3, g4]
      by_cases h : S < N
      · rw [if_pos h] at hM
        rw [if_pos (lt_nJ (show k < N by omega) (by omega)), if_neg (nlt_nJ (show S ≤ k by omega) (by omega))]
      · rw [if_neg h] at hM
        rw [if_neg (nlt_nJ (show N ≤ k by omega) (by omega))]
    | succ j ih =>
      intro k I J hk g3 g4
      have hkS : k < S ∧ k < N := by
        by_cases h : S < N
        · rw [if_pos h] at hM; omega
        · rw [if_neg h] at hM; omega
      obtain ⟨I', e, h2⟩ := ih (k + 1) (up2 I (51, 0) k (nJ k)) J (by omega) ((up_ne _ _ _ _ (by decide)).trans g3) ((up_ne _ _ _ _ (by decide)).trans g4)
      refine ⟨I', ?_, fun b i => ?_⟩
      · rw [eMo_couldRule_9, g3, g4, if_pos (lt_nJ hkS.2 (by omega)), if_pos (lt_nJ hkS.1 (by omega)), bnd (show k < 6 by omega) (by omega), nJ_nat (by omega), nJ_succ]
        exact e
      · rw [h2 b i, up_at]
        by_cases hb : b = (51, 0)
        · by_cases e1 : i = k
          · rw [if_neg (fun z => by omega), if_pos ⟨hb, e1⟩, if_pos ⟨hb, by omega, by omega⟩, e1]
          · by_cases e2 : k + 1 ≤ i ∧ i < M
            · rw [if_pos ⟨hb, e2⟩, if_pos ⟨hb, by omega, by omega⟩]
            · rw [if_neg (fun z => e2 z.2), if_neg (fun z => e1 z.2), if_neg (fun z => by omega)]
        · rw [if_neg (fun z => hb z.1), if_neg (fun z => hb z.1), if_neg (fun z => hb z.1)]
  obtain ⟨A3, e, h3⟩ := st M 0 A1 B1 (by omega) f3 f4
  refine ⟨A1, A3, B1, hb, h3, ?_⟩
  rw [eMo_couldRule_0, eb]
  exact e
