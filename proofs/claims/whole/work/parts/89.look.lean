/-! LOOK: where the walkers stand on a day, under each rule that answers the log -/
def twn (A : IT) (m : Nat) : Int32 := if A (54, 0) m = 0 then A (53, 0) m else -1
theorem twn_up (A : IT) (k m : Nat) (x : Int32) : twn (up2 A (85, 0) k x) m = twn A m := by
  unfold twn
  rw [up_ne _ _ _ _ (by decide), up_ne _ _ _ _ (by decide)]
/-- the reference after n days of a trial -/
noncomputable def gsq (d : Nat) (h0 : Hp) : Nat → Hp
  | 0 => h0
  | n + 1 => match ev (d + 6) mMo_goes 0 [vR (43, 0), vU, vU] [] (gsq d h0 n) with
    | some r => r.2
    | none => h0
theorem gsq_succ {d n : Nat} {h0 : Hp} {v : Option Vl} {A B : IT} {J K : JT} (e0 : hh A J = gsq d h0 n) (e : ev (d + 6) mMo_goes 0 [vR (43, 0), vU, vU] [] (hh A J) = some (v, hh B K)) : hh B K = gsq d h0 (n + 1) := by
  rw [e0] at e
  show _ = (match ev (d + 6) mMo_goes 0 [vR (43, 0), vU, vU] [] (gsq d h0 n) with
    | some r => r.2
    | none => h0)
  rw [e]
theorem l40x {I A : IT} {B : JT} {L N i : Nat} {dy : Nat → Nat} (d : Nat) (x2 : Int32) (hN : N ≤ 3) (hlg : LgR I A L N dy) : ∀ j k (f : Int32), (f = 0 ∨ f = 1) → k + j = L → ∃ f' : Int32, (f' = 0 ∨ f' = 1) ∧ ev (d + 1) mMo_couldRule 40 [vR (43, 0), vU, vI x2, vI f, vI (nJ i), vI (nJ k)] [] (hh A B) = ev (d + 1) mMo_couldRule 73 [vR (43, 0), vU, vI x2, vI f', vI (nJ i), vI 0] [] (hh A B) := by
  obtain ⟨l0, l1, l2, l3⟩ := hlg
  intro j
  induction j with
  | zero =>
    intro k f hf hk
    obtain rfl : k = L := by omega
    refine ⟨f, hf, ?_⟩
    rw [eMo_couldRule_40, l2, if_neg (nlt_nJ (Nat.le_refl k) (by omega))]
  | succ j ih =>
    intro k f hf hk
    have hkL : k < L := by omega
    have key : ∃ f2 : Int32, (f2 = 0 ∨ f2 = 1) ∧ ev (d + 1) mMo_couldRule 40 [vR (43, 0), vU, vI x2, vI f, vI (nJ i), vI (nJ k)] [] (hh A B) = ev (d + 1) mMo_couldRule 40 [vR (43, 0), vU, vI x2, vI f2, vI (nJ i), vI (nJ (k + 1))] [] (hh A B) := by
      rcases hf with rfl | rfl
      · refine ⟨0, Or.inl rfl, ?_⟩
        rw [eMo_couldRule_40, l2, if_pos (lt_nJ hkL (by omega)), if_pos rfl, nJ_succ]
      · obtain ⟨a1, a2, a3, ⟨w, hw, a4, a5⟩, a6⟩ := l3 k hkL
        have e := cr40 (A := A) (B := B) (i := i) d x2 l2 hkL l0 a2 a5 (show w < 3 by omega)
        by_cases hd : nJ (dy k) = nJ i
        · by_cases hp : (if A (54, 0) w = 0 then A (53, 0) w else -1) = A (59, 0) k
          · rw [if_pos hd, if_pos hp] at e
            exact ⟨1, Or.inr rfl, e⟩
          · rw [if_pos hd, if_neg hp] at e
            exact ⟨0, Or.inl rfl, e⟩
        · rw [if_neg hd] at e
          exact ⟨1, Or.inr rfl, e⟩
    obtain ⟨f2, h2, e2⟩ := key
    obtain ⟨f', h3, e3⟩ := ih (k + 1) f2 h2 (by omega)
    exact ⟨f', h3, e2.trans e3⟩
theorem l73x {I A I3 : IT} {B : JT} {T S N D L i : Nat} {dy : Nat → Nat} {rl : Vl} (d : Nat) (x2 f : Int32) : ∀ j k (A3 : IT), k + j = 3 → LgS I A I3 A3 T S N D L dy rl → ∃ A4, ev (d + 1) mMo_couldRule 73 [vR (43, 0), vU, vI x2, vI f, vI (nJ i), vI (nJ k)] [] (hh A3 B) = ev (d + 1) mMo_couldRule 32 [vR (43, 0), vU, vI x2, vI f, vI (nJ (i + 1)), vU] [] (hh A4 B) ∧ LgS I A I3 A4 T S N D L dy rl ∧ (nJ i ≠ x2 → A4 = A3) ∧ (nJ i = x2 → (∀ m, k ≤ m → m < 3 → A4 (85, 0) m = twn A3 m) ∧ (∀ m, m < k → A4 (85, 0) m = A3 (85, 0) m)) := by
  intro j
  induction j with
  | zero =>
    intro k A3 hk h
    obtain rfl : k = 3 := by omega
    refine ⟨A3, ?_, h, fun _ => rfl, fun _ => ⟨fun m h1 h2 => by omega, fun _ _ => rfl⟩⟩
    rw [eMo_couldRule_73, if_neg (show ¬ nJ 3 < 3 by decide), nJ_succ]
  | succ j ih =>
    intro k A3 hk h
    have hk3 : k < 3 := by omega
    by_cases hx : nJ i = x2
    · obtain ⟨A4, e, h4, -, h6⟩ := ih (k + 1) (up2 A3 (85, 0) k (twn A3 k)) (by omega) (h.shown k _)
      obtain ⟨g1, g2⟩ := h6 hx
      refine ⟨A4, ?_, h4, fun z => absurd hx z, fun _ => ⟨fun m h1 h2 => ?_, fun m hm => ?_⟩⟩
      · rw [eMo_couldRule_73, if_pos (lt_nL (b := 3) hk3 (by decide)), if_pos hx, mTownOf _ k hk3, bI_some, bnd hk3 (by omega), nJ_nat (by omega), nJ_succ, gI_hh, gJ_hh]
        exact e
      · by_cases e1 : m = k
        · subst e1
          rw [g2 m (by omega), up_same]
        · rw [g1 m (by omega) h2, twn_up]
      · rw [g2 m (by omega), up_neK _ _ (by omega)]
    · refine ⟨A3, ?_, h, fun _ => rfl, fun z => absurd z hx⟩
      rw [eMo_couldRule_73, if_pos (lt_nL (b := 3) hk3 (by decide)), if_neg hx, nJ_succ]
theorem cr_shown {I A : IT} {T S N L X : Nat} {dy : Nat → Nat} {rl : Vl} {h0 : Hp} (d' : Nat) (hX : X ≤ 60) : ∀ j i (f : Int32) (I3 A3 : IT) (B3 : JT), i + j = 61 → LgS I A I3 A3 T S N i L dy rl → (f = 0 ∨ f = 1) → (i ≤ X → hh A3 B3 = gsq d' h0 i) → (X < i → ∀ k, k < 3 → A3 (85, 0) k = twn (gI (gsq d' h0 (X + 1))) k) → Tr (ev (d' + 7) mMo_couldRule 32 [vR (43, 0), vU, vI (nJ X), vI f, vI (nJ i), vU] [] (hh A3 B3)) (fun _ A4 _ => ∀ k, k < 3 → A4 (85, 0) k = twn (gI (gsq d' h0 (X + 1))) k) := by
  intro j
  induction j with
  | zero =>
    intro i f I3 A3 B3 hi h hf h1 h2
    obtain rfl : i = 61 := by omega
    rw [eMo_couldRule_32, if_pos (show (60 : Int32) < nJ 61 by decide)]
    refine Tr.bV ((mBack (d' + 4) A3 B3).mono fun v A5 B5 ⟨q1, q2, q3, _⟩ => ⟨q1, ?_⟩)
    rw [if_pos hf]
    refine Tr.ret fun k hk => ?_
    have hw : ∀ r ∈ wRows, r.1 ≠ 85 := by decide
    show A5 (85, 0) k = _
    rw [q3 (85, 0) k (fun r hr z => hw r hr (Prod.mk.inj z.1).1.symm) (fun z => by cases z.1)]
    exact h2 (by omega) k hk
  | succ j ih =>
    intro i f I3 A3 B3 hi h hf h1 h2
    obtain ⟨g1, g2, g3, g4, g5, g6, g7⟩ := id h
    obtain ⟨v, I4, J4, e1, v', A4, B4, e2, ⟨x, rfl, rfl⟩, p3, p4, p5, p6⟩ := pass_goes 0 d' 5 T S N i rl I3 A3 (fun _ _ => 0) B3 (by omega) g3 g4.up10 g5 g6
    have g := h.fw p5 p6 p3 p4
    have hN := g3.1.2.2.1
    obtain ⟨f', hf', e40⟩ := l40x (B := B4) (i := i) (d' + 6) (nJ X) hN g.2.2.2.2.2.2 L 0 f hf (by omega)
    obtain ⟨A5, e73, g8, n1, n2⟩ := l73x (B := B4) (i := i) (d' + 6) (nJ X) f' 3 0 A4 (by omega) g
    have e40 : ev (d' + 7) mMo_couldRule 40 [vR (43, 0), vU, vI (nJ X), vI f, vI (nJ i), vI 0] [] (hh A4 B4) = ev (d' + 7) mMo_couldRule 73 [vR (43, 0), vU, vI (nJ X), vI f', vI (nJ i), vI 0] [] (hh A4 B4) := e40
    have e73 : ev (d' + 7) mMo_couldRule 73 [vR (43, 0), vU, vI (nJ X), vI f', vI (nJ i), vI 0] [] (hh A4 B4) = ev (d' + 7) mMo_couldRule 32 [vR (43, 0), vU, vI (nJ X), vI f', vI (nJ (i + 1)), vU] [] (hh A5 B4) := e73
    rw [eMo_couldRule_32, if_neg (show ¬ (60 : Int32) < nJ i from nlt_Ln (a := 60) (by omega) (by decide)), e2, bI_some, gI_hh, gJ_hh, e40, e73]
    refine ih (i + 1) f' I4 A5 B4 (by omega) g8 hf' (fun hle => ?_) (fun hlt k hk => ?_)
    · have hne : nJ i ≠ nJ X := fun z => by
        rw [nJ_eq (by omega) (by omega)] at z
        omega
      rw [n1 hne]
      exact gsq_succ (h1 (by omega)) e2
    · by_cases e : i = X
      · subst e
        rw [(n2 rfl).1 k (Nat.zero_le k) hk, ← gsq_succ (h1 (Nat.le_refl i)) e2, gI_hh]
      · have hne : nJ i ≠ nJ X := fun z => by
          rw [nJ_eq (by omega) (by omega)] at z
          exact e z
        rw [n1 hne, p6 (85, 0) k (nwc (Or.inr (Or.inl (by decide))))]
        exact h2 (by omega) k hk
/-- where the class counts a walker -/
def plc (I : IT) (w : Nat) : Int32 := if I (19, 5) w = 0 then I (18, 5) w else -1
theorem cp8 {I : IT} {J : JT} (d : Nat) (rl : Vl) (x2 x4 : Int32) (h : rl = vN ∨ ∃ a, rl = vR a) : ev (d + 1) mPx_countPlaces 8 [vR (0, 0), vU, vI x2, rl, vI x4] [] (hh I J) = if x2 < x4 then ev (d + 1) mPx_countPlaces 23 [vR (0, 0), vU, vU, vU, vI 0] [] (hh I J) else bI (ev d mWa_pass 0 [vR (17, 5), vR (8, 0), rl, vU, vU] [] (hh I J)) (fun r1 h1 => ev (d + 1) mPx_countPlaces 8 [vR (0, 0), vU, vI x2, rl, vI (x4 + 1)] [] (hh (gI h1) (gJ h1))) := by
  rcases h with rfl | ⟨a, rfl⟩
  · rw [ePx_countPlaces_8N]
  · rw [ePx_countPlaces_8]
theorem cp_go {I A : IT} {T S N L X : Nat} {dy : Nat → Nat} {rl : Vl} {h0 : Hp} {P : Option Vl → IT → JT → Prop} (d d' : Nat) (hX : X ≤ 60) (hrl : rl = vN ∨ ∃ a, rl = vR a)
    (hK : ∀ (I4 : IT) (J4 : JT), (∀ w, w < N → plc I4 w = twn (gI (gsq d' h0 (X + 1))) w ∧ ∃ p, p ≤ 8 ∧ plc I4 w + 1 = nJ p) → FwL I I4 → Tr (ev (d + 5) mPx_countPlaces 23 [vR (0, 0), vU, vU, vU, vI 0] [] (hh I4 J4)) P) :
    ∀ j i (I3 A3 : IT) (J3 B3 : JT), i + j = X + 1 → LgS I A I3 A3 T S N i L dy rl → hh A3 B3 = gsq d' h0 i → Tr (ev (d + 5) mPx_countPlaces 8 [vR (0, 0), vU, vI (nJ X), rl, vI (nJ i)] [] (hh I3 J3)) P := by
  intro j
  induction j with
  | zero =>
    intro i I3 A3 J3 B3 hi h e
    obtain rfl : i = X + 1 := by omega
    rw [cp8 (d + 4) rl _ _ hrl, if_pos (lt_nJ (Nat.lt_succ_self X) (by omega))]
    refine hK I3 J3 (fun w hw => ?_) h.1
    obtain ⟨f1, f2, -⟩ := place_same h.2.2.2.1 hw
    obtain ⟨t, ht, et⟩ := (h.2.2.2.1.2.2.2.2.2.1 w hw).1.2
    have et : I3 (18, 5) w = nJ t := et
    have hT := h.2.2.1.1.1
    rw [← e, gI_hh]
    unfold plc twn
    rw [← f1, ← f2]
    refine ⟨rfl, ?_⟩
    by_cases h19 : I3 (19, 5) w = 0
    · rw [if_pos h19, et, nJ_succ]
      exact ⟨t + 1, by omega, rfl⟩
    · rw [if_neg h19]
      exact ⟨0, by decide, rfl⟩
  | succ j ih =>
    intro i I3 A3 J3 B3 hi h e
    obtain ⟨g1, g2, g3, g4, g5, g6, g7⟩ := id h
    obtain ⟨v, I4, J4, e1, v', A4, B4, e2, ⟨x, rfl, rfl⟩, p3, p4, p5, p6⟩ := pass_goes d d' 5 T S N i rl I3 A3 J3 B3 (by omega) g3 g4.up10 g5 g6
    rw [cp8 (d + 4) rl _ _ hrl, if_neg (nlt_nJ (show i ≤ X by omega) (by omega)), e1, bI_some, gI_hh, gJ_hh, nJ_succ]
    exact ih (i + 1) I4 A4 J4 B4 (by omega) (h.fw p5 p6 p3 p4) (gsq_succ e e2)
