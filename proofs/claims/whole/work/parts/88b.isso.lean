theorem so12 {I : IT} {J : JT} (d : Nat) (rl : Vl) (x3 x4 : Int32) (h : rl = vN ∨ ∃ a, rl = vR a) : ev (d + 1) mPx_isSo 12 [vR (0, 0), vU, rl, vI x3, vI x4, vU] [] (hh I J) = if (60 : Int32) < x4 then some (some (vI 1), hh I J) else if (0 : Int32) < x3 then bI (ev d mWa_pass 0 [vR (17, 5), vR (8, 0), rl, vU, vU] [] (hh I J)) (fun r1 h1 => ev (d + 1) mPx_isSo 27 [vR (0, 0), vU, rl, vI x3, vI x4, vI 0] [] (hh (gI h1) (gJ h1))) else some (some (vI 1), hh I J) := by
  rcases h with rfl | ⟨a, rfl⟩
  · rw [ePx_isSo_12N]
  · rw [ePx_isSo_12]
theorem so27 {I : IT} {J : JT} {L k i w : Nat} {y : Int32} (d : Nat) (rl : Vl) (x3 : Int32) (h : rl = vN ∨ ∃ a, rl = vR a) (e7 : I (7, 0) 7 = nJ L) (hk : k < L) (hL : L ≤ 10) (e24 : I (24, 0) k = y) (e25 : I (25, 0) k = nJ w) (hw : w < 3) : ev (d + 1) mPx_isSo 27 [vR (0, 0), vU, rl, vI x3, vI (nJ i), vI (nJ k)] [] (hh I J) = if y = nJ i then (if (if I (19, 5) w = 0 then I (18, 5) w else -1) = I (26, 0) k then ev (d + 1) mPx_isSo 27 [vR (0, 0), vU, rl, vI (x3 + (-1)), vI (nJ i), vI (nJ (k + 1))] [] (hh I J) else some (some (vI 0), hh I J)) else ev (d + 1) mPx_isSo 27 [vR (0, 0), vU, rl, vI x3, vI (nJ i), vI (nJ (k + 1))] [] (hh I J) := by
  rcases h with rfl | ⟨a, rfl⟩
  · rw [ePx_isSo_27N, e7, if_pos (lt_nJ hk (by omega)), bnd (show k < 10 by omega) (by omega), bnd (show k < 10 by omega) (by omega), nJ_nat (by omega), e24, e25, cPlace _ _ w hw, bI_some, nJ_succ]
    simp only [bnk (show k < 10 by omega) (show 10 ≤ 100000 by decide), bnd (show k < 10 by omega) (show 10 ≤ 100000 by decide), nJ_nat (show k < 2147483648 by omega), gI_hh, gJ_hh]
  · rw [ePx_isSo_27, e7, if_pos (lt_nJ hk (by omega)), bnd (show k < 10 by omega) (by omega), bnd (show k < 10 by omega) (by omega), nJ_nat (by omega), e24, e25, cPlace _ _ w hw, bI_some, nJ_succ]
    simp only [bnk (show k < 10 by omega) (show 10 ≤ 100000 by decide), bnd (show k < 10 by omega) (show 10 ≤ 100000 by decide), nJ_nat (show k < 2147483648 by omega), gI_hh, gJ_hh]
theorem so27e {I : IT} {J : JT} {L i : Nat} (d : Nat) (rl : Vl) (x3 : Int32) (h : rl = vN ∨ ∃ a, rl = vR a) (e7 : I (7, 0) 7 = nJ L) (hL : L ≤ 10) : ev (d + 1) mPx_isSo 27 [vR (0, 0), vU, rl, vI x3, vI (nJ i), vI (nJ L)] [] (hh I J) = ev (d + 1) mPx_isSo 12 [vR (0, 0), vU, rl, vI x3, vI (nJ (i + 1)), vU] [] (hh I J) := by
  rcases h with rfl | ⟨a, rfl⟩
  · rw [ePx_isSo_27N, e7, if_neg (nlt_nJ (Nat.le_refl L) (by omega)), nJ_succ]
  · rw [ePx_isSo_27, e7, if_neg (nlt_nJ (Nat.le_refl L) (by omega)), nJ_succ]
theorem cr40 {A : IT} {B : JT} {L k i w : Nat} {y : Int32} (d : Nat) (x2 : Int32) (e10 : A (44, 0) 10 = nJ L) (hk : k < L) (hL : L ≤ 10) (e57 : A (57, 0) k = y) (e58 : A (58, 0) k = nJ w) (hw : w < 3) : ev (d + 1) mMo_couldRule 40 [vR (43, 0), vU, vI x2, vI 1, vI (nJ i), vI (nJ k)] [] (hh A B) = if y = nJ i then (if (if A (54, 0) w = 0 then A (53, 0) w else -1) = A (59, 0) k then ev (d + 1) mMo_couldRule 40 [vR (43, 0), vU, vI x2, vI 1, vI (nJ i), vI (nJ (k + 1))] [] (hh A B) else ev (d + 1) mMo_couldRule 40 [vR (43, 0), vU, vI x2, vI 0, vI (nJ i), vI (nJ (k + 1))] [] (hh A B)) else ev (d + 1) mMo_couldRule 40 [vR (43, 0), vU, vI x2, vI 1, vI (nJ i), vI (nJ (k + 1))] [] (hh A B) := by
  rw [eMo_couldRule_40, e10, if_pos (lt_nJ hk (by omega)), if_neg (show ¬ (1 : Int32) = 0 by decide), bnd (show k < 10 by omega) (by omega), bnd (show k < 10 by omega) (by omega), nJ_nat (by omega), e57, e58, mTownOf _ w hw, bI_some, nJ_succ]
  simp only [bnk (show k < 10 by omega) (show 10 ≤ 100000 by decide), bnd (show k < 10 by omega) (show 10 ≤ 100000 by decide), nJ_nat (show k < 2147483648 by omega), gI_hh, gJ_hh]
theorem nJ_pred (c : Nat) : nJ (c + 1) + (-1) = nJ c := by
  rw [← nJ_succ, Int32.add_assoc]
  exact Int32.add_zero _
def SoQ (I A : IT) : Option Vl → IT → JT → Option Vl → IT → JT → Prop := fun v I' _ v' A' _ => (∃ x, v = some (vI x) ∧ v' = some (vI x) ∧ (x = 0 ∨ x = 1)) ∧ FwL I I' ∧ KeM A A'
theorem so_in {I A : IT} {T S N L i : Nat} {dy : Nat → Nat} {rl : Vl} (d d' : Nat) (x2 : Int32) (hrl : rl = vN ∨ ∃ a, rl = vR a) (hi : i < 61) (I3 : IT) (J3 : JT) (B3 : JT)
    (hK : ∀ (A4 : IT), LgS I A I3 A4 T S N (i + 1) L dy rl → R2 (ev (d + 5) mPx_isSo 12 [vR (0, 0), vU, rl, vI (nJ (lgn dy (i + 1) 0 L)), vI (nJ (i + 1)), vU] [] (hh I3 J3)) (ev (d' + 7) mMo_couldRule 32 [vR (43, 0), vU, vI x2, vI 1, vI (nJ (i + 1)), vU] [] (hh A4 B3)) (SoQ I A)) :
    ∀ j k (A3 : IT), k + j = L → LgS I A I3 A3 T S N (i + 1) L dy rl → R2 (ev (d + 5) mPx_isSo 27 [vR (0, 0), vU, rl, vI (nJ (lgn dy i k L)), vI (nJ i), vI (nJ k)] [] (hh I3 J3)) (ev (d' + 7) mMo_couldRule 40 [vR (43, 0), vU, vI x2, vI 1, vI (nJ i), vI (nJ k)] [] (hh A3 B3)) (SoQ I A) := by
  intro j
  induction j with
  | zero =>
    intro k A3 hk h
    obtain rfl : k = L := by omega
    obtain ⟨l0, l1, l2, l3⟩ := h.2.2.2.2.2.2
    obtain ⟨A5, e73, g5⟩ := l73 (B := B3) (i := i) (d' + 6) x2 1 3 0 A3 (by omega) h
    have e73 : ev (d' + 7) mMo_couldRule 73 [vR (43, 0), vU, vI x2, vI 1, vI (nJ i), vI 0] [] (hh A3 B3) = ev (d' + 7) mMo_couldRule 32 [vR (43, 0), vU, vI x2, vI 1, vI (nJ (i + 1)), vU] [] (hh A5 B3) := e73
    rw [so27e (d + 4) rl _ hrl l1 l0, eMo_couldRule_40, l2, if_neg (nlt_nJ (Nat.le_refl k) (by omega)), e73, lgn_next dy i k k (Nat.le_refl k)]
    exact hK A5 g5
  | succ j ih =>
    intro k A3 hk h
    obtain ⟨l0, l1, l2, l3⟩ := h.2.2.2.2.2.2
    have hkL : k < L := by omega
    obtain ⟨a1, a2, a3, ⟨w, hw, a4, a5⟩, a6⟩ := l3 k hkL
    have hN := h.2.2.1.1.2.2.1
    obtain ⟨f1, f2, -⟩ := place_same h.2.2.2.1 hw
    rw [so27 (d + 4) rl _ hrl l1 hkL l0 a1 a4 (by omega), cr40 (d' + 6) x2 l2 hkL l0 a2 a5 (by omega)]
    by_cases hd : dy k = i
    · rw [if_pos (show nJ (dy k) = nJ i by rw [hd]), if_pos (show nJ (dy k) = nJ i by rw [hd]), f1, f2, a6]
      by_cases hp : (if A3 (54, 0) w = 0 then A3 (53, 0) w else -1) = A3 (59, 0) k
      · rw [if_pos hp, if_pos hp, lgn_hit dy i k hd L, if_pos hkL, nJ_pred]
        exact ih (k + 1) A3 (by omega) h
      · rw [if_neg hp, if_neg hp]
        have e40 := l40 (A := A3) (B := B3) (L := L) (i := i) (dy := dy) (d' + 6) x2 0 l0 l2 (fun k hk => ⟨(l3 k hk).2.1, (l3 k hk).2.2.1⟩) (by omega) (Or.inl rfl) j (k + 1) (by omega)
        obtain ⟨A5, e73, g5⟩ := l73 (B := B3) (i := i) (d' + 6) x2 0 3 0 A3 (by omega) h
        have e73 : ev (d' + 7) mMo_couldRule 73 [vR (43, 0), vU, vI x2, vI 0, vI (nJ i), vI 0] [] (hh A3 B3) = ev (d' + 7) mMo_couldRule 32 [vR (43, 0), vU, vI x2, vI 0, vI (nJ (i + 1)), vU] [] (hh A5 B3) := e73
        rw [e40, e73]
        exact ⟨_, _, _, rfl, (cr_tail d' x2 0 (60 - i) (i + 1) I3 A5 B3 (by omega) g5 (Or.inl rfl)).mono fun v A6 B6 ⟨q1, q2⟩ => ⟨⟨0, rfl, q1, Or.inl rfl⟩, h.1, q2⟩⟩
    · have hne : ¬ nJ (dy k) = nJ i := fun z => by
        rw [nJ_eq (by omega) (by omega)] at z
        exact hd z
      rw [if_neg hne, if_neg hne, ← lgn_skip dy i k hd L]
      exact ih (k + 1) A3 (by omega) h
theorem so_go {I A : IT} {T S N L : Nat} {dy : Nat → Nat} {rl : Vl} (d d' : Nat) (x2 : Int32) (hrl : rl = vN ∨ ∃ a, rl = vR a) : ∀ j i (I3 A3 : IT) (J3 B3 : JT), i + j = 61 → LgS I A I3 A3 T S N i L dy rl → R2 (ev (d + 5) mPx_isSo 12 [vR (0, 0), vU, rl, vI (nJ (lgn dy i 0 L)), vI (nJ i), vU] [] (hh I3 J3)) (ev (d' + 7) mMo_couldRule 32 [vR (43, 0), vU, vI x2, vI 1, vI (nJ i), vU] [] (hh A3 B3)) (SoQ I A) := by
  intro j
  induction j with
  | zero =>
    intro i I3 A3 J3 B3 hi h
    obtain rfl : i = 61 := by omega
    obtain ⟨l0, l1, l2, l3⟩ := h.2.2.2.2.2.2
    rw [so12 (d + 4) rl _ _ hrl, if_pos (show (60 : Int32) < nJ 61 by decide)]
    exact ⟨_, _, _, rfl, (cr_tail d' x2 1 0 61 I3 A3 B3 rfl h (Or.inr ⟨rfl, fun k hk => (l3 k hk).2.2.1⟩)).mono fun v A6 B6 ⟨q1, q2⟩ => ⟨⟨1, rfl, q1, Or.inr rfl⟩, h.1, q2⟩⟩
  | succ j ih =>
    intro i I3 A3 J3 B3 hi h
    obtain ⟨h1, h2, h3, h4, h5, h6, h7⟩ := id h
    have hlt := lgn_le dy i 0 L
    have hL := h7.1
    rw [so12 (d + 4) rl _ _ hrl, if_neg (show ¬ (60 : Int32) < nJ i from nlt_Ln (a := 60) (by omega) (by decide))]
    by_cases hc : lgn dy i 0 L = 0
    · rw [hc, if_neg (show ¬ (0 : Int32) < nJ 0 by decide)]
      exact ⟨_, _, _, rfl, (cr_tail d' x2 1 (j + 1) i I3 A3 B3 hi h (Or.inr ⟨rfl, lgn_zero dy i L hc⟩)).mono fun v A6 B6 ⟨q1, q2⟩ => ⟨⟨1, rfl, q1, Or.inr rfl⟩, h.1, q2⟩⟩
    · have p0 : (0 : Int32) < nJ (lgn dy i 0 L) := lt_nJ (a := 0) (by omega) (by omega)
      rw [if_pos p0, eMo_couldRule_32, if_neg (show ¬ (60 : Int32) < nJ i from nlt_Ln (a := 60) (by omega) (by decide))]
      refine R2.bII ((pass_goes d d' 5 T S N i rl I3 A3 J3 B3 (by omega) h3 h4.up10 h5 h6).mono fun v I4 J4 v' A4 B4 ⟨⟨x, q1, q2⟩, p3, p4, p5, p6⟩ => ⟨x, x, q1, q2, ?_⟩)
      exact so_in d d' x2 hrl (by omega) I4 J4 B4 (fun A5 g => ih (i + 1) I4 A5 J4 B4 (by omega) g) L 0 A4 (by omega) (h.fw p5 p6 p3 p4)
