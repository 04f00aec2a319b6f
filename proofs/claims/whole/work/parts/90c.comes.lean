theorem l17n {A : IT} {B : JT} {T wo a s : Nat} (d : Nat) (x3 : Int32) (hT : T ≤ 8) (m1 : A (44, 0) 1 = nJ T) (ha : a < T) (hs : s < 256) (hsa : s.testBit a = false) : ∀ j b, b + j = T → ev (d + 1) mMo_comesTo 17 [vR (43, 0), vI (nJ wo), vI (nJ s), vI x3, vI (nJ a), vI (nJ b)] [] (hh A B) = ev (d + 1) mMo_comesTo 9 [vR (43, 0), vI (nJ wo), vI (nJ s), vI x3, vI (nJ (a + 1)), vU] [] (hh A B) := by
  have o0 : nJ s ||| 0 = nJ s := by
    have := nJ_or2 s 0
    rw [Nat.or_zero] at this
    exact this
  intro j
  induction j with
  | zero =>
    intro b hb
    obtain rfl : b = T := by omega
    rw [eMo_comesTo_17, m1, if_neg (nlt_nJ (Nat.le_refl b) (by omega)), nJ_succ]
  | succ j ih =>
    intro b hb
    rw [eMo_comesTo_17, m1, if_pos (lt_nJ (show b < T by omega) (by omega)), mHas8 _ _ _ hs (by omega), bI_some, hsa, if_neg (show ¬ false = true by decide), if_pos rfl, o0, nJ_succ, gI_hh, gJ_hh]
    exact ih (b + 1) (by omega)
theorem comes9 {A : IT} {B : JT} {T wo : Nat} {near : Nat → Nat} (d : Nat) (x3 : Int32) (hT : T ≤ 8) (m1 : A (44, 0) 1 = nJ T) (hwo : wo < 256) (hn : RdM A T near) : ∀ j a s, a + j = T → s < 256 → ev (d + 1) mMo_comesTo 9 [vR (43, 0), vI (nJ wo), vI (nJ s), vI x3, vI (nJ a), vU] [] (hh A B) = ev (d + 1) mMo_comesTo 4 [vR (43, 0), vI (nJ wo), vI (nJ (tka near wo a j s)), vI (x3 + 1), vU, vU] [] (hh A B) := by
  intro j
  induction j with
  | zero =>
    intro a s ha hs
    obtain rfl : a = T := by omega
    rw [eMo_comesTo_9, m1, if_neg (nlt_nJ (Nat.le_refl a) (by omega))]
    rfl
  | succ j ih =>
    intro a s ha hs
    have haT : a < T := by omega
    have hlt := tkn_lt (wo := wo) (hn a haT).1 hs
    rw [eMo_comesTo_9, m1, if_pos (lt_nJ haT (by omega)), show tka near wo a (j + 1) s = tka near wo (a + 1) j (tkn near wo a s) from rfl]
    cases hb : s.testBit a with
    | false =>
      have e : tkn near wo a s = s := by unfold tkn; rw [hb]; rfl
      have := l17n (A := A) (B := B) (wo := wo) d x3 hT m1 haT hs hb T 0 (by omega)
      rw [e]
      exact this.trans (ih (a + 1) s (by omega) hs)
    | true =>
      have e : tkn near wo a s = s ||| (near a &&& (255 ^^^ wo)) := by unfold tkn; rw [hb]; rfl
      have := l17 (A := A) (B := B) d x3 hT m1 hwo hn haT hs hb T 0 (by omega)
      rw [show (near a &&& (255 ^^^ wo)) &&& (2 ^ 0 - 1) = 0 from Nat.and_zero _, Nat.or_zero, ← e] at this
      exact this.trans (ih (a + 1) _ (by omega) hlt)
theorem mComes {A : IT} {B : JT} {T wo : Nat} {near : Nat → Nat} (d : Nat) (hT : T ≤ 8) (m1 : A (44, 0) 1 = nJ T) (hwo : wo < 256) (hn : RdM A T near) : ev (d + 1) mMo_comesTo 0 [vR (43, 0), vI (nJ wo), vU, vU, vU, vU] [] (hh A B) = some (some (vI (nJ (tkt near wo T 8 1))), hh A B) := by
  have go : ∀ j n s, n + j = 8 → s < 256 → ev (d + 1) mMo_comesTo 4 [vR (43, 0), vI (nJ wo), vI (nJ s), vI (nJ n), vU, vU] [] (hh A B) = some (some (vI (nJ (tkt near wo T j s))), hh A B) := by
    intro j
    induction j with
    | zero =>
      intro n s hn8 hs
      obtain rfl : n = 8 := by omega
      rw [eMo_comesTo_4, if_neg (show ¬ nJ 8 < 8 by decide)]
      rfl
    | succ j ih =>
      intro n s hn8 hs
      have h9 := comes9 (A := A) (B := B) d (nJ n) hT m1 hwo hn T 0 s (by omega) hs
      have h9 : ev (d + 1) mMo_comesTo 9 [vR (43, 0), vI (nJ wo), vI (nJ s), vI (nJ n), vI 0, vU] [] (hh A B) = _ := h9
      rw [eMo_comesTo_4, if_pos (lt_nL (b := 8) (show n < 8 by omega) (by decide)), h9, nJ_succ]
      exact ih (n + 1) _ (by omega) (tka_lt (fun a ha => (hn a ha).1) T 0 s (by omega) hs)
  rw [eMo_comesTo_0]
  exact go 8 0 1 rfl (by decide)
