/-- a row in which each walker's place is counted -/
def alk (p : Nat → Nat) : Nat → Nat → (Nat → Int32) → (Nat → Int32)
  | _, 0, r => r
  | w, j + 1, r => alk p (w + 1) j (fun k => if k = 9 * w + p w then r k + 1 else r k)
theorem alk_ext (p : Nat → Nat) : ∀ (j w : Nat) (r r' : Nat → Int32), (∀ k, k < 27 → r k = r' k) → ∀ k, k < 27 → alk p w j r k = alk p w j r' k
  | 0, _, _, _, h, k, hk => h k hk
  | j + 1, w, r, r', h, k, hk => by
    unfold alk
    refine alk_ext p j (w + 1) _ _ (fun i hi => ?_) k hk
    rw [h i hi]
theorem ixC {w p : Nat} {r : Int32} (h : r + 1 = nJ p) : ((nJ w * 9) + r) + 1 = nJ (9 * w + p) := by
  rw [Int32.add_assoc, h, show nJ w * 9 = nJ (w * 9) from nJ_mul w 9, nJ_add, Nat.mul_comm]
theorem ixM {w p : Nat} {r : Int32} (h : r + 1 = nJ p) : ((9 * nJ w) + r) + 1 = nJ (9 * w + p) := by
  rw [Int32.add_assoc, h, show 9 * nJ w = nJ (9 * w) from nJ_mul 9 w, nJ_add]
theorem row_up {I : IT} {a : Ad} {n : Nat} : up2 I a n (I a n + 1) a = fun k => if k = n then I a k + 1 else I a k := by
  funext k
  rw [up_at]
  by_cases e : k = n
  · subst e
    rw [if_pos ⟨rfl, rfl⟩, if_pos rfl]
  · rw [if_neg (fun z => e z.2), if_neg e]
theorem cp23 {N : Nat} {p : Nat → Nat} (d : Nat) (hN : N ≤ 3) : ∀ j w (I : IT) (J : JT), w + j = N → I (8, 0) 4 = nJ N → (∀ v, v < N → p v ≤ 8 ∧ plc I v + 1 = nJ (p v)) → ∃ I', ev (d + 1) mPx_countPlaces 23 [vR (0, 0), vU, vU, vU, vI (nJ w)] [] (hh I J) = some (none, hh I' J) ∧ I' (36, 0) = alk p w j (I (36, 0)) ∧ ∀ a, a ≠ (36, 0) → I' a = I a := by
  intro j
  induction j with
  | zero =>
    intro w I J hw e4 hp
    obtain rfl : w = N := by omega
    refine ⟨I, ?_, rfl, fun _ _ => rfl⟩
    rw [ePx_countPlaces_23, e4, if_neg (nlt_nJ (Nat.le_refl w) (by omega))]
  | succ j ih =>
    intro w I J hw e4 hp
    have hwN : w < N := by omega
    obtain ⟨p8, ep⟩ := hp w hwN
    have hb : 9 * w + p w < 27 := by omega
    obtain ⟨I', e, h1, h2⟩ := ih (w + 1) (up2 I (36, 0) (9 * w + p w) (I (36, 0) (9 * w + p w) + 1)) J (by omega) ((up_ne _ _ _ _ (by decide)).trans e4) (fun v hv => by
      have hq := hp v hv
      unfold plc at hq ⊢
      rw [up_ne _ _ _ _ (by decide), up_ne _ _ _ _ (by decide)]
      exact hq)
    refine ⟨I', ?_, ?_, fun a ha => ?_⟩
    · rw [ePx_countPlaces_23, e4, if_pos (lt_nJ hwN (by omega)), cPlace _ _ w (by omega), bI_some, show (if I (19, 5) w = 0 then I (18, 5) w else -1) = plc I w from rfl, ixC ep]
      simp only [bnd hb (show 27 ≤ 100000 by decide), bnk hb (show 27 ≤ 100000 by decide), nJ_nat (show 9 * w + p w < 2147483648 by omega), nJ_succ, gI_hh, gJ_hh]
      exact e
    · rw [h1, row_up]
      rfl
    · rw [h2 a ha]
      funext k
      rw [up_ne _ _ _ _ ha]
theorem lk49 {N : Nat} {p : Nat → Nat} (d : Nat) (x1 x2 x3 x4 : Int32) (hN : N ≤ 3) : ∀ j w (A : IT) (B : JT), w + j = N → A (44, 0) 4 = nJ N → (∀ v, v < N → p v ≤ 8 ∧ A (85, 0) v + 1 = nJ (p v)) → ∃ A', ev (d + 1) mMo_look 49 [vR (43, 0), vI x1, vI x2, vI x3, vI x4, vI (nJ w)] [] (hh A B) = ev (d + 1) mMo_look 37 [vR (43, 0), vI x1, vI x2, vI x3, vI (x4 + 1), vU] [] (hh A' B) ∧ A' (86, 0) = alk p w j (A (86, 0)) ∧ ∀ a, a ≠ (86, 0) → A' a = A a := by
  intro j
  induction j with
  | zero =>
    intro w A B hw e4 hp
    obtain rfl : w = N := by omega
    refine ⟨A, ?_, rfl, fun _ _ => rfl⟩
    rw [eMo_look_49, e4, if_neg (nlt_nJ (Nat.le_refl w) (by omega))]
  | succ j ih =>
    intro w A B hw e4 hp
    have hwN : w < N := by omega
    obtain ⟨p8, ep⟩ := hp w hwN
    have hb : 9 * w + p w < 27 := by omega
    obtain ⟨A', e, h1, h2⟩ := ih (w + 1) (up2 A (86, 0) (9 * w + p w) (A (86, 0) (9 * w + p w) + 1)) B (by omega) ((up_ne _ _ _ _ (by decide)).trans e4) (fun v hv => by
      rw [up_ne _ _ _ _ (by decide)]
      exact hp v hv)
    refine ⟨A', ?_, ?_, fun a ha => ?_⟩
    · rw [eMo_look_49, e4, if_pos (lt_nJ hwN (by omega)), bnd (show w < 3 by omega) (by omega), nJ_nat (show w < 2147483648 by omega), ixM ep]
      simp only [bnd hb (show 27 ≤ 100000 by decide), bnk hb (show 27 ≤ 100000 by decide), nJ_nat (show 9 * w + p w < 2147483648 by omega), nJ_succ]
      exact e
    · rw [h1, row_up]
      rfl
    · rw [h2 a ha]
      funext k
      rw [up_ne _ _ _ _ ha]
/-- the most of a walker's nine -/
def mxa (r : Nat → Int32) (w : Nat) : Nat → Nat → Int32 → Int32
  | _, 0, m => m
  | k, j + 1, m => mxa r w (k + 1) j (if m < r (9 * w + k) then r (9 * w + k) else m)
theorem mxa_ext {r r' : Nat → Int32} {w : Nat} (hw : w < 3) (h : ∀ k, k < 27 → r k = r' k) : ∀ (j k : Nat) (m : Int32), k + j = 9 → mxa r w k j m = mxa r' w k j m
  | 0, _, _, _ => rfl
  | j + 1, k, m, hk => by
    unfold mxa
    rw [h (9 * w + k) (by omega), mxa_ext hw h j (k + 1) _ (by omega)]
theorem ixC0 (w k : Nat) : (nJ w * 9) + nJ k = nJ (9 * w + k) := by
  rw [show nJ w * 9 = nJ (w * 9) from nJ_mul w 9, nJ_add, Nat.mul_comm]
theorem ixM0 (w k : Nat) : (9 * nJ w) + nJ k = nJ (9 * w + k) := by
  rw [show 9 * nJ w = nJ (9 * w) from nJ_mul 9 w, nJ_add]
theorem cMost {I : IT} {J : JT} {w : Nat} (d : Nat) (hw : w < 3) : ev d mPx_mostAlike 0 [vR (0, 0), vI (nJ w), vU, vU] [] (hh I J) = some (some (vI (mxa (I (36, 0)) w 0 9 0)), hh I J) := by
  have go : ∀ j k (m : Int32), k + j = 9 → ev d mPx_mostAlike 4 [vR (0, 0), vI (nJ w), vI m, vI (nJ k)] [] (hh I J) = some (some (vI (mxa (I (36, 0)) w k j m)), hh I J) := by
    intro j
    induction j with
    | zero =>
      intro k m hk
      obtain rfl : k = 9 := by omega
      rw [ePx_mostAlike_4, if_neg (show ¬ nJ 9 < 9 by decide)]
      rfl
    | succ j ih =>
      intro k m hk
      have hb : 9 * w + k < 27 := by omega
      rw [ePx_mostAlike_4, if_pos (lt_nL (b := 9) (show k < 9 by omega) (by decide)), ixC0, bnd hb (by omega), nJ_nat (show 9 * w + k < 2147483648 by omega), nJ_succ, ih (k + 1) _ (by omega)]
      rfl
  rw [ePx_mostAlike_0]
  exact go 9 0 0 rfl
theorem mMost {A : IT} {B : JT} {w : Nat} (d : Nat) (hw : w < 3) : ev d mMo_mostAlike 0 [vR (43, 0), vI (nJ w), vU, vU, vU] [] (hh A B) = some (some (vI (mxa (A (86, 0)) w 0 9 0)), hh A B) := by
  have go : ∀ j k (m : Int32), k + j = 9 → ev d mMo_mostAlike 4 [vR (43, 0), vI (nJ w), vI m, vI (nJ k), vU] [] (hh A B) = some (some (vI (mxa (A (86, 0)) w k j m)), hh A B) := by
    intro j
    induction j with
    | zero =>
      intro k m hk
      obtain rfl : k = 9 := by omega
      rw [eMo_mostAlike_4, if_pos (show (8 : Int32) < nJ 9 by decide)]
      rfl
    | succ j ih =>
      intro k m hk
      have hb : 9 * w + k < 27 := by omega
      rw [eMo_mostAlike_4, if_neg (show ¬ (8 : Int32) < nJ k from nlt_Ln (a := 8) (by omega) (by decide)), ixM0, bnd hb (by omega), nJ_nat (show 9 * w + k < 2147483648 by omega), nJ_succ]
      by_cases hm : m < A (86, 0) (9 * w + k)
      · rw [if_pos hm, ih (k + 1) _ (by omega), show mxa (A (86, 0)) w k (j + 1) m = mxa (A (86, 0)) w (k + 1) j (if m < A (86, 0) (9 * w + k) then A (86, 0) (9 * w + k) else m) from rfl, if_pos hm]
      · rw [if_neg hm, ih (k + 1) _ (by omega), show mxa (A (86, 0)) w k (j + 1) m = mxa (A (86, 0)) w (k + 1) j (if m < A (86, 0) (9 * w + k) then A (86, 0) (9 * w + k) else m) from rfl, if_neg hm]
  rw [eMo_mostAlike_0]
  exact go 9 0 0 rfl
