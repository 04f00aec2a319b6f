/-! SEALS: sets of towns as numbers below 256 -/
theorem nJ_or2 (a b : Nat) : nJ a ||| nJ b = nJ (a ||| b) := by
  apply Int32.toBitVec_inj.mp
  rw [Int32.toBitVec_or]
  apply BitVec.eq_of_toNat_eq
  rw [BitVec.toNat_or]
  show (a % 2 ^ 32) ||| (b % 2 ^ 32) = (a ||| b) % 2 ^ 32
  rw [Nat.or_mod_two_pow]
theorem nJ_and2 (a b : Nat) : nJ a &&& nJ b = nJ (a &&& b) := by
  apply Int32.toBitVec_inj.mp
  rw [Int32.toBitVec_and]
  apply BitVec.eq_of_toNat_eq
  rw [BitVec.toNat_and]
  show (a % 2 ^ 32) &&& (b % 2 ^ 32) = (a &&& b) % 2 ^ 32
  rw [Nat.and_mod_two_pow]
theorem b8_not : ∀ b, b < 256 → (255 : Int32) &&& (nJ b ^^^ (-1)) = nJ (255 ^^^ b) := by decide +kernel
theorem b8_andn (a b : Nat) (ha : a < 256) (hb : b < 256) : (nJ a &&& (nJ b ^^^ (-1))) = nJ (a &&& (255 ^^^ b)) := by
  have e : nJ a = nJ a &&& 255 := by
    show nJ a = nJ a &&& nJ 255
    rw [nJ_and2, show 255 = 2 ^ 8 - 1 from rfl, Nat.and_two_pow_sub_one_eq_mod, Nat.mod_eq_of_lt ha]
  rw [e, Int32.and_assoc, b8_not b hb, nJ_and2]
theorem b8_shr : ∀ z, z < 256 → ∀ k, k < 8 → ((nJ z >>> (nJ k &&& 31)) &&& 1) = nJ (bif z.testBit k then 1 else 0) := by decide +kernel
theorem b8_sh : ∀ k, k < 9 → (1 : Int32) <<< (nJ k &&& 31) = nJ (2 ^ k) := by decide +kernel
/-- one town's roads taken up -/
def tkn (near : Nat → Nat) (wo a s : Nat) : Nat := bif s.testBit a then s ||| (near a &&& (255 ^^^ wo)) else s
/-- all towns from a on -/
def tka (near : Nat → Nat) (wo : Nat) : Nat → Nat → Nat → Nat
  | _, 0, s => s
  | a, j + 1, s => tka near wo (a + 1) j (tkn near wo a s)
/-- n turns -/
def tkt (near : Nat → Nat) (wo T : Nat) : Nat → Nat → Nat
  | 0, s => s
  | n + 1, s => tkt near wo T n (tka near wo 0 T s)
theorem tkn_lt {near : Nat → Nat} {wo a s : Nat} (hn : near a < 256) (hs : s < 256) : tkn near wo a s < 256 := by
  unfold tkn
  cases s.testBit a
  · exact hs
  · exact Nat.or_lt_two_pow (n := 8) hs (Nat.lt_of_le_of_lt Nat.and_le_left hn)
theorem tka_lt {near : Nat → Nat} {wo T : Nat} (hn : ∀ a, a < T → near a < 256) : ∀ j a s, a + j = T → s < 256 → tka near wo a j s < 256
  | 0, _, _, _, hs => hs
  | j + 1, a, s, ha, hs => tka_lt hn j (a + 1) _ (by omega) (tkn_lt (hn a (by omega)) hs)
theorem tkt_fix {near : Nat → Nat} {wo T s : Nat} (h : tka near wo 0 T s = s) : ∀ n, tkt near wo T n s = s
  | 0 => rfl
  | n + 1 => by
    unfold tkt
    rw [h]
    exact tkt_fix h n
theorem b8_shr0 {s k : Nat} (hs : s < 256) (hk : k < 8) : (((nJ s >>> (nJ k &&& 31)) &&& 1) = 0) = (s.testBit k = false) := by
  rw [b8_shr s hs k hk]
  cases s.testBit k
  · exact propext ⟨fun _ => rfl, fun _ => rfl⟩
  · exact propext ⟨fun z => absurd z (by decide), fun z => by cases z⟩
theorem cTurn {I : IT} {J : JT} {T wo : Nat} {near : Nat → Nat} (d : Nat) (x1 x4 x5 : Int32) (hT : T ≤ 8) (e2 : I (8, 0) 2 = nJ T) (hwo : wo < 256) (hn : ∀ a, a < T → near a < 256 ∧ I (12, 0) a = nJ (near a)) : ∀ j a s, a + j = T → s < 256 → ev d mRo_isReached 16 [vR (8, 0), vI x1, vI (nJ wo), vI (nJ s), vI x4, vI x5, vI (nJ a)] [] (hh I J) = ev d mRo_isReached 6 [vR (8, 0), vI x1, vI (nJ wo), vI (nJ (tka near wo a j s)), vI x4, vI (x5 + 1), vU] [] (hh I J) := by
  intro j
  induction j with
  | zero =>
    intro a s ha hs
    obtain rfl : a = T := by omega
    rw [eRo_isReached_16, e2, if_neg (nlt_nJ (Nat.le_refl a) (by omega))]
    rfl
  | succ j ih =>
    intro a s ha hs
    have haT : a < T := by omega
    obtain ⟨n1, n2⟩ := hn a haT
    have hlt := tkn_lt (wo := wo) n1 hs
    rw [eRo_isReached_16, e2, if_pos (lt_nJ haT (by omega)), bnd (show a < 8 by omega) (by omega), nJ_nat (by omega), n2, b8_andn _ _ n1 hwo, nJ_or2, nJ_succ]
    cases hb : s.testBit a with
    | false =>
      rw [if_pos (Eq.mpr (b8_shr0 hs (show a < 8 by omega)) hb), ih (a + 1) s (by omega) hs]
      have : tkn near wo a s = s := by unfold tkn; rw [hb]; rfl
      rw [show tka near wo a (j + 1) s = tka near wo (a + 1) j (tkn near wo a s) from rfl, this]
    | true =>
      have e : tkn near wo a s = s ||| (near a &&& (255 ^^^ wo)) := by unfold tkn; rw [hb]; rfl
      rw [if_neg (fun z => by have := Eq.mp (b8_shr0 hs (show a < 8 by omega)) z; rw [hb] at this; cases this), ← e, ih (a + 1) _ (by omega) hlt]
      rfl
theorem cReach {I : IT} {J : JT} {T wo k : Nat} {near : Nat → Nat} (d : Nat) (hT : T ≤ 8) (hk : k < 8) (e2 : I (8, 0) 2 = nJ T) (hwo : wo < 256) (hn : ∀ a, a < T → near a < 256 ∧ I (12, 0) a = nJ (near a)) : ∀ j n s p, n + j = 8 → s < 256 → p < 256 → (p = s → tka near wo 0 T s = s) → ev d mRo_isReached 6 [vR (8, 0), vI (nJ k), vI (nJ wo), vI (nJ s), vI (nJ p), vI (nJ n), vU] [] (hh I J) = some (some (vI (if (tkt near wo T j s).testBit k = true then 1 else 0)), hh I J) := by
  have fin : ∀ s, s < 256 → (if ((nJ s >>> (nJ k &&& 31)) &&& 1) = 0 then some (some (vI 0), hh I J) else some (some (vI 1), hh I J)) = some (some (vI (if s.testBit k = true then 1 else 0)), hh I J) := fun s hs => by
    cases hb : s.testBit k with
    | false => rw [if_pos (Eq.mpr (b8_shr0 hs hk) hb), if_neg (by decide)]
    | true => rw [if_neg (fun z => by have := Eq.mp (b8_shr0 hs hk) z; rw [hb] at this; cases this), if_pos rfl]
  intro j
  induction j with
  | zero =>
    intro n s p hn8 hs hp hf
    obtain rfl : n = 8 := by omega
    rw [eRo_isReached_6, if_neg (show ¬ nJ 8 < 8 by decide), fin s hs]
    rfl
  | succ j ih =>
    intro n s p hn8 hs hp hf
    rw [eRo_isReached_6, if_pos (lt_nL (b := 8) (show n < 8 by omega) (by decide))]
    by_cases e : p = s
    · subst e
      rw [if_pos rfl, fin p hs, tkt_fix (hf rfl)]
    · have hne : ¬ nJ s = nJ p := fun z => by
        rw [nJ_eq (by omega) (by omega)] at z
        exact e z.symm
      have hc := cTurn (I := I) (J := J) d (nJ k) (nJ s) (nJ n) hT e2 hwo hn T 0 s (by omega) hs
      have hc : ev d mRo_isReached 16 [vR (8, 0), vI (nJ k), vI (nJ wo), vI (nJ s), vI (nJ s), vI (nJ n), vI 0] [] (hh I J) = _ := hc
      rw [if_neg hne, hc, nJ_succ]
      exact ih (n + 1) (tka near wo 0 T s) s (by omega) (tka_lt (fun a ha => (hn a ha).1) T 0 s (by omega) hs) hs (fun z => by rw [← z]; exact z.symm)
