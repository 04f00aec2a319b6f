/-! WAY, SAVES, OWED -/
/-- a distance as the reference has it -/
def dm (x : Nat) : Nat := if x = 1000000 then 10000 else x
theorem MpR.d {I A : IT} {T : Nat} (h : MpR (scC I 0) (scM A) T) {a b : Nat} (ha : a < T) (hb : b < T) : ∃ x, (x = 1000000 ∨ x < 2400) ∧ I (11, 0) (8 * a + b) = nJ x ∧ A (47, 0) (8 * a + b) = nJ (dm x) ∧ dst (scC I 0) a b = x := by
  obtain ⟨h1, h2, h3⟩ := h.2.2.1 a b ha hb
  exact ⟨_, h1, h2, h3, rfl⟩
theorem MpR.y {I A : IT} {T : Nat} (h : MpR (scC I 0) (scM A) T) {a b : Nat} (ha : a < T) (hb : b < T) : ∃ x, x < 10 ∧ I (10, 0) (8 * a + b) = nJ x ∧ A (46, 0) (8 * a + b) = nJ (if x = 0 then 10000 else x) := by
  obtain ⟨h1, h2, h3⟩ := h.1 a b ha hb
  exact ⟨_, h1, h2, h3⟩
theorem next_go (d d' a b T x : Nat) (I A : IT) (J B : JT) (hT : T ≤ 8) (e2 : I (8, 0) 2 = nJ T) (m1 : A (44, 0) 1 = nJ T) (hm : MpR (scC I 0) (scM A) T) (ha : a < T) (hb : b < T) (hx : x < 2400) (ex : I (11, 0) (8 * a + b) = nJ x) :
    ∀ (j t : Nat), t + j = T → ∃ r, ev (d + 1) mRo_nextTown 2 [vR (8, 0), vI (nJ a), vI (nJ b), vI (nJ t), vU] [] (hh I J) = some (some (vI r), hh I J) ∧ ev (d' + 1) mMo_way 39 [vR (43, 0), vI (nJ a), vI (nJ b), vU, vI (nJ x), vI (nJ t)] [] (hh A B) = some (some (vI r), hh A B) := by
  intro j
  induction j with
  | zero =>
    intro t ht
    obtain rfl : t = T := by omega
    refine ⟨-1, ?_, ?_⟩
    · rw [eRo_nextTown_2, e2, if_neg (nlt_nJ (Nat.le_refl t) (by omega))]
    · rw [eMo_way_39, m1, if_neg (nlt_nJ (Nat.le_refl t) (by omega))]
  | succ j ih =>
    intro t ht
    obtain ⟨r, ih1, ih2⟩ := ih (t + 1) (by omega)
    obtain ⟨y, hy, ey, my⟩ := hm.y ha (show t < T by omega)
    obtain ⟨w, hw, ew, mw, -⟩ := hm.d (show t < T by omega) hb
    rw [eRo_nextTown_2, e2, if_pos (lt_nJ (show t < T by omega) (by omega)), eMo_way_39, m1, if_pos (lt_nJ (show t < T by omega) (by omega))]
    by_cases hab : a = b
    · rw [if_pos (show nJ a = nJ b by rw [hab]), if_pos (show nJ a = nJ b by rw [hab])]
      exact ⟨-1, rfl, rfl⟩
    rw [if_neg (ne_nJ hab (by omega) (by omega)), if_neg (ne_nJ hab (by omega) (by omega)), cDays _ _ _ _ (by omega) (by omega), bI_some, ey, mul8', mul8', bnd (show 8 * a + t < 64 by omega) (by omega), bnd (show 8 * t + b < 64 by omega) (by omega), nJ_nat (show 8 * a + t < 2147483648 by omega), nJ_nat (show 8 * t + b < 2147483648 by omega), my, mw, nJ_add, nJ_succ]
    by_cases hy0 : y = 0
    · rw [if_pos (show nJ y = 0 by rw [hy0]; rfl), if_pos hy0, if_neg (ne_nJ (by omega) (by unfold dm; split <;> omega) (by omega))]
      exact ⟨r, ih1, ih2⟩
    · rw [if_neg (ne_nL (b := 0) hy0 (by omega) (by decide)), if_neg hy0, gI_hh, gJ_hh, cBetw _ _ _ _ (by omega) (by omega), bI_some, gI_hh, gJ_hh, cBetw _ _ _ _ (by omega) (by omega), bI_some, ew, ex, nJ_add]
      by_cases hq : y + w = x
      · have hw' : ¬ w = 1000000 := by omega
        rw [if_pos (show nJ (y + w) = nJ x by rw [hq]), if_pos (show nJ (y + dm w) = nJ x by unfold dm; rw [if_neg hw', hq])]
        exact ⟨nJ t, rfl, rfl⟩
      · rw [if_neg (ne_nJ hq (by omega) (by omega)), if_neg (ne_nJ (by unfold dm; split <;> omega) (by unfold dm; split <;> omega) (by omega))]
        exact ⟨r, ih1, ih2⟩
theorem t_way {I A : IT} {J B : JT} (d : Nat) (x y t : Int32) (h : Rel I A) : Cal (ev (d + 3) mPx_way 0 [vR (0, 0), vI x, vI y, vI t, vU] [] (hh I J)) (ev (d + 3) mMo_way 0 [vR (43, 0), vI x, vI y, vI t, vU, vU] [] (hh A B)) I A := by
  obtain ⟨q, T, S, N, hru, hro, hwk, hd, et, hf, hp⟩ := ScR.parts h
  have hT := hro.1.1
  have e2 : I (8, 0) 2 = nJ T := hro.2.1.2.1
  have m1 : A (44, 0) 1 = nJ T := hro.2.1.2.2.1
  have hm := hro.2.2.1
  rw [ePx_way_0, eMo_way_0, cTown _ _ e2, mTown _ _ m1 (by omega), bI_some, bI_some, bif2, bif2, gI_hh, gJ_hh, gI_hh, gJ_hh, cTown _ _ e2, mTown _ _ m1 (by omega), bI_some, bI_some, bif2, bif2, gI_hh, gJ_hh, gI_hh, gJ_hh, mIn _ t 0 1 0 1 rfl rfl, bI_some, bif2]
  by_cases hx : inn x T
  · by_cases hy : inn y T
    · rw [if_pos hx, if_pos hx, if_pos hy, if_pos hy]
      by_cases t0 : t < 0
      · rw [if_pos t0, if_neg (fun z => z.1 t0)]
        exact Cal.ro rfl rfl h
      by_cases t1 : (1 : Int32) < t
      · rw [if_neg t0, if_pos t1, if_neg (fun z => z.2 t1)]
        exact Cal.ro rfl rfl h
      rw [if_neg t0, if_neg t1, if_pos (And.intro t0 t1)]
      obtain ⟨a, ha, rfl⟩ := inn_ex (by omega) hx
      obtain ⟨b, hb, rfl⟩ := inn_ex (by omega) hy
      obtain ⟨w, hw, ew, mw, -⟩ := hm.d ha hb
      rw [cBetw _ _ _ _ (by omega) (by omega), bI_some, ew, mul8', bnd (show 8 * a + b < 64 by omega) (by omega), nJ_nat (show 8 * a + b < 2147483648 by omega), gI_hh, gJ_hh, gI_hh, gJ_hh, mw]
      by_cases hw0 : w = 1000000
      · rw [if_neg (show ¬ nJ w < 1000000 by rw [hw0]; decide)]
        have : ¬ nJ (dm w) < 10000 := by unfold dm; rw [if_pos hw0]; decide
        rw [if_neg this, if_neg this]
        exact Cal.ro rfl rfl h
      · have hd' : dm w = w := if_neg hw0
        rw [if_pos (lt_nL (b := 1000000) (by omega) (by decide)), hd', if_pos (lt_nL (b := 10000) (by omega) (by decide)), if_pos (lt_nL (b := 10000) (by omega) (by decide))]
        by_cases tt : t = 0
        · rw [if_pos tt, if_pos tt]
          exact Cal.ro rfl rfl h
        · rw [if_neg tt, if_neg tt]
          obtain ⟨r, r1, r2⟩ := next_go (d + 1) (d + 2) a b T w I A J B hT e2 m1 hm ha hb (by omega) ew T 0 (by omega)
          rw [eRo_nextTown_0, show ev (d + 1 + 1) mRo_nextTown 2 [vR (8, 0), vI (nJ a), vI (nJ b), vI 0, vU] [] (hh I J) = some (some (vI r), hh I J) from r1, bI_some]
          exact Cal.ro rfl r2 h
    · rw [if_pos hx, if_pos hx, if_neg hy, if_neg hy]
      exact Cal.ro rfl rfl h
  · rw [if_neg hx, if_neg hx]
    exact Cal.ro rfl rfl h
/-- the nearest shop, as both find it -/
def nsF (I : IT) (T0 : Nat) : Nat → Nat
  | 0 => 1000000
  | t + 1 => if tn (I (9, 0) t) ≠ 0 ∧ dst (scC I 0) 0 t < nsF I T0 t then dst (scC I 0) 0 t else nsF I T0 t
theorem nsF_ok {I : IT} {T : Nat} : ∀ n, n ≤ T → (∀ t, t < T → dst (scC I 0) 0 t = 1000000 ∨ dst (scC I 0) 0 t < 2400) → nsF I T n = 1000000 ∨ nsF I T n < 2400
  | 0, _, _ => Or.inl rfl
  | n + 1, h, hd => by
    unfold nsF
    split
    · exact hd n (by omega)
    · exact nsF_ok n (by omega) hd
theorem nearC_go (d T : Nat) (I A : IT) (J : JT) (hT : T ≤ 8) (e2 : I (8, 0) 2 = nJ T) (hm : MpR (scC I 0) (scM A) T) (hp : ∀ k, k < T → I (9, 0) k = A (45, 0) k ∧ ∃ p, p < 100 ∧ I (9, 0) k = nJ p) : ∀ (j t : Nat), t + j = T → ev (d + 1) mRo_nearestShop 4 [vR (8, 0), vI (nJ (nsF I T t)), vI (nJ t)] [] (hh I J) = some (some (vI (nJ (nsF I T T))), hh I J) := by
  intro j
  induction j with
  | zero =>
    intro t ht
    obtain rfl : t = T := by omega
    rw [eRo_nearestShop_4, e2, if_neg (nlt_nJ (Nat.le_refl t) (by omega))]
  | succ j ih =>
    intro t ht
    have hi := ih (t + 1) (by omega)
    have hk := nsF_ok (I := I) (T := T) t (by omega) (fun u hu => (hm.2.2.1 0 u (by omega) hu).1)
    obtain ⟨-, p, hp1, ep⟩ := hp t (by omega)
    have tp : tn (I (9, 0) t) = p := by rw [ep]; exact nJ_nat (by omega)
    obtain ⟨w, hw, ew, mw, ed⟩ := hm.d (show 0 < T by omega) (show t < T by omega)
    rw [Nat.mul_zero, Nat.zero_add] at ew
    rw [eRo_nearestShop_4, e2, if_pos (lt_nJ (show t < T by omega) (by omega)), bnd (show t < 8 by omega) (by omega), nJ_nat (show t < 2147483648 by omega), ep, nJ_succ]
    have hb0 : ev d mRo_between 0 [vR (8, 0), vI 0, vI (nJ t)] [] (hh I J) = some (some (vI (nJ w)), hh I J) := by
      have := cBetw (I := I) (J := J) d 0 0 t (by decide) (by omega)
      rw [Nat.mul_zero, Nat.zero_add, ew] at this
      exact this
    rw [hb0, bI_some, gI_hh, gJ_hh]
    have hns1 : nsF I T (t + 1) = if p ≠ 0 ∧ w < nsF I T t then w else nsF I T t := by
      show (if tn (I (9, 0) t) ≠ 0 ∧ dst (scC I 0) 0 t < nsF I T t then dst (scC I 0) 0 t else nsF I T t) = _
      rw [tp, ed]
    rw [hns1] at hi
    by_cases hp0 : p = 0
    · rw [if_pos (show nJ p = 0 by rw [hp0]; rfl)]
      rw [if_neg (fun q : p ≠ 0 ∧ w < nsF I T t => q.1 hp0)] at hi
      exact hi
    · rw [if_neg (ne_nL (b := 0) hp0 (by omega) (by decide))]
      by_cases hl : w < nsF I T t
      · rw [if_pos (lt_nJ hl (by omega))]
        rw [if_pos (And.intro hp0 hl)] at hi
        exact hi
      · rw [if_neg (nlt_nJ (by omega) (by omega))]
        rw [if_neg (fun q : p ≠ 0 ∧ w < nsF I T t => hl q.2)] at hi
        exact hi
theorem saveM_go (d T S k g : Nat) (I A : IT) (B : JT) (hT : T ≤ 8) (m1 : A (44, 0) 1 = nJ T) (hm : MpR (scC I 0) (scM A) T) (hp : ∀ k, k < T → I (9, 0) k = A (45, 0) k ∧ ∃ p, p < 100 ∧ I (9, 0) k = nJ p) (hk : k < 6) (hg : g < T) (eg : A (48, 0) k = nJ g) :
    ∀ (j t : Nat), t + j = T → ev (d + 1) mMo_saves 10 [vR (43, 0), vI (nJ k), vI (nJ (dm (nsF I T t))), vI (nJ t)] [] (hh A B) = some (some (vI (if nsF I T T = 1000000 ∨ dst (scC I 0) 0 g = 1000000 then -1000 else 2 * (nJ (dst (scC I 0) 0 g) - nJ (nsF I T T)))), hh A B) := by
  have hns : ∀ t, t ≤ T → nsF I T t = 1000000 ∨ nsF I T t < 2400 := fun t ht => nsF_ok (I := I) (T := T) t ht (fun u hu => (hm.2.2.1 0 u (by omega) hu).1)
  intro j
  induction j with
  | zero =>
    intro t ht
    obtain rfl : t = T := by omega
    obtain ⟨w, hw, ew, mw, ed⟩ := hm.d (show 0 < t by omega) hg
    rw [Nat.mul_zero, Nat.zero_add] at mw
    have h1 := hns t (Nat.le_refl t)
    rw [eMo_saves_10, m1, if_neg (nlt_nJ (Nat.le_refl t) (by omega)), ed]
    by_cases hn : nsF I t t = 1000000
    · rw [if_neg (show ¬ nJ (dm (nsF I t t)) < 10000 by unfold dm; rw [if_pos hn]; decide), if_pos (Or.inl hn)]
    · have hd' : dm (nsF I t t) = nsF I t t := if_neg hn
      rw [hd', if_pos (lt_nL (b := 10000) (by omega) (by decide)), bnd hk (by omega), nJ_nat (show k < 2147483648 by omega), eg, bnd (show g < 64 by omega) (by omega), nJ_nat (show g < 2147483648 by omega), mw]
      by_cases hw0 : w = 1000000
      · rw [if_neg (show ¬ nJ (dm w) < 10000 by unfold dm; rw [if_pos hw0]; decide), if_pos (Or.inr hw0)]
      · have hw' : dm w = w := if_neg hw0
        rw [hw', if_pos (lt_nL (b := 10000) (by omega) (by decide)), bnk hk (by omega), bnk (show g < 64 by omega) (by omega), if_neg (fun q => q.elim hn hw0)]
  | succ j ih =>
    intro t ht
    have hi := ih (t + 1) (by omega)
    have h1 := hns t (by omega)
    obtain ⟨ep1, p, hp1, ep⟩ := hp t (by omega)
    have tp : tn (I (9, 0) t) = p := by rw [ep]; exact nJ_nat (by omega)
    have mp : A (45, 0) t = nJ p := ep1.symm.trans ep
    obtain ⟨w, hw, ew, mw, ed⟩ := hm.d (show 0 < T by omega) (show t < T by omega)
    rw [Nat.mul_zero, Nat.zero_add] at mw
    rw [eMo_saves_10, m1, if_pos (lt_nJ (show t < T by omega) (by omega)), bnd (show t < 8 by omega) (by omega), nJ_nat (show t < 2147483648 by omega), mp, bnk (show t < 64 by omega) (by omega), bnk (show t < 64 by omega) (by omega), mw, nJ_succ]
    have hns1 : nsF I T (t + 1) = if p ≠ 0 ∧ w < nsF I T t then w else nsF I T t := by
      show (if tn (I (9, 0) t) ≠ 0 ∧ dst (scC I 0) 0 t < nsF I T t then dst (scC I 0) 0 t else nsF I T t) = _
      rw [tp, ed]
    rw [hns1] at hi
    by_cases hp0 : p = 0
    · rw [if_neg (nlt_Ln (a := 0) (by omega) (by omega))]
      rw [if_neg (fun q : p ≠ 0 ∧ w < nsF I T t => q.1 hp0)] at hi
      exact hi
    · rw [if_pos (lt_Ln (a := 0) (by omega) (by omega))]
      by_cases hl : w < nsF I T t
      · rw [if_pos (And.intro hp0 hl)] at hi
        rw [if_pos (lt_nJ (by unfold dm; split <;> split <;> omega) (by unfold dm; split <;> omega))]
        exact hi
      · rw [if_neg (fun q : p ≠ 0 ∧ w < nsF I T t => hl q.2)] at hi
        rw [if_neg (nlt_nJ (by unfold dm; split <;> split <;> omega) (by unfold dm; split <;> omega))]
        exact hi
theorem t_saves {I A : IT} {J B : JT} (d : Nat) (x : Int32) (h : Rel I A) : Cal (ev (d + 3) mPx_saves 0 [vR (0, 0), vI x, vU, vU] [] (hh I J)) (ev (d + 3) mMo_saves 0 [vR (43, 0), vI x, vU, vU] [] (hh A B)) I A := by
  obtain ⟨q, T, S, N, hru, hro, hwk, hd, et, hf, hp⟩ := ScR.parts h
  have hT := hro.1.1
  have hS := hro.1.2.1
  have e2 : I (8, 0) 2 = nJ T := hro.2.1.2.1
  have m1 : A (44, 0) 1 = nJ T := hro.2.1.2.2.1
  have e3 : I (8, 0) 3 = nJ S := hro.2.1.2.2.2.1
  have m3 : A (44, 0) 3 = nJ S := hro.2.1.2.2.2.2.1
  have hm := hro.2.2.1
  have hpr : ∀ k, k < T → I (9, 0) k = A (45, 0) k ∧ ∃ p, p < 100 ∧ I (9, 0) k = nJ p := hro.2.2.2.1
  rw [ePx_saves_0, eMo_saves_0, cSent _ _ e3, mSent _ _ m3 (by omega), bI_some, bI_some, bif2, bif2]
  by_cases hx : inn x S
  · obtain ⟨k, hk, rfl⟩ := inn_ex (by omega) hx
    obtain ⟨eg1, g, hg, eg⟩ := (hro.2.2.2.2.1 k hk).1
    have eg : I (13, 0) k = nJ g := eg
    have mg : A (48, 0) k = nJ g := (show I (13, 0) k = A (48, 0) k from eg1).symm.trans eg
    obtain ⟨w, hw, ew, mw, ed⟩ := hm.d (show 0 < T by omega) hg
    rw [Nat.mul_zero, Nat.zero_add] at ew
    have hb0 : ev (d + 2) mRo_between 0 [vR (8, 0), vI 0, vI (nJ g)] [] (hh I J) = some (some (vI (nJ w)), hh I J) := by
      have := cBetw (I := I) (J := J) (d + 2) 0 0 g (by decide) (by omega)
      rw [Nat.mul_zero, Nat.zero_add, ew] at this
      exact this
    have hns := nsF_ok (I := I) (T := T) T (Nat.le_refl T) (fun u hu => (hm.2.2.1 0 u (by omega) hu).1)
    have hcN : ev (d + 2) mRo_nearestShop 0 [vR (8, 0), vU, vU] [] (hh I J) = some (some (vI (nJ (nsF I T T))), hh I J) := by
      rw [eRo_nearestShop_0]
      exact nearC_go (d + 1) T I A J hT e2 hm hpr T 0 (by omega)
    have hM := saveM_go (d + 2) T S k g I A B hT m1 hm hpr (by omega) hg mg T 0 (by omega)
    rw [if_pos hx, if_pos hx, bnd (show k < 6 by omega) (by omega), nJ_nat (show k < 2147483648 by omega), gI_hh, gJ_hh, gI_hh, gJ_hh, eg, hb0, bI_some, gI_hh, gJ_hh, hcN, bI_some, gI_hh, gJ_hh]
    rw [ed] at hM
    by_cases hw0 : w = 1000000
    · rw [if_neg (show ¬ nJ w < 1000000 by rw [hw0]; decide)]
      rw [if_pos (Or.inr hw0)] at hM
      exact Cal.ro rfl hM h
    · rw [if_pos (lt_nL (b := 1000000) (by omega) (by decide))]
      by_cases hn : nsF I T T = 1000000
      · rw [if_neg (show ¬ nJ (nsF I T T) < 1000000 by rw [hn]; decide)]
        rw [if_pos (Or.inl hn)] at hM
        exact Cal.ro rfl hM h
      · rw [if_pos (lt_nL (b := 1000000) (by omega) (by decide))]
        rw [if_neg (fun q : nsF I T T = 1000000 ∨ w = 1000000 => q.elim hn hw0)] at hM
        have h2 : (2 : Int32) * (nJ w - nJ (nsF I T T)) = 2 * nJ w - 2 * nJ (nsF I T T) := Int32.mul_sub
        rw [h2] at hM
        exact Cal.ro rfl hM h
  · rw [if_neg hx, if_neg hx]
    exact Cal.ro rfl rfl h
theorem t_owed {I A : IT} {J B : JT} (d : Nat) (x y : Int32) (h : Rel I A) : Cal (ev (d + 3) mPx_owed 0 [vR (0, 0), vI x, vI y, vU, vU, vU, vU] [] (hh I J)) (ev (d + 3) mMo_owed 0 [vR (43, 0), vI x, vI y, vU, vU] [] (hh A B)) I A := by
  obtain ⟨q, T, S, N, hru, hro, hwk, hd, et, hf, hp⟩ := ScR.parts h
  have hT := hro.1.1
  have hS := hro.1.2.1
  have hN := hro.1.2.2.1
  have e3 : I (8, 0) 3 = nJ S := hro.2.1.2.2.2.1
  have m3 : A (44, 0) 3 = nJ S := hro.2.1.2.2.2.2.1
  have e4 : I (8, 0) 4 = nJ N := hro.2.1.2.2.2.2.2.1
  have m4 : A (44, 0) 4 = nJ N := hro.2.1.2.2.2.2.2.2
  have hm := hro.2.2.1
  obtain ⟨z, hz, cz, mz⟩ := hwk.2.1
  have cz : I (17, 0) 1 = nJ z := cz
  have mz : A (44, 0) 6 = nJ z := mz
  rw [ePx_owed_0, eMo_owed_0, cWalk _ _ e4, mWalk _ _ m4 (by omega), bI_some, bI_some, bif2, bif2, gI_hh, gJ_hh, gI_hh, gJ_hh, cSent _ _ e3, mSent _ _ m3 (by omega), bI_some, bI_some, bif2, bif2]
  by_cases hx : inn x N
  · by_cases hy : inn y S
    · obtain ⟨w, hw, rfl⟩ := inn_ex (by omega) hx
      obtain ⟨k, hk, rfl⟩ := inn_ex (by omega) hy
      have hk6 : k < 6 := by omega
      have hw3 : w < 3 := by omega
      obtain ⟨eg1, g, hg, eg⟩ := (hro.2.2.2.2.1 k hk).1
      have eg : I (13, 0) k = nJ g := eg
      have mg : A (48, 0) k = nJ g := (show I (13, 0) k = A (48, 0) k from eg1).symm.trans eg
      have efe : I (15, 0) k = A (50, 0) k := (hro.2.2.2.2.1 k hk).2.2.1
      have e22 : I (22, 0) k = A (51, 0) k := (hwk.2.2.2.2.2.2.1 k hk).1.1
      obtain ⟨f1, -, -, -⟩ := place_same hwk hw
      obtain ⟨t, ht, et⟩ := (hwk.2.2.2.2.2.1 w hw).1.2
      have et : I (18, 0) w = nJ t := et
      have mt : A (53, 0) w = nJ t := f1 ▸ et
      obtain ⟨u, hu, eu, mu, -⟩ := hm.d (show 0 < T by omega) hg
      rw [Nat.mul_zero, Nat.zero_add] at eu mu
      obtain ⟨v, hv, ev', mv, -⟩ := hm.d ht hg
      have hb0 : ev (d + 2) mRo_between 0 [vR (8, 0), vI 0, vI (nJ g)] [] (hh I J) = some (some (vI (nJ u)), hh I J) := by
        have := cBetw (I := I) (J := J) (d + 2) 0 0 g (by decide) (by omega)
        rw [Nat.mul_zero, Nat.zero_add, eu] at this
        exact this
      simp only [if_pos hx, if_pos hy, bnd hk6 (show 6 ≤ 100000 by decide), bnk hk6 (show 6 ≤ 100000 by decide), bnd hw3 (show 3 ≤ 100000 by decide), bnk hw3 (show 3 ≤ 100000 by decide), nJ_nat (show k < 2147483648 by omega), nJ_nat (show w < 2147483648 by omega), gI_hh, gJ_hh, e22, cz, mz, b_shr _ hz _ hk6, mHas _ _ _ hz hk6, bI_some, eg, mg, hb0, et, mt, cBetw _ _ _ _ (show t < 8 by omega) (show g < 8 by omega), bnd (show g < 64 by omega) (show 64 ≤ 100000 by decide), bnk (show g < 64 by omega) (show 64 ≤ 100000 by decide), nJ_nat (show g < 2147483648 by omega), mul8', bnd (show 8 * t + g < 64 by omega) (show 64 ≤ 100000 by decide), bnk (show 8 * t + g < 64 by omega) (show 64 ≤ 100000 by decide), nJ_nat (show 8 * t + g < 2147483648 by omega), mu, ev', mv, efe, bif2]
      by_cases ho : A (51, 0) k = nJ w
      · rw [if_pos ho, if_pos ho]
        cases hb : z.testBit k
        · rw [if_pos (show nJ (bif false then 1 else 0) = 0 from rfl), if_neg (show ¬ false = true by decide)]
          by_cases hu0 : u = 0
          · rw [if_pos (show nJ u = 0 by rw [hu0]; rfl), if_pos (show nJ (dm u) = 0 by rw [hu0]; rfl)]
            exact Cal.ro rfl rfl h
          by_cases hu1 : u = 1000000
          · rw [if_neg (ne_nL (b := 0) hu0 (by omega) (by decide)), if_neg (show ¬ nJ u < 1000000 by rw [hu1]; decide), if_neg (show ¬ nJ (dm u) = 0 by rw [hu1]; decide), if_neg (show ¬ nJ (dm u) < 10000 by rw [hu1]; decide)]
            exact Cal.ro rfl rfl h
          · have hu' : dm u = u := if_neg hu1
            rw [hu', if_neg (ne_nL (b := 0) hu0 (by omega) (by decide)), if_neg (ne_nL (b := 0) hu0 (by omega) (by decide)), if_pos (lt_nL (b := 1000000) (by omega) (by decide)), if_pos (lt_nL (b := 10000) (by omega) (by decide))]
            by_cases hl : v < u
            · have hv' : dm v = v := if_neg (by omega)
              rw [hv', if_pos (lt_nJ hl (by omega)), if_pos (lt_nJ hl (by omega)), if_neg (ne_nL (b := 0) hu0 (by omega) (by decide)), if_neg (ne_nL (b := 0) hu0 (by omega) (by decide))]
              exact Cal.ro rfl rfl h
            · rw [if_neg (nlt_nJ (by omega) (by omega)), if_neg (nlt_nJ (by unfold dm; split <;> omega) (by unfold dm; split <;> omega))]
              simp only [ite_self]
              exact Cal.ro rfl rfl h
        · rw [if_neg (show ¬ nJ (bif true then 1 else 0) = 0 by decide), if_pos rfl]
          exact Cal.ro rfl rfl h
      · rw [if_neg ho, if_neg ho]
        exact Cal.ro rfl rfl h
    · rw [if_pos hx, if_pos hx, if_neg hy, if_neg hy]
      exact Cal.ro rfl rfl h
  · rw [if_neg hx, if_neg hx]
    exact Cal.ro rfl rfl h
