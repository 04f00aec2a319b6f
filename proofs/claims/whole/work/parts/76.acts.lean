/-! behind what is kept; the relation behind an act -/
def KpF (I A I1 A1 : IT) : Prop := (∀ a k, a ≠ (27, 0) → ¬ (a = (7, 0) ∧ k = 9) → I1 a k = I a k) ∧ (∀ a k, a ≠ (78, 0) → ¬ (a = (43, 0) ∧ (k = 48 ∨ k = 49 ∨ k = 50)) → A1 a k = A a k)
def PaR (c m : FT) (T S N : Nat) : Prop := ∃ P, P ≤ 20 ∧ c 7 9 = nJ P ∧ m 43 48 = nJ P ∧ ∀ j, j < P → WkR (pcC c j) (pcM m j) T S N 10 ∧ DayOk (pcC c j)
theorem ofm_row {f : Nat} (h : 51 ≤ f ∧ f ≤ 56) : ∃ r ∈ pRows, r.1 = f ∧ r.2.1 = ofm f := by
  have : f = 51 ∨ f = 52 ∨ f = 53 ∨ f = 54 ∨ f = 55 ∨ f = 56 := by omega
  rcases this with rfl | rfl | rfl | rfl | rfl | rfl
  · exact ⟨(51, 5, 6), by decide, rfl, rfl⟩
  · exact ⟨(52, 11, 6), by decide, rfl, rfl⟩
  · exact ⟨(53, 17, 3), by decide, rfl, rfl⟩
  · exact ⟨(54, 20, 3), by decide, rfl, rfl⟩
  · exact ⟨(55, 23, 3), by decide, rfl, rfl⟩
  · exact ⟨(56, 26, 3), by decide, rfl, rfl⟩
/-- a row laid is the walk -/
theorem laid_wk {I I1 A A1 : IT} {T S N P : Nat} (hN : N ≤ 3) (hS : S ≤ 6) (hC : ∀ f k, inr f k → I1 (27, 0) (28 * P + ofc f + k) = I (f, 0) k) (hM : ∀ r ∈ pRows, ∀ i, i < r.2.2 → A1 (78, 0) (29 * P + r.2.1 + i) = A (r.1, 0) i) (hM5 : ∀ i, i < 5 → A1 (78, 0) (29 * P + i) = A (44, 0) (5 + i)) (h : WkR (scC I 0) (scM A) T S N 10) : WkR (pcC (scC I1 0) P) (pcM (scM A1) P) T S N 10 := by
  refine WkR_ext hN hS (fun f k h1 h2 k1 k2 k3 => ?_) (fun f k hf k1 k2 k3 => ?_) h
  · have hi : inr f k := by
      by_cases e : f = 17
      · exact Or.inl ⟨e, k1 e⟩
      · by_cases e2 : f ≤ 21
        · exact Or.inr (Or.inl ⟨by omega, e2, k2 (by omega) e2⟩)
        · exact Or.inr (Or.inr ⟨by omega, h2, k3 (by omega)⟩)
    show I1 (27, 0) (28 * P + ofc f + k) = (bif Nat.ble 7 f && Nat.ble f 27 then I (f, 0) k else 0)
    rw [hC f k hi, Nat.ble_eq_true_of_le (show 7 ≤ f by omega), Nat.ble_eq_true_of_le (show f ≤ 27 by omega)]
    rfl
  · have hf43 : Nat.beq f 43 = false := beq_f (by omega)
    rcases hf with rfl | hf
    · obtain ⟨a1, a2⟩ := k1 rfl
      show A1 (78, 0) (29 * P + (k - 5)) = A (44, 0) k
      rw [hM5 (k - 5) (by omega), show 5 + (k - 5) = k by omega]
    · obtain ⟨r, hr, e1, e2⟩ := ofm_row hf
      have hl : k < r.2.2 := by
        have hw : ∀ r ∈ pRows, (51 ≤ r.1 ∧ r.1 ≤ 52 ∧ r.2.2 = 6) ∨ (53 ≤ r.1 ∧ r.2.2 = 3) := by decide
        rcases hw r hr with ⟨b1, b2, b3⟩ | ⟨b1, b3⟩
        · rw [b3]; exact k3 (by omega) (by omega)
        · rw [b3]; exact k2 (by omega)
      have := hM r hr k hl
      rw [e1, e2] at this
      have hf44 : Nat.beq f 44 = false := beq_f (by omega)
      show (bif Nat.beq f 44 then _ else A1 (78, 0) (29 * P + ofm f + k)) = (bif Nat.beq f 43 then _ else bif (Nat.ble 44 f && Nat.ble f 60) || Nat.beq f 78 then A (f, 0) k else 0)
      rw [hf44, hf43, Nat.ble_eq_true_of_le (show 44 ≤ f by omega), Nat.ble_eq_true_of_le (show f ≤ 60 by omega)]
      exact this
theorem past_wk {c m c' m' : FT} {T S N P P' : Nat} (hN : N ≤ 3) (hS : S ≤ 6) (hC : ∀ i, i < 28 → c' 27 (28 * P' + i) = c 27 (28 * P + i)) (hM : ∀ i, i < 29 → m' 78 (29 * P' + i) = m 78 (29 * P + i)) (h : WkR (pcC c P) (pcM m P) T S N 10 ∧ DayOk (pcC c P)) : WkR (pcC c' P') (pcM m' P') T S N 10 ∧ DayOk (pcC c' P') := by
  refine ⟨WkR_ext hN hS (fun f k h1 h2 k1 k2 k3 => ?_) (fun f k hf k1 k2 k3 => ?_) h.1, ?_⟩
  · have hi : inr f k := by
      by_cases e : f = 17
      · exact Or.inl ⟨e, k1 e⟩
      · by_cases e2 : f ≤ 21
        · exact Or.inr (Or.inl ⟨by omega, e2, k2 (by omega) e2⟩)
        · exact Or.inr (Or.inr ⟨by omega, h2, k3 (by omega)⟩)
    show c' 27 (28 * P' + ofc f + k) = c 27 (28 * P + ofc f + k)
    rw [Nat.add_assoc, Nat.add_assoc]
    exact hC _ (inr_lt hi)
  · rcases hf with rfl | hf
    · obtain ⟨a1, a2⟩ := k1 rfl
      exact hM (k - 5) (by omega)
    · have hf44 : Nat.beq f 44 = false := beq_f (by omega)
      show (bif Nat.beq f 44 then _ else m' 78 (29 * P' + ofm f + k)) = (bif Nat.beq f 44 then _ else m 78 (29 * P + ofm f + k))
      rw [hf44, Nat.add_assoc, Nat.add_assoc]
      refine hM _ ?_
      have : f = 51 ∨ f = 52 ∨ f = 53 ∨ f = 54 ∨ f = 55 ∨ f = 56 := by omega
      rcases this with rfl | rfl | rfl | rfl | rfl | rfl
      · have := k3 (by decide) (by decide); show 5 + k < 29; omega
      · have := k3 (by decide) (by decide); show 11 + k < 29; omega
      · have := k2 (by decide); show 17 + k < 29; omega
      · have := k2 (by decide); show 20 + k < 29; omega
      · have := k2 (by decide); show 23 + k < 29; omega
      · have := k2 (by decide); show 26 + k < 29; omega
  · obtain ⟨z, hz, e⟩ := h.2
    exact ⟨z, hz, (hC 0 (by decide)).trans e⟩
/-- the reference's past moves down by one -/
theorem shift_go (d : Nat) (A : IT) (B : JT) (Q : Option Vl → IT → JT → Prop) (hK : ∀ A', (∀ k, k < 551 → A' (78, 0) k = A (78, 0) (k + 29)) → (∀ a k, a ≠ (78, 0) → A' a k = A a k) → Tr (bV (ev (d + 2) mMo_movesAll 0 [vR (43, 0), vI ((A' (43, 0) 48) - 1), vI 0, vU] [] (hh (up2 A' (43, 0) 48 ((A' (43, 0) 48) - 1)) B)) (fun h1 => some (none, hh (up2 (gI h1) (43, 0) 48 (((gI h1) (43, 0) 48) + 1)) (gJ h1)))) Q) :
    ∀ (j k : Nat) (Ac : IT), k + j = 580 → 29 ≤ k → (∀ i, i + 29 < k → Ac (78, 0) i = A (78, 0) (i + 29)) → (∀ i, k ≤ i + 29 → Ac (78, 0) i = A (78, 0) i) → (∀ a i, a ≠ (78, 0) → Ac a i = A a i) → Tr (ev (d + 3) mMo_keepsAct 6 [vR (43, 0), vI (nJ k)] [] (hh Ac B)) Q := by
  intro j
  induction j with
  | zero =>
    intro k Ac hk hk29 h1 h2 h3
    obtain rfl : k = 580 := by omega
    rw [eMo_keepsAct_6, if_neg (nlt_nL (b := 580) (by decide) (by decide))]
    exact hK Ac (fun i hi => h1 i (by omega)) h3
  | succ j ih =>
    intro k Ac hk hk29 h1 h2 h3
    rw [eMo_keepsAct_6, if_pos (lt_nL (b := 580) (show k < 580 by omega) (by decide)), bnd (show k < 580 by omega) (by omega), show nJ k - 29 = nJ (k - 29) from nJ_sub hk29, bnd (show k - 29 < 580 by omega) (by omega), nJ_nat (show k < 2147483648 by omega), nJ_nat (show k - 29 < 2147483648 by omega), nJ_succ]
    refine ih (k + 1) _ (by omega) (by omega) (fun i hi => ?_) (fun i hi => ?_) (fun a i ha => (up_ne _ _ _ _ ha).trans (h3 a i ha))
    · by_cases e : i = k - 29
      · rw [e, up_same, h2 k (by omega), show k - 29 + 29 = k by omega]
      · rw [up_neK _ _ e]
        exact h1 i (by omega)
    · rw [up_neK _ _ (by omega)]
      exact h2 i (by omega)
theorem keep_R2 {I A : IT} {J B : JT} {K K' : Hp → Option Rs} {Q : Option Vl → IT → JT → Option Vl → IT → JT → Prop} {T S N : Nat} (d d' : Nat) (hN : N ≤ 3) (hS : S ≤ 6) (hwk : WkR (scC I 0) (scM A) T S N 10) (hd : DayOk (scC I 0)) (hp : PaR (scC I 0) (scM A) T S N)
    (hK : ∀ I1 A1 J1 B1, KpF I A I1 A1 → PaR (scC I1 0) (scM A1) T S N → R2 (K (hh I1 J1)) (K' (hh A1 B1)) Q) :
    R2 (bV (ev (d + 1) mSc_keep 0 [vR (7, 0)] [] (hh I J)) (fun h => K h)) (bV (ev (d' + 3) mMo_keepsAct 0 [vR (43, 0), vU] [] (hh A B)) (fun h => K' h)) Q := by
  obtain ⟨P, hP, e1, e2, hpa⟩ := hp
  have e1 : I (7, 0) 9 = nJ P := e1
  have e2 : A (43, 0) 48 = nJ P := e2
  by_cases h20 : P < 20
  · have hC : Tr (ev (d + 1) mSc_keep 0 [vR (7, 0)] [] (hh I J)) (fun v I1 _ => v = none ∧ I1 (7, 0) 9 = nJ (P + 1) ∧ (∀ f k, inr f k → I1 (27, 0) (28 * P + ofc f + k) = I (f, 0) k) ∧ (∀ k, ¬ (28 * P ≤ k ∧ k < 28 * P + 28) → I1 (27, 0) k = I (27, 0) k) ∧ (∀ a k, a ≠ (27, 0) → ¬ (a = (7, 0) ∧ k = 9) → I1 a k = I a k)) := by
      rw [eSc_keep_0, e1, if_pos (lt_nL (b := 20) h20 (by decide)), show nJ P * 28 = nJ (28 * P) from (by rw [Nat.mul_comm]; exact nJ_mul P 28)]
      refine Tr.bV ((cSave d (28 * P) (by omega) I J).mono fun v I1 J1 ⟨q1, q2, q3, _⟩ => ⟨q1, Tr.ret ⟨rfl, ?_, fun f k hf => ?_, fun k hk => ?_, fun a k a1 a2 => ?_⟩⟩)
      · rw [up_same, gI_hh, q3 (7, 0) 9 (fun z => by cases z.1), e1, nJ_succ]
      · rw [up_ne _ _ _ _ (by decide)]
        exact q2 f k hf
      · rw [up_ne _ _ _ _ (by decide)]
        exact q3 (27, 0) k (fun z => hk z.2)
      · rw [up_at, if_neg a2]
        exact q3 a k (fun z => a1 z.1)
    refine R2.lV (hC.mono fun v I1 J1 ⟨q1, c1, c2, c3, c4⟩ => ⟨q1, ?_⟩)
    rw [eMo_keepsAct_0, e2, if_neg (ne_nL (b := 20) (by omega) (by omega) (by decide))]
    refine R2.rV (Tr.bV ((mLay d' P A B h20).mono fun v A1 B1 ⟨q2, m1, m2, m3, _⟩ => ⟨q2, Tr.ret ⟨rfl, ?_⟩⟩))
    rw [gI_hh, gJ_hh, m3 (43, 0) 48 (fun z => by cases z.1) (fun z => by omega), e2, nJ_succ]
    have r78 : ∀ k, up2 A1 (43, 0) 48 (nJ (P + 1)) (78, 0) k = A1 (78, 0) k := fun k => up_ne _ _ _ _ (by decide)
    refine hK I1 _ J1 B1 ⟨c4, fun a k a1 a2 => ?_⟩ ⟨P + 1, by omega, c1, show up2 A1 (43, 0) 48 (nJ (P + 1)) (43, 0) 48 = _ from up_same _ _ _ _, fun j hj => ?_⟩
    · rw [up_at, if_neg (fun z => a2 ⟨z.1, Or.inl z.2⟩)]
      exact m3 a k (fun z => a1 z.1) (fun z => a2 ⟨z.1, by omega⟩)
    · by_cases e : j = P
      · subst e
        refine ⟨laid_wk hN hS c2 (fun r hr i hi => by rw [r78]; exact m1 r hr i hi) (fun i hi => by rw [r78]; exact m2 i hi) hwk, ?_⟩
        obtain ⟨z, hz, ez⟩ := hd
        exact ⟨z, hz, (c2 17 0 (Or.inl ⟨rfl, by decide⟩)).trans ez⟩
      · refine past_wk hN hS (fun i hi => ?_) (fun i hi => ?_) (hpa j (by omega))
        · exact c3 (28 * j + i) (fun z => by omega)
        · show up2 A1 (43, 0) 48 (nJ (P + 1)) (78, 0) (29 * j + i) = A (78, 0) (29 * j + i)
          rw [r78]
          exact m3 (78, 0) _ (fun z => by omega) (fun z => by cases z.1)
  · obtain rfl : P = 20 := by omega
    have hC : Tr (ev (d + 1) mSc_keep 0 [vR (7, 0)] [] (hh I J)) (fun v I1 _ => v = none ∧ I1 (7, 0) 9 = nJ 20 ∧ (∀ f k, inr f k → I1 (27, 0) (28 * 19 + ofc f + k) = I (f, 0) k) ∧ (∀ k, k < 532 → I1 (27, 0) k = I (27, 0) (k + 28)) ∧ (∀ a k, a ≠ (27, 0) → ¬ (a = (7, 0) ∧ k = 9) → I1 a k = I a k)) := by
      rw [eSc_keep_0, e1, if_neg (nlt_nL (b := 20) (Nat.le_refl _) (by decide)), up_same, show (19 : Int32) * 28 = nJ 532 from by decide]
      refine Tr.bV ((cSave d 532 (by decide) _ J).mono fun v I1 J1 ⟨q1, q2, q3, _⟩ => ⟨q1, Tr.ret ⟨rfl, ?_, fun f k hf => ?_, fun k hk => ?_, fun a k a1 a2 => ?_⟩⟩)
      · rw [up_same, gI_hh, q3 (7, 0) 9 (fun z => by cases z.1), up_same]
        decide
      · have hf27 : ((f, 0) : Ad) ≠ (27, 0) := fun z => by
          have := (Prod.mk.inj z).1
          rcases hf with ⟨h, -⟩ | ⟨-, h, -⟩ | ⟨-, h, -⟩ <;> omega
        have hf7 : ((f, 0) : Ad) ≠ (7, 0) := fun z => by
          have := (Prod.mk.inj z).1
          rcases hf with ⟨h, -⟩ | ⟨h, -, -⟩ | ⟨h, -, -⟩ <;> omega
        rw [up_ne _ _ _ _ (by decide)]
        refine (q2 f k hf).trans ?_
        rw [up_ne _ _ _ _ hf7, cpA_ne hf27]
      · rw [up_ne _ _ _ _ (by decide), gI_hh, q3 (27, 0) k (fun z => by omega), up_ne _ _ _ _ (by decide), cpA_at, if_pos ⟨rfl, by omega, by omega⟩, Nat.sub_zero, Nat.add_comm]
      · rw [up_at, if_neg a2, gI_hh, q3 a k (fun z => a1 z.1), up_at, if_neg a2, cpA_ne a1]
    refine R2.lV (hC.mono fun v I1 J1 ⟨q1, c1, c2, c3, c4⟩ => ⟨q1, ?_⟩)
    rw [eMo_keepsAct_0, e2, if_pos (show nJ 20 = 20 from rfl)]
    refine R2.rV (shift_go d' A B _ (fun A0 s1 s2 => ?_) 551 29 A rfl (by decide) (fun i hi => by omega) (fun _ _ => rfl) (fun _ _ _ => rfl))
    rw [s2 (43, 0) 48 (by decide), e2, show nJ 20 - 1 = nJ 19 from by decide]
    refine Tr.bV ((mLay d' 19 (up2 A0 (43, 0) 48 (nJ 19)) B (by decide)).mono fun v A1 B1 ⟨q2, m1, m2, m3, _⟩ => ⟨q2, Tr.ret ⟨rfl, ?_⟩⟩)
    have e48 : A1 (43, 0) 48 = nJ 19 := (m3 (43, 0) 48 (fun z => by cases z.1) (fun z => by omega)).trans (up_same _ _ _ _)
    rw [gI_hh, gJ_hh, e48, show nJ 19 + 1 = nJ 20 from by decide]
    have r78 : ∀ k, up2 A1 (43, 0) 48 (nJ 20) (78, 0) k = A1 (78, 0) k := fun k => up_ne _ _ _ _ (by decide)
    have hA0 : ∀ a k, a ≠ (78, 0) → ¬ (a = (43, 0) ∧ k = 48) → up2 A0 (43, 0) 48 (nJ 19) a k = A a k := fun a k a1 a2 => by
      rw [up_at, if_neg a2]
      exact s2 a k a1
    refine hK I1 _ J1 B1 ⟨c4, fun a k a1 a2 => ?_⟩ ⟨20, by decide, c1, show up2 A1 (43, 0) 48 (nJ 20) (43, 0) 48 = _ from up_same _ _ _ _, fun j hj => ?_⟩
    · rw [up_at, if_neg (fun z => a2 ⟨z.1, Or.inl z.2⟩), m3 a k (fun z => a1 z.1) (fun z => a2 ⟨z.1, by omega⟩)]
      exact hA0 a k a1 (fun z => a2 ⟨z.1, Or.inl z.2⟩)
    · by_cases e : j = 19
      · subst e
        refine ⟨laid_wk hN hS c2 (fun r hr i hi => ?_) (fun i hi => ?_) hwk, ?_⟩
        · have h43 : ∀ r ∈ pRows, r.1 ≠ 43 ∧ r.1 ≠ 78 := by decide
          rw [r78, m1 r hr i hi]
          exact hA0 _ _ (fun z => (h43 r hr).2 (Prod.mk.inj z).1) (fun z => (h43 r hr).1 (Prod.mk.inj z.1).1)
        · rw [r78, m2 i hi]
          exact hA0 _ _ (by decide) (fun z => by cases z.1)
        · obtain ⟨z, hz, ez⟩ := hd
          exact ⟨z, hz, (c2 17 0 (Or.inl ⟨rfl, by decide⟩)).trans ez⟩
      · refine past_wk (P := j + 1) hN hS (fun i hi => ?_) (fun i hi => ?_) (hpa (j + 1) (by omega))
        · show I1 (27, 0) (28 * j + i) = I (27, 0) (28 * (j + 1) + i)
          rw [c3 (28 * j + i) (by omega)]
          congr 1
          omega
        · show up2 A1 (43, 0) 48 (nJ 20) (78, 0) (29 * j + i) = A (78, 0) (29 * (j + 1) + i)
          rw [r78, m3 (78, 0) _ (fun z => by omega) (fun z => by cases z.1), up_ne _ _ _ _ (by decide), s1 _ (by omega)]
          congr 1
          omega
/-- the relation behind an act -/
theorem act_Rel {I A I1 A1 I2 A2 : IT} (h : Rel I A) {T S N : Nat} (hro : RoR (scC I 0) (scM A) T S N) (hk : KpF I A I1 A1) (hp : PaR (scC I1 0) (scM A1) T S N) (h1 : FwC I1 I2 0) (h2 : FwM A1 A2) (hwk : WkR (scC I2 0) (scM A2) T S N 10) (hd : DayOk (scC I2 0)) : Rel I2 A2 ∧ FrC I I2 ∧ FrM A A2 := by
  obtain ⟨k1, k2⟩ := hk
  have hI : ∀ a k, a ≠ (27, 0) → ¬ (a = (7, 0) ∧ k = 9) → ¬ (17 ≤ a.1 ∧ a.1 ≤ 23 ∧ a.2 = 0) → I2 a k = I a k := fun a k a1 a2 a3 => by rw [h1 a a3]; exact k1 a k a1 a2
  have hA : ∀ a k, a ≠ (78, 0) → ¬ (a = (43, 0) ∧ (k = 48 ∨ k = 49 ∨ k = 50)) → ¬ wCell a k → A2 a k = A a k := fun a k a1 a2 a3 => (h2 a k a3).trans (k2 a k a1 a2)
  refine ⟨Rel.scene (fun a k ha => hI a k (fun z => ?_) (fun z => ?_) (fun z => ?_)) (fun a k ha => hA a k (fun z => ?_) (fun z => ?_) (nwc ?_)) h (fun q hru hs => ?_), fun a ha => funext fun k => hI a k (fun z => by rw [z] at ha; simp at ha) (fun z => by rw [z.1] at ha; simp at ha) (by omega), fun a ha => funext fun k => hA a k (fun z => by rw [z] at ha; simp at ha) (fun z => by rw [z.1] at ha; simp at ha) (nwc (by omega))⟩
  · rw [z] at ha
    unfold KC0 at ha
    simp at ha
  · rw [z.1] at ha
    unfold KC0 at ha
    simp at ha
  · rcases ha with ⟨e, -⟩ | ⟨e, -⟩ | e | ha | ha
    · rw [e] at z; simp at z
    · rw [e] at z; simp at z
    · rw [e] at z; simp at z
    · omega
    · omega
  · rw [z] at ha
    unfold KM0 at ha
    simp at ha
  · rw [z.1] at ha
    unfold KM0 at ha
    simp at ha
    omega
  · rcases ha with ⟨e, -⟩ | ha | ha | ha | ha
    · rw [e]; exact Or.inl (by decide)
    · omega
    · omega
    · omega
    · omega
  · obtain ⟨T', S', N', r1, -, -, h4, h5, h6, ⟨L, hL, l1, l2, l3⟩, -⟩ := hs
    have eT : T' = T ∧ S' = S ∧ N' = N := by
      have a1 := r1.2.1.2.1
      have a2 := r1.2.1.2.2.2.1
      have a3 := r1.2.1.2.2.2.2.2.1
      rw [hro.2.1.2.1, nJ_eq (by have := hro.1.1; omega) (by have := r1.1.1; omega)] at a1
      rw [hro.2.1.2.2.2.1, nJ_eq (by have := hro.1.2.1; omega) (by have := r1.1.2.1; omega)] at a2
      rw [hro.2.1.2.2.2.2.2.1, nJ_eq (by have := hro.1.2.2.1; omega) (by have := r1.1.2.2.1; omega)] at a3
      exact ⟨a1.symm, a2.symm, a3.symm⟩
    obtain ⟨rfl, rfl, rfl⟩ := eT
    have c : ∀ f k, f ≤ 26 → (f = 7 → k ≠ 9) → (f < 17 ∨ 23 < f) → scC I2 0 f k = scC I 0 f k := fun f k f1 f2 f3 => by
      unfold scC
      rw [hI (f, 0) k (fun z => by have := (Prod.mk.inj z).1; omega) (fun z => f2 (Prod.mk.inj z.1).1 z.2) (fun z => by have a1 : 17 ≤ f := z.1; have a2 : f ≤ 23 := z.2.1; omega)]
    have m : ∀ f k, f ≠ 78 → (f = 43 → k = 25) → ¬ wCell (f, 0) k → scM A2 f k = scM A f k := fun f k f1 f2 f3 => by
      unfold scM
      by_cases e : f = 43
      · subst e
        have := f2 rfl
        subst this
        show A2 (43, 0) 25 = A (43, 0) 25
        exact hA (43, 0) 25 (by decide) (fun z => by omega) f3
      · rw [beq_f e, hA (f, 0) k (fun z => f1 (Prod.mk.inj z).1) (fun z => e (Prod.mk.inj z.1).1) f3]
        rfl
    have w44 : ∀ k, k < 5 ∨ 10 ≤ k → ¬ wCell (44, 0) k := fun k hk => nwc (Or.inr (Or.inr (Or.inr ⟨rfl, hk⟩)))
    have wf : ∀ f k, (44 < f ∧ f < 51) ∨ 56 < f → ¬ wCell (f, 0) k := fun f k hf => nwc (by show f < 44 ∨ 56 < f ∨ (44 < f ∧ f < 51) ∨ _; omega)
    refine ⟨T', S', N', ?_, hwk, hd, ?_, ?_, ?_, ⟨L, hL, ?_, ?_, fun i hi => ?_⟩, ?_⟩
    · refine RoR_ext (fun f k a b => c f k (by omega) (by omega) (by omega)) (fun f k ha => m f k (by omega) (by omega) (nwc ?_)) r1
      show f < 44 ∨ 56 < f ∨ (44 < f ∧ f < 51) ∨ (f = 44 ∧ (k < 5 ∨ 10 ≤ k))
      omega
    · rw [c 8 0 (by decide) (by decide) (by decide), m 43 25 (by decide) (fun _ => rfl) (nwc (Or.inl (by decide)))]
      exact h4
    · rw [c 7 2 (by decide) (by decide) (by decide), m 44 12 (by decide) (by decide) (w44 12 (by decide))]
      exact h5
    · rw [c 7 3 (by decide) (by decide) (by decide), m 44 11 (by decide) (by decide) (w44 11 (by decide))]
      exact h6
    · rw [c 7 7 (by decide) (by decide) (by decide)]
      exact l1
    · rw [m 44 10 (by decide) (by decide) (w44 10 (by decide))]
      exact l2
    · rw [c 24 i (by decide) (by omega) (by decide), c 25 i (by decide) (by omega) (by decide), c 26 i (by decide) (by omega) (by decide), m 57 i (by decide) (by omega) (wf 57 i (by decide)), m 58 i (by decide) (by omega) (wf 58 i (by decide)), m 59 i (by decide) (by omega) (wf 59 i (by decide))]
      exact l3 i hi
    · obtain ⟨P, hP, p1, p2, p3⟩ := hp
      have e27 : ∀ k, scC I2 0 27 k = scC I1 0 27 k := fun k => by
        show I2 (27, 0) k = I1 (27, 0) k
        rw [h1 (27, 0) (by decide)]
      have e79 : scC I2 0 7 9 = scC I1 0 7 9 := by
        show I2 (7, 0) 9 = I1 (7, 0) 9
        rw [h1 (7, 0) (by decide)]
      have e78 : ∀ k, scM A2 78 k = scM A1 78 k := fun k => h2 (78, 0) k (nwc (Or.inr (Or.inl (by decide))))
      have e48 : scM A2 43 48 = scM A1 43 48 := h2 (43, 0) 48 (nwc (Or.inl (by decide)))
      refine ⟨P, hP, e79.trans p1, e48.trans p2, fun j hj => past_wk hro.1.2.2.1 hro.1.2.1 (fun i hi => e27 _) (fun i hi => e78 _) (p3 j hj)⟩
