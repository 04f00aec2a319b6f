/-! TRIALS: the class goes on with a copy, the reference with its own rows, kept ahead and laid back -/
theorem cpA_at {α : Type} (f : Ad → Nat → α) (a b : Ad) (sp dp n : Nat) (x : Ad) (k : Nat) : cpA f a b sp dp n x k = if x = a ∧ dp ≤ k ∧ k < dp + n then f b (sp + (k - dp)) else f x k := by
  unfold cpA upA va_cpy
  by_cases h : x = a
  · subst h
    rw [if_pos rfl]
    by_cases h2 : dp ≤ k ∧ k < dp + n
    · rw [if_pos h2, if_pos ⟨rfl, h2.1, h2.2⟩]
    · rw [if_neg h2, if_neg (fun q => h2 q.2)]
  · rw [if_neg h, if_neg (fun q => h q.1)]
theorem cpA_ne {α : Type} {f : Ad → Nat → α} {a b : Ad} {sp dp n : Nat} {x : Ad} {k : Nat} (h : x ≠ a) : cpA f a b sp dp n x k = f x k := by
  rw [cpA_at, if_neg (fun q => h q.1)]
theorem cpA_in {α : Type} {f : Ad → Nat → α} {a b : Ad} {n : Nat} {k : Nat} (h : k < n) : cpA f a b 0 0 n a k = f b k := by
  rw [cpA_at, if_pos ⟨rfl, by omega, by omega⟩, Nat.zero_add, Nat.sub_zero]
theorem cTrial (d : Nat) (I : IT) (J : JT) : Tr (ev d mWa_copyFrom 0 [vR (17, 5), vR (17, 0)] [] (hh I J)) (fun v I' J' => v = none ∧ ((∀ k, k < 4 → I' (17, 5) k = I (17, 0) k) ∧ (∀ f k, 18 ≤ f → f ≤ 21 → k < 3 → I' (f, 5) k = I (f, 0) k) ∧ (∀ f k, 22 ≤ f → f ≤ 23 → k < 6 → I' (f, 5) k = I (f, 0) k)) ∧ FwC I I' 5 ∧ J' = J) := by
  rw [eWa_copyFrom_0, eWa_copyFrom_4, eWa_copyFrom_8, eWa_copyFrom_12, eWa_copyFrom_16, eWa_copyFrom_24, eWa_copyFrom_32, eWa_copyFrom_40, eWa_copyFrom_48, eWa_copyFrom_56, eWa_copyFrom_64]
  refine Tr.ret ⟨rfl, ⟨fun k hk => ?_, fun f k h1 h2 hk => ?_, fun f k h1 h2 hk => ?_⟩, fun a ha => funext fun k => ?_, rfl⟩
  · have e : k = 0 ∨ k = 1 ∨ k = 2 ∨ k = 3 := by omega
    rcases e with rfl | rfl | rfl | rfl <;> simp [cpA_at, up2]
  · have e : f = 18 ∨ f = 19 ∨ f = 20 ∨ f = 21 := by omega
    rcases e with rfl | rfl | rfl | rfl <;> simp [cpA_at, up2, hk]
  · have e : f = 22 ∨ f = 23 := by omega
    rcases e with rfl | rfl <;> simp [cpA_at, up2, hk]
  · have hne : ∀ s, 17 ≤ s → s ≤ 23 → a ≠ (s, 5) := fun s h1 h2 q => ha (by rw [q]; exact ⟨h1, h2, rfl⟩)
    rw [cpA_ne (hne 23 (by decide) (by decide)), cpA_ne (hne 22 (by decide) (by decide)), cpA_ne (hne 21 (by decide) (by decide)), cpA_ne (hne 20 (by decide) (by decide)), cpA_ne (hne 19 (by decide) (by decide)), cpA_ne (hne 18 (by decide) (by decide)), up_ne _ _ _ _ (hne 17 (by decide) (by decide)), up_ne _ _ _ _ (hne 17 (by decide) (by decide)), up_ne _ _ _ _ (hne 17 (by decide) (by decide)), up_ne _ _ _ _ (hne 17 (by decide) (by decide))]
/-- the copy goes on as the reference does -/
theorem trial_wk {I I' A A' : IT} {T S N G : Nat} (hN : N ≤ 3) (hS : S ≤ 6) (hc : (∀ k, k < 4 → I' (17, 5) k = I (17, 0) k) ∧ (∀ f k, 18 ≤ f → f ≤ 21 → k < 3 → I' (f, 5) k = I (f, 0) k) ∧ (∀ f k, 22 ≤ f → f ≤ 23 → k < 6 → I' (f, 5) k = I (f, 0) k)) (hm : ∀ a k, wCell a k → A' a k = A a k) (h : WkR (scC I 0) (scM A) T S N G) : WkR (scC I' 5) (scM A') T S N G := by
  refine WkR_ext hN hS (fun f k h1 h2 k1 k2 k3 => ?_) (fun f k hf k1 k2 k3 => ?_) h
  · show (bif Nat.ble 7 f && Nat.ble f 27 then I' (f, 5) k else 0) = (bif Nat.ble 7 f && Nat.ble f 27 then I (f, 0) k else 0)
    have e : I' (f, 5) k = I (f, 0) k := by
      by_cases e17 : f = 17
      · subst e17; exact hc.1 k (k1 rfl)
      · by_cases e21 : f ≤ 21
        · exact hc.2.1 f k (by omega) e21 (k2 (by omega) e21)
        · exact hc.2.2 f k (by omega) h2 (k3 (by omega))
    rw [e]
  · have hw : wCell (f, 0) k := by
      rcases hf with rfl | ⟨f1, f2⟩
      · exact Or.inl ⟨rfl, k1 rfl⟩
      · by_cases e : f ≤ 52
        · refine Or.inr (Or.inl ⟨?_, k3 f1 e⟩)
          have : f = 51 ∨ f = 52 := by omega
          rcases this with rfl | rfl
          · exact Or.inl rfl
          · exact Or.inr rfl
        · exact Or.inr (Or.inr ⟨⟨by show 53 ≤ f; omega, f2, rfl⟩, k2 (by omega)⟩)
    show scM A' f k = scM A f k
    have hf43 : Nat.beq f 43 = false := beq_f (by omega)
    unfold scM
    rw [hf43, hm (f, 0) k hw]
    rfl
/-- the rule in force -/
theorem cForce {I A : IT} {q : Nat} (hr : RusR I A q) (hf : I (7, 0) 2 = A (44, 0) 12 ∧ (I (7, 0) 2 = -1 ∨ ∃ r, r < q ∧ I (7, 0) 2 = nJ r)) : ∃ rl, RlR I A rl ∧ (rl = vN ∨ ∃ a, rl = vR a) ∧ ∀ d J, ev (d + 1) mPx_ruleInForce 0 [vR (0, 0)] [] (hh I J) = some (some rl, hh I J) := by
  obtain ⟨hq, e1, -, -, hru⟩ := hr
  obtain ⟨ef, h | ⟨r, hrq, er⟩⟩ := hf
  · refine ⟨vN, Or.inl ⟨rfl, ef ▸ h⟩, Or.inl rfl, fun d J => ?_⟩
    rw [ePx_ruleInForce_0, ePx_ruleAt_0, h, if_pos (by decide)]
    rfl
  · refine ⟨vR (37, r), Or.inr ⟨r, by omega, rfl, ef ▸ er, hru r hrq⟩, Or.inr ⟨_, rfl⟩, fun d J => ?_⟩
    rw [ePx_ruleInForce_0, ePx_ruleAt_0, er, if_neg (nJ_nn (by omega)), e1, if_pos (lt_nJ hrq (by omega)), bnd (show r < 6 by omega) (by omega), nJ_nat (by omega), if_pos (show r < 6 by omega)]
    rfl
def GonQ (I A : IT) (T S N D : Nat) : Option Vl → IT → JT → Option Vl → IT → JT → Prop := fun v I' _ v' A' _ => v = none ∧ v' = none ∧ WkR (scC I' 5) (scM A') T S N 10 ∧ I' (17, 5) 0 = nJ D ∧ FwC I I' 5 ∧ FwM A A'
theorem WkR.up10 {c m : FT} {T S N : Nat} (h : WkR c m T S N 10) : WkR c m T S N 11 := h.G fun w hw => by
  obtain ⟨t, ht, e⟩ := (h.2.2.2.2.2.1 w hw).2.1.2
  exact ⟨t, by omega, e⟩
theorem go_go (d d' m T S N : Nat) (rl : Vl) (hrl0 : rl = vN ∨ ∃ a, rl = vR a) (hm : m < 1000) : ∀ (j i D : Nat) (I A : IT) (J B : JT), i + j = m → D + j < 2000 → RoR (scC I 0) (scM A) T S N → WkR (scC I 5) (scM A) T S N 10 → I (17, 5) 0 = nJ D → RlR I A rl →
    R2 (ev (d + 5) mPx_goOn 5 [vR (0, 0), vI (nJ m), rl, vI (nJ i)] [] (hh I J)) (ev (d' + 7) mMo_goFor 2 [vR (43, 0), vI (nJ m), vI (nJ i)] [] (hh A B)) (GonQ I A T S N (D + j)) := by
  intro j
  induction j with
  | zero =>
    intro i D I A J B hi hD hro hwk eD hrl
    obtain rfl : i = m := by omega
    rw [eMo_goFor_2, if_neg (nlt_nJ (Nat.le_refl i) (by omega))]
    rcases hrl0 with rfl | ⟨a, rfl⟩
    · rw [ePx_goOn_5N, if_neg (nlt_nJ (Nat.le_refl i) (by omega))]
      exact R2.ret ⟨rfl, rfl, hwk, eD, FwC.rf I 5, FwM.rf A⟩
    · rw [ePx_goOn_5, if_neg (nlt_nJ (Nat.le_refl i) (by omega))]
      exact R2.ret ⟨rfl, rfl, hwk, eD, FwC.rf I 5, FwM.rf A⟩
  | succ j ih =>
    intro i D I A J B hi hD hro hwk eD hrl
    have hp := pass_goes d d' 5 T S N D rl I A J B (by omega) hro hwk.up10 eD hrl
    have hk : ∀ v I1 J1 v' A1 B1, PsQ I A 5 T S N D v I1 J1 v' A1 B1 → ∃ x x', v = some (vI x) ∧ v' = some (vI x') ∧ R2 (ev (d + 5) mPx_goOn 5 [vR (0, 0), vI (nJ m), rl, vI (nJ (i + 1))] [] (hh I1 J1)) (ev (d' + 7) mMo_goFor 2 [vR (43, 0), vI (nJ m), vI (nJ (i + 1))] [] (hh A1 B1)) (GonQ I A T S N (D + (j + 1))) := by
      intro v I1 J1 v' A1 B1 ⟨⟨x, q1, q2⟩, q3, q4, q5, q6⟩
      refine ⟨x, x, q1, q2, (ih (i + 1) (D + 1) I1 A1 J1 B1 (by omega) (by omega) (FwC.ro q5 q6 hro) q3 q4 (RlR.fw q5 q6 hrl)).mono fun v I2 J2 v' A2 B2 ⟨p1, p2, p3, p4, p5, p6⟩ => ⟨p1, p2, p3, ?_, q5.tr p5, q6.tr p6⟩⟩
      rw [p4]
      congr 1
      omega
    rw [eMo_goFor_2, if_pos (lt_nJ (show i < m by omega) (by omega)), nJ_succ]
    rcases hrl0 with rfl | ⟨a, rfl⟩
    · rw [ePx_goOn_5N, if_pos (lt_nJ (show i < m by omega) (by omega)), nJ_succ]
      exact R2.bII (hp.mono hk)
    · rw [ePx_goOn_5, if_pos (lt_nJ (show i < m by omega) (by omega)), nJ_succ]
      exact R2.bII (hp.mono hk)
theorem go_R2 (d d' m T S N D q : Nat) (I A : IT) (J B : JT) (hm : m < 1000) (hD : D + m < 2000) (hr : RusR I A q) (hf : I (7, 0) 2 = A (44, 0) 12 ∧ (I (7, 0) 2 = -1 ∨ ∃ r, r < q ∧ I (7, 0) 2 = nJ r)) (hro : RoR (scC I 0) (scM A) T S N) (hwk : WkR (scC I 5) (scM A) T S N 10) (eD : I (17, 5) 0 = nJ D) :
    R2 (ev (d + 5) mPx_goOn 0 [vR (0, 0), vI (nJ m), vU, vU] [] (hh I J)) (ev (d' + 7) mMo_goFor 0 [vR (43, 0), vI (nJ m), vU] [] (hh A B)) (GonQ I A T S N (D + m)) := by
  obtain ⟨rl, h1, h2, h3⟩ := cForce hr hf
  have h := go_go d d' m T S N rl h2 hm m 0 D I A J B (by omega) hD hro hwk eD h1
  rw [ePx_goOn_0, eMo_goFor_0, h3]
  rcases h2 with rfl | ⟨a, rfl⟩
  · exact h
  · exact h
/-- all as it was, once the rows are laid back -/
theorem wRow_of {a : Ad} {i : Nat} (h : wCell a i ∨ (a = (44, 0) ∧ i < 13)) : ∃ r ∈ wRows, a = (r.1, 0) ∧ i < r.2.2 := by
  rcases h with (⟨e, h1, h2⟩ | ⟨e | e, h1⟩ | ⟨⟨h1, h2, h3⟩, h4⟩) | ⟨e, h1⟩
  · exact ⟨(44, 0, 13), by decide, e, by show i < 13; omega⟩
  · exact ⟨(51, 13, 6), by decide, e, h1⟩
  · exact ⟨(52, 19, 6), by decide, e, h1⟩
  · obtain ⟨s, n⟩ := a
    have h3 : n = 0 := h3
    subst h3
    have : s = 53 ∨ s = 54 ∨ s = 55 ∨ s = 56 := by
      have h1 : 53 ≤ s := h1
      have h2 : s ≤ 56 := h2
      omega
    rcases this with rfl | rfl | rfl | rfl
    · exact ⟨(53, 25, 3), by decide, rfl, h4⟩
    · exact ⟨(54, 28, 3), by decide, rfl, h4⟩
    · exact ⟨(55, 31, 3), by decide, rfl, h4⟩
    · exact ⟨(56, 34, 3), by decide, rfl, h4⟩
  · exact ⟨(44, 0, 13), by decide, e, h1⟩
/-- a row that is kept, whatever has happened to the walk and to the scalars since -/
theorem laid {A0 A1 A2 A3 : IT} (hk : Kpt A0 A1) (h1 : ∀ a i, ¬ (a = (87, 0) ∧ 3400 ≤ i) → ¬ (a = (43, 0) ∧ (i = 61 ∨ i = 62)) → A1 a i = A0 a i) (h2 : ∀ a i, ¬ wCell a i → ¬ (a = (44, 0) ∧ i < 13) → A2 a i = A1 a i)
    (h3 : ∀ r ∈ wRows, ∀ i, i < r.2.2 → A3 (r.1, 0) i = A2 (87, 0) (3400 + r.2.1 + i)) (h4 : ∀ a i, (∀ r ∈ wRows, ¬ (a = (r.1, 0) ∧ i < r.2.2)) → ¬ (a = (43, 0) ∧ (i = 61 ∨ i = 62)) → A3 a i = A2 a i) :
    (∀ a i, ¬ (a = (87, 0) ∧ 3400 ≤ i) → ¬ (a = (43, 0) ∧ (i = 61 ∨ i = 62)) → A3 a i = A0 a i) ∧ Kpt A0 A3 := by
  have h87 : ∀ i, A3 (87, 0) i = A1 (87, 0) i := fun i => by
    rw [h4 (87, 0) i (fun r hr q => ?_) (fun q => by cases q.1), h2 (87, 0) i (nwc (Or.inr (Or.inl (by decide)))) (fun q => by cases q.1)]
    have : ∀ r ∈ wRows, r.1 ≠ 87 := by decide
    exact this r hr (Prod.mk.inj q.1).1.symm
  refine ⟨fun a i a1 a2 => ?_, fun r hr i hi => (h87 _).trans (hk r hr i hi)⟩
  by_cases hc : wCell a i ∨ (a = (44, 0) ∧ i < 13)
  · obtain ⟨r, hr, e, hi⟩ := wRow_of hc
    rw [e, h3 r hr i hi, h2 (87, 0) _ (nwc (Or.inr (Or.inl (by decide)))) (fun q => by cases q.1)]
    exact hk r hr i hi
  · rw [h4 a i (fun r hr q => hc ?_) a2, h2 a i (fun q => hc (Or.inl q)) (fun q => hc (Or.inr q))]
    · exact h1 a i a1 a2
    · have hw : ∀ r ∈ wRows, (r.1 = 44 ∧ r.2.2 = 13) ∨ ((r.1 = 51 ∨ r.1 = 52) ∧ r.2.2 = 6) ∨ (53 ≤ r.1 ∧ r.1 ≤ 56 ∧ r.2.2 = 3) := by decide
      obtain ⟨q1, q2⟩ := q
      subst q1
      rcases hw r hr with ⟨e1, e2⟩ | ⟨e1 | e1, e2⟩ | ⟨e1, e2, e3⟩
      · exact Or.inr ⟨by rw [e1], by omega⟩
      · exact Or.inl (Or.inr (Or.inl ⟨Or.inl (by rw [e1]), by omega⟩))
      · exact Or.inl (Or.inr (Or.inl ⟨Or.inr (by rw [e1]), by omega⟩))
      · exact Or.inl (Or.inr (Or.inr ⟨⟨e1, e2, rfl⟩, by omega⟩))
/-- behind a trial all is as it was -/
theorem Rel.trial {I I' A A' : IT} (h : Rel I A) (hI : ∀ a, ¬ (17 ≤ a.1 ∧ a.1 ≤ 23 ∧ a.2 = 5) → a.1 ≠ 36 → I' a = I a) (hA : ∀ a i, ¬ (a = (87, 0) ∧ 3400 ≤ i) → ¬ (a = (43, 0) ∧ (i = 61 ∨ i = 62)) → a.1 ≠ 85 → a.1 ≠ 86 → A' a i = A a i) : Rel I' A' ∧ FrC I I' ∧ FrM A A' := by
  refine ⟨Rel_ext (fun a k ha => ?_) (fun a k ha => ?_) h, fun a ha => hI a (by omega) (by omega), fun a ha => funext fun k => hA a k (fun q => ?_) (fun q => ?_) (by omega) (by omega)⟩
  · rw [hI a (fun q => ?_) (fun q => ?_)]
    · rcases ha with ⟨e, -⟩ | ⟨e, -⟩ | e | ha | ha
      · rw [e] at q; simp at q
      · rw [e] at q; simp at q
      · rw [e] at q; simp at q
      · omega
      · omega
    · rcases ha with ⟨e, -⟩ | ⟨e, -⟩ | e | ha | ha
      · rw [e] at q; simp at q
      · rw [e] at q; simp at q
      · rw [e] at q; simp at q
      · omega
      · omega
  · refine hA a k (fun q => ?_) (fun q => ?_) (fun q => ?_) (fun q => ?_)
    · obtain ⟨e, hk⟩ := q
      subst e
      rcases ha with ⟨e, -⟩ | ha | ha | ha | ha | ha | ha
      · cases e
      · simp at ha
      · simp at ha
      · simp at ha
      · omega
      · simp at ha
      · simp at ha
    · obtain ⟨e, hk⟩ := q
      subst e
      rcases ha with ⟨e, hk'⟩ | ha | ha | ha | ha | ha | ha
      · omega
      · simp at ha
      · simp at ha
      · simp at ha
      · simp at ha
      · simp at ha
      · simp at ha
    · rcases ha with ⟨e, -⟩ | ha | ha | ha | ha | ha | ha
      · rw [e] at q; simp at q
      · omega
      · omega
      · omega
      · omega
      · omega
      · omega
    · rcases ha with ⟨e, -⟩ | ha | ha | ha | ha | ha | ha
      · rw [e] at q; simp at q
      · omega
      · omega
      · omega
      · omega
      · omega
      · omega
  · rw [q.1] at ha; simp at ha
  · rw [q.1] at ha; simp at ha
