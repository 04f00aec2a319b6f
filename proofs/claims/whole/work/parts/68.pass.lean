/-! A DAY: both sides, side by side -/
theorem up_id {α : Type} {f : Ad → Nat → α} {a : Ad} {k : Nat} {x : α} (h : x = f a k) : up2 f a k x = f := by
  funext b j
  unfold up2
  split
  · rename_i q
    rw [q.1, q.2, h]
  · rfl
/-- only a walk of the class has changed -/
def FwC (I I' : IT) (n : Nat) : Prop := ∀ a : Ad, ¬ (17 ≤ a.1 ∧ a.1 ≤ 23 ∧ a.2 = n) → I' a = I a
/-- only the walk of the reference has changed -/
def wCell (a : Ad) (k : Nat) : Prop := (a = (44, 0) ∧ 5 ≤ k ∧ k < 10) ∨ ((a = (51, 0) ∨ a = (52, 0)) ∧ k < 6) ∨ ((53 ≤ a.1 ∧ a.1 ≤ 56 ∧ a.2 = 0) ∧ k < 3)
theorem nwc {a : Ad} {k : Nat} (h : a.1 < 44 ∨ 56 < a.1 ∨ (44 < a.1 ∧ a.1 < 51) ∨ (a.1 = 44 ∧ (k < 5 ∨ 10 ≤ k))) : ¬ wCell a k := by
  rintro (⟨e, h1, h2⟩ | ⟨e | e, h1⟩ | ⟨⟨h1, h2, h3⟩, h4⟩)
  · subst e
    simp at h
    omega
  · subst e
    simp at h
  · subst e
    simp at h
  · omega
def FwM (A A' : IT) : Prop := ∀ (a : Ad) (k : Nat), ¬ wCell a k → A' a k = A a k
theorem FwC.rf (I : IT) (n : Nat) : FwC I I n := fun _ _ => rfl
theorem FwM.rf (A : IT) : FwM A A := fun _ _ _ => rfl
theorem FwC.tr {I I' I'' : IT} {n : Nat} (h : FwC I I' n) (h' : FwC I' I'' n) : FwC I I'' n := fun a ha => (h' a ha).trans (h a ha)
theorem FwM.tr {I I' I'' : IT} (h : FwM I I') (h' : FwM I' I'') : FwM I I'' := fun a k h1 => (h' a k h1).trans (h a k h1)
theorem FwC.up {I : IT} {n s k : Nat} {x : Int32} (h : 17 ≤ s ∧ s ≤ 23) : FwC I (up2 I (s, n) k x) n := fun a ha => funext fun j => up_ne _ _ _ _ fun e => ha (by rw [e]; exact ⟨h.1, h.2, rfl⟩)
theorem FwM.upw {A : IT} {s k : Nat} {x : Int32} (h : 53 ≤ s ∧ s ≤ 56) (hk : k < 3) : FwM A (up2 A (s, 0) k x) := fun a j h2 => if_neg fun e => h2 (by rw [e.1, e.2]; exact Or.inr (Or.inr ⟨⟨h.1, h.2, rfl⟩, hk⟩))
theorem RoR_ext {c m c' m' : FT} {T S N : Nat} (hc : ∀ f k, 8 ≤ f → f ≤ 16 → c' f k = c f k) (hm : ∀ f k, (f = 44 ∧ k < 5) ∨ (45 ≤ f ∧ f ≤ 50) ∨ f = 60 → m' f k = m f k) (h : RoR c m T S N) : RoR c' m' T S N := by
  have e : ∀ f, 8 ≤ f → f ≤ 16 → c' f = c f := fun f h1 h2 => funext fun k => hc f k h1 h2
  have g : ∀ f, (45 ≤ f ∧ f ≤ 50) ∨ f = 60 → m' f = m f := fun f h1 => funext fun k => hm f k (Or.inr h1)
  have g4 : ∀ k, k < 5 → m' 44 k = m 44 k := fun k hk => hm 44 k (Or.inl ⟨rfl, hk⟩)
  unfold RoR MpR dyC dst at h ⊢
  rw [e 8 (by decide) (by decide), e 9 (by decide) (by decide), e 10 (by decide) (by decide), e 11 (by decide) (by decide), e 12 (by decide) (by decide), e 13 (by decide) (by decide), e 14 (by decide) (by decide), e 15 (by decide) (by decide), e 16 (by decide) (by decide), g 45 (by decide), g 46 (by decide), g 47 (by decide), g 48 (by decide), g 49 (by decide), g 50 (by decide), g 60 (by decide), g4 0 (by decide), g4 1 (by decide), g4 2 (by decide), g4 3 (by decide), g4 4 (by decide)]
  exact h
theorem FwC.ro {I I' A A' : IT} {n T S N : Nat} (h1 : FwC I I' n) (h2 : FwM A A') (h : RoR (scC I 0) (scM A) T S N) : RoR (scC I' 0) (scM A') T S N := by
  refine RoR_ext (fun f k a b => ?_) (fun f k ha => ?_) h
  · unfold scC
    rw [h1 (f, 0) (fun q => by have : 17 ≤ f := q.1; omega)]
  · have e1 : A' (f, 0) k = A (f, 0) k := h2 (f, 0) k (nwc (by show f < 44 ∨ 56 < f ∨ (44 < f ∧ f < 51) ∨ (f = 44 ∧ (k < 5 ∨ 10 ≤ k)); omega))
    have e2 : A' (43, 0) k = A (43, 0) k := h2 (43, 0) k (nwc (Or.inl (by decide)))
    unfold scM
    rw [e1, e2]
theorem FwC.ru {I I' A A' : IT} {n r : Nat} (h1 : FwC I I' n) (h2 : FwM A A') (h : RuR I A r) : RuR I' A' r := RuR_ext (fun a k a1 a2 _ => by rw [h1 a (by omega)]) (fun a k a1 a2 => h2 a k (nwc (by omega))) h
theorem seal_rel {n w u D z p q S T N G : Nat} {I A I' A' : IT} (hw : w < N) (hS : S ≤ 6) (hz : z < 64) (hp : p < 64) (hq : q < 10000) (hwk : WkR (scC I n) (scM A) T S N G) (hC : SpI I I' n w u D z p q S) (hM : SpM I A A' n w u D z p q S S) : WkR (scC I' n) (scM A') T S N G := by
  obtain ⟨h1, h2, h3, h4, h5, h6, h7, h8⟩ := hwk
  obtain ⟨i1, i2, i3, i4, i5⟩ := hC
  obtain ⟨j1, j2, j3, j4, j5⟩ := hM
  have c : ∀ s k, s ≠ 22 → s ≠ 20 → s ≠ 17 → I' (s, n) k = I (s, n) k := fun s k a1 a2 a3 => i5 (s, n) k (fun q => a3 (Prod.mk.inj q.1).1) (fun q => a2 (Prod.mk.inj q.1).1) (fun q => a1 (Prod.mk.inj q).1)
  have m : ∀ s k, s ≠ 51 → s ≠ 55 → s ≠ 44 → A' (s, 0) k = A (s, 0) k := fun s k a1 a2 a3 => j5 (s, 0) k (fun q => a3 (Prod.mk.inj q.1).1) (fun q => a2 (Prod.mk.inj q.1).1) (fun q => a1 (Prod.mk.inj q).1)
  have c17 : ∀ k, k ≠ 1 → k ≠ 2 → I' (17, n) k = I (17, n) k := fun k a1 a2 => i5 (17, n) k (fun q => by omega) (fun q => by cases q.1) (fun q => by cases q)
  have m44 : ∀ k, k ≠ 6 → k ≠ 7 → A' (44, 0) k = A (44, 0) k := fun k a1 a2 => j5 (44, 0) k (fun q => by omega) (fun q => by cases q.1) (fun q => by cases q)
  refine ⟨?_, ⟨_, slF_lt hz S hS, i1, j1⟩, ⟨_, slF_lt hp S hS, i2, j2⟩, ?_, ?_, fun v hv => ⟨?_, ?_, ?_, ?_⟩, fun k hk => ⟨?_, ?_⟩, fun k hk1 hk2 => ?_⟩
  · show I' (17, n) 0 = A' (44, 0) 5
    rw [c17 0 (by decide) (by decide), m44 5 (by decide) (by decide)]
    exact h1
  · show ∃ z, z < 64 ∧ I' (17, n) 3 = nJ z ∧ A' (44, 0) 8 = nJ z
    rw [c17 3 (by decide) (by decide), m44 8 (by decide) (by decide)]
    exact h4
  · show ∃ z, z < 64 ∧ A' (44, 0) 9 = nJ z ∧ ∀ k, k < S → (z.testBit k = true ↔ I' (23, n) k ≠ -1)
    rw [m44 9 (by decide) (by decide), show I' (23, n) = I (23, n) from funext fun k => c 23 k (by decide) (by decide) (by decide)]
    exact h5
  · show I' (18, n) v = A' (53, 0) v ∧ ∃ t, t < T ∧ I' (18, n) v = nJ t
    rw [c 18 v (by decide) (by decide) (by decide), m 53 v (by decide) (by decide) (by decide)]
    exact (h6 v hv).1
  · show I' (19, n) v = A' (54, 0) v ∧ ∃ t, t < G ∧ I' (19, n) v = nJ t
    rw [c 19 v (by decide) (by decide) (by decide), m 54 v (by decide) (by decide) (by decide)]
    exact (h6 v hv).2.1
  · show I' (20, n) v = A' (55, 0) v ∧ ∃ t, t < 10000 ∧ I' (20, n) v = nJ t
    by_cases e : v = w
    · subst e
      rw [i3, j3]
      exact ⟨rfl, _, psF_lt hq S, rfl⟩
    · rw [i5 (20, n) v (fun q => by cases q.1) (fun q => e q.2) (fun q => by cases q), j5 (55, 0) v (fun q => by cases q.1) (fun q => e q.2) (fun q => by cases q)]
      exact (h6 v hv).2.2.1
  · show I' (21, n) v = A' (56, 0) v
    rw [c 21 v (by decide) (by decide) (by decide), m 56 v (by decide) (by decide) (by decide)]
    exact (h6 v hv).2.2.2
  · show I' (22, n) k = A' (51, 0) k ∧ (I' (22, n) k = -1 ∨ ∃ w, w < N ∧ I' (22, n) k = nJ w)
    rw [i4, j4, show I (22, n) k = A (51, 0) k from (h7 k hk).1.1]
    refine ⟨rfl, ?_⟩
    cases (Nat.blt k S && pyS I n w u D z k)
    · have := (h7 k hk).1.2
      rw [show scC I n 22 k = A (51, 0) k from (h7 k hk).1.1] at this
      exact this
    · exact Or.inl rfl
  · show I' (23, n) k = A' (52, 0) k ∧ (I' (23, n) k = -1 ∨ ∃ w, w < N ∧ I' (23, n) k = nJ w)
    rw [c 23 k (by decide) (by decide) (by decide), m 52 k (by decide) (by decide) (by decide)]
    exact (h7 k hk).2
  · show I' (22, n) k = -1
    rw [i4, blt_f hk1]
    exact h8 k hk1 hk2
theorem in17 {s n : Nat} (h : 17 ≤ s ∧ s ≤ 23) : 17 ≤ ((s, n) : Ad).1 ∧ ((s, n) : Ad).1 ≤ 23 ∧ ((s, n) : Ad).2 = n := ⟨h.1, h.2, rfl⟩
theorem SpI.fw {n w u D z p q S : Nat} {I I' : IT} (h : SpI I I' n w u D z p q S) : FwC I I' n := fun a ha => funext fun k => h.2.2.2.2 a k (fun q => ha (by rw [q.1]; exact in17 (by decide))) (fun q => ha (by rw [q.1]; exact in17 (by decide))) (fun q => ha (by rw [q]; exact in17 (by decide)))
theorem SpM.fw {n w u D z p q S : Nat} {I A A' : IT} (hw : w < 3) (hS : S ≤ 6) (h : SpM I A A' n w u D z p q S S) : FwM A A' := fun a k h1 => by
  by_cases e : a = (51, 0)
  · subst e
    have hk : 6 ≤ k := Nat.le_of_not_lt fun q => h1 (Or.inr (Or.inl ⟨Or.inl rfl, q⟩))
    rw [h.2.2.2.1 k, blt_f (by omega)]
    rfl
  · exact h.2.2.2.2 a k (fun q => h1 (Or.inl ⟨q.1, by omega, by omega⟩)) (fun q => h1 (by rw [q.1, q.2]; exact Or.inr (Or.inr ⟨⟨by decide, by decide, rfl⟩, hw⟩))) e
/-- what is so behind one walker's day -/
def Stq (I A I' A' : IT) (n w c c' T S N D : Nat) : Prop :=
  WkR (scC I' n) (scM A') T S N 11 ∧ (∃ g, g < 10 ∧ I' (19, n) w = nJ g) ∧ (∀ v, v ≠ w → I' (19, n) v = I (19, n) v) ∧ I' (17, n) 0 = nJ D ∧ FwC I I' n ∧ FwM A A' ∧ (∀ z, z < 64 → I (17, n) 1 = nJ z → ∃ z', z' < 64 ∧ I' (17, n) 1 = nJ z' ∧ pop8 z' + c = pop8 z + c') ∧ c' ≤ c + 6
theorem seal_R2 {n w c T S N D d d' : Nat} {I A : IT} {J B : JT} {K : Hp → Option Rs} {K' : Int32 → Hp → Option Rs} {Q : Option Vl → IT → JT → Option Vl → IT → JT → Prop} (hro : RoR (scC I 0) (scM A) T S N) (hwk : WkR (scC I n) (scM A) T S N 11) (hw : w < N) (eD : I (17, n) 0 = nJ D) (hD : D < 2000) (h0 : I (19, n) w = 0)
    (hK : ∀ I' A' J' B' c', Stq I A I' A' n w c c' T S N D → R2 (K (hh I' J')) (K' (nJ c') (hh A' B')) Q) :
    R2 (bV (ev d mWa_sealAndPay 0 [vR (17, n), vR (8, 0), vI (nJ w), vU, vU] [] (hh I J)) (fun h => K (hh (gI h) (gJ h)))) (bI (ev (d' + 1) mMo_sealsAll 0 [vR (43, 0), vI (nJ w), vU, vU] [] (hh A B)) (fun r h => K' (nJ c + r) (hh (gI h) (gJ h)))) Q := by
  obtain ⟨⟨hT, hS, hN, -⟩, ⟨-, -, -, e3, -⟩, -, -, hse, -⟩ := id hro
  obtain ⟨-, ⟨z, hz, cz, mz⟩, ⟨p, hp, cp, mp⟩, -, -, h6, -⟩ := id hwk
  obtain ⟨⟨-, u, hu, eu⟩, -, ⟨mq, q, hq, cq⟩, -⟩ := h6 w hw
  have mq : A (55, 0) w = nJ q := (show I (20, n) w = A (55, 0) w from mq).symm.trans cq
  have hn : cn (fun k => okS I n w u D k && !z.testBit k) S ≤ 6 := Nat.le_trans (cn_le _ S) hS
  refine R2.lV ((cSeal d n w u D z p q S T N I J hS (by omega) hz hp hq hD hu hT e3 eu eD cz cp cq (fun k hk => (hse k hk).2.1.2) (fun k hk => (hse k hk).2.2.2)).mono fun v I' J' ⟨q1, hC, _⟩ => ⟨q1, ?_⟩)
  refine R2.rI ((mSeal d' n w u D z p q S T N 11 I A B hro hwk hw hz hp hq hu eu eD hD mz mp mq).mono fun v A' B' ⟨q2, hM, _⟩ => ⟨_, q2, ?_⟩)
  rw [nJ_add]
  refine hK I' A' J' B' _ ⟨seal_rel hw hS hz hp hq hwk hC hM, ⟨0, by decide, ?_⟩, fun v hv => ?_, ?_, hC.fw, hM.fw (by omega) hS, fun z' hz' ez' => ?_, by omega⟩
  · rw [hC.2.2.2.2 (19, n) w (fun q => by cases q.1) (fun q => by cases q.1) (fun q => by cases q)]
    exact h0
  · exact hC.2.2.2.2 (19, n) v (fun q => by cases q.1) (fun q => by cases q.1) (fun q => by cases q)
  · rw [hC.2.2.2.2 (17, n) 0 (fun q => by omega) (fun q => by cases q.1) (fun q => by cases q)]
    exact eD
  · have : z' = z := by
      rw [show I (17, n) 1 = nJ z from cz, nJ_eq (by omega) (by omega)] at ez'
      exact ez'.symm
    subst this
    refine ⟨_, slF_lt hz S hS, hC.1, ?_⟩
    rw [pop_sl hz hS]
    omega
/-- what is left of a walker's day once it is set out -/
noncomputable def tailC (d n w : Nat) (K : Hp → Option Rs) (I : IT) (J : JT) : Option Rs :=
  if (0 : Int32) < I (19, n) w then (if up2 I (19, n) w (I (19, n) w - 1) (19, n) w = 0 then bV (ev d mWa_sealAndPay 0 [vR (17, n), vR (8, 0), vI (nJ w), vU, vU] [] (hh (up2 I (19, n) w (I (19, n) w - 1)) J)) (fun h => K (hh (gI h) (gJ h))) else K (hh (up2 I (19, n) w (I (19, n) w - 1)) J))
  else if I (19, n) w = 0 then bV (ev d mWa_sealAndPay 0 [vR (17, n), vR (8, 0), vI (nJ w), vU, vU] [] (hh I J)) (fun h => K (hh (gI h) (gJ h))) else K (hh I J)
noncomputable def tailM (d w : Nat) (c : Int32) (K : Int32 → Hp → Option Rs) (A : IT) (B : JT) : Option Rs :=
  if (0 : Int32) < A (54, 0) w then (if up2 A (54, 0) w (A (54, 0) w - 1) (54, 0) w = 0 then bI (ev d mMo_sealsAll 0 [vR (43, 0), vI (nJ w), vU, vU] [] (hh (up2 A (54, 0) w (A (54, 0) w - 1)) B)) (fun r h => K (c + r) (hh (gI h) (gJ h))) else K (c + 0) (hh (up2 A (54, 0) w (A (54, 0) w - 1)) B))
  else if up2 A (54, 0) w (A (54, 0) w - 0) (54, 0) w = 0 then bI (ev d mMo_sealsAll 0 [vR (43, 0), vI (nJ w), vU, vU] [] (hh (up2 A (54, 0) w (A (54, 0) w - 0)) B)) (fun r h => K (c + r) (hh (gI h) (gJ h))) else K (c + 0) (hh (up2 A (54, 0) w (A (54, 0) w - 0)) B)
theorem Stq.tr {I A I' A' I'' A'' : IT} {n w c c' T S N D : Nat} (h1 : FwC I I' n) (h2 : FwM A A') (h3 : ∀ v, v ≠ w → I' (19, n) v = I (19, n) v) (h4 : I' (17, n) 1 = I (17, n) 1) (h : Stq I' A' I'' A'' n w c c' T S N D) : Stq I A I'' A'' n w c c' T S N D := by
  obtain ⟨a1, a2, a3, a4, a5, a6, a7, a8⟩ := h
  exact ⟨a1, a2, fun v hv => (a3 v hv).trans (h3 v hv), a4, h1.tr a5, h2.tr a6, fun z hz e => a7 z hz (h4.trans e), a8⟩
theorem tail_R2 {n w c T S N D d d' : Nat} {I A : IT} {J B : JT} {K : Hp → Option Rs} {K' : Int32 → Hp → Option Rs} {Q : Option Vl → IT → JT → Option Vl → IT → JT → Prop} (hro : RoR (scC I 0) (scM A) T S N) (hwk : WkR (scC I n) (scM A) T S N 11) (hw : w < N) (eD : I (17, n) 0 = nJ D) (hD : D < 2000)
    (hK : ∀ I' A' J' B' c', Stq I A I' A' n w c c' T S N D → R2 (K (hh I' J')) (K' (nJ c') (hh A' B')) Q) :
    R2 (tailC d n w K I J) (tailM (d' + 1) w (nJ c) K' A B) Q := by
  obtain ⟨⟨w1, w2⟩, ⟨mg, g, hg, cg⟩, w3, w4⟩ := hwk.2.2.2.2.2.1 w hw
  have cg : I (19, n) w = nJ g := cg
  have mg : A (54, 0) w = nJ g := (show I (19, n) w = A (54, 0) w from mg).symm.trans cg
  unfold tailC tailM
  rw [cg, mg]
  cases g with
  | zero =>
    have e0 : (nJ 0 - 0 : Int32) = nJ 0 := by decide
    have ea : up2 A (54, 0) w (nJ 0) = A := up_id mg.symm
    rw [if_neg (show ¬ (0 : Int32) < nJ 0 by decide), if_pos (show nJ 0 = 0 from rfl), if_neg (show ¬ (0 : Int32) < nJ 0 by decide), up_same, e0, ea, if_pos (show nJ 0 = 0 from rfl)]
    exact seal_R2 hro hwk hw eD hD cg hK
  | succ g =>
    have e1 : nJ (g + 1) - 1 = nJ g := nJ_m1' (by omega)
    rw [if_pos (lt_Ln (a := 0) (by omega) (by omega)), if_pos (lt_Ln (a := 0) (by omega) (by omega)), up_same, up_same, e1]
    have f1 : FwC I (up2 I (19, n) w (nJ g)) n := FwC.up (by omega)
    have f2 : FwM A (up2 A (54, 0) w (nJ g)) := FwM.upw (by decide) (by have := hro.1.2.2.1; omega)
    have hwk1 : WkR (scC (up2 I (19, n) w (nJ g)) n) (scM (up2 A (54, 0) w (nJ g))) T S N 11 := by
      refine WkR.setw hwk w (fun f k h1 h2 h3 => ?_) (fun f k h1 h2 h3 => ?_) (fun _ => ?_)
      · rw [scC_up (by omega), if_neg (by omega)]
      · rw [scM_up (by omega), if_neg (by omega)]
      · refine ⟨?_, ⟨?_, ?_⟩, ?_, ?_⟩
        · rw [scC_up (by omega), if_neg (by omega), scM_up (by omega), if_neg (by omega)]; exact ⟨w1, w2⟩
        · rw [scC_up (by omega), if_pos ⟨rfl, rfl⟩, scM_up (by omega), if_pos ⟨rfl, rfl⟩]
        · rw [scC_up (by omega), if_pos ⟨rfl, rfl⟩]; exact ⟨g, by omega, rfl⟩
        · rw [scC_up (by omega), if_neg (by omega), scM_up (by omega), if_neg (by omega)]; exact w3
        · rw [scC_up (by omega), if_neg (by omega), scM_up (by omega), if_neg (by omega)]; exact w4
    have hto : ∀ v, v ≠ w → up2 I (19, n) w (nJ g) (19, n) v = I (19, n) v := fun v hv => up_neK _ _ hv
    have eD1 : up2 I (19, n) w (nJ g) (17, n) 0 = nJ D := (up_ne _ _ _ _ (fun q => by cases q)).trans eD
    have es : up2 I (19, n) w (nJ g) (17, n) 1 = I (17, n) 1 := up_ne _ _ _ _ (fun q => by cases q)
    cases g with
    | zero =>
      rw [if_pos (show nJ 0 = 0 from rfl), if_pos (show nJ 0 = 0 from rfl)]
      exact seal_R2 (f1.ro f2 hro) hwk1 hw eD1 hD (up_same _ _ _ _) (fun I' A' J' B' c' hs => hK I' A' J' B' c' (hs.tr f1 f2 hto es))
    | succ g =>
      rw [if_neg (ne_nL (b := 0) (by omega) (by omega) (by decide)), if_neg (ne_nL (b := 0) (by omega) (by omega) (by decide)), show nJ c + 0 = nJ c from by rw [show (0 : Int32) = nJ 0 from rfl, nJ_add, Nat.add_zero]]
      exact hK _ _ _ _ c ⟨hwk1, ⟨g + 1, by omega, up_same _ _ _ _⟩, hto, eD1, f1, f2, fun z hz e => ⟨z, hz, es.trans e, by omega⟩, by omega⟩
