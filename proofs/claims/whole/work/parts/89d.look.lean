def FlR (fl : Int32) (c : Nat) : Prop := (fl = 0 ∧ c = 0) ∨ (fl = 1 ∧ 0 < c)
theorem lk_step {I A I2 A2 : IT} {J2 B2 : JT} {q c X : Nat} {x fl : Int32} (d d' : Nat) (x2 : Int32) (hX : X ≤ 60) (h : Rel I A) (hq : q ≤ 6) (eq : I (0, 0) 2 = nJ q) (hb : LkS I A I2 A2) (hx : x = -1 ∨ ∃ r, r < q ∧ x = nJ r) (hxq : x < nJ q) (hc : c < 100) (hf : FlR fl c)
    (hK : ∀ (fl' : Int32) (c' : Nat) (I3 A3 : IT) (J3 B3 : JT), LkS I A I3 A3 → FlR fl' c' → c' ≤ c + 1 → R2 (ev (d + 6) mPx_look 25 [vR (0, 0), vI (nJ X), vI x2, vI fl', vI (x + 1), vU, vU, vU] [] (hh I3 J3)) (ev (d' + 8) mMo_look 37 [vR (43, 0), vI (nJ X), vI x2, vI (nJ c'), vI (x + 1), vU] [] (hh A3 B3)) (CalQ I A)) :
    R2 (ev (d + 6) mPx_look 25 [vR (0, 0), vI (nJ X), vI x2, vI fl, vI x, vU, vU, vU] [] (hh I2 J2)) (ev (d' + 8) mMo_look 37 [vR (43, 0), vI (nJ X), vI x2, vI (nJ c), vI x, vU] [] (hh A2 B2)) (CalQ I A) := by
  obtain ⟨q', -, hru, hsc, -⟩ := (hb.rel h).1
  have hqq : q' = q := by
    have a1 := hru.2.1
    rw [hb.1 (0, 0) (by decide) (by decide), eq, nJ_eq (by omega) (by have := hru.1; omega)] at a1
    exact a1.symm
  subst hqq
  obtain ⟨T, S, N, L, dy, hro, hlg⟩ := lg_of hsc
  have hN := hro.1.2.2.1
  rw [ePx_look_25, eMo_look_37, hru.2.1, hru.2.2.1, if_pos hxq, if_pos hxq]
  obtain ⟨h0, hsh, hcp⟩ := shown_R (B2 := B2) d d' hX hb.base hru hro hlg hx
  obtain ⟨v, I3, J3, e1, v', A3, B3, e2, ⟨y, rfl, rfl, hy⟩, hf1, hk1⟩ := so_R2 (J2 := J2) (B2 := B2) d d' (nJ X) hb.base hru hro hlg hx
  obtain ⟨v4, A4, B4, e4, h85⟩ := hsh
  have eA : A4 = A3 := by
    have e := Option.some.inj (e4.symm.trans e2)
    have e' := congrArg gI (congrArg Prod.snd e)
    exact e'
  rw [eA] at h85
  have hw : ∀ r ∈ wRows, r.1 ≠ 85 ∧ r.1 ≠ 86 ∧ r.1 ≠ 87 ∧ r.1 ≠ 43 := by decide
  have hrow : ∀ k, k < 27 → I2 (36, 0) k = A3 (86, 0) k := fun k hk => (hb.2.2.2 k hk).trans (hk1.1 (86, 0) k (fun z => by cases z.1) (fun z => by cases z.1) (by decide)).symm
  have hb3 : LkS I A I3 A3 := ⟨fun a a1 a2 => (hf1 a a1).trans (hb.1 a a1 a2), fun a i a1 a2 a3 a4 => (hk1.1 a i a1 a2 a3).trans (hb.2.1 a i a1 a2 a3 a4), fun r hr i hi => (hk1.2 r hr i hi).trans (hb.2.1 (r.1, 0) i (fun z => (hw r hr).2.2.1 (Prod.mk.inj z.1).1) (fun z => (hw r hr).2.2.2 (Prod.mk.inj z.1).1) (hw r hr).1 (hw r hr).2.1), fun k hk => by
    rw [hf1 (36, 0) (by decide)]
    exact hrow k hk⟩
  rw [e1, e2, bI_some, bI_some, gI_hh, gJ_hh, gI_hh, gJ_hh]
  rcases hy with rfl | rfl
  · rw [if_pos rfl, if_pos rfl]
    exact hK fl c I3 A3 J3 B3 hb3 hf (by omega)
  · rw [if_neg (show ¬ (1 : Int32) = 0 by decide), if_neg (show ¬ (1 : Int32) = 0 by decide)]
    refine R2.lV ((hcp I3 J3 hf1).mono fun v I6 J6 ⟨q1, I4, p, hp, hf4, r1, r2⟩ => ⟨q1, ?_⟩)
    have m4 : A3 (44, 0) 4 = nJ N := (hk1.1 (44, 0) 4 (fun z => by cases z.1) (fun z => by cases z.1) (by decide)).trans hro.2.1.2.2.2.2.2.2
    obtain ⟨A7, e7, s1, s2⟩ := lk49 (p := p) (d' + 7) (nJ X) x2 (nJ (c + 1)) x hN N 0 A3 B3 (by omega) m4 (fun w hw => ⟨(hp w hw).2.1, by
      rw [h85 w (by omega), ← (hp w hw).1]
      exact (hp w hw).2.2⟩)
    have e7 : ev (d' + 8) mMo_look 49 [vR (43, 0), vI (nJ X), vI x2, vI (nJ (c + 1)), vI x, vI 0] [] (hh A3 B3) = ev (d' + 8) mMo_look 37 [vR (43, 0), vI (nJ X), vI x2, vI (nJ (c + 1)), vI (x + 1), vU] [] (hh A7 B3) := e7
    rw [nJ_succ, e7]
    refine hK 1 (c + 1) I6 A7 _ _ ⟨fun a a1 a2 => ?_, fun a i a1 a2 a3 a4 => ?_, fun r hr i hi => ?_, fun k hk => ?_⟩ (Or.inr ⟨rfl, by omega⟩) (by omega)
    · rw [r2 a (fun z => a2 (by rw [z])), hf4 a a1]
      exact hb.1 a a1 a2
    · rw [s2 a (fun z => a4 (by rw [z]))]
      exact hb3.2.1 a i a1 a2 a3 a4
    · rw [s2 (87, 0) (by decide)]
      exact hb3.2.2.1 r hr i hi
    · rw [r1, s1]
      refine alk_ext p N 0 _ _ (fun i hi => ?_) k hk
      rw [hf4 (36, 0) (by decide)]
      exact hrow i hi
theorem lk_go {I A : IT} {q X : Nat} (d d' : Nat) (x2 : Int32) (hX : X ≤ 60) (h : Rel I A) (hq : q ≤ 6) (eq : I (0, 0) 2 = nJ q) : ∀ (j k c : Nat) (fl : Int32) (I2 A2 : IT) (J2 B2 : JT), k + j = q → c ≤ k + 1 → LkS I A I2 A2 → FlR fl c →
    R2 (ev (d + 6) mPx_look 25 [vR (0, 0), vI (nJ X), vI x2, vI fl, vI (nJ k), vU, vU, vU] [] (hh I2 J2)) (ev (d' + 8) mMo_look 37 [vR (43, 0), vI (nJ X), vI x2, vI (nJ c), vI (nJ k), vU] [] (hh A2 B2)) (CalQ I A) := by
  intro j
  induction j with
  | zero =>
    intro k c fl I2 A2 J2 B2 hk hck hb hf
    obtain rfl : k = q := by omega
    have hrel := hb.rel h
    obtain ⟨q', -, hru, ⟨T, S, N, hro, -⟩, -⟩ := id hrel.1
    have hN := hro.1.2.2.1
    have e4 : I2 (8, 0) 4 = nJ N := hro.2.1.2.2.2.2.2.1
    have m4 : A2 (44, 0) 4 = nJ N := hro.2.1.2.2.2.2.2.2
    have c1 : I2 (0, 0) 2 = nJ k := by rw [hb.1 (0, 0) (by decide) (by decide)]; exact eq
    have m1 : A2 (43, 0) 30 = nJ k := hru.2.2.1.trans (hru.2.1.symm.trans c1)
    have no : ∀ y : Int32, (if x2 = 0 then some (some (vI y), hh I2 J2) else some (some (vI y), hh I2 J2)) = some (some (vI y), hh I2 J2) := fun y => by split <;> rfl
    rw [ePx_look_25, eMo_look_37, c1, m1, if_neg (nlt_nJ (Nat.le_refl k) (by omega)), if_neg (nlt_nJ (Nat.le_refl k) (by omega)), ePx_look_47, e4, m4]
    rcases hf with ⟨rfl, rfl⟩ | ⟨rfl, hc0⟩
    · rw [if_pos (show nJ 0 = 0 from rfl), if_pos rfl, no, ite_self]
      exact R2.ret ⟨⟨_, rfl, rfl⟩, hrel⟩
    · have n0 : ¬ nJ c = 0 := fun z => by
        have z' : nJ c = nJ 0 := z
        rw [nJ_eq (by omega) (by decide)] at z'
        omega
      rw [if_neg n0, if_neg (show ¬ (1 : Int32) = 0 by decide)]
      by_cases hN0 : N = 0
      · subst hN0
        rw [if_neg (show ¬ (0 : Int32) < nJ 0 by decide), if_pos (show nJ 0 = 0 from rfl), no]
        exact R2.ret ⟨⟨_, rfl, rfl⟩, hrel⟩
      · have nN : ¬ nJ N = 0 := fun z => by
          have z' : nJ N = nJ 0 := z
          rw [nJ_eq (by omega) (by decide)] at z'
          omega
        have p0 : (0 : Int32) < nJ N := lt_nJ (a := 0) (by omega) (by omega)
        have hm0 := cMost (I := I2) (J := J2) (w := 0) (d + 5) (by decide)
        have hm0 : ev (d + 5) mPx_mostAlike 0 [vR (0, 0), vI 0, vU, vU] [] (hh I2 J2) = some (some (vI (mxa (I2 (36, 0)) 0 0 9 0)), hh I2 J2) := hm0
        obtain ⟨y, y1, y2⟩ := lk_end (J := J2) (B := B2) (d + 5) (d' + 7) x2 hN e4 m4 hb.2.2.2 (N - 1) 1 0 (by omega) (by omega)
        have y1 : ev (d + 6) mPx_look 47 [vR (0, 0), vU, vI x2, vI 1, vI 0, vI (mxa (I2 (36, 0)) 0 0 9 0), vI (0 + 1), vU] [] (hh I2 J2) = some (some (vI y), hh I2 J2) := y1
        have y2 : ev (d' + 8) mMo_look 89 [vR (43, 0), vU, vI x2, vU, vI 0, vI 1] [] (hh A2 B2) = some (some (vI y), hh A2 B2) := y2
        rw [if_pos p0, if_neg nN, hm0, bI_some, if_pos rfl, gI_hh, gJ_hh, y1, y2]
        exact R2.ret ⟨⟨_, rfl, rfl⟩, hrel⟩
  | succ j ih =>
    intro k c fl I2 A2 J2 B2 hk hck hb hf
    refine lk_step d d' x2 hX h hq eq hb (Or.inr ⟨k, by omega, rfl⟩) (lt_nJ (by omega) (by omega)) (by omega) hf fun f' c' I3 A3 J3 B3 hb3 hf3 hc3 => ?_
    rw [nJ_succ]
    exact ih (k + 1) c' f' I3 A3 J3 B3 (by omega) (by omega) hb3 hf3
theorem t_look {I A : IT} {J B : JT} (d : Nat) (x t : Int32) (h : Rel I A) : Cal (ev (d + 8) mPx_look 0 [vR (0, 0), vI x, vI t, vU, vU, vU, vU, vU] [] (hh I J)) (ev (d + 8) mMo_look 0 [vR (43, 0), vI x, vI t, vU, vU, vU] [] (hh A B)) I A := by
  obtain ⟨q, -, hru, ⟨-, -, -, -, -, -, ⟨et, -⟩, -⟩, -⟩ := id h
  have et : I (8, 0) 0 = A (43, 0) 25 := et
  rw [ePx_look_0, eMo_look_0, et]
  by_cases h0 : A (43, 0) 25 = 0
  · rw [if_pos h0, if_pos h0]
    exact Cal.ro rfl rfl h
  rw [if_neg h0, if_neg h0, mIn _ x 0 60 0 60 rfl rfl, bI_some, bif2, mIn _ t 0 1 0 1 rfl rfl, bI_some, bif2]
  by_cases x0 : x < 0
  · rw [if_pos x0, if_neg (fun z => z.1 x0)]
    exact Cal.ro rfl rfl h
  by_cases x1 : (60 : Int32) < x
  · rw [if_neg x0, if_pos x1, if_neg (fun z => z.2 x1)]
    exact Cal.ro rfl rfl h
  rw [if_neg x0, if_neg x1, if_pos (And.intro x0 x1)]
  by_cases t0 : t < 0
  · rw [if_pos t0, if_neg (fun z => z.1 t0)]
    exact Cal.ro rfl rfl h
  by_cases t1 : (1 : Int32) < t
  · rw [if_neg t0, if_pos t1, if_neg (fun z => z.2 t1)]
    exact Cal.ro rfl rfl h
  rw [if_neg t0, if_neg t1, if_pos (And.intro t0 t1)]
  obtain ⟨X, hX, rfl⟩ := rng (a := 0) (b := 60) (by decide) (by decide) x0 x1
  refine R2.lV ((fill_of (s := 36) (n := 0) (L := 27) (x := 0) (fun I J => eAr_fill_36_0 (d + 7) 0 I J) (fun y2 y3 I J => eAr_fill_36_5 (d + 7) 0 y2 y3 I J) (by decide)).mono fun v I1 J1 ⟨a1, a2, a3, _⟩ => ⟨a1, ?_⟩)
  obtain ⟨A1, e1, g1⟩ := fill_go (f := fun k I J => ev (d + 8) mMo_look 19 [vR (43, 0), vI (nJ X), vI t, vI (nJ k), vU, vU] [] (hh I J)) (P := fun b => b = (86, 0)) (x := fun _ => 0) (n := 27) (g := fun k I => up2 I (86, 0) k 0) (fun k I b i => up_at _ _ _ _ _ _) (fun k I J hk => by
    show ev (d + 8) mMo_look 19 [vR (43, 0), vI (nJ X), vI t, vI (nJ k), vU, vU] [] (hh I J) = ev (d + 8) mMo_look 19 [vR (43, 0), vI (nJ X), vI t, vI (nJ (k + 1)), vU, vU] [] (hh (up2 I (86, 0) k 0) J)
    rw [eMo_look_19, if_pos (lt_nL (b := 27) hk (by decide)), bnd hk (by omega), nJ_nat (by omega), nJ_succ]) 27 0 A B rfl
  have e1 : ev (d + 8) mMo_look 19 [vR (43, 0), vI (nJ X), vI t, vI 0, vU, vU] [] (hh A B) = ev (d + 8) mMo_look 19 [vR (43, 0), vI (nJ X), vI t, vI (nJ 27), vU, vU] [] (hh A1 B) := e1
  simp only [gI_hh, gJ_hh]
  rw [e1, eMo_look_19, if_neg (show ¬ nJ 27 < 27 by decide)]
  refine R2.rV ((mKeep (d + 5) A1 B).mono fun v A2 B2 ⟨q2, hk, hfr, _⟩ => ⟨q2, ?_⟩)
  have g2 : ∀ b i, b ≠ (86, 0) → A1 b i = A b i := fun b i hb => (g1 b i).trans (if_neg (fun z => hb z.1))
  have hw : ∀ r ∈ wRows, r.1 ≠ 86 := by decide
  have hb : LkS I A I1 A2 := ⟨fun a _ b2 => funext fun k => a3 a k (fun z => b2 (by rw [z.1])), fun a i b1 b2 _ b4 => (hfr a i b1 b2).trans (g2 a i (fun z => b4 (by rw [z]))), fun r hr i hi => (hk r hr i hi).trans (g2 (r.1, 0) i (fun z => hw r hr (Prod.mk.inj z).1)), fun k hk27 => by
    rw [a2 k hk27, hfr (86, 0) k (fun z => by cases z.1) (fun z => by cases z.1), g1, if_pos ⟨rfl, Nat.zero_le k, hk27⟩]⟩
  exact lk_step (d + 2) d t hX h hru.1 hru.2.1 hb (Or.inl rfl) (m1_lt hru.1) (by decide) (Or.inl ⟨rfl, rfl⟩) fun f' c' I3 A3 J3 B3 hb3 hf3 hc3 => lk_go (d + 2) d t hX h hru.1 hru.2.1 q 0 c' f' I3 A3 J3 B3 (by omega) (by omega) hb3 hf3
