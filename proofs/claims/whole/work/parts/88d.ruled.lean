theorem so0 {I : IT} {J : JT} (d : Nat) (x : Int32) (rl : Vl) (h : rl = vN ∨ ∃ a, rl = vR a) (e : ev d mPx_ruleAt 0 [vR (0, 0), vI x] [] (hh I J) = some (some rl, hh I J)) : ev (d + 1) mPx_isSo 0 [vR (0, 0), vI x, vU, vU, vU, vU] [] (hh I J) = bV (ev d mPx_beginLogged 0 [vR (0, 0), vU, vU] [] (hh I J)) (fun h2 => ev (d + 1) mPx_isSo 12 [vR (0, 0), vU, rl, vI (I (7, 0) 7), vI 0, vU] [] (hh (gI h2) (gJ h2))) := by
  rcases h with rfl | ⟨a, rfl⟩
  · rw [ePx_isSo_0, e]; rfl
  · rw [ePx_isSo_0, e]; rfl
/-- a rule by its number -/
theorem cAt {I A : IT} {q : Nat} {x : Int32} (hr : RusR I A q) (hx : x = -1 ∨ ∃ r, r < q ∧ x = nJ r) : ∃ rl, (rl = vN ∨ ∃ a, rl = vR a) ∧ ((rl = vN ∧ x = -1) ∨ ∃ r, r < 6 ∧ rl = vR (37, r) ∧ x = nJ r ∧ RuR I A r) ∧ ∀ d J, ev d mPx_ruleAt 0 [vR (0, 0), vI x] [] (hh I J) = some (some rl, hh I J) := by
  obtain ⟨hq, e1, -, -, hru⟩ := hr
  rcases hx with rfl | ⟨r, hrq, rfl⟩
  · refine ⟨vN, Or.inl rfl, Or.inl ⟨rfl, rfl⟩, fun d J => ?_⟩
    rw [ePx_ruleAt_0, if_pos (by decide)]
  · refine ⟨vR (37, r), Or.inr ⟨_, rfl⟩, Or.inr ⟨r, by omega, rfl, rfl, hru r hrq⟩, fun d J => ?_⟩
    rw [ePx_ruleAt_0, if_neg (nJ_nn (by omega)), e1, if_pos (lt_nJ hrq (by omega)), bnd (show r < 6 by omega) (by omega), nJ_nat (by omega), if_pos (show r < 6 by omega)]
/-- both begin a logged trial -/
theorem lg_begin {I A I2 A2 I1 I3 A1 A3 : IT} {T S N M L : Nat} {dy : Nat → Nat} {rl : Vl} {x : Int32} (hb : TrC I A I2 A2) (hro : RoR (scC I 0) (scM A) T S N) (hlg : LgR I A L N dy) (hM : M = if S < N then S else N) (hrl : (rl = vN ∧ x = -1) ∨ ∃ r, r < 6 ∧ rl = vR (37, r) ∧ x = nJ r ∧ RuR I2 A2 r)
    (hc : BgC I2 I1 5 0) (h3 : ∀ b i, I3 b i = if b = (22, 5) ∧ 0 ≤ i ∧ i < M then nJ i else I1 b i) (hm : BgM (up2 A2 (44, 0) 12 x) A1) (g3 : ∀ b i, A3 b i = if b = (51, 0) ∧ 0 ≤ i ∧ i < M then nJ i else A1 b i) : LgS I A I3 A3 T S N 0 L dy rl := by
  obtain ⟨v1, v2⟩ := hb.views
  have hN := hro.1.2.2.1
  have hS := hro.1.2.1
  have hMS : M ≤ S ∧ M ≤ N := by
    by_cases h : S < N
    · rw [if_pos h] at hM; omega
    · rw [if_neg h] at hM; omega
  have hro2 : RoR (scC I2 0) (scM A2) T S N := by rw [v1, v2]; exact hro
  have hro2' : RoR (scC I2 0) (scM (up2 A2 (44, 0) 12 x)) T S N := RoR_ext (fun _ _ _ _ => rfl) (fun f k hf => by rw [scM_up (by omega), if_neg (fun z => by omega)]) hro2
  have w1 := bg_wk hro2' hc hm
  have f1 : FwC I2 I3 5 := fun a ha => funext fun k => by
    rw [h3 a k, if_neg (fun z => ha (by rw [z.1]; decide)), hc.2.2.2 a ha]
  have f2 : FwM (up2 A2 (44, 0) 12 x) A3 := fun a k ha => by
    rw [g3 a k, if_neg (fun z => ha (Or.inr (Or.inl ⟨Or.inl z.1, by omega⟩))), hm.2.2.2 a k ha]
  have w3 : WkR (scC I3 5) (scM A3) T S N 10 := by
    refine WkR.own2 w1 (fun f j h1 h2 hf => ?_) (fun f j h1 h2 hf => ?_) (fun k hk => ?_) (fun k h1 h2 => ?_)
    · show (bif Nat.ble 7 f && Nat.ble f 27 then I3 (f, 5) j else 0) = (bif Nat.ble 7 f && Nat.ble f 27 then I1 (f, 5) j else 0)
      rw [h3 (f, 5) j, if_neg (fun z => hf (Prod.mk.inj z.1).1)]
    · have e : A3 (f, 0) j = A1 (f, 0) j := by rw [g3 (f, 0) j, if_neg (fun z => hf (Prod.mk.inj z.1).1)]
      unfold scM
      rw [beq_f (show f ≠ 43 by omega), e]
      rfl
    · show I3 (22, 5) k = A3 (51, 0) k ∧ (I3 (22, 5) k = -1 ∨ ∃ w, w < N ∧ I3 (22, 5) k = nJ w)
      rw [h3 (22, 5) k, g3 (51, 0) k]
      by_cases hkM : k < M
      · rw [if_pos ⟨rfl, Nat.zero_le k, hkM⟩, if_pos ⟨rfl, Nat.zero_le k, hkM⟩]
        exact ⟨rfl, Or.inr ⟨k, by omega, rfl⟩⟩
      · rw [if_neg (fun z => hkM z.2.2), if_neg (fun z => hkM z.2.2), (hc.2.2.1 k (by omega)).1, (hm.2.2.1 k (by omega)).1]
        exact ⟨rfl, Or.inl rfl⟩
    · show I3 (22, 5) k = -1
      rw [h3 (22, 5) k, if_neg (fun z => by omega)]
      exact (hc.2.2.1 k h2).1
  have r2 : RlR I2 (up2 A2 (44, 0) 12 x) rl := by
    unfold RlR
    rw [up_same]
    rcases hrl with hrl | ⟨r, r1, r2, r3, r4⟩
    · exact Or.inl hrl
    · exact Or.inr ⟨r, r1, r2, r3, RuR_ext (fun _ _ _ _ _ => rfl) (fun a i a1 a2 => up_ne _ _ _ _ (fun z => by rw [z] at a1; exact absurd a1 (by decide))) r4⟩
  refine ⟨hb.1.tr5 f1, ⟨A2, hb.2, fun a i a1 a2 => ?_⟩, FwC.ro f1 f2 hro2', w3, ?_, RlR.fw f1 f2 r2, LgR.fw f1 f2 (LgR_ext (fun _ _ _ => rfl) (up_neK _ _ (by decide)) (fun a i a1 a2 => up_ne _ _ _ _ (fun z => by rw [z] at a1; exact absurd a1 (by decide))) (hb.log hlg))⟩
  · rw [f2 a i a1, up_at, if_neg (fun z => a2 ⟨z.1, by omega⟩)]
  · rw [h3 (17, 5) 0, if_neg (fun z => by cases z.1), hc.1 0 (by decide)]
    rfl
theorem so_R2 {I A I2 A2 : IT} {J2 B2 : JT} {T S N L q : Nat} {dy : Nat → Nat} {x : Int32} (d d' : Nat) (x2 : Int32) (hb : TrC I A I2 A2) (hru : RusR I A q) (hro : RoR (scC I 0) (scM A) T S N) (hlg : LgR I A L N dy) (hx : x = -1 ∨ ∃ r, r < q ∧ x = nJ r) :
    R2 (ev (d + 5) mPx_isSo 0 [vR (0, 0), vI x, vU, vU, vU, vU] [] (hh I2 J2)) (ev (d' + 7) mMo_couldRule 0 [vR (43, 0), vI x, vI x2, vU, vU, vU] [] (hh A2 B2)) (SoQ I A) := by
  have hN := hro.1.2.2.1
  have hS := hro.1.2.1
  obtain ⟨rl, hrl0, hrl, hat⟩ := cAt (hb.rus hru) hx
  have e3 : I2 (8, 0) 3 = nJ S := by rw [hb.1 (8, 0) (by decide)]; exact hro.2.1.2.2.2.1
  have e4 : I2 (8, 0) 4 = nJ N := by rw [hb.1 (8, 0) (by decide)]; exact hro.2.1.2.2.2.2.2.1
  have m3 : A2 (44, 0) 3 = nJ S := (hb.2.1 (44, 0) 3 (fun z => by cases z.1) (fun z => by cases z.1) (by decide)).trans hro.2.1.2.2.2.2.1
  have m4 : A2 (44, 0) 4 = nJ N := (hb.2.1 (44, 0) 4 (fun z => by cases z.1) (fun z => by cases z.1) (by decide)).trans hro.2.1.2.2.2.2.2.2
  obtain ⟨A1, A3, B3, hm, g3, em⟩ := mLogged (B := B2) (d' + 5) x x2 m3 m4 hS hN rfl
  rw [so0 (d + 4) x rl hrl0 (hat _ _), em]
  refine R2.lV ((cLogged (d + 2) e3 e4 hS hN rfl).mono fun v I3 J3 ⟨q1, I1, hc, h3⟩ => ⟨q1, ?_⟩)
  have hs := lg_begin hb hro hlg rfl hrl hc h3 hm g3
  rw [(hb.log hlg).2.1, gI_hh, gJ_hh]
  have hg := so_go d d' x2 hrl0 61 0 I3 A3 J3 B3 rfl hs
  rw [lgn_all] at hg
  exact hg
theorem lg_of {I A : IT} {q : Nat} (h : ScR (scC I 0) (scM A) q) : ∃ T S N L dy, RoR (scC I 0) (scM A) T S N ∧ LgR I A L N dy := by
  obtain ⟨T, S, N, hro, -, -, -, -, -, ⟨L, hL, e1, e2, hl⟩, -⟩ := h
  refine ⟨T, S, N, L, fun i => (I (24, 0) i).toNatClampNeg, hro, hL, e1, e2, fun i hi => ?_⟩
  obtain ⟨⟨a1, t, a2, a3⟩, ⟨b1, w, b2, b3⟩, c1⟩ := hl i hi
  have a1 : I (24, 0) i = A (57, 0) i := a1
  have a3 : I (24, 0) i = nJ t := a3
  have b1 : I (25, 0) i = A (58, 0) i := b1
  have b3 : I (25, 0) i = nJ w := b3
  have et : (I (24, 0) i).toNatClampNeg = t := by rw [a3]; exact nJ_nat (by omega)
  show I (24, 0) i = nJ (I (24, 0) i).toNatClampNeg ∧ A (57, 0) i = nJ (I (24, 0) i).toNatClampNeg ∧ (I (24, 0) i).toNatClampNeg < 61 ∧ (∃ w, w < N ∧ I (25, 0) i = nJ w ∧ A (58, 0) i = nJ w) ∧ I (26, 0) i = A (59, 0) i
  rw [et]
  exact ⟨a3, a1 ▸ a3, a2, ⟨w, b2, b3, b1 ▸ b3⟩, c1⟩
/-- the first rule so far, and how many -/
def FiR (f : Int32) (c : Nat) : Prop := (f = -2 ∧ c = 0) ∨ (f ≠ -2 ∧ 0 < c)
theorem rd_step {I A I2 A2 : IT} {J2 B2 : JT} {T S N L q c : Nat} {dy : Nat → Nat} {x f : Int32} (d d' : Nat) (x1 : Int32) (hb : TrC I A I2 A2) (hru : RusR I A q) (hro : RoR (scC I 0) (scM A) T S N) (hlg : LgR I A L N dy) (hx : x = -1 ∨ ∃ r, r < q ∧ x = nJ r) (hx2 : x ≠ -2) (hxq : x < nJ q) (hc : c < 100) (hf : FiR f c)
    (hK : ∀ (f' : Int32) (c' : Nat) (I3 A3 : IT) (J3 B3 : JT), TrC I A I3 A3 → FiR f' c' → c' ≤ c + 1 → R2 (ev (d + 6) mPx_ruled 18 [vR (0, 0), vI x1, vI f', vI (nJ c'), vI (x + 1)] [] (hh I3 J3)) (ev (d' + 8) mMo_ruled 19 [vR (43, 0), vI x1, vI (nJ c'), vI f', vI (x + 1)] [] (hh A3 B3)) (CalQ I A)) :
    R2 (ev (d + 6) mPx_ruled 18 [vR (0, 0), vI x1, vI f, vI (nJ c), vI x] [] (hh I2 J2)) (ev (d' + 8) mMo_ruled 19 [vR (43, 0), vI x1, vI (nJ c), vI f, vI x] [] (hh A2 B2)) (CalQ I A) := by
  obtain ⟨hq, e1, m1, -⟩ := hb.rus hru
  rw [ePx_ruled_18, eMo_ruled_19, e1, m1, if_pos hxq, if_pos hxq]
  refine R2.bII ((so_R2 d d' (-1) hb hru hro hlg hx).mono fun v I3 J3 v' A3 B3 ⟨⟨y, q1, q2, q3⟩, q4, q5⟩ => ⟨y, y, q1, q2, ?_⟩)
  have hb3 : TrC I A I3 A3 := ⟨q4, q5⟩
  simp only [gI_hh, gJ_hh, nJ_succ]
  rcases q3 with rfl | rfl
  · rw [if_pos rfl, if_pos rfl]
    exact hK f c I3 A3 J3 B3 hb3 hf (by omega)
  · rw [if_neg (show ¬ (1 : Int32) = 0 by decide), if_neg (show ¬ (1 : Int32) = 0 by decide)]
    rcases hf with ⟨rfl, rfl⟩ | ⟨hf, hc0⟩
    · rw [if_pos rfl, if_pos (show nJ 0 = 0 from rfl)]
      exact hK x 1 I3 A3 J3 B3 hb3 (Or.inr ⟨hx2, by decide⟩) (by omega)
    · have n0 : ¬ nJ c = 0 := fun z => by
        have z' : nJ c = nJ 0 := z
        rw [nJ_eq (by omega) (by decide)] at z'
        omega
      rw [if_neg hf, if_neg n0]
      exact hK f (c + 1) I3 A3 J3 B3 hb3 (Or.inr ⟨hf, by omega⟩) (by omega)
theorem rd_go {I A : IT} {T S N L q : Nat} {dy : Nat → Nat} (d d' : Nat) (x1 : Int32) (h : Rel I A) (hru : RusR I A q) (hro : RoR (scC I 0) (scM A) T S N) (hlg : LgR I A L N dy) : ∀ (j k c : Nat) (f : Int32) (I2 A2 : IT) (J2 B2 : JT), k + j = q → c ≤ k + 1 → TrC I A I2 A2 → FiR f c →
    R2 (ev (d + 6) mPx_ruled 18 [vR (0, 0), vI x1, vI f, vI (nJ c), vI (nJ k)] [] (hh I2 J2)) (ev (d' + 8) mMo_ruled 19 [vR (43, 0), vI x1, vI (nJ c), vI f, vI (nJ k)] [] (hh A2 B2)) (CalQ I A) := by
  intro j
  induction j with
  | zero =>
    intro k c f I2 A2 J2 B2 hk hck hb hf
    obtain rfl : k = q := by omega
    obtain ⟨hq, e1, m1, -⟩ := hb.rus hru
    rw [ePx_ruled_18, eMo_ruled_19, e1, m1, if_neg (nlt_nJ (Nat.le_refl k) (by omega)), if_neg (nlt_nJ (Nat.le_refl k) (by omega))]
    by_cases h1 : x1 = 0
    · rw [if_pos h1, if_pos h1]
      exact R2.ret ⟨⟨_, rfl, rfl⟩, hb.rel h⟩
    · rw [if_neg h1, if_neg h1]
      exact R2.ret ⟨⟨_, rfl, rfl⟩, hb.rel h⟩
  | succ j ih =>
    intro k c f I2 A2 J2 B2 hk hck hb hf
    have hq := hru.1
    have hn2 : nJ k ≠ -2 := fun z => by
      have := nJ_nn (a := k) (by omega)
      rw [z] at this
      exact this (by decide)
    refine rd_step d d' x1 hb hru hro hlg (Or.inr ⟨k, by omega, rfl⟩) hn2 (lt_nJ (by omega) (by omega)) (by omega) hf fun f' c' I3 A3 J3 B3 hb3 hf3 hc3 => ?_
    rw [nJ_succ]
    exact ih (k + 1) c' f' I3 A3 J3 B3 (by omega) (by omega) hb3 hf3
theorem t_ruled {I A : IT} {J B : JT} (d : Nat) (x : Int32) (h : Rel I A) : Cal (ev (d + 8) mPx_ruled 0 [vR (0, 0), vI x, vU, vU, vU] [] (hh I J)) (ev (d + 8) mMo_ruled 0 [vR (43, 0), vI x, vU, vU, vU] [] (hh A B)) I A := by
  obtain ⟨q, -, hru, hsc, -⟩ := id h
  obtain ⟨-, -, -, -, -, -, ⟨et, -⟩, -⟩ := id hsc
  have et : I (8, 0) 0 = A (43, 0) 25 := et
  obtain ⟨T, S, N, L, dy, hro, hlg⟩ := lg_of hsc
  rw [ePx_ruled_0, eMo_ruled_0, et]
  by_cases h0 : A (43, 0) 25 = 0
  · rw [if_pos h0, if_pos h0]
    exact Cal.ro rfl rfl h
  rw [if_neg h0, if_neg h0, mIn _ x 0 1 0 1 rfl rfl, bI_some, bif2]
  by_cases x0 : x < 0
  · rw [if_pos x0, if_neg (fun z => z.1 x0)]
    exact Cal.ro rfl rfl h
  by_cases x1 : (1 : Int32) < x
  · rw [if_neg x0, if_pos x1, if_neg (fun z => z.2 x1)]
    exact Cal.ro rfl rfl h
  rw [if_neg x0, if_neg x1, if_pos (And.intro x0 x1)]
  refine R2.rV ((mKeep (d + 5) A B).mono fun v A1 B1 ⟨q2, hk, hfr, _⟩ => ⟨q2, ?_⟩)
  simp only [gI_hh, gJ_hh]
  have hb : TrC I A I A1 := ⟨fun _ _ => rfl, fun a i a1 a2 _ => hfr a i a1 a2, hk⟩
  exact rd_step (d + 2) d x hb hru hro hlg (Or.inl rfl) (by decide) (m1_lt hru.1) (by decide) (Or.inl ⟨rfl, rfl⟩) fun f' c' I3 A3 J3 B3 hb3 hf3 hc3 => rd_go (d + 2) d x h hru hro hlg q 0 c' f' I3 A3 J3 B3 (by omega) (by omega) hb3 hf3
