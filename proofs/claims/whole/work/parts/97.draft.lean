/-! ROADS, as they are read: the draft of both -/
def DrC (I : IT) (dy : Nat → Nat → Nat) (T : Nat) : Prop := T ≤ 8 ∧ I (8, 5) 2 = nJ T ∧ (∀ a b, a < 8 → b < 8 → I (10, 5) (8 * a + b) = nJ (dy a b)) ∧ (∀ a b, dy a b < 10) ∧ ∀ a, dy a a = 0
def DrR (I A : IT) (dy : Nat → Nat → Nat) (z : Nat → Nat) (T S N W : Nat) : Prop :=
  (T ≤ 8 ∧ S ≤ 6 ∧ N ≤ 3 ∧ (0 < N → 0 < T)) ∧
  (I (8, 5) 1 = A (61, 0) 0 ∧ I (8, 5) 2 = nJ T ∧ A (61, 0) 1 = nJ T ∧ A (61, 0) 2 = nJ W ∧ I (8, 5) 3 = nJ S ∧ A (61, 0) 3 = nJ S ∧ I (8, 5) 4 = nJ N ∧ A (61, 0) 4 = nJ N) ∧
  ((∀ k, k < T → I (9, 5) k = A (62, 0) k ∧ ∃ p, p < 100 ∧ I (9, 5) k = nJ p) ∧ (∀ k, T ≤ k → k < 8 → I (9, 5) k = 0)) ∧
  (∀ a b, a < 8 → b < 8 → I (10, 5) (8 * a + b) = nJ (dy a b) ∧ A (63, 0) (8 * a + b) = nJ (if dy a b = 0 then 10000 else dy a b)) ∧
  ((∀ a b, dy a b < 10) ∧ ∀ a b, dy a b ≠ 0 → a < T ∧ b < T ∧ a ≠ b ∧ dy b a ≠ 0) ∧
  (∀ a, a < 8 → z a < 256 ∧ I (12, 5) a = nJ (z a) ∧ ∀ b, b < 8 → (z a).testBit b = !Nat.beq (dy a b) 0) ∧
  sumT (fun t => pop8 (z t)) 8 = 2 * W ∧
  (∀ k, k < S → (I (13, 5) k = A (64, 0) k ∧ ∃ t, t < T ∧ I (13, 5) k = nJ t) ∧ (I (14, 5) k = A (65, 0) k ∧ ∃ t, t < 300 ∧ I (14, 5) k = nJ t) ∧ (I (15, 5) k = A (66, 0) k ∧ ∃ t, t < 100 ∧ I (15, 5) k = nJ t)) ∧
  (∀ k, k < N → I (16, 5) k = A (67, 0) k ∧ ∃ t, t < 100 ∧ I (16, 5) k = nJ t)
theorem DrR.c {I A : IT} {dy : Nat → Nat → Nat} {z : Nat → Nat} {T S N W : Nat} (h : DrR I A dy z T S N W) : DrC I dy T := by
  refine ⟨h.1.1, h.2.1.2.1, fun a b ha hb => (h.2.2.2.1 a b ha hb).1, h.2.2.2.2.1.1, fun a => ?_⟩
  by_cases e : dy a a = 0
  · exact e
  · exact absurd rfl (h.2.2.2.2.1.2 a a e).2.2.1
theorem DrR.ext {I A I' A' : IT} {dy : Nat → Nat → Nat} {z : Nat → Nat} {T S N W : Nat} (h : DrR I A dy z T S N W) (hI : ∀ s, 8 ≤ s → s ≤ 16 → I' (s, 5) = I (s, 5)) (hA : ∀ s, 61 ≤ s → s ≤ 67 → A' (s, 0) = A (s, 0)) : DrR I' A' dy z T S N W := by
  unfold DrR at h ⊢
  rw [hI 8 (by decide) (by decide), hI 9 (by decide) (by decide), hI 10 (by decide) (by decide), hI 12 (by decide) (by decide), hI 13 (by decide) (by decide), hI 14 (by decide) (by decide), hI 15 (by decide) (by decide), hI 16 (by decide) (by decide), hA 61 (by decide) (by decide), hA 62 (by decide) (by decide), hA 63 (by decide) (by decide), hA 64 (by decide) (by decide), hA 65 (by decide) (by decide), hA 66 (by decide) (by decide), hA 67 (by decide) (by decide)]
  exact h
theorem DrC.ext {I I' : IT} {dy : Nat → Nat → Nat} {T : Nat} (h : DrC I dy T) (h2 : I' (8, 5) 2 = I (8, 5) 2) (h10 : I' (10, 5) = I (10, 5)) : DrC I' dy T := by
  unfold DrC at h ⊢
  rw [h2, h10]
  exact h
theorem FrX.s {I I' : IT} (h : FrX I I') {s m : Nat} (hs : s ≠ 1) : I' (s, m) = I (s, m) := funext fun k => h _ k (fun z => hs (Prod.mk.inj z.1).1)
theorem FrY.s {I I' : IT} (h : FrY I I') {s m : Nat} (hs : s ≠ 43) : I' (s, m) = I (s, m) := funext fun k => h _ k (fun z => hs (Prod.mk.inj z.1).1)
theorem DrR.fr {I A I' A' : IT} {dy : Nat → Nat → Nat} {z : Nat → Nat} {T S N W : Nat} (h : DrR I A dy z T S N W) (hI : FrX I I') (hA : FrY A A') : DrR I' A' dy z T S N W := h.ext (fun s h1 h2 => hI.s (by omega)) (fun s h1 h2 => hA.s (by omega))
theorem TxR.ext {I A I' A' : IT} {by_ : Nat → Nat} {n k1 tk i f p : Nat} (h : TxR I A by_ n k1 tk i f p) (hI : ∀ s, 1 ≤ s → s ≤ 5 → I' (s, 0) = I (s, 0)) (hA : A' (43, 0) = A (43, 0)) (hA' : A' (68, 0) = A (68, 0)) : TxR I' A' by_ n k1 tk i f p := by
  unfold TxR TkS TkP BtC BtM at h ⊢
  rw [hI 1 (by decide) (by decide), hI 2 (by decide) (by decide), hI 3 (by decide) (by decide), hI 4 (by decide) (by decide), hI 5 (by decide) (by decide), hA, hA']
  exact h
/-- all that reading holds -/
def RdS (I A : IT) (by_ : Nat → Nat) (n tk i f p : Nat) (dy : Nat → Nat → Nat) (T : Nat) : Prop := TxR I A by_ n 0 tk i f p ∧ DrC I dy T ∧ (f = 0 → ∃ z S N W, DrR I A dy z T S N W)
def FrRC (I I' : IT) : Prop := ∀ a k, ¬ (a.2 = 5 ∧ 8 ≤ a.1 ∧ a.1 ≤ 16) → ¬ (a = (1, 0) ∧ (k = 6 ∨ k = 7)) → I' a k = I a k
def FrRM (A A' : IT) : Prop := ∀ a k, ¬ (61 ≤ a.1 ∧ a.1 ≤ 67) → ¬ (a = (43, 0) ∧ (k = 27 ∨ k = 28)) → A' a k = A a k
theorem FrRC.of {I I' : IT} (h : FrX I I') : FrRC I I' := fun a k _ h2 => h a k h2
theorem FrRM.of {I I' : IT} (h : FrY I I') : FrRM I I' := fun a k _ h2 => h a k h2
theorem FrRC.tr {I I' I'' : IT} (h : FrRC I I') (h' : FrRC I' I'') : FrRC I I'' := fun a k h1 h2 => (h' a k h1 h2).trans (h a k h1 h2)
theorem FrRM.tr {I I' I'' : IT} (h : FrRM I I') (h' : FrRM I' I'') : FrRM I I'' := fun a k h1 h2 => (h' a k h1 h2).trans (h a k h1 h2)
theorem FrRC.up {I : IT} {s k : Nat} {x : Int32} (h1 : 8 ≤ s) (h2 : s ≤ 16) : FrRC I (up2 I (s, 5) k x) := fun a j q1 _ => up_ne _ _ _ _ (fun z => q1 (by rw [z]; exact ⟨rfl, h1, h2⟩))
theorem FrRM.up {A : IT} {s k : Nat} {x : Int32} (h1 : 61 ≤ s) (h2 : s ≤ 67) : FrRM A (up2 A (s, 0) k x) := fun a j q1 _ => up_ne _ _ _ _ (fun z => q1 (by rw [z]; exact ⟨h1, h2⟩))
theorem FrRC.rf (I : IT) : FrRC I I := fun _ _ _ _ => rfl
theorem FrRM.rf (I : IT) : FrRM I I := fun _ _ _ _ => rfl
/-- what a part of a clause leaves -/
def RdO (I A : IT) (J B : JT) (by_ : Nat → Nat) (n tk : Nat) (o o' : Option Rs) : Prop := ∃ I' A' i' f' p' dy' T', o = some (none, hh I' J) ∧ o' = some (none, hh A' B) ∧ FrRC I I' ∧ FrRM A A' ∧ RdS I' A' by_ n tk i' f' p' dy' T'
theorem wr_tx {I A : IT} {by_ : Nat → Nat} {n tk i f p : Nat} (h : TxR I A by_ n 0 tk i f p) {I' A' : IT} (hI : ∀ a : Ad, a.1 < 8 → I' a = I a) (hA : ∀ a : Ad, (a.1 = 43 ∨ a.1 = 68) → A' a = A a) : TxR I' A' by_ n 0 tk i f p := h.ext (fun s h1 h2 => hI _ (show s < 8 by omega)) (hA _ (Or.inl rfl)) (hA _ (Or.inr rfl))
/-- the first clause -/
theorem rd_roads {I A : IT} {J B : JT} {by_ : Nat → Nat} {n tk i p T : Nat} {dy : Nat → Nat → Nat} (d d' : Nat) (h : RdS I A by_ n tk i 0 p dy T) : RdO I A J B by_ n tk (bI (ev (d + 1) mTe_takeNumber 0 [vR (1, 0), vI 0, vI 99, vU] [] (hh I J)) (fun r1 h1 => some (none, hh (up2 (gI h1) (8, 5) 1 r1) (gJ h1)))) (bI (ev (d' + 4) mMo_amount 0 [vR (43, 0), vI 0, vI 99, vU, vU] [] (hh A B)) (fun r1 h1 => some (none, hh (up2 (gI h1) (61, 0) 0 r1) (gJ h1)))) := by
  obtain ⟨hx, hc, hr⟩ := h
  obtain ⟨I1, A1, i1, f1, p1, r, r', o1, o2, x1, y1, hx1, -, hq⟩ := tk_num (J := J) (B := B) d d' 0 99 (by decide) hx
  rw [o1, o2, bI_some, bI_some]
  refine ⟨up2 I1 (8, 5) 1 r, up2 A1 (61, 0) 0 r', i1, f1, p1, dy, T, rfl, rfl, (FrRC.of x1).tr (FrRC.up (by decide) (by decide)), (FrRM.of y1).tr (FrRM.up (by decide) (by decide)), wr_tx hx1 (fun a ha => funext fun k => up_ne _ _ _ _ (fun z => by rw [z] at ha; exact absurd ha (by decide))) (fun a ha => funext fun k => up_ne _ _ _ _ (fun z => by rw [z] at ha; exact absurd ha (by decide))), hc.ext ?_ ?_, fun hf => ?_⟩
  · rw [up_neK _ _ (by decide), x1.s (by decide)]
  · rw [← x1.s (s := 10) (m := 5) (by decide)]
    exact funext fun k => up_ne _ _ _ _ (by decide)
  · obtain ⟨z, S, N, W, hD⟩ := hr rfl
    have hD := hD.fr x1 y1
    obtain ⟨d1, ⟨e1, e2, e3, e4, e5, e6, e7, e8⟩, d3, d4, d5, d6, d7, d8, d9⟩ := hD
    have n8 : ∀ s, s ≠ 8 → up2 I1 (8, 5) 1 r (s, 5) = I1 (s, 5) := fun s hs => funext fun k => up_ne _ _ _ _ (fun z => hs (Prod.mk.inj z).1)
    have n61 : ∀ s, s ≠ 61 → up2 A1 (61, 0) 0 r' (s, 0) = A1 (s, 0) := fun s hs => funext fun k => up_ne _ _ _ _ (fun z => hs (Prod.mk.inj z).1)
    refine ⟨z, S, N, W, d1, ⟨?_, ?_, ?_, ?_, ?_, ?_, ?_, ?_⟩, ?_, ?_, d5, ?_, d7, ?_, ?_⟩
    · rw [up_same, up_same]
      exact (hq hf).1
    · rw [up_neK _ _ (by decide)]; exact e2
    · rw [up_neK _ _ (by decide)]; exact e3
    · rw [up_neK _ _ (by decide)]; exact e4
    · rw [up_neK _ _ (by decide)]; exact e5
    · rw [up_neK _ _ (by decide)]; exact e6
    · rw [up_neK _ _ (by decide)]; exact e7
    · rw [up_neK _ _ (by decide)]; exact e8
    · rw [n8 9 (by decide), n61 62 (by decide)]; exact d3
    · rw [n8 10 (by decide), n61 63 (by decide)]; exact d4
    · rw [n8 12 (by decide)]; exact d6
    · rw [n8 13 (by decide), n8 14 (by decide), n8 15 (by decide), n61 64 (by decide), n61 65 (by decide), n61 66 (by decide)]; exact d8
    · rw [n8 16 (by decide), n61 67 (by decide)]; exact d9
/-- a town -/
theorem rd_town {I A : IT} {J B : JT} {by_ : Nat → Nat} {n tk i p T : Nat} {dy : Nat → Nat → Nat} (h : RdS I A by_ n tk i 0 p dy T) (hT : T < 8) : RdO I A J B by_ n tk (some (none, hh (up2 I (8, 5) 2 (nJ (T + 1))) J)) (some (none, hh (up2 (up2 A (62, 0) T 0) (61, 0) 1 (nJ (T + 1))) B)) := by
  obtain ⟨hx, hc, hr⟩ := h
  refine ⟨_, _, i, 0, p, dy, T + 1, rfl, rfl, FrRC.up (by decide) (by decide), (FrRM.up (by decide) (by decide)).tr (FrRM.up (by decide) (by decide)), wr_tx hx (fun a ha => funext fun k => up_ne _ _ _ _ (fun z => by rw [z] at ha; exact absurd ha (by decide))) (fun a ha => funext fun k => by rw [up_ne _ _ _ _ (fun z => by rw [z] at ha; exact absurd ha (by decide)), up_ne _ _ _ _ (fun z => by rw [z] at ha; exact absurd ha (by decide))]), ⟨by omega, up_same _ _ _ _, fun a b ha hb => (up_ne _ _ _ _ (by decide)).trans (hc.2.2.1 a b ha hb), hc.2.2.2⟩, fun _ => ?_⟩
  obtain ⟨z, S, N, W, hD⟩ := hr rfl
  obtain ⟨⟨d11, d12, d13, d14⟩, ⟨e1, e2, e3, e4, e5, e6, e7, e8⟩, ⟨d31, d32⟩, d4, ⟨d51, d52⟩, d6, d7, d8, d9⟩ := hD
  have n8 : ∀ s, s ≠ 8 → up2 I (8, 5) 2 (nJ (T + 1)) (s, 5) = I (s, 5) := fun s hs => funext fun k => up_ne _ _ _ _ (fun z => hs (Prod.mk.inj z).1)
  have n61 : ∀ s, s ≠ 61 → s ≠ 62 → up2 (up2 A (62, 0) T 0) (61, 0) 1 (nJ (T + 1)) (s, 0) = A (s, 0) := fun s hs hs' => funext fun k => by rw [up_ne _ _ _ _ (fun z => hs (Prod.mk.inj z).1), up_ne _ _ _ _ (fun z => hs' (Prod.mk.inj z).1)]
  refine ⟨z, S, N, W, ⟨by omega, d12, d13, fun _ => by omega⟩, ⟨?_, up_same _ _ _ _, up_same _ _ _ _, ?_, ?_, ?_, ?_, ?_⟩, ⟨fun k hk => ?_, fun k h1 h2 => ?_⟩, ?_, ⟨d51, fun a b hab => ?_⟩, ?_, d7, ?_, ?_⟩
  · rw [up_neK _ _ (by decide), up_neK _ _ (by decide), up_ne _ _ _ _ (by decide)]; exact e1
  · rw [up_neK _ _ (by decide), up_ne _ _ _ _ (by decide)]; exact e4
  · rw [up_neK _ _ (by decide)]; exact e5
  · rw [up_neK _ _ (by decide), up_ne _ _ _ _ (by decide)]; exact e6
  · rw [up_neK _ _ (by decide)]; exact e7
  · rw [up_neK _ _ (by decide), up_ne _ _ _ _ (by decide)]; exact e8
  · rw [n8 9 (by decide), up_ne _ _ _ _ (by decide)]
    by_cases e : k = T
    · rw [e, up_same, d32 T (Nat.le_refl T) hT]
      exact ⟨rfl, 0, by decide, rfl⟩
    · rw [up_neK _ _ e]
      exact d31 k (by omega)
  · rw [n8 9 (by decide)]
    exact d32 k (by omega) h2
  · rw [n8 10 (by decide), n61 63 (by decide) (by decide)]; exact d4
  · obtain ⟨q1, q2, q3, q4⟩ := d52 a b hab
    exact ⟨by omega, by omega, q3, q4⟩
  · rw [n8 12 (by decide)]; exact d6
  · rw [n8 13 (by decide), n8 14 (by decide), n8 15 (by decide), n61 64 (by decide) (by decide), n61 65 (by decide) (by decide), n61 66 (by decide) (by decide)]
    intro k hk
    obtain ⟨⟨a1, t, ht, a2⟩, a3, a4⟩ := d8 k hk
    exact ⟨⟨a1, t, by omega, a2⟩, a3, a4⟩
  · rw [n8 16 (by decide), n61 67 (by decide) (by decide)]; exact d9
