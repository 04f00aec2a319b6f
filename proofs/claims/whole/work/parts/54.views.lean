/-! VIEWS of changed heaps -/
theorem scC_up {I : IT} {n s k : Nat} {x : Int32} (hs : 7 ≤ s ∧ s ≤ 27) (f j : Nat) : scC (up2 I (s, n) k x) n f j = if f = s ∧ j = k then x else scC I n f j := by
  unfold scC
  by_cases h : f = s ∧ j = k
  · rw [if_pos h, h.1, h.2, Nat.ble_eq_true_of_le hs.1, Nat.ble_eq_true_of_le hs.2]
    exact up_same _ _ _ _
  · rw [if_neg h]
    have : up2 I (s, n) k x (f, n) j = I (f, n) j := if_neg fun q => h ⟨(Prod.mk.inj q.1).1, q.2⟩
    rw [this]
theorem scC_ne {I : IT} {n : Nat} {a : Ad} {k : Nat} {x : Int32} (h : a.2 ≠ n ∨ a.1 < 7 ∨ 27 < a.1) : scC (up2 I a k x) n = scC I n := scC_ext fun b j h1 h2 h3 => up_ne _ _ _ _ fun e => by
  subst e
  omega
theorem scM_up {A : IT} {s k : Nat} {x : Int32} (hs : (44 ≤ s ∧ s ≤ 60) ∨ s = 78) (f j : Nat) : scM (up2 A (s, 0) k x) f j = if f = s ∧ j = k then x else scM A f j := by
  unfold scM
  by_cases h : f = s ∧ j = k
  · rw [if_pos h, h.1, h.2]
    have h1 : Nat.beq s 43 = false := by
      cases hq : Nat.beq s 43
      · rfl
      · rw [Nat.beq_eq] at hq; omega
    have h2 : ((Nat.ble 44 s && Nat.ble s 60) || Nat.beq s 78) = true := by
      simp only [Bool.or_eq_true, Bool.and_eq_true, Nat.ble_eq, Nat.beq_eq]
      exact hs
    rw [h1, h2]
    exact up_same _ _ _ _
  · rw [if_neg h]
    have e1 : up2 A (s, 0) k x (f, 0) j = A (f, 0) j := if_neg fun q => h ⟨(Prod.mk.inj q.1).1, q.2⟩
    have e2 : up2 A (s, 0) k x (43, 0) j = A (43, 0) j := if_neg fun q => by
      have := (Prod.mk.inj q.1).1
      omega
    rw [e1, e2]
theorem scM_ne {A : IT} {a : Ad} {k : Nat} {x : Int32} (h : (a.1 < 43 ∨ (a.1 = 43 ∧ k ≠ 25 ∧ k ≠ 48) ∨ (60 < a.1 ∧ a.1 ≠ 78))) : scM (up2 A a k x) = scM A := scM_ext fun b j hb => if_neg fun q => by
  obtain ⟨q1, q2⟩ := q
  subst q1
  subst q2
  rcases hb with ⟨hb, hk⟩ | hb | hb
  · subst hb
    simp at h
    omega
  · omega
  · omega
theorem WkR.G {c m : FT} {T S N G G' : Nat} (h : WkR c m T S N G) (hg : ∀ w, w < N → ∃ t, t < G' ∧ c 19 w = nJ t) : WkR c m T S N G' := by
  obtain ⟨h1, h2, h3, h4, h5, h6, h7⟩ := h
  exact ⟨h1, h2, h3, h4, h5, fun w hw => ⟨(h6 w hw).1, ⟨(h6 w hw).2.1.1, hg w hw⟩, (h6 w hw).2.2⟩, h7⟩
/-- one walker's own things change -/
theorem WkR.setw {c m c' m' : FT} {T S N G : Nat} (h : WkR c m T S N G) (w : Nat) (hc : ∀ f k, 17 ≤ f → f ≤ 23 → (f = 17 ∨ f = 22 ∨ f = 23 ∨ k ≠ w) → c' f k = c f k) (hm : ∀ f k, 44 ≤ f → f ≤ 56 → (f = 44 ∨ f = 51 ∨ f = 52 ∨ k ≠ w) → m' f k = m f k)
    (hw : w < N → (c' 18 w = m' 53 w ∧ ∃ t, t < T ∧ c' 18 w = nJ t) ∧ (c' 19 w = m' 54 w ∧ ∃ t, t < G ∧ c' 19 w = nJ t) ∧ (c' 20 w = m' 55 w ∧ ∃ t, t < 10000 ∧ c' 20 w = nJ t) ∧ c' 21 w = m' 56 w) : WkR c' m' T S N G := by
  obtain ⟨h1, h2, h3, h4, h5, h6, h7, h8⟩ := h
  have e17 : ∀ k, c' 17 k = c 17 k := fun k => hc 17 k (by decide) (by decide) (Or.inl rfl)
  have e22 : ∀ k, c' 22 k = c 22 k := fun k => hc 22 k (by decide) (by decide) (Or.inr (Or.inl rfl))
  have e23 : ∀ k, c' 23 k = c 23 k := fun k => hc 23 k (by decide) (by decide) (Or.inr (Or.inr (Or.inl rfl)))
  have f44 : ∀ k, m' 44 k = m 44 k := fun k => hm 44 k (by decide) (by decide) (Or.inl rfl)
  have f51 : ∀ k, m' 51 k = m 51 k := fun k => hm 51 k (by decide) (by decide) (Or.inr (Or.inl rfl))
  have f52 : ∀ k, m' 52 k = m 52 k := fun k => hm 52 k (by decide) (by decide) (Or.inr (Or.inr (Or.inl rfl)))
  unfold WkR
  simp only [e17, e22, e23, f44, f51, f52]
  refine ⟨h1, h2, h3, h4, h5, fun w' hw' => ?_, h7, h8⟩
  by_cases e : w' = w
  · rw [e] at hw' ⊢
    exact hw hw'
  · rw [hc 18 w' (by decide) (by decide) (Or.inr (Or.inr (Or.inr e))), hc 19 w' (by decide) (by decide) (Or.inr (Or.inr (Or.inr e))), hc 20 w' (by decide) (by decide) (Or.inr (Or.inr (Or.inr e))), hc 21 w' (by decide) (by decide) (Or.inr (Or.inr (Or.inr e))), hm 53 w' (by decide) (by decide) (Or.inr (Or.inr (Or.inr e))), hm 54 w' (by decide) (by decide) (Or.inr (Or.inr (Or.inr e))), hm 55 w' (by decide) (by decide) (Or.inr (Or.inr (Or.inr e))), hm 56 w' (by decide) (by decide) (Or.inr (Or.inr (Or.inr e)))]
    exact h6 w' hw'
/-- the walk looks at these alone -/
theorem WkR_ext {c m c' m' : FT} {T S N G : Nat} (hN : N ≤ 3) (hS : S ≤ 6) (hc : ∀ f k, 17 ≤ f → f ≤ 23 → (f = 17 → k < 4) → (18 ≤ f → f ≤ 21 → k < 3) → (22 ≤ f → k < 6) → c' f k = c f k)
    (hm : ∀ f k, f = 44 ∨ (51 ≤ f ∧ f ≤ 56) → (f = 44 → 5 ≤ k ∧ k < 10) → (53 ≤ f → k < 3) → (51 ≤ f → f ≤ 52 → k < 6) → m' f k = m f k) (h : WkR c m T S N G) : WkR c' m' T S N G := by
  obtain ⟨h1, h2, h3, h4, h5, h6, h7, h8⟩ := h
  have e17 : ∀ k, k < 4 → c' 17 k = c 17 k := fun k hk => hc 17 k (by decide) (by decide) (fun _ => hk) (fun h => absurd h (by decide)) (fun h => absurd h (by decide))
  have e22 : ∀ k, k < 6 → c' 22 k = c 22 k := fun k hk => hc 22 k (by decide) (by decide) (fun h => absurd h (by decide)) (fun _ h => absurd h (by decide)) (fun _ => hk)
  have e23 : ∀ k, k < 6 → c' 23 k = c 23 k := fun k hk => hc 23 k (by decide) (by decide) (fun h => absurd h (by decide)) (fun _ h => absurd h (by decide)) (fun _ => hk)
  have eW : ∀ f k, 18 ≤ f → f ≤ 21 → k < 3 → c' f k = c f k := fun f k h1 h2 hk => hc f k (by omega) (by omega) (fun h => by omega) (fun _ _ => hk) (fun h => by omega)
  have f44 : ∀ k, 5 ≤ k → k < 10 → m' 44 k = m 44 k := fun k h1 h2 => hm 44 k (Or.inl rfl) (fun _ => ⟨h1, h2⟩) (fun h => absurd h (by decide)) (fun h => absurd h (by decide))
  have fS : ∀ f k, 51 ≤ f → f ≤ 52 → k < 6 → m' f k = m f k := fun f k h1 h2 hk => hm f k (Or.inr (by omega)) (fun h => by omega) (fun h => by omega) (fun _ _ => hk)
  have fW : ∀ f k, 53 ≤ f → f ≤ 56 → k < 3 → m' f k = m f k := fun f k h1 h2 hk => hm f k (Or.inr (by omega)) (fun h => by omega) (fun _ => hk) (fun _ h => by omega)
  unfold WkR
  rw [e17 0 (by decide), e17 1 (by decide), e17 2 (by decide), e17 3 (by decide), f44 5 (by decide) (by decide), f44 6 (by decide) (by decide), f44 7 (by decide) (by decide), f44 8 (by decide) (by decide), f44 9 (by decide) (by decide)]
  refine ⟨h1, h2, h3, h4, ?_, fun w hw => ?_, fun k hk => ?_, fun k hk1 hk2 => ?_⟩
  · obtain ⟨z, hz, e, hb⟩ := h5
    exact ⟨z, hz, e, fun k hk => by rw [e23 k (by omega)]; exact hb k hk⟩
  · rw [eW 18 w (by decide) (by decide) (by omega), eW 19 w (by decide) (by decide) (by omega), eW 20 w (by decide) (by decide) (by omega), eW 21 w (by decide) (by decide) (by omega), fW 53 w (by decide) (by decide) (by omega), fW 54 w (by decide) (by decide) (by omega), fW 55 w (by decide) (by decide) (by omega), fW 56 w (by decide) (by decide) (by omega)]
    exact h6 w hw
  · rw [e22 k (by omega), e23 k (by omega), fS 51 k (by decide) (by decide) (by omega), fS 52 k (by decide) (by decide) (by omega)]
    exact h7 k hk
  · rw [e22 k hk2]
    exact h8 k hk1 hk2
