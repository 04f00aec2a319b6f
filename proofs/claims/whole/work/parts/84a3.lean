theorem scM_43 (A : IT) : scM A 43 25 = A (43, 0) 25 ∧ scM A 43 48 = A (43, 0) 48 := ⟨rfl, rfl⟩
theorem scM_in {A : IT} {f k : Nat} (h : inT f k) (hf : f ≠ 43) : scM A f k = A (f, 0) k := by
  unfold scM
  rw [beq_f hf]
  have : ((Nat.ble 44 f && Nat.ble f 60) || Nat.beq f 78) = true := by
    simp only [Bool.or_eq_true, Bool.and_eq_true, Nat.ble_eq, Nat.beq_eq]
    unfold inT at h
    omega
  rw [this]
  rfl
theorem nar01 {x : Int32} (h : x = 0 ∨ x = 1) : vp_nar .boolean x = x := by
  rcases h with rfl | rfl <;> decide
