theorem im0_in {A : IT} {i : Nat} (h : i < 3400) : im0 A i = A (87, 0) i := by
  have hb : Nat.ble 3400 i = false := by
    cases e : Nat.ble 3400 i with
    | false => rfl
    | true => exact absurd (Nat.le_of_ble_eq_true e) (Nat.not_le_of_lt h)
  exact congrArg (fun b => cond b 0 (A (87, 0) i)) hb
theorem aRow_lt {f o L k : Nat} (h : (f, o, L) ∈ aRows) (hk : k < L) : o + k < 805 := by
  have : ∀ r ∈ aRows, r.2.1 + r.2.2 ≤ 805 := by decide
  have := this _ h
  have e : o + L ≤ 805 := this
  omega
