/-- a place of a scene lies in a row that is carried -/
theorem inT_row {f k : Nat} (h : inT f k) (hf : f ≠ 43) : ∃ L, (f, ofs f, L) ∈ aRows ∧ k < L := by
  unfold inT at h
  rcases h with ⟨e, -⟩ | ⟨e, h⟩ | ⟨e, h⟩ | ⟨e | e, h⟩ | ⟨⟨e1, e2⟩, h⟩ | ⟨⟨e1, e2⟩, h⟩ | ⟨⟨e1, e2⟩, h⟩ | ⟨e, h⟩ | ⟨e, h⟩
  · exact absurd e hf
  · subst e; exact ⟨13, by decide, h⟩
  · subst e; exact ⟨8, by decide, h⟩
  · subst e; exact ⟨64, by decide, h⟩
  · subst e; exact ⟨64, by decide, h⟩
  · have : f = 48 ∨ f = 49 ∨ f = 50 ∨ f = 51 ∨ f = 52 := by omega
    rcases this with rfl | rfl | rfl | rfl | rfl <;> exact ⟨6, by decide, h⟩
  · have : f = 53 ∨ f = 54 ∨ f = 55 ∨ f = 56 := by omega
    rcases this with rfl | rfl | rfl | rfl <;> exact ⟨3, by decide, h⟩
  · have : f = 57 ∨ f = 58 ∨ f = 59 := by omega
    rcases this with rfl | rfl | rfl <;> exact ⟨10, by decide, h⟩
  · subst e; exact ⟨3, by decide, h⟩
  · subst e; exact ⟨580, by decide, h⟩
