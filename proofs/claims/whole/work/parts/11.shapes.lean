theorem sh_bad : Shp a_bad := fun _ _ _ => sp0 fun _ _ => rfl
theorem sh_cI (nx : Nat) (v : Int32) : Shp (a_cI nx v) := fun _ _ h => sp2 (Gh.rf h) fun _ _ => rfl
theorem sh_cL (nx : Nat) (v : Int64) : Shp (a_cL nx v) := fun _ _ h => sp2 (Gh.rf h) fun _ _ => rfl
theorem sh_cS (nx k : Nat) : Shp (a_cS nx k) := fun _ _ h => sp2 (Gh.rf h) fun _ _ => rfl
theorem sh_cN (nx : Nat) : Shp (a_cN nx) := fun _ _ h => sp2 (Gh.rf h) fun _ _ => rfl
theorem sh_go (t : Nat) : Shp (a_go t) := fun _ _ h => sp2 (Gh.rf h) fun _ _ => rfl
theorem sh_ild (nx i : Nat) : Shp (a_ild nx i) := by
  intro ls st h
  rcases hv : nthD ls i vU with x | x
  · exact sp2 (Gh.rf h) fun _ _ => by simp only [a_ild, hv]; rfl
  · exact sp0 fun _ _ => by simp only [a_ild, hv]
theorem sh_lld (nx i : Nat) : Shp (a_lld nx i) := by
  intro ls st h
  rcases hv : nthD ls i vU with x | x | x
  · exact sp0 fun _ _ => by simp only [a_lld, hv]
  · exact sp2 (Gh.rf h) fun _ _ => by simp only [a_lld, hv]; rfl
  · exact sp0 fun _ _ => by simp only [a_lld, hv]
theorem sh_ald (nx i : Nat) : Shp (a_ald nx i) := by
  intro ls st h
  rcases hv : nthD ls i vU with x | x | x | (x | x)
  · exact sp0 fun _ _ => by simp only [a_ald, hv]
  · exact sp0 fun _ _ => by simp only [a_ald, hv]
  · exact sp2 (Gh.rf h) fun _ _ => by simp only [a_ald, hv]; rfl
  · exact sp0 fun _ _ => by simp only [a_ald, hv]
  · exact sp2 (Gh.rf h) fun _ _ => by simp only [a_ald, hv]; rfl
theorem sh_ist (nx i : Nat) : Shp (a_ist nx i) := by
  intro ls st h
  rcases st with _ | ⟨x | x, st⟩
  · exact sp0 fun _ _ => rfl
  · exact sp2 (Gh.rf h) fun _ _ => rfl
  · exact sp0 fun _ _ => rfl
theorem sh_lst (nx i : Nat) : Shp (a_lst nx i) := by
  intro ls st h
  rcases st with _ | ⟨x | x | x, st⟩
  · exact sp0 fun _ _ => rfl
  · exact sp0 fun _ _ => rfl
  · exact sp2 (Gh.rf h) fun _ _ => rfl
  · exact sp0 fun _ _ => rfl
theorem sh_ast (nx i : Nat) : Shp (a_ast nx i) := by
  intro ls st h
  rcases st with _ | ⟨x | x | x | (x | x), st⟩
  · exact sp0 fun _ _ => rfl
  · exact sp0 fun _ _ => rfl
  · exact sp0 fun _ _ => rfl
  · exact sp2 (Gh.rf h) fun _ _ => rfl
  · exact sp0 fun _ _ => rfl
  · exact sp2 (Gh.rf h) fun _ _ => rfl
theorem sh_inc (nx i : Nat) (n : Int32) : Shp (a_inc nx i n) := by
  intro ls st h
  rcases hv : nthD ls i vU with x | x
  · exact sp2 (Gh.rf h) fun _ _ => by simp only [a_inc, hv]; rfl
  · exact sp0 fun _ _ => by simp only [a_inc, hv]
theorem sh_b2 (f : Int32 → Int32 → Int32) (nx : Nat) : Shp (a_b2 f nx) := by
  intro ls st h
  rcases st with _ | ⟨y | y, _ | ⟨x | x, st⟩⟩ <;> first | exact sp0 fun _ _ => rfl | exact sp2 (Gh.rf h) fun _ _ => rfl
theorem sh_d2 (f : Int32 → Int32 → Int32) (nx : Nat) : Shp (a_d2 f nx) := by
  intro ls st h
  rcases st with _ | ⟨y | y, _ | ⟨x | x, st⟩⟩
  · exact sp0 fun _ _ => rfl
  · exact sp0 fun _ _ => rfl
  · by_cases hy : y = 0
    · exact sp0 fun _ _ => if_pos hy
    · exact sp2 (Gh.rf h) fun _ _ => if_neg hy
  all_goals exact sp0 fun _ _ => rfl
theorem sh_b2l (f : Int64 → Int64 → Int64) (nx : Nat) : Shp (a_b2l f nx) := by
  intro ls st h
  rcases st with _ | ⟨y | y | y, _ | ⟨x | x | x, st⟩⟩ <;> first | exact sp0 fun _ _ => rfl | exact sp2 (Gh.rf h) fun _ _ => rfl
theorem sh_d2l (f : Int64 → Int64 → Int64) (nx : Nat) : Shp (a_d2l f nx) := by
  intro ls st h
  rcases st with _ | ⟨y | y | y, _ | ⟨x | x | x, st⟩⟩ <;> first
    | exact sp0 fun _ _ => rfl
    | (by_cases hy : y = 0
       · exact sp0 fun _ _ => if_pos hy
       · exact sp2 (Gh.rf h) fun _ _ => if_neg hy)
theorem sh_s2l (f : Int64 → Int32 → Int64) (nx : Nat) : Shp (a_s2l f nx) := by
  intro ls st h
  rcases st with _ | ⟨y | y, _ | ⟨x | x | x, st⟩⟩ <;> first | exact sp0 fun _ _ => rfl | exact sp2 (Gh.rf h) fun _ _ => rfl
theorem sh_lcmp (nx : Nat) : Shp (a_lcmp nx) := by
  intro ls st h
  rcases st with _ | ⟨y | y | y, _ | ⟨x | x | x, st⟩⟩ <;> first | exact sp0 fun _ _ => rfl | exact sp2 (Gh.rf h) fun _ _ => rfl
theorem sh_i2l (nx : Nat) : Shp (a_i2l nx) := by
  intro ls st h
  rcases st with _ | ⟨y | y, st⟩ <;> first | exact sp0 fun _ _ => rfl | exact sp2 (Gh.rf h) fun _ _ => rfl
theorem sh_l2i (nx : Nat) : Shp (a_l2i nx) := by
  intro ls st h
  rcases st with _ | ⟨y | y | y, st⟩ <;> first | exact sp0 fun _ _ => rfl | exact sp2 (Gh.rf h) fun _ _ => rfl
theorem sh_i2b (nx : Nat) : Shp (a_i2b nx) := by
  intro ls st h
  rcases st with _ | ⟨y | y, st⟩ <;> first | exact sp0 fun _ _ => rfl | exact sp2 (Gh.rf h) fun _ _ => rfl
theorem sh_dup (nx : Nat) : Shp (a_dup nx) := by
  intro ls st h
  rcases st with _ | ⟨y | y | y | y, st⟩ <;> first | exact sp0 fun _ _ => rfl | exact sp2 (Gh.rf h) fun _ _ => rfl
theorem sh_dup2 (nx : Nat) : Shp (a_dup2 nx) := by
  intro ls st h
  rcases st with _ | ⟨y | y, _ | ⟨x | x | x | x, st⟩⟩ <;> first | exact sp0 fun _ _ => rfl | exact sp2 (Gh.rf h) fun _ _ => rfl
theorem sh_pop (nx : Nat) : Shp (a_pop nx) := by
  intro ls st h
  rcases st with _ | ⟨y | y, st⟩ <;> first | exact sp0 fun _ _ => rfl | exact sp2 (Gh.rf h) fun _ _ => rfl
theorem sh_nul (nx t : Nat) : Shp (a_nul nx t) := by
  intro ls st h
  rcases st with _ | ⟨y | y | y | (y | y), st⟩ <;> first | exact sp0 fun _ _ => rfl | exact sp2 (Gh.rf h) fun _ _ => rfl
theorem sh_ieq (nx t : Nat) : Shp (a_ieq nx t) := by
  intro ls st h
  rcases st with _ | ⟨y | y, _ | ⟨x | x, st⟩⟩
  · exact sp0 fun _ _ => rfl
  · exact sp0 fun _ _ => rfl
  · by_cases hc : x = y
    · exact sp2 (Gh.rf h) fun _ _ => if_pos hc
    · exact sp2 (Gh.rf h) fun _ _ => if_neg hc
  all_goals exact sp0 fun _ _ => rfl
theorem sh_ine (nx t : Nat) : Shp (a_ine nx t) := by
  intro ls st h
  rcases st with _ | ⟨y | y, _ | ⟨x | x, st⟩⟩
  · exact sp0 fun _ _ => rfl
  · exact sp0 fun _ _ => rfl
  · by_cases hc : x = y
    · exact sp2 (Gh.rf h) fun _ _ => if_pos hc
    · exact sp2 (Gh.rf h) fun _ _ => if_neg hc
  all_goals exact sp0 fun _ _ => rfl
theorem sh_ilt (nx t : Nat) : Shp (a_ilt nx t) := by
  intro ls st h
  rcases st with _ | ⟨y | y, _ | ⟨x | x, st⟩⟩
  · exact sp0 fun _ _ => rfl
  · exact sp0 fun _ _ => rfl
  · by_cases hc : x < y
    · exact sp2 (Gh.rf h) fun _ _ => if_pos hc
    · exact sp2 (Gh.rf h) fun _ _ => if_neg hc
  all_goals exact sp0 fun _ _ => rfl
theorem sh_ige (nx t : Nat) : Shp (a_ige nx t) := by
  intro ls st h
  rcases st with _ | ⟨y | y, _ | ⟨x | x, st⟩⟩
  · exact sp0 fun _ _ => rfl
  · exact sp0 fun _ _ => rfl
  · by_cases hc : x < y
    · exact sp2 (Gh.rf h) fun _ _ => if_pos hc
    · exact sp2 (Gh.rf h) fun _ _ => if_neg hc
  all_goals exact sp0 fun _ _ => rfl
theorem sh_igt (nx t : Nat) : Shp (a_igt nx t) := by
  intro ls st h
  rcases st with _ | ⟨y | y, _ | ⟨x | x, st⟩⟩
  · exact sp0 fun _ _ => rfl
  · exact sp0 fun _ _ => rfl
  · by_cases hc : y < x
    · exact sp2 (Gh.rf h) fun _ _ => if_pos hc
    · exact sp2 (Gh.rf h) fun _ _ => if_neg hc
  all_goals exact sp0 fun _ _ => rfl
theorem sh_ile (nx t : Nat) : Shp (a_ile nx t) := by
  intro ls st h
  rcases st with _ | ⟨y | y, _ | ⟨x | x, st⟩⟩
  · exact sp0 fun _ _ => rfl
  · exact sp0 fun _ _ => rfl
  · by_cases hc : y < x
    · exact sp2 (Gh.rf h) fun _ _ => if_pos hc
    · exact sp2 (Gh.rf h) fun _ _ => if_neg hc
  all_goals exact sp0 fun _ _ => rfl
theorem sh_zeq (nx t : Nat) : Shp (a_zeq nx t) := by
  intro ls st h
  rcases st with _ | ⟨x | x, st⟩
  · exact sp0 fun _ _ => rfl
  · by_cases hc : x = 0
    · exact sp2 (Gh.rf h) fun _ _ => if_pos hc
    · exact sp2 (Gh.rf h) fun _ _ => if_neg hc
  · exact sp0 fun _ _ => rfl
theorem sh_zne (nx t : Nat) : Shp (a_zne nx t) := by
  intro ls st h
  rcases st with _ | ⟨x | x, st⟩
  · exact sp0 fun _ _ => rfl
  · by_cases hc : x = 0
    · exact sp2 (Gh.rf h) fun _ _ => if_pos hc
    · exact sp2 (Gh.rf h) fun _ _ => if_neg hc
  · exact sp0 fun _ _ => rfl
theorem sh_zlt (nx t : Nat) : Shp (a_zlt nx t) := by
  intro ls st h
  rcases st with _ | ⟨x | x, st⟩
  · exact sp0 fun _ _ => rfl
  · by_cases hc : x < 0
    · exact sp2 (Gh.rf h) fun _ _ => if_pos hc
    · exact sp2 (Gh.rf h) fun _ _ => if_neg hc
  · exact sp0 fun _ _ => rfl
theorem sh_zge (nx t : Nat) : Shp (a_zge nx t) := by
  intro ls st h
  rcases st with _ | ⟨x | x, st⟩
  · exact sp0 fun _ _ => rfl
  · by_cases hc : x < 0
    · exact sp2 (Gh.rf h) fun _ _ => if_pos hc
    · exact sp2 (Gh.rf h) fun _ _ => if_neg hc
  · exact sp0 fun _ _ => rfl
theorem sh_zgt (nx t : Nat) : Shp (a_zgt nx t) := by
  intro ls st h
  rcases st with _ | ⟨x | x, st⟩
  · exact sp0 fun _ _ => rfl
  · by_cases hc : 0 < x
    · exact sp2 (Gh.rf h) fun _ _ => if_pos hc
    · exact sp2 (Gh.rf h) fun _ _ => if_neg hc
  · exact sp0 fun _ _ => rfl
theorem sh_zle (nx t : Nat) : Shp (a_zle nx t) := by
  intro ls st h
  rcases st with _ | ⟨x | x, st⟩
  · exact sp0 fun _ _ => rfl
  · by_cases hc : 0 < x
    · exact sp2 (Gh.rf h) fun _ _ => if_pos hc
    · exact sp2 (Gh.rf h) fun _ _ => if_neg hc
  · exact sp0 fun _ _ => rfl
theorem swF_sh (ls st : List Vl) (h : Hp) (x : Int32) (d : Nat) : ∀ l : List (Int32 × Nat), ∃ pc', ∀ F : Kf, swF F ls st h x d l = F pc' ls st h
  | [] => ⟨d, fun _ => rfl⟩
  | (k, t) :: l => by
    obtain ⟨q, hq⟩ := swF_sh ls st h x d l
    by_cases hc : x = k
    · exact ⟨t, fun F => by simp only [swF, if_pos hc]⟩
    · exact ⟨q, fun F => by simp only [swF, if_neg hc, hq]⟩
theorem sh_sw (d : Nat) (l : List (Int32 × Nat)) : Shp (a_sw d l) := by
  intro ls st h
  rcases st with _ | ⟨x | x, st⟩
  · exact sp0 fun _ _ => rfl
  · obtain ⟨q, hq⟩ := swF_sh ls st h x d l
    exact sp2 (Gh.rf h) fun F _ => hq F
  · exact sp0 fun _ _ => rfl
theorem cnd {α : Type} {b : Bool} {x y : α} (h : b = true) : (bif b then x else y) = x := by rw [h]; rfl
theorem cndF {α : Type} {b : Bool} {x y : α} (h : b = false) : (bif b then x else y) = y := by rw [h]; rfl
theorem sh_gI (nx c k : Nat) : Shp (a_gI nx c k) := by
  intro ls st h
  rcases st with _ | ⟨y | y | a | y, st⟩
  · exact sp0 fun _ _ => rfl
  · exact sp0 fun _ _ => rfl
  · exact sp0 fun _ _ => rfl
  · cases hk : kdc (kd a.1) 0 c
    · exact sp0 fun _ _ => cndF hk
    · exact sp2 (Gh.rf h) fun _ _ => cnd hk
  · exact sp0 fun _ _ => rfl
theorem sh_gR (nx c k : Nat) : Shp (a_gR nx c k) := by
  intro ls st h
  rcases st with _ | ⟨y | y | a | y, st⟩
  · exact sp0 fun _ _ => rfl
  · exact sp0 fun _ _ => rfl
  · exact sp0 fun _ _ => rfl
  · cases hk : kdc (kd a.1) 0 c
    · exact sp0 fun _ _ => cndF hk
    · rcases hv : gR h a k with _ | b
      · exact sp2 (Gh.rf h) fun _ _ => by simp only [a_gR, hk, hv, cond_true]; rfl
      · exact sp2 (Gh.rf h) fun _ _ => by simp only [a_gR, hk, hv, cond_true]; rfl
  · exact sp0 fun _ _ => rfl
theorem sh_pI (nx c k : Nat) : Shp (a_pI nx c k) := by
  intro ls st h
  rcases st with _ | ⟨x | x, _ | ⟨y | y | a | y, st⟩⟩ <;> first
    | exact sp0 fun _ _ => rfl
    | (cases hk : kdc (kd a.1) 0 c
       · exact sp0 fun _ _ => cndF hk
       · exact sp2 (Gh_stI (kdc9 hk (by decide))) fun _ _ => cnd hk)
theorem sh_pZ (nx c k : Nat) : Shp (a_pZ nx c k) := by
  intro ls st h
  rcases st with _ | ⟨x | x, _ | ⟨y | y | a | y, st⟩⟩ <;> first
    | exact sp0 fun _ _ => rfl
    | (cases hk : kdc (kd a.1) 0 c
       · exact sp0 fun _ _ => cndF hk
       · by_cases hx : x = 0 ∨ x = 1
         · exact sp2 (Gh_stI (kdc9 hk (by decide))) fun _ _ => (cnd hk).trans (if_pos hx)
         · exact sp0 fun _ _ => (cnd hk).trans (if_neg hx))
theorem sh_pR (nx c k : Nat) : Shp (a_pR nx c k) := by
  intro ls st h
  rcases st with _ | ⟨x | x | b | x, _ | ⟨y | y | a | y, st⟩⟩ <;> first
    | exact sp0 fun _ _ => rfl
    | (cases hk : kdc (kd a.1) 0 c && (Nat.ble (kd b.1).1 6 && !(gP h).isEmpty)
       · exact sp0 fun _ _ => cndF hk
       · exact sp2 (Gh_stR (by simp only [Bool.and_eq_true] at hk; exact hk.2.2)) fun _ _ => cnd hk)
theorem sh_iald (nx : Nat) : Shp (a_iald nx) := by
  intro ls st h
  rcases st with _ | ⟨i | i, _ | ⟨y | y | a | y, st⟩⟩ <;> first
    | exact sp0 fun _ _ => rfl
    | (cases hk : (Nat.beq (kd a.1).1 1)
       · exact sp0 fun _ _ => cndF hk
       · by_cases hx : i < 0 ∨ (kd a.1).2 ≤ i.toNatClampNeg
         · exact sp0 fun _ _ => (cnd hk).trans (if_pos hx)
         · exact sp2 (Gh.rf h) fun _ _ => (cnd hk).trans (if_neg hx))
theorem sh_lald (nx : Nat) : Shp (a_lald nx) := by
  intro ls st h
  rcases st with _ | ⟨i | i, _ | ⟨y | y | a | y, st⟩⟩ <;> first
    | exact sp0 fun _ _ => rfl
    | (cases hk : (Nat.beq (kd a.1).1 4)
       · exact sp0 fun _ _ => cndF hk
       · by_cases hx : i < 0 ∨ (kd a.1).2 ≤ i.toNatClampNeg
         · exact sp0 fun _ _ => (cnd hk).trans (if_pos hx)
         · exact sp2 (Gh.rf h) fun _ _ => (cnd hk).trans (if_neg hx))
theorem sh_bald (nx : Nat) : Shp (a_bald nx) := by
  intro ls st h
  rcases st with _ | ⟨i | i, _ | ⟨y | y | a | y, st⟩⟩ <;> first
    | exact sp0 fun _ _ => rfl
    | (cases hk : (Nat.beq (kd a.1).1 2 || Nat.beq (kd a.1).1 3)
       · exact sp0 fun _ _ => cndF hk
       · by_cases hx : i < 0 ∨ (kd a.1).2 ≤ i.toNatClampNeg
         · exact sp0 fun _ _ => (cnd hk).trans (if_pos hx)
         · exact sp2 (Gh.rf h) fun _ _ => (cnd hk).trans (if_neg hx))
theorem sh_iast (nx : Nat) : Shp (a_iast nx) := by
  intro ls st h
  rcases st with _ | ⟨x | x, _ | ⟨i | i, _ | ⟨y | y | a | y, st⟩⟩⟩ <;> first
    | exact sp0 fun _ _ => rfl
    | (cases hk : Nat.beq (kd a.1).1 1
       · exact sp0 fun _ _ => cndF hk
       · by_cases hx : i < 0 ∨ (kd a.1).2 ≤ i.toNatClampNeg
         · exact sp0 fun _ _ => (cnd hk).trans (if_pos hx)
         · exact sp2 (Gh_stI (beq9 hk (by decide))) fun _ _ => (cnd hk).trans (if_neg hx))
theorem sh_last (nx : Nat) : Shp (a_last nx) := by
  intro ls st h
  rcases st with _ | ⟨x | x | x, _ | ⟨i | i, _ | ⟨y | y | a | y, st⟩⟩⟩ <;> first
    | exact sp0 fun _ _ => rfl
    | (cases hk : Nat.beq (kd a.1).1 4
       · exact sp0 fun _ _ => cndF hk
       · by_cases hx : i < 0 ∨ (kd a.1).2 ≤ i.toNatClampNeg
         · exact sp0 fun _ _ => (cnd hk).trans (if_pos hx)
         · exact sp2 Gh_stJ fun _ _ => (cnd hk).trans (if_neg hx))
theorem sh_bast (nx : Nat) : Shp (a_bast nx) := by
  intro ls st h
  rcases st with _ | ⟨x | x, _ | ⟨i | i, _ | ⟨y | y | a | y, st⟩⟩⟩ <;> first
    | exact sp0 fun _ _ => rfl
    | (by_cases hx : i < 0 ∨ (kd a.1).2 ≤ i.toNatClampNeg
       · cases hk : Nat.beq (kd a.1).1 2
         · cases hk3 : Nat.beq (kd a.1).1 3
           · exact sp0 fun _ _ => (cndF hk).trans (cndF hk3)
           · exact sp0 fun _ _ => (cndF hk).trans ((cnd hk3).trans (if_pos hx))
         · exact sp0 fun _ _ => (cnd hk).trans (if_pos hx)
       · cases hk : Nat.beq (kd a.1).1 2
         · cases hk3 : Nat.beq (kd a.1).1 3
           · exact sp0 fun _ _ => (cndF hk).trans (cndF hk3)
           · exact sp2 (Gh_stI (beq9 hk3 (by decide))) fun _ _ => (cndF hk).trans ((cnd hk3).trans (if_neg hx))
         · exact sp2 (Gh_stI (beq9 hk (by decide))) fun _ _ => (cnd hk).trans (if_neg hx))
theorem sh_aald (nx : Nat) : Shp (a_aald nx) := by
  intro ls st h
  rcases st with _ | ⟨i | i, _ | ⟨y | y | a | y, st⟩⟩ <;> first
    | exact sp0 fun _ _ => rfl
    | (cases hk : (Nat.beq (kd a.1).1 5 || Nat.beq (kd a.1).1 6)
       · exact sp0 fun _ _ => cndF hk
       · by_cases hx : i < 0 ∨ (kd a.1).2 ≤ i.toNatClampNeg
         · exact sp0 fun _ _ => (cnd hk).trans (if_pos hx)
         · rcases hv : gR h a i.toNatClampNeg with _ | b
           · exact sp2 (Gh.rf h) fun _ _ => by simp only [a_aald, hk, hv, cond_true, if_neg hx]; rfl
           · exact sp2 (Gh.rf h) fun _ _ => by simp only [a_aald, hk, hv, cond_true, if_neg hx]; rfl)
theorem sh_aast (nx : Nat) : Shp (a_aast nx) := by
  intro ls st h
  rcases st with _ | ⟨x | x | b | x, _ | ⟨i | i, _ | ⟨y | y | a | y, st⟩⟩⟩ <;> first
    | exact sp0 fun _ _ => rfl
    | (cases hk : (((Nat.beq (kd a.1).1 5 && kdc (kd b.1) 0 2) || (Nat.beq (kd a.1).1 6 && kdc (kd b.1) 0 3)) && !(gP h).isEmpty)
       · exact sp0 fun _ _ => cndF hk
       · by_cases hx : i < 0 ∨ (kd a.1).2 ≤ i.toNatClampNeg
         · exact sp0 fun _ _ => (cnd hk).trans (if_pos hx)
         · exact sp2 (Gh_stR (by rw [Bool.and_eq_true] at hk; exact hk.2)) fun _ _ => (cnd hk).trans (if_neg hx))
theorem sh_alen (nx : Nat) : Shp (a_alen nx) := by
  intro ls st h
  rcases st with _ | ⟨y | y | a | y, st⟩ <;> first
    | exact sp0 fun _ _ => rfl
    | (cases hk : (Nat.ble 1 (kd a.1).1 && Nat.ble (kd a.1).1 6)
       · exact sp0 fun _ _ => cndF hk
       · exact sp2 (Gh.rf h) fun _ _ => cnd hk)
theorem sh_newa (nx t : Nat) : Shp (a_newa nx t) := by
  intro ls st h
  rcases st with _ | ⟨n | y, st⟩
  · exact sp0 fun _ _ => rfl
  · rcases hp : gP h with _ | ⟨a, pl⟩
    · exact sp0 fun _ _ => by simp only [a_newa, hp]
    · cases hk : (Nat.beq (kd a.1).1 t && Nat.ble (kd a.1).2 100000)
      · exact sp0 fun _ _ => by simp only [a_newa, hp, hk, cond_false]
      · by_cases hx : n = Int32.ofNat (kd a.1).2
        · exact sp2 (Gh_new hp) fun _ _ => by simp only [a_newa, hp, hk, cond_true, if_pos hx]; rfl
        · exact sp0 fun _ _ => by simp only [a_newa, hp, hk, cond_true, if_neg hx]
  · exact sp0 fun _ _ => rfl
theorem sh_new (nx c : Nat) : Shp (a_new nx c) := by
  intro ls st h
  rcases hp : gP h with _ | ⟨a, pl⟩
  · exact sp0 fun _ _ => by simp only [a_new, hp]
  · cases hk : kdc (kd a.1) 0 c
    · exact sp0 fun _ _ => by simp only [a_new, hp, hk, cond_false]
    · exact sp2 (Gh_new hp) fun _ _ => by simp only [a_new, hp, hk, cond_true]; rfl
theorem sh_obj (nx : Nat) : Shp (a_obj nx) := by
  intro ls st h
  rcases st with _ | ⟨y | y | a | y, st⟩ <;> first
    | exact sp0 fun _ _ => rfl
    | (cases hk : Nat.ble (catS st) 8
       · exact sp0 fun _ _ => cndF hk
       · exact sp2 (Gh.rf h) fun _ _ => cnd hk)
theorem sh_copy (nx : Nat) : Shp (a_copy nx) := by
  intro ls st h
  rcases st with _ | ⟨n | x, _ | ⟨dp | x, _ | ⟨x | x | b | x, _ | ⟨sp | x, _ | ⟨y | y | a | y, st⟩⟩⟩⟩⟩ <;> first
    | exact sp0 fun _ _ => rfl
    | (cases hk : (Nat.beq (kd a.1).1 1 && (Nat.beq (kd b.1).1 1 && Nat.ble (catS st) 8))
       · exact sp0 fun _ _ => cndF hk
       · by_cases hx : (sp < 0 ∨ dp < 0 ∨ n < 0) ∨ ((kd a.1).2 < sp.toNatClampNeg + n.toNatClampNeg ∨ (kd b.1).2 < dp.toNatClampNeg + n.toNatClampNeg)
         · exact sp0 fun _ _ => (cnd hk).trans (if_pos hx)
         · exact sp2 (Gh_stA (beq9 (by simp only [Bool.and_eq_true] at hk; exact hk.2.1) (by decide))) fun _ _ => (cnd hk).trans (if_neg hx))
theorem sh_mmax (nx : Nat) : Shp (a_mmax nx) := by
  intro ls st h
  rcases st with _ | ⟨y | y, _ | ⟨x | x, st⟩⟩ <;> first
    | exact sp0 fun _ _ => rfl
    | (cases hk : Nat.ble (catS st) 8
       · exact sp0 fun _ _ => cndF hk
       · exact sp2 (Gh.rf h) fun _ _ => cnd hk)
theorem sh_mmin (nx : Nat) : Shp (a_mmin nx) := by
  intro ls st h
  rcases st with _ | ⟨y | y, _ | ⟨x | x, st⟩⟩ <;> first
    | exact sp0 fun _ _ => rfl
    | (cases hk : Nat.ble (catS st) 8
       · exact sp0 fun _ _ => cndF hk
       · exact sp2 (Gh.rf h) fun _ _ => cnd hk)
theorem sh_slen (nx : Nat) : Shp (a_slen nx) := by
  intro ls st h
  rcases st with _ | ⟨y | y | a | y, st⟩ <;> first
    | exact sp0 fun _ _ => rfl
    | (cases hk : (Nat.beq a.1 99 && Nat.ble (catS st) 8)
       · exact sp0 fun _ _ => cndF hk
       · exact sp2 (Gh.rf h) fun _ _ => cnd hk)
theorem sh_schr (nx : Nat) : Shp (a_schr nx) := by
  intro ls st h
  rcases st with _ | ⟨i | i, _ | ⟨y | y | a | y, st⟩⟩ <;> first
    | exact sp0 fun _ _ => rfl
    | (cases hk : (Nat.beq a.1 99 && Nat.ble (catS st) 8)
       · exact sp0 fun _ _ => cndF hk
       · by_cases hx : i < 0 ∨ (nthD txL a.2 []).length ≤ i.toNatClampNeg
         · exact sp0 fun _ _ => (cnd hk).trans (if_pos hx)
         · exact sp2 (Gh.rf h) fun _ _ => (cnd hk).trans (if_neg hx))
theorem sh_sld (nx : Nat) : Shp (a_sld nx) := by
  intro ls st h
  rcases st with _ | ⟨i | i, _ | ⟨y | y | a | y, st⟩⟩ <;> first
    | exact sp0 fun _ _ => rfl
    | (cases hk : (Nat.beq a.1 98 && Nat.beq a.2 0)
       · exact sp0 fun _ _ => cndF hk
       · by_cases hx : i < 0 ∨ (gI h (98, 1) 0).toNatClampNeg ≤ i.toNatClampNeg
         · exact sp0 fun _ _ => (cnd hk).trans (if_pos hx)
         · exact sp2 (Gh.rf h) fun _ _ => (cnd hk).trans (if_neg hx))
theorem sh_sln (nx : Nat) : Shp (a_sln nx) := by
  intro ls st h
  rcases st with _ | ⟨y | y | a | y, st⟩ <;> first
    | exact sp0 fun _ _ => rfl
    | (cases hk : (Nat.beq a.1 98 && Nat.beq a.2 0)
       · exact sp0 fun _ _ => cndF hk
       · by_cases hx : gI h (98, 1) 0 < 0
         · exact sp0 fun _ _ => (cnd hk).trans (if_pos hx)
         · exact sp2 (Gh.rf h) fun _ _ => (cnd hk).trans (if_neg hx))
theorem sh_caV (nx k mj na : Nat) : Shp (a_caV nx k mj na) := by
  intro ls st h
  cases hk : cok k na st
  · exact sp0 fun _ _ => cndF hk
  · refine sp3 mj (popN na [] st).1 (fun r => match r.1 with | none => some (nx, ls, (popN na [] st).2) | _ => none) fun F C => (cnd hk).trans ?_
    rcases C mj (popN na [] st).1 h with _ | ⟨_ | v, h'⟩ <;> rfl
theorem sh_caI (nx k mj na : Nat) : Shp (a_caI nx k mj na) := by
  intro ls st h
  cases hk : cok k na st
  · exact sp0 fun _ _ => cndF hk
  · refine sp3 mj (popN na [] st).1 (fun r => match r.1 with | some (.inl x) => some (nx, ls, vI x :: (popN na [] st).2) | _ => none) fun F C => (cnd hk).trans ?_
    rcases C mj (popN na [] st).1 h with _ | ⟨_ | (v | v), h'⟩ <;> rfl
theorem sh_caL (nx k mj na : Nat) : Shp (a_caL nx k mj na) := by
  intro ls st h
  cases hk : cok k na st
  · exact sp0 fun _ _ => cndF hk
  · refine sp3 mj (popN na [] st).1 (fun r => match r.1 with | some (.inr (.inl x)) => some (nx, ls, vL x :: (popN na [] st).2) | _ => none) fun F C => (cnd hk).trans ?_
    rcases C mj (popN na [] st).1 h with _ | ⟨_ | (v | v | v), h'⟩ <;> rfl
theorem sh_caR (nx k mj na : Nat) : Shp (a_caR nx k mj na) := by
  intro ls st h
  cases hk : cok k na st
  · exact sp0 fun _ _ => cndF hk
  · refine sp3 mj (popN na [] st).1 (fun r => match r.1 with | some (.inr (.inr (.inl a))) => some (nx, ls, vR a :: (popN na [] st).2) | some (.inr (.inr (.inr true))) => some (nx, ls, vN :: (popN na [] st).2) | _ => none) fun F C => (cnd hk).trans ?_
    rcases C mj (popN na [] st).1 h with _ | ⟨_ | (v | v | v | (v | v)), h'⟩ <;> rfl
theorem sh_iret : Shp a_iret := by
  intro ls st h
  rcases st with _ | ⟨y | y, _ | ⟨x, st⟩⟩ <;> first | exact sp0 fun _ _ => rfl | exact sp1 _ fun _ _ => rfl
theorem sh_zret : Shp a_zret := by
  intro ls st h
  rcases st with _ | ⟨y | y, _ | ⟨x, st⟩⟩ <;> first
    | exact sp0 fun _ _ => rfl
    | (by_cases hy : y = 0 ∨ y = 1
       · exact sp1 _ fun _ _ => if_pos hy
       · exact sp0 fun _ _ => if_neg hy)
theorem sh_lret : Shp a_lret := by
  intro ls st h
  rcases st with _ | ⟨y | y | y, _ | ⟨x, st⟩⟩ <;> first | exact sp0 fun _ _ => rfl | exact sp1 _ fun _ _ => rfl
theorem sh_aret : Shp a_aret := by
  intro ls st h
  rcases st with _ | ⟨y | y | y | (y | y), _ | ⟨x, st⟩⟩ <;> first | exact sp0 fun _ _ => rfl | exact sp1 _ fun _ _ => rfl
theorem sh_vret : Shp a_vret := by
  intro ls st h
  rcases st with _ | ⟨x, st⟩ <;> first | exact sp0 fun _ _ => rfl | exact sp1 _ fun _ _ => rfl
theorem sh_ms (mk : List Bool) {act : Act} (h : Shp act) : Shp (a_ms mk act) := fun ls st hp => h (msk mk ls) st hp
/-- all acts of a row have a shape -/
def Shs : List Act → Prop
  | [] => True
  | a :: l => Shp a ∧ Shs l
theorem Shs.at {l : List Act} (h : Shs l) : ∀ i, Shp (nthD l i a_bad) := by
  induction l with
  | nil => intro i; exact sh_bad
  | cons a l ih =>
    intro i
    cases i with
    | zero => exact h.1
    | succ i => exact ih h.2 i
