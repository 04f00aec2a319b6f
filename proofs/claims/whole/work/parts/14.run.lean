/-! RUNS: with fuel and depth; their limit; going on to a cut -/
theorem nthD_mem {α : Type} {d : α} : ∀ (l : List α) (i : Nat), nthD l i d ∈ l ∨ nthD l i d = d
  | [], _ => Or.inr rfl
  | x :: l, 0 => Or.inl List.mem_cons_self
  | x :: l, n + 1 => (nthD_mem l n).imp (fun h => List.mem_cons_of_mem _ h) id
theorem tb_shp (m i : Nat) : Shp (nthD (tb m) i a_bad) := by
  refine Shs.at ?_ i
  rcases nthD_mem (d := ([] : List Act)) tbL m with h | h
  · exact hsAll _ h
  · show Shs (nthD tbL m [])
    rw [h]
    trivial
def ent (m : Nat) (as : List Vl) : List Vl := padL (mx m) (expL as)
def run : Nat → Nat → Nat → Kf
  | 0 => fun _ _ _ _ _ _ => none
  | n + 1 => fun d m pc ls st h => nthD (tb m) pc a_bad (run n d m) (match d with
    | 0 => fun _ _ _ => none
    | d + 1 => fun mj as h => bif Nat.ble (catS as) (mx mj) then run n d mj 0 (ent mj as) [] h else none) ls st h
def calR (n : Nat) : Nat → Cf
  | 0 => fun _ _ _ => none
  | d + 1 => fun mj as h => bif Nat.ble (catS as) (mx mj) then run n d mj 0 (ent mj as) [] h else none
theorem run_succ (n d m pc : Nat) (ls st : List Vl) (h : Hp) : run (n + 1) d m pc ls st h = nthD (tb m) pc a_bad (run n d m) (calR n d) ls st h := by
  cases d <;> rfl
theorem bif_some' {α : Type} {b : Bool} {o : Option α} {r : α} : (bif b then o else none) = some r ↔ b = true ∧ o = some r := by
  cases b <;> simp
theorem run_mono : ∀ (n d m pc : Nat) (ls st : List Vl) (h : Hp) (r : Rs), run n d m pc ls st h = some r → run (n + 1) d m pc ls st h = some r := by
  intro n
  induction n with
  | zero => intro d m pc ls st h r e; cases e
  | succ n ih =>
    intro d m pc ls st h r e
    rw [run_succ] at e ⊢
    rcases tb_shp m pc ls st h with s | ⟨v, s⟩ | ⟨p', l', s', h', -, s⟩ | ⟨mj, as, f, s⟩
    · rw [s] at e; cases e
    · rw [s] at e ⊢; exact e
    · rw [s] at e ⊢; exact ih _ _ _ _ _ _ _ e
    · rw [s] at e ⊢
      cases d with
      | zero => cases e
      | succ d =>
        simp only [Option.bind_eq_some_iff, calR, bif_some'] at e ⊢
        obtain ⟨r1, ⟨e0, e1⟩, q, e2, e3⟩ := e
        exact ⟨r1, ⟨e0, ih _ _ _ _ _ _ _ e1⟩, q, e2, ih _ _ _ _ _ _ _ e3⟩
theorem run_le {n k d m pc : Nat} {ls st : List Vl} {h : Hp} {r : Rs} (hk : n ≤ k) (e : run n d m pc ls st h = some r) : run k d m pc ls st h = some r := by
  obtain ⟨j, rfl⟩ := Nat.exists_eq_add_of_le hk
  clear hk
  induction j with
  | zero => exact e
  | succ j ih => exact run_mono _ _ _ _ _ _ _ _ ih
/-- what a run comes to, with fuel enough -/
noncomputable def ev (d m : Nat) : Kf := fun pc ls st h => @ite _ (∃ n r, run n d m pc ls st h = some r) (Classical.propDecidable _) (Classical.epsilon fun o => ∃ n r, o = some r ∧ run n d m pc ls st h = some r) none
theorem ev_some {d m pc : Nat} {ls st : List Vl} {h : Hp} {r : Rs} : ev d m pc ls st h = some r ↔ ∃ n, run n d m pc ls st h = some r := by
  unfold ev
  by_cases hc : ∃ n r, run n d m pc ls st h = some r
  · rw [if_pos hc]
    obtain ⟨n0, r0, e0⟩ := hc
    have hs : ∃ o, ∃ n r, o = some r ∧ run n d m pc ls st h = some r := ⟨some r0, n0, r0, rfl, e0⟩
    obtain ⟨n1, r1, e1, e2⟩ := Classical.epsilon_spec hs
    rw [e1]
    constructor
    · intro e; cases e; exact ⟨n1, e2⟩
    · rintro ⟨n2, e3⟩
      have a1 := run_le (Nat.le_max_left n1 n2) e2
      have a2 := run_le (Nat.le_max_right n1 n2) e3
      rw [a1] at a2
      exact a2
  · rw [if_neg hc]
    constructor
    · intro e; cases e
    · rintro ⟨n, e⟩; exact absurd ⟨n, r, e⟩ hc
noncomputable def cal : Nat → Cf
  | 0 => fun _ _ _ => none
  | d + 1 => fun mj as h => bif Nat.ble (catS as) (mx mj) then ev d mj 0 (ent mj as) [] h else none
theorem bif_some {α : Type} {b : Bool} {o : Option α} {r : α} : (bif b then o else none) = some r ↔ b = true ∧ o = some r := by
  cases b <;> simp
theorem opt_ext {α : Type} {a b : Option α} (h : ∀ r, a = some r ↔ b = some r) : a = b := by
  cases a with
  | none =>
    cases b with
    | none => rfl
    | some y => exact ((h y).mpr rfl)
  | some x => exact ((h x).mp rfl).symm
theorem ev_eq (d m pc : Nat) (ls st : List Vl) (h : Hp) : ev d m pc ls st h = nthD (tb m) pc a_bad (ev d m) (cal d) ls st h := by
  refine opt_ext fun r => ?_
  rw [ev_some]
  have hz : ∀ n, run n d m pc ls st h = some r → run (n + 1) d m pc ls st h = some r := fun n e => run_mono _ _ _ _ _ _ _ _ e
  rcases tb_shp m pc ls st h with s | ⟨v, s⟩ | ⟨p', l', s', h', -, s⟩ | ⟨mj, as, f, s⟩
  · rw [s]
    constructor
    · rintro ⟨n, e⟩
      have := hz n e
      rw [run_succ, s] at this
      cases this
    · intro e; cases e
  · rw [s]
    constructor
    · rintro ⟨n, e⟩
      have := hz n e
      rw [run_succ, s] at this
      exact this
    · intro e; exact ⟨1, by rw [run_succ, s]; exact e⟩
  · rw [s, ev_some]
    constructor
    · rintro ⟨n, e⟩
      have := hz n e
      rw [run_succ, s] at this
      exact ⟨n, this⟩
    · rintro ⟨n, e⟩; exact ⟨n + 1, by rw [run_succ, s]; exact e⟩
  · rw [s]
    cases d with
    | zero =>
      constructor
      · rintro ⟨n, e⟩
        have := hz n e
        rw [run_succ, s] at this
        cases this
      · intro e; cases e
    | succ d =>
      simp only [Option.bind_eq_some_iff, cal, bif_some]
      constructor
      · rintro ⟨n, e⟩
        have := hz n e
        rw [run_succ, s] at this
        simp only [Option.bind_eq_some_iff, calR, bif_some] at this
        obtain ⟨r1, ⟨e0, e1⟩, q, e2, e3⟩ := this
        exact ⟨r1, ⟨e0, ev_some.mpr ⟨n, e1⟩⟩, q, e2, ev_some.mpr ⟨n, e3⟩⟩
      · rintro ⟨r1, ⟨e0, e1⟩, q, e2, e3⟩
        obtain ⟨n1, e1⟩ := ev_some.mp e1
        obtain ⟨n2, e3⟩ := ev_some.mp e3
        refine ⟨max n1 n2 + 1, ?_⟩
        rw [run_succ, s]
        simp only [Option.bind_eq_some_iff, calR, bif_some]
        exact ⟨r1, ⟨e0, run_le (Nat.le_max_left _ _) e1⟩, q, e2, run_le (Nat.le_max_right _ _) e3⟩
theorem run_Gh : ∀ (n d m pc : Nat) (ls st : List Vl) (h : Hp) (r : Rs), run n d m pc ls st h = some r → Gh h r.2 := by
  intro n
  induction n with
  | zero => intro d m pc ls st h r e; cases e
  | succ n ih =>
    intro d m pc ls st h r e
    rw [run_succ] at e
    rcases tb_shp m pc ls st h with s | ⟨v, s⟩ | ⟨p', l', s', h', g, s⟩ | ⟨mj, as, f, s⟩
    · rw [s] at e; cases e
    · rw [s] at e; cases e; exact Gh.rf h
    · rw [s] at e; exact g.tr (ih _ _ _ _ _ _ _ e)
    · rw [s] at e
      cases d with
      | zero => cases e
      | succ d =>
        simp only [Option.bind_eq_some_iff, calR, bif_some] at e
        obtain ⟨r1, ⟨e0, e1⟩, q, e2, e3⟩ := e
        rw [mrg_eq (ih _ _ _ _ _ _ _ e1)] at e3
        exact (ih _ _ _ _ _ _ _ e1).tr (ih _ _ _ _ _ _ _ e3)
theorem ev_Gh {d m pc : Nat} {ls st : List Vl} {h : Hp} {r : Rs} (e : ev d m pc ls st h = some r) : Gh h r.2 := by
  obtain ⟨n, e⟩ := ev_some.mp e
  exact run_Gh _ _ _ _ _ _ _ _ e
/-- the heap once all is made -/
abbrev hh (I : Ad → Nat → Int32) (J : Ad → Nat → Int64) : Hp := ((plL, []), (R0, (I, J)))
def IsH (h : Hp) : Prop := h = hh (gI h) (gJ h)
theorem IsH.mk (I : Ad → Nat → Int32) (J : Ad → Nat → Int64) : IsH (hh I J) := rfl
theorem IsH.gh {h h' : Hp} (e : IsH h) (g : Gh h h') : IsH h' := by
  obtain ⟨-, -, k⟩ := g
  rw [e] at k
  obtain ⟨k1, k2⟩ := k rfl
  obtain ⟨a, b, c, d⟩ := h'
  cases k1
  cases k2
  rfl
/-- at these places of a method the locals that are not read any more are forgotten -/
def CutOk (m : Nat) (cut : List (Nat × List Bool)) : Prop := ∀ q ∈ cut, ∃ act, nthD (tb m) q.1 a_bad = a_ms q.2 act
theorem ms_ok {m pc : Nat} {kq : List Bool} {act : Act} (ht : nthD (tb m) pc a_bad = a_ms kq act) (d : Nat) (ls st : List Vl) (h : Hp) : ev d m pc (msk kq ls) st h = ev d m pc ls st h := by
  rw [ev_eq, ev_eq d m pc ls, ht]
  unfold a_ms
  rw [msk_idem]
def fnd : List (Nat × List Bool) → Nat → Option (List Bool)
  | [], _ => none
  | (c, kq) :: l, p => bif Nat.beq c p then some kq else fnd l p
theorem fnd_mem : ∀ (l : List (Nat × List Bool)) (p : Nat) (kq : List Bool), fnd l p = some kq → (p, kq) ∈ l
  | [], _, _, h => by cases h
  | (c, m0) :: l, p, kq, h => by
    unfold fnd at h
    cases hb : Nat.beq c p
    · rw [hb] at h; exact List.mem_cons_of_mem _ (fnd_mem l p kq h)
    · rw [hb] at h
      have e : m0 = kq := Option.some.inj h
      have := Nat.eq_of_beq_eq_true hb
      subst this
      subst e
      exact List.mem_cons_self
/-- goes on, at most k steps, to a cut -/
noncomputable def sy (cut : List (Nat × List Bool)) (d m : Nat) : Nat → Kf
  | 0 => ev d m
  | k + 1 => fun pc ls st h => nthD (tb m) pc a_bad (fun pc' ls' st' h' => match fnd cut pc' with
    | some kq => ev d m pc' (msk kq ls') st' h'
    | none => sy cut d m k pc' ls' st' h') (cal d) ls st h
theorem sy_eq {cut : List (Nat × List Bool)} {m : Nat} (hc : CutOk m cut) (d : Nat) : ∀ (k pc : Nat) (ls st : List Vl) (h : Hp), sy cut d m k pc ls st h = ev d m pc ls st h
  | 0, _, _, _, _ => rfl
  | k + 1, pc, ls, st, h => by
    have e : (fun (pc' : Nat) (ls' st' : List Vl) (h' : Hp) => match fnd cut pc' with
      | some kq => ev d m pc' (msk kq ls') st' h'
      | none => sy cut d m k pc' ls' st' h') = ev d m := by
      funext pc' ls' st' h'
      rw [sy_eq hc d k pc' ls' st' h']
      cases hf : fnd cut pc' with
      | none => rfl
      | some kq =>
        obtain ⟨act, ha⟩ := hc _ (fnd_mem cut pc' kq hf)
        exact ms_ok ha d ls' st' h'
    show nthD (tb m) pc a_bad (fun pc' ls' st' h' => match fnd cut pc' with
      | some kq => ev d m pc' (msk kq ls') st' h'
      | none => sy cut d m k pc' ls' st' h') (cal d) ls st h = _
    rw [e, ev_eq]
theorem sy_go {cut : List (Nat × List Bool)} {m : Nat} (hc : CutOk m cut) (d k pc : Nat) (ls st : List Vl) (h : Hp) : ev d m pc ls st h = sy cut d m k pc ls st h := (sy_eq hc d k pc ls st h).symm
