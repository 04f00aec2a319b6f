/-! how the world changes when a cell does, and when one comes -/
theorem gI_stI (h : Hp) (a : Ad) (k : Nat) (x : Int32) : gI (stI h a k x) = up2 (gI h) a k x := rfl
theorem map_range_set {n k : Nat} (f g : Nat → Value) (v : Value) (hk : k < n) (h1 : g k = v) (h2 : ∀ j, j ≠ k → g j = f j) : (List.range n).map g = ((List.range n).map f).set k v := by
  apply List.ext_getElem?
  intro j
  by_cases hj : j = k
  · subst hj
    rw [List.getElem?_set_self (by simpa using hk)]
    simp [hk, h1]
  · rw [List.getElem?_set_ne (Ne.symm hj)]
    simp only [List.getElem?_map]
    cases hr : (List.range n)[j]? with
    | none => rfl
    | some y =>
      have : y = j := by
        rw [List.getElem?_range] at hr
        · cases hr; rfl
        · have := (List.getElem?_eq_some_iff.mp hr).1
          simpa using this
      subst this
      simp [h2 y hj]
theorem wl_upd {cy : Nat → ClassId} {α : Ad → Nat} {h h' : Hp} {a : Ad} {q : Nat} (hA : gA h' = gA h) (hq : (gA h)[q]? = some a) (hn : (gA h).Nodup) (ho : ∀ b, b ≠ a → celE cy α h' b = celE cy α h b) : wl cy α h' = (wl cy α h).set q (α a, celE cy α h' a) := by
  unfold wl
  rw [hA]
  apply List.ext_getElem?
  intro j
  have hql : q < ((gA h).map fun a => (α a, celE cy α h a)).length := by
    rw [List.length_map]; exact (List.getElem?_eq_some_iff.mp hq).1
  by_cases hj : j = q
  · subst hj
    rw [List.getElem?_set_self hql, List.getElem?_map, hq]
    rfl
  · rw [List.getElem?_set_ne (Ne.symm hj), List.getElem?_map, List.getElem?_map]
    cases hb : (gA h)[j]? with
    | none => rfl
    | some b =>
      have hne : b ≠ a := by
        intro e
        subst e
        exact hj ((List.getElem?_inj (List.getElem?_eq_some_iff.mp hb).1 hn).mp (hb.trans hq.symm))
      simp [ho b hne]
/-- a cell other than the one that is written is as it was -/
theorem cel_stI {cy : Nat → ClassId} {α : Ad → Nat} {h : Hp} {a b : Ad} {k : Nat} {x : Int32} (hb : b ≠ a) : celE cy α (stI h a k x) b = celE cy α h b := by
  have e : gI (stI h a k x) b = gI h b := by
    funext j
    show (if b = a ∧ j = k then x else gI h b j) = gI h b j
    exact if_neg (fun q => hb q.1)
  have e2 : ∀ c j, fldV α (stI h a k x) b c j = fldV α h b c j := by
    intro c j
    unfold fldV
    rw [e]
    rfl
  unfold celE
  rw [e]
  simp only [e2]
  rfl
theorem cel_stJ {cy : Nat → ClassId} {α : Ad → Nat} {h : Hp} {a b : Ad} {k : Nat} {x : Int64} (hb : b ≠ a) : celE cy α (stJ h a k x) b = celE cy α h b := by
  have e : gJ (stJ h a k x) b = gJ h b := by
    funext j
    show (if b = a ∧ j = k then x else gJ h b j) = gJ h b j
    exact if_neg (fun q => hb q.1)
  unfold celE
  rw [e]
  rfl
theorem cel_stA {cy : Nat → ClassId} {α : Ad → Nat} {h : Hp} {a b : Ad} {g : Nat → Int32} (hb : b ≠ a) : celE cy α (stA h a g) b = celE cy α h b := by
  have e : gI (stA h a g) b = gI h b := by
    show (if b = a then g else gI h b) = gI h b
    exact if_neg hb
  have e2 : ∀ c j, fldV α (stA h a g) b c j = fldV α h b c j := by
    intro c j
    unfold fldV
    rw [e]
    rfl
  unfold celE
  rw [e]
  simp only [e2]
  rfl
theorem cel_stR {cy : Nat → ClassId} {α : Ad → Nat} {h : Hp} {a b : Ad} {k : Nat} {x : Option Ad} (hb : b ≠ a) : celE cy α (stR h a k x) b = celE cy α h b := by
  have e : gR (stR h a k x) b = gR h b := by
    funext j
    show (if b = a ∧ j = k then x else gR h b j) = gR h b j
    exact if_neg (fun q => hb q.1)
  have e2 : ∀ c j, fldV α (stR h a k x) b c j = fldV α h b c j := by
    intro c j
    unfold fldV
    rw [e]
    rfl
  unfold celE
  rw [e]
  simp only [e2]
  rfl
theorem kdc_eq {q : Nat × Nat} {t x : Nat} (h : kdc q t x = true) : q = (t, x) := by
  simp only [kdc, Bool.and_eq_true] at h
  obtain ⟨a, b⟩ := q
  have h1 := Nat.eq_of_beq_eq_true h.1
  have h2 := Nat.eq_of_beq_eq_true h.2
  simp only at h1 h2
  rw [h1, h2]
theorem vok_in {h : Hp} {a : Ad} (hv : vok h (vR a)) (hk : (kd a.1).1 ≠ 9) : a ∈ gA h := by
  rcases hv a rfl with q | q
  · exact q
  · exact absurd (by rw [kd_big q.1]) hk
/-- the object's cell -/
theorem cel_obj {cy : Nat → ClassId} {α : Ad → Nat} {h : Hp} {a : Ad} {c : Nat} (hk : kd a.1 = (0, c)) : celE cy α h a = .inr (c, (List.range (nfC c)).map fun k => fldV α h a c k) := by
  unfold celE
  rw [hk]
  rfl
theorem cel_arr {cy : Nat → ClassId} {α : Ad → Nat} {h : Hp} {a : Ad} {t n : Nat} (hk : kd a.1 = (t, n)) (h1 : 1 ≤ t) (h2 : t ≤ 3) : celE cy α h a = .inl (cy t, (n, .inl (gI h a))) := by
  unfold celE
  rw [hk]
  simp only
  rw [if_neg (by omega), if_pos h2]
theorem cel_long {cy : Nat → ClassId} {α : Ad → Nat} {h : Hp} {a : Ad} {n : Nat} (hk : kd a.1 = (4, n)) : celE cy α h a = .inl (cy 4, (n, .inr (.inl (gJ h a)))) := by
  unfold celE
  rw [hk]
  rfl
theorem cel_refs {cy : Nat → ClassId} {α : Ad → Nat} {h : Hp} {a : Ad} {t n : Nat} (hk : kd a.1 = (t, n)) (h1 : 5 ≤ t) : celE cy α h a = .inl (cy t, (n, .inr (.inr (.inr (.inr (fun j => (gR h a j).map α)))))) := by
  unfold celE
  rw [hk]
  simp only
  rw [if_neg (by omega), if_neg (by omega), if_neg (by omega)]
/-! the facts of a class -/
def ClF (c : Nat) (C : String) (T : u_T) (N : Nat) (ty : Nat → FieldType) : Prop := vwCl[c]? = some (C, T, N) ∧ (∀ w ∈ u_ws C T N, w ∈ gw) ∧ (∀ k, k < N → parseFieldDescriptor (T k).2.2.1 = some (ty k)) ∧ (∀ a, a < N → ∀ b, b < N → a ≠ b → (T a).2.1 ≠ (T b).2.1) ∧ N = nfC c
/-- the world, an int place written -/
theorem Wd_stI {K : Kx} {s : State} {α : Ad → Nat} {H H1 : Heap} {locs locs1 : List Loc} {h : Hp} {a : Ad} {k q : Nat} {x : Int32} (hw : Wd K s α H locs h) (hq : (gA h)[q]? = some a) (hP : va_P (kD K) vwCl ((wl (kY K) α h).set q (α a, celE (kY K) α (stI h a k x) a)) H1) (hD : va_D (kA K) ((wl (kY K) α h).set q (α a, celE (kY K) α (stI h a k x) a))) (hS : va_S (kA K) s.heap H1 locs1) : Wd K s α H1 locs1 (stI h a k x) := by
  obtain ⟨-, -, hK, -, hA, hI, hO⟩ := hw
  have e := wl_upd (cy := kY K) (α := α) (h := h) (h' := stI h a k x) (a := a) (q := q) rfl hq hI.1 (fun b hb => cel_stI hb)
  refine ⟨by rw [e]; exact hP, by rw [e]; exact hD, hK, hS, hA, ⟨hI.1, hI.2.1, hI.2.2.1, fun b hb j => ⟨(hI.2.2.2.1 b hb j).1, ?_, (hI.2.2.2.1 b hb j).2.2⟩, hI.2.2.2.2⟩, hO⟩
  have hne : b ≠ a := fun z => hI.2.1.2 b hb (by rw [z]; exact List.mem_of_getElem? hq)
  show (if b = a ∧ j = k then x else gI h b j) = 0
  rw [if_neg (fun z => hne z.1)]
  exact (hI.2.2.2.1 b hb j).2.1
theorem Wd_stJ {K : Kx} {s : State} {α : Ad → Nat} {H H1 : Heap} {locs locs1 : List Loc} {h : Hp} {a : Ad} {k q : Nat} {x : Int64} (hw : Wd K s α H locs h) (hq : (gA h)[q]? = some a) (hP : va_P (kD K) vwCl ((wl (kY K) α h).set q (α a, celE (kY K) α (stJ h a k x) a)) H1) (hD : va_D (kA K) ((wl (kY K) α h).set q (α a, celE (kY K) α (stJ h a k x) a))) (hS : va_S (kA K) s.heap H1 locs1) : Wd K s α H1 locs1 (stJ h a k x) := by
  obtain ⟨-, -, hK, -, hA, hI, hO⟩ := hw
  have e := wl_upd (cy := kY K) (α := α) (h := h) (h' := stJ h a k x) (a := a) (q := q) rfl hq hI.1 (fun b hb => cel_stJ hb)
  refine ⟨by rw [e]; exact hP, by rw [e]; exact hD, hK, hS, hA, ⟨hI.1, hI.2.1, hI.2.2.1, fun b hb j => ⟨(hI.2.2.2.1 b hb j).1, (hI.2.2.2.1 b hb j).2.1, ?_⟩, hI.2.2.2.2⟩, hO⟩
  have hne : b ≠ a := fun z => hI.2.1.2 b hb (by rw [z]; exact List.mem_of_getElem? hq)
  show (if b = a ∧ j = k then x else gJ h b j) = 0
  rw [if_neg (fun z => hne z.1)]
  exact (hI.2.2.2.1 b hb j).2.2
theorem Wd_stA {K : Kx} {s : State} {α : Ad → Nat} {H H1 : Heap} {locs locs1 : List Loc} {h : Hp} {a : Ad} {q : Nat} {g : Nat → Int32} (hw : Wd K s α H locs h) (hq : (gA h)[q]? = some a) (hP : va_P (kD K) vwCl ((wl (kY K) α h).set q (α a, celE (kY K) α (stA h a g) a)) H1) (hD : va_D (kA K) ((wl (kY K) α h).set q (α a, celE (kY K) α (stA h a g) a))) (hS : va_S (kA K) s.heap H1 locs1) : Wd K s α H1 locs1 (stA h a g) := by
  obtain ⟨-, -, hK, -, hA, hI, hO⟩ := hw
  have e := wl_upd (cy := kY K) (α := α) (h := h) (h' := stA h a g) (a := a) (q := q) rfl hq hI.1 (fun b hb => cel_stA hb)
  refine ⟨by rw [e]; exact hP, by rw [e]; exact hD, hK, hS, hA, ⟨hI.1, hI.2.1, hI.2.2.1, fun b hb j => ⟨(hI.2.2.2.1 b hb j).1, ?_, (hI.2.2.2.1 b hb j).2.2⟩, hI.2.2.2.2⟩, hO⟩
  have hne : b ≠ a := fun z => hI.2.1.2 b hb (by rw [z]; exact List.mem_of_getElem? hq)
  show (if b = a then g else gI h b) j = 0
  rw [if_neg hne]
  exact (hI.2.2.2.1 b hb j).2.1
theorem Wd_stR {K : Kx} {s : State} {α : Ad → Nat} {H H1 : Heap} {locs locs1 : List Loc} {h : Hp} {a b0 : Ad} {k q : Nat} (hw : Wd K s α H locs h) (hq : (gA h)[q]? = some a) (hb0 : b0 ∈ gA h) (hP : va_P (kD K) vwCl ((wl (kY K) α h).set q (α a, celE (kY K) α (stR h a k (some b0)) a)) H1) (hD : va_D (kA K) ((wl (kY K) α h).set q (α a, celE (kY K) α (stR h a k (some b0)) a))) (hS : va_S (kA K) s.heap H1 locs1) : Wd K s α H1 locs1 (stR h a k (some b0)) := by
  obtain ⟨-, -, hK, -, hA, hI, hO⟩ := hw
  have e := wl_upd (cy := kY K) (α := α) (h := h) (h' := stR h a k (some b0)) (a := a) (q := q) rfl hq hI.1 (fun b hb => cel_stR hb)
  refine ⟨by rw [e]; exact hP, by rw [e]; exact hD, hK, hS, hA, ⟨hI.1, hI.2.1, fun b hb j b2 hj => ?_, fun b hb j => ⟨?_, (hI.2.2.2.1 b hb j).2⟩, hI.2.2.2.2⟩, hO⟩
  · have hj' : (if b = a ∧ j = k then some b0 else gR h b j) = some b2 := hj
    by_cases z : b = a ∧ j = k
    · rw [if_pos z] at hj'; cases hj'; exact hb0
    · rw [if_neg z] at hj'; exact hI.2.2.1 b hb j b2 hj'
  · have hne : b ≠ a := fun z => hI.2.1.2 b hb (by rw [z]; exact List.mem_of_getElem? hq)
    show (if b = a ∧ j = k then some b0 else gR h b j) = none
    rw [if_neg (fun z => hne z.1)]
    exact (hI.2.2.2.1 b hb j).1
/-! one cell more -/
def alN (α : Ad → Nat) (a : Ad) (q : Nat) : Ad → Nat := fun b => if b = a then q else α b
abbrev hpN (h : Hp) (a : Ad) (pl : List Ad) : Hp := ((gA h ++ [a], pl), h.2)
theorem cel_new {cy : Nat → ClassId} {α : Ad → Nat} {h : Hp} {a b : Ad} {q : Nat} {pl : List Ad} (hI : Iv h) (ha : a ∉ gA h) (hb : b ∈ gA h) : celE cy (alN α a q) (hpN h a pl) b = celE cy α h b := by
  have e0 : ∀ j, (gR h b j).map (alN α a q) = (gR h b j).map α := by
    intro j
    cases hr : gR h b j with
    | none => rfl
    | some c =>
      have hc := hI.2.2.1 b hb j c hr
      have hne : c ≠ a := fun z => ha (by rw [← z]; exact hc)
      simp [alN, hne]
  have e1 : ∀ c j, fldV (alN α a q) (hpN h a pl) b c j = fldV α h b c j := by
    intro c j
    show (if ftC c j = 2 then va_rf ((gR h b j).map (alN α a q)) else .int (gI h b j)) = _
    rw [e0]
    rfl
  unfold celE
  simp only [e1]
  show (if (kd b.1).1 = 0 then _ else if (kd b.1).1 ≤ 3 then _ else if (kd b.1).1 = 4 then _ else Sum.inl (cy (kd b.1).1, ((kd b.1).2, Sum.inr (Sum.inr (Sum.inr (Sum.inr (fun j => (gR h b j).map (alN α a q)))))))) = _
  simp only [e0]
theorem wl_new {cy : Nat → ClassId} {α : Ad → Nat} {h : Hp} {a : Ad} {q : Nat} {pl : List Ad} (hI : Iv h) (ha : a ∉ gA h) : wl cy (alN α a q) (hpN h a pl) = wl cy α h ++ [(q, celE cy (alN α a q) (hpN h a pl) a)] := by
  show (gA h ++ [a]).map _ = _
  rw [List.map_append]
  congr 1
  · refine List.map_congr_left fun b hb => ?_
    have hne : b ≠ a := fun z => ha (by rw [← z]; exact hb)
    rw [cel_new hI ha hb]
    simp [alN, hne]
  · simp [alN]
theorem Old.ext {adV : Nat → Nat} {α α' : Ad → Nat} {A : Nat → Prop} {U : State} {H : Heap} (h : Old adV α A U H) (he : ∀ k, α' (99, k) = α (99, k)) : Old adV α' A U H := by
  have e : (fun k => α' (99, k)) = (fun k => α (99, k)) := funext he
  obtain ⟨h1, h2, h3⟩ := h
  refine ⟨by rw [e]; exact h1, fun k hk => by rw [he k]; exact h2 k hk, h3⟩
theorem Wd_new {K : Kx} {s : State} {α : Ad → Nat} {H H1 : Heap} {locs : List Loc} {h : Hp} {a : Ad} {q : Nat} {pl : List Ad} (hw : Wd K s α H locs h) (hp : gP h = a :: pl) (ha9 : (kd a.1).1 ≠ 9) (hP : va_P (kD K) vwCl (wl (kY K) α h ++ [(q, celE (kY K) (alN α a q) (hpN h a pl) a)]) H1) (hD : va_D (kA K) (wl (kY K) α h ++ [(q, celE (kY K) (alN α a q) (hpN h a pl) a)])) (hS : va_S (kA K) s.heap H1 locs) : Wd K s (alN α a q) H1 locs (hpN h a pl) ∧ Ext α (alN α a q) h := by
  obtain ⟨-, -, hK, -, hA, hI, hO⟩ := hw
  have hmem : a ∈ gP h := by rw [hp]; exact List.mem_cons_self
  have ha : a ∉ gA h := hI.2.1.2 a hmem
  have hlt : ¬ 98 ≤ a.1 := fun z => ha9 (by rw [kd_big z])
  have hE : Ext α (alN α a q) h := by
    intro b hb
    have hne : b ≠ a := by
      rintro rfl
      rcases hb with z | z
      · exact ha z
      · exact hlt z
    simp [alN, hne]
  have e := wl_new (cy := kY K) (α := α) (q := q) (pl := pl) hI ha
  have hpn : (a :: pl).Nodup := by rw [← hp]; exact hI.2.1.1
  refine ⟨⟨by rw [e]; exact hP, by rw [e]; exact hD, hK, hS, hA, ⟨?_, ⟨(List.nodup_cons.mp hpn).2, fun b hb hb2 => ?_⟩, fun b hb j c hc => ?_, fun b hb j => hI.2.2.2.1 b (by rw [hp]; exact List.mem_cons_of_mem _ hb) j, fun b hb => ?_⟩, hO.ext fun k => hE (99, k) (Or.inr (show 98 ≤ 99 by decide))⟩, hE⟩
  · show (gA h ++ [a]).Nodup
    exact List.nodup_append.mpr ⟨hI.1, by simp, fun x hx y hy => by
      rw [List.mem_singleton] at hy
      rintro rfl
      exact ha (by rw [← hy]; exact hx)⟩
  · rcases List.mem_append.mp hb2 with z | z
    · exact hI.2.1.2 b (by rw [hp]; exact List.mem_cons_of_mem _ hb) z
    · rw [List.mem_singleton] at z
      exact (List.nodup_cons.mp hpn).1 (by rw [← z]; exact hb)
  · rcases List.mem_append.mp hb with z | z
    · exact List.mem_append_left _ (hI.2.2.1 b z j c hc)
    · rw [List.mem_singleton] at z
      have := (hI.2.2.2.1 a hmem j).1
      rw [z] at hc
      have hc' : gR h a j = some c := hc
      rw [this] at hc'
      cases hc'
  · rcases List.mem_append.mp hb with z | z
    · exact hI.2.2.2.2 b z
    · rw [List.mem_singleton] at z
      rw [z]
      exact ha9
theorem hI9 {K : Kx} {s : State} {α : Ad → Nat} {H : Heap} {locs : List Loc} {h : Hp} {a : Ad} (hw : Wd K s α H locs h) (ha : a ∈ gA h) : (kd a.1).1 ≠ 9 := hw.2.2.2.2.2.1.2.2.2.2 a ha
