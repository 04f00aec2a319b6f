/-! THE WORLD: how a heap of the small machine lies in the machine's -/
def trV (α : Ad → Nat) : Vl → Value
  | .inl x => .int x
  | .inr (.inl x) => .long x
  | .inr (.inr (.inl a)) => .ref (α a)
  | .inr (.inr (.inr _)) => .null
def fldV (α : Ad → Nat) (h : Hp) (a : Ad) (c k : Nat) : Value := if ftC c k = 2 then va_rf ((gR h a k).map α) else .int (gI h a k)
def celE (cy : Nat → ClassId) (α : Ad → Nat) (h : Hp) (a : Ad) : va_E :=
  if (kd a.1).1 = 0 then .inr ((kd a.1).2, (List.range (nfC (kd a.1).2)).map fun k => fldV α h a (kd a.1).2 k)
  else if (kd a.1).1 ≤ 3 then .inl (cy (kd a.1).1, ((kd a.1).2, .inl (gI h a)))
  else if (kd a.1).1 = 4 then .inl (cy 4, ((kd a.1).2, .inr (.inl (gJ h a))))
  else .inl (cy (kd a.1).1, ((kd a.1).2, .inr (.inr (.inr (.inr (fun j => (gR h a j).map α))))))
def wl (cy : Nat → ClassId) (α : Ad → Nat) (h : Hp) : va_W := (gA h).map fun a => (α a, celE cy α h a)
def tyL (cy : Nat → ClassId) : List (ClassId × FieldType) := [(cy 1, .int), (cy 2, .byte), (cy 3, .boolean), (cy 4, .long), (cy 5, .object "ProxyWalk$Rule"), (cy 6, .object "ProxyWalk$Scene")]
def nC (h : Hp) : Nat := (gA h).length
def nS (h : Hp) : Nat := szL (gA h)
def Iv (h : Hp) : Prop := (gA h).Nodup ∧ ((gP h).Nodup ∧ ∀ a ∈ gP h, a ∉ gA h) ∧ (∀ a ∈ gA h, ∀ k b, gR h a k = some b → b ∈ gA h) ∧ (∀ a ∈ gP h, ∀ k, gR h a k = none ∧ gI h a k = 0 ∧ gJ h a k = 0) ∧ ∀ a ∈ gA h, (kd a.1).1 ≠ 9
def vok (h : Hp) (v : Vl) : Prop := ∀ a, v = vR a → a ∈ gA h ∨ (98 ≤ a.1 ∧ a.2 < 21)
def slenL : List Nat := txL.map List.length
def sbytL : List (List Int32) := txL.map fun t => t.map Int32.ofNat
/-- the words of the tables that go down into calls by themselves; the links among nest mates, which are taken along -/
def gw : List Cond := lw_tbl.filter goodWord
theorem gw_in {w : Cond} (h : w ∈ gw) : w ∈ lw_tbl := (List.mem_filter.mp h).1
theorem gw_of {i : Nat} {w : Cond} (h : lw_tbl[i]? = some w ∧ goodWord w = true) : w ∈ gw := List.mem_filter.mpr ⟨List.mem_of_getElem? h.1, h.2⟩
def isNest : Cond → Bool
  | .methodLinkNest _ _ _ _ => true
  | _ => false
def nw : List Cond := lw_tbl.filter isNest
theorem nw_of {i : Nat} {w : Cond} (h : lw_tbl[i]? = some w ∧ isNest w = true) : w ∈ nw := List.mem_filter.mpr ⟨List.mem_of_getElem? h.1, h.2⟩
theorem isNest_of {w : Cond} (h : isNest w = true) : ∃ a i x b, w = .methodLinkNest a i x b := by
  cases w <;> first | exact ⟨_, _, _, _, rfl⟩ | cases h
/-- the texts and the library's statics, in the old heap -/
def Old (adV : Nat → Nat) (α : Ad → Nat) (A : Nat → Prop) (U : State) (H : Heap) : Prop :=
  vk_S 21 slenL sbytL (fun k => α (99, k)) adV A U H ∧ (∀ k, k < 21 → vk_R (snOwn k) (snIdx k) (snTxt k) (α (99, k)) U) ∧ va_Z "java/lang/String" "COMPACT_STRINGS" "Z" (.int 1) A U H ∧ va_Zq "jdk/internal/util/Preconditions" "SIOOBE_FORMATTER" "Ljava/util/function/BiFunction;" A U H ∧ (∀ w ∈ nw, va_Nw w U) ∧ va_AO "ProxyWalk$Rule" U ∧ va_AO "ProxyWalk$Scene" U
theorem getElem_wl {cy : Nat → ClassId} {α : Ad → Nat} {h : Hp} {a : Ad} (ha : a ∈ gA h) : ∃ q : Nat, (gA h)[q]? = some a ∧ (wl cy α h)[q]? = some (α a, celE cy α h a) := by
  obtain ⟨q, hq⟩ := List.getElem?_of_mem ha
  exact ⟨q, hq, by simp [wl, List.getElem?_map, hq]⟩
theorem vw_len : ∀ c, c < 8 → ∃ q : vw_C, vwCl[c]? = some q ∧ q.2.2 = nfC c := by
  intro c hc
  match c, hc with
  | 0, _ => exact ⟨_, rfl, rfl⟩
  | 1, _ => exact ⟨_, rfl, rfl⟩
  | 2, _ => exact ⟨_, rfl, rfl⟩
  | 3, _ => exact ⟨_, rfl, rfl⟩
  | 4, _ => exact ⟨_, rfl, rfl⟩
  | 5, _ => exact ⟨_, rfl, rfl⟩
  | 6, _ => exact ⟨_, rfl, rfl⟩
  | 7, _ => exact ⟨_, rfl, rfl⟩
/-! locals -/
def Lh (α : Ad → Nat) (nL : Nat) (lsM : Array Slot) (ls : List Vl) : Prop := lsM.size = nL ∧ lv_wf lsM ∧ ls.length ≤ nL ∧ ∀ i, nthD ls i vU ≠ vU → lsM[i]? = some (.val (trV α (nthD ls i vU)))
def lvF (α : Ad → Nat) (ls : List Vl) : Nat → List (Nat × Value)
  | 0 => []
  | n + 1 => if nthD ls n vU = vU then lvF α ls n else (n, trV α (nthD ls n vU)) :: lvF α ls n
theorem lvF_mem {α : Ad → Nat} {ls : List Vl} {i : Nat} (hi : nthD ls i vU ≠ vU) : ∀ n, i < n → (i, trV α (nthD ls i vU)) ∈ lvF α ls n
  | 0, h => absurd h (Nat.not_lt_zero _)
  | n + 1, h => by
    unfold lvF
    rcases Nat.lt_or_ge i n with q | q
    · split
      · exact lvF_mem hi n q
      · exact List.mem_cons_of_mem _ (lvF_mem hi n q)
    · have : i = n := by omega
      subst this
      rw [if_neg hi]
      exact List.mem_cons_self
theorem lvF_of {α : Ad → Nat} {ls : List Vl} : ∀ (n : Nat) (q : Nat × Value), q ∈ lvF α ls n → nthD ls q.1 vU ≠ vU ∧ q.2 = trV α (nthD ls q.1 vU)
  | 0, q, h => by cases h
  | n + 1, q, h => by
    unfold lvF at h
    split at h
    · exact lvF_of n q h
    · next hn =>
      rcases List.mem_cons.mp h with e | e
      · subst e; exact ⟨hn, rfl⟩
      · exact lvF_of n q e
theorem nthD_lt {ls : List Vl} {i : Nat} (h : nthD ls i vU ≠ vU) : i < ls.length := by
  induction ls generalizing i with
  | nil => exact absurd rfl h
  | cons v l ih =>
    cases i with
    | zero => simp
    | succ i => simpa using ih h
theorem Lh.has {α : Ad → Nat} {nL : Nat} {lsM : Array Slot} {ls : List Vl} (h : Lh α nL lsM ls) : lv_has lsM nL (lvF α ls nL) := ⟨h.1, h.2.1, fun q hq => by
  obtain ⟨h1, h2⟩ := lvF_of _ _ hq
  rw [h2]
  exact h.2.2.2 q.1 h1⟩
theorem nthD_set (ls : List Vl) (i j : Nat) (v : Vl) : nthD (ls.set i v) j vU = if j = i ∧ i < ls.length then v else nthD ls j vU := by
  induction ls generalizing i j with
  | nil => simp [nthD]
  | cons x l ih =>
    cases i with
    | zero => cases j <;> simp [nthD]
    | succ i =>
      cases j with
      | zero => simp [nthD]
      | succ j => simp [nthD, ih]
theorem trV_cat (α : Ad → Nat) (v : Vl) : (trV α v).category = catV v := by
  rcases v with x | x | x | x <;> rfl
theorem fixp_cases (ls : List Vl) (j : Nat) : (∃ x, nthD ls j vU = vL x ∧ fixp ls (j + 1) = ls.set j vU) ∨ ((∀ x, nthD ls j vU ≠ vL x) ∧ fixp ls (j + 1) = ls) := by
  rcases hv : nthD ls j vU with x | x | x
  · exact Or.inr ⟨fun x h => (by cases h), by simp only [fixp, hv]⟩
  · exact Or.inl ⟨x, rfl, by simp only [fixp, hv]⟩
  · exact Or.inr ⟨fun x h => (by cases h), by simp only [fixp, hv]⟩
theorem fixp_len (ls : List Vl) (i : Nat) : (fixp ls i).length = ls.length := by
  cases i with
  | zero => rfl
  | succ j =>
    rcases fixp_cases ls j with ⟨x, -, e⟩ | ⟨-, e⟩
    · rw [e, List.length_set]
    · rw [e]
theorem fixp_at (ls : List Vl) (i k : Nat) (h : nthD (fixp ls i) k vU ≠ vU) : nthD (fixp ls i) k vU = nthD ls k vU ∧ ¬ (k + 1 = i ∧ catV (nthD ls k vU) = 2) := by
  cases i with
  | zero => exact ⟨rfl, fun q => by omega⟩
  | succ j =>
    rcases fixp_cases ls j with ⟨x, hx, e⟩ | ⟨hx, e⟩
    · rw [e] at h ⊢
      rw [nthD_set] at h ⊢
      by_cases hk : k = j ∧ j < ls.length
      · rw [if_pos hk] at h; exact absurd rfl h
      · rw [if_neg hk]
        refine ⟨rfl, fun q => ?_⟩
        have hkj : k = j := by omega
        subst hkj
        exact hk ⟨rfl, nthD_lt (by rw [hx]; intro z; cases z)⟩
    · rw [e]
      refine ⟨rfl, fun q => ?_⟩
      have hkj : k = j := by omega
      subst hkj
      rcases hv : nthD ls k vU with x | x | x
      · rw [hv] at q; exact absurd q.2 (by simp [catV])
      · exact hx x hv
      · rw [hv] at q; exact absurd q.2 (by simp [catV])
theorem Lh.st1 {α : Ad → Nat} {nL i : Nat} {lsM lsM' : Array Slot} {ls : List Vl} {v : Vl} (h : Lh α nL lsM ls) (hi : i < nL)
    (h' : lv_has lsM' nL ((i, trV α v) :: (lvF α ls nL).filter (fun q => !(q.1 == i) && !(q.1 + 1 == i && q.2.category == 2)))) : Lh α nL lsM' ((fixp ls i).set i v) := by
  refine ⟨h'.1, h'.2.1, by rw [List.length_set, fixp_len]; exact h.2.2.1, fun k hk => ?_⟩
  rw [nthD_set] at hk ⊢
  by_cases hki : k = i ∧ i < (fixp ls i).length
  · rw [if_pos hki, hki.1]
    exact h'.2.2 _ List.mem_cons_self
  · rw [if_neg hki] at hk ⊢
    obtain ⟨e1, e2⟩ := fixp_at ls i k hk
    rw [e1]
    have hn : nthD ls k vU ≠ vU := by rw [← e1]; exact hk
    have hne : k ≠ i := fun q => hki ⟨q, by rw [fixp_len, ← q]; exact nthD_lt hn⟩
    refine h'.2.2 _ (List.mem_cons_of_mem _ (List.mem_filter.mpr ⟨lvF_mem hn nL (Nat.lt_of_lt_of_le (nthD_lt hn) h.2.2.1), ?_⟩))
    simp only [Bool.and_eq_true, Bool.not_eq_true', beq_eq_false_iff_ne, ne_eq, Bool.and_eq_false_imp, beq_iff_eq, trV_cat]
    exact ⟨hne, fun q => fun z => e2 ⟨q, z⟩⟩
theorem Lh.st2 {α : Ad → Nat} {nL i : Nat} {lsM lsM' : Array Slot} {ls : List Vl} {v : Vl} (h : Lh α nL lsM ls) (hi : i + 1 < nL)
    (h' : lv_has lsM' nL ((i, trV α v) :: (lvF α ls nL).filter (fun q => !(q.1 == i) && (!(q.1 == i + 1) && !(q.1 + 1 == i && q.2.category == 2))))) : Lh α nL lsM' (((fixp ls i).set i v).set (i + 1) vU) := by
  refine ⟨h'.1, h'.2.1, by rw [List.length_set, List.length_set, fixp_len]; exact h.2.2.1, fun k hk => ?_⟩
  rw [nthD_set] at hk ⊢
  by_cases hk1 : k = i + 1 ∧ i + 1 < ((fixp ls i).set i v).length
  · rw [if_pos hk1] at hk; exact absurd rfl hk
  rw [if_neg hk1] at hk ⊢
  rw [nthD_set] at hk ⊢
  by_cases hki : k = i ∧ i < (fixp ls i).length
  · rw [if_pos hki, hki.1]
    exact h'.2.2 _ List.mem_cons_self
  · rw [if_neg hki] at hk ⊢
    obtain ⟨e1, e2⟩ := fixp_at ls i k hk
    rw [e1]
    have hn : nthD ls k vU ≠ vU := by rw [← e1]; exact hk
    have hne : k ≠ i := fun q => hki ⟨q, by rw [fixp_len, ← q]; exact nthD_lt hn⟩
    have hne1 : k ≠ i + 1 := fun q => hk1 ⟨q, by rw [List.length_set, fixp_len, ← q]; exact nthD_lt hn⟩
    refine h'.2.2 _ (List.mem_cons_of_mem _ (List.mem_filter.mpr ⟨lvF_mem hn nL (Nat.lt_of_lt_of_le (nthD_lt hn) h.2.2.1), ?_⟩))
    simp only [Bool.and_eq_true, Bool.not_eq_true', beq_eq_false_iff_ne, ne_eq, Bool.and_eq_false_imp, beq_iff_eq, trV_cat]
    exact ⟨hne, hne1, fun q => fun z => e2 ⟨q, z⟩⟩
