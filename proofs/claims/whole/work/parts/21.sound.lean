/-! SOUNDNESS: what it means that an act tells what an instruction does -/
abbrev Fx : Type := (Launch × Program × Env × Room) × (State × MethodId × Array Value) × (List Frame × Method × Code) × (State → Prop)
abbrev xl (X : Fx) : Launch := X.1.1
abbrev xp (X : Fx) : Program := X.1.2.1
abbrev xe (X : Fx) : Env := X.1.2.2.1
abbrev xR (X : Fx) : Room := X.1.2.2.2
abbrev xs (X : Fx) : State := X.2.1.1
abbrev xm (X : Fx) : MethodId := X.2.1.2.1
abbrev xa (X : Fx) : Array Value := X.2.1.2.2
abbrev xb (X : Fx) : List Frame := X.2.2.1.1
abbrev xt (X : Fx) : Method := X.2.2.1.2.1
abbrev xc (X : Fx) : Code := X.2.2.1.2.2
abbrev xQ (X : Fx) : State → Prop := X.2.2.2
abbrev Wx (X : Fx) (H : Heap) (locs : List Loc) (cells slots : Nat) (g : JFrame) : Prop := W (xp X) (xl X) (xe X) (xR X) (xs X) (xm X) (xa X) (xb X) (xt X) (xc X) H locs cells slots (xQ X) g
abbrev Kx : Type := va_G × ((Nat → ClassId) × ((Nat → Nat) × ((Nat → Prop) × (Nat × Nat))))
abbrev kD (K : Kx) : va_G := K.1
abbrev kY (K : Kx) : Nat → ClassId := K.2.1
abbrev kV (K : Kx) : Nat → Nat := K.2.2.1
abbrev kA (K : Kx) : Nat → Prop := K.2.2.2.1
abbrev kC (K : Kx) : Nat := K.2.2.2.2.1
abbrev kS (K : Kx) : Nat := K.2.2.2.2.2
def Sit (X : Fx) (mi d : Nat) : Prop := (xp X).tables.exec = Jvm.exec ∧ (xc X).code = bys mi ∧ (xc X).maxLocals = mx mi ∧ (xs X).vm.findClass (own mi) = some (xm X).cls ∧ (∀ w ∈ gw, w.before (xa X) (xs X) = true) ∧ (xt X).locks = false ∧ (xt X).sig.returnType = rt mi ∧ ((yn mi).name = "<init>" → (xt X).name = "<init>") ∧ d + 8 ≤ (xR X).frames ∧ 64 * d + 300 ≤ (xR X).locals
def Wd (K : Kx) (s : State) (α : Ad → Nat) (H : Heap) (locs : List Loc) (h : Hp) : Prop :=
  va_P (kD K) vwCl (wl (kY K) α h) H ∧ va_D (kA K) (wl (kY K) α h) ∧ va_K (kD K) vwCl (tyL (kY K)) s ∧ va_S (kA K) s.heap H locs ∧ (∀ q, s.heap.size ≤ q → kA K q) ∧ Iv h ∧ Old (kV K) α (kA K) s s.heap
def Sc (K : Kx) (mi : Nat) (s : State) (α : Ad → Nat) (h : Hp) : Prop := mi = 0 → α (98, 0) = kV K 1000 ∧ (gI h (98, 1) 0 < 0 ∨ ∃ (L : Nat) (xs : Nat → Int32), va_X (α (98, 0)) L xs s s.heap ∧ α (98, 0) < s.heap.size ∧ ¬ kA K (α (98, 0)) ∧ gI h (98, 1) 0 = Int32.ofNat L ∧ L < 2 ^ 31 ∧ ∀ j, j < L → gI h (98, 0) j = xs j)
theorem Sc.ext {K : Kx} {mi : Nat} {s : State} {α α' : Ad → Nat} {h h' : Hp} (hs : Sc K mi s α h) (hα : α' (98, 0) = α (98, 0)) (hi : ∀ a : Ad, 98 ≤ a.1 → gI h' a = gI h a) : Sc K mi s α' h' := by
  intro z
  refine ⟨hα.trans (hs z).1, ?_⟩
  rcases (hs z).2 with q | ⟨L, xs, g1, g2, g3, g4, g5, g6⟩
  · exact Or.inl (by rw [hi _ (show 98 ≤ 98 by decide)]; exact q)
  · exact Or.inr ⟨L, xs, by rw [hα]; exact g1, by rw [hα]; exact g2, by rw [hα]; exact g3, by rw [hi _ (show 98 ≤ 98 by decide)]; exact g4, g5, fun j hj => by rw [hi _ (show 98 ≤ 98 by decide)]; exact g6 j hj⟩
def Pw (X : Fx) (K : Kx) (mi : Nat) (α : Ad → Nat) (H : Heap) (locs : List Loc) (cells slots : Nat) (lsM : Array Slot) (ls : List Vl) (h : Hp) : Prop :=
  Wd K (xs X) α H locs h ∧ Lh α (mx mi) lsM ls ∧ (∀ i, vok h (nthD ls i vU)) ∧ cells + kC K = nC h ∧ slots + kS K = nS h ∧ Sc K mi (xs X) α h
/-- the instruction at a place ends the method with that answer -/
def RetC (mi ip : Nat) : Option Vl → Prop
  | none => decode (bys mi) (pcs mi ip) = .ok (.return_, 1) ∧ rt mi = none
  | some (.inl x) => decode (bys mi) (pcs mi ip) = .ok (.ireturn, 1) ∧ (rt mi = some .int ∨ (rt mi = some .boolean ∧ (x = 0 ∨ x = 1)))
  | some (.inr (.inl _)) => decode (bys mi) (pcs mi ip) = .ok (.lreturn, 1) ∧ rt mi = some .long
  | some (.inr (.inr _)) => decode (bys mi) (pcs mi ip) = .ok (.areturn, 1) ∧ ∃ C, rt mi = some (.object C)
def Ext (α α' : Ad → Nat) (h : Hp) : Prop := ∀ a : Ad, a ∈ gA h ∨ 98 ≤ a.1 → α' a = α a
def Kt (X : Fx) (K : Kx) (mi : Nat) (α : Ad → Nat) (h : Hp) (r : Rs) : Prop := ∀ (α' : Ad → Nat) (H' : Heap) (locs' : List Loc) (cells' slots' ip : Nat) (lsM : Array Slot), Ext α α' h → Wd K (xs X) α' H' locs' r.2 → cells' + kC K = nC r.2 → slots' + kS K = nS r.2 → RetC mi ip r.1 → (∀ v, r.1 = some v → vok r.2 v) →
  Wx X H' locs' cells' slots' (F0 (xm X) (pcs mi ip) lsM (r.1.toList.map (trV α')))
def OkAt (X : Fx) (K : Kx) (mi ip : Nat) (G : List Vl → List Vl → Hp → Option Rs) : Prop := ∀ (ls st : List Vl) (h : Hp) (r : Rs), G ls st h = some r → (∀ v ∈ st, vok h v) → ∀ (α : Ad → Nat) (H : Heap) (locs : List Loc) (cells slots : Nat) (lsM : Array Slot), Pw X K mi α H locs cells slots lsM ls h → nC r.2 ≤ (xR X).cells + kC K → nS r.2 ≤ (xR X).slots + kS K → Kt X K mi α h r →
  Wx X H locs cells slots (F0 (xm X) (pcs mi ip) lsM (st.map (trV α)))
def Ok (X : Fx) (K : Kx) (mi : Nat) (F : Kf) : Prop := ∀ ip, OkAt X K mi ip (F ip)
def GrK (F : Kf) : Prop := ∀ (pc : Nat) (ls st : List Vl) (h : Hp) (r : Rs), F pc ls st h = some r → ∃ t, gA r.2 = gA h ++ t
def PcX (D : va_G) (cy : Nat → ClassId) (adV : Nat → Nat) (α : Ad → Nat) (h : Hp) (as : List Vl) (sz : Nat) : Array Value → State → Prop :=
  va_Pc (as.map (trV α)) (fun U => U.heap.size = sz ∧ va_P D vwCl (wl cy α h) U.heap ∧ va_K D vwCl (tyL cy) U ∧ va_D (fun _ => True) (wl cy α h) ∧ Old adV α (va_A (wl cy α h) sz) U U.heap)
def QcX (D : va_G) (cy : Nat → ClassId) (α : Ad → Nat) (h : Hp) (r : Rs) (sz : Nat) : Array Value → State → Outcome → State → Prop := fun _ st oc t =>
  (∃ α', Ext α α' h ∧ oc = .returned (r.1.map (trV α')) ∧ va_P D vwCl (wl cy α' r.2) t.heap ∧ va_D (va_A (wl cy α h) sz) (wl cy α' r.2) ∧ Iv r.2 ∧ (∀ v, r.1 = some v → vok r.2 v)) ∧ va_F (va_A (wl cy α h) sz) st t
def wsm (mj : Nat) : List Cond := Cond.code (yn mj) (bys mj) (mx mj) (rt mj) :: gw
abbrev rmD (d mc ms : Nat) : Room := { frames := d + 8, cells := mc, slots := ms, locals := 64 * d + 300 }
def OkC (l : Launch) (d : Nat) (C : Cf) : Prop := ∀ (mj : Nat) (as : List Vl) (h : Hp) (r : Rs), C mj as h = some r → 0 < mj → mj < 238 → Gh h r.2 ∧ ∀ (D : va_G) (cy : Nat → ClassId) (adV : Nat → Nat) (α : Ad → Nat) (sz : Nat), Iv h → (∀ v ∈ as, vok h v) →
  Met l (yn mj) (wsm mj) (rmD d (nC r.2 - nC h) (nS r.2 - nS h)) (PcX D cy adV α h as sz) (QcX D cy α h r sz) (nC r.2 - nC h) (nS r.2 - nS h) (va_A (wl cy α h) sz)
/-- the act at a place is right: from any frame of that method, with what comes behind it right -/
def Snd (mi ip : Nat) (act : Act) : Prop := ∀ (X : Fx) (K : Kx) (d : Nat) (F : Kf) (C : Cf), Sit X mi (d + 1) → Ok X K mi F → GrK F → OkC (xl X) d C → OkAt X K mi ip (act F C)
theorem Kt.rf {X : Fx} {K : Kx} {mi : Nat} {α : Ad → Nat} {h : Hp} {r : Rs} (k : Kt X K mi α h r) : Kt X K mi α h r := k
theorem all_cons {h : Hp} {v : Vl} {st : List Vl} (hv : vok h v) (hs : ∀ w ∈ st, vok h w) : ∀ w ∈ v :: st, vok h w := fun w hw => by
  rcases List.mem_cons.mp hw with e | e
  · rw [e]; exact hv
  · exact hs w e
theorem vok_I (h : Hp) (x : Int32) : vok h (vI x) := fun a e => by cases e
theorem vok_L (h : Hp) (x : Int64) : vok h (vL x) := fun a e => by cases e
theorem vok_N (h : Hp) : vok h vN := fun a e => by cases e
theorem vok_U (h : Hp) : vok h vU := fun a e => by cases e
theorem all_tl {h : Hp} {v : Vl} {st : List Vl} (hs : ∀ w ∈ v :: st, vok h w) : ∀ w ∈ st, vok h w := fun w hw => hs w (List.mem_cons_of_mem _ hw)
theorem all_hd {h : Hp} {v : Vl} {st : List Vl} (hs : ∀ w ∈ v :: st, vok h w) : vok h v := hs v List.mem_cons_self
/-- the world stays, the stack changes: on at nx -/
theorem Ok.on {X : Fx} {K : Kx} {mi nx : Nat} {F : Kf} (hF : Ok X K mi F) {ls st' : List Vl} {h : Hp} {r : Rs} (e : F nx ls st' h = some r) (hs : ∀ v ∈ st', vok h v) {α : Ad → Nat} {H : Heap} {locs : List Loc} {cells slots : Nat} {lsM : Array Slot} (hw : Pw X K mi α H locs cells slots lsM ls h) (hc : nC r.2 ≤ (xR X).cells + kC K) (hz : nS r.2 ≤ (xR X).slots + kS K) (hk : Kt X K mi α h r) {pc : Nat} (hp : pcs mi nx = pc) : Wx X H locs cells slots (F0 (xm X) pc lsM (st'.map (trV α))) := by
  subst hp
  exact hF nx ls st' h r e hs α H locs cells slots lsM hw hc hz hk
theorem vok_S (h : Hp) (k : Nat) (hk : k < 21) : vok h (vR (99, k)) := fun a ea => by
  cases ea
  exact Or.inr ⟨show 98 ≤ 99 by decide, hk⟩
theorem vok_set {h : Hp} {ls : List Vl} {i : Nat} {v : Vl} (hv : vok h v) (hl : ∀ j, vok h (nthD ls j vU)) : ∀ j, vok h (nthD ((fixp ls i).set i v) j vU) := by
  intro j
  rw [nthD_set]
  split
  · exact hv
  · rcases Classical.em (nthD (fixp ls i) j vU = vU) with z | z
    · rw [z]; exact vok_U h
    · rw [(fixp_at ls i j z).1]; exact hl j
theorem vok_set2 {h : Hp} {ls : List Vl} {i : Nat} {v : Vl} (hv : vok h v) (hl : ∀ j, vok h (nthD ls j vU)) : ∀ j, vok h (nthD (((fixp ls i).set i v).set (i + 1) vU) j vU) := by
  intro j
  rw [nthD_set]
  split
  · exact vok_U h
  · exact vok_set hv hl j
theorem nthD_nil (i : Nat) : nthD ([] : List Vl) i vU = vU := by cases i <;> rfl
theorem msk_at : ∀ (mk : List Bool) (l : List Vl) (i : Nat), nthD (msk mk l) i vU = vU ∨ nthD (msk mk l) i vU = nthD l i vU
  | [], l, i => Or.inr rfl
  | _ :: _, [], i => Or.inl (nthD_nil i)
  | b :: bs, v :: l, 0 => by cases b <;> simp [msk, nthD]
  | b :: bs, v :: l, i + 1 => msk_at bs l i
theorem msk_len : ∀ (mk : List Bool) (l : List Vl), (msk mk l).length = l.length
  | [], l => rfl
  | _ :: _, [] => rfl
  | b :: bs, v :: l => by simp [msk, msk_len bs l]
theorem sd_ms {mi ip : Nat} (mk : List Bool) {act : Act} (hs : Snd mi ip act) : Snd mi ip (a_ms mk act) := by
  intro X K d F C hX hF hG hC ls st h r e hst α H locs cells slots lsM hw hc hz hk
  refine hs X K d F C hX hF hG hC (msk mk ls) st h r e hst α H locs cells slots lsM ⟨hw.1, ⟨hw.2.1.1, hw.2.1.2.1, by rw [msk_len]; exact hw.2.1.2.2.1, fun i hi => ?_⟩, fun i => ?_, hw.2.2.2⟩ hc hz hk
  · rcases msk_at mk ls i with z | z
    · exact absurd z hi
    · rw [z] at hi ⊢; exact hw.2.1.2.2.2 i hi
  · rcases msk_at mk ls i with z | z
    · rw [z]; exact vok_U h
    · rw [z]; exact hw.2.2.1 i
