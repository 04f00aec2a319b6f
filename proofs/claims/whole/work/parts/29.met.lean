/-! EVERY METHOD KEEPS ITS CONTRACT, if every act is right -/
def AllSnd : Prop := ∀ mi, mi < 238 → ∀ ip, Snd mi ip (nthD (tb mi) ip a_bad)
theorem sd_bad (mi ip : Nat) : Snd mi ip a_bad := by
  intro X K d F C hX0 hF hG hOC ls st h r e
  cases e
set_option maxRecDepth 100000 in
theorem own_cls : ∀ m, m < 238 → own m = (yn m).cls := by decide +kernel
set_option maxRecDepth 100000 in
theorem yn_plain : ∀ m, m < 238 → plainName (yn m).cls = true := by decide +kernel
set_option maxRecDepth 100000 in
theorem pcs_0 : ∀ m, m < 238 → pcs m 0 = 0 := by decide +kernel
theorem expL_len : ∀ as : List Vl, (expL as).length = catS as
  | [] => rfl
  | v :: l => by
    rcases v with x | x | x
    · simp only [expL, List.length_cons, catS, catV, expL_len l]; omega
    · simp only [expL, List.length_cons, catS, catV, expL_len l]; omega
    · simp only [expL, List.length_cons, catS, catV, expL_len l]; omega
theorem lg_len (α : Ad → Nat) : ∀ as : List Vl, (lg_sl (as.map (trV α))).length = catS as
  | [] => rfl
  | v :: l => by
    have h := lg_len α l
    simp only [lg_sl] at h ⊢
    rw [List.map_cons, List.flatMap_cons, List.length_append, h]
    rcases v with x | x | x
    · rfl
    · rfl
    · rcases x with y | y <;> rfl
theorem padL_len : ∀ (n : Nat) (l : List Vl), l.length ≤ n → (padL n l).length = n
  | 0, [], _ => rfl
  | 0, _ :: _, h => by simp at h
  | n + 1, [], _ => by simp [padL, padL_len n [] (Nat.zero_le _)]
  | n + 1, v :: l, h => by simp [padL, padL_len n l (by simpa using h)]
theorem padL_at : ∀ (n : Nat) (l : List Vl) (i : Nat), nthD (padL n l) i vU = nthD l i vU
  | 0, l, i => rfl
  | n + 1, [], 0 => rfl
  | n + 1, [], i + 1 => padL_at n [] i
  | n + 1, v :: l, 0 => rfl
  | n + 1, v :: l, i + 1 => padL_at n l i
theorem exp_args (α : Ad → Nat) : ∀ (as : List Vl) (i k : Nat), nthD (expL as) i vU ≠ vU → (k + i, trV α (nthD (expL as) i vU)) ∈ lv_args k (as.map (trV α))
  | [], i, k, h => absurd rfl h
  | v :: l, i, k, h => by
    have hc : (trV α v).category = catV v := trV_cat α v
    rcases v with x | x | x
    · cases i with
      | zero => exact List.mem_cons_self
      | succ i =>
        refine List.mem_cons_of_mem _ ?_
        have := exp_args α l i (k + 1) h
        rw [show k + (i + 1) = k + 1 + i by omega]
        exact this
    · match i with
      | 0 => exact List.mem_cons_self
      | 1 => exact absurd rfl h
      | i + 2 =>
        refine List.mem_cons_of_mem _ ?_
        have := exp_args α l i (k + 2) h
        rw [show k + (i + 2) = k + 2 + i by omega]
        exact this
    · cases i with
      | zero => exact List.mem_cons_self
      | succ i =>
        refine List.mem_cons_of_mem _ ?_
        have := exp_args α l i (k + 1) h
        rw [show k + (i + 1) = k + 1 + i by omega]
        rcases x with y | y <;> exact this
theorem expL_vok {h : Hp} : ∀ (as : List Vl), (∀ v ∈ as, vok h v) → ∀ i, vok h (nthD (expL as) i vU)
  | [], _, i => vok_U h
  | v :: l, hs, i => by
    have hl := expL_vok l (all_tl hs)
    rcases v with x | x | x
    · cases i with
      | zero => exact all_hd hs
      | succ i => exact hl i
    · match i with
      | 0 => exact all_hd hs
      | 1 => exact vok_U h
      | i + 2 => exact hl i
    · cases i with
      | zero => exact all_hd hs
      | succ i => exact hl i
theorem ent_has {α : Ad → Nat} {m : Nat} {as : List Vl} {lsM : Array Slot} (hle : catS as ≤ mx m) (hl : lv_has lsM (mx m) (lv_args 0 (as.map (trV α)))) : Lh α (mx m) lsM (ent m as) := by
  refine ⟨hl.1, hl.2.1, Nat.le_of_eq (padL_len _ _ (by rw [expL_len]; exact hle)), fun i hi => ?_⟩
  unfold ent at hi ⊢
  rw [padL_at] at hi ⊢
  have := exp_args α as i 0 hi
  rw [Nat.zero_add] at this
  exact hl.2.2 _ this
set_option maxHeartbeats 4000000 in
theorem met_of {l : Launch} {n d mj : Nat} (hok : ∀ (X : Fx) (K : Kx), xl X = l → Sit X mj (d + 1) → Ok X K mj (run n d mj)) (hm : mj < 238) {as : List Vl} {h : Hp} {r : Rs} (hle : catS as ≤ mx mj) (e : run n d mj 0 (ent mj as) [] h = some r) (D : va_G) (cy : Nat → ClassId) (adV : Nat → Nat) (α : Ad → Nat) (sz : Nat) (hI : Iv h) (hsa : ∀ v ∈ as, vok h v) (hm0 : 0 < mj) :
    Met l (yn mj) (wsm mj) (rmD (d + 1) (nC r.2 - nC h) (nS r.2 - nS h)) (PcX D cy adV α h as sz) (QcX D cy α h r sz) (nC r.2 - nC h) (nS r.2 - nS h) (va_A (wl cy α h) sz) := by
  refine Met.ofW (cc := bys mj) (maxL := mx mj) (ret := rt mj) (yn_plain mj hm) rfl ?_
  intro p e0 s m args below meth c s₁ B hml hv
  obtain ⟨rfl, hsz, hP, hK, hD0, hO⟩ := hv
  have hx := B.exec
  have hb := B.bytes
  have hr := B.returns
  have hts := atoms_spec (ws := wsm mj) B.pre
  have hown : s.vm.findClass (own mj) = some m.cls := by rw [own_cls mj hm]; exact findClass_of_methodNamed B.named
  have hlocks := B.notSynchronized
  have hin : meth.name = (yn mj).name := (name_of_methodNamed B.named B.method).1
  subst hsz
  have hGh := run_Gh _ _ _ _ _ _ _ _ e
  obtain ⟨⟨t1, ht1⟩, -⟩ := id hGh
  have n1 : nC r.2 = nC h + t1.length := by show (gA r.2).length = (gA h).length + _; rw [ht1, List.length_append]
  have z1 : nS r.2 = nS h + szL t1 := by show szL (gA r.2) = szL (gA h) + _; rw [ht1, szL_app]
  have hl := lv_entry (as.map (trV α)) (n := mx mj) (by rw [lg_len]; exact hle)
  rw [lg_entry_eq]
  generalize (lg_sl (as.map (trV α)) ++ List.replicate (mx mj - (lg_sl (as.map (trV α))).length) Slot.unset).toArray = lsM at hl ⊢
  have hgo := hok ((l, p, e0, rmD (d + 1) (nC r.2 - nC h) (nS r.2 - nS h)), (s, m, (as.map (trV α)).toArray), (below, meth, c), MQ below (QcX D cy α h r s.heap.size) (as.map (trV α)).toArray s (nC r.2 - nC h) (nS r.2 - nS h) (va_A (wl cy α h) s.heap.size)) (D, (cy, (adV, (va_A (wl cy α h) s.heap.size, (nC h, nS h))))) rfl
    ⟨hx, hb, hml, hown, fun w hw => hts w (List.mem_cons_of_mem _ hw), hlocks, hr, fun z => hin.trans z, Nat.le_refl _, Nat.le_refl _⟩ 0 (ent mj as) [] h r e (fun v hv => by cases hv) α s.heap [] 0 0 lsM
    ⟨⟨hP, hD0.self, hK, va_S.rf, fun q hq => Or.inr hq, hI, hO⟩, ent_has hle hl, fun i => by unfold ent; rw [padL_at]; exact expL_vok as hsa i, Nat.zero_add _, Nat.zero_add _, fun z => by omega⟩ (by show nC r.2 ≤ nC r.2 - nC h + nC h; omega) (by show nS r.2 ≤ nS r.2 - nS h + nS h; omega) ?_
  · rw [pcs_0 mj hm] at hgo
    exact hgo
  · intro α' H' locs' cells' slots' ip lsM' hE hW hc hs hR hvk
    obtain ⟨hP', hD', hK', hS', hA', hI', hO'⟩ := hW
    have hc : cells' + nC h = nC r.2 := hc
    have hs : slots' + nS h = nS r.2 := hs
    have ec : cells' = nC r.2 - nC h := by omega
    have es : slots' = nS r.2 - nS h := by omega
    subst ec
    subst es
    have hpost : ∀ (v : Option Value), v = r.1.map (trV α') → ∀ t : State, t.heap = H' → s.WarmedH t.vm → QcX D cy α h r s.heap.size (as.map (trV α)).toArray s (.returned v) t := by
      intro v hv t ht hWt
      exact ⟨⟨α', hE, by rw [hv], by rw [ht]; exact hP', hD', hI', hvk⟩, hS'.F ht⟩
    rcases hrv : r.1 with _ | (x | x | x)
    · rw [hrv] at hR hpost
      exact W.vret hx hb (hr.trans hR.2) (hpost none rfl) hS'.2.2 hR.1
    · rw [hrv] at hR hpost
      rcases hR.2 with hri | ⟨hrb, h01⟩
      · exact W.iret (v := x) hx hb (hr.trans hri) (hpost _ rfl) hS'.2.2 hR.1
      · exact W.zret (v := x) (ty := .boolean) hx hb (hr.trans hrb) (by rcases h01 with rfl | rfl <;> rfl) (hpost _ rfl) hS'.2.2 hR.1
    · rw [hrv] at hR hpost
      exact W.lret (v := x) hx hb (hr.trans hR.2) (hpost _ rfl) hS'.2.2 hR.1
    · rw [hrv] at hR hpost
      obtain ⟨C, hrC⟩ := hR.2
      refine W.aret (v := trV α' (.inr (.inr x))) (rt := .object C) hx hb (hr.trans hrC) (Or.inl ⟨C, rfl⟩) ?_ (hpost _ rfl) hS'.2.2 hR.1
      rcases x with y | y
      · exact Or.inr ⟨_, rfl⟩
      · exact Or.inl rfl
theorem ok_run {l : Launch} (hAll : AllSnd) : ∀ (n D : Nat), (∀ (X : Fx) (K : Kx) (mi : Nat), xl X = l → mi < 238 → Sit X mi (D + 1) → Ok X K mi (run n D mi)) ∧ OkC l D (calR n D) := by
  intro n
  induction n with
  | zero =>
    intro D
    refine ⟨fun X K mi _ _ _ ip ls st h r e => (by cases e), fun mj as h r e => ?_⟩
    cases D with
    | zero => cases e
    | succ d =>
      obtain ⟨-, e⟩ := bif_some.mp e
      cases e
  | succ n ih =>
    have h1 : ∀ D (X : Fx) (K : Kx) (mi : Nat), xl X = l → mi < 238 → Sit X mi (D + 1) → Ok X K mi (run (n + 1) D mi) := by
      intro D X K mi hl hm hX ip ls st h r e
      rw [run_succ] at e
      exact hAll mi hm ip X K D (run n D mi) (calR n D) hX ((ih D).1 X K mi hl hm hX) (fun pc ls st h r e => (run_Gh _ _ _ _ _ _ _ _ e).1) (by rw [hl]; exact (ih D).2) ls st h r e
    intro D
    refine ⟨h1 D, fun mj as h r e hm0 hm => ?_⟩
    cases D with
    | zero => cases e
    | succ d =>
      obtain ⟨e0, e⟩ := bif_some.mp e
      exact ⟨run_Gh _ _ _ _ _ _ _ _ e, fun D cy adV α sz hI hsa => met_of (fun X K hl hX => h1 d X K mj hl hm hX) hm (Nat.le_of_ble_eq_true e0) e D cy adV α sz hI hsa hm0⟩
