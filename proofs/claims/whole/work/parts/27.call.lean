/-! CALLS -/
theorem popN_spec : ∀ (n : Nat) (acc st : List Vl), n ≤ st.length → acc.reverse ++ st = (popN n acc st).1.reverse ++ (popN n acc st).2 ∧ (popN n acc st).1.length = acc.length + n
  | 0, acc, st, _ => ⟨rfl, rfl⟩
  | n + 1, acc, [], h => by simp at h
  | n + 1, acc, v :: st, h => by
    obtain ⟨h1, h2⟩ := popN_spec n (v :: acc) st (by simpa using h)
    refine ⟨?_, ?_⟩
    · show acc.reverse ++ v :: st = (popN n (v :: acc) st).1.reverse ++ (popN n (v :: acc) st).2
      rw [← h1]
      simp
    · show (popN n (v :: acc) st).1.length = _
      rw [h2]
      simp only [List.length_cons]
      omega
theorem trV_ext {α α' : Ad → Nat} {h : Hp} (hE : Ext α α' h) {v : Vl} (hv : vok h v) : trV α' v = trV α v := by
  rcases v with x | x | x | x
  · rfl
  · rfl
  · show Value.ref _ = Value.ref _
    rw [hE x ((hv x rfl).imp id And.left)]
  · rfl
theorem Old.to {adV : Nat → Nat} {α : Ad → Nat} {A B : Nat → Prop} {s U : State} {H : Heap} {locs : List Loc} (h : Old adV α A s s.heap) (hS : va_S A s.heap H locs) (hAB : ∀ q, B q → A q) (hW : s.WarmedH U.vm) : Old adV α B U H := by
  obtain ⟨h1, h2, h3, h4, h5, h6, h7⟩ := h
  refine ⟨((h1.kept hS.2.1).narrow hAB).moved hW.alike, fun k hk => (h2 k hk).warm hW, ((h3.kept hS.2.1).narrow hAB).moved hW.alike, ((h4.kept hS.2.1).narrow hAB).moved hW.alike, fun w hw => ?_, h6.moved hW.alike, h7.moved hW.alike⟩
  have h8 := h5 w hw
  obtain ⟨a, i, x, b, rfl⟩ := isNest_of (List.mem_filter.mp hw).2
  exact h8.warmM hW
theorem Old.same {adV : Nat → Nat} {α : Ad → Nat} {A : Nat → Prop} {u U : State} {H : Heap} (hv : U.vm = u.vm) (h : Old adV α A u H) : Old adV α A U H := by
  obtain ⟨h1, h2, h3, h4, h5, h6, h7⟩ := h
  have ha : u.vm.Alike U.vm := by rw [hv]; exact Vm.Alike.refl _
  refine ⟨h1.moved ha, fun k hk => (h2 k hk).same hv, h3.moved ha, h4.moved ha, fun w hw => ?_, h6.moved ha, h7.moved ha⟩
  have h8 := h5 w hw
  obtain ⟨a, i, x, b, rfl⟩ := isNest_of (List.mem_filter.mp hw).2
  exact h8.same rfl hv.symm
theorem PcX_blind (D : va_G) (cy : Nat → ClassId) (adV : Nat → Nat) (α : Ad → Nat) (h : Hp) (as : List Vl) (sz : Nat) : FrameBlind (PcX D cy adV α h as sz) := by
  intro a U g mk q
  obtain ⟨q0, q1, q2, q3, q4, q5⟩ := q
  exact ⟨q0, q1, q2, va_K.moved (u := U) (U := U.calling g mk a) (Vm.Alike.refl U.vm) q3, q4, Old.same (u := U) (U := U.calling g mk a) rfl q5⟩
/-- which cells the callee may change lie in the caller's -/
theorem Wd_free {K : Kx} {s : State} {α : Ad → Nat} {H : Heap} {locs : List Loc} {h : Hp} (hw : Wd K s α H locs h) : ∀ q, va_A (wl (kY K) α h) H.size q → kA K q := by
  obtain ⟨hP, hD, hK, hS, hA, hI, hO⟩ := hw
  intro q hq
  rcases hq with ⟨k, e, hk⟩ | hq
  · exact hD.2 k (q, e) hk
  · exact hA q (Nat.le_trans hS.1 hq)
theorem PcX_of {K : Kx} {s : State} {α : Ad → Nat} {H : Heap} {locs : List Loc} {h : Hp} (hw : Wd K s α H locs h) (as : List Vl) (U : State) (hU : U.heap = H) (hW : s.WarmedH U.vm) : PcX (kD K) (kY K) (kV K) α h as H.size (as.map (trV α)).toArray U := by
  have hf := Wd_free hw
  obtain ⟨hP, hD, hK, hS, hA, hI, hO⟩ := hw
  exact ⟨rfl, by rw [hU], by rw [hU]; exact hP, va_K.moved hW.alike hK, hD.weaken (fun _ _ _ _ => trivial), by rw [hU]; exact hO.to hS hf hW⟩
/-- behind a call -/
theorem call_on {st0 : List Value} {X : Fx} {K : Kx} {mi nx mc ms : Nat} {F : Kf} (hF : Ok X K mi F) {ls rest : List Vl} {h : Hp} {r r1 : Rs} (hG1 : Gh h r1.2) (e : F nx ls (r1.1.toList ++ rest) r1.2 = some r) (hs : ∀ v ∈ rest, vok h v) {α : Ad → Nat} {H : Heap} {locs : List Loc} {cells slots : Nat} {lsM : Array Slot} (hw : Pw X K mi α H locs cells slots lsM ls h) (hmc : mc = nC r1.2 - nC h) (hms : ms = nS r1.2 - nS h) (hc : nC r.2 ≤ (xR X).cells + kC K) (hz : nS r.2 ≤ (xR X).slots + kS K) (hk : Kt X K mi α h r) {pc : Nat} (hp : pcs mi nx = pc + 3) {a : Array Value}
    (hr : va_Run (xp X) (xl X) (xe X) (xR X) (xs X) (xm X) (xa X) (xb X) (xt X) (xc X) H locs cells slots mc ms (F0 (xm X) pc lsM st0) (rest.map (trV α)) (QcX (kD K) (kY K) α h r1 H.size a) (va_A (wl (kY K) α h) H.size)) :
    Wx X H locs cells slots (F0 (xm X) pc lsM st0) := by
  have hf := Wd_free hw.1
  obtain ⟨hw1, h2, h3, h4, h5, h6⟩ := hw
  obtain ⟨hP, hD, hK, hS, hA, hI, hO⟩ := hw1
  intro T hT Xs
  obtain ⟨v, st₀, t, T', L, h0, X', hL, e1, e2, ⟨⟨α', hE, hv, hP1, hD1, hI1, hvk⟩, hz1, hk1⟩, stp⟩ := hr T hT Xs
  have hv' : v = r1.1.map (trV α') := by injection hv
  subst hv'
  rw [h0] at hz1 hk1
  have hS1 : va_S (kA K) (xs X).heap T'.heap (locs ++ L) := ⟨Nat.le_trans hS.1 (by rw [e1]; exact hz1), fun q g1 g2 => by rw [e1, hk1 q (Nat.lt_of_lt_of_le g1 hS.1) (fun z => g2 (hf q z))]; exact hS.2.1 q g1 g2, fun q hq => by
    rcases List.mem_append.mp hq with z | z
    · exact hS.2.2 q z
    · exact hf _ (hL q z)⟩
  have hW' : Wd K (xs X) α' T'.heap (locs ++ L) r1.2 := ⟨by rw [e1]; exact hP1, hD1.weaken (fun _ q _ g => hf q.1 g), hK, hS1, hA, hI1, hO.ext fun k => hE (99, k) (Or.inr (show 98 ≤ 99 by decide))⟩
  obtain ⟨⟨tl, htl⟩, hi98, -⟩ := id hG1
  have hin : ∀ b, b ∈ gA h → b ∈ gA r1.2 := fun b hb => by rw [htl]; exact List.mem_append_left _ hb
  have hvo : ∀ v, vok h v → vok r1.2 v := fun v hv b hb => (hv b hb).imp (hin b) id
  have hnC : nC h ≤ nC r1.2 := by show (gA h).length ≤ (gA r1.2).length; rw [htl, List.length_append]; omega
  have hnS : nS h ≤ nS r1.2 := by show szL (gA h) ≤ szL (gA r1.2); rw [htl, szL_app]; omega
  have hgo := hF nx ls (r1.1.toList ++ rest) r1.2 r e (fun v hv => by
      rcases List.mem_append.mp hv with z | z
      · exact hvk v (Option.mem_toList.mp z)
      · exact hvo v (hs v z)) α' T'.heap (locs ++ L) (cells + mc) (slots + ms) lsM ⟨hW', ⟨h2.1, h2.2.1, h2.2.2.1, fun i hi => by rw [trV_ext hE (h3 i)]; exact h2.2.2.2 i hi⟩, fun i => hvo _ (h3 i), by omega, by omega, h6.ext (hE (98, 0) (Or.inr (show 98 ≤ 98 by decide))) hi98⟩ hc hz (fun α2 H2 locs2 c2 s2 ip2 ls2 hE2 => hk α2 H2 locs2 c2 s2 ip2 ls2 (fun b hb => (hE2 b (hb.imp (hin b) id)).trans (hE b hb)))
  obtain ⟨t2, a1, b1⟩ := hgo T' rfl X'
  refine ⟨t2, stp t2 ?_, b1⟩
  have hmap : (r1.1.toList ++ rest).map (trV α') = (r1.1.map (trV α')).toList ++ rest.map (trV α) := by
    rw [List.map_append]
    congr 1
    · cases r1.1 <;> rfl
    · exact List.map_congr_left fun v hv => trV_ext hE (hs v hv)
  rw [hmap, hp] at a1
  exact a1
