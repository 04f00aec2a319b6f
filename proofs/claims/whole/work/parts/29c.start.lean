/-! THE START: the two objects are made; then the references are as R0 tells them -/
def h00 : Hp := (([], plL ++ [(97, 0)]), (fun _ _ => none, (fun a j => if a = (98, 1) ∧ j = 0 then -1 else 0, fun _ _ => 0)))
def hS1 : Hp := hpN h00 (0, 0) (gP h00).tail
def rS1 : Option Rs := run 4000 59 mPx_init 0 (ent mPx_init [vR (0, 0)]) [] hS1
def hS2 : Hp := (rS1.getD (none, h00)).2
def hS3 : Hp := hpN hS2 (43, 0) (gP hS2).tail
def rS2 : Option Rs := run 4000 59 mMo_init 0 (ent mMo_init [vR (43, 0)]) [] hS3
def hS4 : Hp := (rS2.getD (none, h00)).2
set_option maxRecDepth 1000000 in
theorem fS1 : rS1.map Prod.fst = some none ∧ gP h00 = (0, 0) :: (gP h00).tail ∧ gP hS2 = (43, 0) :: (gP hS2).tail := by decide +kernel
set_option maxRecDepth 1000000 in
theorem fS2 : rS2.map Prod.fst = some none ∧ gA hS4 = plL := by decide +kernel
theorem opt_fst {r : Option Rs} {d : Rs} (h : r.map Prod.fst = some none) : r = some (none, (r.getD d).2) := by
  rcases r with _ | ⟨a, b⟩
  · cases h
  · have : a = none := Option.some.inj h
    subst this
    rfl
theorem eS1 : run 4000 59 mPx_init 0 (ent mPx_init [vR (0, 0)]) [] hS1 = some (none, hS2) := opt_fst (r := rS1) (d := (none, h00)) fS1.1
theorem eS2 : run 4000 59 mMo_init 0 (ent mMo_init [vR (43, 0)]) [] hS3 = some (none, hS4) := opt_fst (r := rS2) (d := (none, h00)) fS2.1
set_option maxRecDepth 1000000 in
theorem fS3 : ∀ a ∈ plL, ∀ k, k < (if (kd a.1).1 = 0 then nfC (kd a.1).2 else if 5 ≤ (kd a.1).1 then (kd a.1).2 else 0) → gR hS4 a k = R0 a k := by decide +kernel
/-- the law's steps up to its loop -/
def preF (F' : Kf) (n D : Nat) : Nat → Kf
  | 0 => fun _ _ _ _ => none
  | k + 1 => fun pc ls st h => nthD (tb 0) pc a_bad (fun pc' ls' st' h' => bif Nat.beq pc' 10 then F' pc' ls' st' h' else preF F' n D k pc' ls' st' h') (calR n D) ls st h
theorem preF_ok {X : Fx} {K : Kx} {n D : Nat} {F' : Kf} (hAll : AllSnd) (hX : Sit X 0 (D + 1)) (hF : Ok X K 0 F') (hG : GrK F') : ∀ k, Ok X K 0 (preF F' n D k) ∧ GrK (preF F' n D k)
  | 0 => ⟨fun ip ls st h r e => (by cases e), fun pc ls st h r e => (by cases e)⟩
  | k + 1 => by
    obtain ⟨h1, h2⟩ := preF_ok (n := n) hAll hX hF hG k
    have h3 : Ok X K 0 (fun pc' ls' st' h' => bif Nat.beq pc' 10 then F' pc' ls' st' h' else preF F' n D k pc' ls' st' h') := by
      intro ip
      by_cases hb : Nat.beq ip 10 = true
      · simp only [hb, cond_true]; exact hF ip
      · simp only [Bool.not_eq_true] at hb
        simp only [hb, cond_false]; exact h1 ip
    have h4 : GrK (fun pc' ls' st' h' => bif Nat.beq pc' 10 then F' pc' ls' st' h' else preF F' n D k pc' ls' st' h') := by
      intro pc ls st h r e
      by_cases hb : Nat.beq pc 10 = true
      · simp only [hb, cond_true] at e; exact hG pc ls st h r e
      · simp only [Bool.not_eq_true] at hb
        simp only [hb, cond_false] at e; exact h2 pc ls st h r e
    refine ⟨fun ip => hAll 0 (by decide) ip X K D _ (calR n D) hX h3 h4 (ok_run hAll n D).2, fun pc ls st h r e => ?_⟩
    rcases tb_shp 0 pc ls st h with s | ⟨v, s⟩ | ⟨p', l', s', h', g, s⟩ | ⟨mj, as, f, s⟩
    · simp only [preF] at e; rw [s] at e; cases e
    · simp only [preF] at e; rw [s] at e; cases e; exact ⟨[], (List.append_nil _).symm⟩
    · simp only [preF] at e
      rw [s] at e
      obtain ⟨t1, e1⟩ := g.1
      obtain ⟨t2, e2⟩ := h4 p' l' s' h' r e
      exact ⟨t1 ++ t2, by rw [e2, e1, List.append_assoc]⟩
    · simp only [preF] at e
      rw [s] at e
      simp only [Option.bind_eq_some_iff] at e
      obtain ⟨r1, e1, q, e2, e3⟩ := e
      have g1 : Gh h r1.2 := by
        cases D with
        | zero => cases e1
        | succ d => exact run_Gh _ _ _ _ _ _ _ _ (bif_some.mp e1).2
      rw [mrg_eq g1] at e3
      obtain ⟨t1, e1⟩ := g1.1
      obtain ⟨t2, e2⟩ := h4 _ _ _ _ r e3
      exact ⟨t1 ++ t2, by rw [e2, e1, List.append_assoc]⟩
theorem arrV_ext {cA : ClassId} {n : Nat} {f g : Nat → Value} (h : ∀ j, j < n → f j = g j) : arrV cA n f = arrV cA n g := by
  unfold arrV
  congr 2
  funext j
  exact h j.val j.isLt
/-- a world goes over into one with other references where they are the same -/
theorem Wd_switch {K : Kx} {s : State} {α : Ad → Nat} {H : Heap} {locs : List Loc} {h h' : Hp} (hw : Wd K s α H locs h) (hA : gA h' = gA h) (hP' : gP h' = []) (hI : ∀ a ∈ gA h, gI h' a = gI h a) (hJ : ∀ a ∈ gA h, gJ h' a = gJ h a) (hR : ∀ a ∈ gA h, ∀ k, k < (if (kd a.1).1 = 0 then nfC (kd a.1).2 else if 5 ≤ (kd a.1).1 then (kd a.1).2 else 0) → gR h a k = gR h' a k) (hC : ∀ a ∈ gA h, ∀ k b, gR h' a k = some b → b ∈ gA h) : Wd K s α H locs h' := by
  obtain ⟨hP, hD, hK, hS, hAq, hIv, hO⟩ := hw
  have hcell : ∀ a ∈ gA h, (∃ c f, celE (kY K) α h a = .inr (c, f) ∧ celE (kY K) α h' a = .inr (c, f)) ∨ (∃ c x y, celE (kY K) α h a = .inl (c, x) ∧ celE (kY K) α h' a = .inl (c, y) ∧ vp_cell c x = vp_cell c y) := by
    intro a ha
    rcases hkd : kd a.1 with ⟨t, n⟩
    by_cases h0 : t = 0
    · subst h0
      refine Or.inl ⟨n, _, cel_obj hkd, ?_⟩
      rw [cel_obj hkd]
      congr 2
      refine List.map_congr_left fun k hk => ?_
      unfold fldV
      rw [hI a ha, hR a ha k (by rw [hkd]; simpa using hk)]
    · by_cases h3 : t ≤ 3
      · refine Or.inr ⟨_, _, _, cel_arr hkd (by omega) h3, cel_arr hkd (by omega) h3, ?_⟩
        rw [hI a ha]
      · by_cases h4 : t = 4
        · subst h4
          refine Or.inr ⟨_, _, _, cel_long hkd, cel_long hkd, ?_⟩
          rw [hJ a ha]
        · refine Or.inr ⟨_, _, _, cel_refs hkd (by omega), cel_refs hkd (by omega), ?_⟩
          rw [vp_cell_q, vp_cell_q]
          refine arrV_ext fun j hj => ?_
          rw [hR a ha j (by rw [hkd]; simp only; rw [if_neg h0, if_pos (by omega)]; exact hj)]
  have hlen : (wl (kY K) α h').length = (wl (kY K) α h).length := by unfold wl; rw [hA]; simp
  have hat : ∀ (k : Nat) (q : Nat × va_E), (wl (kY K) α h')[k]? = some q → ∃ q0, (wl (kY K) α h)[k]? = some q0 ∧ q0.1 = q.1 ∧ (va_at (kD K) vwCl q0 H → va_at (kD K) vwCl q H) := by
    intro k q hq
    unfold wl at hq
    rw [hA, List.getElem?_map] at hq
    cases ha : (gA h)[k]? with
    | none => rw [ha] at hq; cases hq
    | some a =>
      rw [ha] at hq
      have hq : (α a, celE (kY K) α h' a) = q := Option.some.inj hq
      subst hq
      refine ⟨(α a, celE (kY K) α h a), by unfold wl; rw [List.getElem?_map, ha]; rfl, rfl, ?_⟩
      rcases hcell a (List.mem_of_getElem? ha) with ⟨c, f, e1, e2⟩ | ⟨c, x, y, e1, e2, e3⟩
      · rw [e1, e2]; exact id
      · rw [e1, e2]
        intro z
        have z : H[α a]? = some (vp_cell c x) := z
        show H[α a]? = some (vp_cell c y)
        rw [← e3]; exact z
  refine ⟨fun k q hq => ?_, ⟨fun i j p q hi hj hpq => ?_, fun k q hq => ?_⟩, hK, hS, hAq, ⟨by rw [hA]; exact hIv.1, ⟨(by rw [hP']; exact List.nodup_nil), fun a ha => (by rw [hP'] at ha; cases ha)⟩, fun a ha k b hb => (by rw [hA] at ha ⊢; exact hC a ha k b hb), fun a ha => (by rw [hP'] at ha; cases ha), fun a ha => (by rw [hA] at ha; exact hIv.2.2.2.2 a ha)⟩, hO⟩
  · obtain ⟨q0, g1, g2, g3⟩ := hat k q hq
    exact g3 (hP k q0 g1)
  · obtain ⟨p0, g1, g2, -⟩ := hat i p hi
    obtain ⟨q0, g3, g4, -⟩ := hat j q hj
    exact hD.1 i j p0 q0 g1 g3 (g2.trans (hpq.trans g4.symm))
  · obtain ⟨q0, g1, g2, -⟩ := hat k q hq
    rw [← g2]
    exact hD.2 k q0 g1
set_option maxRecDepth 1000000 in
theorem fS4 : ∀ a ∈ plL, ∀ k, k < 65 → (match R0 a k with
  | some b => plL.contains b
  | none => true) = true := by decide +kernel
theorem nthD_big {α : Type} {d : α} : ∀ (l : List α) (i : Nat), l.length ≤ i → nthD l i d = d
  | [], _, _ => rfl
  | _ :: _, 0, h => by simp at h
  | _ :: l, i + 1, h => nthD_big l i (by simpa using h)
set_option maxRecDepth 1000000 in
theorem rfL_len : ∀ l ∈ rfL, l.length ≤ 64 := by decide +kernel
theorem R0_big (a : Ad) {k : Nat} (hk : 64 ≤ k) : R0 a k = R0 a 64 := by
  unfold R0
  have h1 : (if k < 6 then k else 0) = (if 64 < 6 then 64 else 0) := by rw [if_neg (by omega), if_neg (by omega)]
  have h2 : (if k < 4 then k else 0) = (if 64 < 4 then 64 else 0) := by rw [if_neg (by omega), if_neg (by omega)]
  have h3 : (nthD rfL a.1 []).length ≤ 64 := by
    rcases nthD_mem (d := ([] : List (Nat × Nat))) rfL a.1 with z | z
    · exact rfL_len _ z
    · rw [z]; exact Nat.zero_le _
  rw [h1, h2, nthD_big _ k (Nat.le_trans h3 hk), nthD_big _ 64 h3]
theorem R0_in {a b : Ad} {k : Nat} (ha : a ∈ plL) (h : R0 a k = some b) : b ∈ plL := by
  have key : ∀ k, k < 65 → R0 a k = some b → b ∈ plL := by
    intro k hk h
    have := fS4 a ha k hk
    rw [h] at this
    exact List.contains_iff_mem.mp this
  by_cases hk : k < 65
  · exact key k hk h
  · rw [R0_big a (by omega)] at h
    exact key 64 (by decide) h
/-- all is made -/
def Md (h4 : Hp) : Prop := gA h4 = plL ∧ ∀ a ∈ plL, ∀ k, k < (if (kd a.1).1 = 0 then nfC (kd a.1).2 else if 5 ≤ (kd a.1).1 then (kd a.1).2 else 0) → gR h4 a k = R0 a k
theorem Md_4 : Md hS4 := ⟨fS2.2, fS3⟩
/-- the ints once all is made, with a script S -/
def I00 (h4 : Hp) (S : Ad → Nat → Int32) : Ad → Nat → Int32 := fun a j => if 98 ≤ a.1 then S a j else gI h4 a j
set_option maxRecDepth 1000000 in
theorem pl_small : ∀ a ∈ plL, a.1 < 98 := by decide +kernel
theorem Wd_made {K : Kx} {s : State} {α : Ad → Nat} {H : Heap} {locs : List Loc} {h4 : Hp} (hM : Md h4) (S : Ad → Nat → Int32) (hw : Wd K s α H locs h4) : Wd K s α H locs (hh (I00 h4 S) (gJ h4)) := by
  obtain ⟨eA, eR⟩ := hM
  refine Wd_switch hw eA.symm rfl (fun a ha => ?_) (fun a ha => rfl) (fun a ha k hk => ?_) (fun a ha k b hb => ?_)
  · rw [eA] at ha
    funext j
    have := pl_small a ha
    show (if 98 ≤ a.1 then S a j else gI h4 a j) = gI h4 a j
    exact if_neg (by omega)
  · rw [eA] at ha
    exact eR a ha k hk
  · rw [eA] at ha ⊢
    exact R0_in ha hb
/-- at the loop's head the script comes in -/
noncomputable def Fs (D : Nat) (h4 : Hp) (S : Ad → Nat → Int32) : Kf := fun pc ls st h => @ite _ (pc = 10 ∧ h = h4) (Classical.propDecidable _) (ev D 0 10 ls st (hh (I00 h4 S) (gJ h4))) none
theorem Fs_inv {D pc : Nat} {h4 : Hp} {S : Ad → Nat → Int32} {ls st : List Vl} {h : Hp} {r : Rs} (e : Fs D h4 S pc ls st h = some r) : pc = 10 ∧ h = h4 ∧ ev D 0 10 ls st (hh (I00 h4 S) (gJ h4)) = some r := by
  unfold Fs at e
  by_cases hc : pc = 10 ∧ h = h4
  · rw [if_pos hc] at e; exact ⟨hc.1, hc.2, e⟩
  · rw [if_neg hc] at e; cases e
theorem Fs_gr (D : Nat) {h4 : Hp} (hM : Md h4) (S : Ad → Nat → Int32) : GrK (Fs D h4 S) := by
  intro pc ls st h r e
  obtain ⟨-, rfl, e⟩ := Fs_inv e
  obtain ⟨t, ht⟩ := (ev_Gh e).1
  exact ⟨t, by rw [hM.1]; exact ht⟩
theorem Fs_ok {X : Fx} {K : Kx} {D : Nat} {h4 : Hp} (hM : Md h4) {S : Ad → Nat → Int32} (hAll : AllSnd) (hX : Sit X 0 (D + 1)) (hSc : ∀ α : Ad → Nat, α (98, 0) = kV K 1000 → Sc K 0 (xs X) α (hh (I00 h4 S) (gJ h4))) : Ok X K 0 (Fs D h4 S) := by
  intro ip ls st h r e hs α H locs cells slots lsM hw hc hz hk
  obtain ⟨rfl, rfl, e⟩ := Fs_inv e
  obtain ⟨n, e⟩ := ev_some.mp e
  have eA : gA (hh (I00 h S) (gJ h)) = gA h := hM.1.symm
  have hv : ∀ v, vok h v → vok (hh (I00 h S) (gJ h)) v := fun v hv a ha => by rw [eA]; exact hv a ha
  obtain ⟨h1, h2, h3, h4', h5, h6⟩ := hw
  refine (ok_run hAll n D).1 X K 0 rfl (by decide) hX 10 ls st _ r e (fun v q => hv v (hs v q)) α H locs cells slots lsM ⟨Wd_made hM S h1, h2, fun i => hv _ (h3 i), by rw [h4']; show (gA h).length = (gA (hh (I00 h S) (gJ h))).length; rw [eA], by rw [h5]; show szL (gA h) = szL (gA (hh (I00 h S) (gJ h))); rw [eA], ?_⟩ hc hz ?_
  · exact hSc α (h6 rfl).1
  · intro α' H' locs' cells' slots' ip lsM' hE
    exact hk α' H' locs' cells' slots' ip lsM' (fun a ha => hE a (by rw [eA]; exact ha))
/-- the law's way to its loop -/
theorem pre_gen (F' : Kf) (n D : Nat) {h0 h2 h4 : Hp} {p0 p2 : List Ad} (q0 : gP h0 = (0, 0) :: p0) (c1 : calR n D mPx_init [vR (0, 0)] (hpN h0 (0, 0) p0) = some (none, h2)) (m1 : mrg (hpN h0 (0, 0) p0) h2 = h2) (q2 : gP h2 = (43, 0) :: p2) (c2 : calR n D mMo_init [vR (43, 0)] (hpN h2 (43, 0) p2) = some (none, h4)) (m2 : mrg (hpN h2 (43, 0) p2) h4 = h4) : preF F' n D 20 0 [vR (98, 0), vU, vU, vU] [] h0 = F' 10 [vR (98, 0), vR (0, 0), vR (43, 0), vI 0] [] h4 := by
  have e0 : preF F' n D 20 0 [vR (98, 0), vU, vU, vU] [] h0 = preF F' n D 19 1 [vR (98, 0), vU, vU, vU] [vR (0, 0)] (hpN h0 (0, 0) p0) := by
    show (match gP h0 with
      | a :: pl => bif kdc (kd a.1) 0 6 then preF F' n D 19 1 [vR (98, 0), vU, vU, vU] [vR a] ((gA h0 ++ [a], pl), h0.2) else none
      | [] => none) = _
    rw [q0]
    rfl
  have e2 : preF F' n D 19 1 [vR (98, 0), vU, vU, vU] [vR (0, 0)] (hpN h0 (0, 0) p0) = preF F' n D 17 3 [vR (98, 0), vU, vU, vU] [vR (0, 0)] h2 := by
    show bV (calR n D mPx_init [vR (0, 0)] (hpN h0 (0, 0) p0)) (fun h' => preF F' n D 17 3 [vR (98, 0), vU, vU, vU] [vR (0, 0)] (mrg (hpN h0 (0, 0) p0) h')) = _
    rw [c1]
    show preF F' n D 17 3 [vR (98, 0), vU, vU, vU] [vR (0, 0)] (mrg (hpN h0 (0, 0) p0) h2) = _
    rw [m1]
  have e3 : preF F' n D 17 3 [vR (98, 0), vU, vU, vU] [vR (0, 0)] h2 = preF F' n D 16 4 [vR (98, 0), vR (0, 0), vU, vU] [] h2 := rfl
  have e4 : preF F' n D 16 4 [vR (98, 0), vR (0, 0), vU, vU] [] h2 = preF F' n D 15 5 [vR (98, 0), vR (0, 0), vU, vU] [vR (43, 0)] (hpN h2 (43, 0) p2) := by
    show (match gP h2 with
      | a :: pl => bif kdc (kd a.1) 0 7 then preF F' n D 15 5 [vR (98, 0), vR (0, 0), vU, vU] [vR a] ((gA h2 ++ [a], pl), h2.2) else none
      | [] => none) = _
    rw [q2]
    rfl
  have e5 : preF F' n D 15 5 [vR (98, 0), vR (0, 0), vU, vU] [vR (43, 0)] (hpN h2 (43, 0) p2) = preF F' n D 13 7 [vR (98, 0), vR (0, 0), vU, vU] [vR (43, 0)] h4 := by
    show bV (calR n D mMo_init [vR (43, 0)] (hpN h2 (43, 0) p2)) (fun h' => preF F' n D 13 7 [vR (98, 0), vR (0, 0), vU, vU] [vR (43, 0)] (mrg (hpN h2 (43, 0) p2) h')) = _
    rw [c2]
    show preF F' n D 13 7 [vR (98, 0), vR (0, 0), vU, vU] [vR (43, 0)] (mrg (hpN h2 (43, 0) p2) h4) = _
    rw [m2]
  rw [e0, e2, e3, e4, e5]
  rfl
theorem calR_of {n d mj : Nat} {as : List Vl} {h : Hp} {r : Rs} (hb : Nat.ble (catS as) (mx mj) = true) (e : run n d mj 0 (ent mj as) [] h = some r) : calR n (d + 1) mj as h = some r := by
  show (bif Nat.ble (catS as) (mx mj) then run n d mj 0 (ent mj as) [] h else none) = some r
  rw [hb]
  exact e
theorem run_mrg {n d m pc : Nat} {ls st : List Vl} {h h' : Hp} {v : Option Vl} (e : run n d m pc ls st h = some (v, h')) : mrg h h' = h' := mrg_eq (h' := h') (run_Gh _ _ _ _ _ _ _ _ e)
theorem pre_eq (F' : Kf) : preF F' 4000 60 20 0 [vR (98, 0), vU, vU, vU] [] h00 = F' 10 [vR (98, 0), vR (0, 0), vR (43, 0), vI 0] [] hS4 := by
  have c1 : calR 4000 60 mPx_init [vR (0, 0)] hS1 = some (none, hS2) := calR_of (d := 59) (by decide) eS1
  have c2 : calR 4000 60 mMo_init [vR (43, 0)] hS3 = some (none, hS4) := calR_of (d := 59) (by decide) eS2
  have m1 : mrg hS1 hS2 = hS2 := run_mrg eS1
  have m2 : mrg hS3 hS4 = hS4 := run_mrg eS2
  have q0 := fS1.2.1
  have q2 := fS1.2.2
  unfold hS3 at c2 m2
  unfold hS1 at c1 m1
  generalize hS4 = h4 at c2 m2 ⊢
  generalize hS2 = h2 at c1 m1 q2 c2 m2
  generalize h00 = h0 at c1 m1 q0 ⊢
  exact pre_gen F' 4000 60 q0 c1 m1 q2 c2 m2
