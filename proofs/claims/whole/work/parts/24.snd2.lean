theorem ne9 {n t x : Nat} (h : kd n = (t, x)) (ht : t ≠ 9) : (kd n).1 ≠ 9 := by
  rw [h]
  exact ht
/-- the world changes, the same cells: on at nx -/
theorem Ok.onW {X : Fx} {K : Kx} {mi nx : Nat} {F : Kf} (hF : Ok X K mi F) {ls st' : List Vl} {h h' : Hp} {r : Rs} (e : F nx ls st' h' = some r) (hA : gA h' = gA h) (hi : ∀ a : Ad, 98 ≤ a.1 → gI h' a = gI h a) (hs : ∀ v ∈ st', vok h v) {α : Ad → Nat} {H H1 : Heap} {locs locs1 : List Loc} {cells slots : Nat} {lsM : Array Slot} (hw : Pw X K mi α H locs cells slots lsM ls h) (hw' : Wd K (xs X) α H1 locs1 h') (hc : nC r.2 ≤ (xR X).cells + kC K) (hz : nS r.2 ≤ (xR X).slots + kS K) (hk : Kt X K mi α h r) {pc : Nat} (hp : pcs mi nx = pc) : Wx X H1 locs1 cells slots (F0 (xm X) pc lsM (st'.map (trV α))) := by
  subst hp
  obtain ⟨-, h2, h3, h4, h5, h6⟩ := hw
  have hv : ∀ v, vok h v → vok h' v := fun v hv a ha => by rw [hA]; exact hv a ha
  refine hF nx ls st' h' r e (fun v q => hv v (hs v q)) α H1 locs1 cells slots lsM ⟨hw', h2, fun i => hv _ (h3 i), by rw [h4]; show (gA h).length = (gA h').length; rw [hA], by rw [h5]; show szL (gA h) = szL (gA h'); rw [hA], h6.ext rfl hi⟩ hc hz ?_
  · intro α' H' locs' cells' slots' ip lsM' hE
    exact hk α' H' locs' cells' slots' ip lsM' (fun a ha => hE a (by rw [hA]; exact ha))
/-- one cell more: on at nx -/
theorem Ok.onN {X : Fx} {K : Kx} {mi nx : Nat} {F : Kf} (hF : Ok X K mi F) (hG : GrK F) {ls st' : List Vl} {h : Hp} {a : Ad} {pl : List Ad} {q : Nat} {r : Rs} (e : F nx ls st' (hpN h a pl) = some r) (hs : ∀ v ∈ st', vok (hpN h a pl) v) {α : Ad → Nat} {H H1 : Heap} {locs : List Loc} {cells slots n : Nat} {lsM : Array Slot} (hw : Pw X K mi α H locs cells slots lsM ls h) (hn : szS a.1 = n) (hw' : Wd K (xs X) (alN α a q) H1 locs (hpN h a pl)) (hE : Ext α (alN α a q) h) (hc : nC r.2 ≤ (xR X).cells + kC K) (hz : nS r.2 ≤ (xR X).slots + kS K) (hk : Kt X K mi α h r) {pc : Nat} (hp : pcs mi nx = pc) : Wx X H1 locs (cells + 1) (slots + n) (F0 (xm X) pc lsM (st'.map (trV (alN α a q)))) := by
  subst hp
  obtain ⟨hw1, h2, h3, h4, h5, h6⟩ := hw
  have hv : ∀ v, vok h v → vok (hpN h a pl) v := fun v hv b hb => (hv b hb).imp (fun z => List.mem_append_left _ z) id
  have ht : ∀ v, vok h v → trV (alN α a q) v = trV α v := by
    intro v hv
    rcases v with x | x | x | x
    · rfl
    · rfl
    · show Value.ref _ = Value.ref _
      rw [hE x ((hv x rfl).imp id And.left)]
    · rfl
  refine hF nx ls st' (hpN h a pl) r e hs (alN α a q) H1 locs (cells + 1) (slots + n) lsM ⟨hw', ⟨h2.1, h2.2.1, h2.2.2.1, fun i hi => by rw [ht _ (h3 i)]; exact h2.2.2.2 i hi⟩, fun i => hv _ (h3 i), ?_, ?_, h6.ext (hE (98, 0) (Or.inr (show 98 ≤ 98 by decide))) (fun _ _ => rfl)⟩ hc hz ?_
  · show cells + 1 + kC K = (gA h ++ [a]).length
    rw [List.length_append]
    have : cells + kC K = (gA h).length := h4
    simp only [List.length_singleton]
    omega
  · show slots + n + kS K = szL (gA h ++ [a])
    rw [szL_app]
    have : slots + kS K = szL (gA h) := h5
    simp only [szL]
    omega
  · intro α' H' locs' cells' slots' ip lsM' hE'
    exact hk α' H' locs' cells' slots' ip lsM' (fun b hb => (hE' b (hb.imp (fun z => List.mem_append_left _ z) id)).trans (hE b hb))
theorem sd_getI {mi ip nx c k idx N : Nat} {Cn : String} {T : u_T} {ty : Nat → FieldType} (hC : ClF c Cn T N ty) (hkN : k < N) (hft : ftC c k ≠ 2) (hl0 : Cond.fieldLink (own mi) idx (T k).1 (T k).2.1 (T k).2.2.1 ∈ gw) (hd : decode (bys mi) (pcs mi ip) = .ok (.getfield idx, 3)) (hn : pcs mi nx = pcs mi ip + 3) : Snd mi ip (a_gI nx c k) := by
  intro X K d F C hX0 hF hG _ ls st h r e hs α H locs cells slots lsM hw hc hz hk
  obtain ⟨hx, hb, hml, hown, hts, hlk, hrt, hnm, hfr, hlo⟩ := hX0
  obtain ⟨hP, hD, hK, hS, hA, hI, hO⟩ := id hw.1
  obtain ⟨hcl, hin, hty, hnmF, hN⟩ := hC
  rcases st with _ | ⟨y | y | a | y, st⟩
  · exact nomatch (show (none : Option Rs) = some r from e)
  · exact nomatch (show (none : Option Rs) = some r from e)
  · exact nomatch (show (none : Option Rs) = some r from e)
  · cases hk0 : kdc (kd a.1) 0 c
    · rw [a_gI, hk0] at e; cases e
    · have e0 : F nx ls (vI (gI h a k) :: st) h = some r := by rw [a_gI, hk0] at e; exact e
      have hkd := kdc_eq hk0
      have ha := vok_in (all_hd hs) (ne9 hkd (by decide))
      obtain ⟨q, hq, hwq⟩ := getElem_wl (cy := kY K) (α := α) ha
      rw [cel_obj hkd] at hwq
      refine va_get (D := kD K) (ci := c) (C := Cn) (T := T) (N := N) (v := .int (gI h a k)) hx hb hts hin hown hK hP q hwq hcl k hkN (hts _ hl0) (fun _ h9 => h9) ?_ hd ?_
      · rw [List.getElem?_map, List.getElem?_range (by rw [← hN]; exact hkN)]
        show some (fldV α h a c k) = _
        rw [fldV, if_neg hft]
      · exact hF.on (st' := vI (gI h a k) :: st) e0 (all_cons (vok_I h _) (all_tl hs)) hw hc hz hk hn
  · exact nomatch (show (none : Option Rs) = some r from e)
theorem sd_getR {mi ip nx c k idx N : Nat} {Cn : String} {T : u_T} {ty : Nat → FieldType} (hC : ClF c Cn T N ty) (hkN : k < N) (hft : ftC c k = 2) (hl0 : Cond.fieldLink (own mi) idx (T k).1 (T k).2.1 (T k).2.2.1 ∈ gw) (hd : decode (bys mi) (pcs mi ip) = .ok (.getfield idx, 3)) (hn : pcs mi nx = pcs mi ip + 3) : Snd mi ip (a_gR nx c k) := by
  intro X K d F C hX0 hF hG _ ls st h r e hs α H locs cells slots lsM hw hc hz hk
  obtain ⟨hx, hb, hml, hown, hts, hlk, hrt, hnm, hfr, hlo⟩ := hX0
  obtain ⟨hP, hD, hK, hS, hA, hI, hO⟩ := id hw.1
  obtain ⟨hcl, hin, hty, hnmF, hN⟩ := hC
  rcases st with _ | ⟨y | y | a | y, st⟩
  · exact nomatch (show (none : Option Rs) = some r from e)
  · exact nomatch (show (none : Option Rs) = some r from e)
  · exact nomatch (show (none : Option Rs) = some r from e)
  · cases hk0 : kdc (kd a.1) 0 c
    · rw [a_gR, hk0] at e; cases e
    · have hkd := kdc_eq hk0
      have ha := vok_in (all_hd hs) (ne9 hkd (by decide))
      obtain ⟨q, hq, hwq⟩ := getElem_wl (cy := kY K) (α := α) ha
      rw [cel_obj hkd] at hwq
      have hv : ((List.range (nfC c)).map fun k => fldV α h a c k)[k]? = some (va_rf ((gR h a k).map α)) := by
        rw [List.getElem?_map, List.getElem?_range (by rw [← hN]; exact hkN)]
        show some (fldV α h a c k) = _
        rw [fldV, if_pos hft]
      refine va_get (D := kD K) (ci := c) (C := Cn) (T := T) (N := N) (v := va_rf ((gR h a k).map α)) hx hb hts hin hown hK hP q hwq hcl k hkN (hts _ hl0) (fun _ h9 => h9) hv hd ?_
      rw [a_gR, hk0] at e
      rcases hr : gR h a k with _ | b
      · simp only [hr, cond_true] at e
        exact hF.on (st' := vN :: st) e (all_cons (vok_N h) (all_tl hs)) hw hc hz hk hn
      · simp only [hr, cond_true] at e
        exact hF.on (st' := vR b :: st) e (all_cons (fun z hz => by cases hz; exact Or.inl (hI.2.2.1 a ha k b hr)) (all_tl hs)) hw hc hz hk hn
  · exact nomatch (show (none : Option Rs) = some r from e)
theorem sd_putI {mi ip nx c k idx N : Nat} {Cn : String} {T : u_T} {ty0 : Nat → FieldType} (hC : ClF c Cn T N ty0) (hkN : k < N) (hft : ftC c k ≠ 2) (hty0 : ty0 k = .int) (hfin : (T k).2.2.2 = false) (hl0 : Cond.fieldLink (own mi) idx (T k).1 (T k).2.1 (T k).2.2.1 ∈ gw) (hd : decode (bys mi) (pcs mi ip) = .ok (.putfield idx, 3)) (hn : pcs mi nx = pcs mi ip + 3) : Snd mi ip (a_pI nx c k) := by
  intro X K d F C hX0 hF hG _ ls st h r e hs α H locs cells slots lsM hw hc hz hk
  obtain ⟨hx, hb, hml, hown, hts, hlk, hrt, hnm, hfr, hlo⟩ := hX0
  obtain ⟨hP, hD, hK, hS, hA, hI, hO⟩ := id hw.1
  obtain ⟨hcl, hin, hty, hnmF, hN⟩ := hC
  rcases st with _ | ⟨x | x, _ | ⟨y | y | a | y, st⟩⟩
  · exact nomatch (show (none : Option Rs) = some r from e)
  · exact nomatch (show (none : Option Rs) = some r from e)
  · exact nomatch (show (none : Option Rs) = some r from e)
  · exact nomatch (show (none : Option Rs) = some r from e)
  · cases hk0 : kdc (kd a.1) 0 c
    · rw [a_pI, hk0] at e; cases e
    · have e0 : F nx ls st (stI h a k x) = some r := by rw [a_pI, hk0] at e; exact e
      have hkd := kdc_eq hk0
      have ha := vok_in (all_hd (all_tl hs)) (ne9 hkd (by decide))
      obtain ⟨q, hq, hwq⟩ := getElem_wl (cy := kY K) (α := α) ha
      rw [cel_obj hkd] at hwq
      refine va_put (D := kD K) (ci := c) (v := .int x) (ty := .int) (C := Cn) (T := T) (N := N) hx hb hts hin ty0 hty hnmF hown hK hP hD hS q hwq hcl k hkN (hts _ hl0) (fun _ h9 => h9) hfin (by rw [hty k hkN, hty0]) rfl rfl (by rw [List.length_map, List.length_range, ← hN]; exact hkN) hd (fun H1 locs1 hP1 hD1 hS1 => ?_)
      have hcell : (Sum.inr (c, ((List.range (nfC c)).map fun k => fldV α h a c k).set k (.int x)) : va_E) = celE (kY K) α (stI h a k x) a := by
        rw [cel_obj hkd, map_range_set (fun j => fldV α h a c j) (fun j => fldV α (stI h a k x) a c j) (.int x) (by rw [← hN]; exact hkN)]
        · rw [fldV, if_neg hft, gI_stI]
          simp [up2]
        · intro j hj
          unfold fldV
          rw [gI_stI]
          simp only [up2, hj, and_false, if_false]
          rfl
      rw [hcell] at hP1 hD1
      exact hF.onW (h := h) (st' := st) e0 rfl (Gh_stI (h := h) (a := a) (k := k) (v := x) (ne9 hkd (by decide))).2.1 (all_tl (all_tl hs)) hw (Wd_stI hw.1 hq hP1 hD1 hS1) hc hz hk hn
  all_goals exact nomatch (show (none : Option Rs) = some r from e)
theorem sd_putZ {mi ip nx c k idx N : Nat} {Cn : String} {T : u_T} {ty0 : Nat → FieldType} (hC : ClF c Cn T N ty0) (hkN : k < N) (hft : ftC c k ≠ 2) (hty0 : ty0 k = .boolean) (hfin : (T k).2.2.2 = false) (hl0 : Cond.fieldLink (own mi) idx (T k).1 (T k).2.1 (T k).2.2.1 ∈ gw) (hd : decode (bys mi) (pcs mi ip) = .ok (.putfield idx, 3)) (hn : pcs mi nx = pcs mi ip + 3) : Snd mi ip (a_pZ nx c k) := by
  intro X K d F C hX0 hF hG _ ls st h r e hs α H locs cells slots lsM hw hc hz hk
  obtain ⟨hx, hb, hml, hown, hts, hlk, hrt, hnm, hfr, hlo⟩ := hX0
  obtain ⟨hP, hD, hK, hS, hA, hI, hO⟩ := id hw.1
  obtain ⟨hcl, hin, hty, hnmF, hN⟩ := hC
  rcases st with _ | ⟨x | x, _ | ⟨y | y | a | y, st⟩⟩
  · exact nomatch (show (none : Option Rs) = some r from e)
  · exact nomatch (show (none : Option Rs) = some r from e)
  · exact nomatch (show (none : Option Rs) = some r from e)
  · exact nomatch (show (none : Option Rs) = some r from e)
  · cases hk0 : kdc (kd a.1) 0 c
    · rw [a_pZ, hk0] at e; cases e
    · have e0 : (if x = 0 ∨ x = 1 then F nx ls st (stI h a k x) else none) = some r := by rw [a_pZ, hk0] at e; exact e
      have hkd := kdc_eq hk0
      have ha := vok_in (all_hd (all_tl hs)) (ne9 hkd (by decide))
      obtain ⟨q, hq, hwq⟩ := getElem_wl (cy := kY K) (α := α) ha
      rw [cel_obj hkd] at hwq
      by_cases hxz : x = 0 ∨ x = 1
      · rw [if_pos hxz] at e0
        refine va_put (D := kD K) (ci := c) (v := .int x) (ty := .boolean) (C := Cn) (T := T) (N := N) hx hb hts hin ty0 hty hnmF hown hK hP hD hS q hwq hcl k hkN (hts _ hl0) (fun _ h9 => h9) hfin (by rw [hty k hkN, hty0]) (by rcases hxz with rfl | rfl <;> rfl) (by rcases hxz with rfl | rfl <;> rfl) (by rw [List.length_map, List.length_range, ← hN]; exact hkN) hd (fun H1 locs1 hP1 hD1 hS1 => ?_)
        have hcell : (Sum.inr (c, ((List.range (nfC c)).map fun k => fldV α h a c k).set k (.int x)) : va_E) = celE (kY K) α (stI h a k x) a := by
          rw [cel_obj hkd, map_range_set (fun j => fldV α h a c j) (fun j => fldV α (stI h a k x) a c j) (.int x) (by rw [← hN]; exact hkN)]
          · rw [fldV, if_neg hft, gI_stI]
            simp [up2]
          · intro j hj
            unfold fldV
            rw [gI_stI]
            simp only [up2, hj, and_false, if_false]
            rfl
        rw [hcell] at hP1 hD1
        exact hF.onW (h := h) (st' := st) e0 rfl (Gh_stI (h := h) (a := a) (k := k) (v := x) (ne9 hkd (by decide))).2.1 (all_tl (all_tl hs)) hw (Wd_stI hw.1 hq hP1 hD1 hS1) hc hz hk hn
      · rw [if_neg hxz] at e0; cases e0
  all_goals exact nomatch (show (none : Option Rs) = some r from e)
theorem sd_putR {mi ip nx c k idx N : Nat} {Cn : String} {T : u_T} {ty0 : Nat → FieldType} (hC : ClF c Cn T N ty0) (hkN : k < N) (hft : ftC c k = 2) (hty0 : (∃ t, ty0 k = .array t) ∨ ∃ t, ty0 k = .object t) (hfin : (T k).2.2.2 = true) (hinit : (yn mi).name = "<init>") (hdecl : (T k).1 = own mi) (hl0 : Cond.fieldLink (own mi) idx (T k).1 (T k).2.1 (T k).2.2.1 ∈ gw) (hd : decode (bys mi) (pcs mi ip) = .ok (.putfield idx, 3)) (hn : pcs mi nx = pcs mi ip + 3) : Snd mi ip (a_pR nx c k) := by
  intro X K d F C hX0 hF hG _ ls st h r e hs α H locs cells slots lsM hw hc hz hk
  obtain ⟨hx, hb, hml, hown, hts, hlk, hrt, hnm, hfr, hlo⟩ := hX0
  obtain ⟨hP, hD, hK, hS, hA, hI, hO⟩ := id hw.1
  obtain ⟨hcl, hin, hty, hnmF, hN⟩ := hC
  rcases st with _ | ⟨x | x | b | x, _ | ⟨y | y | a | y, st⟩⟩ <;> first
    | exact nomatch (show (none : Option Rs) = some r from e)
    | skip
  cases hk0 : kdc (kd a.1) 0 c && (Nat.ble (kd b.1).1 6 && !(gP h).isEmpty)
  · rw [a_pR, hk0] at e; cases e
  · have e0 : F nx ls st (stR h a k (some b)) = some r := by rw [a_pR, hk0] at e; exact e
    simp only [Bool.and_eq_true] at hk0
    have hkd := kdc_eq hk0.1
    have ha := vok_in (all_hd (all_tl hs)) (ne9 hkd (by decide))
    have hb6 : (kd b.1).1 ≤ 6 := Nat.le_of_ble_eq_true hk0.2.1
    have hbA := vok_in (all_hd hs) (by omega)
    obtain ⟨q, hq, hwq⟩ := getElem_wl (cy := kY K) (α := α) ha
    rw [cel_obj hkd] at hwq
    refine va_putF (D := kD K) (ci := c) (v := .ref (α b)) (ty := ty0 k) (C := Cn) (T := T) (N := N) hx hb hts hin ty0 hty hnmF hown hK hP hD hS q hwq hcl k hkN (hts _ hl0) (fun _ h9 => h9) hfin (hnm hinit) hdecl (hty k hkN) (by rcases hty0 with ⟨t, z⟩ | ⟨t, z⟩ <;> rw [z] <;> rfl) (by rcases hty0 with ⟨t, z⟩ | ⟨t, z⟩ <;> rw [z] <;> rfl) (by rw [List.length_map, List.length_range, ← hN]; exact hkN) hd (fun H1 locs1 hP1 hD1 hS1 => ?_)
    have hcell : (Sum.inr (c, ((List.range (nfC c)).map fun k => fldV α h a c k).set k (.ref (α b))) : va_E) = celE (kY K) α (stR h a k (some b)) a := by
      have hr : gR (stR h a k (some b)) = up2 (gR h) a k (some b) := rfl
      rw [cel_obj hkd, map_range_set (fun j => fldV α h a c j) (fun j => fldV α (stR h a k (some b)) a c j) (.ref (α b)) (by rw [← hN]; exact hkN)]
      · rw [fldV, if_pos hft, hr]
        simp [up2, va_rf]
      · intro j hj
        unfold fldV
        rw [hr]
        simp only [up2, hj, and_false, if_false]
        rfl
    rw [hcell] at hP1 hD1
    exact hF.onW (h := h) (st' := st) e0 rfl (fun _ _ => rfl) (all_tl (all_tl hs)) hw (Wd_stR hw.1 hq hbA hP1 hD1 hS1) hc hz hk hn
theorem kd_of {n t : Nat} (h : Nat.beq (kd n).1 t = true) : kd n = (t, (kd n).2) := by
  rw [← Nat.eq_of_beq_eq_true h]
theorem sd_iald {mi ip nx : Nat} (hd : decode (bys mi) (pcs mi ip) = .ok (.iaload, 1)) (hn : pcs mi nx = pcs mi ip + 1) : Snd mi ip (a_iald nx) := by
  intro X K d F C hX0 hF hG _ ls st h r e hs α H locs cells slots lsM hw hc hz hk
  obtain ⟨hx, hb, hml, hown, hts, hlk, hrt, hnm, hfr, hlo⟩ := hX0
  obtain ⟨hP, hD, hK, hS, hA, hI, hO⟩ := id hw.1
  rcases st with _ | ⟨i | i, _ | ⟨y | y | a | y, st⟩⟩ <;> first
    | exact nomatch (show (none : Option Rs) = some r from e)
    | skip
  cases hk0 : (Nat.beq (kd a.1).1 1)
  · rw [a_iald, hk0] at e; cases e
  · have e0 : (if i < 0 ∨ (kd a.1).2 ≤ i.toNatClampNeg then none else F nx ls (vI (gI h a i.toNatClampNeg) :: st) h) = some r := by rw [a_iald, hk0] at e; exact e
    by_cases hin : i < 0 ∨ (kd a.1).2 ≤ i.toNatClampNeg
    · rw [if_pos hin] at e0; cases e0
    · rw [if_neg hin] at e0
      have hkd : kd a.1 = (1, (kd a.1).2) := kd_of hk0
      have ha := vok_in (all_hd (all_tl hs)) (ne9 hkd (by decide))
      obtain ⟨q, hq, hwq⟩ := getElem_wl (cy := kY K) (α := α) ha
      rw [cel_arr hkd (by decide) (by decide)] at hwq
      refine va_iald (D := kD K) hx hb hK hP q 0 hwq rfl hin hd ?_
      exact hF.on (st' := vI (gI h a i.toNatClampNeg) :: st) e0 (all_cons (vok_I h _) (all_tl (all_tl hs))) hw hc hz hk hn
theorem sd_lald {mi ip nx : Nat} (hd : decode (bys mi) (pcs mi ip) = .ok (.laload, 1)) (hn : pcs mi nx = pcs mi ip + 1) : Snd mi ip (a_lald nx) := by
  intro X K d F C hX0 hF hG _ ls st h r e hs α H locs cells slots lsM hw hc hz hk
  obtain ⟨hx, hb, hml, hown, hts, hlk, hrt, hnm, hfr, hlo⟩ := hX0
  obtain ⟨hP, hD, hK, hS, hA, hI, hO⟩ := id hw.1
  rcases st with _ | ⟨i | i, _ | ⟨y | y | a | y, st⟩⟩ <;> first
    | exact nomatch (show (none : Option Rs) = some r from e)
    | skip
  cases hk0 : (Nat.beq (kd a.1).1 4)
  · rw [a_lald, hk0] at e; cases e
  · have e0 : (if i < 0 ∨ (kd a.1).2 ≤ i.toNatClampNeg then none else F nx ls (vL (gJ h a i.toNatClampNeg) :: st) h) = some r := by rw [a_lald, hk0] at e; exact e
    by_cases hin : i < 0 ∨ (kd a.1).2 ≤ i.toNatClampNeg
    · rw [if_pos hin] at e0; cases e0
    · rw [if_neg hin] at e0
      have hkd : kd a.1 = (4, (kd a.1).2) := kd_of hk0
      have ha := vok_in (all_hd (all_tl hs)) (ne9 hkd (by decide))
      obtain ⟨q, hq, hwq⟩ := getElem_wl (cy := kY K) (α := α) ha
      rw [cel_long hkd] at hwq
      refine va_lald (D := kD K) hx hb hK hP q 3 hwq rfl hin hd ?_
      exact hF.on (st' := vL (gJ h a i.toNatClampNeg) :: st) e0 (all_cons (vok_L h _) (all_tl (all_tl hs))) hw hc hz hk hn
theorem sd_bald {mi ip nx : Nat} (hd : decode (bys mi) (pcs mi ip) = .ok (.baload, 1)) (hn : pcs mi nx = pcs mi ip + 1) : Snd mi ip (a_bald nx) := by
  intro X K d F C hX0 hF hG _ ls st h r e hs α H locs cells slots lsM hw hc hz hk
  obtain ⟨hx, hb, hml, hown, hts, hlk, hrt, hnm, hfr, hlo⟩ := hX0
  obtain ⟨hP, hD, hK, hS, hA, hI, hO⟩ := id hw.1
  rcases st with _ | ⟨i | i, _ | ⟨y | y | a | y, st⟩⟩ <;> first
    | exact nomatch (show (none : Option Rs) = some r from e)
    | skip
  cases hk0 : (Nat.beq (kd a.1).1 2 || Nat.beq (kd a.1).1 3)
  · rw [a_bald, hk0] at e; cases e
  · have e0 : (if i < 0 ∨ (kd a.1).2 ≤ i.toNatClampNeg then none else F nx ls (vI (gI h a i.toNatClampNeg) :: st) h) = some r := by rw [a_bald, hk0] at e; exact e
    by_cases hin : i < 0 ∨ (kd a.1).2 ≤ i.toNatClampNeg
    · rw [if_pos hin] at e0; cases e0
    · rw [if_neg hin] at e0
      rcases Bool.or_eq_true_iff.mp hk0 with hk1 | hk1
      · have hkd : kd a.1 = (2, (kd a.1).2) := kd_of hk1
        have ha := vok_in (all_hd (all_tl hs)) (ne9 hkd (by decide))
        obtain ⟨q, hq, hwq⟩ := getElem_wl (cy := kY K) (α := α) ha
        rw [cel_arr hkd (by decide) (by decide)] at hwq
        refine va_bald (D := kD K) hx hb hK hP q 1 hwq rfl hin hd ?_
        exact hF.on (st' := vI (gI h a i.toNatClampNeg) :: st) e0 (all_cons (vok_I h _) (all_tl (all_tl hs))) hw hc hz hk hn
      · have hkd : kd a.1 = (3, (kd a.1).2) := kd_of hk1
        have ha := vok_in (all_hd (all_tl hs)) (ne9 hkd (by decide))
        obtain ⟨q, hq, hwq⟩ := getElem_wl (cy := kY K) (α := α) ha
        rw [cel_arr hkd (by decide) (by decide)] at hwq
        refine va_zald (D := kD K) hx hb hK hP q 2 hwq rfl hin hd ?_
        exact hF.on (st' := vI (gI h a i.toNatClampNeg) :: st) e0 (all_cons (vok_I h _) (all_tl (all_tl hs))) hw hc hz hk hn
theorem sd_iast {mi ip nx : Nat} (hd : decode (bys mi) (pcs mi ip) = .ok (.iastore, 1)) (hn : pcs mi nx = pcs mi ip + 1) : Snd mi ip (a_iast nx) := by
  intro X K d F C hX0 hF hG _ ls st h r e hs α H locs cells slots lsM hw hc hz hk
  obtain ⟨hx, hb, hml, hown, hts, hlk, hrt, hnm, hfr, hlo⟩ := hX0
  obtain ⟨hP, hD, hK, hS, hA, hI, hO⟩ := id hw.1
  rcases st with _ | ⟨x | x, _ | ⟨i | i, _ | ⟨y | y | a | y, st⟩⟩⟩ <;> first
    | exact nomatch (show (none : Option Rs) = some r from e)
    | skip
  cases hk0 : Nat.beq (kd a.1).1 1
  · rw [a_iast, hk0] at e; cases e
  · have e0 : (if i < 0 ∨ (kd a.1).2 ≤ i.toNatClampNeg then none else F nx ls st (stI h a i.toNatClampNeg x)) = some r := by rw [a_iast, hk0] at e; exact e
    by_cases hin : i < 0 ∨ (kd a.1).2 ≤ i.toNatClampNeg
    · rw [if_pos hin] at e0; cases e0
    · rw [if_neg hin] at e0
      have hkd : kd a.1 = (1, (kd a.1).2) := kd_of hk0
      have ha := vok_in (all_hd (all_tl (all_tl hs))) (ne9 hkd (by decide))
      obtain ⟨q, hq, hwq⟩ := getElem_wl (cy := kY K) (α := α) ha
      rw [cel_arr hkd (by decide) (by decide)] at hwq
      refine va_iast (D := kD K) hx hb hK hP hD hS q 0 hwq rfl hin hd (fun H1 locs1 hP1 hD1 hS1 => ?_)
      have hcell : (Sum.inl (kY K 1, ((kd a.1).2, Sum.inl (upd (gI h a) i.toNatClampNeg (x)))) : va_E) = celE (kY K) α (stI h a i.toNatClampNeg (x)) a := by
        rw [cel_arr hkd (by decide) (by decide), gI_stI]
        have : upd (gI h a) i.toNatClampNeg (x) = up2 (gI h) a i.toNatClampNeg (x) a := by funext j; simp [upd, up2]
        rw [this]
      rw [hcell] at hP1 hD1
      exact hF.onW (h := h) (st' := st) e0 rfl (Gh_stI (h := h) (a := a) (k := i.toNatClampNeg) (v := x) (ne9 hkd (by decide))).2.1 (all_tl (all_tl (all_tl hs))) hw (Wd_stI hw.1 hq hP1 hD1 hS1) hc hz hk hn
theorem sd_bast {mi ip nx : Nat} (hd : decode (bys mi) (pcs mi ip) = .ok (.bastore, 1)) (hn : pcs mi nx = pcs mi ip + 1) : Snd mi ip (a_bast nx) := by
  intro X K d F C hX0 hF hG _ ls st h r e hs α H locs cells slots lsM hw hc hz hk
  obtain ⟨hx, hb, hml, hown, hts, hlk, hrt, hnm, hfr, hlo⟩ := hX0
  obtain ⟨hP, hD, hK, hS, hA, hI, hO⟩ := id hw.1
  rcases st with _ | ⟨x | x, _ | ⟨i | i, _ | ⟨y | y | a | y, st⟩⟩⟩ <;> first
    | exact nomatch (show (none : Option Rs) = some r from e)
    | skip
  cases hk0 : Nat.beq (kd a.1).1 2
  · cases hk3 : Nat.beq (kd a.1).1 3
    · rw [a_bast, hk0, hk3] at e; cases e
    · have e0 : (if i < 0 ∨ (kd a.1).2 ≤ i.toNatClampNeg then none else F nx ls st (stI h a i.toNatClampNeg (vp_nar .boolean x))) = some r := by rw [a_bast, hk0, hk3] at e; exact e
      by_cases hin : i < 0 ∨ (kd a.1).2 ≤ i.toNatClampNeg
      · rw [if_pos hin] at e0; cases e0
      · rw [if_neg hin] at e0
        have hkd : kd a.1 = (3, (kd a.1).2) := kd_of hk3
        have ha := vok_in (all_hd (all_tl (all_tl hs))) (ne9 hkd (by decide))
        obtain ⟨q, hq, hwq⟩ := getElem_wl (cy := kY K) (α := α) ha
        rw [cel_arr hkd (by decide) (by decide)] at hwq
        refine va_zast (D := kD K) hx hb hK hP hD hS q 2 hwq rfl hin hd (fun H1 locs1 hP1 hD1 hS1 => ?_)
        have hcell : (Sum.inl (kY K 3, ((kd a.1).2, Sum.inl (upd (gI h a) i.toNatClampNeg (vp_nar .boolean x)))) : va_E) = celE (kY K) α (stI h a i.toNatClampNeg (vp_nar .boolean x)) a := by
          rw [cel_arr hkd (by decide) (by decide), gI_stI]
          have : upd (gI h a) i.toNatClampNeg (vp_nar .boolean x) = up2 (gI h) a i.toNatClampNeg (vp_nar .boolean x) a := by funext j; simp [upd, up2]
          rw [this]
        rw [hcell] at hP1 hD1
        exact hF.onW (h := h) (st' := st) e0 rfl (Gh_stI (h := h) (a := a) (k := i.toNatClampNeg) (v := vp_nar .boolean x) (ne9 hkd (by decide))).2.1 (all_tl (all_tl (all_tl hs))) hw (Wd_stI hw.1 hq hP1 hD1 hS1) hc hz hk hn
  · have e0 : (if i < 0 ∨ (kd a.1).2 ≤ i.toNatClampNeg then none else F nx ls st (stI h a i.toNatClampNeg x.toInt8.toInt32)) = some r := by rw [a_bast, hk0] at e; exact e
    by_cases hin : i < 0 ∨ (kd a.1).2 ≤ i.toNatClampNeg
    · rw [if_pos hin] at e0; cases e0
    · rw [if_neg hin] at e0
      have hkd : kd a.1 = (2, (kd a.1).2) := kd_of hk0
      have ha := vok_in (all_hd (all_tl (all_tl hs))) (ne9 hkd (by decide))
      obtain ⟨q, hq, hwq⟩ := getElem_wl (cy := kY K) (α := α) ha
      rw [cel_arr hkd (by decide) (by decide)] at hwq
      refine va_bast (D := kD K) hx hb hK hP hD hS q 1 hwq rfl hin hd (fun H1 locs1 hP1 hD1 hS1 => ?_)
      have hcell : (Sum.inl (kY K 2, ((kd a.1).2, Sum.inl (upd (gI h a) i.toNatClampNeg (x.toInt8.toInt32)))) : va_E) = celE (kY K) α (stI h a i.toNatClampNeg (x.toInt8.toInt32)) a := by
        rw [cel_arr hkd (by decide) (by decide), gI_stI]
        have : upd (gI h a) i.toNatClampNeg (x.toInt8.toInt32) = up2 (gI h) a i.toNatClampNeg (x.toInt8.toInt32) a := by funext j; simp [upd, up2]
        rw [this]
      rw [show vp_nar .byte x = x.toInt8.toInt32 from rfl] at hP1 hD1
      rw [hcell] at hP1 hD1
      exact hF.onW (h := h) (st' := st) e0 rfl (Gh_stI (h := h) (a := a) (k := i.toNatClampNeg) (v := x.toInt8.toInt32) (ne9 hkd (by decide))).2.1 (all_tl (all_tl (all_tl hs))) hw (Wd_stI hw.1 hq hP1 hD1 hS1) hc hz hk hn
theorem sd_last {mi ip nx : Nat} (hd : decode (bys mi) (pcs mi ip) = .ok (.lastore, 1)) (hn : pcs mi nx = pcs mi ip + 1) : Snd mi ip (a_last nx) := by
  intro X K d F C hX0 hF hG _ ls st h r e hs α H locs cells slots lsM hw hc hz hk
  obtain ⟨hx, hb, hml, hown, hts, hlk, hrt, hnm, hfr, hlo⟩ := hX0
  obtain ⟨hP, hD, hK, hS, hA, hI, hO⟩ := id hw.1
  rcases st with _ | ⟨x | x | x, _ | ⟨i | i, _ | ⟨y | y | a | y, st⟩⟩⟩ <;> first
    | exact nomatch (show (none : Option Rs) = some r from e)
    | skip
  cases hk0 : Nat.beq (kd a.1).1 4
  · rw [a_last, hk0] at e; cases e
  · have e0 : (if i < 0 ∨ (kd a.1).2 ≤ i.toNatClampNeg then none else F nx ls st (stJ h a i.toNatClampNeg x)) = some r := by rw [a_last, hk0] at e; exact e
    by_cases hin : i < 0 ∨ (kd a.1).2 ≤ i.toNatClampNeg
    · rw [if_pos hin] at e0; cases e0
    · rw [if_neg hin] at e0
      have hkd : kd a.1 = (4, (kd a.1).2) := kd_of hk0
      have ha := vok_in (all_hd (all_tl (all_tl hs))) (ne9 hkd (by decide))
      obtain ⟨q, hq, hwq⟩ := getElem_wl (cy := kY K) (α := α) ha
      rw [cel_long hkd] at hwq
      refine va_last (D := kD K) hx hb hK hP hD hS q 3 hwq rfl hin hd (fun H1 locs1 hP1 hD1 hS1 => ?_)
      have hcell : (Sum.inl (kY K 4, ((kd a.1).2, Sum.inr (Sum.inl (vp_updL (gJ h a) i.toNatClampNeg x)))) : va_E) = celE (kY K) α (stJ h a i.toNatClampNeg x) a := by
        rw [cel_long hkd]
        have : vp_updL (gJ h a) i.toNatClampNeg x = up2 (gJ h) a i.toNatClampNeg x a := by funext j; simp [vp_updL, up2]
        rw [this]
        rfl
      rw [hcell] at hP1 hD1
      exact hF.onW (h := h) (st' := st) e0 rfl (fun _ _ => rfl) (all_tl (all_tl (all_tl hs))) hw (Wd_stJ hw.1 hq hP1 hD1 hS1) hc hz hk hn
