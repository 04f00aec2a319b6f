/-! CALLS, by their kinds -/
theorem wsm_good {mj : Nat} (h : Cond.code (yn mj) (bys mj) (mx mj) (rt mj) ∈ gw) : GoodIn gw (wsm mj) := by
  intro w hw
  have hm : w ∈ gw := by
    rcases List.mem_cons.mp hw with e | e
    · rw [e]; exact h
    · exact e
  exact ⟨hm, good_of_word (List.mem_filter.mp hm).2⟩
theorem room_ok {d m R1 R2 : Nat} (h1 : d + 1 + 8 ≤ R1) (h2 : 64 * (d + 1) + 300 ≤ R2) (h3 : m ≤ 45) : d + 8 + 1 ≤ R1 ∧ 8 + (m + 11) + (64 * d + 300) ≤ R2 := by omega
/-- the facts of a method that is called -/
def MjG (mj np : Nat) : Prop := Cond.code (yn mj) (bys mj) (mx mj) (rt mj) ∈ gw ∧ Cond.initialized (yn mj).cls ∈ gw ∧ ((yn mj).cls ≠ "java/lang/invoke/MethodHandle" ∧ (yn mj).cls ≠ "java/lang/invoke/VarHandle" ∧ (parseMethodDescriptor (yn mj).desc).map (fun d => d.parameters.length) = some np) ∧ mx mj ≤ 45 ∧ 0 < mj ∧ mj < 238
theorem caV_inv {nx k mj na : Nat} {F : Kf} {C : Cf} {ls st : List Vl} {h : Hp} {r : Rs} (e : a_caV nx k mj na F C ls st h = some r) : cok k na st = true ∧ ∃ r1, C mj (popN na [] st).1 h = some r1 ∧ F nx ls (r1.1.toList ++ (popN na [] st).2) (mrg h r1.2) = some r := by
  cases hk : cok k na st
  · rw [a_caV, hk] at e; cases e
  · refine ⟨rfl, ?_⟩
    rw [a_caV, hk] at e
    rcases hC : C mj (popN na [] st).1 h with _ | ⟨_ | v, h'⟩
    · simp only [hC, cond_true, bV] at e; cases e
    · simp only [hC, cond_true, bV] at e
      exact ⟨_, rfl, e⟩
    · simp only [hC, cond_true, bV] at e; cases e
theorem caI_inv {nx k mj na : Nat} {F : Kf} {C : Cf} {ls st : List Vl} {h : Hp} {r : Rs} (e : a_caI nx k mj na F C ls st h = some r) : cok k na st = true ∧ ∃ r1, C mj (popN na [] st).1 h = some r1 ∧ F nx ls (r1.1.toList ++ (popN na [] st).2) (mrg h r1.2) = some r := by
  cases hk : cok k na st
  · rw [a_caI, hk] at e; cases e
  · refine ⟨rfl, ?_⟩
    rw [a_caI, hk] at e
    rcases hC : C mj (popN na [] st).1 h with _ | ⟨_ | (v | v), h'⟩
    · simp only [hC, cond_true, bI] at e; cases e
    · simp only [hC, cond_true, bI] at e; cases e
    · simp only [hC, cond_true, bI] at e
      exact ⟨_, rfl, e⟩
    · simp only [hC, cond_true, bI] at e; cases e
theorem caL_inv {nx k mj na : Nat} {F : Kf} {C : Cf} {ls st : List Vl} {h : Hp} {r : Rs} (e : a_caL nx k mj na F C ls st h = some r) : cok k na st = true ∧ ∃ r1, C mj (popN na [] st).1 h = some r1 ∧ F nx ls (r1.1.toList ++ (popN na [] st).2) (mrg h r1.2) = some r := by
  cases hk : cok k na st
  · rw [a_caL, hk] at e; cases e
  · refine ⟨rfl, ?_⟩
    rw [a_caL, hk] at e
    rcases hC : C mj (popN na [] st).1 h with _ | ⟨_ | (v | v | v), h'⟩
    · simp only [hC, cond_true, bL] at e; cases e
    · simp only [hC, cond_true, bL] at e; cases e
    · simp only [hC, cond_true, bL] at e; cases e
    · simp only [hC, cond_true, bL] at e
      exact ⟨_, rfl, e⟩
    · simp only [hC, cond_true, bL] at e; cases e
theorem caR_inv {nx k mj na : Nat} {F : Kf} {C : Cf} {ls st : List Vl} {h : Hp} {r : Rs} (e : a_caR nx k mj na F C ls st h = some r) : cok k na st = true ∧ ∃ r1, C mj (popN na [] st).1 h = some r1 ∧ F nx ls (r1.1.toList ++ (popN na [] st).2) (mrg h r1.2) = some r := by
  cases hk : cok k na st
  · rw [a_caR, hk] at e; cases e
  · refine ⟨rfl, ?_⟩
    rw [a_caR, hk] at e
    rcases hC : C mj (popN na [] st).1 h with _ | ⟨_ | (v | v | v | (v | v)), h'⟩
    · simp only [hC, cond_true, bR] at e; cases e
    · simp only [hC, cond_true, bR] at e; cases e
    · simp only [hC, cond_true, bR] at e; cases e
    · simp only [hC, cond_true, bR] at e; cases e
    · simp only [hC, cond_true, bR] at e
      exact ⟨_, rfl, e⟩
    · simp only [hC, cond_true, bR] at e; cases e
    · simp only [hC, cond_true, bR] at e
      exact ⟨_, rfl, e⟩
theorem call_S {X : Fx} {K : Kx} {mi ip nx mj na d idx : Nat} {F : Kf} {C : Cf} (hX0 : Sit X mi (d + 1)) (hF : Ok X K mi F) (hG : GrK F) (hOC : OkC (xl X) d C) (hM : MjG mj na) (hd : decode (bys mi) (pcs mi ip) = .ok (.invokestatic idx, 3)) (hl1 : Cond.methodLink (own mi) idx (yn mj) ∈ gw) (hl2 : Cond.static (yn mj) ∈ gw) (hn : pcs mi nx = pcs mi ip + 3) {ls st : List Vl} {h : Hp} {r r1 : Rs} (hck : cok 0 na st = true) (hC1 : C mj (popN na [] st).1 h = some r1) (e0 : F nx ls (r1.1.toList ++ (popN na [] st).2) (mrg h r1.2) = some r) (hs : ∀ v ∈ st, vok h v) {α : Ad → Nat} {H : Heap} {locs : List Loc} {cells slots : Nat} {lsM : Array Slot} (hw : Pw X K mi α H locs cells slots lsM ls h) (hc : nC r.2 ≤ (xR X).cells + kC K) (hz : nS r.2 ≤ (xR X).slots + kS K) (hk : Kt X K mi α h r) : Wx X H locs cells slots (F0 (xm X) (pcs mi ip) lsM (st.map (trV α))) := by
  obtain ⟨hx, hb, hml, hown, hts, hlk, hrt, hnm, hfr, hlo⟩ := hX0
  obtain ⟨hP, hD, hK, hS, hA, hI, hO⟩ := id hw.1
  obtain ⟨hcode, hini, hy, hmx, hm0, hm238⟩ := hM
  simp only [cok, Bool.and_eq_true] at hck
  have hna := Nat.le_of_ble_eq_true hck.1
  have hcat := Nat.le_of_ble_eq_true hck.2.2
  obtain ⟨hsp, hlen⟩ := popN_spec na [] st hna
  generalize hp1 : (popN na [] st).1 = as at *
  generalize hp2 : (popN na [] st).2 = rest at *
  have hsp : st = as.reverse ++ rest := by simpa using hsp
  have hlen : as.length = na := by simpa using hlen
  have hsr : ∀ v ∈ rest, vok h v := fun v hv => hs v (by rw [hsp]; exact List.mem_append_right _ hv)
  have hsa : ∀ v ∈ as, vok h v := fun v hv => hs v (by rw [hsp]; exact List.mem_append_left _ (List.mem_reverse.mpr hv))
  obtain ⟨hG1, hMet⟩ := hOC mj as h r1 hC1 hm0 hm238
  have hMet := hMet (kD K) (kY K) (kV K) α H.size hI hsa
  rw [mrg_eq hG1] at e0
  have hGr := hG _ _ _ _ _ e0
  obtain ⟨⟨t1, ht1⟩, -⟩ := id hG1
  obtain ⟨t2, ht2⟩ := hGr
  have n1 : nC r1.2 = nC h + t1.length := by show (gA r1.2).length = (gA h).length + _; rw [ht1, List.length_append]
  have n2 : nC r.2 = nC r1.2 + t2.length := by show (gA r.2).length = (gA r1.2).length + _; rw [ht2, List.length_append]
  have z1 : nS r1.2 = nS h + szL t1 := by show szL (gA r1.2) = szL (gA h) + _; rw [ht1, szL_app]
  have z2 : nS r.2 = nS r1.2 + szL t2 := by show szL (gA r.2) = szL (gA r1.2) + _; rw [ht2, szL_app]
  have hc4 := hw.2.2.2.1
  have hc5 := hw.2.2.2.2.1
  have hRR := room_ok hfr hlo hmx
  refine call_on (a := (as.map (trV α)).toArray) hF hG1 e0 hsr hw rfl rfl hc hz hk hn ?_
  exact va_runS (n := na) (As := as.map (trV α)) (nL := mx mi) (Ts := gw) (own := own mi) (bytes := bys mj) (maxL := mx mj) (ret := rt mj) ⟨hx, hb, hml, hown, hts⟩ hMet ⟨callB_of na hts (wsm_good hcode) rfl rfl rfl (hts _ hini) (hts _ hl1) hy ⟨hRR.1, hRR.2⟩, hts _ hl2⟩ ⟨PcX_blind _ _ _ _ _ _ _, fun U hU hW => PcX_of hw.1 as U hU hW⟩ rfl (by rw [List.length_map]; exact hlen) hw.2.1.1 (by show st.map (trV α) = _; rw [hsp, List.map_append, List.map_reverse]) (lv_room (by rw [cat_map]; exact hcat)) hd ⟨by omega, by omega⟩
theorem call_V {X : Fx} {K : Kx} {mi ip nx mj na d idx : Nat} {F : Kf} {C : Cf} (hX0 : Sit X mi (d + 1)) (hF : Ok X K mi F) (hG : GrK F) (hOC : OkC (xl X) d C) {c : Nat} {q : vw_C} (hM : MjG mj na) (hd : decode (bys mi) (pcs mi ip) = .ok (.invokevirtual idx, 3)) (hl1 : Cond.methodLink (own mi) idx (yn mj) ∈ gw) (hl2 : Cond.instanceMethod (yn mj) ∈ gw) (hl3 : Cond.selects (yn mj).cls (yn mj) (yn mj) ∈ gw) (hq0 : vwCl[c]? = some q) (hq1 : q.1 = (yn mj).cls) (hn : pcs mi nx = pcs mi ip + 3) {ls st : List Vl} {h : Hp} {r r1 : Rs} (hck : cok (c + 1) (na + 1) st = true) (hC1 : C mj (popN (na + 1) [] st).1 h = some r1) (e0 : F nx ls (r1.1.toList ++ (popN (na + 1) [] st).2) (mrg h r1.2) = some r) (hs : ∀ v ∈ st, vok h v) {α : Ad → Nat} {H : Heap} {locs : List Loc} {cells slots : Nat} {lsM : Array Slot} (hw : Pw X K mi α H locs cells slots lsM ls h) (hc : nC r.2 ≤ (xR X).cells + kC K) (hz : nS r.2 ≤ (xR X).slots + kS K) (hk : Kt X K mi α h r) : Wx X H locs cells slots (F0 (xm X) (pcs mi ip) lsM (st.map (trV α))) := by
  obtain ⟨hx, hb, hml, hown, hts, hlk, hrt, hnm, hfr, hlo⟩ := hX0
  obtain ⟨hP, hD, hK, hS, hA, hI, hO⟩ := id hw.1
  obtain ⟨hcode, hini, hy, hmx, hm0, hm238⟩ := hM
  simp only [cok, Bool.and_eq_true] at hck
  have hna := Nat.le_of_ble_eq_true hck.1
  have hcat := Nat.le_of_ble_eq_true hck.2.2
  obtain ⟨hsp, hlen⟩ := popN_spec (na + 1) [] st hna
  generalize hp1 : (popN (na + 1) [] st).1 = as at *
  generalize hp2 : (popN (na + 1) [] st).2 = rest at *
  have hsp : st = as.reverse ++ rest := by simpa using hsp
  have hlen : as.length = na + 1 := by simpa using hlen
  have hsr : ∀ v ∈ rest, vok h v := fun v hv => hs v (by rw [hsp]; exact List.mem_append_right _ hv)
  have hsa : ∀ v ∈ as, vok h v := fun v hv => hs v (by rw [hsp]; exact List.mem_append_left _ (List.mem_reverse.mpr hv))
  obtain ⟨hG1, hMet⟩ := hOC mj as h r1 hC1 hm0 hm238
  have hMet := hMet (kD K) (kY K) (kV K) α H.size hI hsa
  rw [mrg_eq hG1] at e0
  have hGr := hG _ _ _ _ _ e0
  obtain ⟨⟨t1, ht1⟩, -⟩ := id hG1
  obtain ⟨t2, ht2⟩ := hGr
  have n1 : nC r1.2 = nC h + t1.length := by show (gA r1.2).length = (gA h).length + _; rw [ht1, List.length_append]
  have n2 : nC r.2 = nC r1.2 + t2.length := by show (gA r.2).length = (gA r1.2).length + _; rw [ht2, List.length_append]
  have z1 : nS r1.2 = nS h + szL t1 := by show szL (gA r1.2) = szL (gA h) + _; rw [ht1, szL_app]
  have z2 : nS r.2 = nS r1.2 + szL t2 := by show szL (gA r.2) = szL (gA r1.2) + _; rw [ht2, szL_app]
  have hc4 := hw.2.2.2.1
  have hc5 := hw.2.2.2.2.1
  have hRR := room_ok hfr hlo hmx
  refine call_on (a := (as.map (trV α)).toArray) hF hG1 e0 hsr hw rfl rfl hc hz hk hn ?_
  rcases as with _ | ⟨v0 | v0 | b | v0, as⟩
  · cases hck.2.1
  · cases hck.2.1
  · cases hck.2.1
  · have hkb := kdc_eq (show kdc (kd b.1) 0 c = true from hck.2.1)
    have hbA := vok_in (hsa _ List.mem_cons_self) (ne9 hkb (by decide))
    obtain ⟨qb, hqb, hwqb⟩ := getElem_wl (cy := kY K) (α := α) hbA
    rw [cel_obj hkb] at hwqb
    have hrc := va_recv hK hP hq0 hwqb
    rw [hq1] at hrc
    exact va_runV (n := na) (As := as.map (trV α)) (b := α b) (C := (yn mj).cls) (nL := mx mi) (Ts := gw) (own := own mi) (bytes := bys mj) (maxL := mx mj) (ret := rt mj) ⟨hx, hb, hml, hown, hts⟩ hMet ⟨callB_of na hts (wsm_good hcode) rfl rfl rfl (hts _ hini) (hts _ hl1) hy ⟨hRR.1, hRR.2⟩, hts _ hl2, hts _ hl3⟩ ⟨PcX_blind _ _ _ _ _ _ _, hrc, fun U hU hW => PcX_of hw.1 (vR b :: as) U hU hW⟩ rfl (by rw [List.length_map]; simpa using hlen) hw.2.1.1 (by show st.map (trV α) = _; rw [hsp, List.reverse_cons, List.append_assoc, List.map_append, List.map_reverse]; rfl) (lv_room (by rw [cat_map]; exact hcat)) hd ⟨by omega, by omega⟩
  · cases hck.2.1
theorem call_I {X : Fx} {K : Kx} {mi ip nx mj na d idx : Nat} {F : Kf} {C : Cf} (hX0 : Sit X mi (d + 1)) (hF : Ok X K mi F) (hG : GrK F) (hOC : OkC (xl X) d C) {c : Nat} (hM : MjG mj na) (hr0 : rt mj = none) (hinit : (yn mj).name = "<init>") (hd : decode (bys mi) (pcs mi ip) = .ok (.invokespecial idx, 3)) (hl1 : Cond.methodLink (own mi) idx (yn mj) ∈ gw) (hl2 : Cond.instanceMethod (yn mj) ∈ gw) (hn : pcs mi nx = pcs mi ip + 3) {ls st : List Vl} {h : Hp} {r r1 : Rs} (hck : cok (c + 1) (na + 1) st = true) (hC1 : C mj (popN (na + 1) [] st).1 h = some r1) (e0 : F nx ls (r1.1.toList ++ (popN (na + 1) [] st).2) (mrg h r1.2) = some r) (hs : ∀ v ∈ st, vok h v) {α : Ad → Nat} {H : Heap} {locs : List Loc} {cells slots : Nat} {lsM : Array Slot} (hw : Pw X K mi α H locs cells slots lsM ls h) (hc : nC r.2 ≤ (xR X).cells + kC K) (hz : nS r.2 ≤ (xR X).slots + kS K) (hk : Kt X K mi α h r) : Wx X H locs cells slots (F0 (xm X) (pcs mi ip) lsM (st.map (trV α))) := by
  obtain ⟨hx, hb, hml, hown, hts, hlk, hrt, hnm, hfr, hlo⟩ := hX0
  obtain ⟨hP, hD, hK, hS, hA, hI, hO⟩ := id hw.1
  obtain ⟨hcode, hini, hy, hmx, hm0, hm238⟩ := hM
  simp only [cok, Bool.and_eq_true] at hck
  have hna := Nat.le_of_ble_eq_true hck.1
  have hcat := Nat.le_of_ble_eq_true hck.2.2
  obtain ⟨hsp, hlen⟩ := popN_spec (na + 1) [] st hna
  generalize hp1 : (popN (na + 1) [] st).1 = as at *
  generalize hp2 : (popN (na + 1) [] st).2 = rest at *
  have hsp : st = as.reverse ++ rest := by simpa using hsp
  have hlen : as.length = na + 1 := by simpa using hlen
  have hsr : ∀ v ∈ rest, vok h v := fun v hv => hs v (by rw [hsp]; exact List.mem_append_right _ hv)
  have hsa : ∀ v ∈ as, vok h v := fun v hv => hs v (by rw [hsp]; exact List.mem_append_left _ (List.mem_reverse.mpr hv))
  obtain ⟨hG1, hMet⟩ := hOC mj as h r1 hC1 hm0 hm238
  have hMet := hMet (kD K) (kY K) (kV K) α H.size hI hsa
  rw [mrg_eq hG1] at e0
  have hGr := hG _ _ _ _ _ e0
  obtain ⟨⟨t1, ht1⟩, -⟩ := id hG1
  obtain ⟨t2, ht2⟩ := hGr
  have n1 : nC r1.2 = nC h + t1.length := by show (gA r1.2).length = (gA h).length + _; rw [ht1, List.length_append]
  have n2 : nC r.2 = nC r1.2 + t2.length := by show (gA r.2).length = (gA r1.2).length + _; rw [ht2, List.length_append]
  have z1 : nS r1.2 = nS h + szL t1 := by show szL (gA r1.2) = szL (gA h) + _; rw [ht1, szL_app]
  have z2 : nS r.2 = nS r1.2 + szL t2 := by show szL (gA r.2) = szL (gA r1.2) + _; rw [ht2, szL_app]
  have hc4 := hw.2.2.2.1
  have hc5 := hw.2.2.2.2.1
  have hRR := room_ok hfr hlo hmx
  refine call_on (a := (as.map (trV α)).toArray) hF hG1 e0 hsr hw rfl rfl hc hz hk hn ?_
  rcases as with _ | ⟨v0 | v0 | b | v0, as⟩
  · cases hck.2.1
  · cases hck.2.1
  · cases hck.2.1
  · exact va_runI (n := na) (As := as.map (trV α)) (b := α b) (nL := mx mi) (Ts := gw) (own := own mi) (bytes := bys mj) (maxL := mx mj) ⟨hx, hb, hml, hown, hts⟩ hMet ⟨callB_of na hts (wsm_good hcode) (by show Cond.code _ _ _ (rt mj) :: gw = _; rw [hr0]) rfl rfl (hts _ hini) (hts _ hl1) hy ⟨hRR.1, hRR.2⟩, hinit, hts _ hl2⟩ ⟨PcX_blind _ _ _ _ _ _ _, fun U hU hW => PcX_of hw.1 (vR b :: as) U hU hW⟩ rfl (by rw [List.length_map]; simpa using hlen) hw.2.1.1 (by show st.map (trV α) = _; rw [hsp, List.reverse_cons, List.append_assoc, List.map_append, List.map_reverse]; rfl) (lv_room (by rw [cat_map]; exact hcat)) hd ⟨by omega, by omega⟩
  · cases hck.2.1
theorem call_IN {X : Fx} {K : Kx} {mi ip nx mj na d idx : Nat} {F : Kf} {C : Cf} (hX0 : Sit X mi (d + 1)) (hF : Ok X K mi F) (hG : GrK F) (hOC : OkC (xl X) d C) {c : Nat} {host : String} (hM : MjG mj na) (hr0 : rt mj = none) (hinit : (yn mj).name = "<init>") (hd : decode (bys mi) (pcs mi ip) = .ok (.invokespecial idx, 3)) (hl1 : Cond.methodLinkNest (own mi) idx (yn mj) host ∈ nw) (hl2 : Cond.instanceMethod (yn mj) ∈ gw) (hn : pcs mi nx = pcs mi ip + 3) {ls st : List Vl} {h : Hp} {r r1 : Rs} (hck : cok (c + 1) (na + 1) st = true) (hC1 : C mj (popN (na + 1) [] st).1 h = some r1) (e0 : F nx ls (r1.1.toList ++ (popN (na + 1) [] st).2) (mrg h r1.2) = some r) (hs : ∀ v ∈ st, vok h v) {α : Ad → Nat} {H : Heap} {locs : List Loc} {cells slots : Nat} {lsM : Array Slot} (hw : Pw X K mi α H locs cells slots lsM ls h) (hc : nC r.2 ≤ (xR X).cells + kC K) (hz : nS r.2 ≤ (xR X).slots + kS K) (hk : Kt X K mi α h r) : Wx X H locs cells slots (F0 (xm X) (pcs mi ip) lsM (st.map (trV α))) := by
  obtain ⟨hx, hb, hml, hown, hts, hlk, hrt, hnm, hfr, hlo⟩ := hX0
  obtain ⟨hP, hD, hK, hS, hA, hI, hO⟩ := id hw.1
  obtain ⟨hcode, hini, hy, hmx, hm0, hm238⟩ := hM
  simp only [cok, Bool.and_eq_true] at hck
  have hna := Nat.le_of_ble_eq_true hck.1
  have hcat := Nat.le_of_ble_eq_true hck.2.2
  obtain ⟨hsp, hlen⟩ := popN_spec (na + 1) [] st hna
  generalize hp1 : (popN (na + 1) [] st).1 = as at *
  generalize hp2 : (popN (na + 1) [] st).2 = rest at *
  have hsp : st = as.reverse ++ rest := by simpa using hsp
  have hlen : as.length = na + 1 := by simpa using hlen
  have hsr : ∀ v ∈ rest, vok h v := fun v hv => hs v (by rw [hsp]; exact List.mem_append_right _ hv)
  have hsa : ∀ v ∈ as, vok h v := fun v hv => hs v (by rw [hsp]; exact List.mem_append_left _ (List.mem_reverse.mpr hv))
  obtain ⟨hG1, hMet⟩ := hOC mj as h r1 hC1 hm0 hm238
  have hMet := hMet (kD K) (kY K) (kV K) α H.size hI hsa
  rw [mrg_eq hG1] at e0
  have hGr := hG _ _ _ _ _ e0
  obtain ⟨⟨t1, ht1⟩, -⟩ := id hG1
  obtain ⟨t2, ht2⟩ := hGr
  have n1 : nC r1.2 = nC h + t1.length := by show (gA r1.2).length = (gA h).length + _; rw [ht1, List.length_append]
  have n2 : nC r.2 = nC r1.2 + t2.length := by show (gA r.2).length = (gA r1.2).length + _; rw [ht2, List.length_append]
  have z1 : nS r1.2 = nS h + szL t1 := by show szL (gA r1.2) = szL (gA h) + _; rw [ht1, szL_app]
  have z2 : nS r.2 = nS r1.2 + szL t2 := by show szL (gA r.2) = szL (gA r1.2) + _; rw [ht2, szL_app]
  have hc4 := hw.2.2.2.1
  have hc5 := hw.2.2.2.2.1
  have hRR := room_ok hfr hlo hmx
  refine call_on (a := (as.map (trV α)).toArray) hF hG1 e0 hsr hw rfl rfl hc hz hk hn ?_
  rcases as with _ | ⟨v0 | v0 | b | v0, as⟩
  · cases hck.2.1
  · cases hck.2.1
  · cases hck.2.1
  · exact va_runIN (n := na) (As := as.map (trV α)) (b := α b) (nL := mx mi) (Ts := gw) (own := own mi) (bytes := bys mj) (maxL := mx mj) ⟨hx, hb, hml, hown, hts⟩ hMet ⟨va_cnB na hts (wsm_good hcode) (by show Cond.code _ _ _ (rt mj) :: gw = _; rw [hr0]) rfl rfl (hO.2.2.2.2.1 _ hl1) (hts _ hini) hy ⟨hRR.1, hRR.2⟩, hinit, hts _ hl2⟩ ⟨PcX_blind _ _ _ _ _ _ _, fun U hU hW => PcX_of hw.1 (vR b :: as) U hU hW⟩ rfl (by rw [List.length_map]; simpa using hlen) hw.2.1.1 (by show st.map (trV α) = _; rw [hsp, List.reverse_cons, List.append_assoc, List.map_append, List.map_reverse]; rfl) (lv_room (by rw [cat_map]; exact hcat)) hd ⟨by omega, by omega⟩
  · cases hck.2.1
theorem sd_SV {mi ip nx mj na idx : Nat} (hM : MjG mj na) (hd : decode (bys mi) (pcs mi ip) = .ok (.invokestatic idx, 3)) (hl1 : Cond.methodLink (own mi) idx (yn mj) ∈ gw) (hl2 : Cond.static (yn mj) ∈ gw) (hn : pcs mi nx = pcs mi ip + 3) : Snd mi ip (a_caV nx 0 mj na) := by
  intro X K d F C hX0 hF hG hOC ls st h r e hs α H locs cells slots lsM hw hc hz hk
  obtain ⟨hck, r1, hC1, e0⟩ := caV_inv e
  exact call_S hX0 hF hG hOC hM hd hl1 hl2 hn hck hC1 e0 hs hw hc hz hk
theorem sd_VV {mi ip nx mj na idx c : Nat} {q : vw_C} (hM : MjG mj na) (hd : decode (bys mi) (pcs mi ip) = .ok (.invokevirtual idx, 3)) (hl1 : Cond.methodLink (own mi) idx (yn mj) ∈ gw) (hl2 : Cond.instanceMethod (yn mj) ∈ gw) (hl3 : Cond.selects (yn mj).cls (yn mj) (yn mj) ∈ gw) (hq0 : vwCl[c]? = some q) (hq1 : q.1 = (yn mj).cls) (hn : pcs mi nx = pcs mi ip + 3) : Snd mi ip (a_caV nx (c + 1) mj (na + 1)) := by
  intro X K d F C hX0 hF hG hOC ls st h r e hs α H locs cells slots lsM hw hc hz hk
  obtain ⟨hck, r1, hC1, e0⟩ := caV_inv e
  exact call_V hX0 hF hG hOC hM hd hl1 hl2 hl3 hq0 hq1 hn hck hC1 e0 hs hw hc hz hk
theorem sd_SI {mi ip nx mj na idx : Nat} (hM : MjG mj na) (hd : decode (bys mi) (pcs mi ip) = .ok (.invokestatic idx, 3)) (hl1 : Cond.methodLink (own mi) idx (yn mj) ∈ gw) (hl2 : Cond.static (yn mj) ∈ gw) (hn : pcs mi nx = pcs mi ip + 3) : Snd mi ip (a_caI nx 0 mj na) := by
  intro X K d F C hX0 hF hG hOC ls st h r e hs α H locs cells slots lsM hw hc hz hk
  obtain ⟨hck, r1, hC1, e0⟩ := caI_inv e
  exact call_S hX0 hF hG hOC hM hd hl1 hl2 hn hck hC1 e0 hs hw hc hz hk
theorem sd_VI {mi ip nx mj na idx c : Nat} {q : vw_C} (hM : MjG mj na) (hd : decode (bys mi) (pcs mi ip) = .ok (.invokevirtual idx, 3)) (hl1 : Cond.methodLink (own mi) idx (yn mj) ∈ gw) (hl2 : Cond.instanceMethod (yn mj) ∈ gw) (hl3 : Cond.selects (yn mj).cls (yn mj) (yn mj) ∈ gw) (hq0 : vwCl[c]? = some q) (hq1 : q.1 = (yn mj).cls) (hn : pcs mi nx = pcs mi ip + 3) : Snd mi ip (a_caI nx (c + 1) mj (na + 1)) := by
  intro X K d F C hX0 hF hG hOC ls st h r e hs α H locs cells slots lsM hw hc hz hk
  obtain ⟨hck, r1, hC1, e0⟩ := caI_inv e
  exact call_V hX0 hF hG hOC hM hd hl1 hl2 hl3 hq0 hq1 hn hck hC1 e0 hs hw hc hz hk
theorem sd_SL {mi ip nx mj na idx : Nat} (hM : MjG mj na) (hd : decode (bys mi) (pcs mi ip) = .ok (.invokestatic idx, 3)) (hl1 : Cond.methodLink (own mi) idx (yn mj) ∈ gw) (hl2 : Cond.static (yn mj) ∈ gw) (hn : pcs mi nx = pcs mi ip + 3) : Snd mi ip (a_caL nx 0 mj na) := by
  intro X K d F C hX0 hF hG hOC ls st h r e hs α H locs cells slots lsM hw hc hz hk
  obtain ⟨hck, r1, hC1, e0⟩ := caL_inv e
  exact call_S hX0 hF hG hOC hM hd hl1 hl2 hn hck hC1 e0 hs hw hc hz hk
theorem sd_VL {mi ip nx mj na idx c : Nat} {q : vw_C} (hM : MjG mj na) (hd : decode (bys mi) (pcs mi ip) = .ok (.invokevirtual idx, 3)) (hl1 : Cond.methodLink (own mi) idx (yn mj) ∈ gw) (hl2 : Cond.instanceMethod (yn mj) ∈ gw) (hl3 : Cond.selects (yn mj).cls (yn mj) (yn mj) ∈ gw) (hq0 : vwCl[c]? = some q) (hq1 : q.1 = (yn mj).cls) (hn : pcs mi nx = pcs mi ip + 3) : Snd mi ip (a_caL nx (c + 1) mj (na + 1)) := by
  intro X K d F C hX0 hF hG hOC ls st h r e hs α H locs cells slots lsM hw hc hz hk
  obtain ⟨hck, r1, hC1, e0⟩ := caL_inv e
  exact call_V hX0 hF hG hOC hM hd hl1 hl2 hl3 hq0 hq1 hn hck hC1 e0 hs hw hc hz hk
theorem sd_SR {mi ip nx mj na idx : Nat} (hM : MjG mj na) (hd : decode (bys mi) (pcs mi ip) = .ok (.invokestatic idx, 3)) (hl1 : Cond.methodLink (own mi) idx (yn mj) ∈ gw) (hl2 : Cond.static (yn mj) ∈ gw) (hn : pcs mi nx = pcs mi ip + 3) : Snd mi ip (a_caR nx 0 mj na) := by
  intro X K d F C hX0 hF hG hOC ls st h r e hs α H locs cells slots lsM hw hc hz hk
  obtain ⟨hck, r1, hC1, e0⟩ := caR_inv e
  exact call_S hX0 hF hG hOC hM hd hl1 hl2 hn hck hC1 e0 hs hw hc hz hk
theorem sd_VR {mi ip nx mj na idx c : Nat} {q : vw_C} (hM : MjG mj na) (hd : decode (bys mi) (pcs mi ip) = .ok (.invokevirtual idx, 3)) (hl1 : Cond.methodLink (own mi) idx (yn mj) ∈ gw) (hl2 : Cond.instanceMethod (yn mj) ∈ gw) (hl3 : Cond.selects (yn mj).cls (yn mj) (yn mj) ∈ gw) (hq0 : vwCl[c]? = some q) (hq1 : q.1 = (yn mj).cls) (hn : pcs mi nx = pcs mi ip + 3) : Snd mi ip (a_caR nx (c + 1) mj (na + 1)) := by
  intro X K d F C hX0 hF hG hOC ls st h r e hs α H locs cells slots lsM hw hc hz hk
  obtain ⟨hck, r1, hC1, e0⟩ := caR_inv e
  exact call_V hX0 hF hG hOC hM hd hl1 hl2 hl3 hq0 hq1 hn hck hC1 e0 hs hw hc hz hk
theorem sd_I {mi ip nx mj na idx c : Nat} (hM : MjG mj na) (hr0 : rt mj = none) (hinit : (yn mj).name = "<init>") (hd : decode (bys mi) (pcs mi ip) = .ok (.invokespecial idx, 3)) (hl1 : Cond.methodLink (own mi) idx (yn mj) ∈ gw) (hl2 : Cond.instanceMethod (yn mj) ∈ gw) (hn : pcs mi nx = pcs mi ip + 3) : Snd mi ip (a_caV nx (c + 1) mj (na + 1)) := by
  intro X K d F C hX0 hF hG hOC ls st h r e hs α H locs cells slots lsM hw hc hz hk
  obtain ⟨hck, r1, hC1, e0⟩ := caV_inv e
  exact call_I hX0 hF hG hOC hM hr0 hinit hd hl1 hl2 hn hck hC1 e0 hs hw hc hz hk
theorem sd_IN {mi ip nx mj na idx c : Nat} {host : String} (hM : MjG mj na) (hr0 : rt mj = none) (hinit : (yn mj).name = "<init>") (hd : decode (bys mi) (pcs mi ip) = .ok (.invokespecial idx, 3)) (hl1 : Cond.methodLinkNest (own mi) idx (yn mj) host ∈ nw) (hl2 : Cond.instanceMethod (yn mj) ∈ gw) (hn : pcs mi nx = pcs mi ip + 3) : Snd mi ip (a_caV nx (c + 1) mj (na + 1)) := by
  intro X K d F C hX0 hF hG hOC ls st h r e hs α H locs cells slots lsM hw hc hz hk
  obtain ⟨hck, r1, hC1, e0⟩ := caV_inv e
  exact call_IN hX0 hF hG hOC hM hr0 hinit hd hl1 hl2 hn hck hC1 e0 hs hw hc hz hk
