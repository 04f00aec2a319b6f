theorem sd_iconst {mi ip nx : Nat} {n : Int} {v : Int32} (hv : Int32.ofInt n = v) (hd : decode (bys mi) (pcs mi ip) = .ok (.iconst n, 1)) (hn : pcs mi nx = pcs mi ip + 1) : Snd mi ip (a_cI nx v) := by
  intro X K d F C hX hF _ _ ls st h r e hs α H locs cells slots lsM hw hc hz hk
  obtain ⟨hx, hb, -⟩ := hX
  refine lv_iconst (v := v) hx hb hd hv ?_
  exact hF.on (st' := vI v :: st) e (all_cons (vok_I h v) hs) hw hc hz hk hn
theorem sd_bipush {mi ip nx : Nat} {n : Int} {v : Int32} (hv : (Int8.ofInt n).toInt32 = v) (hd : decode (bys mi) (pcs mi ip) = .ok (.bipush n, 2)) (hn : pcs mi nx = pcs mi ip + 2) : Snd mi ip (a_cI nx v) := by
  intro X K d F C hX hF _ _ ls st h r e hs α H locs cells slots lsM hw hc hz hk
  obtain ⟨hx, hb, -⟩ := hX
  refine lv_bipush (v := v) hx hb hd hv ?_
  exact hF.on (st' := vI v :: st) e (all_cons (vok_I h v) hs) hw hc hz hk hn
theorem sd_sipush {mi ip nx : Nat} {n : Int} {v : Int32} (hv : (Int16.ofInt n).toInt32 = v) (hd : decode (bys mi) (pcs mi ip) = .ok (.sipush n, 3)) (hn : pcs mi nx = pcs mi ip + 3) : Snd mi ip (a_cI nx v) := by
  intro X K d F C hX hF _ _ ls st h r e hs α H locs cells slots lsM hw hc hz hk
  obtain ⟨hx, hb, -⟩ := hX
  refine lv_sipush (v := v) hx hb hd hv ?_
  exact hF.on (st' := vI v :: st) e (all_cons (vok_I h v) hs) hw hc hz hk hn
theorem sd_lconst {mi ip nx : Nat} {n : Fin 2} {v : Int64} (hv : Int64.ofNat (n : Nat) = v) (hd : decode (bys mi) (pcs mi ip) = .ok (.lconst n, 1)) (hn : pcs mi nx = pcs mi ip + 1) : Snd mi ip (a_cL nx v) := by
  intro X K d F C hX hF _ _ ls st h r e hs α H locs cells slots lsM hw hc hz hk
  obtain ⟨hx, hb, -⟩ := hX
  refine lv_lconst (v := v) hx hb hd hv ?_
  exact hF.on (st' := vL v :: st) e (all_cons (vok_L h v) hs) hw hc hz hk hn
theorem sd_null {mi ip nx : Nat}  (hd : decode (bys mi) (pcs mi ip) = .ok (.aconst_null, 1)) (hn : pcs mi nx = pcs mi ip + 1) : Snd mi ip (a_cN nx) := by
  intro X K d F C hX hF _ _ ls st h r e hs α H locs cells slots lsM hw hc hz hk
  obtain ⟨hx, hb, -⟩ := hX
  refine lv_null hx hb hd ?_
  exact hF.on (st' := vN :: st) e (all_cons (vok_N h) hs) hw hc hz hk hn
theorem sd_ldc {mi ip nx : Nat} {idx : Nat} {v : Int32} (hw0 : Cond.constant (own mi) idx v ∈ gw) (hd : decode (bys mi) (pcs mi ip) = .ok (.ldc idx, 2)) (hn : pcs mi nx = pcs mi ip + 2) : Snd mi ip (a_cI nx v) := by
  intro X K d F C hX0 hF _ _ ls st h r e hs α H locs cells slots lsM hw hc hz hk
  obtain ⟨hx, hb, -, hown, hts, -⟩ := hX0
  refine lv_ldc (v := v) hx hb hown (hts _ hw0) hd ?_
  exact hF.on (st' := vI v :: st) e (all_cons (vok_I h v) hs) hw hc hz hk hn
theorem sd_ldcw {mi ip nx : Nat} {idx : Nat} {v : Int32} (hw0 : Cond.constant (own mi) idx v ∈ gw) (hd : decode (bys mi) (pcs mi ip) = .ok (.ldc_w idx, 3)) (hn : pcs mi nx = pcs mi ip + 3) : Snd mi ip (a_cI nx v) := by
  intro X K d F C hX0 hF _ _ ls st h r e hs α H locs cells slots lsM hw hc hz hk
  obtain ⟨hx, hb, -, hown, hts, -⟩ := hX0
  refine lv_ldcw (v := v) hx hb hown (hts _ hw0) hd ?_
  exact hF.on (st' := vI v :: st) e (all_cons (vok_I h v) hs) hw hc hz hk hn
theorem sd_ldc2 {mi ip nx : Nat} {idx : Nat} {v : Int64} (hw0 : Cond.constantLong (own mi) idx v ∈ gw) (hd : decode (bys mi) (pcs mi ip) = .ok (.ldc2_w idx, 3)) (hn : pcs mi nx = pcs mi ip + 3) : Snd mi ip (a_cL nx v) := by
  intro X K d F C hX0 hF _ _ ls st h r e hs α H locs cells slots lsM hw hc hz hk
  obtain ⟨hx, hb, -, hown, hts, -⟩ := hX0
  refine lv_ldc2 (v := v) hx hb hown (hts _ hw0) hd ?_
  exact hF.on (st' := vL v :: st) e (all_cons (vok_L h v) hs) hw hc hz hk hn
theorem sd_ldcS {mi ip nx k : Nat} {idx : Nat} (h0 : k < 21 ∧ snOwn k = own mi ∧ snIdx k = idx) (hd : decode (bys mi) (pcs mi ip) = .ok (.ldc idx, 2)) (hn : pcs mi nx = pcs mi ip + 2) : Snd mi ip (a_cS nx k) := by
  intro X K d F C hX0 hF _ _ ls st h r e hs α H locs cells slots lsM hw hc hz hk
  obtain ⟨hx, hb, -, hown, hts, -⟩ := hX0
  have hv := hw.1.2.2.2.2.2.2.2.1 k h0.1
  rw [h0.2.1, h0.2.2] at hv
  refine va_ldcS hx hb hown hv hd ?_
  exact hF.on (st' := vR (99, k) :: st) e (all_cons (vok_S h k h0.1) hs) hw hc hz hk hn
theorem ldcSw {p : Program} {l : Launch} {e : Env} {R : Room} {s : State} {m : MethodId} {args : Array Value} {below : List Frame} {meth : Method} {c : Code} {T : State} {locs : List Loc} {cells slots : Nat}
    (X : Stand p l e R s m args below meth c T locs cells slots) (hexec : p.tables.exec = Jvm.exec) {own text : String} {index : Nat} {a : Addr} (hown : s.vm.findClass own = some m.cls) {A : Array Value}
    (hconst : (Cond.stringRef own index text).before A s = true) (hev : (Term.string own index).eval A s none [] s = some (.ref a)) {g : JFrame} (hg : g.method = m) (hdg : decode c.code g.pc = .ok (.ldc_w index, 3)) :
    ∀ target, Steps p.tables e below (T.setTop { g with pc := g.pc + 3, stack := .ref a :: g.stack }) target → Steps p.tables e below (T.setTop g) target := by
  obtain ⟨k, cf, i, a', hk, hcf, hcp, -, hr, hev'⟩ := Cond.stringRef_spec hown hconst
  cases hev.symm.trans hev'
  obtain ⟨k', hk', he⟩ := X.warmed.alike.2.2 _ _ hk
  have hr' : k'.resolved[index]? = some (some (.string a)) := by
    rcases X.warmed.entry hk hk' index with h | ⟨h, -⟩
    · rw [h]; exact hr
    · rw [hr] at h; cases h
  intro target hrest
  subst hg
  jvm_step X.here [hexec, hdg, ldc_w.wp_string (e := e) (s := T) (f := g) X.here.top hk' (by rw [he]; exact hcf) hcp hr']
  exact hrest
theorem sd_ldcSw {mi ip nx k : Nat} {idx : Nat} (h0 : k < 21 ∧ snOwn k = own mi ∧ snIdx k = idx) (hd : decode (bys mi) (pcs mi ip) = .ok (.ldc_w idx, 3)) (hn : pcs mi nx = pcs mi ip + 3) : Snd mi ip (a_cS nx k) := by
  intro X K d F C hX0 hF _ _ ls st h r e hs α H locs cells slots lsM hw hc hz hk
  obtain ⟨hx, hb, -, hown, hts, -⟩ := hX0
  have hv := hw.1.2.2.2.2.2.2.2.1 k h0.1
  rw [h0.2.1, h0.2.2] at hv
  have hgo := hF.on (st' := vR (99, k) :: st) e (all_cons (vok_S h k h0.1) hs) hw hc hz hk hn
  intro T hT Xs
  obtain ⟨t, a1, b1⟩ := hgo T hT Xs
  exact ⟨t, ldcSw Xs hx hown hv.1 hv.2 (g := F0 (xm X) (pcs mi ip) lsM (st.map (trV α))) rfl (by rw [hb]; exact hd) t a1, b1⟩
theorem sd_iload_n {mi ip nx i : Nat} {k : Fin 4} (hi : (k : Nat) = i) (hd : decode (bys mi) (pcs mi ip) = .ok (.iload_n k, 1)) (hn : pcs mi nx = pcs mi ip + 1) : Snd mi ip (a_ild nx i) := by
  intro X K d F C hX hF _ _ ls st h r e hs α H locs cells slots lsM hw hc hz hk
  obtain ⟨hx, hb, -⟩ := hX
  have hl := hw.2.1.2.2.2 i
  have hv0 := hw.2.2.1 i
  rcases hv : nthD ls i vU with x | x
  · rw [hv] at hl hv0
    simp only [a_ild, hv] at e
    refine lv_iload_n hx hb hd hi (hl (by intro z; cases z)) ?_
    exact hF.on (st' := vI x :: st) e (all_cons (vok_I h x) hs) hw hc hz hk hn
  · simp only [a_ild, hv] at e
    cases e
theorem sd_iload {mi ip nx i : Nat}  (hd : decode (bys mi) (pcs mi ip) = .ok (.iload i, 2)) (hn : pcs mi nx = pcs mi ip + 2) : Snd mi ip (a_ild nx i) := by
  intro X K d F C hX hF _ _ ls st h r e hs α H locs cells slots lsM hw hc hz hk
  obtain ⟨hx, hb, -⟩ := hX
  have hl := hw.2.1.2.2.2 i
  have hv0 := hw.2.2.1 i
  rcases hv : nthD ls i vU with x | x
  · rw [hv] at hl hv0
    simp only [a_ild, hv] at e
    refine lv_iload hx hb hd (hl (by intro z; cases z)) ?_
    exact hF.on (st' := vI x :: st) e (all_cons (vok_I h x) hs) hw hc hz hk hn
  · simp only [a_ild, hv] at e
    cases e
theorem sd_lload_n {mi ip nx i : Nat} {k : Fin 4} (hi : (k : Nat) = i) (hd : decode (bys mi) (pcs mi ip) = .ok (.lload_n k, 1)) (hn : pcs mi nx = pcs mi ip + 1) : Snd mi ip (a_lld nx i) := by
  intro X K d F C hX hF _ _ ls st h r e hs α H locs cells slots lsM hw hc hz hk
  obtain ⟨hx, hb, -⟩ := hX
  have hl := hw.2.1.2.2.2 i
  have hv0 := hw.2.2.1 i
  rcases hv : nthD ls i vU with x | x | x
  · simp only [a_lld, hv] at e
    cases e
  · rw [hv] at hl hv0
    simp only [a_lld, hv] at e
    refine lv_lload_n hx hb hd hi (hl (by intro z; cases z)) ?_
    exact hF.on (st' := vL x :: st) e (all_cons (vok_L h x) hs) hw hc hz hk hn
  · simp only [a_lld, hv] at e
    cases e
theorem sd_lload {mi ip nx i : Nat}  (hd : decode (bys mi) (pcs mi ip) = .ok (.lload i, 2)) (hn : pcs mi nx = pcs mi ip + 2) : Snd mi ip (a_lld nx i) := by
  intro X K d F C hX hF _ _ ls st h r e hs α H locs cells slots lsM hw hc hz hk
  obtain ⟨hx, hb, -⟩ := hX
  have hl := hw.2.1.2.2.2 i
  have hv0 := hw.2.2.1 i
  rcases hv : nthD ls i vU with x | x | x
  · simp only [a_lld, hv] at e
    cases e
  · rw [hv] at hl hv0
    simp only [a_lld, hv] at e
    refine lv_lload hx hb hd (hl (by intro z; cases z)) ?_
    exact hF.on (st' := vL x :: st) e (all_cons (vok_L h x) hs) hw hc hz hk hn
  · simp only [a_lld, hv] at e
    cases e
theorem sd_aload_n {mi ip nx i : Nat} {k : Fin 4} (hi : (k : Nat) = i) (hd : decode (bys mi) (pcs mi ip) = .ok (.aload_n k, 1)) (hn : pcs mi nx = pcs mi ip + 1) : Snd mi ip (a_ald nx i) := by
  intro X K d F C hX hF _ _ ls st h r e hs α H locs cells slots lsM hw hc hz hk
  obtain ⟨hx, hb, -⟩ := hX
  have hl := hw.2.1.2.2.2 i
  have hv0 := hw.2.2.1 i
  rcases hv : nthD ls i vU with x | x | x | (x | x)
  · simp only [a_ald, hv] at e
    cases e
  · simp only [a_ald, hv] at e
    cases e
  · rw [hv] at hl hv0
    simp only [a_ald, hv] at e
    refine lv_aload_n hx hb hd hi (hl (by intro z; cases z)) ?_
    exact hF.on (st' := vR x :: st) e (all_cons (hv0) hs) hw hc hz hk hn
  · simp only [a_ald, hv] at e
    cases e
  · rw [hv] at hl hv0
    simp only [a_ald, hv] at e
    refine lv_aload_nN hx hb hd hi (hl (by intro z; cases z)) ?_
    exact hF.on (st' := vN :: st) e (all_cons (vok_N h) hs) hw hc hz hk hn
theorem sd_aload {mi ip nx i : Nat}  (hd : decode (bys mi) (pcs mi ip) = .ok (.aload i, 2)) (hn : pcs mi nx = pcs mi ip + 2) : Snd mi ip (a_ald nx i) := by
  intro X K d F C hX hF _ _ ls st h r e hs α H locs cells slots lsM hw hc hz hk
  obtain ⟨hx, hb, -⟩ := hX
  have hl := hw.2.1.2.2.2 i
  have hv0 := hw.2.2.1 i
  rcases hv : nthD ls i vU with x | x | x | (x | x)
  · simp only [a_ald, hv] at e
    cases e
  · simp only [a_ald, hv] at e
    cases e
  · rw [hv] at hl hv0
    simp only [a_ald, hv] at e
    refine lv_aload hx hb hd (hl (by intro z; cases z)) ?_
    exact hF.on (st' := vR x :: st) e (all_cons (hv0) hs) hw hc hz hk hn
  · simp only [a_ald, hv] at e
    cases e
  · rw [hv] at hl hv0
    simp only [a_ald, hv] at e
    refine lv_aloadN hx hb hd (hl (by intro z; cases z)) ?_
    exact hF.on (st' := vN :: st) e (all_cons (vok_N h) hs) hw hc hz hk hn
theorem sd_istore_n {mi ip nx i : Nat} {k : Fin 4} (hi : (k : Nat) = i) (hm : i < mx mi) (hd : decode (bys mi) (pcs mi ip) = .ok (.istore_n k, 1)) (hn : pcs mi nx = pcs mi ip + 1) : Snd mi ip (a_ist nx i) := by
  intro X K d F C hX hF _ _ ls st h r e hs α H locs cells slots lsM hw hc hz hk
  obtain ⟨hx, hb, -⟩ := hX
  rcases st with _ | ⟨x | x, st⟩
  · exact nomatch (show (none : Option Rs) = some r from e)
  · refine lv_istore_n hx hb hd hi hw.2.1.has hm rfl (fun lsM' hl' => ?_)
    exact hF.on (ls := (fixp ls i).set i (vI x)) (st' := st) e (all_tl hs) ⟨hw.1, hw.2.1.st1 hm hl', (vok_set (vok_I h x) hw.2.2.1), hw.2.2.2⟩ hc hz hk hn
  · exact nomatch (show (none : Option Rs) = some r from e)
theorem sd_lstore_n {mi ip nx i : Nat} {k : Fin 4} (hi : (k : Nat) = i) (hm : i + 1 < mx mi) (hd : decode (bys mi) (pcs mi ip) = .ok (.lstore_n k, 1)) (hn : pcs mi nx = pcs mi ip + 1) : Snd mi ip (a_lst nx i) := by
  intro X K d F C hX hF _ _ ls st h r e hs α H locs cells slots lsM hw hc hz hk
  obtain ⟨hx, hb, -⟩ := hX
  rcases st with _ | ⟨x | x | x, st⟩
  · exact nomatch (show (none : Option Rs) = some r from e)
  · exact nomatch (show (none : Option Rs) = some r from e)
  · refine lv_lstore_n hx hb hd hi hw.2.1.has hm rfl (fun lsM' hl' => ?_)
    exact hF.on (ls := ((fixp ls i).set i (vL x)).set (i + 1) vU) (st' := st) e (all_tl hs) ⟨hw.1, hw.2.1.st2 hm hl', (vok_set2 (vok_L h x) hw.2.2.1), hw.2.2.2⟩ hc hz hk hn
  · exact nomatch (show (none : Option Rs) = some r from e)
theorem sd_astore_n {mi ip nx i : Nat} {k : Fin 4} (hi : (k : Nat) = i) (hm : i < mx mi) (hd : decode (bys mi) (pcs mi ip) = .ok (.astore_n k, 1)) (hn : pcs mi nx = pcs mi ip + 1) : Snd mi ip (a_ast nx i) := by
  intro X K d F C hX hF _ _ ls st h r e hs α H locs cells slots lsM hw hc hz hk
  obtain ⟨hx, hb, -⟩ := hX
  rcases st with _ | ⟨x | x | x | (x | x), st⟩
  · exact nomatch (show (none : Option Rs) = some r from e)
  · exact nomatch (show (none : Option Rs) = some r from e)
  · exact nomatch (show (none : Option Rs) = some r from e)
  · refine lv_astore_n hx hb hd hi hw.2.1.has hm rfl (fun lsM' hl' => ?_)
    exact hF.on (ls := (fixp ls i).set i (vR x)) (st' := st) e (all_tl hs) ⟨hw.1, hw.2.1.st1 (v := vR x) hm hl', (vok_set (all_hd hs) hw.2.2.1), hw.2.2.2⟩ hc hz hk hn
  · exact nomatch (show (none : Option Rs) = some r from e)
  · refine lv_astore_nN hx hb hd hi hw.2.1.has hm rfl (fun lsM' hl' => ?_)
    exact hF.on (ls := (fixp ls i).set i vN) (st' := st) e (all_tl hs) ⟨hw.1, hw.2.1.st1 (v := vN) hm hl', (vok_set (vok_N h) hw.2.2.1), hw.2.2.2⟩ hc hz hk hn
theorem sd_istore {mi ip nx i : Nat}  (hm : i < mx mi) (hd : decode (bys mi) (pcs mi ip) = .ok (.istore i, 2)) (hn : pcs mi nx = pcs mi ip + 2) : Snd mi ip (a_ist nx i) := by
  intro X K d F C hX hF _ _ ls st h r e hs α H locs cells slots lsM hw hc hz hk
  obtain ⟨hx, hb, -⟩ := hX
  rcases st with _ | ⟨x | x, st⟩
  · exact nomatch (show (none : Option Rs) = some r from e)
  · refine lv_istore hx hb hd hw.2.1.has hm rfl (fun lsM' hl' => ?_)
    exact hF.on (ls := (fixp ls i).set i (vI x)) (st' := st) e (all_tl hs) ⟨hw.1, hw.2.1.st1 hm hl', (vok_set (vok_I h x) hw.2.2.1), hw.2.2.2⟩ hc hz hk hn
  · exact nomatch (show (none : Option Rs) = some r from e)
theorem sd_lstore {mi ip nx i : Nat}  (hm : i + 1 < mx mi) (hd : decode (bys mi) (pcs mi ip) = .ok (.lstore i, 2)) (hn : pcs mi nx = pcs mi ip + 2) : Snd mi ip (a_lst nx i) := by
  intro X K d F C hX hF _ _ ls st h r e hs α H locs cells slots lsM hw hc hz hk
  obtain ⟨hx, hb, -⟩ := hX
  rcases st with _ | ⟨x | x | x, st⟩
  · exact nomatch (show (none : Option Rs) = some r from e)
  · exact nomatch (show (none : Option Rs) = some r from e)
  · refine lv_lstore hx hb hd hw.2.1.has hm rfl (fun lsM' hl' => ?_)
    exact hF.on (ls := ((fixp ls i).set i (vL x)).set (i + 1) vU) (st' := st) e (all_tl hs) ⟨hw.1, hw.2.1.st2 hm hl', (vok_set2 (vok_L h x) hw.2.2.1), hw.2.2.2⟩ hc hz hk hn
  · exact nomatch (show (none : Option Rs) = some r from e)
theorem sd_astore {mi ip nx i : Nat}  (hm : i < mx mi) (hd : decode (bys mi) (pcs mi ip) = .ok (.astore i, 2)) (hn : pcs mi nx = pcs mi ip + 2) : Snd mi ip (a_ast nx i) := by
  intro X K d F C hX hF _ _ ls st h r e hs α H locs cells slots lsM hw hc hz hk
  obtain ⟨hx, hb, -⟩ := hX
  rcases st with _ | ⟨x | x | x | (x | x), st⟩
  · exact nomatch (show (none : Option Rs) = some r from e)
  · exact nomatch (show (none : Option Rs) = some r from e)
  · exact nomatch (show (none : Option Rs) = some r from e)
  · refine lv_astore hx hb hd hw.2.1.has hm rfl (fun lsM' hl' => ?_)
    exact hF.on (ls := (fixp ls i).set i (vR x)) (st' := st) e (all_tl hs) ⟨hw.1, hw.2.1.st1 (v := vR x) hm hl', (vok_set (all_hd hs) hw.2.2.1), hw.2.2.2⟩ hc hz hk hn
  · exact nomatch (show (none : Option Rs) = some r from e)
  · refine lv_astoreN hx hb hd hw.2.1.has hm rfl (fun lsM' hl' => ?_)
    exact hF.on (ls := (fixp ls i).set i vN) (st' := st) e (all_tl hs) ⟨hw.1, hw.2.1.st1 (v := vN) hm hl', (vok_set (vok_N h) hw.2.2.1), hw.2.2.2⟩ hc hz hk hn
theorem sd_iinc {mi ip nx i : Nat} {n : Int} {v : Int32} (hv0 : Int32.ofInt n = v) (hm : i < mx mi) (hd : decode (bys mi) (pcs mi ip) = .ok (.iinc i n, 3)) (hn : pcs mi nx = pcs mi ip + 3) : Snd mi ip (a_inc nx i v) := by
  intro X K d F C hX hF _ _ ls st h r e hs α H locs cells slots lsM hw hc hz hk
  obtain ⟨hx, hb, -⟩ := hX
  rcases hv : nthD ls i vU with x | x
  · simp only [a_inc, hv] at e
    have hne : nthD ls i vU ≠ vU := by rw [hv]; intro z; cases z
    obtain ⟨k0, hk0⟩ := List.getElem?_of_mem (lvF_mem (α := α) hne (mx mi) hm)
    rw [hv] at hk0
    refine lv_iinc (v := x + v) hx hb hd hw.2.1.has hk0 (by rw [hv0]) hm rfl (fun lsM' hl' => ?_)
    exact hF.on (ls := (fixp ls i).set i (vI (x + v))) (st' := st) e hs ⟨hw.1, hw.2.1.st1 (v := vI (x + v)) hm hl', (vok_set (vok_I h _) hw.2.2.1), hw.2.2.2⟩ hc hz hk hn
  · simp only [a_inc, hv] at e
    cases e
theorem sd_iadd {mi ip nx : Nat} (hd : decode (bys mi) (pcs mi ip) = .ok (.iadd, 1)) (hn : pcs mi nx = pcs mi ip + 1) : Snd mi ip (a_b2 (fun x y => x + y) nx) := by
  intro X K d F C hX hF _ _ ls st h r e hs α H locs cells slots lsM hw hc hz hk
  obtain ⟨hx, hb, -⟩ := hX
  rcases st with _ | ⟨y | y, _ | ⟨x | x, st⟩⟩
  · exact nomatch (show (none : Option Rs) = some r from e)
  · exact nomatch (show (none : Option Rs) = some r from e)
  · refine lv_iadd hx hb hd ?_
    exact hF.on (st' := vI (x + y) :: st) e (all_cons (vok_I h _) (all_tl (all_tl hs))) hw hc hz hk hn
  · exact nomatch (show (none : Option Rs) = some r from e)
  · exact nomatch (show (none : Option Rs) = some r from e)
  · exact nomatch (show (none : Option Rs) = some r from e)
  · exact nomatch (show (none : Option Rs) = some r from e)
theorem sd_isub {mi ip nx : Nat} (hd : decode (bys mi) (pcs mi ip) = .ok (.isub, 1)) (hn : pcs mi nx = pcs mi ip + 1) : Snd mi ip (a_b2 (fun x y => x - y) nx) := by
  intro X K d F C hX hF _ _ ls st h r e hs α H locs cells slots lsM hw hc hz hk
  obtain ⟨hx, hb, -⟩ := hX
  rcases st with _ | ⟨y | y, _ | ⟨x | x, st⟩⟩
  · exact nomatch (show (none : Option Rs) = some r from e)
  · exact nomatch (show (none : Option Rs) = some r from e)
  · refine lv_isub hx hb hd ?_
    exact hF.on (st' := vI (x - y) :: st) e (all_cons (vok_I h _) (all_tl (all_tl hs))) hw hc hz hk hn
  · exact nomatch (show (none : Option Rs) = some r from e)
  · exact nomatch (show (none : Option Rs) = some r from e)
  · exact nomatch (show (none : Option Rs) = some r from e)
  · exact nomatch (show (none : Option Rs) = some r from e)
theorem sd_imul {mi ip nx : Nat} (hd : decode (bys mi) (pcs mi ip) = .ok (.imul, 1)) (hn : pcs mi nx = pcs mi ip + 1) : Snd mi ip (a_b2 (fun x y => x * y) nx) := by
  intro X K d F C hX hF _ _ ls st h r e hs α H locs cells slots lsM hw hc hz hk
  obtain ⟨hx, hb, -⟩ := hX
  rcases st with _ | ⟨y | y, _ | ⟨x | x, st⟩⟩
  · exact nomatch (show (none : Option Rs) = some r from e)
  · exact nomatch (show (none : Option Rs) = some r from e)
  · refine lv_imul hx hb hd ?_
    exact hF.on (st' := vI (x * y) :: st) e (all_cons (vok_I h _) (all_tl (all_tl hs))) hw hc hz hk hn
  · exact nomatch (show (none : Option Rs) = some r from e)
  · exact nomatch (show (none : Option Rs) = some r from e)
  · exact nomatch (show (none : Option Rs) = some r from e)
  · exact nomatch (show (none : Option Rs) = some r from e)
theorem sd_iand {mi ip nx : Nat} (hd : decode (bys mi) (pcs mi ip) = .ok (.iand, 1)) (hn : pcs mi nx = pcs mi ip + 1) : Snd mi ip (a_b2 (fun x y => x &&& y) nx) := by
  intro X K d F C hX hF _ _ ls st h r e hs α H locs cells slots lsM hw hc hz hk
  obtain ⟨hx, hb, -⟩ := hX
  rcases st with _ | ⟨y | y, _ | ⟨x | x, st⟩⟩
  · exact nomatch (show (none : Option Rs) = some r from e)
  · exact nomatch (show (none : Option Rs) = some r from e)
  · refine lv_iand hx hb hd ?_
    exact hF.on (st' := vI (x &&& y) :: st) e (all_cons (vok_I h _) (all_tl (all_tl hs))) hw hc hz hk hn
  · exact nomatch (show (none : Option Rs) = some r from e)
  · exact nomatch (show (none : Option Rs) = some r from e)
  · exact nomatch (show (none : Option Rs) = some r from e)
  · exact nomatch (show (none : Option Rs) = some r from e)
theorem sd_ior {mi ip nx : Nat} (hd : decode (bys mi) (pcs mi ip) = .ok (.ior, 1)) (hn : pcs mi nx = pcs mi ip + 1) : Snd mi ip (a_b2 (fun x y => x ||| y) nx) := by
  intro X K d F C hX hF _ _ ls st h r e hs α H locs cells slots lsM hw hc hz hk
  obtain ⟨hx, hb, -⟩ := hX
  rcases st with _ | ⟨y | y, _ | ⟨x | x, st⟩⟩
  · exact nomatch (show (none : Option Rs) = some r from e)
  · exact nomatch (show (none : Option Rs) = some r from e)
  · refine lv_ior hx hb hd ?_
    exact hF.on (st' := vI (x ||| y) :: st) e (all_cons (vok_I h _) (all_tl (all_tl hs))) hw hc hz hk hn
  · exact nomatch (show (none : Option Rs) = some r from e)
  · exact nomatch (show (none : Option Rs) = some r from e)
  · exact nomatch (show (none : Option Rs) = some r from e)
  · exact nomatch (show (none : Option Rs) = some r from e)
theorem sd_ixor {mi ip nx : Nat} (hd : decode (bys mi) (pcs mi ip) = .ok (.ixor, 1)) (hn : pcs mi nx = pcs mi ip + 1) : Snd mi ip (a_b2 (fun x y => x ^^^ y) nx) := by
  intro X K d F C hX hF _ _ ls st h r e hs α H locs cells slots lsM hw hc hz hk
  obtain ⟨hx, hb, -⟩ := hX
  rcases st with _ | ⟨y | y, _ | ⟨x | x, st⟩⟩
  · exact nomatch (show (none : Option Rs) = some r from e)
  · exact nomatch (show (none : Option Rs) = some r from e)
  · refine lv_ixor hx hb hd ?_
    exact hF.on (st' := vI (x ^^^ y) :: st) e (all_cons (vok_I h _) (all_tl (all_tl hs))) hw hc hz hk hn
  · exact nomatch (show (none : Option Rs) = some r from e)
  · exact nomatch (show (none : Option Rs) = some r from e)
  · exact nomatch (show (none : Option Rs) = some r from e)
  · exact nomatch (show (none : Option Rs) = some r from e)
theorem sd_ishl {mi ip nx : Nat} (hd : decode (bys mi) (pcs mi ip) = .ok (.ishl, 1)) (hn : pcs mi nx = pcs mi ip + 1) : Snd mi ip (a_b2 (fun x y => x <<< (y &&& 31)) nx) := by
  intro X K d F C hX hF _ _ ls st h r e hs α H locs cells slots lsM hw hc hz hk
  obtain ⟨hx, hb, -⟩ := hX
  rcases st with _ | ⟨y | y, _ | ⟨x | x, st⟩⟩
  · exact nomatch (show (none : Option Rs) = some r from e)
  · exact nomatch (show (none : Option Rs) = some r from e)
  · refine lv_ishl hx hb hd ?_
    exact hF.on (st' := vI (x <<< (y &&& 31)) :: st) e (all_cons (vok_I h _) (all_tl (all_tl hs))) hw hc hz hk hn
  · exact nomatch (show (none : Option Rs) = some r from e)
  · exact nomatch (show (none : Option Rs) = some r from e)
  · exact nomatch (show (none : Option Rs) = some r from e)
  · exact nomatch (show (none : Option Rs) = some r from e)
theorem sd_ishr {mi ip nx : Nat} (hd : decode (bys mi) (pcs mi ip) = .ok (.ishr, 1)) (hn : pcs mi nx = pcs mi ip + 1) : Snd mi ip (a_b2 (fun x y => x >>> (y &&& 31)) nx) := by
  intro X K d F C hX hF _ _ ls st h r e hs α H locs cells slots lsM hw hc hz hk
  obtain ⟨hx, hb, -⟩ := hX
  rcases st with _ | ⟨y | y, _ | ⟨x | x, st⟩⟩
  · exact nomatch (show (none : Option Rs) = some r from e)
  · exact nomatch (show (none : Option Rs) = some r from e)
  · refine lv_ishr hx hb hd ?_
    exact hF.on (st' := vI (x >>> (y &&& 31)) :: st) e (all_cons (vok_I h _) (all_tl (all_tl hs))) hw hc hz hk hn
  · exact nomatch (show (none : Option Rs) = some r from e)
  · exact nomatch (show (none : Option Rs) = some r from e)
  · exact nomatch (show (none : Option Rs) = some r from e)
  · exact nomatch (show (none : Option Rs) = some r from e)
theorem sd_iushr {mi ip nx : Nat} (hd : decode (bys mi) (pcs mi ip) = .ok (.iushr, 1)) (hn : pcs mi nx = pcs mi ip + 1) : Snd mi ip (a_b2 (fun x y => (x.toUInt32 >>> (y.toUInt32 &&& Int32.toUInt32 31)).toInt32) nx) := by
  intro X K d F C hX hF _ _ ls st h r e hs α H locs cells slots lsM hw hc hz hk
  obtain ⟨hx, hb, -⟩ := hX
  rcases st with _ | ⟨y | y, _ | ⟨x | x, st⟩⟩
  · exact nomatch (show (none : Option Rs) = some r from e)
  · exact nomatch (show (none : Option Rs) = some r from e)
  · refine lv_iushr hx hb hd rfl ?_
    exact hF.on (st' := vI ((x.toUInt32 >>> (y.toUInt32 &&& Int32.toUInt32 31)).toInt32) :: st) e (all_cons (vok_I h _) (all_tl (all_tl hs))) hw hc hz hk hn
  · exact nomatch (show (none : Option Rs) = some r from e)
  · exact nomatch (show (none : Option Rs) = some r from e)
  · exact nomatch (show (none : Option Rs) = some r from e)
  · exact nomatch (show (none : Option Rs) = some r from e)
theorem sd_idiv {mi ip nx : Nat} (hd : decode (bys mi) (pcs mi ip) = .ok (.idiv, 1)) (hn : pcs mi nx = pcs mi ip + 1) : Snd mi ip (a_d2 (fun x y => x / y) nx) := by
  intro X K d F C hX hF _ _ ls st h r e hs α H locs cells slots lsM hw hc hz hk
  obtain ⟨hx, hb, -⟩ := hX
  rcases st with _ | ⟨y | y, _ | ⟨x | x, st⟩⟩
  · exact nomatch (show (none : Option Rs) = some r from e)
  · exact nomatch (show (none : Option Rs) = some r from e)
  · have e0 : (if y = 0 then none else F nx ls (vI (x / y) :: st) h) = some r := e
    by_cases hy : y = 0
    · rw [if_pos hy] at e0; cases e0
    · rw [if_neg hy] at e0
      refine lv_idiv hx hb hd hy ?_
      exact hF.on (st' := vI (x / y) :: st) e0 (all_cons (vok_I h _) (all_tl (all_tl hs))) hw hc hz hk hn
  · exact nomatch (show (none : Option Rs) = some r from e)
  · exact nomatch (show (none : Option Rs) = some r from e)
  · exact nomatch (show (none : Option Rs) = some r from e)
  · exact nomatch (show (none : Option Rs) = some r from e)
theorem sd_irem {mi ip nx : Nat} (hd : decode (bys mi) (pcs mi ip) = .ok (.irem, 1)) (hn : pcs mi nx = pcs mi ip + 1) : Snd mi ip (a_d2 (fun x y => x - x / y * y) nx) := by
  intro X K d F C hX hF _ _ ls st h r e hs α H locs cells slots lsM hw hc hz hk
  obtain ⟨hx, hb, -⟩ := hX
  rcases st with _ | ⟨y | y, _ | ⟨x | x, st⟩⟩
  · exact nomatch (show (none : Option Rs) = some r from e)
  · exact nomatch (show (none : Option Rs) = some r from e)
  · have e0 : (if y = 0 then none else F nx ls (vI (x - x / y * y) :: st) h) = some r := e
    by_cases hy : y = 0
    · rw [if_pos hy] at e0; cases e0
    · rw [if_neg hy] at e0
      refine lv_irem hx hb hd hy ?_
      exact hF.on (st' := vI (x - x / y * y) :: st) e0 (all_cons (vok_I h _) (all_tl (all_tl hs))) hw hc hz hk hn
  · exact nomatch (show (none : Option Rs) = some r from e)
  · exact nomatch (show (none : Option Rs) = some r from e)
  · exact nomatch (show (none : Option Rs) = some r from e)
  · exact nomatch (show (none : Option Rs) = some r from e)
theorem sd_ladd {mi ip nx : Nat} (hd : decode (bys mi) (pcs mi ip) = .ok (.ladd, 1)) (hn : pcs mi nx = pcs mi ip + 1) : Snd mi ip (a_b2l (fun x y => x + y) nx) := by
  intro X K d F C hX hF _ _ ls st h r e hs α H locs cells slots lsM hw hc hz hk
  obtain ⟨hx, hb, -⟩ := hX
  rcases st with _ | ⟨y | y | y, _ | ⟨x | x | x, st⟩⟩ <;> first
    | exact nomatch (show (none : Option Rs) = some r from e)
    | (refine lv_ladd hx hb hd ?_
       exact hF.on (st' := vL (x + y) :: st) e (all_cons (vok_L h _) (all_tl (all_tl hs))) hw hc hz hk hn)
theorem sd_lsub {mi ip nx : Nat} (hd : decode (bys mi) (pcs mi ip) = .ok (.lsub, 1)) (hn : pcs mi nx = pcs mi ip + 1) : Snd mi ip (a_b2l (fun x y => x - y) nx) := by
  intro X K d F C hX hF _ _ ls st h r e hs α H locs cells slots lsM hw hc hz hk
  obtain ⟨hx, hb, -⟩ := hX
  rcases st with _ | ⟨y | y | y, _ | ⟨x | x | x, st⟩⟩ <;> first
    | exact nomatch (show (none : Option Rs) = some r from e)
    | (refine lv_lsub hx hb hd ?_
       exact hF.on (st' := vL (x - y) :: st) e (all_cons (vok_L h _) (all_tl (all_tl hs))) hw hc hz hk hn)
theorem sd_lmul {mi ip nx : Nat} (hd : decode (bys mi) (pcs mi ip) = .ok (.lmul, 1)) (hn : pcs mi nx = pcs mi ip + 1) : Snd mi ip (a_b2l (fun x y => x * y) nx) := by
  intro X K d F C hX hF _ _ ls st h r e hs α H locs cells slots lsM hw hc hz hk
  obtain ⟨hx, hb, -⟩ := hX
  rcases st with _ | ⟨y | y | y, _ | ⟨x | x | x, st⟩⟩ <;> first
    | exact nomatch (show (none : Option Rs) = some r from e)
    | (refine lv_lmul hx hb hd ?_
       exact hF.on (st' := vL (x * y) :: st) e (all_cons (vok_L h _) (all_tl (all_tl hs))) hw hc hz hk hn)
theorem sd_land {mi ip nx : Nat} (hd : decode (bys mi) (pcs mi ip) = .ok (.land, 1)) (hn : pcs mi nx = pcs mi ip + 1) : Snd mi ip (a_b2l (fun x y => x &&& y) nx) := by
  intro X K d F C hX hF _ _ ls st h r e hs α H locs cells slots lsM hw hc hz hk
  obtain ⟨hx, hb, -⟩ := hX
  rcases st with _ | ⟨y | y | y, _ | ⟨x | x | x, st⟩⟩ <;> first
    | exact nomatch (show (none : Option Rs) = some r from e)
    | (refine lv_land hx hb hd ?_
       exact hF.on (st' := vL (x &&& y) :: st) e (all_cons (vok_L h _) (all_tl (all_tl hs))) hw hc hz hk hn)
theorem sd_lor {mi ip nx : Nat} (hd : decode (bys mi) (pcs mi ip) = .ok (.lor, 1)) (hn : pcs mi nx = pcs mi ip + 1) : Snd mi ip (a_b2l (fun x y => x ||| y) nx) := by
  intro X K d F C hX hF _ _ ls st h r e hs α H locs cells slots lsM hw hc hz hk
  obtain ⟨hx, hb, -⟩ := hX
  rcases st with _ | ⟨y | y | y, _ | ⟨x | x | x, st⟩⟩ <;> first
    | exact nomatch (show (none : Option Rs) = some r from e)
    | (refine lv_lor hx hb hd ?_
       exact hF.on (st' := vL (x ||| y) :: st) e (all_cons (vok_L h _) (all_tl (all_tl hs))) hw hc hz hk hn)
theorem sd_ldiv {mi ip nx : Nat} (hd : decode (bys mi) (pcs mi ip) = .ok (.ldiv, 1)) (hn : pcs mi nx = pcs mi ip + 1) : Snd mi ip (a_d2l (fun x y => x / y) nx) := by
  intro X K d F C hX hF _ _ ls st h r e hs α H locs cells slots lsM hw hc hz hk
  obtain ⟨hx, hb, -⟩ := hX
  rcases st with _ | ⟨y | y | y, _ | ⟨x | x | x, st⟩⟩ <;> first
    | exact nomatch (show (none : Option Rs) = some r from e)
    | (have e0 : (if y = 0 then none else F nx ls (vL (x / y) :: st) h) = some r := e
       by_cases hy : y = 0
       · rw [if_pos hy] at e0; cases e0
       · rw [if_neg hy] at e0
         refine lv_ldiv hx hb hd hy ?_
         exact hF.on (st' := vL (x / y) :: st) e0 (all_cons (vok_L h _) (all_tl (all_tl hs))) hw hc hz hk hn)
theorem sd_lrem {mi ip nx : Nat} (hd : decode (bys mi) (pcs mi ip) = .ok (.lrem, 1)) (hn : pcs mi nx = pcs mi ip + 1) : Snd mi ip (a_d2l (fun x y => x - x / y * y) nx) := by
  intro X K d F C hX hF _ _ ls st h r e hs α H locs cells slots lsM hw hc hz hk
  obtain ⟨hx, hb, -⟩ := hX
  rcases st with _ | ⟨y | y | y, _ | ⟨x | x | x, st⟩⟩ <;> first
    | exact nomatch (show (none : Option Rs) = some r from e)
    | (have e0 : (if y = 0 then none else F nx ls (vL (x - x / y * y) :: st) h) = some r := e
       by_cases hy : y = 0
       · rw [if_pos hy] at e0; cases e0
       · rw [if_neg hy] at e0
         refine lv_lrem hx hb hd hy ?_
         exact hF.on (st' := vL (x - x / y * y) :: st) e0 (all_cons (vok_L h _) (all_tl (all_tl hs))) hw hc hz hk hn)
theorem sd_lshl {mi ip nx : Nat} (hd : decode (bys mi) (pcs mi ip) = .ok (.lshl, 1)) (hn : pcs mi nx = pcs mi ip + 1) : Snd mi ip (a_s2l (fun x y => x <<< (y.toInt64 &&& 63)) nx) := by
  intro X K d F C hX hF _ _ ls st h r e hs α H locs cells slots lsM hw hc hz hk
  obtain ⟨hx, hb, -⟩ := hX
  rcases st with _ | ⟨y | y, _ | ⟨x | x | x, st⟩⟩ <;> first
    | exact nomatch (show (none : Option Rs) = some r from e)
    | (refine lv_lshl hx hb hd rfl ?_
       exact hF.on (st' := vL (x <<< (y.toInt64 &&& 63)) :: st) e (all_cons (vok_L h _) (all_tl (all_tl hs))) hw hc hz hk hn)
theorem sd_lshr {mi ip nx : Nat} (hd : decode (bys mi) (pcs mi ip) = .ok (.lshr, 1)) (hn : pcs mi nx = pcs mi ip + 1) : Snd mi ip (a_s2l (fun x y => x >>> (y.toInt64 &&& 63)) nx) := by
  intro X K d F C hX hF _ _ ls st h r e hs α H locs cells slots lsM hw hc hz hk
  obtain ⟨hx, hb, -⟩ := hX
  rcases st with _ | ⟨y | y, _ | ⟨x | x | x, st⟩⟩ <;> first
    | exact nomatch (show (none : Option Rs) = some r from e)
    | (refine lv_lshr hx hb hd rfl ?_
       exact hF.on (st' := vL (x >>> (y.toInt64 &&& 63)) :: st) e (all_cons (vok_L h _) (all_tl (all_tl hs))) hw hc hz hk hn)
theorem sd_lcmp {mi ip nx : Nat} (hd : decode (bys mi) (pcs mi ip) = .ok (.lcmp, 1)) (hn : pcs mi nx = pcs mi ip + 1) : Snd mi ip (a_lcmp nx) := by
  intro X K d F C hX hF _ _ ls st h r e hs α H locs cells slots lsM hw hc hz hk
  obtain ⟨hx, hb, -⟩ := hX
  rcases st with _ | ⟨y | y | y, _ | ⟨x | x | x, st⟩⟩ <;> first
    | exact nomatch (show (none : Option Rs) = some r from e)
    | (refine W.lcmp hx hb hd ?_
       exact hF.on (st' := vI (lg_cmp x y) :: st) e (all_cons (vok_I h _) (all_tl (all_tl hs))) hw hc hz hk hn)
theorem sd_i2l {mi ip nx : Nat} (hd : decode (bys mi) (pcs mi ip) = .ok (.i2l, 1)) (hn : pcs mi nx = pcs mi ip + 1) : Snd mi ip (a_i2l nx) := by
  intro X K d F C hX hF _ _ ls st h r e hs α H locs cells slots lsM hw hc hz hk
  obtain ⟨hx, hb, -⟩ := hX
  rcases st with _ | ⟨x | x, st⟩ <;> first
    | exact nomatch (show (none : Option Rs) = some r from e)
    | (refine lv_i2l hx hb hd rfl ?_
       exact hF.on (st' := vL x.toInt64 :: st) e (all_cons (vok_L h _) (all_tl hs)) hw hc hz hk hn)
theorem sd_l2i {mi ip nx : Nat} (hd : decode (bys mi) (pcs mi ip) = .ok (.l2i, 1)) (hn : pcs mi nx = pcs mi ip + 1) : Snd mi ip (a_l2i nx) := by
  intro X K d F C hX hF _ _ ls st h r e hs α H locs cells slots lsM hw hc hz hk
  obtain ⟨hx, hb, -⟩ := hX
  rcases st with _ | ⟨x | x | x, st⟩ <;> first
    | exact nomatch (show (none : Option Rs) = some r from e)
    | (refine lv_l2i hx hb hd rfl ?_
       exact hF.on (st' := vI x.toInt32 :: st) e (all_cons (vok_I h _) (all_tl hs)) hw hc hz hk hn)
theorem sd_i2b {mi ip nx : Nat} (hd : decode (bys mi) (pcs mi ip) = .ok (.i2b, 1)) (hn : pcs mi nx = pcs mi ip + 1) : Snd mi ip (a_i2b nx) := by
  intro X K d F C hX hF _ _ ls st h r e hs α H locs cells slots lsM hw hc hz hk
  obtain ⟨hx, hb, -⟩ := hX
  rcases st with _ | ⟨x | x, st⟩ <;> first
    | exact nomatch (show (none : Option Rs) = some r from e)
    | (refine lv_i2b hx hb hd rfl ?_
       exact hF.on (st' := vI x.toInt8.toInt32 :: st) e (all_cons (vok_I h _) (all_tl hs)) hw hc hz hk hn)
theorem sd_dup {mi ip nx : Nat} (hd : decode (bys mi) (pcs mi ip) = .ok (.dup, 1)) (hn : pcs mi nx = pcs mi ip + 1) : Snd mi ip (a_dup nx) := by
  intro X K d F C hX hF _ _ ls st h r e hs α H locs cells slots lsM hw hc hz hk
  obtain ⟨hx, hb, -⟩ := hX
  rcases st with _ | ⟨x | x | x | x, st⟩
  · exact nomatch (show (none : Option Rs) = some r from e)
  · refine lv_dup hx hb hd rfl ?_
    exact hF.on (st' := vI x :: vI x :: st) e (all_cons (vok_I h _) hs) hw hc hz hk hn
  · exact nomatch (show (none : Option Rs) = some r from e)
  · refine lv_dup hx hb hd rfl ?_
    exact hF.on (st' := vR x :: vR x :: st) e (all_cons (all_hd hs) hs) hw hc hz hk hn
  · exact nomatch (show (none : Option Rs) = some r from e)
theorem sd_dup2 {mi ip nx : Nat} (hd : decode (bys mi) (pcs mi ip) = .ok (.dup2, 1)) (hn : pcs mi nx = pcs mi ip + 1) : Snd mi ip (a_dup2 nx) := by
  intro X K d F C hX hF _ _ ls st h r e hs α H locs cells slots lsM hw hc hz hk
  obtain ⟨hx, hb, -⟩ := hX
  rcases st with _ | ⟨y | y, _ | ⟨x | x | x | x, st⟩⟩ <;> first
    | exact nomatch (show (none : Option Rs) = some r from e)
    | (refine lv_dup2_11 hx hb hd rfl rfl ?_
       exact hF.on (st' := vI y :: vR x :: vI y :: vR x :: st) e (all_cons (vok_I h _) (all_cons (all_hd (all_tl hs)) hs)) hw hc hz hk hn)
theorem sd_pop {mi ip nx : Nat} (hd : decode (bys mi) (pcs mi ip) = .ok (.pop, 1)) (hn : pcs mi nx = pcs mi ip + 1) : Snd mi ip (a_pop nx) := by
  intro X K d F C hX hF _ _ ls st h r e hs α H locs cells slots lsM hw hc hz hk
  obtain ⟨hx, hb, -⟩ := hX
  rcases st with _ | ⟨y | y, st⟩ <;> first
    | exact nomatch (show (none : Option Rs) = some r from e)
    | (refine lv_pop hx hb hd rfl ?_
       exact hF.on (st' := st) e (all_tl hs) hw hc hz hk hn)
theorem sd_ieq {mi ip nx t : Nat} {off : Int} (hd : decode (bys mi) (pcs mi ip) = .ok (.if_icmp .eq off, 3)) (hn : pcs mi nx = pcs mi ip + 3) (ht : (pcs mi ip : Int) + off = (pcs mi t : Int)) : Snd mi ip (a_ieq nx t) := by
  intro X K d F C hX hF _ _ ls st h r e hs α H locs cells slots lsM hw hc hz hk
  obtain ⟨hx, hb, -⟩ := hX
  rcases st with _ | ⟨y | y, _ | ⟨x | x, st⟩⟩ <;> first
    | exact nomatch (show (none : Option Rs) = some r from e)
    | (have e0 : (if x = y then F t ls st h else F nx ls st h) = some r := e
       refine lv_icmp_eq hx hb hd ht (fun q => ?_) (fun q => ?_)
       · rw [if_pos q] at e0
         exact hF.on (st' := st) e0 (all_tl (all_tl hs)) hw hc hz hk rfl
       · rw [if_neg q] at e0
         exact hF.on (st' := st) e0 (all_tl (all_tl hs)) hw hc hz hk hn)
theorem sd_ine {mi ip nx t : Nat} {off : Int} (hd : decode (bys mi) (pcs mi ip) = .ok (.if_icmp .ne off, 3)) (hn : pcs mi nx = pcs mi ip + 3) (ht : (pcs mi ip : Int) + off = (pcs mi t : Int)) : Snd mi ip (a_ine nx t) := by
  intro X K d F C hX hF _ _ ls st h r e hs α H locs cells slots lsM hw hc hz hk
  obtain ⟨hx, hb, -⟩ := hX
  rcases st with _ | ⟨y | y, _ | ⟨x | x, st⟩⟩ <;> first
    | exact nomatch (show (none : Option Rs) = some r from e)
    | (have e0 : (if x = y then F nx ls st h else F t ls st h) = some r := e
       refine lv_icmp_ne hx hb hd ht (fun q => ?_) (fun q => ?_)
       · rw [if_neg q] at e0
         exact hF.on (st' := st) e0 (all_tl (all_tl hs)) hw hc hz hk rfl
       · rw [if_pos q] at e0
         exact hF.on (st' := st) e0 (all_tl (all_tl hs)) hw hc hz hk hn)
theorem sd_ilt {mi ip nx t : Nat} {off : Int} (hd : decode (bys mi) (pcs mi ip) = .ok (.if_icmp .lt off, 3)) (hn : pcs mi nx = pcs mi ip + 3) (ht : (pcs mi ip : Int) + off = (pcs mi t : Int)) : Snd mi ip (a_ilt nx t) := by
  intro X K d F C hX hF _ _ ls st h r e hs α H locs cells slots lsM hw hc hz hk
  obtain ⟨hx, hb, -⟩ := hX
  rcases st with _ | ⟨y | y, _ | ⟨x | x, st⟩⟩ <;> first
    | exact nomatch (show (none : Option Rs) = some r from e)
    | (have e0 : (if x < y then F t ls st h else F nx ls st h) = some r := e
       refine lv_icmp_lt hx hb hd ht (fun q => ?_) (fun q => ?_)
       · rw [if_pos q] at e0
         exact hF.on (st' := st) e0 (all_tl (all_tl hs)) hw hc hz hk rfl
       · rw [if_neg q] at e0
         exact hF.on (st' := st) e0 (all_tl (all_tl hs)) hw hc hz hk hn)
theorem sd_ige {mi ip nx t : Nat} {off : Int} (hd : decode (bys mi) (pcs mi ip) = .ok (.if_icmp .ge off, 3)) (hn : pcs mi nx = pcs mi ip + 3) (ht : (pcs mi ip : Int) + off = (pcs mi t : Int)) : Snd mi ip (a_ige nx t) := by
  intro X K d F C hX hF _ _ ls st h r e hs α H locs cells slots lsM hw hc hz hk
  obtain ⟨hx, hb, -⟩ := hX
  rcases st with _ | ⟨y | y, _ | ⟨x | x, st⟩⟩ <;> first
    | exact nomatch (show (none : Option Rs) = some r from e)
    | (have e0 : (if x < y then F nx ls st h else F t ls st h) = some r := e
       refine lv_icmp_ge hx hb hd ht (fun q => ?_) (fun q => ?_)
       · rw [if_neg (Int32.not_lt.mpr q)] at e0
         exact hF.on (st' := st) e0 (all_tl (all_tl hs)) hw hc hz hk rfl
       · rw [if_pos (Int32.not_le.mp q)] at e0
         exact hF.on (st' := st) e0 (all_tl (all_tl hs)) hw hc hz hk hn)
theorem sd_igt {mi ip nx t : Nat} {off : Int} (hd : decode (bys mi) (pcs mi ip) = .ok (.if_icmp .gt off, 3)) (hn : pcs mi nx = pcs mi ip + 3) (ht : (pcs mi ip : Int) + off = (pcs mi t : Int)) : Snd mi ip (a_igt nx t) := by
  intro X K d F C hX hF _ _ ls st h r e hs α H locs cells slots lsM hw hc hz hk
  obtain ⟨hx, hb, -⟩ := hX
  rcases st with _ | ⟨y | y, _ | ⟨x | x, st⟩⟩ <;> first
    | exact nomatch (show (none : Option Rs) = some r from e)
    | (have e0 : (if y < x then F t ls st h else F nx ls st h) = some r := e
       refine lv_icmp_gt hx hb hd ht (fun q => ?_) (fun q => ?_)
       · rw [if_pos q] at e0
         exact hF.on (st' := st) e0 (all_tl (all_tl hs)) hw hc hz hk rfl
       · rw [if_neg q] at e0
         exact hF.on (st' := st) e0 (all_tl (all_tl hs)) hw hc hz hk hn)
theorem sd_ile {mi ip nx t : Nat} {off : Int} (hd : decode (bys mi) (pcs mi ip) = .ok (.if_icmp .le off, 3)) (hn : pcs mi nx = pcs mi ip + 3) (ht : (pcs mi ip : Int) + off = (pcs mi t : Int)) : Snd mi ip (a_ile nx t) := by
  intro X K d F C hX hF _ _ ls st h r e hs α H locs cells slots lsM hw hc hz hk
  obtain ⟨hx, hb, -⟩ := hX
  rcases st with _ | ⟨y | y, _ | ⟨x | x, st⟩⟩ <;> first
    | exact nomatch (show (none : Option Rs) = some r from e)
    | (have e0 : (if y < x then F nx ls st h else F t ls st h) = some r := e
       refine lv_icmp_le hx hb hd ht (fun q => ?_) (fun q => ?_)
       · rw [if_neg (Int32.not_lt.mpr q)] at e0
         exact hF.on (st' := st) e0 (all_tl (all_tl hs)) hw hc hz hk rfl
       · rw [if_pos (Int32.not_le.mp q)] at e0
         exact hF.on (st' := st) e0 (all_tl (all_tl hs)) hw hc hz hk hn)
theorem sd_zeq {mi ip nx t : Nat} {off : Int} (hd : decode (bys mi) (pcs mi ip) = .ok (.ifCond .eq off, 3)) (hn : pcs mi nx = pcs mi ip + 3) (ht : (pcs mi ip : Int) + off = (pcs mi t : Int)) : Snd mi ip (a_zeq nx t) := by
  intro X K d F C hX hF _ _ ls st h r e hs α H locs cells slots lsM hw hc hz hk
  obtain ⟨hx, hb, -⟩ := hX
  rcases st with _ | ⟨x | x, st⟩ <;> first
    | exact nomatch (show (none : Option Rs) = some r from e)
    | (have e0 : (if x = 0 then F t ls st h else F nx ls st h) = some r := e
       refine lv_if_eq hx hb hd ht (fun q => ?_) (fun q => ?_)
       · rw [if_pos q] at e0
         exact hF.on (st' := st) e0 (all_tl hs) hw hc hz hk rfl
       · rw [if_neg q] at e0
         exact hF.on (st' := st) e0 (all_tl hs) hw hc hz hk hn)
theorem sd_zne {mi ip nx t : Nat} {off : Int} (hd : decode (bys mi) (pcs mi ip) = .ok (.ifCond .ne off, 3)) (hn : pcs mi nx = pcs mi ip + 3) (ht : (pcs mi ip : Int) + off = (pcs mi t : Int)) : Snd mi ip (a_zne nx t) := by
  intro X K d F C hX hF _ _ ls st h r e hs α H locs cells slots lsM hw hc hz hk
  obtain ⟨hx, hb, -⟩ := hX
  rcases st with _ | ⟨x | x, st⟩ <;> first
    | exact nomatch (show (none : Option Rs) = some r from e)
    | (have e0 : (if x = 0 then F nx ls st h else F t ls st h) = some r := e
       refine lv_if_ne hx hb hd ht (fun q => ?_) (fun q => ?_)
       · rw [if_neg q] at e0
         exact hF.on (st' := st) e0 (all_tl hs) hw hc hz hk rfl
       · rw [if_pos q] at e0
         exact hF.on (st' := st) e0 (all_tl hs) hw hc hz hk hn)
theorem sd_zlt {mi ip nx t : Nat} {off : Int} (hd : decode (bys mi) (pcs mi ip) = .ok (.ifCond .lt off, 3)) (hn : pcs mi nx = pcs mi ip + 3) (ht : (pcs mi ip : Int) + off = (pcs mi t : Int)) : Snd mi ip (a_zlt nx t) := by
  intro X K d F C hX hF _ _ ls st h r e hs α H locs cells slots lsM hw hc hz hk
  obtain ⟨hx, hb, -⟩ := hX
  rcases st with _ | ⟨x | x, st⟩ <;> first
    | exact nomatch (show (none : Option Rs) = some r from e)
    | (have e0 : (if x < 0 then F t ls st h else F nx ls st h) = some r := e
       refine lv_if_lt hx hb hd ht (fun q => ?_) (fun q => ?_)
       · rw [if_pos q] at e0
         exact hF.on (st' := st) e0 (all_tl hs) hw hc hz hk rfl
       · rw [if_neg q] at e0
         exact hF.on (st' := st) e0 (all_tl hs) hw hc hz hk hn)
theorem sd_zge {mi ip nx t : Nat} {off : Int} (hd : decode (bys mi) (pcs mi ip) = .ok (.ifCond .ge off, 3)) (hn : pcs mi nx = pcs mi ip + 3) (ht : (pcs mi ip : Int) + off = (pcs mi t : Int)) : Snd mi ip (a_zge nx t) := by
  intro X K d F C hX hF _ _ ls st h r e hs α H locs cells slots lsM hw hc hz hk
  obtain ⟨hx, hb, -⟩ := hX
  rcases st with _ | ⟨x | x, st⟩ <;> first
    | exact nomatch (show (none : Option Rs) = some r from e)
    | (have e0 : (if x < 0 then F nx ls st h else F t ls st h) = some r := e
       refine lv_if_ge hx hb hd ht (fun q => ?_) (fun q => ?_)
       · rw [if_neg (Int32.not_lt.mpr q)] at e0
         exact hF.on (st' := st) e0 (all_tl hs) hw hc hz hk rfl
       · rw [if_pos (Int32.not_le.mp q)] at e0
         exact hF.on (st' := st) e0 (all_tl hs) hw hc hz hk hn)
theorem sd_zgt {mi ip nx t : Nat} {off : Int} (hd : decode (bys mi) (pcs mi ip) = .ok (.ifCond .gt off, 3)) (hn : pcs mi nx = pcs mi ip + 3) (ht : (pcs mi ip : Int) + off = (pcs mi t : Int)) : Snd mi ip (a_zgt nx t) := by
  intro X K d F C hX hF _ _ ls st h r e hs α H locs cells slots lsM hw hc hz hk
  obtain ⟨hx, hb, -⟩ := hX
  rcases st with _ | ⟨x | x, st⟩ <;> first
    | exact nomatch (show (none : Option Rs) = some r from e)
    | (have e0 : (if 0 < x then F t ls st h else F nx ls st h) = some r := e
       refine lv_if_gt hx hb hd ht (fun q => ?_) (fun q => ?_)
       · rw [if_pos q] at e0
         exact hF.on (st' := st) e0 (all_tl hs) hw hc hz hk rfl
       · rw [if_neg q] at e0
         exact hF.on (st' := st) e0 (all_tl hs) hw hc hz hk hn)
theorem sd_zle {mi ip nx t : Nat} {off : Int} (hd : decode (bys mi) (pcs mi ip) = .ok (.ifCond .le off, 3)) (hn : pcs mi nx = pcs mi ip + 3) (ht : (pcs mi ip : Int) + off = (pcs mi t : Int)) : Snd mi ip (a_zle nx t) := by
  intro X K d F C hX hF _ _ ls st h r e hs α H locs cells slots lsM hw hc hz hk
  obtain ⟨hx, hb, -⟩ := hX
  rcases st with _ | ⟨x | x, st⟩ <;> first
    | exact nomatch (show (none : Option Rs) = some r from e)
    | (have e0 : (if 0 < x then F nx ls st h else F t ls st h) = some r := e
       refine lv_if_le hx hb hd ht (fun q => ?_) (fun q => ?_)
       · rw [if_neg (Int32.not_lt.mpr q)] at e0
         exact hF.on (st' := st) e0 (all_tl hs) hw hc hz hk rfl
       · rw [if_pos (Int32.not_le.mp q)] at e0
         exact hF.on (st' := st) e0 (all_tl hs) hw hc hz hk hn)
theorem sd_nul {mi ip nx t : Nat} {off : Int} (hd : decode (bys mi) (pcs mi ip) = .ok (.ifnull off, 3)) (hn : pcs mi nx = pcs mi ip + 3) (ht : (pcs mi ip : Int) + off = (pcs mi t : Int)) : Snd mi ip (a_nul nx t) := by
  intro X K d F C hX hF _ _ ls st h r e hs α H locs cells slots lsM hw hc hz hk
  obtain ⟨hx, hb, -⟩ := hX
  rcases st with _ | ⟨x | x | x | (x | x), st⟩
  · exact nomatch (show (none : Option Rs) = some r from e)
  · exact nomatch (show (none : Option Rs) = some r from e)
  · exact nomatch (show (none : Option Rs) = some r from e)
  · refine lv_ifnull hx hb hd ?_
    exact hF.on (st' := st) e (all_tl hs) hw hc hz hk hn
  · exact nomatch (show (none : Option Rs) = some r from e)
  · refine lv_ifnullN hx hb hd ht ?_
    exact hF.on (st' := st) e (all_tl hs) hw hc hz hk rfl
theorem sd_go {mi ip t : Nat} {off : Int} (hd : decode (bys mi) (pcs mi ip) = .ok (.goto off, 3)) (ht : (pcs mi ip : Int) + off = (pcs mi t : Int)) : Snd mi ip (a_go t) := by
  intro X K d F C hX hF _ _ ls st h r e hs α H locs cells slots lsM hw hc hz hk
  obtain ⟨hx, hb, -⟩ := hX
  refine lv_goto hx hb hd ht ?_
  exact hF.on (st' := st) e hs hw hc hz hk rfl
