/-! TEXTS: length and charAt of the String constants, by the library's own code -/
def y_len : MethodName := ⟨"java/lang/String", "length", "()I"⟩
abbrev b_len : ByteArray := prog_12_method_54_code
def w_len : List Cond := Cond.code y_len b_len 1 (some .int) :: gw
set_option maxRecDepth 100000 in
theorem s_code_len : Cond.code y_len b_len 1 (some .int) ∈ gw := gw_of (i := 498) (by decide +kernel)
theorem dS_len_0 : decode b_len 0 = .ok (.aload_n 0, 1) := by decide +kernel
theorem dS_len_1 : decode b_len 1 = .ok (.getfield 9, 3) := by decide +kernel
theorem dS_len_4 : decode b_len 4 = .ok (.arraylength, 1) := by decide +kernel
theorem dS_len_5 : decode b_len 5 = .ok (.aload_n 0, 1) := by decide +kernel
theorem dS_len_6 : decode b_len 6 = .ok (.invokevirtual 335, 3) := by decide +kernel
theorem dS_len_9 : decode b_len 9 = .ok (.ishr, 1) := by decide +kernel
theorem dS_len_10 : decode b_len 10 = .ok (.ireturn, 1) := by decide +kernel
def y_cod : MethodName := ⟨"java/lang/String", "coder", "()B"⟩
abbrev b_cod : ByteArray := prog_12_method_152_code
def w_cod : List Cond := Cond.code y_cod b_cod 1 (some .byte) :: gw
set_option maxRecDepth 100000 in
theorem s_code_cod : Cond.code y_cod b_cod 1 (some .byte) ∈ gw := gw_of (i := 502) (by decide +kernel)
theorem dS_cod_0 : decode b_cod 0 = .ok (.getstatic 38, 3) := by decide +kernel
theorem dS_cod_3 : decode b_cod 3 = .ok (.ifCond .eq 10, 3) := by decide +kernel
theorem dS_cod_6 : decode b_cod 6 = .ok (.aload_n 0, 1) := by decide +kernel
theorem dS_cod_7 : decode b_cod 7 = .ok (.getfield 15, 3) := by decide +kernel
theorem dS_cod_10 : decode b_cod 10 = .ok (.goto 4, 3) := by decide +kernel
theorem dS_cod_13 : decode b_cod 13 = .ok (.iconst 1, 1) := by decide +kernel
theorem dS_cod_14 : decode b_cod 14 = .ok (.ireturn, 1) := by decide +kernel
def y_cha : MethodName := ⟨"java/lang/String", "charAt", "(I)C"⟩
abbrev b_cha : ByteArray := prog_12_method_56_code
def w_cha : List Cond := Cond.code y_cha b_cha 2 (some .char) :: gw
set_option maxRecDepth 100000 in
theorem s_code_cha : Cond.code y_cha b_cha 2 (some .char) ∈ gw := gw_of (i := 508) (by decide +kernel)
theorem dS_cha_0 : decode b_cha 0 = .ok (.aload_n 0, 1) := by decide +kernel
theorem dS_cha_1 : decode b_cha 1 = .ok (.invokevirtual 492, 3) := by decide +kernel
theorem dS_cha_4 : decode b_cha 4 = .ok (.ifCond .eq 12, 3) := by decide +kernel
theorem dS_cha_7 : decode b_cha 7 = .ok (.aload_n 0, 1) := by decide +kernel
theorem dS_cha_8 : decode b_cha 8 = .ok (.getfield 9, 3) := by decide +kernel
theorem dS_cha_11 : decode b_cha 11 = .ok (.iload_n 1, 1) := by decide +kernel
theorem dS_cha_12 : decode b_cha 12 = .ok (.invokestatic 495, 3) := by decide +kernel
theorem dS_cha_15 : decode b_cha 15 = .ok (.ireturn, 1) := by decide +kernel
theorem dS_cha_16 : decode b_cha 16 = .ok (.aload_n 0, 1) := by decide +kernel
theorem dS_cha_17 : decode b_cha 17 = .ok (.getfield 9, 3) := by decide +kernel
theorem dS_cha_20 : decode b_cha 20 = .ok (.iload_n 1, 1) := by decide +kernel
theorem dS_cha_21 : decode b_cha 21 = .ok (.invokestatic 498, 3) := by decide +kernel
theorem dS_cha_24 : decode b_cha 24 = .ok (.ireturn, 1) := by decide +kernel
def y_lat : MethodName := ⟨"java/lang/String", "isLatin1", "()Z"⟩
abbrev b_lat : ByteArray := prog_12_method_154_code
def w_lat : List Cond := Cond.code y_lat b_lat 1 (some .boolean) :: gw
set_option maxRecDepth 100000 in
theorem s_code_lat : Cond.code y_lat b_lat 1 (some .boolean) ∈ gw := gw_of (i := 512) (by decide +kernel)
theorem dS_lat_0 : decode b_lat 0 = .ok (.getstatic 38, 3) := by decide +kernel
theorem dS_lat_3 : decode b_lat 3 = .ok (.ifCond .eq 14, 3) := by decide +kernel
theorem dS_lat_6 : decode b_lat 6 = .ok (.aload_n 0, 1) := by decide +kernel
theorem dS_lat_7 : decode b_lat 7 = .ok (.getfield 15, 3) := by decide +kernel
theorem dS_lat_10 : decode b_lat 10 = .ok (.ifCond .ne 7, 3) := by decide +kernel
theorem dS_lat_13 : decode b_lat 13 = .ok (.iconst 1, 1) := by decide +kernel
theorem dS_lat_14 : decode b_lat 14 = .ok (.goto 4, 3) := by decide +kernel
theorem dS_lat_17 : decode b_lat 17 = .ok (.iconst 0, 1) := by decide +kernel
theorem dS_lat_18 : decode b_lat 18 = .ok (.ireturn, 1) := by decide +kernel
def y_lch : MethodName := ⟨"java/lang/StringLatin1", "charAt", "([BI)C"⟩
abbrev b_lch : ByteArray := prog_13_method_2_code
def w_lch : List Cond := Cond.code y_lch b_lch 2 (some .char) :: gw
set_option maxRecDepth 100000 in
theorem s_code_lch : Cond.code y_lch b_lch 2 (some .char) ∈ gw := gw_of (i := 515) (by decide +kernel)
theorem dS_lch_0 : decode b_lch 0 = .ok (.iload_n 1, 1) := by decide +kernel
theorem dS_lch_1 : decode b_lch 1 = .ok (.aload_n 0, 1) := by decide +kernel
theorem dS_lch_2 : decode b_lch 2 = .ok (.arraylength, 1) := by decide +kernel
theorem dS_lch_3 : decode b_lch 3 = .ok (.invokestatic 9, 3) := by decide +kernel
theorem dS_lch_6 : decode b_lch 6 = .ok (.aload_n 0, 1) := by decide +kernel
theorem dS_lch_7 : decode b_lch 7 = .ok (.iload_n 1, 1) := by decide +kernel
theorem dS_lch_8 : decode b_lch 8 = .ok (.baload, 1) := by decide +kernel
theorem dS_lch_9 : decode b_lch 9 = .ok (.sipush 255, 3) := by decide +kernel
theorem dS_lch_12 : decode b_lch 12 = .ok (.iand, 1) := by decide +kernel
theorem dS_lch_13 : decode b_lch 13 = .ok (.i2c, 1) := by decide +kernel
theorem dS_lch_14 : decode b_lch 14 = .ok (.ireturn, 1) := by decide +kernel
def y_sci : MethodName := ⟨"java/lang/String", "checkIndex", "(II)V"⟩
abbrev b_sci : ByteArray := prog_12_method_155_code
def w_sci : List Cond := Cond.code y_sci b_sci 2 none :: gw
set_option maxRecDepth 100000 in
theorem s_code_sci : Cond.code y_sci b_sci 2 none ∈ gw := gw_of (i := 518) (by decide +kernel)
theorem dS_sci_0 : decode b_sci 0 = .ok (.iload_n 0, 1) := by decide +kernel
theorem dS_sci_1 : decode b_sci 1 = .ok (.iload_n 1, 1) := by decide +kernel
theorem dS_sci_2 : decode b_sci 2 = .ok (.getstatic 1053, 3) := by decide +kernel
theorem dS_sci_5 : decode b_sci 5 = .ok (.invokestatic 1059, 3) := by decide +kernel
theorem dS_sci_8 : decode b_sci 8 = .ok (.pop, 1) := by decide +kernel
theorem dS_sci_9 : decode b_sci 9 = .ok (.return_, 1) := by decide +kernel
def y_pci : MethodName := ⟨"jdk/internal/util/Preconditions", "checkIndex", "(IILjava/util/function/BiFunction;)I"⟩
abbrev b_pci : ByteArray := prog_17_method_11_code
def w_pci : List Cond := Cond.code y_pci b_pci 3 (some .int) :: gw
set_option maxRecDepth 100000 in
theorem s_code_pci : Cond.code y_pci b_pci 3 (some .int) ∈ gw := gw_of (i := 523) (by decide +kernel)
theorem dS_pci_0 : decode b_pci 0 = .ok (.iload_n 0, 1) := by decide +kernel
theorem dS_pci_1 : decode b_pci 1 = .ok (.ifCond .lt 8, 3) := by decide +kernel
theorem dS_pci_4 : decode b_pci 4 = .ok (.iload_n 0, 1) := by decide +kernel
theorem dS_pci_5 : decode b_pci 5 = .ok (.iload_n 1, 1) := by decide +kernel
theorem dS_pci_6 : decode b_pci 6 = .ok (.if_icmp .lt 10, 3) := by decide +kernel
theorem dS_pci_9 : decode b_pci 9 = .ok (.aload_n 2, 1) := by decide +kernel
theorem dS_pci_10 : decode b_pci 10 = .ok (.iload_n 0, 1) := by decide +kernel
theorem dS_pci_11 : decode b_pci 11 = .ok (.iload_n 1, 1) := by decide +kernel
theorem dS_pci_12 : decode b_pci 12 = .ok (.invokestatic 95, 3) := by decide +kernel
theorem dS_pci_15 : decode b_pci 15 = .ok (.athrow, 1) := by decide +kernel
theorem dS_pci_16 : decode b_pci 16 = .ok (.iload_n 0, 1) := by decide +kernel
theorem dS_pci_17 : decode b_pci 17 = .ok (.ireturn, 1) := by decide +kernel
set_option maxRecDepth 100000 in
theorem s_f9 : Cond.fieldLink "java/lang/String" 9 "java/lang/String" "value" "[B" ∈ gw := gw_of (i := 1689) (by decide +kernel)
set_option maxRecDepth 100000 in
theorem s_f15 : Cond.fieldLink "java/lang/String" 15 "java/lang/String" "coder" "B" ∈ gw := gw_of (i := 1690) (by decide +kernel)
set_option maxRecDepth 100000 in
theorem s_f38 : Cond.fieldLink "java/lang/String" 38 "java/lang/String" "COMPACT_STRINGS" "Z" ∈ gw := gw_of (i := 503) (by decide +kernel)
set_option maxRecDepth 100000 in
theorem s_f1053 : Cond.fieldLink "java/lang/String" 1053 "jdk/internal/util/Preconditions" "SIOOBE_FORMATTER" "Ljava/util/function/BiFunction;" ∈ gw := gw_of (i := 519) (by decide +kernel)
set_option maxRecDepth 100000 in
theorem s_m335 : Cond.methodLink "java/lang/String" 335 ⟨"java/lang/String", "coder", "()B"⟩ ∈ gw := gw_of (i := 499) (by decide +kernel)
set_option maxRecDepth 100000 in
theorem s_m492 : Cond.methodLink "java/lang/String" 492 ⟨"java/lang/String", "isLatin1", "()Z"⟩ ∈ gw := gw_of (i := 509) (by decide +kernel)
set_option maxRecDepth 100000 in
theorem s_m495 : Cond.methodLink "java/lang/String" 495 ⟨"java/lang/StringLatin1", "charAt", "([BI)C"⟩ ∈ gw := gw_of (i := 513) (by decide +kernel)
set_option maxRecDepth 100000 in
theorem s_m9 : Cond.methodLink "java/lang/StringLatin1" 9 ⟨"java/lang/String", "checkIndex", "(II)V"⟩ ∈ gw := gw_of (i := 516) (by decide +kernel)
set_option maxRecDepth 100000 in
theorem s_m1059 : Cond.methodLink "java/lang/String" 1059 ⟨"jdk/internal/util/Preconditions", "checkIndex", "(IILjava/util/function/BiFunction;)I"⟩ ∈ gw := gw_of (i := 521) (by decide +kernel)
set_option maxRecDepth 100000 in
theorem s_i_len : Cond.instanceMethod y_len ∈ gw := gw_of (i := 496) (by decide +kernel)
set_option maxRecDepth 100000 in
theorem s_v_len : Cond.selects "java/lang/String" y_len y_len ∈ gw := gw_of (i := 497) (by decide +kernel)
set_option maxRecDepth 100000 in
theorem s_i_cod : Cond.instanceMethod y_cod ∈ gw := gw_of (i := 500) (by decide +kernel)
set_option maxRecDepth 100000 in
theorem s_v_cod : Cond.selects "java/lang/String" y_cod y_cod ∈ gw := gw_of (i := 501) (by decide +kernel)
set_option maxRecDepth 100000 in
theorem s_i_cha : Cond.instanceMethod y_cha ∈ gw := gw_of (i := 506) (by decide +kernel)
set_option maxRecDepth 100000 in
theorem s_v_cha : Cond.selects "java/lang/String" y_cha y_cha ∈ gw := gw_of (i := 507) (by decide +kernel)
set_option maxRecDepth 100000 in
theorem s_i_lat : Cond.instanceMethod y_lat ∈ gw := gw_of (i := 510) (by decide +kernel)
set_option maxRecDepth 100000 in
theorem s_v_lat : Cond.selects "java/lang/String" y_lat y_lat ∈ gw := gw_of (i := 511) (by decide +kernel)
set_option maxRecDepth 100000 in
theorem s_t_lch : Cond.static y_lch ∈ gw := gw_of (i := 514) (by decide +kernel)
set_option maxRecDepth 100000 in
theorem s_t_sci : Cond.static y_sci ∈ gw := gw_of (i := 517) (by decide +kernel)
set_option maxRecDepth 100000 in
theorem s_t_pci : Cond.static y_pci ∈ gw := gw_of (i := 522) (by decide +kernel)
set_option maxRecDepth 100000 in
theorem s_n_st : Cond.initialized "java/lang/String" ∈ gw := gw_of (i := 119) (by decide +kernel)
set_option maxRecDepth 100000 in
theorem s_n_sl : Cond.initialized "java/lang/StringLatin1" ∈ gw := gw_of (i := 120) (by decide +kernel)
set_option maxRecDepth 100000 in
theorem s_n_pr : Cond.initialized "jdk/internal/util/Preconditions" ∈ gw := gw_of (i := 121) (by decide +kernel)
theorem ws_good {y : MethodName} {b : ByteArray} {n : Nat} {r : Option FieldType} (h : Cond.code y b n r ∈ gw) : GoodIn gw (Cond.code y b n r :: gw) := by
  intro w hw
  have hm : w ∈ gw := by
    rcases List.mem_cons.mp hw with e | e
    · rw [e]; exact h
    · exact e
  exact ⟨hm, good_of_word (List.mem_filter.mp hm).2⟩
/-- the contract of a method that changes nothing -/
def Qp (v : Option Value) : Array Value → State → Outcome → State → Prop := fun _ st oc t => oc = .returned v ∧ t.heap = st.heap
abbrev rmS (f n : Nat) : Room := { frames := f, cells := 0, slots := 0, locals := n }
abbrev N0 : Nat → Prop := fun _ => False
theorem call_p {p : Program} {l : Launch} {e : Env} {R : Room} {s : State} {m : MethodId} {args : Array Value} {below : List Frame} {meth : Method} {c : Code} {H : Heap} {locs : List Loc} {cells slots pc : Nat} {Q : State → Prop} {ls : Array Slot} {st0 rest : List Value} {v : Option Value} {a : Array Value}
    (hr : va_Run p l e R s m args below meth c H locs cells slots 0 0 (F0 m pc ls st0) rest (Qp v a) N0) (kk : W p l e R s m args below meth c H locs cells slots Q (F0 m (pc + 3) ls (v.toList ++ rest))) : W p l e R s m args below meth c H locs cells slots Q (F0 m pc ls st0) := by
  intro T hT X
  obtain ⟨v', st₀, t, T', L, h0, X', hL, e1, e2, ⟨hv, ht⟩, stp⟩ := hr T hT X
  have hv' : v' = v := by injection hv
  subst hv'
  have hL0 : L = [] := by
    cases L with
    | nil => rfl
    | cons q L => exact absurd (hL q List.mem_cons_self) id
  subst hL0
  rw [List.append_nil] at X'
  obtain ⟨t2, a1, b1⟩ := kk T' (by rw [e1, ht, h0]) X'
  exact ⟨t2, stp t2 a1, b1⟩
/-- what the library's code reads: the texts, and two statics -/
def StF (adV : Nat → Nat) (ad : Nat → Nat) (A : Nat → Prop) (U : State) (H : Heap) : Prop := vk_S 21 slenL sbytL ad adV A U H ∧ va_Z "java/lang/String" "COMPACT_STRINGS" "Z" (.int 1) A U H ∧ va_Zq "jdk/internal/util/Preconditions" "SIOOBE_FORMATTER" "Ljava/util/function/BiFunction;" A U H
theorem StF.to {adV ad : Nat → Nat} {A B : Nat → Prop} {s U : State} {H : Heap} {locs : List Loc} (h : StF adV ad A s s.heap) (hS : va_S A s.heap H locs) (hAB : ∀ q, B q → A q) (hW : s.WarmedH U.vm) : StF adV ad B U H :=
  ⟨((h.1.kept hS.2.1).narrow hAB).moved hW.alike, ((h.2.1.kept hS.2.1).narrow hAB).moved hW.alike, ((h.2.2.kept hS.2.1).narrow hAB).moved hW.alike⟩
theorem StF.same {adV ad : Nat → Nat} {A : Nat → Prop} {u U : State} {H : Heap} (hv : U.vm = u.vm) (h : StF adV ad A u H) : StF adV ad A U H := by
  have ha : u.vm.Alike U.vm := by rw [hv]; exact Vm.Alike.refl _
  exact ⟨h.1.moved ha, h.2.1.moved ha, h.2.2.moved ha⟩
def PS (adV ad : Nat → Nat) (av : List Value) : Array Value → State → Prop := va_Pc av (fun U => StF adV ad N0 U U.heap)
theorem PS_blind (adV ad : Nat → Nat) (av : List Value) : FrameBlind (PS adV ad av) := by
  intro a U g mk q
  exact ⟨q.1, StF.same (u := U) (U := U.calling g mk a) rfl q.2⟩
theorem PS_of {adV ad : Nat → Nat} {A : Nat → Prop} {s U : State} {H : Heap} {locs : List Loc} (h : StF adV ad A s s.heap) (hS : va_S A s.heap H locs) (av : List Value) (hU : U.heap = H) (hW : s.WarmedH U.vm) : PS adV ad av av.toArray U := ⟨rfl, by
  show StF adV ad N0 U U.heap
  rw [hU]
  exact h.to hS (fun _ z => absurd z id) hW⟩
set_option maxHeartbeats 4000000 in
theorem k_pciN (l : Launch) (adV ad : Nat → Nat) (i n : Int32) (h1 : ¬ i < 0) (h2 : i < n) : Met l y_pci w_pci (rmS 0 0) (PS adV ad [.int i, .int n, .null]) (Qp (some (.int i))) 0 0 N0 := by
  refine Met.ofW (cc := b_pci) (maxL := 3) (ret := (some .int)) (by decide) rfl ?_
  intro p e s m args below meth c s₁ B hml hv
  obtain ⟨rfl, hF⟩ := hv
  have hx := B.exec
  have hb := B.bytes
  have hr := B.returns
  have hts0 := atoms_spec (ws := w_pci) B.pre
  have hts : ∀ w ∈ gw, w.before [.int i, .int n, .null].toArray s = true := fun w hw => hts0 w (List.mem_cons_of_mem _ hw)
  have hown : s.vm.findClass (y_pci).cls = some m.cls := findClass_of_methodNamed B.named
  have hlocks := B.notSynchronized
  have hS : va_S N0 s.heap s.heap [] := va_S.rf
  have hl := lv_entry ([.int i, .int n, .null]) (n := 3) (Nat.le_of_ble_eq_true rfl)
  rw [lg_entry_eq]
  generalize (lg_sl ([.int i, .int n, .null]) ++ List.replicate (3 - (lg_sl ([.int i, .int n, .null])).length) Slot.unset).toArray = ls at hl ⊢
  have hl : lv_has ls 3 [(0, .int i), (1, .int n), (2, .null)] := hl
  refine lv_iload_n hx hb dS_pci_0 rfl (lv_at hl 0 rfl) ?_
  refine lv_if_lt (tgt := 9) hx hb dS_pci_1 (by decide) (fun q => absurd q h1) (fun _ => ?_)
  refine lv_iload_n hx hb dS_pci_4 rfl (lv_at hl 0 rfl) ?_
  refine lv_iload_n hx hb dS_pci_5 rfl (lv_at hl 1 rfl) ?_
  refine lv_icmp_lt (tgt := 16) hx hb dS_pci_6 (by decide) (fun _ => ?_) (fun q => absurd h2 q)
  refine lv_iload_n hx hb dS_pci_16 rfl (lv_at hl 0 rfl) ?_
  exact W.iret hx hb hr (fun t ht hW => ⟨rfl, ht⟩) (fun q hq => by cases hq) dS_pci_17
set_option maxHeartbeats 4000000 in
theorem k_pciR (l : Launch) (adV ad : Nat → Nat) (i n : Int32) (fa : Nat) (h1 : ¬ i < 0) (h2 : i < n) : Met l y_pci w_pci (rmS 0 0) (PS adV ad [.int i, .int n, (.ref fa)]) (Qp (some (.int i))) 0 0 N0 := by
  refine Met.ofW (cc := b_pci) (maxL := 3) (ret := (some .int)) (by decide) rfl ?_
  intro p e s m args below meth c s₁ B hml hv
  obtain ⟨rfl, hF⟩ := hv
  have hx := B.exec
  have hb := B.bytes
  have hr := B.returns
  have hts0 := atoms_spec (ws := w_pci) B.pre
  have hts : ∀ w ∈ gw, w.before [.int i, .int n, (.ref fa)].toArray s = true := fun w hw => hts0 w (List.mem_cons_of_mem _ hw)
  have hown : s.vm.findClass (y_pci).cls = some m.cls := findClass_of_methodNamed B.named
  have hlocks := B.notSynchronized
  have hS : va_S N0 s.heap s.heap [] := va_S.rf
  have hl := lv_entry ([.int i, .int n, (.ref fa)]) (n := 3) (Nat.le_of_ble_eq_true rfl)
  rw [lg_entry_eq]
  generalize (lg_sl ([.int i, .int n, (.ref fa)]) ++ List.replicate (3 - (lg_sl ([.int i, .int n, (.ref fa)])).length) Slot.unset).toArray = ls at hl ⊢
  have hl : lv_has ls 3 [(0, .int i), (1, .int n), (2, (.ref fa))] := hl
  refine lv_iload_n hx hb dS_pci_0 rfl (lv_at hl 0 rfl) ?_
  refine lv_if_lt (tgt := 9) hx hb dS_pci_1 (by decide) (fun q => absurd q h1) (fun _ => ?_)
  refine lv_iload_n hx hb dS_pci_4 rfl (lv_at hl 0 rfl) ?_
  refine lv_iload_n hx hb dS_pci_5 rfl (lv_at hl 1 rfl) ?_
  refine lv_icmp_lt (tgt := 16) hx hb dS_pci_6 (by decide) (fun _ => ?_) (fun q => absurd h2 q)
  refine lv_iload_n hx hb dS_pci_16 rfl (lv_at hl 0 rfl) ?_
  exact W.iret hx hb hr (fun t ht hW => ⟨rfl, ht⟩) (fun q hq => by cases hq) dS_pci_17
set_option maxHeartbeats 4000000 in
theorem k_sci (l : Launch) (adV ad : Nat → Nat) (i n : Int32) (h1 : ¬ i < 0) (h2 : i < n) : Met l y_sci w_sci (rmS 1 22) (PS adV ad [.int i, .int n]) (Qp (none)) 0 0 N0 := by
  refine Met.ofW (cc := b_sci) (maxL := 2) (ret := none) (by decide) rfl ?_
  intro p e s m args below meth c s₁ B hml hv
  obtain ⟨rfl, hF⟩ := hv
  have hx := B.exec
  have hb := B.bytes
  have hr := B.returns
  have hts0 := atoms_spec (ws := w_sci) B.pre
  have hts : ∀ w ∈ gw, w.before [.int i, .int n].toArray s = true := fun w hw => hts0 w (List.mem_cons_of_mem _ hw)
  have hown : s.vm.findClass (y_sci).cls = some m.cls := findClass_of_methodNamed B.named
  have hlocks := B.notSynchronized
  have hS : va_S N0 s.heap s.heap [] := va_S.rf
  have hl := lv_entry ([.int i, .int n]) (n := 2) (Nat.le_of_ble_eq_true rfl)
  rw [lg_entry_eq]
  generalize (lg_sl ([.int i, .int n]) ++ List.replicate (2 - (lg_sl ([.int i, .int n])).length) Slot.unset).toArray = ls at hl ⊢
  have hl : lv_has ls 2 [(0, .int i), (1, .int n)] := hl
  refine lv_iload_n hx hb dS_sci_0 rfl (lv_at hl 0 rfl) ?_
  refine lv_iload_n hx hb dS_sci_1 rfl (lv_at hl 1 rfl) ?_
  rcases hF.2.2 with hZ | ⟨fa, hZ⟩
  · refine va_gets hx hb hZ hS hown (hts _ s_f1053) (fun _ h9 => h9) dS_sci_2 ?_
    refine call_p (va_runS (n := 3) (As := [.int i, .int n, .null]) (rest := []) (own := "java/lang/String") (bytes := b_pci) (maxL := 3) (ret := (some .int)) ⟨hx, hb, hml, hown, hts⟩ (k_pciN l adV ad i n h1 h2) ⟨callB_of 3 hts (ws_good s_code_pci) rfl rfl rfl (hts _ s_n_pr) (hts _ s_m1059) (by decide +kernel) ⟨Nat.le_of_ble_eq_true rfl, Nat.le_of_ble_eq_true rfl⟩, hts _ s_t_pci⟩ ⟨PS_blind _ _ _, fun U hU hW => PS_of hF hS _ hU hW⟩ rfl rfl hl.1 rfl (lv_room (Nat.le_of_ble_eq_true rfl)) dS_sci_5 ⟨Nat.le_of_ble_eq_true rfl, Nat.le_of_ble_eq_true rfl⟩) ?_
    refine lv_pop hx hb dS_sci_8 rfl ?_
    exact W.vret hx hb hr (fun t ht hW => ⟨rfl, ht⟩) (fun q hq => by cases hq) dS_sci_9
  · refine va_gets hx hb hZ hS hown (hts _ s_f1053) (fun _ h9 => h9) dS_sci_2 ?_
    refine call_p (va_runS (n := 3) (As := [.int i, .int n, .ref fa]) (rest := []) (own := "java/lang/String") (bytes := b_pci) (maxL := 3) (ret := (some .int)) ⟨hx, hb, hml, hown, hts⟩ (k_pciR l adV ad i n fa h1 h2) ⟨callB_of 3 hts (ws_good s_code_pci) rfl rfl rfl (hts _ s_n_pr) (hts _ s_m1059) (by decide +kernel) ⟨Nat.le_of_ble_eq_true rfl, Nat.le_of_ble_eq_true rfl⟩, hts _ s_t_pci⟩ ⟨PS_blind _ _ _, fun U hU hW => PS_of hF hS _ hU hW⟩ rfl rfl hl.1 rfl (lv_room (Nat.le_of_ble_eq_true rfl)) dS_sci_5 ⟨Nat.le_of_ble_eq_true rfl, Nat.le_of_ble_eq_true rfl⟩) ?_
    refine lv_pop hx hb dS_sci_8 rfl ?_
    exact W.vret hx hb hr (fun t ht hW => ⟨rfl, ht⟩) (fun q hq => by cases hq) dS_sci_9
theorem vp_in_lt {i : Int32} {n : Nat} (hn : n < 2 ^ 31) (h : ¬ (i < 0 ∨ n ≤ i.toNatClampNeg)) : ¬ i < 0 ∧ i < Int32.ofNat n := by
  rw [not_or] at h
  refine ⟨h.1, ?_⟩
  have h0 : ¬ i.toInt < 0 := fun z => h.1 (by rw [Int32.lt_iff_toInt_lt]; exact z)
  rw [Int32.lt_iff_toInt_lt, show (Int32.ofNat n).toInt = (n : Int) from nI_toInt hn]
  have h2 := h.2
  have : i.toNatClampNeg = i.toInt.toNat := rfl
  omega
theorem txt_small : ∀ k, k < 21 → slenL.getD k 0 < 2 ^ 31 ∧ slenL.getD k 0 = (nthD txL k []).length ∧ ∀ j, j < slenL.getD k 0 → ((((sbytL.getD k []).getD j 0 &&& 255).toUInt32 % 65536).toInt32) = Int32.ofNat (nthD (nthD txL k []) j 0) ∧ narrow .char (.int (Int32.ofNat (nthD (nthD txL k []) j 0))) = .int (Int32.ofNat (nthD (nthD txL k []) j 0)) := by decide +kernel
set_option maxHeartbeats 4000000 in
theorem k_lch (l : Launch) (adV ad : Nat → Nat) (k : Nat) (hk : k < 21) (i : Int32) (hi : ¬ (i < 0 ∨ slenL.getD k 0 ≤ i.toNatClampNeg)) : Met l y_lch w_lch (rmS 2 43) (PS adV ad [.ref (adV k), .int i]) (Qp (some (.int (Int32.ofNat (nthD (nthD txL k []) i.toNatClampNeg 0))))) 0 0 N0 := by
  refine Met.ofW (cc := b_lch) (maxL := 2) (ret := (some .char)) (by decide) rfl ?_
  intro p e s m args below meth c s₁ B hml hv
  obtain ⟨rfl, hF⟩ := hv
  have hx := B.exec
  have hb := B.bytes
  have hr := B.returns
  have hts0 := atoms_spec (ws := w_lch) B.pre
  have hts : ∀ w ∈ gw, w.before [.ref (adV k), .int i].toArray s = true := fun w hw => hts0 w (List.mem_cons_of_mem _ hw)
  have hown : s.vm.findClass (y_lch).cls = some m.cls := findClass_of_methodNamed B.named
  have hlocks := B.notSynchronized
  have hS : va_S N0 s.heap s.heap [] := va_S.rf
  have hl := lv_entry ([.ref (adV k), .int i]) (n := 2) (Nat.le_of_ble_eq_true rfl)
  rw [lg_entry_eq]
  generalize (lg_sl ([.ref (adV k), .int i]) ++ List.replicate (2 - (lg_sl ([.ref (adV k), .int i])).length) Slot.unset).toArray = ls at hl ⊢
  have hl : lv_has ls 2 [(0, .ref (adV k)), (1, .int i)] := hl
  have hT := (hF.1.1 k hk).2.2.2
  obtain ⟨hn31, hnl, hch⟩ := txt_small k hk
  obtain ⟨h1, h2⟩ := vp_in_lt hn31 hi
  have hlt : i.toNatClampNeg < slenL.getD k 0 := Nat.not_le.mp fun z => hi (Or.inr z)
  refine lv_iload_n hx hb dS_lch_0 rfl (lv_at hl 1 rfl) ?_
  refine lv_aload_n hx hb dS_lch_1 rfl (lv_at hl 0 rfl) ?_
  refine va_tlen hx hb hT hS (v := Int32.ofNat (slenL.getD k 0)) rfl dS_lch_2 ?_
  refine call_p (va_runS (n := 2) (As := [.int i, .int (Int32.ofNat (slenL.getD k 0))]) (rest := []) (own := "java/lang/StringLatin1") (bytes := b_sci) (maxL := 2) (ret := none) ⟨hx, hb, hml, hown, hts⟩ (k_sci l adV ad i _ h1 h2) ⟨callB_of 2 hts (ws_good s_code_sci) rfl rfl rfl (hts _ s_n_st) (hts _ s_m9) (by decide +kernel) ⟨Nat.le_of_ble_eq_true rfl, Nat.le_of_ble_eq_true rfl⟩, hts _ s_t_sci⟩ ⟨PS_blind _ _ _, fun U hU hW => PS_of hF hS _ hU hW⟩ rfl rfl hl.1 rfl (lv_room (Nat.le_of_ble_eq_true rfl)) dS_lch_3 ⟨Nat.le_of_ble_eq_true rfl, Nat.le_of_ble_eq_true rfl⟩) ?_
  refine lv_aload_n hx hb dS_lch_6 rfl (lv_at hl 0 rfl) ?_
  refine lv_iload_n hx hb dS_lch_7 rfl (lv_at hl 1 rfl) ?_
  refine va_tb hx hb hT hS hi rfl dS_lch_8 ?_
  refine lv_sipush (v := 255) hx hb dS_lch_9 (by decide) ?_
  refine lv_iand hx hb dS_lch_12 ?_
  refine lv_i2c (v := Int32.ofNat (nthD (nthD txL k []) i.toNatClampNeg 0)) hx hb dS_lch_13 (hch _ hlt).1 ?_
  exact W.zret (ty := .char) hx hb hr (hch _ hlt).2 (fun t ht hW => ⟨rfl, ht⟩) (fun q hq => by cases hq) dS_lch_14
set_option maxHeartbeats 4000000 in
theorem k_lat (l : Launch) (adV ad : Nat → Nat) (k : Nat) (hk : k < 21) : Met l y_lat w_lat (rmS 0 0) (PS adV ad [.ref (ad k)]) (Qp (some (.int 1))) 0 0 N0 := by
  refine Met.ofW (cc := b_lat) (maxL := 1) (ret := (some .boolean)) (by decide) rfl ?_
  intro p e s m args below meth c s₁ B hml hv
  obtain ⟨rfl, hF⟩ := hv
  have hx := B.exec
  have hb := B.bytes
  have hr := B.returns
  have hts0 := atoms_spec (ws := w_lat) B.pre
  have hts : ∀ w ∈ gw, w.before [.ref (ad k)].toArray s = true := fun w hw => hts0 w (List.mem_cons_of_mem _ hw)
  have hown : s.vm.findClass (y_lat).cls = some m.cls := findClass_of_methodNamed B.named
  have hlocks := B.notSynchronized
  have hS : va_S N0 s.heap s.heap [] := va_S.rf
  have hl := lv_entry ([.ref (ad k)]) (n := 1) (Nat.le_of_ble_eq_true rfl)
  rw [lg_entry_eq]
  generalize (lg_sl ([.ref (ad k)]) ++ List.replicate (1 - (lg_sl ([.ref (ad k)])).length) Slot.unset).toArray = ls at hl ⊢
  have hl : lv_has ls 1 [(0, .ref (ad k))] := hl
  have hC := (hF.1.1 k hk).2.1
  refine va_gets hx hb hF.2.1 hS hown (hts _ s_f38) (fun _ h9 => h9) dS_lat_0 ?_
  refine lv_if_eq (tgt := 17) hx hb dS_lat_3 (by decide) (fun q => absurd q (by decide)) (fun _ => ?_)
  refine lv_aload_n hx hb dS_lat_6 rfl (lv_at hl 0 rfl) ?_
  refine vk_getf hx hb hC hS hown (hts _ s_f15) (fun _ h9 => h9) dS_lat_7 ?_
  refine lv_if_ne (tgt := 17) hx hb dS_lat_10 (by decide) (fun q => absurd rfl q) (fun _ => ?_)
  refine lv_iconst (v := 1) hx hb dS_lat_13 (by decide) ?_
  refine lv_goto (tgt := 18) hx hb dS_lat_14 (by decide) ?_
  exact W.zret (ty := .boolean) hx hb hr rfl (fun t ht hW => ⟨rfl, ht⟩) (fun q hq => by cases hq) dS_lat_18
set_option maxHeartbeats 4000000 in
theorem k_cod (l : Launch) (adV ad : Nat → Nat) (k : Nat) (hk : k < 21) : Met l y_cod w_cod (rmS 0 0) (PS adV ad [.ref (ad k)]) (Qp (some (.int 0))) 0 0 N0 := by
  refine Met.ofW (cc := b_cod) (maxL := 1) (ret := (some .byte)) (by decide) rfl ?_
  intro p e s m args below meth c s₁ B hml hv
  obtain ⟨rfl, hF⟩ := hv
  have hx := B.exec
  have hb := B.bytes
  have hr := B.returns
  have hts0 := atoms_spec (ws := w_cod) B.pre
  have hts : ∀ w ∈ gw, w.before [.ref (ad k)].toArray s = true := fun w hw => hts0 w (List.mem_cons_of_mem _ hw)
  have hown : s.vm.findClass (y_cod).cls = some m.cls := findClass_of_methodNamed B.named
  have hlocks := B.notSynchronized
  have hS : va_S N0 s.heap s.heap [] := va_S.rf
  have hl := lv_entry ([.ref (ad k)]) (n := 1) (Nat.le_of_ble_eq_true rfl)
  rw [lg_entry_eq]
  generalize (lg_sl ([.ref (ad k)]) ++ List.replicate (1 - (lg_sl ([.ref (ad k)])).length) Slot.unset).toArray = ls at hl ⊢
  have hl : lv_has ls 1 [(0, .ref (ad k))] := hl
  have hC := (hF.1.1 k hk).2.1
  refine va_gets hx hb hF.2.1 hS hown (hts _ s_f38) (fun _ h9 => h9) dS_cod_0 ?_
  refine lv_if_eq (tgt := 13) hx hb dS_cod_3 (by decide) (fun q => absurd q (by decide)) (fun _ => ?_)
  refine lv_aload_n hx hb dS_cod_6 rfl (lv_at hl 0 rfl) ?_
  refine vk_getf hx hb hC hS hown (hts _ s_f15) (fun _ h9 => h9) dS_cod_7 ?_
  refine lv_goto (tgt := 14) hx hb dS_cod_10 (by decide) ?_
  exact W.zret (ty := .byte) hx hb hr rfl (fun t ht hW => ⟨rfl, ht⟩) (fun q hq => by cases hq) dS_cod_14
theorem shr0 (x : Int32) : x >>> (0 : Int32) = x := by
  apply Int32.toBitVec_inj.mp
  simp
set_option maxHeartbeats 4000000 in
theorem k_len (l : Launch) (adV ad : Nat → Nat) (k : Nat) (hk : k < 21) : Met l y_len w_len (rmS 1 20) (PS adV ad [.ref (ad k)]) (Qp (some (.int (Int32.ofNat (nthD txL k []).length)))) 0 0 N0 := by
  refine Met.ofW (cc := b_len) (maxL := 1) (ret := (some .int)) (by decide) rfl ?_
  intro p e s m args below meth c s₁ B hml hv
  obtain ⟨rfl, hF⟩ := hv
  have hx := B.exec
  have hb := B.bytes
  have hr := B.returns
  have hts0 := atoms_spec (ws := w_len) B.pre
  have hts : ∀ w ∈ gw, w.before [.ref (ad k)].toArray s = true := fun w hw => hts0 w (List.mem_cons_of_mem _ hw)
  have hown : s.vm.findClass (y_len).cls = some m.cls := findClass_of_methodNamed B.named
  have hlocks := B.notSynchronized
  have hS : va_S N0 s.heap s.heap [] := va_S.rf
  have hl := lv_entry ([.ref (ad k)]) (n := 1) (Nat.le_of_ble_eq_true rfl)
  rw [lg_entry_eq]
  generalize (lg_sl ([.ref (ad k)]) ++ List.replicate (1 - (lg_sl ([.ref (ad k)])).length) Slot.unset).toArray = ls at hl ⊢
  have hl : lv_has ls 1 [(0, .ref (ad k))] := hl
  obtain ⟨hn31, hnl, hch⟩ := txt_small k hk
  refine lv_aload_n hx hb dS_len_0 rfl (lv_at hl 0 rfl) ?_
  refine vk_getf hx hb (hF.1.1 k hk).2.2.1 hS hown (hts _ s_f9) (fun _ h9 => h9) dS_len_1 ?_
  refine va_tlen hx hb (hF.1.1 k hk).2.2.2 hS (v := Int32.ofNat (nthD txL k []).length) (by rw [hnl]) dS_len_4 ?_
  refine lv_aload_n hx hb dS_len_5 rfl (lv_at hl 0 rfl) ?_
  refine call_p (va_runV (n := 0) (As := []) (b := ad k) (rest := [.int (Int32.ofNat (nthD txL k []).length)]) (C := "java/lang/String") (own := "java/lang/String") (bytes := b_cod) (maxL := 1) (ret := (some .byte)) ⟨hx, hb, hml, hown, hts⟩ (k_cod l adV ad k hk) ⟨callB_of 0 hts (ws_good s_code_cod) rfl rfl rfl (hts _ s_n_st) (hts _ s_m335) (by decide +kernel) ⟨Nat.le_of_ble_eq_true rfl, Nat.le_of_ble_eq_true rfl⟩, hts _ s_i_cod, hts _ s_v_cod⟩ ⟨PS_blind _ _ _, vk_recv hF.1 hk hS, fun U hU hW => PS_of hF hS _ hU hW⟩ rfl rfl hl.1 rfl (lv_room (Nat.le_of_ble_eq_true rfl)) dS_len_6 ⟨Nat.le_of_ble_eq_true rfl, Nat.le_of_ble_eq_true rfl⟩) ?_
  refine lv_ishr hx hb dS_len_9 ?_
  have hz : Int32.ofNat (nthD txL k []).length >>> ((0 : Int32) &&& 31) = Int32.ofNat (nthD txL k []).length := by
    rw [show ((0 : Int32) &&& 31) = 0 by decide]
    exact shr0 _
  rw [hz]
  exact W.iret hx hb hr (fun t ht hW => ⟨rfl, ht⟩) (fun q hq => by cases hq) dS_len_10
set_option maxHeartbeats 4000000 in
theorem k_cha (l : Launch) (adV ad : Nat → Nat) (k : Nat) (hk : k < 21) (i : Int32) (hi : ¬ (i < 0 ∨ slenL.getD k 0 ≤ i.toNatClampNeg)) : Met l y_cha w_cha (rmS 3 64) (PS adV ad [.ref (ad k), .int i]) (Qp (some (.int (Int32.ofNat (nthD (nthD txL k []) i.toNatClampNeg 0))))) 0 0 N0 := by
  refine Met.ofW (cc := b_cha) (maxL := 2) (ret := (some .char)) (by decide) rfl ?_
  intro p e s m args below meth c s₁ B hml hv
  obtain ⟨rfl, hF⟩ := hv
  have hx := B.exec
  have hb := B.bytes
  have hr := B.returns
  have hts0 := atoms_spec (ws := w_cha) B.pre
  have hts : ∀ w ∈ gw, w.before [.ref (ad k), .int i].toArray s = true := fun w hw => hts0 w (List.mem_cons_of_mem _ hw)
  have hown : s.vm.findClass (y_cha).cls = some m.cls := findClass_of_methodNamed B.named
  have hlocks := B.notSynchronized
  have hS : va_S N0 s.heap s.heap [] := va_S.rf
  have hl := lv_entry ([.ref (ad k), .int i]) (n := 2) (Nat.le_of_ble_eq_true rfl)
  rw [lg_entry_eq]
  generalize (lg_sl ([.ref (ad k), .int i]) ++ List.replicate (2 - (lg_sl ([.ref (ad k), .int i])).length) Slot.unset).toArray = ls at hl ⊢
  have hl : lv_has ls 2 [(0, .ref (ad k)), (1, .int i)] := hl
  obtain ⟨hn31, hnl, hch⟩ := txt_small k hk
  have hlt : i.toNatClampNeg < slenL.getD k 0 := Nat.not_le.mp fun z => hi (Or.inr z)
  refine lv_aload_n hx hb dS_cha_0 rfl (lv_at hl 0 rfl) ?_
  refine call_p (va_runV (n := 0) (As := []) (b := ad k) (rest := []) (C := "java/lang/String") (own := "java/lang/String") (bytes := b_lat) (maxL := 1) (ret := (some .boolean)) ⟨hx, hb, hml, hown, hts⟩ (k_lat l adV ad k hk) ⟨callB_of 0 hts (ws_good s_code_lat) rfl rfl rfl (hts _ s_n_st) (hts _ s_m492) (by decide +kernel) ⟨Nat.le_of_ble_eq_true rfl, Nat.le_of_ble_eq_true rfl⟩, hts _ s_i_lat, hts _ s_v_lat⟩ ⟨PS_blind _ _ _, vk_recv hF.1 hk hS, fun U hU hW => PS_of hF hS _ hU hW⟩ rfl rfl hl.1 rfl (lv_room (Nat.le_of_ble_eq_true rfl)) dS_cha_1 ⟨Nat.le_of_ble_eq_true rfl, Nat.le_of_ble_eq_true rfl⟩) ?_
  refine lv_if_eq (tgt := 16) hx hb dS_cha_4 (by decide) (fun q => absurd q (by decide)) (fun _ => ?_)
  refine lv_aload_n hx hb dS_cha_7 rfl (lv_at hl 0 rfl) ?_
  refine vk_getf hx hb (hF.1.1 k hk).2.2.1 hS hown (hts _ s_f9) (fun _ h9 => h9) dS_cha_8 ?_
  refine lv_iload_n hx hb dS_cha_11 rfl (lv_at hl 1 rfl) ?_
  refine call_p (va_runS (n := 2) (As := [.ref (adV k), .int i]) (rest := []) (own := "java/lang/String") (bytes := b_lch) (maxL := 2) (ret := (some .char)) ⟨hx, hb, hml, hown, hts⟩ (k_lch l adV ad k hk i hi) ⟨callB_of 2 hts (ws_good s_code_lch) rfl rfl rfl (hts _ s_n_sl) (hts _ s_m495) (by decide +kernel) ⟨Nat.le_of_ble_eq_true rfl, Nat.le_of_ble_eq_true rfl⟩, hts _ s_t_lch⟩ ⟨PS_blind _ _ _, fun U hU hW => PS_of hF hS _ hU hW⟩ rfl rfl hl.1 rfl (lv_room (Nat.le_of_ble_eq_true rfl)) dS_cha_12 ⟨Nat.le_of_ble_eq_true rfl, Nat.le_of_ble_eq_true rfl⟩) ?_
  exact W.zret (ty := .char) hx hb hr (hch _ hlt).2 (fun t ht hW => ⟨rfl, ht⟩) (fun q hq => by cases hq) dS_cha_15
theorem str_room {d n R : Nat} (h : d + 1 + 8 ≤ R) (hn : n ≤ 9) : n ≤ R := by omega
theorem str_loc {d n R : Nat} (h : 64 * (d + 1) + 300 ≤ R) (hn : n ≤ 300) : n ≤ R := by omega
theorem sd_slen {mi ip nx idx : Nat} (hl1 : Cond.methodLink (own mi) idx ⟨"java/lang/String", "length", "()I"⟩ ∈ gw) (hd : decode (bys mi) (pcs mi ip) = .ok (.invokevirtual idx, 3)) (hn : pcs mi nx = pcs mi ip + 3) : Snd mi ip (a_slen nx) := by
  intro X K d F C hX0 hF hG hOC ls st h r e hs α H locs cells slots lsM hw hc hz hk
  obtain ⟨hx, hb, hml, hown, hts, hlk, hrt, hnm, hfr, hlo⟩ := hX0
  obtain ⟨hP, hD, hK, hS, hA, hI, hO⟩ := id hw.1
  rcases st with _ | ⟨y | y | a | y, st⟩ <;> first
    | exact nomatch (show (none : Option Rs) = some r from e)
    | skip
  cases hk0 : (Nat.beq a.1 99 && Nat.ble (catS st) 8)
  · rw [a_slen, hk0] at e; cases e
  · have e0 : F nx ls (vI (Int32.ofNat (nthD txL a.2 []).length) :: st) h = some r := by rw [a_slen, hk0] at e; exact e
    simp only [Bool.and_eq_true] at hk0
    obtain ⟨a1, k⟩ := a
    have ea : a1 = 99 := Nat.eq_of_beq_eq_true hk0.1
    subst ea
    have hcat := Nat.le_of_ble_eq_true hk0.2
    have hk21 : k < 21 := by
      rcases all_hd hs (99, k) rfl with z | z
      · exact absurd (show (kd 99).1 = 9 by decide) (hI9 hw.1 z)
      · exact z.2
    have hGr := hG _ _ _ _ _ e0
    obtain ⟨t2, ht2⟩ := hGr
    have n2 : nC r.2 = nC h + t2.length := by show (gA r.2).length = (gA h).length + _; rw [ht2, List.length_append]
    have z2 : nS r.2 = nS h + szL t2 := by show szL (gA r.2) = szL (gA h) + _; rw [ht2, szL_app]
    have hc4 := hw.2.2.2.1
    have hc5 := hw.2.2.2.2.1
    have hSt : StF (kV K) (fun k => α (99, k)) (kA K) (xs X) (xs X).heap := ⟨hO.1, hO.2.2.1, hO.2.2.2.1⟩
    refine call_p (va_runV (n := 0) (As := []) (b := α (99, k)) (rest := st.map (trV α)) (C := "java/lang/String") (own := own mi) (nL := mx mi) (Ts := gw) (bytes := b_len) (maxL := 1) (ret := (some .int)) ⟨hx, hb, hml, hown, hts⟩ (k_len (xl X) (kV K) (fun k => α (99, k)) k hk21) ⟨callB_of 0 hts (ws_good s_code_len) rfl rfl rfl (hts _ s_n_st) (hts _ hl1) (by decide +kernel) ⟨str_room hfr (Nat.le_of_ble_eq_true rfl), str_loc hlo (Nat.le_of_ble_eq_true rfl)⟩, hts _ s_i_len, hts _ s_v_len⟩ ⟨PS_blind _ _ _, vk_recv hO.1 hk21 hS, fun U hU hW => PS_of hSt hS _ hU hW⟩ rfl rfl hw.2.1.1 rfl (lv_room (by rw [cat_map]; exact hcat)) hd ⟨by omega, by omega⟩) ?_
    rw [← hn]
    exact hF.on (st' := vI (Int32.ofNat (nthD txL k []).length) :: st) e0 (all_cons (vok_I h _) (all_tl hs)) hw hc hz hk rfl
theorem sd_schr {mi ip nx idx : Nat} (hl1 : Cond.methodLink (own mi) idx ⟨"java/lang/String", "charAt", "(I)C"⟩ ∈ gw) (hd : decode (bys mi) (pcs mi ip) = .ok (.invokevirtual idx, 3)) (hn : pcs mi nx = pcs mi ip + 3) : Snd mi ip (a_schr nx) := by
  intro X K d F C hX0 hF hG hOC ls st h r e hs α H locs cells slots lsM hw hc hz hk
  obtain ⟨hx, hb, hml, hown, hts, hlk, hrt, hnm, hfr, hlo⟩ := hX0
  obtain ⟨hP, hD, hK, hS, hA, hI, hO⟩ := id hw.1
  rcases st with _ | ⟨i | i, _ | ⟨y | y | a | y, st⟩⟩ <;> first
    | exact nomatch (show (none : Option Rs) = some r from e)
    | skip
  cases hk0 : (Nat.beq a.1 99 && Nat.ble (catS st) 8)
  · rw [a_schr, hk0] at e; cases e
  · have e0 : (if i < 0 ∨ (nthD txL a.2 []).length ≤ i.toNatClampNeg then none else F nx ls (vI (Int32.ofNat (nthD (nthD txL a.2 []) i.toNatClampNeg 0)) :: st) h) = some r := by rw [a_schr, hk0] at e; exact e
    by_cases hin : i < 0 ∨ (nthD txL a.2 []).length ≤ i.toNatClampNeg
    · rw [if_pos hin] at e0; cases e0
    rw [if_neg hin] at e0
    simp only [Bool.and_eq_true] at hk0
    obtain ⟨a1, k⟩ := a
    have ea : a1 = 99 := Nat.eq_of_beq_eq_true hk0.1
    subst ea
    have hcat := Nat.le_of_ble_eq_true hk0.2
    have hk21 : k < 21 := by
      rcases all_hd (all_tl hs) (99, k) rfl with z | z
      · exact absurd (show (kd 99).1 = 9 by decide) (hI9 hw.1 z)
      · exact z.2
    have hin2 : ¬ (i < 0 ∨ slenL.getD k 0 ≤ i.toNatClampNeg) := by rw [(txt_small k hk21).2.1]; exact hin
    have hGr := hG _ _ _ _ _ e0
    obtain ⟨t2, ht2⟩ := hGr
    have n2 : nC r.2 = nC h + t2.length := by show (gA r.2).length = (gA h).length + _; rw [ht2, List.length_append]
    have z2 : nS r.2 = nS h + szL t2 := by show szL (gA r.2) = szL (gA h) + _; rw [ht2, szL_app]
    have hc4 := hw.2.2.2.1
    have hc5 := hw.2.2.2.2.1
    have hSt : StF (kV K) (fun k => α (99, k)) (kA K) (xs X) (xs X).heap := ⟨hO.1, hO.2.2.1, hO.2.2.2.1⟩
    refine call_p (va_runV (n := 1) (As := [.int i]) (b := α (99, k)) (rest := st.map (trV α)) (C := "java/lang/String") (own := own mi) (nL := mx mi) (Ts := gw) (bytes := b_cha) (maxL := 2) (ret := (some .char)) ⟨hx, hb, hml, hown, hts⟩ (k_cha (xl X) (kV K) (fun k => α (99, k)) k hk21 i hin2) ⟨callB_of 1 hts (ws_good s_code_cha) rfl rfl rfl (hts _ s_n_st) (hts _ hl1) (by decide +kernel) ⟨str_room hfr (Nat.le_of_ble_eq_true rfl), str_loc hlo (Nat.le_of_ble_eq_true rfl)⟩, hts _ s_i_cha, hts _ s_v_cha⟩ ⟨PS_blind _ _ _, vk_recv hO.1 hk21 hS, fun U hU hW => PS_of hSt hS _ hU hW⟩ rfl rfl hw.2.1.1 rfl (lv_room (by rw [cat_map]; exact hcat)) hd ⟨by omega, by omega⟩) ?_
    rw [← hn]
    exact hF.on (st' := vI (Int32.ofNat (nthD (nthD txL k []) i.toNatClampNeg 0)) :: st) e0 (all_cons (vok_I h _) (all_tl (all_tl hs))) hw hc hz hk rfl
