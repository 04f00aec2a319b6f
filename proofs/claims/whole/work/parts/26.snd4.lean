theorem neg_clamp {x : Int32} (h : x < 0) : x.toNatClampNeg = 0 := by
  rw [Int32.lt_iff_toInt_lt, Int32.toInt_zero] at h
  show x.toInt.toNat = 0
  omega
theorem cat_map (α : Ad → Nat) : ∀ st : List Vl, ((st.map (trV α)).map fun v => v.category).sum = catS st
  | [] => rfl
  | v :: st => by
    simp only [List.map_cons, List.sum_cons, catS, trV_cat]
    rw [cat_map α st]
theorem sd_obj {mi ip nx idx : Nat} (hl1 : Cond.methodLink (own mi) idx objectInit ∈ gw) (hl2 : Cond.instanceMethod objectInit ∈ gw) (hl3 : Cond.code objectInit ⟨#[0xb1]⟩ 1 none ∈ gw) (hd : decode (bys mi) (pcs mi ip) = .ok (.invokespecial idx, 3)) (hn : pcs mi nx = pcs mi ip + 3) : Snd mi ip (a_obj nx) := by
  intro X K d F C hX0 hF hG hOC ls st h r e hs α H locs cells slots lsM hw hc hz hk
  obtain ⟨hx, hb, hml, hown, hts, hlk, hrt, hnm, hfr, hlo⟩ := hX0
  obtain ⟨hP, hD, hK, hS, hA, hI, hO⟩ := id hw.1
  rcases st with _ | ⟨y | y | a | y, st⟩ <;> first
    | exact nomatch (show (none : Option Rs) = some r from e)
    | skip
  cases hk0 : Nat.ble (catS st) 8
  · rw [a_obj, hk0] at e; cases e
  · have e0 : F nx ls st h = some r := by rw [a_obj, hk0] at e; exact e
    have hle := Nat.le_of_ble_eq_true hk0
    have hrm : 2 * (F0 (xm X) (pcs mi ip) lsM ((vR a :: st).map (trV α))).monitorRoom + ((st.map (trV α)).map fun v => v.category).sum ≤ 8 := lv_room (by rw [cat_map]; exact hle)
    refine W.objInit hx hb hown (hts _ hl1) (hts _ hl2) (hts _ hl3) rfl (by rw [hml]; exact hw.2.1.1) rfl hd (by omega) (Nat.le_trans (Nat.add_le_add_right hrm 12) (by omega)) ?_
    exact hF.on (st' := st) e0 (all_tl hs) hw hc hz hk hn
theorem sd_copy {mi ip nx idx : Nat} (hl1 : Cond.methodLink (own mi) idx arraycopyName ∈ gw) (hl2 : Cond.native arraycopyName ∈ gw) (hl3 : Cond.static arraycopyName ∈ gw) (hl4 : Cond.initialized "java/lang/System" ∈ gw) (hd : decode (bys mi) (pcs mi ip) = .ok (.invokestatic idx, 3)) (hn : pcs mi nx = pcs mi ip + 3) : Snd mi ip (a_copy nx) := by
  intro X K d F C hX0 hF hG hOC ls st h r e hs α H locs cells slots lsM hw hc hz hk
  obtain ⟨hx, hb, hml, hown, hts, hlk, hrt, hnm, hfr, hlo⟩ := hX0
  obtain ⟨hP, hD, hK, hS, hA, hI, hO⟩ := id hw.1
  rcases st with _ | ⟨n | x, _ | ⟨dp | x, _ | ⟨x | x | b | x, _ | ⟨sp | x, _ | ⟨y | y | a | y, st⟩⟩⟩⟩⟩ <;> first
    | exact nomatch (show (none : Option Rs) = some r from e)
    | skip
  cases hk0 : (Nat.beq (kd a.1).1 1 && (Nat.beq (kd b.1).1 1 && Nat.ble (catS st) 8))
  · rw [a_copy, hk0] at e; cases e
  · have e0 : (if (sp < 0 ∨ dp < 0 ∨ n < 0) ∨ ((kd a.1).2 < sp.toNatClampNeg + n.toNatClampNeg ∨ (kd b.1).2 < dp.toNatClampNeg + n.toNatClampNeg) then none else F nx ls st (stA h b (va_cpy (gI h a) (gI h b) sp.toNatClampNeg dp.toNatClampNeg n.toNatClampNeg))) = some r := by rw [a_copy, hk0] at e; exact e
    by_cases hin : (sp < 0 ∨ dp < 0 ∨ n < 0) ∨ ((kd a.1).2 < sp.toNatClampNeg + n.toNatClampNeg ∨ (kd b.1).2 < dp.toNatClampNeg + n.toNatClampNeg)
    · rw [if_pos hin] at e0; cases e0
    · rw [if_neg hin] at e0
      simp only [not_or, Nat.not_lt] at hin
      simp only [Bool.and_eq_true] at hk0
      have hka : kd a.1 = (1, (kd a.1).2) := kd_of hk0.1
      have hkb : kd b.1 = (1, (kd b.1).2) := kd_of hk0.2.1
      have hle := Nat.le_of_ble_eq_true hk0.2.2
      have ha := vok_in (all_hd (all_tl (all_tl (all_tl (all_tl hs))))) (ne9 hka (by decide))
      have hbA := vok_in (all_hd (all_tl (all_tl hs))) (ne9 hkb (by decide))
      obtain ⟨q0, hq0, hwq0⟩ := getElem_wl (cy := kY K) (α := α) ha
      obtain ⟨q1, hq1, hwq1⟩ := getElem_wl (cy := kY K) (α := α) hbA
      rw [cel_arr hka (by decide) (by decide)] at hwq0
      rw [cel_arr hkb (by decide) (by decide)] at hwq1
      have hnw : nativeFrameWords "java/lang/System" "arraycopy" 5 ≤ 7 := by decide
      refine va_copyi (D := kD K) (ty := .int) hx hb (by rw [hml]; exact hw.2.1.1.symm) hown (hts _ hl1) (hts _ hl2) (hts _ hl3) (hts _ hl4) hK hP hD hS q0 q1 0 0 hwq0 hwq1 rfl rfl rfl hin.1.1 hin.1.2.1 hin.1.2.2 hin.2.1 hin.2.2 (fun _ _ => rfl) (by omega) (by rw [cat_map]; omega) hd (fun H1 locs1 hP1 hD1 hS1 => ?_)
      have hcell : (Sum.inl (kY K 1, ((kd b.1).2, Sum.inl (va_cpy (gI h a) (gI h b) sp.toNatClampNeg dp.toNatClampNeg n.toNatClampNeg))) : va_E) = celE (kY K) α (stA h b (va_cpy (gI h a) (gI h b) sp.toNatClampNeg dp.toNatClampNeg n.toNatClampNeg)) b := by
        rw [cel_arr hkb (by decide) (by decide)]
        have : gI (stA h b (va_cpy (gI h a) (gI h b) sp.toNatClampNeg dp.toNatClampNeg n.toNatClampNeg)) b = va_cpy (gI h a) (gI h b) sp.toNatClampNeg dp.toNatClampNeg n.toNatClampNeg := by
          show (if b = b then _ else _) = _
          exact if_pos rfl
        rw [this]
      rw [hcell] at hP1 hD1
      exact hF.onW (h := h) (st' := st) e0 rfl (Gh_stA (h := h) (a := b) (g := va_cpy (gI h a) (gI h b) sp.toNatClampNeg dp.toNatClampNeg n.toNatClampNeg) (ne9 hkb (by decide))).2.1 (all_tl (all_tl (all_tl (all_tl (all_tl hs))))) hw (Wd_stA hw.1 hq1 hP1 hD1 hS1) hc hz hk hn
theorem sd_sld {mi ip nx : Nat} (hm0 : mi = 0) (hd : decode (bys mi) (pcs mi ip) = .ok (.iaload, 1)) (hn : pcs mi nx = pcs mi ip + 1) : Snd mi ip (a_sld nx) := by
  intro X K d F C hX0 hF hG hOC ls st h r e hs α H locs cells slots lsM hw hc hz hk
  obtain ⟨hx, hb, hml, hown, hts, hlk, hrt, hnm, hfr, hlo⟩ := hX0
  obtain ⟨hP, hD, hK, hS, hA, hI, hO⟩ := id hw.1
  rcases st with _ | ⟨i | i, _ | ⟨y | y | a | y, st⟩⟩ <;> first
    | exact nomatch (show (none : Option Rs) = some r from e)
    | skip
  cases hk0 : (Nat.beq a.1 98 && Nat.beq a.2 0)
  · rw [a_sld, hk0] at e; cases e
  · have e0 : (if i < 0 ∨ (gI h (98, 1) 0).toNatClampNeg ≤ i.toNatClampNeg then none else F nx ls (vI (gI h (98, 0) i.toNatClampNeg) :: st) h) = some r := by rw [a_sld, hk0] at e; exact e
    by_cases hin : i < 0 ∨ (gI h (98, 1) 0).toNatClampNeg ≤ i.toNatClampNeg
    · rw [if_pos hin] at e0; cases e0
    · rw [if_neg hin] at e0
      simp only [Bool.and_eq_true] at hk0
      have ea : a = (98, 0) := Prod.ext (Nat.eq_of_beq_eq_true hk0.1) (Nat.eq_of_beq_eq_true hk0.2)
      subst ea
      rcases (hw.2.2.2.2.2 hm0).2 with hneg | ⟨L, zs, g1, g2, g3, g4, g5, g6⟩
      · exfalso
        apply hin
        have h0 : (gI h (98, 1) 0).toNatClampNeg = 0 := neg_clamp hneg
        rw [h0]
        exact Or.inr (Nat.zero_le _)
      rw [g4, show (Int32.ofNat L).toNatClampNeg = L from nI_clamp g5] at hin
      have hiL : i.toNatClampNeg < L := by
        rw [not_or] at hin
        omega
      rw [g6 _ hiL] at e0
      refine va_sld hx hb g1 g2 g3 hS hin hd ?_
      exact hF.on (st' := vI (zs i.toNatClampNeg) :: st) e0 (all_cons (vok_I h _) (all_tl (all_tl hs))) hw hc hz hk hn
theorem sd_sln {mi ip nx : Nat} (hm0 : mi = 0) (hd : decode (bys mi) (pcs mi ip) = .ok (.arraylength, 1)) (hn : pcs mi nx = pcs mi ip + 1) : Snd mi ip (a_sln nx) := by
  intro X K d F C hX0 hF hG hOC ls st h r e hs α H locs cells slots lsM hw hc hz hk
  obtain ⟨hx, hb, hml, hown, hts, hlk, hrt, hnm, hfr, hlo⟩ := hX0
  obtain ⟨hP, hD, hK, hS, hA, hI, hO⟩ := id hw.1
  rcases st with _ | ⟨y | y | a | y, st⟩ <;> first
    | exact nomatch (show (none : Option Rs) = some r from e)
    | skip
  cases hk0 : (Nat.beq a.1 98 && Nat.beq a.2 0)
  · rw [a_sln, hk0] at e; cases e
  · have e1 : (if gI h (98, 1) 0 < 0 then none else F nx ls (vI (gI h (98, 1) 0) :: st) h) = some r := by rw [a_sln, hk0] at e; exact e
    by_cases hneg0 : gI h (98, 1) 0 < 0
    · rw [if_pos hneg0] at e1; cases e1
    have e0 : F nx ls (vI (gI h (98, 1) 0) :: st) h = some r := by rw [if_neg hneg0] at e1; exact e1
    simp only [Bool.and_eq_true] at hk0
    have ea : a = (98, 0) := Prod.ext (Nat.eq_of_beq_eq_true hk0.1) (Nat.eq_of_beq_eq_true hk0.2)
    subst ea
    rcases (hw.2.2.2.2.2 hm0).2 with hneg | ⟨L, zs, g1, g2, g3, g4, g5, g6⟩
    · exact absurd hneg hneg0
    rw [g4] at e0
    refine va_slen hx hb g1 g2 g3 hS hd ?_
    exact hF.on (st' := vI (Int32.ofNat L) :: st) e0 (all_cons (vok_I h _) (all_tl hs)) hw hc hz hk hn
theorem sd_mmax {mi ip nx idx : Nat} (hl1 : Cond.methodLink (own mi) idx Lib.Math.max.name ∈ gw) (hl2 : Cond.static Lib.Math.max.name ∈ gw) (hl3 : Cond.initialized "java/lang/Math" ∈ gw) (hl4 : Cond.code Lib.Math.max.name Lib.Math.max.code 2 (some .int) ∈ gw) (hd : decode (bys mi) (pcs mi ip) = .ok (.invokestatic idx, 3)) (hn : pcs mi nx = pcs mi ip + 3) : Snd mi ip (a_mmax nx) := by
  intro X K d F C hX0 hF hG hOC ls st h r e hs α H locs cells slots lsM hw hc hz hk
  obtain ⟨hx, hb, hml, hown, hts, hlk, hrt, hnm, hfr, hlo⟩ := hX0
  obtain ⟨hP, hD, hK, hS, hA, hI, hO⟩ := id hw.1
  rcases st with _ | ⟨y | y, _ | ⟨x | x, st⟩⟩ <;> first
    | exact nomatch (show (none : Option Rs) = some r from e)
    | skip
  cases hk0 : Nat.ble (catS st) 8
  · rw [a_mmax, hk0] at e; cases e
  · have e0 : F nx ls (vI (if x < y then y else x) :: st) h = some r := by rw [a_mmax, hk0] at e; exact e
    have hle := Nat.le_of_ble_eq_true hk0
    have hc4 := hw.2.2.2.1
    have hc5 := hw.2.2.2.2.1
    have hGr := hG _ _ _ _ _ e0
    obtain ⟨t2, ht2⟩ := hGr
    have n2 : nC r.2 = nC h + t2.length := by show (gA r.2).length = (gA h).length + _; rw [ht2, List.length_append]
    have z2 : nS r.2 = nS h + szL t2 := by show szL (gA r.2) = szL (gA h) + _; rw [ht2, szL_app]
    refine va_mmax hx hb (by rw [hml]; exact hw.2.1.1.symm) hown (hts _ hl1) (hts _ hl2) (hts _ hl3) (hts _ hl4) (by omega) (by rw [cat_map]; omega) (by omega) (by omega) hd ?_
    exact hF.on (st' := vI (if x < y then y else x) :: st) e0 (all_cons (vok_I h _) (all_tl (all_tl hs))) hw hc hz hk hn
theorem sd_mmin {mi ip nx idx : Nat} (hl1 : Cond.methodLink (own mi) idx Lib.Math.min.name ∈ gw) (hl2 : Cond.static Lib.Math.min.name ∈ gw) (hl3 : Cond.initialized "java/lang/Math" ∈ gw) (hl4 : Cond.code Lib.Math.min.name Lib.Math.min.code 2 (some .int) ∈ gw) (hd : decode (bys mi) (pcs mi ip) = .ok (.invokestatic idx, 3)) (hn : pcs mi nx = pcs mi ip + 3) : Snd mi ip (a_mmin nx) := by
  intro X K d F C hX0 hF hG hOC ls st h r e hs α H locs cells slots lsM hw hc hz hk
  obtain ⟨hx, hb, hml, hown, hts, hlk, hrt, hnm, hfr, hlo⟩ := hX0
  obtain ⟨hP, hD, hK, hS, hA, hI, hO⟩ := id hw.1
  rcases st with _ | ⟨y | y, _ | ⟨x | x, st⟩⟩ <;> first
    | exact nomatch (show (none : Option Rs) = some r from e)
    | skip
  cases hk0 : Nat.ble (catS st) 8
  · rw [a_mmin, hk0] at e; cases e
  · have e0 : F nx ls (vI (if y < x then y else x) :: st) h = some r := by rw [a_mmin, hk0] at e; exact e
    have hle := Nat.le_of_ble_eq_true hk0
    have hc4 := hw.2.2.2.1
    have hc5 := hw.2.2.2.2.1
    have hGr := hG _ _ _ _ _ e0
    obtain ⟨t2, ht2⟩ := hGr
    have n2 : nC r.2 = nC h + t2.length := by show (gA r.2).length = (gA h).length + _; rw [ht2, List.length_append]
    have z2 : nS r.2 = nS h + szL t2 := by show szL (gA r.2) = szL (gA h) + _; rw [ht2, szL_app]
    refine va_mmin hx hb (by rw [hml]; exact hw.2.1.1.symm) hown (hts _ hl1) (hts _ hl2) (hts _ hl3) (hts _ hl4) (by omega) (by rw [cat_map]; omega) (by omega) (by omega) hd ?_
    exact hF.on (st' := vI (if y < x then y else x) :: st) e0 (all_cons (vok_I h _) (all_tl (all_tl hs))) hw hc hz hk hn
/-- the table's rows: keys from lo on, and where they lead -/
def tabB (mi : Nat) (pc : Int) : Int → List Int → List (Int32 × Nat) → Bool
  | _, [], [] => true
  | lo, o :: os, (k, t) :: l => decide (k.toInt = lo) && (decide (pc + o = (pcs mi t : Int)) && tabB mi pc (lo + 1) os l)
  | _, _, _ => false
theorem sw_tab {mi : Nat} {pc dflt : Int} {x : Int32} {d : Nat} (hd : pc + dflt = (pcs mi d : Int)) : ∀ (os : List Int) (l : List (Int32 × Nat)) (lo : Int), tabB mi pc lo os l = true →
    ∃ t, (∀ (F : Kf) (ls st : List Vl) (h : Hp), swF F ls st h x d l = F t ls st h) ∧ (((x.toInt < lo ∨ lo + os.length ≤ x.toInt) ∧ t = d) ∨ (lo ≤ x.toInt ∧ x.toInt < lo + os.length ∧ ∃ o, os[(x.toInt - lo).toNat]? = some o ∧ pc + o = (pcs mi t : Int)))
  | [], [], lo, _ => ⟨d, fun _ _ _ _ => rfl, Or.inl ⟨by simp only [List.length_nil]; omega, rfl⟩⟩
  | o :: os, (k, t) :: l, lo, h => by
    simp only [tabB, Bool.and_eq_true, decide_eq_true_eq] at h
    obtain ⟨h1, h2, h3⟩ := h
    obtain ⟨t2, e2, q2⟩ := sw_tab (x := x) hd os l (lo + 1) h3
    by_cases hx : x = k
    · refine ⟨t, fun F ls st h => by simp only [swF, if_pos hx], Or.inr ?_⟩
      rw [hx, h1]
      refine ⟨Int.le_refl _, by simp only [List.length_cons]; omega, o, ?_, h2⟩
      rw [Int.sub_self]
      rfl
    · have hne : x.toInt ≠ lo := fun z => hx (Int32.toInt_inj.mp (z.trans h1.symm))
      refine ⟨t2, fun F ls st h => by simp only [swF, if_neg hx, e2], ?_⟩
      rcases q2 with ⟨z, e⟩ | ⟨z1, z2, o2, z3, z4⟩
      · refine Or.inl ⟨?_, e⟩
        simp only [List.length_cons]
        omega
      · refine Or.inr ⟨by omega, by simp only [List.length_cons]; omega, o2, ?_, z4⟩
        have : (x.toInt - lo).toNat = (x.toInt - (lo + 1)).toNat + 1 := by omega
        rw [this]
        exact z3
  | [], _ :: _, _, h => by simp [tabB] at h
  | _ :: _, [], _, h => by simp [tabB] at h
def lokB (mi : Nat) (pc : Int) : List (Int × Int) → List (Int32 × Nat) → Bool
  | [], [] => true
  | (a, o) :: os, (k, t) :: l => decide (k.toInt = a) && (decide (pc + o = (pcs mi t : Int)) && lokB mi pc os l)
  | _, _ => false
theorem sw_lok {mi : Nat} {pc dflt : Int} {x : Int32} {d : Nat} (hd : pc + dflt = (pcs mi d : Int)) : ∀ (os : List (Int × Int)) (l : List (Int32 × Nat)), lokB mi pc os l = true →
    ∃ t, (∀ (F : Kf) (ls st : List Vl) (h : Hp), swF F ls st h x d l = F t ls st h) ∧ pc + Op.lookupswitch.offset os dflt x.toInt = (pcs mi t : Int)
  | [], [], _ => ⟨d, fun _ _ _ _ => rfl, hd⟩
  | (a, o) :: os, (k, t) :: l, h => by
    simp only [lokB, Bool.and_eq_true, decide_eq_true_eq] at h
    obtain ⟨h1, h2, h3⟩ := h
    obtain ⟨t2, e2, q2⟩ := sw_lok (x := x) hd os l h3
    by_cases hx : x = k
    · refine ⟨t, fun F ls st h => by simp only [swF, if_pos hx], ?_⟩
      rw [Op.lookupswitch.offset_cons, if_pos (by rw [hx, h1])]
      exact h2
    · have hne : ¬ a = x.toInt := fun z => hx (Int32.toInt_inj.mp (z.symm.trans h1.symm))
      refine ⟨t2, fun F ls st h => by simp only [swF, if_neg hx, e2], ?_⟩
      rw [Op.lookupswitch.offset_cons, if_neg hne]
      exact q2
  | [], _ :: _, h => by simp [lokB] at h
  | _ :: _, [], h => by simp [lokB] at h
theorem sd_tab {mi ip dt len : Nat} {dflt lo hi : Int} {offs : Array Int} {l : List (Int32 × Nat)} (hd : decode (bys mi) (pcs mi ip) = .ok (.tableswitch dflt lo hi offs, len)) (hdf : (pcs mi ip : Int) + dflt = (pcs mi dt : Int)) (hh : hi = lo + offs.toList.length - 1) (ht : tabB mi (pcs mi ip) lo offs.toList l = true) : Snd mi ip (a_sw dt l) := by
  intro X K d F C hX0 hF hG hOC ls st h r e hs α H locs cells slots lsM hw hc hz hk
  obtain ⟨hx, hb, hml, hown, hts, hlk, hrt, hnm, hfr, hlo⟩ := hX0
  obtain ⟨hP, hD, hK, hS, hA, hI, hO⟩ := id hw.1
  rcases st with _ | ⟨x | x, st⟩
  · exact nomatch (show (none : Option Rs) = some r from e)
  · obtain ⟨t, e1, q⟩ := sw_tab (x := x) hdf offs.toList l lo ht
    have e0 : F t ls st h = some r := (e1 F ls st h).symm.trans e
    rcases q with ⟨z, rfl⟩ | ⟨z1, z2, o, z3, z4⟩
    · refine lv_tableOut hx hb hd (by omega) hdf ?_
      exact hF.on (st' := st) e0 (all_tl hs) hw hc hz hk rfl
    · refine lv_tableIn hx hb hd (by omega) (by omega) (off := o) (by rw [← Array.getElem?_toList]; exact z3) z4 ?_
      exact hF.on (st' := st) e0 (all_tl hs) hw hc hz hk rfl
  · exact nomatch (show (none : Option Rs) = some r from e)
theorem sd_lok {mi ip dt len : Nat} {dflt : Int} {ps : Array (Int × Int)} {l : List (Int32 × Nat)} (hd : decode (bys mi) (pcs mi ip) = .ok (.lookupswitch dflt ps, len)) (hdf : (pcs mi ip : Int) + dflt = (pcs mi dt : Int)) (hp : (ps.toList.zip (ps.toList.drop 1)).all (fun (a, next) => a.1 < next.1) = true) (ht : lokB mi (pcs mi ip) ps.toList l = true) : Snd mi ip (a_sw dt l) := by
  intro X K d F C hX0 hF hG hOC ls st h r e hs α H locs cells slots lsM hw hc hz hk
  obtain ⟨hx, hb, hml, hown, hts, hlk, hrt, hnm, hfr, hlo⟩ := hX0
  obtain ⟨hP, hD, hK, hS, hA, hI, hO⟩ := id hw.1
  rcases st with _ | ⟨x | x, st⟩
  · exact nomatch (show (none : Option Rs) = some r from e)
  · obtain ⟨t, e1, q⟩ := sw_lok (x := x) hdf ps.toList l ht
    have e0 : F t ls st h = some r := (e1 F ls st h).symm.trans e
    refine lv_lookup hx hb hd hp rfl q ?_
    exact hF.on (st' := st) e0 (all_tl hs) hw hc hz hk rfl
  · exact nomatch (show (none : Option Rs) = some r from e)
theorem Ext.rf (α : Ad → Nat) (h : Hp) : Ext α α h := fun _ _ => rfl
theorem sd_iret {mi ip : Nat} (hd : decode (bys mi) (pcs mi ip) = .ok (.ireturn, 1)) (hr0 : rt mi = some .int) : Snd mi ip a_iret := by
  intro X K d F C hX0 hF hG hOC ls st h r e hs α H locs cells slots lsM hw hc hz hk
  obtain ⟨hx, hb, hml, hown, hts, hlk, hrt, hnm, hfr, hlo⟩ := hX0
  obtain ⟨hP, hD, hK, hS, hA, hI, hO⟩ := id hw.1
  rcases st with _ | ⟨x | x, _ | ⟨y, st⟩⟩ <;> first
    | exact nomatch (show (none : Option Rs) = some r from e)
    | skip
  have e0 : some (some (vI x), h) = some r := e
  cases e0
  exact hk α H locs cells slots ip lsM (Ext.rf α h) hw.1 hw.2.2.2.1 hw.2.2.2.2.1 ⟨hd, Or.inl hr0⟩ (fun v hv => by cases hv; exact vok_I h x)
theorem sd_zret {mi ip : Nat} (hd : decode (bys mi) (pcs mi ip) = .ok (.ireturn, 1)) (hr0 : rt mi = some .boolean) : Snd mi ip a_zret := by
  intro X K d F C hX0 hF hG hOC ls st h r e hs α H locs cells slots lsM hw hc hz hk
  obtain ⟨hx, hb, hml, hown, hts, hlk, hrt, hnm, hfr, hlo⟩ := hX0
  obtain ⟨hP, hD, hK, hS, hA, hI, hO⟩ := id hw.1
  rcases st with _ | ⟨x | x, _ | ⟨y, st⟩⟩ <;> first
    | exact nomatch (show (none : Option Rs) = some r from e)
    | skip
  have e0 : (if x = 0 ∨ x = 1 then some (some (vI x), h) else none) = some r := e
  by_cases hx01 : x = 0 ∨ x = 1
  · rw [if_pos hx01] at e0
    cases e0
    exact hk α H locs cells slots ip lsM (Ext.rf α h) hw.1 hw.2.2.2.1 hw.2.2.2.2.1 ⟨hd, Or.inr ⟨hr0, hx01⟩⟩ (fun v hv => by cases hv; exact vok_I h x)
  · rw [if_neg hx01] at e0; cases e0
theorem sd_lret {mi ip : Nat} (hd : decode (bys mi) (pcs mi ip) = .ok (.lreturn, 1)) (hr0 : rt mi = some .long) : Snd mi ip a_lret := by
  intro X K d F C hX0 hF hG hOC ls st h r e hs α H locs cells slots lsM hw hc hz hk
  obtain ⟨hx, hb, hml, hown, hts, hlk, hrt, hnm, hfr, hlo⟩ := hX0
  obtain ⟨hP, hD, hK, hS, hA, hI, hO⟩ := id hw.1
  rcases st with _ | ⟨x | x | x, _ | ⟨y, st⟩⟩ <;> first
    | exact nomatch (show (none : Option Rs) = some r from e)
    | skip
  have e0 : some (some (vL x), h) = some r := e
  cases e0
  exact hk α H locs cells slots ip lsM (Ext.rf α h) hw.1 hw.2.2.2.1 hw.2.2.2.2.1 ⟨hd, hr0⟩ (fun v hv => by cases hv; exact vok_L h x)
theorem sd_aret {mi ip : Nat} (hd : decode (bys mi) (pcs mi ip) = .ok (.areturn, 1)) (hr0 : ∃ C, rt mi = some (.object C)) : Snd mi ip a_aret := by
  intro X K d F C hX0 hF hG hOC ls st h r e hs α H locs cells slots lsM hw hc hz hk
  obtain ⟨hx, hb, hml, hown, hts, hlk, hrt, hnm, hfr, hlo⟩ := hX0
  obtain ⟨hP, hD, hK, hS, hA, hI, hO⟩ := id hw.1
  rcases st with _ | ⟨x | x | x | (x | x), _ | ⟨y, st⟩⟩ <;> first
    | exact nomatch (show (none : Option Rs) = some r from e)
    | skip
  · have e0 : some (some (vR x), h) = some r := e
    cases e0
    exact hk α H locs cells slots ip lsM (Ext.rf α h) hw.1 hw.2.2.2.1 hw.2.2.2.2.1 ⟨hd, hr0⟩ (fun v hv => by cases hv; exact all_hd hs)
  · have e0 : some (some vN, h) = some r := e
    cases e0
    exact hk α H locs cells slots ip lsM (Ext.rf α h) hw.1 hw.2.2.2.1 hw.2.2.2.2.1 ⟨hd, hr0⟩ (fun v hv => by cases hv; exact vok_N h)
theorem sd_vret {mi ip : Nat} (hd : decode (bys mi) (pcs mi ip) = .ok (.return_, 1)) (hr0 : rt mi = none) : Snd mi ip a_vret := by
  intro X K d F C hX0 hF hG hOC ls st h r e hs α H locs cells slots lsM hw hc hz hk
  obtain ⟨hx, hb, hml, hown, hts, hlk, hrt, hnm, hfr, hlo⟩ := hX0
  obtain ⟨hP, hD, hK, hS, hA, hI, hO⟩ := id hw.1
  rcases st with _ | ⟨y, st⟩ <;> first
    | exact nomatch (show (none : Option Rs) = some r from e)
    | skip
  have e0 : some (none, h) = some r := e
  cases e0
  exact hk α H locs cells slots ip lsM (Ext.rf α h) hw.1 hw.2.2.2.1 hw.2.2.2.2.1 ⟨hd, hr0⟩ (fun v hv => by cases hv)
