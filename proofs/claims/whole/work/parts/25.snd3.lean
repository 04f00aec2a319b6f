theorem sd_aald {mi ip nx : Nat} (hd : decode (bys mi) (pcs mi ip) = .ok (.aaload, 1)) (hn : pcs mi nx = pcs mi ip + 1) : Snd mi ip (a_aald nx) := by
  intro X K d F C hX0 hF hG _ ls st h r e hs α H locs cells slots lsM hw hc hz hk
  obtain ⟨hx, hb, hml, hown, hts, hlk, hrt, hnm, hfr, hlo⟩ := hX0
  obtain ⟨hP, hD, hK, hS, hA, hI, hO⟩ := id hw.1
  rcases st with _ | ⟨i | i, _ | ⟨y | y | a | y, st⟩⟩ <;> first
    | exact nomatch (show (none : Option Rs) = some r from e)
    | skip
  cases hk0 : (Nat.beq (kd a.1).1 5 || Nat.beq (kd a.1).1 6)
  · rw [a_aald, hk0] at e; cases e
  · have e0 : (if i < 0 ∨ (kd a.1).2 ≤ i.toNatClampNeg then none else (match gR h a i.toNatClampNeg with
      | some b => F nx ls (vR b :: st) h
      | none => F nx ls (vN :: st) h)) = some r := by rw [a_aald, hk0] at e; exact e
    by_cases hin : i < 0 ∨ (kd a.1).2 ≤ i.toNatClampNeg
    · rw [if_pos hin] at e0; cases e0
    · rw [if_neg hin] at e0
      rcases Bool.or_eq_true_iff.mp hk0 with hk1 | hk1
      · have hkd : kd a.1 = (5, (kd a.1).2) := kd_of hk1
        have ha := vok_in (all_hd (all_tl hs)) (ne9 hkd (by decide))
        obtain ⟨q, hq, hwq⟩ := getElem_wl (cy := kY K) (α := α) ha
        rw [cel_refs hkd (by decide)] at hwq
        refine va_aldq (D := kD K) (C := "ProxyWalk$Rule") hx hb hK hP q 4 hwq rfl hin hd ?_
        rcases hr : gR h a i.toNatClampNeg with _ | b
        · rw [hr] at e0
          exact hF.on (st' := vN :: st) e0 (all_cons (vok_N h) (all_tl (all_tl hs))) hw hc hz hk hn
        · rw [hr] at e0
          exact hF.on (st' := vR b :: st) e0 (all_cons (fun z hz => by cases hz; exact Or.inl (hI.2.2.1 a ha _ b hr)) (all_tl (all_tl hs))) hw hc hz hk hn
      · have hkd : kd a.1 = (6, (kd a.1).2) := kd_of hk1
        have ha := vok_in (all_hd (all_tl hs)) (ne9 hkd (by decide))
        obtain ⟨q, hq, hwq⟩ := getElem_wl (cy := kY K) (α := α) ha
        rw [cel_refs hkd (by decide)] at hwq
        refine va_aldq (D := kD K) (C := "ProxyWalk$Scene") hx hb hK hP q 5 hwq rfl hin hd ?_
        rcases hr : gR h a i.toNatClampNeg with _ | b
        · rw [hr] at e0
          exact hF.on (st' := vN :: st) e0 (all_cons (vok_N h) (all_tl (all_tl hs))) hw hc hz hk hn
        · rw [hr] at e0
          exact hF.on (st' := vR b :: st) e0 (all_cons (fun z hz => by cases hz; exact Or.inl (hI.2.2.1 a ha _ b hr)) (all_tl (all_tl hs))) hw hc hz hk hn
theorem sd_aast {mi ip nx : Nat} (hd : decode (bys mi) (pcs mi ip) = .ok (.aastore, 1)) (hn : pcs mi nx = pcs mi ip + 1) : Snd mi ip (a_aast nx) := by
  intro X K d F C hX0 hF hG _ ls st h r e hs α H locs cells slots lsM hw hc hz hk
  obtain ⟨hx, hb, hml, hown, hts, hlk, hrt, hnm, hfr, hlo⟩ := hX0
  obtain ⟨hP, hD, hK, hS, hA, hI, hO⟩ := id hw.1
  rcases st with _ | ⟨x | x | b | x, _ | ⟨i | i, _ | ⟨y | y | a | y, st⟩⟩⟩ <;> first
    | exact nomatch (show (none : Option Rs) = some r from e)
    | skip
  cases hk0 : (((Nat.beq (kd a.1).1 5 && kdc (kd b.1) 0 2) || (Nat.beq (kd a.1).1 6 && kdc (kd b.1) 0 3)) && !(gP h).isEmpty)
  · rw [a_aast, hk0] at e; cases e
  · have e0 : (if i < 0 ∨ (kd a.1).2 ≤ i.toNatClampNeg then none else F nx ls st (stR h a i.toNatClampNeg (some b))) = some r := by rw [a_aast, hk0] at e; exact e
    by_cases hin : i < 0 ∨ (kd a.1).2 ≤ i.toNatClampNeg
    · rw [if_pos hin] at e0; cases e0
    · rw [if_neg hin] at e0
      rw [Bool.and_eq_true] at hk0
      rcases Bool.or_eq_true_iff.mp hk0.1 with hk1 | hk1
      · rw [Bool.and_eq_true] at hk1
        have hkd : kd a.1 = (5, (kd a.1).2) := kd_of hk1.1
        have hkb := kdc_eq hk1.2
        have ha := vok_in (all_hd (all_tl (all_tl hs))) (ne9 hkd (by decide))
        have hbA := vok_in (all_hd hs) (ne9 hkb (by decide))
        obtain ⟨q, hq, hwq⟩ := getElem_wl (cy := kY K) (α := α) ha
        obtain ⟨qb, hqb, hwqb⟩ := getElem_wl (cy := kY K) (α := α) hbA
        rw [cel_refs hkd (by decide)] at hwq
        rw [cel_obj hkb] at hwqb
        refine va_astq (D := kD K) (r := (RX2, TX2, nfC 2)) hx hb hK hP hD hS q 4 qb 2 hwq rfl hwqb rfl hin hd (fun H1 locs1 hP1 hD1 hS1 => ?_)
        have hcell : (Sum.inl (kY K 5, ((kd a.1).2, Sum.inr (Sum.inr (Sum.inr (Sum.inr (va_up (fun j => (gR h a j).map α) i.toNatClampNeg (some (α b)))))))) : va_E) = celE (kY K) α (stR h a i.toNatClampNeg (some b)) a := by
          rw [cel_refs hkd (by decide)]
          have : va_up (fun j => (gR h a j).map α) i.toNatClampNeg (some (α b)) = fun j => (gR (stR h a i.toNatClampNeg (some b)) a j).map α := by
            funext j
            show _ = (if a = a ∧ j = i.toNatClampNeg then some b else gR h a j).map α
            by_cases hj : j = i.toNatClampNeg
            · simp [va_up, hj]
            · simp [va_up, hj]
          rw [this]
        rw [hcell] at hP1 hD1
        exact hF.onW (h := h) (st' := st) e0 rfl (fun _ _ => rfl) (all_tl (all_tl (all_tl hs))) hw (Wd_stR hw.1 hq hbA hP1 hD1 hS1) hc hz hk hn
      · rw [Bool.and_eq_true] at hk1
        have hkd : kd a.1 = (6, (kd a.1).2) := kd_of hk1.1
        have hkb := kdc_eq hk1.2
        have ha := vok_in (all_hd (all_tl (all_tl hs))) (ne9 hkd (by decide))
        have hbA := vok_in (all_hd hs) (ne9 hkb (by decide))
        obtain ⟨q, hq, hwq⟩ := getElem_wl (cy := kY K) (α := α) ha
        obtain ⟨qb, hqb, hwqb⟩ := getElem_wl (cy := kY K) (α := α) hbA
        rw [cel_refs hkd (by decide)] at hwq
        rw [cel_obj hkb] at hwqb
        refine va_astq (D := kD K) (r := (RX3, TX3, nfC 3)) hx hb hK hP hD hS q 5 qb 3 hwq rfl hwqb rfl hin hd (fun H1 locs1 hP1 hD1 hS1 => ?_)
        have hcell : (Sum.inl (kY K 6, ((kd a.1).2, Sum.inr (Sum.inr (Sum.inr (Sum.inr (va_up (fun j => (gR h a j).map α) i.toNatClampNeg (some (α b)))))))) : va_E) = celE (kY K) α (stR h a i.toNatClampNeg (some b)) a := by
          rw [cel_refs hkd (by decide)]
          have : va_up (fun j => (gR h a j).map α) i.toNatClampNeg (some (α b)) = fun j => (gR (stR h a i.toNatClampNeg (some b)) a j).map α := by
            funext j
            show _ = (if a = a ∧ j = i.toNatClampNeg then some b else gR h a j).map α
            by_cases hj : j = i.toNatClampNeg
            · simp [va_up, hj]
            · simp [va_up, hj]
          rw [this]
        rw [hcell] at hP1 hD1
        exact hF.onW (h := h) (st' := st) e0 rfl (fun _ _ => rfl) (all_tl (all_tl (all_tl hs))) hw (Wd_stR hw.1 hq hbA hP1 hD1 hS1) hc hz hk hn
theorem cel_any {cy : Nat → ClassId} {α : Ad → Nat} {h : Hp} {a : Ad} {t n : Nat} (hk : kd a.1 = (t, n)) (h1 : 1 ≤ t) : ∃ g, celE cy α h a = .inl (cy t, (n, g)) := by
  unfold celE
  rw [hk]
  simp only
  rw [if_neg (by omega)]
  by_cases h3 : t ≤ 3
  · rw [if_pos h3]; exact ⟨_, rfl⟩
  · rw [if_neg h3]
    by_cases h4 : t = 4
    · rw [if_pos h4]; subst h4; exact ⟨_, rfl⟩
    · rw [if_neg h4]; exact ⟨_, rfl⟩
theorem tyL_at (cy : Nat → ClassId) (t : Nat) (h1 : 1 ≤ t) (h2 : t ≤ 6) : ∃ ty, (tyL cy)[t - 1]? = some (cy t, ty) := by
  match t, h1, h2 with
  | 1, _, _ => exact ⟨_, rfl⟩
  | 2, _, _ => exact ⟨_, rfl⟩
  | 3, _, _ => exact ⟨_, rfl⟩
  | 4, _, _ => exact ⟨_, rfl⟩
  | 5, _, _ => exact ⟨_, rfl⟩
  | 6, _, _ => exact ⟨_, rfl⟩
theorem sd_alen {mi ip nx : Nat} (hd : decode (bys mi) (pcs mi ip) = .ok (.arraylength, 1)) (hn : pcs mi nx = pcs mi ip + 1) : Snd mi ip (a_alen nx) := by
  intro X K d F C hX0 hF hG _ ls st h r e hs α H locs cells slots lsM hw hc hz hk
  obtain ⟨hx, hb, hml, hown, hts, hlk, hrt, hnm, hfr, hlo⟩ := hX0
  obtain ⟨hP, hD, hK, hS, hA, hI, hO⟩ := id hw.1
  rcases st with _ | ⟨y | y | a | y, st⟩ <;> first
    | exact nomatch (show (none : Option Rs) = some r from e)
    | skip
  cases hk0 : (Nat.ble 1 (kd a.1).1 && Nat.ble (kd a.1).1 6)
  · rw [a_alen, hk0] at e; cases e
  · have e0 : F nx ls (vI (Int32.ofNat (kd a.1).2) :: st) h = some r := by rw [a_alen, hk0] at e; exact e
    rw [Bool.and_eq_true] at hk0
    have h1 := Nat.le_of_ble_eq_true hk0.1
    have h6 := Nat.le_of_ble_eq_true hk0.2
    have ha := vok_in (all_hd hs) (by omega)
    obtain ⟨q, hq, hwq⟩ := getElem_wl (cy := kY K) (α := α) ha
    obtain ⟨g, hg⟩ := cel_any (cy := kY K) (α := α) (h := h) (a := a) (t := (kd a.1).1) (n := (kd a.1).2) rfl h1
    rw [hg] at hwq
    obtain ⟨ty, ht⟩ := tyL_at (kY K) (kd a.1).1 h1 h6
    refine va_alen (D := kD K) hx hb hK hP q _ hwq ht (v := Int32.ofNat (kd a.1).2) rfl hd ?_
    exact hF.on (st' := vI (Int32.ofNat (kd a.1).2) :: st) e0 (all_cons (vok_I h _) (all_tl hs)) hw hc hz hk hn
theorem szS_a {s t n : Nat} (h : kd s = (t, n)) (ht : t ≠ 0) : szS s = (kd s).2 := by
  unfold szS
  rw [if_neg]
  rw [h]
  exact ht
theorem na_room {h : Hp} {a : Ad} {pl : List Ad} {r : Rs} {cells slots C0 S0 RC RS : Nat} (hG : ∃ t, gA r.2 = gA (hpN h a pl) ++ t) (h1 : cells + C0 = nC h) (h2 : slots + S0 = nS h) (hc : nC r.2 ≤ RC + C0) (hz : nS r.2 ≤ RS + S0) : cells + 1 ≤ RC ∧ slots + szS a.1 ≤ RS := by
  obtain ⟨t, ht⟩ := hG
  have e1 : nC r.2 = nC h + 1 + t.length := by
    show (gA r.2).length = (gA h).length + 1 + t.length
    rw [ht, show gA (hpN h a pl) = gA h ++ [a] from rfl]
    simp only [List.length_append, List.length_singleton]
  have e2 : nS r.2 = nS h + szS a.1 + szL t := by
    show szL (gA r.2) = szL (gA h) + szS a.1 + szL t
    rw [ht, show gA (hpN h a pl) = gA h ++ [a] from rfl, szL_app, szL_app]
    simp only [szL]
    omega
  omega
theorem new_map {α : Ad → Nat} {h : Hp} {a : Ad} {q : Nat} {st : List Vl} (hE : Ext α (alN α a q) h) (hs : ∀ v ∈ st, vok h v) : (vR a :: st).map (trV (alN α a q)) = .ref q :: st.map (trV α) := by
  show trV (alN α a q) (vR a) :: st.map (trV (alN α a q)) = _
  congr 1
  · show Value.ref (alN α a q a) = _
    simp [alN]
  · refine List.map_congr_left fun v hv => ?_
    rcases v with x | x | x | x
    · rfl
    · rfl
    · show Value.ref _ = Value.ref _
      rw [hE x ((hs _ hv x rfl).imp id And.left)]
    · rfl
theorem sd_newa1 {mi ip nx : Nat} (hd : decode (bys mi) (pcs mi ip) = .ok (.newarray .int, 2)) (hac : Cond.arrayClass .int ∈ gw) (hn : pcs mi nx = pcs mi ip + 2) : Snd mi ip (a_newa nx 1) := by
  intro X K d F C hX0 hF hG _ ls st h r e hs α H locs cells slots lsM hw hc hz hk
  obtain ⟨hx, hb, hml, hown, hts, hlk, hrt, hnm, hfr, hlo⟩ := hX0
  obtain ⟨hP, hD, hK, hS, hA, hI, hO⟩ := id hw.1
  rcases st with _ | ⟨n | y, st⟩
  · exact nomatch (show (none : Option Rs) = some r from e)
  · rcases hp : gP h with _ | ⟨a, pl⟩
    · simp only [a_newa, hp] at e; cases e
    · cases hk0 : (Nat.beq (kd a.1).1 1 && Nat.ble (kd a.1).2 100000)
      · simp only [a_newa, hp, hk0, cond_false] at e; cases e
      · by_cases hn0 : n = Int32.ofNat (kd a.1).2
        · have e0 : F nx ls (vR a :: st) (hpN h a pl) = some r := by simp only [a_newa, hp, hk0, cond_true, if_pos hn0] at e; exact e
          rw [Bool.and_eq_true] at hk0
          have hkd : kd a.1 = (1, (kd a.1).2) := kd_of hk0.1
          have hle := Nat.le_of_ble_eq_true hk0.2
          have hmem : a ∈ gP h := by rw [hp]; exact List.mem_cons_self
          have hGh := hG _ _ _ _ _ e0
          have hcn := na_room (h := h) (a := a) (pl := pl) hGh hw.2.2.2.1 hw.2.2.2.2.1 hc hz
          have hsz : szS a.1 = (kd a.1).2 := szS_a hkd (by decide)
          have hcl : n.toNatClampNeg = (kd a.1).2 := by rw [hn0]; exact nI_clamp (by omega)
          refine va_newa (D := kD K) (atype := .int) (ty := .int) (a0 := ((kd a.1).2, .inl (gI h a))) hx hb (hts _ hac) rfl hK hP hD hS hA (fun cA => ?_) (by rw [hn0]; exact nI_pos (by omega)) hcl (Nat.le_trans (Nat.mul_le_mul_right _ hle) (by decide)) hcn.1 (by rw [← hsz]; exact hcn.2) hd (fun q cA H1 hK1 hP1 hD1 hS1 => ?_)
          · rw [vp_cell_i]
            congr 1
            funext j
            rw [(hI.2.2.2.1 a hmem j).2.1]
            rfl
          · have hcA : cA = kY K 1 := by
              have g1 := (hK1.2 6 (cA, .int) rfl).2
              have g2 := (hK.2 0 (kY K 1, .int) rfl).2
              have g3 : some cA = some (kY K 1) := Eq.trans (Eq.symm g1) g2
              exact Option.some.inj g3
            have hcell : (Sum.inl (cA, ((kd a.1).2, .inl (gI h a))) : va_E) = celE (kY K) (alN α a q) (hpN h a pl) a := by
              rw [cel_arr hkd (by decide) (by decide), hcA]
            rw [hcell] at hP1 hD1
            obtain ⟨hW', hE⟩ := Wd_new hw.1 hp (ne9 hkd (by decide)) hP1 hD1 hS1
            have hgo := hF.onN (q := q) (st' := vR a :: st) hG e0 (all_cons (fun z hz => by cases hz; exact Or.inl (List.mem_append_right _ List.mem_cons_self)) (fun v hv => fun b hb => ((all_tl hs) v hv b hb).imp (fun z => List.mem_append_left _ z) id)) hw hsz hW' hE hc hz hk hn
            rw [new_map hE (all_tl hs)] at hgo
            exact hgo
        · simp only [a_newa, hp, hk0, cond_true, if_neg hn0] at e; cases e
  · exact nomatch (show (none : Option Rs) = some r from e)
theorem sd_newa2 {mi ip nx : Nat} (hd : decode (bys mi) (pcs mi ip) = .ok (.newarray .byte, 2)) (hac : Cond.arrayClass .byte ∈ gw) (hn : pcs mi nx = pcs mi ip + 2) : Snd mi ip (a_newa nx 2) := by
  intro X K d F C hX0 hF hG _ ls st h r e hs α H locs cells slots lsM hw hc hz hk
  obtain ⟨hx, hb, hml, hown, hts, hlk, hrt, hnm, hfr, hlo⟩ := hX0
  obtain ⟨hP, hD, hK, hS, hA, hI, hO⟩ := id hw.1
  rcases st with _ | ⟨n | y, st⟩
  · exact nomatch (show (none : Option Rs) = some r from e)
  · rcases hp : gP h with _ | ⟨a, pl⟩
    · simp only [a_newa, hp] at e; cases e
    · cases hk0 : (Nat.beq (kd a.1).1 2 && Nat.ble (kd a.1).2 100000)
      · simp only [a_newa, hp, hk0, cond_false] at e; cases e
      · by_cases hn0 : n = Int32.ofNat (kd a.1).2
        · have e0 : F nx ls (vR a :: st) (hpN h a pl) = some r := by simp only [a_newa, hp, hk0, cond_true, if_pos hn0] at e; exact e
          rw [Bool.and_eq_true] at hk0
          have hkd : kd a.1 = (2, (kd a.1).2) := kd_of hk0.1
          have hle := Nat.le_of_ble_eq_true hk0.2
          have hmem : a ∈ gP h := by rw [hp]; exact List.mem_cons_self
          have hGh := hG _ _ _ _ _ e0
          have hcn := na_room (h := h) (a := a) (pl := pl) hGh hw.2.2.2.1 hw.2.2.2.2.1 hc hz
          have hsz : szS a.1 = (kd a.1).2 := szS_a hkd (by decide)
          have hcl : n.toNatClampNeg = (kd a.1).2 := by rw [hn0]; exact nI_clamp (by omega)
          refine va_newa (D := kD K) (atype := .byte) (ty := .byte) (a0 := ((kd a.1).2, .inl (gI h a))) hx hb (hts _ hac) rfl hK hP hD hS hA (fun cA => ?_) (by rw [hn0]; exact nI_pos (by omega)) hcl (Nat.le_trans (Nat.mul_le_mul_right _ hle) (by decide)) hcn.1 (by rw [← hsz]; exact hcn.2) hd (fun q cA H1 hK1 hP1 hD1 hS1 => ?_)
          · rw [vp_cell_i]
            congr 1
            funext j
            rw [(hI.2.2.2.1 a hmem j).2.1]
            rfl
          · have hcA : cA = kY K 2 := by
              have g1 := (hK1.2 6 (cA, .byte) rfl).2
              have g2 := (hK.2 1 (kY K 2, .byte) rfl).2
              have g3 : some cA = some (kY K 2) := Eq.trans (Eq.symm g1) g2
              exact Option.some.inj g3
            have hcell : (Sum.inl (cA, ((kd a.1).2, .inl (gI h a))) : va_E) = celE (kY K) (alN α a q) (hpN h a pl) a := by
              rw [cel_arr hkd (by decide) (by decide), hcA]
            rw [hcell] at hP1 hD1
            obtain ⟨hW', hE⟩ := Wd_new hw.1 hp (ne9 hkd (by decide)) hP1 hD1 hS1
            have hgo := hF.onN (q := q) (st' := vR a :: st) hG e0 (all_cons (fun z hz => by cases hz; exact Or.inl (List.mem_append_right _ List.mem_cons_self)) (fun v hv => fun b hb => ((all_tl hs) v hv b hb).imp (fun z => List.mem_append_left _ z) id)) hw hsz hW' hE hc hz hk hn
            rw [new_map hE (all_tl hs)] at hgo
            exact hgo
        · simp only [a_newa, hp, hk0, cond_true, if_neg hn0] at e; cases e
  · exact nomatch (show (none : Option Rs) = some r from e)
theorem sd_newa3 {mi ip nx : Nat} (hd : decode (bys mi) (pcs mi ip) = .ok (.newarray .boolean, 2)) (hac : Cond.arrayClass .boolean ∈ gw) (hn : pcs mi nx = pcs mi ip + 2) : Snd mi ip (a_newa nx 3) := by
  intro X K d F C hX0 hF hG _ ls st h r e hs α H locs cells slots lsM hw hc hz hk
  obtain ⟨hx, hb, hml, hown, hts, hlk, hrt, hnm, hfr, hlo⟩ := hX0
  obtain ⟨hP, hD, hK, hS, hA, hI, hO⟩ := id hw.1
  rcases st with _ | ⟨n | y, st⟩
  · exact nomatch (show (none : Option Rs) = some r from e)
  · rcases hp : gP h with _ | ⟨a, pl⟩
    · simp only [a_newa, hp] at e; cases e
    · cases hk0 : (Nat.beq (kd a.1).1 3 && Nat.ble (kd a.1).2 100000)
      · simp only [a_newa, hp, hk0, cond_false] at e; cases e
      · by_cases hn0 : n = Int32.ofNat (kd a.1).2
        · have e0 : F nx ls (vR a :: st) (hpN h a pl) = some r := by simp only [a_newa, hp, hk0, cond_true, if_pos hn0] at e; exact e
          rw [Bool.and_eq_true] at hk0
          have hkd : kd a.1 = (3, (kd a.1).2) := kd_of hk0.1
          have hle := Nat.le_of_ble_eq_true hk0.2
          have hmem : a ∈ gP h := by rw [hp]; exact List.mem_cons_self
          have hGh := hG _ _ _ _ _ e0
          have hcn := na_room (h := h) (a := a) (pl := pl) hGh hw.2.2.2.1 hw.2.2.2.2.1 hc hz
          have hsz : szS a.1 = (kd a.1).2 := szS_a hkd (by decide)
          have hcl : n.toNatClampNeg = (kd a.1).2 := by rw [hn0]; exact nI_clamp (by omega)
          refine va_newa (D := kD K) (atype := .boolean) (ty := .boolean) (a0 := ((kd a.1).2, .inl (gI h a))) hx hb (hts _ hac) rfl hK hP hD hS hA (fun cA => ?_) (by rw [hn0]; exact nI_pos (by omega)) hcl (Nat.le_trans (Nat.mul_le_mul_right _ hle) (by decide)) hcn.1 (by rw [← hsz]; exact hcn.2) hd (fun q cA H1 hK1 hP1 hD1 hS1 => ?_)
          · rw [vp_cell_i]
            congr 1
            funext j
            rw [(hI.2.2.2.1 a hmem j).2.1]
            rfl
          · have hcA : cA = kY K 3 := by
              have g1 := (hK1.2 6 (cA, .boolean) rfl).2
              have g2 := (hK.2 2 (kY K 3, .boolean) rfl).2
              have g3 : some cA = some (kY K 3) := Eq.trans (Eq.symm g1) g2
              exact Option.some.inj g3
            have hcell : (Sum.inl (cA, ((kd a.1).2, .inl (gI h a))) : va_E) = celE (kY K) (alN α a q) (hpN h a pl) a := by
              rw [cel_arr hkd (by decide) (by decide), hcA]
            rw [hcell] at hP1 hD1
            obtain ⟨hW', hE⟩ := Wd_new hw.1 hp (ne9 hkd (by decide)) hP1 hD1 hS1
            have hgo := hF.onN (q := q) (st' := vR a :: st) hG e0 (all_cons (fun z hz => by cases hz; exact Or.inl (List.mem_append_right _ List.mem_cons_self)) (fun v hv => fun b hb => ((all_tl hs) v hv b hb).imp (fun z => List.mem_append_left _ z) id)) hw hsz hW' hE hc hz hk hn
            rw [new_map hE (all_tl hs)] at hgo
            exact hgo
        · simp only [a_newa, hp, hk0, cond_true, if_neg hn0] at e; cases e
  · exact nomatch (show (none : Option Rs) = some r from e)
theorem sd_newa4 {mi ip nx : Nat} (hd : decode (bys mi) (pcs mi ip) = .ok (.newarray .long, 2)) (hac : Cond.arrayClass .long ∈ gw) (hn : pcs mi nx = pcs mi ip + 2) : Snd mi ip (a_newa nx 4) := by
  intro X K d F C hX0 hF hG _ ls st h r e hs α H locs cells slots lsM hw hc hz hk
  obtain ⟨hx, hb, hml, hown, hts, hlk, hrt, hnm, hfr, hlo⟩ := hX0
  obtain ⟨hP, hD, hK, hS, hA, hI, hO⟩ := id hw.1
  rcases st with _ | ⟨n | y, st⟩
  · exact nomatch (show (none : Option Rs) = some r from e)
  · rcases hp : gP h with _ | ⟨a, pl⟩
    · simp only [a_newa, hp] at e; cases e
    · cases hk0 : (Nat.beq (kd a.1).1 4 && Nat.ble (kd a.1).2 100000)
      · simp only [a_newa, hp, hk0, cond_false] at e; cases e
      · by_cases hn0 : n = Int32.ofNat (kd a.1).2
        · have e0 : F nx ls (vR a :: st) (hpN h a pl) = some r := by simp only [a_newa, hp, hk0, cond_true, if_pos hn0] at e; exact e
          rw [Bool.and_eq_true] at hk0
          have hkd : kd a.1 = (4, (kd a.1).2) := kd_of hk0.1
          have hle := Nat.le_of_ble_eq_true hk0.2
          have hmem : a ∈ gP h := by rw [hp]; exact List.mem_cons_self
          have hGh := hG _ _ _ _ _ e0
          have hcn := na_room (h := h) (a := a) (pl := pl) hGh hw.2.2.2.1 hw.2.2.2.2.1 hc hz
          have hsz : szS a.1 = (kd a.1).2 := szS_a hkd (by decide)
          have hcl : n.toNatClampNeg = (kd a.1).2 := by rw [hn0]; exact nI_clamp (by omega)
          refine va_newa (D := kD K) (atype := .long) (ty := .long) (a0 := ((kd a.1).2, .inr (.inl (gJ h a)))) hx hb (hts _ hac) rfl hK hP hD hS hA (fun cA => ?_) (by rw [hn0]; exact nI_pos (by omega)) hcl (Nat.le_trans (Nat.mul_le_mul_right _ hle) (by decide)) hcn.1 (by rw [← hsz]; exact hcn.2) hd (fun q cA H1 hK1 hP1 hD1 hS1 => ?_)
          · rw [vp_cell_l]
            congr 1
            funext j
            rw [(hI.2.2.2.1 a hmem j).2.2]
            rfl
          · have hcA : cA = kY K 4 := by
              have g1 := (hK1.2 6 (cA, .long) rfl).2
              have g2 := (hK.2 3 (kY K 4, .long) rfl).2
              have g3 : some cA = some (kY K 4) := Eq.trans (Eq.symm g1) g2
              exact Option.some.inj g3
            have hcell : (Sum.inl (cA, ((kd a.1).2, .inr (.inl (gJ h a)))) : va_E) = celE (kY K) (alN α a q) (hpN h a pl) a := by
              rw [cel_long hkd, hcA]
            rw [hcell] at hP1 hD1
            obtain ⟨hW', hE⟩ := Wd_new hw.1 hp (ne9 hkd (by decide)) hP1 hD1 hS1
            have hgo := hF.onN (q := q) (st' := vR a :: st) hG e0 (all_cons (fun z hz => by cases hz; exact Or.inl (List.mem_append_right _ List.mem_cons_self)) (fun v hv => fun b hb => ((all_tl hs) v hv b hb).imp (fun z => List.mem_append_left _ z) id)) hw hsz hW' hE hc hz hk hn
            rw [new_map hE (all_tl hs)] at hgo
            exact hgo
        · simp only [a_newa, hp, hk0, cond_true, if_neg hn0] at e; cases e
  · exact nomatch (show (none : Option Rs) = some r from e)
theorem sd_newa5 {mi ip nx idx : Nat} (hd : decode (bys mi) (pcs mi ip) = .ok (.anewarray idx, 3)) (hcl0 : Cond.classLink (own mi) idx "ProxyWalk$Rule" ∈ gw) (hn : pcs mi nx = pcs mi ip + 3) : Snd mi ip (a_newa nx 5) := by
  intro X K d F C hX0 hF hG _ ls st h r e hs α H locs cells slots lsM hw hc hz hk
  obtain ⟨hx, hb, hml, hown, hts, hlk, hrt, hnm, hfr, hlo⟩ := hX0
  obtain ⟨hP, hD, hK, hS, hA, hI, hO⟩ := id hw.1
  rcases st with _ | ⟨n | y, st⟩
  · exact nomatch (show (none : Option Rs) = some r from e)
  · rcases hp : gP h with _ | ⟨a, pl⟩
    · simp only [a_newa, hp] at e; cases e
    · cases hk0 : (Nat.beq (kd a.1).1 5 && Nat.ble (kd a.1).2 100000)
      · simp only [a_newa, hp, hk0, cond_false] at e; cases e
      · by_cases hn0 : n = Int32.ofNat (kd a.1).2
        · have e0 : F nx ls (vR a :: st) (hpN h a pl) = some r := by simp only [a_newa, hp, hk0, cond_true, if_pos hn0] at e; exact e
          rw [Bool.and_eq_true] at hk0
          have hkd : kd a.1 = (5, (kd a.1).2) := kd_of hk0.1
          have hle := Nat.le_of_ble_eq_true hk0.2
          have hmem : a ∈ gP h := by rw [hp]; exact List.mem_cons_self
          have hGh := hG _ _ _ _ _ e0
          have hcn := na_room (h := h) (a := a) (pl := pl) hGh hw.2.2.2.1 hw.2.2.2.2.1 hc hz
          have hsz : szS a.1 = (kd a.1).2 := szS_a hkd (by decide)
          have hcl : n.toNatClampNeg = (kd a.1).2 := by rw [hn0]; exact nI_clamp (by omega)
          refine va_newq (D := kD K) hx hb hown (hts _ hcl0) hO.2.2.2.2.2.1 hK hP hD hS hA (by rw [hn0]; exact nI_pos (by omega)) hcl (by omega) hcn.1 (by rw [← hsz]; exact hcn.2) hd (fun q cA H1 hK1 hP1 hD1 hS1 => ?_)
          have hcA : cA = kY K 5 := by
            obtain ⟨-, -, -, -, -, g1⟩ := (hK1.2 6 (cA, .object "ProxyWalk$Rule") rfl).2
            obtain ⟨-, -, -, -, -, g2⟩ := (hK.2 4 (kY K 5, .object "ProxyWalk$Rule") rfl).2
            have g3 : some cA = some (kY K 5) := Eq.trans (Eq.symm g1) g2
            exact Option.some.inj g3
          have hnone : (fun j => (gR h a j).map (alN α a q)) = fun _ => none := by
            funext j
            rw [(hI.2.2.2.1 a hmem j).1]
            rfl
          have hcell : (Sum.inl (cA, ((kd a.1).2, Sum.inr (Sum.inr (Sum.inr (Sum.inr (fun _ => none)))))) : va_E) = celE (kY K) (alN α a q) (hpN h a pl) a := by
            rw [cel_refs hkd (by decide), hcA]
            show _ = Sum.inl (kY K 5, ((kd a.1).2, Sum.inr (Sum.inr (Sum.inr (Sum.inr (fun j => (gR h a j).map (alN α a q)))))))
            rw [hnone]
          rw [hcell] at hP1 hD1
          obtain ⟨hW', hE⟩ := Wd_new hw.1 hp (ne9 hkd (by decide)) hP1 hD1 hS1
          have hgo := hF.onN (q := q) (st' := vR a :: st) hG e0 (all_cons (fun z hz => by cases hz; exact Or.inl (List.mem_append_right _ List.mem_cons_self)) (fun v hv => fun b hb => ((all_tl hs) v hv b hb).imp (fun z => List.mem_append_left _ z) id)) hw hsz hW' hE hc hz hk hn
          rw [new_map hE (all_tl hs)] at hgo
          exact hgo
        · simp only [a_newa, hp, hk0, cond_true, if_neg hn0] at e; cases e
  · exact nomatch (show (none : Option Rs) = some r from e)
theorem sd_newa6 {mi ip nx idx : Nat} (hd : decode (bys mi) (pcs mi ip) = .ok (.anewarray idx, 3)) (hcl0 : Cond.classLink (own mi) idx "ProxyWalk$Scene" ∈ gw) (hn : pcs mi nx = pcs mi ip + 3) : Snd mi ip (a_newa nx 6) := by
  intro X K d F C hX0 hF hG _ ls st h r e hs α H locs cells slots lsM hw hc hz hk
  obtain ⟨hx, hb, hml, hown, hts, hlk, hrt, hnm, hfr, hlo⟩ := hX0
  obtain ⟨hP, hD, hK, hS, hA, hI, hO⟩ := id hw.1
  rcases st with _ | ⟨n | y, st⟩
  · exact nomatch (show (none : Option Rs) = some r from e)
  · rcases hp : gP h with _ | ⟨a, pl⟩
    · simp only [a_newa, hp] at e; cases e
    · cases hk0 : (Nat.beq (kd a.1).1 6 && Nat.ble (kd a.1).2 100000)
      · simp only [a_newa, hp, hk0, cond_false] at e; cases e
      · by_cases hn0 : n = Int32.ofNat (kd a.1).2
        · have e0 : F nx ls (vR a :: st) (hpN h a pl) = some r := by simp only [a_newa, hp, hk0, cond_true, if_pos hn0] at e; exact e
          rw [Bool.and_eq_true] at hk0
          have hkd : kd a.1 = (6, (kd a.1).2) := kd_of hk0.1
          have hle := Nat.le_of_ble_eq_true hk0.2
          have hmem : a ∈ gP h := by rw [hp]; exact List.mem_cons_self
          have hGh := hG _ _ _ _ _ e0
          have hcn := na_room (h := h) (a := a) (pl := pl) hGh hw.2.2.2.1 hw.2.2.2.2.1 hc hz
          have hsz : szS a.1 = (kd a.1).2 := szS_a hkd (by decide)
          have hcl : n.toNatClampNeg = (kd a.1).2 := by rw [hn0]; exact nI_clamp (by omega)
          refine va_newq (D := kD K) hx hb hown (hts _ hcl0) hO.2.2.2.2.2.2 hK hP hD hS hA (by rw [hn0]; exact nI_pos (by omega)) hcl (by omega) hcn.1 (by rw [← hsz]; exact hcn.2) hd (fun q cA H1 hK1 hP1 hD1 hS1 => ?_)
          have hcA : cA = kY K 6 := by
            obtain ⟨-, -, -, -, -, g1⟩ := (hK1.2 6 (cA, .object "ProxyWalk$Scene") rfl).2
            obtain ⟨-, -, -, -, -, g2⟩ := (hK.2 5 (kY K 6, .object "ProxyWalk$Scene") rfl).2
            have g3 : some cA = some (kY K 6) := Eq.trans (Eq.symm g1) g2
            exact Option.some.inj g3
          have hnone : (fun j => (gR h a j).map (alN α a q)) = fun _ => none := by
            funext j
            rw [(hI.2.2.2.1 a hmem j).1]
            rfl
          have hcell : (Sum.inl (cA, ((kd a.1).2, Sum.inr (Sum.inr (Sum.inr (Sum.inr (fun _ => none)))))) : va_E) = celE (kY K) (alN α a q) (hpN h a pl) a := by
            rw [cel_refs hkd (by decide), hcA]
            show _ = Sum.inl (kY K 6, ((kd a.1).2, Sum.inr (Sum.inr (Sum.inr (Sum.inr (fun j => (gR h a j).map (alN α a q)))))))
            rw [hnone]
          rw [hcell] at hP1 hD1
          obtain ⟨hW', hE⟩ := Wd_new hw.1 hp (ne9 hkd (by decide)) hP1 hD1 hS1
          have hgo := hF.onN (q := q) (st' := vR a :: st) hG e0 (all_cons (fun z hz => by cases hz; exact Or.inl (List.mem_append_right _ List.mem_cons_self)) (fun v hv => fun b hb => ((all_tl hs) v hv b hb).imp (fun z => List.mem_append_left _ z) id)) hw hsz hW' hE hc hz hk hn
          rw [new_map hE (all_tl hs)] at hgo
          exact hgo
        · simp only [a_newa, hp, hk0, cond_true, if_neg hn0] at e; cases e
  · exact nomatch (show (none : Option Rs) = some r from e)
theorem sd_new {mi ip nx c idx N : Nat} {Cn : String} {T : u_T} {ty : Nat → FieldType} (hC : ClF c Cn T N ty) (hdf : ∀ j, j < N → defaultValue (ty j) = if ftC c j = 2 then .null else .int 0) (hl1 : Cond.classLink (own mi) idx Cn ∈ gw) (hl2 : Cond.instantiable Cn N ∈ gw) (hl3 : Cond.initialized Cn ∈ gw) (hd : decode (bys mi) (pcs mi ip) = .ok (.new idx, 3)) (hn : pcs mi nx = pcs mi ip + 3) : Snd mi ip (a_new nx c) := by
  intro X K d F C hX0 hF hG _ ls st h r e hs α H locs cells slots lsM hw hc hz hk
  obtain ⟨hx, hb, hml, hown, hts, hlk, hrt, hnm, hfr, hlo⟩ := hX0
  obtain ⟨hP, hD, hK, hS, hA, hI, hO⟩ := id hw.1
  obtain ⟨hcl, hin, hty, hnmF, hN⟩ := hC
  rcases hp : gP h with _ | ⟨a, pl⟩
  · simp only [a_new, hp] at e; cases e
  · cases hk0 : kdc (kd a.1) 0 c
    · simp only [a_new, hp, hk0, cond_false] at e; cases e
    · have e0 : F nx ls (vR a :: st) (hpN h a pl) = some r := by simp only [a_new, hp, hk0, cond_true] at e; exact e
      have hkd := kdc_eq hk0
      have hmem : a ∈ gP h := by rw [hp]; exact List.mem_cons_self
      have hGh := hG _ _ _ _ _ e0
      have hcn := na_room (h := h) (a := a) (pl := pl) hGh hw.2.2.2.1 hw.2.2.2.2.1 hc hz
      have hsz : szS a.1 = N := by unfold szS; rw [hkd, hN]; rfl
      refine va_new (D := kD K) (ci := c) (fs := (List.range (nfC c)).map fun k => if ftC c k = 2 then .null else .int 0) (C := Cn) (T := T) (N := N) hx hb hts hin ty hty hown (hts _ hl1) (hts _ hl2) (hts _ hl3) hK hP hD hS hA hcl (fun j hj => ?_) hcn.1 (by rw [← hsz]; exact hcn.2) hd (fun q H1 hP1 hD1 hS1 => ?_)
      · rw [hdf j hj]
        unfold vp_V
        rw [List.getD_eq_getElem?_getD, List.getElem?_map, List.getElem?_range (by rw [← hN]; exact hj)]
        rfl
      · have hcell : (Sum.inr (c, (List.range (nfC c)).map fun k => if ftC c k = 2 then .null else .int 0) : va_E) = celE (kY K) (alN α a q) (hpN h a pl) a := by
          rw [cel_obj hkd]
          congr 2
          refine List.map_congr_left fun k _ => ?_
          show _ = (if ftC c k = 2 then va_rf ((gR h a k).map (alN α a q)) else .int (gI h a k))
          rw [(hI.2.2.2.1 a hmem k).1, (hI.2.2.2.1 a hmem k).2.1]
          rfl
        rw [hcell] at hP1 hD1
        obtain ⟨hW', hE⟩ := Wd_new hw.1 hp (ne9 hkd (by decide)) hP1 hD1 hS1
        have hgo := hF.onN (q := q) (st' := vR a :: st) hG e0 (all_cons (fun z hz => by cases hz; exact Or.inl (List.mem_append_right _ List.mem_cons_self)) (fun v hv => fun b hb => (hs v hv b hb).imp (fun z => List.mem_append_left _ z) id)) hw hsz hW' hE hc hz hk hn
        rw [new_map hE hs] at hgo
        exact hgo
