theorem dv_int {m : Nat} (hm : m ≤ 1000) : (dv m).toInt = (m : Int) - 1 := by
  unfold dv
  by_cases h : m = 0
  · rw [if_pos h, h]
    rfl
  · rw [if_neg h, nJ_int (by omega)]
    omega
theorem dv_lt {m x : Nat} (hm : m ≤ 1000) (hx : x < 100000) : (dv m < nJ x) = (m < x + 1) := by
  rw [i_lt, dv_int hm, nJ_int (by omega)]
  apply propext
  omega
def TyS (I0 I : IT) (st : PtT) (dg : Nat → Nat) (S N s : Nat) : Prop := (∀ a : Ad, a ≠ (29, 0) → a ≠ (33, 0) → a ≠ (34, 0) → a ≠ (35, 0) → I a = I0 a) ∧ I (29, 0) 6 = dv st.1 ∧ (∀ k, k < s → I (34, 0) k = dv (dg k)) ∧ (∀ w, w < N → I (33, 0) w = nJ (ssF dg w s)) ∧ (st.1 ≠ 0 → ∀ k, k < S → I (35, 0) k = st.2 k)
/-- one digit more -/
theorem TyS.into {I0 I : IT} {st : PtT} {dg : Nat → Nat} {S N s : Nat} (h : TyS I0 I st dg S N s) (v : Nat) {I' : IT} (h34 : I' (34, 0) s = dv v) (h34' : ∀ k, k < s → I' (34, 0) k = I (34, 0) k) (h33 : ∀ w, w < N → I' (33, 0) w = nJ (if v = w + 1 then ssF dg w s ||| 2 ^ s else ssF dg w s)) (ho : ∀ a : Ad, a ≠ (33, 0) → a ≠ (34, 0) → I' a = I a) : TyS I0 I' st (dgU dg s v) S N (s + 1) := by
  obtain ⟨h1, h2, h3, h4, h5⟩ := h
  have hx : ∀ k, k < s → dgU dg s v k = dg k := fun k hk => by
    unfold dgU
    rw [if_neg (by omega)]
  have hs : dgU dg s v s = v := if_pos rfl
  refine ⟨fun a a1 a2 a3 a4 => (ho a a2 a3).trans (h1 a a1 a2 a3 a4), by rw [ho (29, 0) (by decide) (by decide)]; exact h2, fun k hk => ?_, fun w hw => ?_, fun h0 k hk => by rw [ho (35, 0) (by decide) (by decide)]; exact h5 h0 k hk⟩
  · by_cases e : k = s
    · rw [e, hs]
      exact h34
    · rw [h34' k (by omega), hx k (by omega)]
      exact h3 k (by omega)
  · rw [h33 w hw, show ssF (dgU dg s v) w (s + 1) = if dgU dg s v s = w + 1 then ssF (dgU dg s v) w s ||| 2 ^ s else ssF (dgU dg s v) w s from rfl, hs, ssF_ext s hx]
/-- and back -/
theorem TyS.outof {I0 I : IT} {st : PtT} {dg : Nat → Nat} {S N s v : Nat} (h : TyS I0 I st (dgU dg s v) S N (s + 1)) {I' : IT} (h33 : ∀ w, w < N → I' (33, 0) w = nJ (ssF dg w s)) (ho : ∀ a : Ad, a ≠ (33, 0) → I' a = I a) : TyS I0 I' st dg S N s := by
  obtain ⟨h1, h2, h3, h4, h5⟩ := h
  refine ⟨fun a a1 a2 a3 a4 => (ho a a2).trans (h1 a a1 a2 a3 a4), by rw [ho (29, 0) (by decide)]; exact h2, fun k hk => ?_, h33, fun h0 k hk => by rw [ho (35, 0) (by decide)]; exact h5 h0 k hk⟩
  rw [ho (34, 0) (by decide), h3 k (by omega)]
  unfold dgU
  rw [if_neg (by omega)]
abbrev TrH (I0 : IT) (J : JT) (fit : Nat → Nat → Bool) (fee : Nat → Nat) (S N : Nat) : Prop := (S ≤ 6) ∧ (N ≤ 3) ∧ (I0 (8, 0) 3 = nJ S) ∧ (I0 (8, 0) 4 = nJ N) ∧ (∀ k, k < S → I0 (15, 0) k = nJ (fee k) ∧ fee k < 100) ∧ (∀ w, w < N → J (32, 0) w = fbL (fit w) 64)
theorem TrH.s6 {I0 : IT} {J : JT} {fit : Nat → Nat → Bool} {fee : Nat → Nat} {S N : Nat} (h : TrH I0 J fit fee S N) : S ≤ 6 := h.1
theorem TrH.n3 {I0 : IT} {J : JT} {fit : Nat → Nat → Bool} {fee : Nat → Nat} {S N : Nat} (h : TrH I0 J fit fee S N) : N ≤ 3 := h.2.1
theorem TrH.e3 {I0 : IT} {J : JT} {fit : Nat → Nat → Bool} {fee : Nat → Nat} {S N : Nat} (h : TrH I0 J fit fee S N) : I0 (8, 0) 3 = nJ S := h.2.2.1
theorem TrH.e4 {I0 : IT} {J : JT} {fit : Nat → Nat → Bool} {fee : Nat → Nat} {S N : Nat} (h : TrH I0 J fit fee S N) : I0 (8, 0) 4 = nJ N := h.2.2.2.1
theorem TrH.fe {I0 : IT} {J : JT} {fit : Nat → Nat → Bool} {fee : Nat → Nat} {S N : Nat} (h : TrH I0 J fit fee S N) : ∀ k, k < S → I0 (15, 0) k = nJ (fee k) ∧ fee k < 100 := h.2.2.2.2.1
theorem TrH.fi {I0 : IT} {J : JT} {fit : Nat → Nat → Bool} {fee : Nat → Nat} {S N : Nat} (h : TrH I0 J fit fee S N) : ∀ w, w < N → J (32, 0) w = fbL (fit w) 64 := h.2.2.2.2.2
theorem sumT_bd {f : Nat → Nat} : ∀ n, (∀ k, k < n → f k < 100) → sumT f n ≤ 100 * n
  | 0, _ => Nat.le_refl 0
  | n + 1, h => by
    have := sumT_bd (f := f) n (fun k hk => h k (by omega))
    have := h n (by omega)
    show sumT f n + f n ≤ _
    omega
theorem feF_bd {f dg : Nat → Nat} : ∀ n, (∀ k, k < n → f k < 100) → feF f dg n ≤ 100 * n
  | 0, _ => Nat.le_refl 0
  | n + 1, h => by
    have := feF_bd (f := f) (dg := dg) n (fun k hk => h k (by omega))
    have := h n (by omega)
    show (if dg n = 0 then feF f dg n else feF f dg n + f n) ≤ _
    split <;> omega
theorem try_go {I0 : IT} {J : JT} {fit : Nat → Nat → Bool} {fee : Nat → Nat} {S N : Nat} (d : Nat) (H : TrH I0 J fit fee S N) : ∀ n s, s + n = S → ∀ dg I st, TyS I0 I st dg S N s → okc fit dg s = true → st.1 ≤ 1000 → Tr (ev (d + n + 1) mRd_tryRows 0 [vR (29, 0), vR (8, 0), vI (nJ s), vI (nJ (feF fee dg s)), vI (nJ (lfF fee S s)), vU, vU, vU] [] (hh I J)) (fun v I' J' => v = none ∧ J' = J ∧ TyS I0 I' (DFp (lfp fit fee S) S N n dg st) dg S N s ∧ (DFp (lfp fit fee S) S N n dg st).1 ≤ 1000) := by
  obtain ⟨hS, hN, e3, e4, hfe, hfi⟩ := H
  have hsum : sumT fee S ≤ 600 := by
    have := sumT_bd (f := fee) S (fun k hk => (hfe k hk).2)
    omega
  intro n
  induction n with
  | zero =>
    intro s hs dg I st ht hok hm
    obtain rfl : s = S := by omega
    have hfb := feF_bd (f := fee) (dg := dg) s (fun k hk => (hfe k hk).2)
    have f8 : I (8, 0) = I0 (8, 0) := ht.1 _ (by decide) (by decide) (by decide) (by decide)
    rw [eRd_tryRows_0, f8, e3, if_neg (nlt_nJ (Nat.le_refl s) (by omega)), ht.2.1]
    show Tr _ (fun v I' J' => v = none ∧ J' = J ∧ TyS I0 I' (lfp fit fee s dg st) dg s N s ∧ (lfp fit fee s dg st).1 ≤ 1000)
    unfold lfp
    by_cases h1 : st.1 < feF fee dg s + 1
    · rw [if_pos (Eq.mpr (dv_lt hm (by omega)) h1), if_pos ⟨hok, h1⟩]
      obtain ⟨t1, t2, t3, t4, t5⟩ := ht
      refine Tr.ret ⟨rfl, rfl, ⟨fun a a1 a2 a3 a4 => ?_, ?_, fun k hk => ?_, fun w hw => ?_, fun _ k hk => ?_⟩, by show feF fee dg s + 1 ≤ 1000; omega⟩
      · rw [← t1 a a1 a2 a3 a4]
        funext j
        rw [cpA_ne a4, up_ne _ _ _ _ a1]
      · rw [cpA_ne (by decide), up_same]
        show nJ (feF fee dg s) = dv (feF fee dg s + 1)
        unfold dv
        rw [if_neg (by omega)]
        rfl
      · rw [cpA_ne (by decide), up_ne _ _ _ _ (by decide)]
        exact t3 k hk
      · rw [cpA_ne (by decide), up_ne _ _ _ _ (by decide)]
        exact t4 w hw
      · rw [cpA_in (by omega), up_ne _ _ _ _ (by decide)]
        show _ = if k < s then dv (dg k) else 0
        rw [if_pos hk]
        exact t3 k hk
    · rw [if_neg (fun z => h1 (Eq.mp (dv_lt hm (by omega)) z)), if_neg (fun z => h1 z.2)]
      exact Tr.ret ⟨rfl, rfl, ht, hm⟩
  | succ n ih =>
    intro s hs dg I st ht hok hm
    have hsS : s < S := by omega
    have hs6 : s < 6 := by omega
    have hfb := feF_bd (f := fee) (dg := dg) s (fun k hk => (hfe k (by omega)).2)
    have hfs := (hfe s hsS).2
    have f8 : I (8, 0) = I0 (8, 0) := ht.1 _ (by decide) (by decide) (by decide) (by decide)
    have f15 : I (15, 0) = I0 (15, 0) := ht.1 _ (by decide) (by decide) (by decide) (by decide)
    have hlf : lfF fee S s = lfF fee S (s + 1) + fee s := by
      have h1 := sumT_le (f := fee) (s + 1) S (by omega)
      have h2 : sumT fee (s + 1) = sumT fee s + fee s := rfl
      unfold lfF
      omega
    have hlb : lfF fee S s ≤ 600 := by
      unfold lfF
      omega
    have hSn : S - (n + 1) = s := by omega
    rw [eRd_tryRows_0, f8, e3, if_pos (lt_nJ hsS (by omega)), if_pos (lt_nL (b := 6) hs6 (by decide)), ht.2.1, nJ_add]
    by_cases h1 : st.1 < feF fee dg s + lfF fee S s + 1
    · rw [if_pos (Eq.mpr (dv_lt hm (by omega)) h1), bnd hs6 (by omega), bnd hs6 (by omega), nJ_nat (show s < 2147483648 by omega), f15, (hfe s hsS).1, nJ_succ, hlf, nJ_sub (show fee s ≤ lfF fee S (s + 1) + fee s by omega), Nat.add_sub_cancel]
      have ht0 : TyS I0 (up2 I (34, 0) s (-1)) st (dgU dg s 0) S N (s + 1) := ht.into 0 (up_same _ _ _ _) (fun k hk => up_neK _ _ (by omega)) (fun w hw => by
        rw [up_ne _ _ _ _ (by decide), if_neg (by omega)]
        exact ht.2.2.2.1 w hw) (fun a _ a2 => funext fun j => up_ne _ _ _ _ a2)
      have hx : ∀ v k, k < s → dgU dg s v k = dg k := fun v k hk => by
        unfold dgU
        rw [if_neg (by omega)]
      have hv : ∀ v, dgU dg s v s = v := fun v => if_pos rfl
      have hok0 : okc fit (dgU dg s 0) (s + 1) = true := by
        unfold okc
        rw [okc_ext s (hx 0), hok, hv 0]
        rfl
      have hfe0 : feF fee (dgU dg s 0) (s + 1) = feF fee dg s := by
        show (if dgU dg s 0 s = 0 then _ else _) = _
        rw [if_pos (hv 0), feF_ext s (hx 0)]
      have hc0 := ih (s + 1) (by omega) (dgU dg s 0) _ st ht0 hok0 hm
      rw [hfe0] at hc0
      -- the walkers in turn
      have go : ∀ j w I, w + j = N → TyS I0 I (itr (fun v st => DFp (lfp fit fee S) S N n (dgU dg s v) st) (w + 1) st) dg S N s → (itr (fun v st => DFp (lfp fit fee S) S N n (dgU dg s v) st) (w + 1) st).1 ≤ 1000 → Tr (ev (d + (n + 1) + 1) mRd_tryRows 52 [vR (29, 0), vR (8, 0), vI (nJ s), vI (nJ (feF fee dg s)), vI (nJ (lfF fee S (s + 1) + fee s)), vI (nJ (fee s)), vI (nJ w), vU] [] (hh I J)) (fun v I' J' => v = none ∧ J' = J ∧ TyS I0 I' (itr (fun v st => DFp (lfp fit fee S) S N n (dgU dg s v) st) (N + 1) st) dg S N s ∧ (itr (fun v st => DFp (lfp fit fee S) S N n (dgU dg s v) st) (N + 1) st).1 ≤ 1000) := by
        intro j
        induction j with
        | zero =>
          intro w I hw ht hm
          obtain rfl : w = N := by omega
          have f8 : I (8, 0) = I0 (8, 0) := ht.1 _ (by decide) (by decide) (by decide) (by decide)
          rw [eRd_tryRows_52, f8, e4, if_neg (nlt_nJ (Nat.le_refl w) (by omega))]
          exact Tr.ret ⟨rfl, rfl, ht, hm⟩
        | succ j ihw =>
          intro w I hw ht hm
          have hwN : w < N := by omega
          have f8 : I (8, 0) = I0 (8, 0) := ht.1 _ (by decide) (by decide) (by decide) (by decide)
          have hss := ssF_lt (dg := dg) (w := w) s (by omega)
          have hnb : (ssF dg w s).testBit s = false := by
            cases hq : (ssF dg w s).testBit s
            · rfl
            · have := (ssF_bit s s).mp hq
              omega
          obtain ⟨r1, r2, r3⟩ := rst_of _ hss s hs6 hnb
          have e33 := ht.2.2.2.1 w hwN
          rw [eRd_tryRows_52, f8, e4, if_pos (lt_nJ hwN (by omega)), bnd (show w < 3 by omega) (by omega), bnd (show w < 3 by omega) (by omega), nJ_nat (show w < 2147483648 by omega), e33, b_or _ hss s hs6, hfi w hwN, nJ_succ]
          have hst : itr (fun v st => DFp (lfp fit fee S) S N n (dgU dg s v) st) (w + 1 + 1) st = DFp (lfp fit fee S) S N n (dgU dg s (w + 1)) (itr (fun v st => DFp (lfp fit fee S) S N n (dgU dg s v) st) (w + 1) st) := rfl
          have hsw : ssF (dgU dg s (w + 1)) w (s + 1) = ssF dg w s ||| 2 ^ s := by
            show (if dgU dg s (w + 1) s = w + 1 then _ else _) = _
            rw [if_pos (hv _), ssF_ext s (hx _)]
          cases hfit : fit w (ssF dg w s ||| 2 ^ s) with
          | false =>
            rw [if_pos (Eq.mpr (fbL_test r2) hfit)]
            have hid := DFp_id (lf := lfp fit fee S) (S := S) (N := N) (st := itr (fun v st => DFp (lfp fit fee S) S N n (dgU dg s v) st) (w + 1) st) n (dgU dg s (w + 1)) (by omega) (fun dg' h' => by
              unfold lfp
              rw [if_neg]
              rintro ⟨z, -⟩
              have z1 := okc_le (m := s + 1) S (by omega) z
              rw [okc_ext (dg' := dgU dg s (w + 1)) (s + 1) (fun k hk => h' k (by omega))] at z1
              have z2 := (okc_iff (s + 1)).mp z1 s (by omega) (by rw [hv]; omega)
              rw [hv, Nat.add_sub_cancel, hsw, hfit] at z2
              cases z2)
            refine ihw (w + 1) I (by omega) ?_ ?_
            · rw [hst, hid]
              exact ht
            · rw [hst, hid]
              exact hm
          | true =>
            rw [if_neg (fun z => by have := Eq.mp (fbL_test r2) z; rw [hfit] at this; cases this), bnd hs6 (by omega), bnk (show w < 3 by omega) (by omega), nJ_nat (show s < 2147483648 by omega)]
            have ht1 : TyS I0 (up2 (up2 I (34, 0) s (nJ w)) (33, 0) w (nJ (ssF dg w s ||| 2 ^ s))) (itr (fun v st => DFp (lfp fit fee S) S N n (dgU dg s v) st) (w + 1) st) (dgU dg s (w + 1)) S N (s + 1) := ht.into (w + 1) (by
                rw [up_ne _ _ _ _ (by decide), up_same]
                unfold dv
                rw [if_neg (by omega)]
                rfl) (fun k hk => by rw [up_ne _ _ _ _ (by decide), up_neK _ _ (by omega)]) (fun w' hw' => by
                by_cases e : w' = w
                · rw [e, up_same, if_pos rfl]
                · rw [up_neK _ _ e, up_ne _ _ _ _ (by decide), if_neg (by omega)]
                  exact ht.2.2.2.1 w' hw') (fun a a1 a2 => funext fun j => by rw [up_ne _ _ _ _ a1, up_ne _ _ _ _ a2])
            have hok1 : okc fit (dgU dg s (w + 1)) (s + 1) = true := by
              rw [show okc fit (dgU dg s (w + 1)) (s + 1) = (okc fit (dgU dg s (w + 1)) s && (decide (dgU dg s (w + 1) s = 0) || fit (dgU dg s (w + 1) s - 1) (ssF (dgU dg s (w + 1)) (dgU dg s (w + 1) s - 1) (s + 1)))) from rfl, okc_ext s (hx _), hok, hv, Nat.add_sub_cancel, hsw, hfit]
              simp
            have hfe1 : feF fee (dgU dg s (w + 1)) (s + 1) = feF fee dg s + fee s := by
              show (if dgU dg s (w + 1) s = 0 then _ else _) = _
              rw [if_neg (by rw [hv]; omega), feF_ext s (hx _)]
            have hc1 := ih (s + 1) (by omega) (dgU dg s (w + 1)) _ _ ht1 hok1 hm
            rw [hfe1] at hc1
            rw [nJ_add, nJ_sub (show fee s ≤ lfF fee S (s + 1) + fee s by omega), Nat.add_sub_cancel, b_clr _ r2 s hs6, nJ_succ]
            refine Tr.bV (Tr.mono hc1 fun v I1 J1 ⟨q1, q2, q3, q4⟩ => ⟨q1, ?_⟩)
            subst q2
            rw [bnk (show w < 3 by omega) (by omega)]
            refine ihw (w + 1) _ (by omega) ?_ (by rw [hst]; exact q4)
            rw [hst]
            refine q3.outof (fun w' hw' => ?_) (fun a a1 => funext fun j => up_ne _ _ _ _ a1)
            by_cases e : w' = w
            · rw [e, up_same]
              exact congrArg nJ r1
            · rw [up_neK _ _ e]
              show I1 (33, 0) w' = _
              rw [q3.2.2.2.1 w' hw', show ssF (dgU dg s (w + 1)) w' (s + 1) = if dgU dg s (w + 1) s = w' + 1 then ssF (dgU dg s (w + 1)) w' s ||| 2 ^ s else ssF (dgU dg s (w + 1)) w' s from rfl, if_neg (by rw [hv]; omega), ssF_ext s (hx _)]
      refine Tr.bV (Tr.mono hc0 fun v I1 J1 ⟨q1, q2, q3, q4⟩ => ⟨q1, ?_⟩)
      subst q2
      show Tr _ (fun v I' J' => v = none ∧ J' = J1 ∧ TyS I0 I' (itr (fun v st => DFp (lfp fit fee S) S N n (dgU dg (S - (n + 1)) v) st) (N + 1) st) dg S N s ∧ (itr (fun v st => DFp (lfp fit fee S) S N n (dgU dg (S - (n + 1)) v) st) (N + 1) st).1 ≤ 1000)
      rw [hSn]
      refine go N 0 I1 (by omega) (q3.outof (fun w hw => ?_) (fun _ _ => rfl)) q4
      rw [q3.2.2.2.1 w hw, show ssF (dgU dg s 0) w (s + 1) = if dgU dg s 0 s = w + 1 then ssF (dgU dg s 0) w s ||| 2 ^ s else ssF (dgU dg s 0) w s from rfl, if_neg (by rw [hv]; omega), ssF_ext s (hx _)]
    · rw [if_neg (fun z => h1 (Eq.mp (dv_lt hm (by omega)) z))]
      have hid := DFp_id (lf := lfp fit fee S) (S := S) (N := N) (st := st) (n + 1) dg (by omega) (fun dg' h' => by
        unfold lfp
        rw [if_neg]
        rintro ⟨-, z⟩
        have z1 := feF_le (fee := fee) (dg := dg') (k := s) S (by omega)
        rw [feF_ext (dg' := dg) s (fun k hk => h' k (by omega))] at z1
        unfold lfF at h1
        omega)
      rw [hid]
      exact Tr.ret ⟨rfl, rfl, ht, hm⟩
