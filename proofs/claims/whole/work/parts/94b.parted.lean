theorem rst_comm (s l j : Nat) : rst (rst s l) j = rst (rst s j) l := by
  unfold rst
  rw [Nat.and_assoc, Nat.and_comm (63 ^^^ 2 ^ l), ← Nat.and_assoc]
theorem rst_sub {s j c : Nat} (h : s &&& c = s) : rst s j &&& c = rst s j := by
  unfold rst
  rw [Nat.and_assoc, Nat.and_comm (63 ^^^ 2 ^ j), ← Nat.and_assoc, h]
theorem rst_in {s j i : Nat} (hs : s < 64) (hj : j < 6) (hi : i < 6) (h : s.testBit i = true) (hn : i ≠ j) : (rst s j).testBit i = true := by
  rw [rst_bit s hs j hj i hi, h, beq_f hn]
  rfl
theorem rst_out {s j i : Nat} (hs : s < 64) (hj : j < 6) (hi : i < 6) (h : (rst s j).testBit i = true) : s.testBit i = true ∧ i ≠ j := by
  rw [rst_bit s hs j hj i hi, Bool.and_eq_true] at h
  refine ⟨h.1, fun z => ?_⟩
  rw [z, Nat.beq_refl] at h
  cases h.2
theorem Xd_term {R : RD} {s k i : Nat} (hi : i < 6) (hb : (rst s k).testBit i = true) : Xd R s k 6 ≤ Lw R (rst s k) i + R.dd i k := by
  have := mnF_le2 (g := fun i => if (rst s k).testBit i = true then Lw R (rst s k) i + R.dd i k else 1000000) (b := if rst s k = 0 then R.w k else 1000000) 6 i hi
  rw [if_pos hb] at this
  exact this
theorem Xd_base {R : RD} {s k : Nat} (h0 : rst s k = 0) : Xd R s k 6 ≤ R.w k := by
  have := mnF_le (g := fun i => if (rst s k).testBit i = true then Lw R (rst s k) i + R.dd i k else 1000000) (b := if rst s k = 0 then R.w k else 1000000) 6
  rw [if_pos h0] at this
  unfold Xd
  rw [if_pos h0]
  exact this
theorem le_Xd {R : RD} {s k x : Nat} (h1 : rst s k = 0 → x ≤ R.w k) (h2 : x ≤ 1000000) (h3 : ∀ i, i < 6 → (rst s k).testBit i = true → x ≤ Lw R (rst s k) i + R.dd i k) : x ≤ Xd R s k 6 := by
  refine le_mnF 6 ?_ fun i hi => ?_
  · split
    · rename_i e
      exact h1 e
    · exact h2
  · split
    · rename_i e
      exact h3 i hi e
    · exact h2
/-- one sentence less is no later -/
theorem L_down {R : RD} {S : Nat} (h : R.Ok S) : ∀ s, s < 64 → ∀ j l, s.testBit j = true → s.testBit l = true → l ≠ j → Lw R (rst s j) l ≤ Lw R s l := by
  have h6 := h.s6
  intro s
  induction s using Nat.strongRecOn with
  | ind s ih =>
    intro hs j l hj hl hn
    have hj6 := bit6 hs hj
    have hl6 := bit6 hs hl
    by_cases hc : s &&& R.can = s
    · have hjS := h.canS j (sub_iff.mp hc j hj)
      have hlS := h.canS l (sub_iff.mp hc l hl)
      have hlt1 := rst_lt s hs j hj6 hj
      have hlt2 := rst_lt s hs l hl6 hl
      have hl' := rst_in hs hj6 hl6 hl hn
      have hj' := rst_in hs hl6 hj6 hj (fun z => hn z.symm)
      have hX := Xd_or h hlS (show rst s j < 64 by omega) (rst_sub hc) 6 (Nat.le_refl 6)
      rw [← Xd_fl h hlS hs hl hc, ← Xd_fl h hlS (show rst s j < 64 by omega) hl' (rst_sub hc)]
      refine h.fl_mono hlS _ _ (le_Xd (fun z => ?_) (by omega) fun i hi hb => ?_)
      · rw [z, Nat.zero_testBit] at hj'
        cases hj'
      · have hbo := rst_out hs hl6 hi hb
        have hiS := h.canS i (sub_iff.mp hc i hbo.1)
        by_cases e : i = j
        · rw [e]
          have hXr := Xd_or h hjS (show rst s l < 64 by omega) (rst_sub hc) 6 (Nat.le_refl 6)
          have h1 : Xd R (rst s l) j 6 ≤ Lw R (rst s l) j := by
            rw [← Xd_fl h hjS (show rst s l < 64 by omega) hj' (rst_sub hc)]
            exact h.fl_ge hjS (by omega)
          have h2 : Xd R (rst s j) l 6 - R.dd j l ≤ Xd R (rst s l) j 6 := by
            refine le_Xd (fun z => ?_) (by omega) fun i' hi' hb' => ?_
            · have := Xd_base (R := R) (s := rst s j) (k := l) (by rw [← rst_comm]; exact z)
              have := h.t1 j l hjS hlS
              omega
            · rw [rst_comm] at hb' ⊢
              have hb2 := rst_out (show rst s j < 64 by omega) hl6 hi' hb'
              have hb3 := rst_out hs hj6 hi' hb2.1
              have hiS' := h.canS i' (sub_iff.mp hc i' hb3.1)
              have := Xd_term (R := R) hi' hb'
              have := h.t2 i' j l hiS' hjS hlS
              omega
          omega
        · have hb2 : (rst (rst s j) l).testBit i = true := by
            rw [← rst_comm]
            exact rst_in (show rst s l < 64 by omega) hj6 hi hb e
          have h1 := Xd_term (R := R) hi hb2
          have h2 := ih (rst s l) hlt2 (by omega) j i hj' hb e
          rw [rst_comm] at h2
          omega
    · rw [Lw_no R (s := s) (fun z => hc z.2)]
      exact h.L_le _ _
theorem Hm_term {R : RD} {s k n : Nat} (hk : k < n) (hb : s.testBit k = true) : Hm R s n ≤ min 1000000 (Lw R s k + R.ho k) := by
  have := mnF_le2 (g := fun k => if s.testBit k = true then min 1000000 (Lw R s k + R.ho k) else 1000000) (b := if s = 0 then R.hw else 1000000) n k hk
  rw [if_pos hb] at this
  exact this
theorem H_down {R : RD} {S : Nat} (h : R.Ok S) {s j : Nat} (hs : s < 64) (hj : s.testBit j = true) : Hm R (rst s j) S ≤ Hm R s S := by
  have h6 := h.s6
  have hj6 := bit6 hs hj
  have hlt := rst_lt s hs j hj6 hj
  have hle := h.H_le (rst s j) S
  by_cases hc : s &&& R.can = s
  · have hjS := h.canS j (sub_iff.mp hc j hj)
    refine le_mnF S ?_ fun k hk => ?_
    · rw [if_neg (fun z => by rw [z, Nat.zero_testBit] at hj; cases hj)]
      exact hle
    · split
      · rename_i hb
        by_cases e : k = j
        · rw [e]
          have hX := Xd_or h hjS hs hc 6 (Nat.le_refl 6)
          have h1 : Xd R s j 6 ≤ Lw R s j := by
            rw [← Xd_fl h hjS hs hj hc]
            exact h.fl_ge hjS (by omega)
          have h2 : Hm R (rst s j) S - R.ho j ≤ Xd R s j 6 := by
            refine le_Xd (fun z => ?_) (by omega) fun i hi hb' => ?_
            · rw [z, H_zero h]
              have := h.t4 j hjS
              omega
            · have hbo := rst_out hs hj6 hi hb'
              have hiS := h.canS i (sub_iff.mp hc i hbo.1)
              have := Hm_term (R := R) hiS hb'
              have := h.t3 i j hiS hjS
              omega
          omega
        · have hb' := rst_in hs hj6 (by omega) hb e
          have h1 := Hm_term (R := R) hk hb'
          have h2 := L_down h s hs j k hj hb e
          omega
      · exact hle
  · rw [h.H_not s (fun z => by rw [z, Nat.zero_testBit] at hj; cases hj) hc S]
    exact hle
theorem H_pre {R : RD} {S : Nat} (h : R.Ok S) {dg : Nat → Nat} {w m : Nat} : ∀ n, m ≤ n → n ≤ 6 → Hm R (ssF dg w m) S ≤ Hm R (ssF dg w n) S
  | 0, h1, _ => by
    obtain rfl : m = 0 := by omega
    exact Nat.le_refl _
  | n + 1, h1, h2 => by
    by_cases e : m = n + 1
    · rw [e]
      exact Nat.le_refl _
    · refine Nat.le_trans (H_pre h n (by omega) (by omega)) ?_
      have hlt := ssF_lt (dg := dg) (w := w) n (by omega)
      rw [show ssF dg w (n + 1) = if dg n = w + 1 then ssF dg w n ||| 2 ^ n else ssF dg w n from rfl]
      split
      · rename_i hd
        have hb : (ssF dg w n).testBit n = false := by
          cases hq : (ssF dg w n).testBit n
          · rfl
          · have := (ssF_bit n n).mp hq
            omega
        obtain ⟨r1, r2, r3⟩ := rst_of _ hlt n (by omega) hb
        have := H_down h r2 r3
        rw [r1] at this
        exact this
      · exact Nat.le_refl _
def fitF (R : Nat → RD) (tg : Nat → Bool) (S : Nat) (w t : Nat) : Bool := tg w && decide (Hm (R w) t S < 1000000)
theorem okc_fit {fit : Nat → Nat → Bool} {dg : Nat → Nat} {w : Nat} : ∀ n, okc fit dg n = true → ssF dg w n ≠ 0 → fit w (ssF dg w n) = true
  | 0, _, h => absurd rfl h
  | n + 1, h, h0 => by
    have h' := h
    unfold okc at h'
    rw [Bool.and_eq_true] at h'
    have e : ssF dg w (n + 1) = if dg n = w + 1 then ssF dg w n ||| 2 ^ n else ssF dg w n := rfl
    by_cases hd : dg n = w + 1
    · have := (okc_iff (n + 1)).mp h n (by omega) (by omega)
      rw [hd] at this
      exact this
    · rw [e, if_neg hd] at h0 ⊢
      exact okc_fit n h'.1 h0
theorem ok_iff {R : Nat → RD} {tg : Nat → Bool} {S N : Nat} (hS : S ≤ 6) {dg : Nat → Nat} (hdg : ∀ k, k < S → dg k ≤ N) (hR : ∀ w, w < N → (R w).Ok S) : okc (fitF R tg S) dg S = true ↔ (∀ k, k < S → dg k ≠ 0 → tg (dg k - 1) = true ∧ (R (dg k - 1)).can.testBit k = true) ∧ (∀ w, w < N → ssF dg w S ≠ 0 → Hm (R w) (ssF dg w S) S < 1000000) := by
  constructor
  · intro h
    refine ⟨fun k hk h0 => ?_, fun w hw h0 => ?_⟩
    · have h1 := (okc_iff S).mp h k hk h0
      unfold fitF at h1
      rw [Bool.and_eq_true, decide_eq_true_iff] at h1
      have hw : dg k - 1 < N := by have := hdg k hk; omega
      have hbk : (ssF dg (dg k - 1) (k + 1)).testBit k = true := (ssF_bit _ _).mpr ⟨by omega, by omega⟩
      refine ⟨h1.1, ?_⟩
      by_cases hc : ssF dg (dg k - 1) (k + 1) &&& (R (dg k - 1)).can = ssF dg (dg k - 1) (k + 1)
      · exact sub_iff.mp hc k hbk
      · have := (hR _ hw).H_not _ (fun z => by rw [z, Nat.zero_testBit] at hbk; cases hbk) hc S
        omega
    · have := okc_fit S h h0
      unfold fitF at this
      rw [Bool.and_eq_true, decide_eq_true_iff] at this
      exact this.2
  · rintro ⟨h1, h2⟩
    rw [okc_iff]
    intro k hk h0
    have hw : dg k - 1 < N := by have := hdg k hk; omega
    have hbS : (ssF dg (dg k - 1) S).testBit k = true := (ssF_bit _ _).mpr ⟨hk, by omega⟩
    have h3 := h2 _ hw (fun z => by rw [z, Nat.zero_testBit] at hbS; cases hbS)
    have h4 := H_pre (hR _ hw) (dg := dg) (w := dg k - 1) (m := k + 1) S (by omega) hS
    unfold fitF
    rw [Bool.and_eq_true, decide_eq_true_iff]
    exact ⟨(h1 k hk h0).1, by omega⟩
