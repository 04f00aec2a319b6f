/-! TWO HEAPS INTO ONE, the script, the start -/
/-- both halves in one heap: the class's call, then the reference's -/
theorem law_two {I : IT} {J : JT} {f g : IT → JT → Option Rs} (h : Rel I I) (hc : ∀ (A : IT) (B : JT), Rel I A → Cal (f I J) (g A B) I A) : ∃ (x : Int32) (I1 : IT) (J1 : JT) (I2 : IT) (J2 : JT), f I J = some (some (vI x), hh I1 J1) ∧ g I1 J1 = some (some (vI x), hh I2 J2) ∧ Rel I2 I2 ∧ ∀ a : Ad, 90 ≤ a.1 → I1 a = I a ∧ I2 a = I a := by
  obtain ⟨v, I1, J1, e1, v', A', B', -, ⟨x, rfl, -⟩, -, hF, -⟩ := hc I J h
  have hR : Rel I I1 := by
    refine Rel_ext (I := I) (A := I) (fun _ _ _ => rfl) (fun a k hk => ?_) h
    have h43 : 43 ≤ a.1 := by
      rcases hk with ⟨ha, -⟩ | ha | ha | ha | ⟨ha, -⟩ | ha | ha
      · have h1 : a.1 = 43 := congrArg Prod.fst ha
        omega
      · omega
      · omega
      · omega
      · omega
      · omega
      · omega
    exact congrFun (hF a h43) k
  obtain ⟨w, K1, L1, e2, w', I2, J2, e3, ⟨y, rfl, rfl⟩, hR2, -, hM⟩ := hc I1 J1 hR
  rw [e1] at e2
  have e4 : ((some (vI x), hh I1 J1) : Rs) = (some (vI y), hh K1 L1) := Option.some.inj e2
  have e7 : some (vI x) = some (vI y) := congrArg Prod.fst e4
  have e5 : x = y := Sum.inl.inj (Option.some.inj e7)
  have e8 := congrArg (fun z : Rs => gI z.2) e4
  have e6 : I1 = K1 := e8
  subst e5
  subst e6
  refine ⟨x, I1, J1, I2, J2, e1, e3, ?_, fun a ha => ⟨hF a (by omega), (hM a (Or.inr ha)).trans (hF a (by omega))⟩⟩
  refine Rel_ext (I := I1) (A := I2) (fun a k hk => ?_) (fun _ _ _ => rfl) hR2
  have h43 : a.1 < 43 := by
    rcases hk with ⟨ha, -⟩ | ⟨ha, -⟩ | ha | ⟨-, ha, -⟩ | ⟨-, ha⟩
    · have h1 : a.1 = 0 := congrArg Prod.fst ha
      omega
    · have h1 : a.1 = 1 := congrArg Prod.fst ha
      omega
    · have h1 : a.1 = 2 := congrArg Prod.fst ha
      omega
    · omega
    · omega
  exact congrFun (hM a (Or.inl h43)) k
/-- the script's length stands -/
def ScO (I : IT) (L : Nat) : Prop := I (98, 1) 0 = nJ L
theorem lw_q {α : Type} {I : IT} {L k : Nat} {x : Int32} (hs : ScO I L) (hL : L ≤ 3072) (e : x = nJ k) (h : k < L) (o : Option α) : (if x < 0 ∨ (I (98, 1) 0).toNatClampNeg ≤ x.toNatClampNeg then none else o) = o := by
  refine if_neg fun q => ?_
  have hs : I (98, 1) 0 = nJ L := hs
  rw [e, hs, nJ_neg (show k < 2147483648 by omega), nJ_nat (show L < 2147483648 by omega), nJ_nat (show k < 2147483648 by omega)] at q
  rcases q with q | q
  · exact q
  · omega
theorem slt_6 {L i : Nat} (hL : L ≤ 3072) (hi : i ≤ 3072) : (nJ L - 6 < nJ i) = (L < i + 6) := by
  have e6 : (6 : Int32).toInt = 6 := by decide
  have eL : (nJ L).toInt = L := nJ_int (by omega)
  have ei : (nJ i).toInt = i := nJ_int (by omega)
  have es : (nJ L - 6).toInt = (nJ L).toInt - (6 : Int32).toInt := i_sub (x := nJ L) (y := 6) (by rw [eL, e6]; omega)
  rw [i_lt, es, eL, ei, e6]
  exact propext ⟨fun q => by omega, fun q => by omega⟩
/-- what the constructors leave, as far as the relation looks at it -/
def iniL : List (Ad × (Nat × Int32)) := [((1, 0), (1, 0)), ((43, 0), (26, 0)), ((0, 0), (2, 0)), ((43, 0), (30, 0)), ((43, 0), (35, 11)),
  ((8, 0), (0, 0)), ((8, 0), (1, 0)), ((8, 0), (2, 0)), ((8, 0), (3, 0)), ((8, 0), (4, 0)),
  ((44, 0), (0, 0)), ((44, 0), (1, 0)), ((44, 0), (2, 0)), ((44, 0), (3, 0)), ((44, 0), (4, 0)), ((44, 0), (5, 0)), ((44, 0), (6, 0)), ((44, 0), (7, 0)), ((44, 0), (8, 0)), ((44, 0), (9, 0)), ((44, 0), (10, 0)), ((44, 0), (11, 0)), ((44, 0), (12, -1)),
  ((17, 0), (0, 0)), ((17, 0), (1, 0)), ((17, 0), (2, 0)), ((17, 0), (3, 0)),
  ((22, 0), (0, -1)), ((22, 0), (1, -1)), ((22, 0), (2, -1)), ((22, 0), (3, -1)), ((22, 0), (4, -1)), ((22, 0), (5, -1)),
  ((43, 0), (25, 0)), ((43, 0), (48, 0)), ((7, 0), (2, -1)), ((7, 0), (3, 0)), ((7, 0), (7, 0)), ((7, 0), (9, 0)),
  ((7, 1), (10, 0)), ((7, 2), (10, 0)), ((7, 3), (10, 0)), ((7, 4), (10, 0)), ((88, 0), (0, 0)), ((88, 0), (1, 0)), ((88, 0), (2, 0)), ((88, 0), (3, 0))]
set_option maxRecDepth 1000000 in
theorem ini_lo : ∀ q ∈ iniL, q.1.1 < 98 := by decide +kernel
set_option maxRecDepth 1000000 in
theorem iS4 : ∀ q ∈ iniL, gI hS4 q.1 q.2.1 = q.2.2 := by decide +kernel
set_option maxRecDepth 1000000 in
theorem ini_22 : ∀ k, k < 6 → ((22, 0), (k, (-1 : Int32))) ∈ iniL := by decide +kernel
set_option maxRecDepth 1000000 in
theorem ini_im : ∀ j, j < 4 → ((7, j + 1), (10, (0 : Int32))) ∈ iniL ∧ ((88, 0), (j, (0 : Int32))) ∈ iniL := by decide +kernel
theorem no0 {P : Prop} {k : Nat} (h : k < 0) : P := absurd h (Nat.not_lt_zero k)
set_option maxRecDepth 100000 in
theorem rel_G {I : IT} (z : ∀ q ∈ iniL, I q.1 q.2.1 = q.2.2) : Rel I I := by
  have f : ∀ (s n k : Nat) (x : Int32), ((s, n), (k, x)) ∈ iniL → I (s, n) k = x := fun s n k x h => z _ h
  have a1 : I (1, 0) 1 = 0 := f 1 0 1 0 (by decide +kernel)
  have a2 : I (43, 0) 26 = 0 := f 43 0 26 0 (by decide +kernel)
  have a3 : I (0, 0) 2 = 0 := f 0 0 2 0 (by decide +kernel)
  have a4 : I (43, 0) 30 = 0 := f 43 0 30 0 (by decide +kernel)
  have a5 : I (43, 0) 35 = 11 := f 43 0 35 11 (by decide +kernel)
  have b0 : scC I 0 8 0 = 0 := f 8 0 0 0 (by decide +kernel)
  have b1 : scC I 0 8 1 = 0 := f 8 0 1 0 (by decide +kernel)
  have b2 : scC I 0 8 2 = 0 := f 8 0 2 0 (by decide +kernel)
  have b3 : scC I 0 8 3 = 0 := f 8 0 3 0 (by decide +kernel)
  have b4 : scC I 0 8 4 = 0 := f 8 0 4 0 (by decide +kernel)
  have m0 : scM I 44 0 = 0 := f 44 0 0 0 (by decide +kernel)
  have m1 : scM I 44 1 = 0 := f 44 0 1 0 (by decide +kernel)
  have m2 : scM I 44 2 = 0 := f 44 0 2 0 (by decide +kernel)
  have m3 : scM I 44 3 = 0 := f 44 0 3 0 (by decide +kernel)
  have m4 : scM I 44 4 = 0 := f 44 0 4 0 (by decide +kernel)
  have m5 : scM I 44 5 = 0 := f 44 0 5 0 (by decide +kernel)
  have m6 : scM I 44 6 = 0 := f 44 0 6 0 (by decide +kernel)
  have m7 : scM I 44 7 = 0 := f 44 0 7 0 (by decide +kernel)
  have m8 : scM I 44 8 = 0 := f 44 0 8 0 (by decide +kernel)
  have m9 : scM I 44 9 = 0 := f 44 0 9 0 (by decide +kernel)
  have m10 : scM I 44 10 = 0 := f 44 0 10 0 (by decide +kernel)
  have m11 : scM I 44 11 = 0 := f 44 0 11 0 (by decide +kernel)
  have m12 : scM I 44 12 = -1 := f 44 0 12 (-1) (by decide +kernel)
  have w0 : scC I 0 17 0 = 0 := f 17 0 0 0 (by decide +kernel)
  have w1 : scC I 0 17 1 = 0 := f 17 0 1 0 (by decide +kernel)
  have w2 : scC I 0 17 2 = 0 := f 17 0 2 0 (by decide +kernel)
  have w3 : scC I 0 17 3 = 0 := f 17 0 3 0 (by decide +kernel)
  have n25 : scM I 43 25 = 0 := f 43 0 25 0 (by decide +kernel)
  have n48 : scM I 43 48 = 0 := f 43 0 48 0 (by decide +kernel)
  have s2 : scC I 0 7 2 = -1 := f 7 0 2 (-1) (by decide +kernel)
  have s3 : scC I 0 7 3 = 0 := f 7 0 3 0 (by decide +kernel)
  have s7 : scC I 0 7 7 = 0 := f 7 0 7 0 (by decide +kernel)
  have s9 : scC I 0 7 9 = 0 := f 7 0 9 0 (by decide +kernel)
  have o22 : ∀ k, k < 6 → scC I 0 22 k = -1 := fun k hk => f 22 0 k (-1) (ini_22 k hk)
  have i7 : ∀ j, j < 4 → I (7, j + 1) 10 = 0 := fun j hj => f 7 (j + 1) 10 0 (ini_im j hj).1
  have i8 : ∀ j, j < 4 → I (88, 0) j = 0 := fun j hj => f 88 0 j 0 (ini_im j hj).2
  have hMp : MpR (scC I 0) (scM I) 0 := ⟨fun a b ha => no0 ha, fun a ha => no0 ha, fun a b ha => no0 ha, fun a ha => no0 ha, fun a b e ha => no0 ha, fun a ha => no0 ha, ⟨0, by decide, m2, rfl⟩⟩
  have hRo : RoR (scC I 0) (scM I) 0 0 0 := ⟨⟨by decide, by decide, by decide, fun h => h⟩, ⟨b1.trans m0.symm, b2, m1, b3, m3, b4, m4⟩, hMp, fun k hk => no0 hk, fun k hk => no0 hk, fun k hk => no0 hk⟩
  have hWk : WkR (scC I 0) (scM I) 0 0 0 10 := ⟨w0.trans m5.symm, ⟨0, by decide, w1, m6⟩, ⟨0, by decide, w2, m7⟩, ⟨0, by decide, w3, m8⟩, ⟨0, by decide, m9, fun k hk => no0 hk⟩, fun w hw => no0 hw, fun k hk => no0 hk, fun k _ hk => o22 k hk⟩
  have hSc : ScR (scC I 0) (scM I) 0 := ⟨0, 0, 0, hRo, hWk, ⟨0, by decide, w0⟩, ⟨b0.trans n25.symm, Or.inl b0⟩, ⟨s2.trans m12.symm, Or.inl s2⟩, ⟨s3.trans m11.symm, fun q => (by rw [s3] at q; exact absurd q (by decide))⟩, ⟨0, by decide, s7, m10, fun i hi => no0 hi⟩, ⟨0, by decide, s9, n48, fun j hj => no0 hj⟩⟩
  exact ⟨0, ⟨0, by decide, a1, a2, fun k hk => no0 hk⟩, ⟨by decide, a3, a4, a5, fun r hr => no0 hr⟩, hSc, fun j hj => ⟨⟨(i7 j hj).trans (i8 j hj).symm, Or.inl (i7 j hj)⟩, fun q => absurd (q.symm.trans (i7 j hj)) (by decide)⟩⟩
theorem I00_lo (h4 : Hp) (S : IT) (a : Ad) (j : Nat) (h : a.1 < 98) : I00 h4 S a j = gI h4 a j := if_neg (Nat.not_le.mpr h)
theorem I00_hi (h4 : Hp) (S : IT) (a : Ad) (j : Nat) (h : 98 ≤ a.1) : I00 h4 S a j = S a j := if_pos h
theorem rel_0 (S : IT) : Rel (I00 hS4 S) (I00 hS4 S) := rel_G fun q hq => (I00_lo hS4 S q.1 q.2.1 (ini_lo q hq)).trans (iS4 q hq)
