/-- the last act of a clause in the class, as it is written -/
def clT (H : IT) (J : JT) (r : Nat) : Option Rs := if ((up2 H (37, r) 4 ((H (37, r) 4) + 1)) (37, r) 4) < 0 ∨ 13 ≤ ((up2 H (37, r) 4 ((H (37, r) 4) + 1)) (37, r) 4).toNatClampNeg then none else some (none, hh (up2 (up2 H (37, r) 4 ((H (37, r) 4) + 1)) (39, r) (((up2 H (37, r) 4 ((H (37, r) 4) + 1)) (37, r) 4).toNatClampNeg) ((up2 H (37, r) 4 ((H (37, r) 4) + 1)) (37, r) 1)) J)
theorem clT_eq {H : IT} {J : JT} {r c s : Nat} (h4 : H (37, r) 4 = nJ c) (h1 : H (37, r) 1 = nJ s) (hc : c < 12) : clT H J r = some (none, hh (fnI H r c s) J) := cl_tail h4 h1 hc
theorem cl_go {I I2 : IT} {J : JT} {by_ : Nat → Nat} {n tk i r c sz : Nat} (d : Nat) (hT : TkS I by_ n 1 tk) (hi : i < tk) (htk : tk ≤ 400) (e6 : I (1, 0) 6 = nJ i) (e7 : I (1, 0) 7 = 0) (hgo : std by_ n (tpk by_ n i) (nthD txL 8 []) = true) (e4 : I (37, r) 4 = nJ c) (hc : c < 12) (e1 : I (37, r) 1 = nJ sz) (hs : ev d mRu_readSum 0 [vR (37, r), vR (1, 0), vU, vU, vU, vU] [] (hh (up2 (up2 I (1, 0) 6 (nJ (i + 1))) (39, r) c (nJ sz)) J) = some (none, hh I2 J)) (e4' : I2 (37, r) 4 = nJ c) : ev (d + 1) mRu_readClause 0 [vR (37, r), vR (1, 0)] [] (hh I J) = if I2 (1, 0) 7 = 0 then bI (ev d mTe_isWord 0 [vR (1, 0), vI 12] [] (hh (up2 I2 (40, r) c (I2 (37, r) 1)) J)) (fun r5 h5 => if r5 = 0 then clT (gI h5) (gJ h5) r else bV (ev d mTe_skip 0 [vR (1, 0)] [] (hh (gI h5) (gJ h5))) (fun h6 => bV (ev d mRu_readTest 0 [vR (37, r), vR (1, 0), vI 0, vU, vU, vU] [] (hh (gI h6) (gJ h6))) (fun h7 => clT (gI h7) (gJ h7) r))) else clT (up2 I2 (40, r) c (I2 (37, r) 1)) J r := by
  have w11 : ev d mTe_isWord 0 [vR (1, 0), vI 11] [] (hh I J) = some (some (vI 1), hh I J) := by
    have := cIsWord (J := J) d 11 (by decide) hT (Nat.le_of_lt hi) e6
    rw [if_pos (show std by_ n (tpk by_ n i) (nthD wlU 11 []) = true from hgo)] at this
    exact this
  have o : ∀ k, up2 I (1, 0) 6 (nJ (i + 1)) (37, r) k = I (37, r) k := fun k => up_ne _ _ _ _ (fun z => by have := (Prod.mk.inj z).1; omega)
  rw [eRu_readClause_0, w11, bI_some, if_neg (show ¬ (1 : Int32) = 0 by decide), gI_hh, gJ_hh, e4, if_pos (lt_nL (b := 12) hc (by decide)), cSkip d e7 e6 hT.2.1 hi htk, bV_some, gI_hh, gJ_hh, o, o, e4, e1, bnd (show c < 13 by omega) (by decide), nJ_nat (by omega), hs, bV_some]
  simp only [gI_hh, gJ_hh]
  rw [e4', bnd hc (by decide), nJ_nat (by omega)]
  have e5 : up2 I2 (40, r) c (I2 (37, r) 1) (37, r) 4 = nJ c := (up_ne _ _ _ _ (fun z => by have := (Prod.mk.inj z).1; omega)).trans e4'
  unfold clT
  rw [e5]
theorem cl_goM {A A2 : IT} {B : JT} {by_ : Nat → Nat} {n s r c sz : Nat} (d : Nat) (hM : BtM (spp A s) by_ n) (hs : s ≤ n) (hbl : ev (d + 1) mMo_blanks 0 [vR (43, 0)] [] (hh A B) = some (none, hh (spp A s) B)) (hgo : std by_ n s (nthD txL 8 []) = true) (hc : c < 12) (hr : r < 6) (e29 : A (43, 0) 29 = nJ r) (e31 : A (43, 0) 31 = nJ sz) (hsm : ev (d + 1) mMo_sum 0 [vR (43, 0), vU] [] (hh (up2 (spp A (s + 2)) (72, 0) (12 * r + c) (nJ sz)) B) = some (none, hh A2 B)) : ev (d + 2) mMo_ruleClause 0 [vR (43, 0), vI (nJ c), vU, vU] [] (hh A B) = if A2 (43, 0) 28 = 0 then bI (ev (d + 1) mMo_takes 0 [vR (43, 0), vR (99, 17), vU] [] (hh (up2 A2 (73, 0) (12 * r + c) (A2 (43, 0) 31)) B)) (fun r6 h6 => if r6 = 0 then some (none, hh (up2 (gI h6) (74, 0) (12 * r + c) ((gI h6) (43, 0) 31)) (gJ h6)) else bV (ev (d + 1) mMo_test 0 [vR (43, 0), vU, vU, vU, vU] [] (hh (gI h6) (gJ h6))) (fun h7 => some (none, hh (up2 (gI h7) (74, 0) (12 * r + c) ((gI h7) (43, 0) 31)) (gJ h7)))) else some (none, hh (up2 (up2 A2 (73, 0) (12 * r + c) (A2 (43, 0) 31)) (74, 0) (12 * r + c) (A2 (43, 0) 31)) B) := by
  have o : ∀ k, k ≠ 27 → spp A s (43, 0) k = A (43, 0) k := fun k hk => up_neK _ _ hk
  have hix : 12 * spp A s (43, 0) 29 + nJ c = nJ (12 * r + c) := by
    rw [o 29 (by decide), e29, show (12 : Int32) * nJ r = nJ (12 * r) from nJ_mul 12 r, nJ_add]
  have hpp : up2 (spp A s) (43, 0) 27 (spp A s (43, 0) 27 + 2) = spp A (s + 2) := by
    rw [spp_27, show nJ s + 2 = nJ (s + 2) from nJ_add s 2]
    exact spp_spp A s (s + 2)
  rw [eMo_ruleClause_0, hbl, bV_some, gI_hh, gJ_hh, mStood (d + 1) hM (spp_27 _ _) hs (by decide) (by decide), bI_some, bif2, if_pos hgo, if_neg (ne_nL (b := 12) (by omega) (by omega) (by decide))]
  simp only [gI_hh, gJ_hh]
  rw [hix, hpp, o 31 (by decide), e31, nJ_nat (show 12 * r + c < 2147483648 by omega), bnk (show 12 * r + c < 72 by omega) (by decide), hsm, bV_some]
  simp only [gI_hh, gJ_hh]
  simp only [bnk (show 12 * r + c < 72 by omega) (show (72 : Nat) ≤ 100000 by decide)]
