/-! FEED -/
def bC (x s : Int32) : Int32 := ((x.toUInt32 >>> (s.toUInt32 &&& Int32.toUInt32 31)).toInt32) &&& 255
def bM (x s : Int32) : Int32 := ((x >>> (s &&& 31)).toInt8.toInt32).toInt8.toInt32
theorem and255 (y : Int32) : ∃ b, b < 256 ∧ (y &&& 255) = nJ b := by
  have h0 : (y &&& 255).toBitVec = y.toBitVec &&& 255#32 := rfl
  have hl : (y &&& 255).toBitVec.toNat < 256 := by
    rw [h0, BitVec.toNat_and]
    exact Nat.lt_of_le_of_lt Nat.and_le_right (by decide)
  refine ⟨(y &&& 255).toBitVec.toNat, hl, ?_⟩
  apply Int32.toBitVec_inj.mp
  show (y &&& 255).toBitVec = BitVec.ofNat 32 _
  rw [BitVec.ofNat_toNat, BitVec.setWidth_eq]
theorem low8k (y : BitVec 32) (s : Nat) (hs : s ≤ 24) : (y.sshiftRight s).signExtend 8 = ((y >>> s) &&& 255#32).signExtend 8 := by
  rw [BitVec.signExtend_eq_setWidth_of_le _ (by decide), BitVec.signExtend_eq_setWidth_of_le _ (by decide)]
  apply BitVec.eq_of_getLsbD_eq
  intro i hi
  have h255 : (255#32).getLsbD i = true := by
    have : ∀ i, i < 8 → (255#32).getLsbD i = true := by decide
    exact this i hi
  rw [BitVec.getLsbD_setWidth, BitVec.getLsbD_setWidth, BitVec.getLsbD_and, h255, BitVec.getLsbD_sshiftRight, BitVec.getLsbD_ushiftRight]
  have h1 : ¬ 32 ≤ i := by omega
  have h2 : s + i < 32 := by omega
  simp [h1, h2]
theorem low8 (x : Int32) (s : Nat) (hs : s = 24 ∨ s = 16 ∨ s = 8 ∨ s = 0) : (x >>> (nJ s &&& 31)).toInt8 = (bC x (nJ s)).toInt8 := by
  apply Int8.toBitVec_inj.mp
  rw [Int32.toBitVec_toInt8, Int32.toBitVec_toInt8, Int32.toBitVec_shiftRight]
  show (x.toBitVec.sshiftRight ((nJ s &&& 31).toBitVec.smod 32).toNat).signExtend 8 = ((x.toBitVec >>> (((nJ s).toUInt32 &&& Int32.toUInt32 31).toBitVec % 32).toNat) &&& 255#32).signExtend 8
  have h1 : ((nJ s &&& 31).toBitVec.smod 32).toNat = s := by
    rcases hs with rfl | rfl | rfl | rfl <;> decide
  have h2 : (((nJ s).toUInt32 &&& Int32.toUInt32 31).toBitVec % 32).toNat = s := by
    rcases hs with rfl | rfl | rfl | rfl <;> decide
  rw [h1, h2]
  exact low8k _ s (by omega)
theorem byte_rel (x : Int32) (s : Nat) (hs : s = 24 ∨ s = 16 ∨ s = 8 ∨ s = 0) : ∃ b, b < 256 ∧ bC x (nJ s) = nJ b ∧ bM x (nJ s) = (nJ b).toInt8.toInt32 := by
  obtain ⟨b, hb, e⟩ := and255 ((x.toUInt32 >>> ((nJ s).toUInt32 &&& Int32.toUInt32 31)).toInt32)
  have e : bC x (nJ s) = nJ b := e
  refine ⟨b, hb, e, ?_⟩
  unfold bM
  rw [low8 x s hs, e, Int8.toInt8_toInt32]
theorem addC1 {I : IT} {J : JT} (d n : Nat) (x s : Int32) (hn : n < 400) (e : I (1, 0) 1 = nJ n) (hs : ¬ s < 0) : ev d mTe_add 2 [vR (1, 0), vI x, vI s] [] (hh I J) = ev d mTe_add 2 [vR (1, 0), vI x, vI (s + (-8))] [] (hh (up2 (up2 I (2, 0) n (bC x s)) (1, 0) 1 (nJ (n + 1))) J) := by
  rw [eTe_add_2, if_neg hs, e, if_pos (lt_nL (b := 400) hn (by decide)), bnd hn (by omega), nJ_nat (by omega), nJ_succ]
  rfl
theorem addM1 {A : IT} {B : JT} (d n : Nat) (x s : Int32) (hn : n < 400) (e : A (43, 0) 26 = nJ n) (hs : ¬ s < 0) : ev d mMo_put 2 [vR (43, 0), vI x, vI s] [] (hh A B) = ev d mMo_put 2 [vR (43, 0), vI x, vI (s + (-8))] [] (hh (up2 (up2 A (68, 0) n (bM x s)) (43, 0) 26 (nJ (n + 1))) B) := by
  rw [eMo_put_2, if_neg hs, e, bnd hn (by omega), nJ_nat (by omega), nJ_succ]
  rfl
/-- the tape and nothing else -/
def TpF (I A I' A' : IT) : Prop := (∀ a k, a.1 ≠ 1 → a.1 ≠ 2 → I' a k = I a k) ∧ (∀ a k, ¬ (a = (43, 0) ∧ k = 26) → a.1 ≠ 68 → A' a k = A a k)
def TpN (I A : IT) (n : Nat) : Prop := n ≤ 400 ∧ I (1, 0) 1 = nJ n ∧ A (43, 0) 26 = nJ n ∧ ∀ k, k < n → ∃ b, b < 256 ∧ I (2, 0) k = nJ b ∧ A (68, 0) k = (nJ b).toInt8.toInt32
theorem TpN.one {I A : IT} {n : Nat} {b c : Int32} (h : TpN I A n) (hn : n < 400) (hb : ∃ q, q < 256 ∧ b = nJ q ∧ c = (nJ q).toInt8.toInt32) : TpN (up2 (up2 I (2, 0) n b) (1, 0) 1 (nJ (n + 1))) (up2 (up2 A (68, 0) n c) (43, 0) 26 (nJ (n + 1))) (n + 1) := by
  obtain ⟨h1, h2, h3, h4⟩ := h
  refine ⟨by omega, up_same _ _ _ _, up_same _ _ _ _, fun k hk => ?_⟩
  rw [up_ne _ _ _ _ (show ((2, 0) : Ad) ≠ (1, 0) by decide), up_ne _ _ _ _ (show ((68, 0) : Ad) ≠ (43, 0) by decide)]
  by_cases e : k = n
  · subst e
    rw [up_same, up_same]
    exact hb
  · rw [up_neK _ _ e, up_neK _ _ e]
    exact h4 k (by omega)
theorem TpF.one {I A : IT} {n : Nat} {b c : Int32} : TpF I A (up2 (up2 I (2, 0) n b) (1, 0) 1 (nJ (n + 1))) (up2 (up2 A (68, 0) n c) (43, 0) 26 (nJ (n + 1))) :=
  ⟨fun a k a1 a2 => by rw [up_ne _ _ _ _ (fun z => a1 (by rw [z])), up_ne _ _ _ _ (fun z => a2 (by rw [z]))], fun a k a1 a2 => by rw [up_at, if_neg a1, up_ne _ _ _ _ (fun z => a2 (by rw [z]))]⟩
theorem TpF.tr {I A I' A' I'' A'' : IT} (h : TpF I A I' A') (h' : TpF I' A' I'' A'') : TpF I A I'' A'' := ⟨fun a k a1 a2 => (h'.1 a k a1 a2).trans (h.1 a k a1 a2), fun a k a1 a2 => (h'.2 a k a1 a2).trans (h.2 a k a1 a2)⟩
theorem add_R2 {I A : IT} {J B : JT} {K K' : Hp → Option Rs} {Q : Option Vl → IT → JT → Option Vl → IT → JT → Prop} (d d' n : Nat) (x : Int32) (h : TpN I A n) (hn : n + 4 ≤ 400) (hK : ∀ I1 A1, TpN I1 A1 (n + 4) → TpF I A I1 A1 → R2 (K (hh I1 J)) (K' (hh A1 B)) Q) :
    R2 (bV (ev d mTe_add 0 [vR (1, 0), vI x, vU] [] (hh I J)) (fun h => K h)) (bV (ev d' mMo_put 0 [vR (43, 0), vI x, vU] [] (hh A B)) (fun h => K' h)) Q := by
  have b24 := byte_rel x 24 (by decide)
  have b16 := byte_rel x 16 (by decide)
  have b8 := byte_rel x 8 (by decide)
  have b0 := byte_rel x 0 (by decide)
  have s1 := h.one (by omega) b24
  have s2 := s1.one (by omega) b16
  have s3 := s2.one (by omega) b8
  have s4 := s3.one (by omega) b0
  rw [eTe_add_0, show (24 : Int32) = nJ 24 from rfl, addC1 d n x (nJ 24) (by omega) h.2.1 (by decide), show nJ 24 + (-8) = nJ 16 by decide, addC1 d (n + 1) x (nJ 16) (by omega) s1.2.1 (by decide), show nJ 16 + (-8) = nJ 8 by decide, addC1 d (n + 1 + 1) x (nJ 8) (by omega) s2.2.1 (by decide), show nJ 8 + (-8) = nJ 0 by decide, addC1 d (n + 1 + 1 + 1) x (nJ 0) (by omega) s3.2.1 (by decide), eTe_add_2, if_pos (by decide)]
  rw [eMo_put_0, show (24 : Int32) = nJ 24 from rfl, addM1 d' n x (nJ 24) (by omega) h.2.2.1 (by decide), show nJ 24 + (-8) = nJ 16 by decide, addM1 d' (n + 1) x (nJ 16) (by omega) s1.2.2.1 (by decide), show nJ 16 + (-8) = nJ 8 by decide, addM1 d' (n + 1 + 1) x (nJ 8) (by omega) s2.2.2.1 (by decide), show nJ 8 + (-8) = nJ 0 by decide, addM1 d' (n + 1 + 1 + 1) x (nJ 0) (by omega) s3.2.2.1 (by decide), eMo_put_2, if_pos (by decide)]
  exact hK _ _ s4 (TpF.one.tr (TpF.one.tr (TpF.one.tr TpF.one)))
theorem t_feed {I A : IT} {J B : JT} (d : Nat) (x1 x2 x3 x4 x5 : Int32) (h : Rel I A) : Cal (ev (d + 1) mPx_feed 0 [vR (0, 0), vI x1, vI x2, vI x3, vI x4, vI x5] [] (hh I J)) (ev (d + 1) mMo_feed 0 [vR (43, 0), vI x1, vI x2, vI x3, vI x4, vI x5] [] (hh A B)) I A := by
  obtain ⟨q, ⟨n, hn, e1, e2, hb⟩, -⟩ := id h
  have hs : nJ n + 20 = nJ (n + 20) := nJ_add n 20
  rw [ePx_feed_0, eMo_feed_0, e1, e2, hs]
  by_cases h4 : 400 < n + 20
  · rw [if_pos (lt_Ln (a := 400) h4 (by omega)), if_pos (lt_Ln (a := 400) h4 (by omega))]
    exact Cal.ro rfl rfl h
  rw [if_neg (nlt_Ln (a := 400) (by omega) (by decide)), if_neg (nlt_Ln (a := 400) (by omega) (by decide))]
  refine add_R2 d d n x1 ⟨hn, e1, e2, hb⟩ (by omega) fun I1 A1 t1 f1 => ?_
  refine add_R2 d d (n + 4) x2 t1 (by omega) fun I2 A2 t2 f2 => ?_
  refine add_R2 d d (n + 4 + 4) x3 t2 (by omega) fun I3 A3 t3 f3 => ?_
  refine add_R2 d d (n + 4 + 4 + 4) x4 t3 (by omega) fun I4 A4 t4 f4 => ?_
  refine add_R2 d d (n + 4 + 4 + 4 + 4) x5 t4 (by omega) fun I5 A5 t5 f5 => ?_
  obtain ⟨u1, u2, u3, u4⟩ := t5
  have ff := f1.tr (f2.tr (f3.tr (f4.tr f5)))
  rw [gI_hh, gJ_hh, gI_hh, gJ_hh, u2, u3]
  exact R2.ret ⟨⟨_, rfl, rfl⟩, Rel.tape ff.1 ff.2 h ⟨_, u1, u2, u3, u4⟩, fun a ha => funext fun k => ff.1 a k (by omega) (by omega), fun a ha => funext fun k => ff.2 a k (fun z => by rw [z.1] at ha; simp at ha) (by omega)⟩
