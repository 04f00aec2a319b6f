/-! THE RELATION between the class's cells (slots 0 to 42) and the reference's (43 to 89), over two heaps -/
abbrev FT : Type := Nat → Nat → Int32
/-- the rows of a scene (an instance) of the class -/
def scC (I : IT) (n : Nat) : FT := fun f k => bif Nat.ble 7 f && Nat.ble f 27 then I (f, n) k else 0
/-- the rows of the reference that go on -/
def scM (A : IT) : FT := fun f k => bif Nat.beq f 43 then (bif Nat.beq k 25 || Nat.beq k 48 then A (43, 0) k else 0) else bif (Nat.ble 44 f && Nat.ble f 60) || Nat.beq f 78 then A (f, 0) k else 0
/-- where a row begins in an image of the reference -/
def ofs (f : Nat) : Nat := match f with
  | 44 => 0
  | 51 => 13
  | 52 => 19
  | 53 => 25
  | 54 => 28
  | 55 => 31
  | 56 => 34
  | 43 => 37
  | 45 => 38
  | 46 => 46
  | 47 => 110
  | 48 => 174
  | 49 => 180
  | 50 => 186
  | 57 => 192
  | 58 => 202
  | 59 => 212
  | 60 => 222
  | _ => 225
def im0 (A : IT) (i : Nat) : Int32 := bif Nat.ble 3400 i then 0 else A (87, 0) i
def imM (A : IT) (j : Nat) : FT := fun f k => bif Nat.beq f 43 then (bif Nat.beq k 25 then A (89, 0) j else im0 A (850 * j + 37)) else im0 A (850 * j + ofs f + k)
/-- a row of the past -/
def ofc (f : Nat) : Nat := match f with
  | 17 => 0
  | 18 => 4
  | 19 => 7
  | 20 => 10
  | 21 => 13
  | 22 => 16
  | _ => 22
def pcC (c : FT) (j : Nat) : FT := fun f k => c 27 (28 * j + ofc f + k)
def ofm (f : Nat) : Nat := match f with
  | 51 => 5
  | 52 => 11
  | 53 => 17
  | 54 => 20
  | 55 => 23
  | _ => 26
def pcM (m : FT) (j : Nat) : FT := fun f k => bif Nat.beq f 44 then m 78 (29 * j + (k - 5)) else m 78 (29 * j + ofm f + k)
def dst (c : FT) (a b : Nat) : Nat := (c 11 (8 * a + b)).toNatClampNeg
def dyC (c : FT) (a b : Nat) : Nat := (c 10 (8 * a + b)).toNatClampNeg
def pop8 (z : Nat) : Nat := z % 2 + z / 2 % 2 + z / 4 % 2 + z / 8 % 2 + z / 16 % 2 + z / 32 % 2 + z / 64 % 2 + z / 128 % 2
def sumT (f : Nat → Nat) : Nat → Nat
  | 0 => 0
  | k + 1 => sumT f k + f k
/-- ways, days, distances -/
def MpR (c m : FT) (T : Nat) : Prop :=
  (∀ a b, a < T → b < T → dyC c a b < 10 ∧ c 10 (8 * a + b) = nJ (dyC c a b) ∧ m 46 (8 * a + b) = nJ (if dyC c a b = 0 then 10000 else dyC c a b)) ∧
  (∀ a, a < T → dyC c a a = 0) ∧
  (∀ a b, a < T → b < T → (dst c a b = 1000000 ∨ dst c a b < 2400) ∧ c 11 (8 * a + b) = nJ (dst c a b) ∧ m 47 (8 * a + b) = nJ (if dst c a b = 1000000 then 10000 else dst c a b)) ∧
  (∀ a, a < T → dst c a a = 0) ∧
  (∀ a b e, a < T → b < T → e < T → dst c a e ≤ dst c a b + dst c b e) ∧
  (∀ a, a < T → ∃ z, z < 256 ∧ c 12 a = nJ z ∧ ∀ b, b < 8 → z.testBit b = (Nat.blt b T && !Nat.beq (dyC c a b) 0)) ∧
  (∃ z, z < 1000 ∧ m 44 2 = nJ z ∧ sumT (fun t => pop8 (c 12 t).toNatClampNeg) T = 2 * z)
/-- roads -/
def RoR (c m : FT) (T S N : Nat) : Prop :=
  (T ≤ 8 ∧ S ≤ 6 ∧ N ≤ 3 ∧ (0 < N → 0 < T)) ∧
  (c 8 1 = m 44 0 ∧ c 8 2 = nJ T ∧ m 44 1 = nJ T ∧ c 8 3 = nJ S ∧ m 44 3 = nJ S ∧ c 8 4 = nJ N ∧ m 44 4 = nJ N) ∧
  MpR c m T ∧
  (∀ k, k < T → c 9 k = m 45 k ∧ ∃ p, p < 100 ∧ c 9 k = nJ p) ∧
  (∀ k, k < S → (c 13 k = m 48 k ∧ ∃ t, t < T ∧ c 13 k = nJ t) ∧ (c 14 k = m 49 k ∧ ∃ t, t < 300 ∧ c 14 k = nJ t) ∧ (c 15 k = m 50 k ∧ ∃ t, t < 100 ∧ c 15 k = nJ t)) ∧
  (∀ k, k < N → c 16 k = m 60 k ∧ ∃ t, t < 100 ∧ c 16 k = nJ t)
/-- the walk -/
def WkR (c m : FT) (T S N G : Nat) : Prop :=
  c 17 0 = m 44 5 ∧
  (∃ z, z < 64 ∧ c 17 1 = nJ z ∧ m 44 6 = nJ z) ∧
  (∃ z, z < 64 ∧ c 17 2 = nJ z ∧ m 44 7 = nJ z) ∧
  (∃ z, z < 64 ∧ c 17 3 = nJ z ∧ m 44 8 = nJ z) ∧
  (∃ z, z < 64 ∧ m 44 9 = nJ z ∧ ∀ k, k < S → (z.testBit k = true ↔ c 23 k ≠ -1)) ∧
  (∀ w, w < N → (c 18 w = m 53 w ∧ ∃ t, t < T ∧ c 18 w = nJ t) ∧ (c 19 w = m 54 w ∧ ∃ t, t < G ∧ c 19 w = nJ t) ∧ (c 20 w = m 55 w ∧ ∃ t, t < 10000 ∧ c 20 w = nJ t) ∧ c 21 w = m 56 w) ∧
  (∀ k, k < S → (c 22 k = m 51 k ∧ (c 22 k = -1 ∨ ∃ w, w < N ∧ c 22 k = nJ w)) ∧ (c 23 k = m 52 k ∧ (c 23 k = -1 ∨ ∃ w, w < N ∧ c 23 k = nJ w))) ∧
  (∀ k, S ≤ k → k < 6 → c 22 k = -1)
def DayOk (c : FT) : Prop := ∃ z, z < 1000 ∧ c 17 0 = nJ z
/-- a scene; q: how many rules there are -/
def ScR (c m : FT) (q : Nat) : Prop := ∃ T S N, RoR c m T S N ∧ WkR c m T S N 10 ∧ DayOk c ∧
  (c 8 0 = m 43 25 ∧ (c 8 0 = 0 ∨ c 8 0 = 1)) ∧
  (c 7 2 = m 44 12 ∧ (c 7 2 = -1 ∨ ∃ r, r < q ∧ c 7 2 = nJ r)) ∧
  (c 7 3 = m 44 11 ∧ ¬ c 7 3 < 0) ∧
  (∃ L, L ≤ 10 ∧ c 7 7 = nJ L ∧ m 44 10 = nJ L ∧ ∀ i, i < L → (c 24 i = m 57 i ∧ ∃ t, t < 61 ∧ c 24 i = nJ t) ∧ (c 25 i = m 58 i ∧ ∃ t, t < N ∧ c 25 i = nJ t) ∧ c 26 i = m 59 i) ∧
  (∃ P, P ≤ 20 ∧ c 7 9 = nJ P ∧ m 43 48 = nJ P ∧ ∀ j, j < P → WkR (pcC c j) (pcM m j) T S N 10 ∧ DayOk (pcC c j))
/-- the tape -/
def TpR (I A : IT) : Prop := ∃ n, n ≤ 400 ∧ I (1, 0) 1 = nJ n ∧ A (43, 0) 26 = nJ n ∧ ∀ k, k < n → ∃ b, b < 256 ∧ I (2, 0) k = nJ b ∧ A (68, 0) k = (nJ b).toInt8.toInt32
/-- one code -/
def CdR (x s v : Int32) : Prop :=
  (s = 0 ∧ ∃ n, n < 100000 ∧ v = nJ n ∧ x = nJ (1000 + n)) ∨ (s = 1 ∧ ∃ n, n < 11 ∧ v = nJ n ∧ x = nJ n) ∨
  (s = 2 ∧ x = 43) ∨ (s = 3 ∧ x = 45) ∨ (s = 4 ∧ x = 60) ∨ (s = 5 ∧ x = 316) ∨ (s = 6 ∧ x = 61) ∨ (s = 7 ∧ x = 318) ∨ (s = 8 ∧ x = 62) ∨
  (s = 9 ∧ x = 13) ∨ (s = 10 ∧ x = 14) ∨ (s = 11 ∧ x = 15) ∨ (s = 13 ∧ x = 42) ∨ (s = 14 ∧ x = 47) ∨ (s = 15 ∧ x = 37)
/-- what two values come to by a code of the class -/
def jnF (x : Int32) (a b : Int64) : Int64 :=
  if x = 43 then a + b else if x = 45 then a - b else if x = 42 then a * b else if x = 47 then (if b = 0 then 0 else a / b) else if x = 37 then (if b = 0 then 0 else a - a / b * b) else
  if x = 60 then (if a < b then 1 else 0) else if x = 316 then (if b < a then 0 else 1) else if x = 61 then (if a = b then 1 else 0) else if x = 318 then (if a < b then 0 else 1) else
  if x = 62 then (if b < a then 1 else 0) else if x = 14 then a &&& b else if x = 15 then a ||| b else 0
/-- a step over a stack of at most 40; the codes are the class's -/
def pxS (sn : Nat → Int64) (x : Int32) (st : List Int64) : Option (List Int64) :=
  if x < 11 ∨ 1000 ≤ x then (if st.length < 40 then some ((if x < 11 then sn x.toNatClampNeg else (x - 1000).toInt64) :: st) else none) else
  if x = 13 then (match st with
    | a :: l => some ((1 - a) :: l)
    | [] => none) else
  match st with
  | b :: a :: l => some (jnF x a b :: l)
  | _ => none
def pxG (sn : Nat → Int64) (cd : Nat → Int32) : Nat → Nat → List Int64 → Option (List Int64)
  | _, 0, st => some st
  | i, n + 1, st => (pxS sn (cd i) st).bind (pxG sn cd (i + 1) n)
/-- codes from a to b bring one value more on top, and take h places at most -/
def SgR (cd : Nat → Int32) (a b h : Nat) (P : Int64 → Prop) : Prop := a < b ∧ ∀ (sn : Nat → Int64) (st : List Int64), st.length + h ≤ 40 → ∃ v, P v ∧ pxG sn cd a (b - a) st = some (v :: st)
def ZO (v : Int64) : Prop := v = 0 ∨ v = 1
/-- a rule -/
def RuR (I A : IT) (r : Nat) : Prop := ∃ n z, n ≤ 12 ∧ z ≤ 300 ∧ I (37, r) 4 = nJ n ∧ A (71, 0) r = nJ n ∧
  (∀ j, j < z → CdR (I (38, r) j) (A (69, 0) (300 * r + j)) (A (70, 0) (300 * r + j))) ∧
  ∀ i, i < n → ∃ a b e, e ≤ z ∧ I (39, r) i = nJ a ∧ I (40, r) i = nJ b ∧ I (39, r) (i + 1) = nJ e ∧ A (72, 0) (12 * r + i) = nJ a ∧ A (73, 0) (12 * r + i) = nJ b ∧ A (74, 0) (12 * r + i) = nJ e ∧
    SgR (I (38, r)) a b 40 (fun _ => True) ∧ (b = e ∨ SgR (I (38, r)) b e 40 ZO)
def RusR (I A : IT) (q : Nat) : Prop := q ≤ 6 ∧ I (0, 0) 2 = nJ q ∧ A (43, 0) 30 = nJ q ∧ A (43, 0) 35 = 11 ∧ ∀ r, r < q → RuR I A r
def ImR (I A : IT) (q : Nat) : Prop := ∀ j, j < 4 → (I (7, j + 1) 10 = A (88, 0) j ∧ (I (7, j + 1) 10 = 0 ∨ I (7, j + 1) 10 = 1)) ∧ (I (7, j + 1) 10 = 1 → ScR (scC I (j + 1)) (imM A j) q)
def Rel (I A : IT) : Prop := ∃ q, TpR I A ∧ RusR I A q ∧ ScR (scC I 0) (scM A) q ∧ ImR I A q
def FrC (I I' : IT) : Prop := ∀ a : Ad, 43 ≤ a.1 → I' a = I a
def FrM (A A' : IT) : Prop := ∀ a : Ad, (a.1 < 43 ∨ 90 ≤ a.1) → A' a = A a
/-- what is owed of each call -/
def Cal (o o' : Option Rs) (I A : IT) : Prop := R2 o o' (fun v I' _ v' A' _ => (∃ x, v = some (vI x) ∧ v' = some (vI x)) ∧ Rel I' A' ∧ FrC I I' ∧ FrM A A')
/-! what the relation looks at -/
def KC (a : Ad) (k : Nat) : Prop := (a = (0, 0) ∧ k = 2) ∨ (a = (1, 0) ∧ k = 1) ∨ a = (2, 0) ∨ (7 ≤ a.1 ∧ a.1 ≤ 27 ∧ a.2 ≤ 4) ∨ (37 ≤ a.1 ∧ a.1 ≤ 40)
def KM (a : Ad) (k : Nat) : Prop := (a = (43, 0) ∧ (k = 25 ∨ k = 26 ∨ k = 30 ∨ k = 35 ∨ k = 48)) ∨ (44 ≤ a.1 ∧ a.1 ≤ 60) ∨ (68 ≤ a.1 ∧ a.1 ≤ 74) ∨ a.1 = 78 ∨ (a.1 = 87 ∧ k < 3400) ∨ a.1 = 88 ∨ a.1 = 89
theorem scC_ext {I I' : IT} {n : Nat} (h : ∀ a k, 7 ≤ a.1 → a.1 ≤ 27 → a.2 = n → I' a k = I a k) : scC I' n = scC I n := by
  funext f k
  unfold scC
  cases hb : (Nat.ble 7 f && Nat.ble f 27)
  · rfl
  · simp only [Bool.and_eq_true, Nat.ble_eq] at hb
    exact h (f, n) k hb.1 hb.2 rfl
theorem scM_ext {A A' : IT} (h : ∀ a k, (a = (43, 0) ∧ (k = 25 ∨ k = 48)) ∨ (44 ≤ a.1 ∧ a.1 ≤ 60) ∨ a.1 = 78 → A' a k = A a k) : scM A' = scM A := by
  funext f k
  unfold scM
  cases h1 : Nat.beq f 43
  · cases h2 : ((Nat.ble 44 f && Nat.ble f 60) || Nat.beq f 78)
    · rfl
    · simp only [Bool.or_eq_true, Bool.and_eq_true, Nat.ble_eq, Nat.beq_eq] at h2
      rcases h2 with h2 | h2
      · exact h (f, 0) k (Or.inr (Or.inl h2))
      · exact h (f, 0) k (Or.inr (Or.inr h2))
  · cases h2 : (Nat.beq k 25 || Nat.beq k 48)
    · rfl
    · simp only [Bool.or_eq_true, Nat.beq_eq] at h2
      exact h (43, 0) k (Or.inl ⟨rfl, h2⟩)
theorem RuR_ext {I I' A A' : IT} {r : Nat} (hI : ∀ a k, 37 ≤ a.1 → a.1 ≤ 40 → a.2 = r → I' a k = I a k) (hA : ∀ a k, 69 ≤ a.1 → a.1 ≤ 74 → A' a k = A a k) (h : RuR I A r) : RuR I' A' r := by
  have e1 : ∀ s, 37 ≤ s → s ≤ 40 → I' (s, r) = I (s, r) := fun s h1 h2 => funext fun k => hI (s, r) k h1 h2 rfl
  have e2 : ∀ s, 69 ≤ s → s ≤ 74 → A' (s, 0) = A (s, 0) := fun s h1 h2 => funext fun k => hA (s, 0) k h1 h2
  unfold RuR at h ⊢
  rw [e1 37 (by decide) (by decide), e1 38 (by decide) (by decide), e1 39 (by decide) (by decide), e1 40 (by decide) (by decide), e2 69 (by decide) (by decide), e2 70 (by decide) (by decide), e2 71 (by decide) (by decide), e2 72 (by decide) (by decide), e2 73 (by decide) (by decide), e2 74 (by decide) (by decide)]
  exact h
theorem ScR_mono {c m : FT} {q q' : Nat} (hq : q ≤ q') (h : ScR c m q) : ScR c m q' := by
  obtain ⟨T, S, N, h1, h2, h3, h4, ⟨h5, h6⟩, h7⟩ := h
  exact ⟨T, S, N, h1, h2, h3, h4, ⟨h5, h6.imp id fun ⟨r, hr, e⟩ => ⟨r, by omega, e⟩⟩, h7⟩
theorem TpR_ext {I I' A A' : IT} (hI : ∀ a k, KC a k → I' a k = I a k) (hA : ∀ a k, KM a k → A' a k = A a k) (h : TpR I A) : TpR I' A' := by
  obtain ⟨n, hn, e1, e2, hb⟩ := h
  refine ⟨n, hn, (hI (1, 0) 1 (Or.inr (Or.inl ⟨rfl, rfl⟩))).trans e1, (hA (43, 0) 26 (Or.inl ⟨rfl, Or.inr (Or.inl rfl)⟩)).trans e2, fun k hk => ?_⟩
  obtain ⟨b, h1, h2, h3⟩ := hb k hk
  exact ⟨b, h1, (hI (2, 0) k (Or.inr (Or.inr (Or.inl rfl)))).trans h2, (hA (68, 0) k (Or.inr (Or.inr (Or.inl ⟨by decide, by decide⟩)))).trans h3⟩
theorem RusR_ext {I I' A A' : IT} {q : Nat} (hI : ∀ a k, (a = (0, 0) ∧ k = 2) ∨ (37 ≤ a.1 ∧ a.1 ≤ 40) → I' a k = I a k) (hA : ∀ a k, (a = (43, 0) ∧ (k = 30 ∨ k = 35)) ∨ (69 ≤ a.1 ∧ a.1 ≤ 74) → A' a k = A a k) (h : RusR I A q) : RusR I' A' q := by
  obtain ⟨h0, h1, h2, h3, h4⟩ := h
  exact ⟨h0, (hI (0, 0) 2 (Or.inl ⟨rfl, rfl⟩)).trans h1, (hA (43, 0) 30 (Or.inl ⟨rfl, by decide⟩)).trans h2, (hA (43, 0) 35 (Or.inl ⟨rfl, by decide⟩)).trans h3, fun r hr => RuR_ext (fun a k a1 a2 _ => hI a k (Or.inr ⟨a1, a2⟩)) (fun a k a1 a2 => hA a k (Or.inr ⟨a1, a2⟩)) (h4 r hr)⟩
theorem ImR_ext {I I' A A' : IT} {q : Nat} (hI : ∀ a k, 7 ≤ a.1 → a.1 ≤ 27 → 1 ≤ a.2 → a.2 ≤ 4 → I' a k = I a k) (hA : ∀ a k, a.1 = 88 ∨ a.1 = 89 ∨ (a.1 = 87 ∧ k < 3400) → A' a k = A a k) (h : ImR I A q) : ImR I' A' q := by
  intro j hj
  obtain ⟨⟨h1, h2⟩, h3⟩ := h j hj
  have e : I' (7, j + 1) 10 = I (7, j + 1) 10 := hI (7, j + 1) 10 (by show 7 ≤ 7; decide) (by show 7 ≤ 27; decide) (by show 1 ≤ j + 1; omega) (by show j + 1 ≤ 4; omega)
  have e2 : A' (88, 0) j = A (88, 0) j := hA (88, 0) j (Or.inl rfl)
  have e3 : im0 A' = im0 A := by
    funext i
    unfold im0
    cases hb : Nat.ble 3400 i
    · have : ¬ 3400 ≤ i := fun q => by
        rw [Nat.ble_eq_true_of_le q] at hb
        cases hb
      exact hA (87, 0) i (Or.inr (Or.inr ⟨rfl, by omega⟩))
    · rfl
  have e4 : imM A' j = imM A j := by
    funext f k
    unfold imM
    rw [e3, hA (89, 0) j (Or.inr (Or.inl rfl))]
  rw [e, e2, e4, scC_ext (I := I) (fun a k a1 a2 a3 => hI a k a1 a2 (by omega) (by omega))]
  exact ⟨⟨h1, h2⟩, h3⟩
/-- cells of the relation outside of the scene that goes on -/
def KC0 (a : Ad) (k : Nat) : Prop := (a = (0, 0) ∧ k = 2) ∨ (a = (1, 0) ∧ k = 1) ∨ a = (2, 0) ∨ (7 ≤ a.1 ∧ a.1 ≤ 27 ∧ 1 ≤ a.2 ∧ a.2 ≤ 4) ∨ (37 ≤ a.1 ∧ a.1 ≤ 40)
def KM0 (a : Ad) (k : Nat) : Prop := (a = (43, 0) ∧ (k = 26 ∨ k = 30 ∨ k = 35)) ∨ (68 ≤ a.1 ∧ a.1 ≤ 74) ∨ (a.1 = 87 ∧ k < 3400) ∨ a.1 = 88 ∨ a.1 = 89
/-- another scene, all else as it was -/
theorem Rel.scene {I I' A A' : IT} (hI : ∀ a k, KC0 a k → I' a k = I a k) (hA : ∀ a k, KM0 a k → A' a k = A a k) (h : Rel I A) (hs : ∀ q, RusR I A q → ScR (scC I 0) (scM A) q → ScR (scC I' 0) (scM A') q) : Rel I' A' := by
  obtain ⟨q, h1, h2, h3, h4⟩ := h
  refine ⟨q, ?_, RusR_ext (fun a k ha => hI a k ?_) (fun a k ha => hA a k ?_) h2, hs q h2 h3, ImR_ext (fun a k a1 a2 a3 a4 => hI a k (Or.inr (Or.inr (Or.inr (Or.inl ⟨a1, a2, a3, a4⟩))))) (fun a k ha => hA a k ?_) h4⟩
  · obtain ⟨n, hn, e1, e2, hb⟩ := h1
    refine ⟨n, hn, (hI (1, 0) 1 (Or.inr (Or.inl ⟨rfl, rfl⟩))).trans e1, (hA (43, 0) 26 (Or.inl ⟨rfl, Or.inl rfl⟩)).trans e2, fun k hk => ?_⟩
    obtain ⟨b, h1, h2, h3⟩ := hb k hk
    exact ⟨b, h1, (hI (2, 0) k (Or.inr (Or.inr (Or.inl rfl)))).trans h2, (hA (68, 0) k (Or.inr (Or.inl ⟨by decide, by decide⟩))).trans h3⟩
  · rcases ha with ha | ha
    · exact Or.inl ha
    · exact Or.inr (Or.inr (Or.inr (Or.inr ha)))
  · rcases ha with ⟨ha, hk⟩ | ⟨a1, a2⟩
    · exact Or.inl ⟨ha, by omega⟩
    · exact Or.inr (Or.inl ⟨by omega, a2⟩)
  · rcases ha with ha | ha | ha
    · exact Or.inr (Or.inr (Or.inr (Or.inl ha)))
    · exact Or.inr (Or.inr (Or.inr (Or.inr ha)))
    · exact Or.inr (Or.inr (Or.inl ha))
theorem Rel_ext {I I' A A' : IT} (hI : ∀ a k, KC a k → I' a k = I a k) (hA : ∀ a k, KM a k → A' a k = A a k) (h : Rel I A) : Rel I' A' := by
  refine Rel.scene (fun a k ha => hI a k ?_) (fun a k ha => hA a k ?_) h (fun q _ h3 => ?_)
  · rcases ha with ha | ha | ha | ⟨a1, a2, a3, a4⟩ | ha
    · exact Or.inl ha
    · exact Or.inr (Or.inl ha)
    · exact Or.inr (Or.inr (Or.inl ha))
    · exact Or.inr (Or.inr (Or.inr (Or.inl ⟨a1, a2, a4⟩)))
    · exact Or.inr (Or.inr (Or.inr (Or.inr ha)))
  · rcases ha with ⟨ha, hk⟩ | ha | ha | ha | ha
    · exact Or.inl ⟨ha, by omega⟩
    · exact Or.inr (Or.inr (Or.inl ha))
    · exact Or.inr (Or.inr (Or.inr (Or.inr (Or.inl ha))))
    · exact Or.inr (Or.inr (Or.inr (Or.inr (Or.inr (Or.inl ha)))))
    · exact Or.inr (Or.inr (Or.inr (Or.inr (Or.inr (Or.inr ha)))))
  · rw [scM_ext (A := A) (fun a k ha => hA a k ?_), scC_ext (I := I) (fun a k a1 a2 a3 => hI a k (Or.inr (Or.inr (Or.inr (Or.inl ⟨a1, a2, by omega⟩)))))]
    · exact h3
    · rcases ha with ⟨ha, hk⟩ | ha | ha
      · exact Or.inl ⟨ha, by omega⟩
      · exact Or.inr (Or.inl ha)
      · exact Or.inr (Or.inr (Or.inr (Or.inl ha)))
/-- another tape, all else as it was -/
theorem Rel.tape {I I' A A' : IT} (hI : ∀ a k, a.1 ≠ 1 → a.1 ≠ 2 → I' a k = I a k) (hA : ∀ a k, ¬ (a = (43, 0) ∧ k = 26) → a.1 ≠ 68 → A' a k = A a k) (h : Rel I A) (ht : TpR I' A') : Rel I' A' := by
  obtain ⟨q, -, h2, h3, h4⟩ := h
  refine ⟨q, ht, RusR_ext (fun a k ha => hI a k ?_ ?_) (fun a k ha => hA a k ?_ ?_) h2, ?_, ImR_ext (fun a k a1 a2 a3 a4 => hI a k (by omega) (by omega)) (fun a k ha => hA a k (fun q => ?_) (by omega)) h4⟩
  · rcases ha with ⟨ha, -⟩ | ha
    · rw [ha]; decide
    · omega
  · rcases ha with ⟨ha, -⟩ | ha
    · rw [ha]; decide
    · omega
  · rintro ⟨e, hk⟩
    rcases ha with ⟨ha, hk'⟩ | ha
    · omega
    · rw [e] at ha; omega
  · rcases ha with ⟨ha, -⟩ | ha
    · rw [ha]; decide
    · omega
  · rw [scM_ext (A := A) (fun a k ha => hA a k ?_ ?_), scC_ext (I := I) (fun a k a1 a2 a3 => hI a k (by omega) (by omega))]
    · exact h3
    · rintro ⟨e, hk⟩
      rcases ha with ⟨ha, hk'⟩ | ha | ha
      · omega
      · rw [e] at ha; omega
      · rw [e] at ha; omega
    · rcases ha with ⟨ha, -⟩ | ha | ha
      · rw [ha]; decide
      · omega
      · omega
  · rw [q.1] at ha; omega
theorem Cal.ro {I A : IT} {J B : JT} {o o' : Option Rs} {x : Int32} (e : o = some (some (vI x), hh I J)) (e' : o' = some (some (vI x), hh A B)) (h : Rel I A) : Cal o o' I A := by
  subst e
  subst e'
  exact R2.ret ⟨⟨x, rfl, rfl⟩, h, fun _ _ => rfl, fun _ _ => rfl⟩
theorem Cal.mk {I A I' A' : IT} {J B : JT} {o o' : Option Rs} {x : Int32} (e : o = some (some (vI x), hh I' J)) (e' : o' = some (some (vI x), hh A' B)) (h : Rel I' A') (hc : FrC I I') (hm : FrM A A') : Cal o o' I A := by
  subst e
  subst e'
  exact R2.ret ⟨⟨x, rfl, rfl⟩, h, hc, hm⟩
theorem FrC.up {I : IT} {a : Ad} {k : Nat} {x : Int32} (h : a.1 < 43) : FrC I (up2 I a k x) := fun b hb => funext fun j => up_ne I k j x (fun e => by rw [e] at hb; omega)
theorem FrM.up {A : IT} {a : Ad} {k : Nat} {x : Int32} (h : 43 ≤ a.1 ∧ a.1 < 90) : FrM A (up2 A a k x) := fun b hb => funext fun j => up_ne A k j x (fun e => by rw [e] at hb; omega)
theorem FrC.tr {I I' I'' : IT} (h : FrC I I') (h' : FrC I' I'') : FrC I I'' := fun a ha => (h' a ha).trans (h a ha)
theorem FrM.tr {I I' I'' : IT} (h : FrM I I') (h' : FrM I' I'') : FrM I I'' := fun a ha => (h' a ha).trans (h a ha)
theorem FrC.rf (I : IT) : FrC I I := fun _ _ => rfl
theorem FrM.rf (I : IT) : FrM I I := fun _ _ => rfl
