/-! ===== what holds between two calls ===== -/
theorem mI_ne (M : Mem) {a k b j : Nat} (v : Int32) (h : ¬ (b = a ∧ j = k)) : mI (sI M a k v) b j = mI M b j := if_neg h
theorem i32_addI {a b : Int32} (h0 : -2147483648 ≤ a.toInt + b.toInt) (h1 : a.toInt + b.toInt < 2147483648) : (a + b).toInt = a.toInt + b.toInt := by
  rw [Int32.toInt_add, Int.bmod_def]; split <;> omega
theorem i32_subI {a b : Int32} (h0 : -2147483648 ≤ a.toInt - b.toInt) (h1 : a.toInt - b.toInt < 2147483648) : (a - b).toInt = a.toInt - b.toInt := by
  rw [Int32.toInt_sub, Int.bmod_def]; split <;> omega
theorem i32_mulI {a b : Int32} (h0 : -2147483648 ≤ a.toInt * b.toInt) (h1 : a.toInt * b.toInt < 2147483648) : (a * b).toInt = a.toInt * b.toInt := by
  rw [Int32.toInt_mul, Int.bmod_def]
  generalize a.toInt * b.toInt = z at *
  split <;> omega
theorem nI_ex {x : Int32} (h : 0 ≤ x.toInt) : ∃ j : Nat, j < 2 ^ 31 ∧ x = nI j ∧ x.toInt = (j : Int) ∧ x.toNatClampNeg = j := by
  have h2 := Int32.toInt_lt x
  refine ⟨x.toNatClampNeg, ?_, clampN h, ?_, rfl⟩
  · show x.toInt.toNat < _; omega
  · show x.toInt = ((x.toInt.toNat : Nat) : Int); omega
/-- the tokens of a condition: -1 and, -2 or, -3 not; else a test -/
abbrev Cl : Type := Nat × Nat × List Int
def lst (cl : List Cl) (w d : Nat) : Nat := cl.foldl (fun d c => if c.1 = w then c.2.1 else d) d
def cms (cl : List Cl) : List Cl := cl.filter (fun c => c.1 == 0)
def tks (cl : List Cl) : List Int := cl.flatMap (fun c => c.2.2)
def mcode (t : Int) : Int := if t = -1 then -38 else if t = -2 then -124 else if t = -3 then -33 else 1000 * (t / 300) + 100 * (t / 100 % 3) + t % 100
def hgt : List Int → Nat → Option Nat
  | [], n => some n
  | t :: ts, n => if t = -3 then (if 1 ≤ n then hgt ts n else none) else if t < 0 then (if 2 ≤ n then hgt ts (n - 1) else none) else (if n < 30 then hgt ts (n + 1) else none)
def WFp (ts : List Int) : Prop := hgt ts 0 = some 1 ∧ ∀ t ∈ ts, -3 ≤ t ∧ t < 1200
def WFc (cl : List Cl) : Prop := cl.length ≤ 8 ∧ (tks cl).length ≤ 100 ∧ ∀ c ∈ cl, c.1 ≤ 3 ∧ (c.1 = 0 → c.2.1 < 6 ∧ WFp c.2.2) ∧ (c.1 ≠ 0 → c.2.1 < 100 ∧ c.2.2 = [])
/-- a window of the class at a, of the model the i-th -/
def wC (M : Mem) (a : Nat) (cl : List Cl) : Prop := mI M a 0 = nI (min (lst cl 1 0) 20) ∧ mI M a 1 = nI (min (lst cl 2 0) 20) ∧ mI M a 2 = nI (min (lst cl 3 30) 40) ∧ mI M a 3 = nI (cms cl).length ∧ (∀ j c, (cms cl)[j]? = some c → mI M (a + 1) j = nI c.2.1 ∧ mI M (a + 2) j = nI (tks ((cms cl).take (j + 1))).length) ∧ ∀ k t, (tks cl)[k]? = some t → mI M (a + 3) k = Int32.ofInt t
def wM (M : Mem) (i : Nat) (cl : List Cl) : Prop := mI M 85 i = nI cl.length ∧ (∀ j c, cl[j]? = some c → mI M 86 (8 * i + j) = nI c.1 ∧ (c.1 = 0 → mI M 87 (8 * i + j) = nI c.2.1 ∧ mI M 89 (8 * i + j) = nI (100 * i + (tks (cl.take j)).length) ∧ mI M 90 (8 * i + j) = nI (100 * i + (tks (cl.take (j + 1))).length)) ∧ (c.1 ≠ 0 → mI M 88 (8 * i + j) = nI c.2.1)) ∧ ∀ k t, (tks cl)[k]? = some t → mI M 91 (100 * i + k) = Int32.ofInt (mcode t)
/-- the sorts, the odds, the text, the hands -/
def rg (x : Int32) (l h : Int) : Prop := l ≤ x.toInt ∧ x.toInt ≤ h
def iS (M : Mem) (ns : Nat) : Prop := ns ≤ 6 ∧ mI M 0 1 = nI ns ∧ mI M 76 0 = nI ns ∧ ∀ k, k < ns → (mI M 77 k = mI M (2 + k) 0 ∧ mI M 78 k = mI M (2 + k) 1 ∧ mI M 79 k = mI M (2 + k) 2 ∧ mI M 80 k = mI M (2 + k) 3) ∧ rg (mI M (2 + k) 0) 0 9 ∧ rg (mI M (2 + k) 1) 0 99 ∧ rg (mI M (2 + k) 2) 0 20 ∧ rg (mI M (2 + k) 3) 1 9
def iQ (M : Mem) (ns : Nat) : Prop := ∀ k, k < ns → mI M 81 k = mI M 18 k ∧ rg (mI M 18 k) 0 10
def iN (M : Mem) (nt : Nat) : Prop := nt ≤ 100 ∧ mI M 0 3 = nI nt ∧ mI M 76 11 = nI nt ∧ ∀ k, k < nt → mI M 84 k = mI M 8 k ∧ rg (mI M 8 k) (-128) 127
def iH (M : Mem) (ns nh : Nat) : Prop := nh ≤ 12 ∧ mI M 17 4 = nI nh ∧ mI M 76 1 = nI nh ∧ ∀ k, k < nh → (mI M 82 k = mI M 19 k ∧ rg (mI M 19 k) 0 (ns - 1 : Int)) ∧ mI M 83 k = mI M 20 k ∧ rg (mI M 20 k) 0 59
def iZ (M : Mem) : Prop := mI M 76 38 = 0 ∧ mI M 10 0 = 0 ∧ mI M 10 1 = 0 ∧ mI M 10 2 = 30 ∧ mI M 10 3 = 0 ∧ mI M 15 0 = 0 ∧ mI M 15 1 = 1
def iW (M : Mem) (nw : Nat) (cls : Nat → List Cl) : Prop := nw ≤ 6 ∧ mI M 0 6 = nI nw ∧ mI M 76 9 = nI nw ∧ (∀ i, i < nw → WFc (cls i)) ∧ (∀ i, i < nw → wC M (40 + 4 * i) (cls i)) ∧ (∀ i, i < nw → wM M i (cls i))
def iD (M : Mem) (nw : Nat) (th : Option Nat) : Prop := mI M 76 10 = mI M 17 0 ∧ (th = none → mI M 17 0 = -1) ∧ ∀ h, th = some h → h < nw ∧ mI M 17 0 = nI h
/-- the orders -/
def kc (k : Nat) : Nat := match k with
  | 0 => 5
  | 1 => 1
  | 2 => 7
  | 3 => 4
  | 4 => 6
  | 5 => 2
  | _ => 9
def ow (k : Nat) : Nat := if k = 6 then 3 else 2
def oK (M : Mem) (a r k v : Nat) : Prop := (k ≤ 6 ∧ 1 ≤ v ∧ v ≤ 9) ∧ (118 ≤ a ∧ a + ow k ≤ mN M) ∧ (mS M a = .inl (kc k) ∧ mS M (a + 1) = .inr (0, 20) ∧ mP M a 3 = some (a + 1) ∧ mP M 14 r = some a) ∧ (mI M a 0 = nI r ∧ mI M a 1 = nI v ∧ mI M 94 r = nI k ∧ mI M 95 r = nI v) ∧ (k = 6 → mS M (a + 2) = .inr (0, 10) ∧ mP M a 4 = some (a + 2) ∧ ∀ j, j < 10 → mI M 96 (10 * r + j) = mI M (a + 2) j ∧ rg (mI M (a + 2) j) (-1) 2)
def iO (M : Mem) (no : Nat) (oa kd vv : Nat → Nat) : Prop := no ≤ 10 ∧ mI M 0 9 = nI no ∧ mI M 76 27 = nI no ∧ (∀ r, r < no → oK M (oa r) r (kd r) (vv r)) ∧ ∀ r q, r < q → q < no → oa r + ow (kd r) ≤ oa q
def iA (M : Mem) (no : Nat) (oa : Nat → Nat) : Prop := (mP M 0 10 = none ∧ mI M 76 61 = 0) ∨ ∃ r n, r < no ∧ n ≤ 20 ∧ mP M 0 10 = some (oa r) ∧ mI M (oa r) 2 = nI n ∧ mI M 76 61 = nI n ∧ ∀ j, j < n → mI M 113 j = mI M (oa r + 1) j
/-- the image, the tapes -/
def iI (M : Mem) (ns nw : Nat) : Prop := (mI M 0 14 = 0 ∧ mI M 76 54 = 0) ∨ (mI M 0 14 = 1 ∧ mI M 76 54 = 1 ∧ ∃ is ih th, is ≤ ns ∧ ih ≤ 12 ∧ mI M 0 15 = nI is ∧ mI M 76 56 = nI is ∧ mI M 21 4 = nI ih ∧ mI M 76 57 = nI ih ∧ (mI M 76 55 = mI M 21 0 ∧ (th = none → mI M 21 0 = -1) ∧ ∀ h, th = some h → h < nw ∧ mI M 21 0 = nI h) ∧ (∀ k, k < is → mI M 110 k = mI M 22 k ∧ rg (mI M 22 k) 0 10) ∧ ∀ k, k < ih → (mI M 111 k = mI M 23 k ∧ rg (mI M 23 k) 0 (ns - 1 : Int)) ∧ mI M 112 k = mI M 24 k ∧ rg (mI M 24 k) 0 59)
def iT (M : Mem) : Prop := ∀ i, i < 6 → mI M 114 i = mI M (64 + 2 * i) 0 ∧ rg (mI M (64 + 2 * i) 0) (-1) 4 ∧ mI M 115 i = mI M (64 + 2 * i) 1 ∧ rg (mI M (64 + 2 * i) 1) 0 60 ∧ (mI M (64 + 2 * i) 0 = -1 → mI M (64 + 2 * i) 1 = 0) ∧ ∀ k, k < 60 → mL M 116 (60 * i + k) = mL M (65 + 2 * i) k
def Inv (M : Mem) : Prop := Good M ∧ ∃ ns nt nw no nh cls th oa kd vv, iS M ns ∧ iQ M ns ∧ iN M nt ∧ iH M ns nh ∧ iZ M ∧ iW M nw cls ∧ iD M nw th ∧ iO M no oa kd vv ∧ iA M no oa ∧ iI M ns nw ∧ iT M
/-- the cells that each part speaks of -/
def cS (a k : Nat) : Prop := (a = 0 ∧ k = 1) ∨ (a = 76 ∧ k = 0) ∨ (2 ≤ a ∧ a < 8) ∨ (77 ≤ a ∧ a < 81)
def cQ (a k : Nat) : Prop := a = 81 ∨ a = 18
def cN (a k : Nat) : Prop := (a = 0 ∧ k = 3) ∨ (a = 76 ∧ k = 11) ∨ a = 8 ∨ a = 84
def cH (nh a k : Nat) : Prop := (a = 17 ∧ k = 4) ∨ (a = 76 ∧ k = 1) ∨ a = 19 ∨ a = 20 ∨ (a = 82 ∧ k < nh) ∨ (a = 83 ∧ k < nh)
def cZ (a k : Nat) : Prop := (a = 76 ∧ k = 38) ∨ (a = 10 ∧ k < 4) ∨ (a = 15 ∧ k < 2)
def cW (a k : Nat) : Prop := (a = 0 ∧ k = 6) ∨ (a = 76 ∧ k = 9) ∨ (40 ≤ a ∧ a < 64) ∨ (85 ≤ a ∧ a < 92)
def cD (a k : Nat) : Prop := (a = 76 ∧ k = 10) ∨ (a = 17 ∧ k = 0)
def cO (a k : Nat) : Prop := (a = 0 ∧ k = 9) ∨ (a = 76 ∧ k = 27) ∨ (94 ≤ a ∧ a < 97) ∨ 118 ≤ a
def cA (a k : Nat) : Prop := (a = 76 ∧ k = 61) ∨ a = 113 ∨ 118 ≤ a
def cI (a k : Nat) : Prop := (a = 0 ∧ k = 14) ∨ (a = 0 ∧ k = 15) ∨ (a = 76 ∧ (54 ≤ k ∧ k < 58)) ∨ (21 ≤ a ∧ a < 25) ∨ (110 ≤ a ∧ a < 113)
def cT (a k : Nat) : Prop := (64 ≤ a ∧ a < 76) ∨ (114 ≤ a ∧ a < 116)
theorem iS_fr {M M' : Mem} {ns : Nat} (h : iS M ns) (e : ∀ a k, cS a k → mI M' a k = mI M a k) : iS M' ns := by
  obtain ⟨h1, h2, h3, h4⟩ := h
  refine ⟨h1, (e _ _ (by unfold cS; omega)).trans h2, (e _ _ (by unfold cS; omega)).trans h3, fun k hk => ?_⟩
  rw [e 77 k (by unfold cS; omega), e 78 k (by unfold cS; omega), e 79 k (by unfold cS; omega), e 80 k (by unfold cS; omega), e (2 + k) 0 (by unfold cS; omega), e (2 + k) 1 (by unfold cS; omega), e (2 + k) 2 (by unfold cS; omega), e (2 + k) 3 (by unfold cS; omega)]
  exact h4 k hk
theorem iQ_fr {M M' : Mem} {ns : Nat} (h : iQ M ns) (e : ∀ a k, cQ a k → mI M' a k = mI M a k) : iQ M' ns := by
  intro k hk
  rw [e 81 k (by unfold cQ; omega), e 18 k (by unfold cQ; omega)]
  exact h k hk
theorem iN_fr {M M' : Mem} {nt : Nat} (h : iN M nt) (e : ∀ a k, cN a k → mI M' a k = mI M a k) : iN M' nt := by
  obtain ⟨h1, h2, h3, h4⟩ := h
  refine ⟨h1, (e _ _ (by unfold cN; omega)).trans h2, (e _ _ (by unfold cN; omega)).trans h3, fun k hk => ?_⟩
  rw [e 84 k (by unfold cN; omega), e 8 k (by unfold cN; omega)]
  exact h4 k hk
theorem iH_fr {M M' : Mem} {ns nh : Nat} (h : iH M ns nh) (e : ∀ a k, cH nh a k → mI M' a k = mI M a k) : iH M' ns nh := by
  obtain ⟨h1, h2, h3, h4⟩ := h
  refine ⟨h1, (e _ _ (by unfold cH; omega)).trans h2, (e _ _ (by unfold cH; omega)).trans h3, fun k hk => ?_⟩
  rw [e 82 k (by unfold cH; omega), e 83 k (by unfold cH; omega), e 19 k (by unfold cH; omega), e 20 k (by unfold cH; omega)]
  exact h4 k hk
theorem iZ_fr {M M' : Mem} (h : iZ M) (e : ∀ a k, cZ a k → mI M' a k = mI M a k) : iZ M' := by
  unfold iZ
  rw [e 76 38 (by unfold cZ; omega), e 10 0 (by unfold cZ; omega), e 10 1 (by unfold cZ; omega), e 10 2 (by unfold cZ; omega), e 10 3 (by unfold cZ; omega), e 15 0 (by unfold cZ; omega), e 15 1 (by unfold cZ; omega)]
  exact h
theorem wC_fr {M M' : Mem} {a : Nat} {cl : List Cl} (h : wC M a cl) (e : ∀ b k, a ≤ b → b < a + 4 → mI M' b k = mI M b k) : wC M' a cl := by
  obtain ⟨h1, h2, h3, h4, h5, h6⟩ := h
  refine ⟨(e _ _ (by omega) (by omega)).trans h1, (e _ _ (by omega) (by omega)).trans h2, (e _ _ (by omega) (by omega)).trans h3, (e _ _ (by omega) (by omega)).trans h4, fun j c hj => ?_, fun k t hk => (e _ _ (by omega) (by omega)).trans (h6 k t hk)⟩
  rw [e (a + 1) j (by omega) (by omega), e (a + 2) j (by omega) (by omega)]
  exact h5 j c hj
theorem wM_fr {M M' : Mem} {i : Nat} {cl : List Cl} (h : wM M i cl) (hl : cl.length ≤ 8) (ht : (tks cl).length ≤ 100) (e : ∀ b k, (b = 85 ∧ k = i) ∨ (86 ≤ b ∧ b < 91 ∧ 8 * i ≤ k ∧ k < 8 * i + 8) ∨ (b = 91 ∧ 100 * i ≤ k ∧ k < 100 * i + 100) → mI M' b k = mI M b k) : wM M' i cl := by
  obtain ⟨h1, h2, h3⟩ := h
  refine ⟨(e _ _ (by omega)).trans h1, fun j c hj => ?_, fun k t hk => ?_⟩
  · have hj2 : j < cl.length := (List.getElem?_eq_some_iff.mp hj).1
    rw [e 86 _ (by omega), e 87 _ (by omega), e 88 _ (by omega), e 89 _ (by omega), e 90 _ (by omega)]
    exact h2 j c hj
  · have hk2 : k < (tks cl).length := (List.getElem?_eq_some_iff.mp hk).1
    rw [e 91 _ (by omega)]
    exact h3 k t hk
theorem iW_fr {M M' : Mem} {nw : Nat} {cls : Nat → List Cl} (h : iW M nw cls) (e : ∀ a k, cW a k → mI M' a k = mI M a k) : iW M' nw cls := by
  obtain ⟨h1, h2, h3, h4, h5, h6⟩ := h
  refine ⟨h1, (e _ _ (by unfold cW; omega)).trans h2, (e _ _ (by unfold cW; omega)).trans h3, h4, fun i hi => wC_fr (h5 i hi) (fun b k q1 q2 => e b k (by unfold cW; omega)), fun i hi => wM_fr (h6 i hi) (h4 i hi).1 (h4 i hi).2.1 (fun b k q => e b k (by unfold cW; omega))⟩
theorem iD_fr {M M' : Mem} {nw : Nat} {th : Option Nat} (h : iD M nw th) (e : ∀ a k, cD a k → mI M' a k = mI M a k) : iD M' nw th := by
  unfold iD
  rw [e 76 10 (by unfold cD; omega), e 17 0 (by unfold cD; omega)]
  exact h
theorem oK_fr {M M' : Mem} {a r k v : Nat} (h : oK M a r k v) (hn : mN M ≤ mN M') (hs : ∀ b, a ≤ b → b < a + ow k → mS M' b = mS M b) (hp : ∀ b j, (b = 14 ∧ j = r) ∨ (b = a ∧ j = 3) ∨ (b = a ∧ j = 4) → mP M' b j = mP M b j) (e : ∀ b j, (b = a ∧ j < 2) ∨ (b = 94 ∧ j = r) ∨ (b = 95 ∧ j = r) ∨ (b = 96 ∧ 10 * r ≤ j ∧ j < 10 * r + 10) ∨ (k = 6 ∧ b = a + 2) → mI M' b j = mI M b j) : oK M' a r k v := by
  obtain ⟨h1, h2, h3, h4, h5⟩ := h
  have h8 : 2 ≤ ow k := by unfold ow; split <;> omega
  refine ⟨h1, ⟨h2.1, by omega⟩, ?_, ?_, fun hk => ?_⟩
  · rw [hs a (by omega) (by omega), hs (a + 1) (by omega) (by omega), hp a 3 (by omega), hp 14 r (by omega)]; exact h3
  · rw [e a 0 (by omega), e a 1 (by omega), e 94 r (by omega), e 95 r (by omega)]; exact h4
  · have h9 : ow k = 3 := by unfold ow; rw [if_pos hk]
    obtain ⟨q1, q2, q3⟩ := h5 hk
    refine ⟨(hs _ (by omega) (by omega)).trans q1, (hp _ _ (by omega)).trans q2, fun j hj => ?_⟩
    rw [e 96 _ (by omega), e (a + 2) j (by omega)]; exact q3 j hj
theorem iO_fr {M M' : Mem} {no : Nat} {oa kd vv : Nat → Nat} (h : iO M no oa kd vv) (hn : mN M' = mN M) (hs : mS M' = mS M) (hp : ∀ b j, b = 14 ∨ 118 ≤ b → mP M' b j = mP M b j) (e : ∀ a k, cO a k → mI M' a k = mI M a k) : iO M' no oa kd vv := by
  obtain ⟨h1, h2, h3, h4, h5⟩ := h
  refine ⟨h1, (e _ _ (by unfold cO; omega)).trans h2, (e _ _ (by unfold cO; omega)).trans h3, fun r hr => ?_, h5⟩
  have h9 := (h4 r hr).2.1.1
  exact oK_fr (h4 r hr) (by omega) (fun b _ _ => by rw [hs]) (fun b j q => hp b j (by omega)) (fun b j q => e b j (by unfold cO; omega))
theorem iA_fr {M M' : Mem} {no : Nat} {oa : Nat → Nat} (h : iA M no oa) (ho : ∀ r, r < no → 118 ≤ oa r) (hp : mP M' 0 10 = mP M 0 10) (e : ∀ a k, cA a k → mI M' a k = mI M a k) : iA M' no oa := by
  rcases h with h | ⟨r, n, h1, h2, h3, h4, h5, h6⟩
  · exact Or.inl ⟨hp.trans h.1, (e _ _ (by unfold cA; omega)).trans h.2⟩
  · have := ho r h1
    refine Or.inr ⟨r, n, h1, h2, hp.trans h3, (e _ _ (by unfold cA; omega)).trans h4, (e _ _ (by unfold cA; omega)).trans h5, fun j hj => ?_⟩
    rw [e 113 j (by unfold cA; omega), e (oa r + 1) j (by unfold cA; omega)]; exact h6 j hj
theorem iI_fr {M M' : Mem} {ns nw : Nat} (h : iI M ns nw) (e : ∀ a k, cI a k → mI M' a k = mI M a k) : iI M' ns nw := by
  unfold iI
  rw [e 0 14 (by unfold cI; omega), e 76 54 (by unfold cI; omega), e 0 15 (by unfold cI; omega), e 76 56 (by unfold cI; omega), e 21 4 (by unfold cI; omega), e 76 57 (by unfold cI; omega), e 76 55 (by unfold cI; omega), e 21 0 (by unfold cI; omega)]
  rcases h with h | ⟨h1, h2, is, ih, th, q1, q2, q3, q4, q5, q6, q7, q8, q9⟩
  · exact Or.inl h
  · refine Or.inr ⟨h1, h2, is, ih, th, q1, q2, q3, q4, q5, q6, q7, fun k hk => ?_, fun k hk => ?_⟩
    · rw [e 110 k (by unfold cI; omega), e 22 k (by unfold cI; omega)]; exact q8 k hk
    · rw [e 111 k (by unfold cI; omega), e 23 k (by unfold cI; omega), e 112 k (by unfold cI; omega), e 24 k (by unfold cI; omega)]; exact q9 k hk
theorem iT_fr {M M' : Mem} (h : iT M) (hl : ∀ a k, a = 116 ∨ (64 ≤ a ∧ a < 76) → mL M' a k = mL M a k) (e : ∀ a k, cT a k → mI M' a k = mI M a k) : iT M' := by
  intro i hi
  rw [e 114 i (by unfold cT; omega), e 115 i (by unfold cT; omega), e (64 + 2 * i) 0 (by unfold cT; omega), e (64 + 2 * i) 1 (by unfold cT; omega)]
  obtain ⟨h1, h2, h3, h4, h5, h6⟩ := h i hi
  exact ⟨h1, h2, h3, h4, h5, fun k hk => by rw [hl 116 _ (by omega), hl (65 + 2 * i) k (by omega)]; exact h6 k hk⟩
