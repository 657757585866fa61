/-! ===== the cells behind the constructors (generated) ===== -/
def shp (b : Nat) : Sh := match b with
  | 0 => .inl 11
  | 1 => .inr (4, 6)
  | 2 => .inr (0, 4)
  | 3 => .inr (0, 4)
  | 4 => .inr (0, 4)
  | 5 => .inr (0, 4)
  | 6 => .inr (0, 4)
  | 7 => .inr (0, 4)
  | 8 => .inr (1, 100)
  | 9 => .inr (5, 6)
  | 10 => .inl 10
  | 11 => .inr (0, 8)
  | 12 => .inr (0, 8)
  | 13 => .inr (0, 100)
  | 14 => .inr (6, 10)
  | 15 => .inl 5
  | 16 => .inr (0, 20)
  | 17 => .inl 0
  | 18 => .inr (0, 6)
  | 19 => .inr (0, 12)
  | 20 => .inr (0, 12)
  | 21 => .inl 0
  | 22 => .inr (0, 6)
  | 23 => .inr (0, 12)
  | 24 => .inr (0, 12)
  | 25 => .inl 0
  | 26 => .inr (0, 6)
  | 27 => .inr (0, 12)
  | 28 => .inr (0, 12)
  | 29 => .inl 3
  | 30 => .inr (0, 40)
  | 31 => .inr (0, 40)
  | 32 => .inr (0, 40)
  | 33 => .inr (0, 40)
  | 34 => .inr (0, 40)
  | 35 => .inr (0, 40)
  | 36 => .inr (0, 2)
  | 37 => .inr (0, 2)
  | 38 => .inr (0, 6)
  | 39 => .inr (7, 6)
  | 40 => .inl 10
  | 41 => .inr (0, 8)
  | 42 => .inr (0, 8)
  | 43 => .inr (0, 100)
  | 44 => .inl 10
  | 45 => .inr (0, 8)
  | 46 => .inr (0, 8)
  | 47 => .inr (0, 100)
  | 48 => .inl 10
  | 49 => .inr (0, 8)
  | 50 => .inr (0, 8)
  | 51 => .inr (0, 100)
  | 52 => .inl 10
  | 53 => .inr (0, 8)
  | 54 => .inr (0, 8)
  | 55 => .inr (0, 100)
  | 56 => .inl 10
  | 57 => .inr (0, 8)
  | 58 => .inr (0, 8)
  | 59 => .inr (0, 100)
  | 60 => .inl 10
  | 61 => .inr (0, 8)
  | 62 => .inr (0, 8)
  | 63 => .inr (0, 100)
  | 64 => .inl 8
  | 65 => .inr (3, 60)
  | 66 => .inl 8
  | 67 => .inr (3, 60)
  | 68 => .inl 8
  | 69 => .inr (3, 60)
  | 70 => .inl 8
  | 71 => .inr (3, 60)
  | 72 => .inl 8
  | 73 => .inr (3, 60)
  | 74 => .inl 8
  | 75 => .inr (3, 60)
  | 76 => .inl 12
  | 77 => .inr (0, 6)
  | 78 => .inr (0, 6)
  | 79 => .inr (0, 6)
  | 80 => .inr (0, 6)
  | 81 => .inr (0, 6)
  | 82 => .inr (0, 13)
  | 83 => .inr (0, 13)
  | 84 => .inr (0, 100)
  | 85 => .inr (0, 6)
  | 86 => .inr (0, 48)
  | 87 => .inr (0, 48)
  | 88 => .inr (0, 48)
  | 89 => .inr (0, 48)
  | 90 => .inr (0, 48)
  | 91 => .inr (0, 600)
  | 92 => .inr (0, 101)
  | 93 => .inr (2, 100)
  | 94 => .inr (0, 11)
  | 95 => .inr (0, 11)
  | 96 => .inr (0, 110)
  | 97 => .inr (0, 41)
  | 98 => .inr (0, 41)
  | 99 => .inr (0, 41)
  | 100 => .inr (0, 41)
  | 101 => .inr (0, 41)
  | 102 => .inr (0, 41)
  | 103 => .inr (0, 82)
  | 104 => .inr (0, 2)
  | 105 => .inr (0, 2)
  | 106 => .inr (0, 41)
  | 107 => .inr (0, 41)
  | 108 => .inr (0, 200)
  | 109 => .inr (0, 6)
  | 110 => .inr (0, 6)
  | 111 => .inr (0, 12)
  | 112 => .inr (0, 12)
  | 113 => .inr (0, 20)
  | 114 => .inr (0, 6)
  | 115 => .inr (0, 6)
  | 116 => .inr (3, 360)
  | 117 => .inr (3, 60)
  | _ => .inl 99
/-- the references that never change -/
def pvx (b k : Nat) : Option Nat := match b, k with
  | 0, 0 => some 1
  | 0, 2 => some 8
  | 0, 4 => some 9
  | 0, 5 => some 10
  | 0, 7 => some 14
  | 0, 8 => some 15
  | 0, 11 => some 17
  | 0, 12 => some 21
  | 0, 13 => some 25
  | 0, 16 => some 29
  | 0, 17 => some 38
  | 0, 18 => some 39
  | 1, 0 => some 2
  | 1, 1 => some 3
  | 1, 2 => some 4
  | 1, 3 => some 5
  | 1, 4 => some 6
  | 1, 5 => some 7
  | 9, 0 => some 40
  | 9, 1 => some 44
  | 9, 2 => some 48
  | 9, 3 => some 52
  | 9, 4 => some 56
  | 9, 5 => some 60
  | 10, 4 => some 11
  | 10, 5 => some 12
  | 10, 6 => some 13
  | 15, 3 => some 16
  | 17, 1 => some 18
  | 17, 2 => some 19
  | 17, 3 => some 20
  | 21, 1 => some 22
  | 21, 2 => some 23
  | 21, 3 => some 24
  | 25, 1 => some 26
  | 25, 2 => some 27
  | 25, 3 => some 28
  | 29, 0 => some 30
  | 29, 1 => some 31
  | 29, 2 => some 32
  | 29, 3 => some 33
  | 29, 4 => some 34
  | 29, 5 => some 35
  | 29, 10 => some 1
  | 29, 16 => some 36
  | 29, 17 => some 37
  | 39, 0 => some 64
  | 39, 1 => some 66
  | 39, 2 => some 68
  | 39, 3 => some 70
  | 39, 4 => some 72
  | 39, 5 => some 74
  | 40, 4 => some 41
  | 40, 5 => some 42
  | 40, 6 => some 43
  | 44, 4 => some 45
  | 44, 5 => some 46
  | 44, 6 => some 47
  | 48, 4 => some 49
  | 48, 5 => some 50
  | 48, 6 => some 51
  | 52, 4 => some 53
  | 52, 5 => some 54
  | 52, 6 => some 55
  | 56, 4 => some 57
  | 56, 5 => some 58
  | 56, 6 => some 59
  | 60, 4 => some 61
  | 60, 5 => some 62
  | 60, 6 => some 63
  | 64, 2 => some 65
  | 66, 2 => some 67
  | 68, 2 => some 69
  | 70, 2 => some 71
  | 72, 2 => some 73
  | 74, 2 => some 75
  | 76, 2 => some 77
  | 76, 3 => some 78
  | 76, 4 => some 79
  | 76, 5 => some 80
  | 76, 6 => some 81
  | 76, 7 => some 82
  | 76, 8 => some 83
  | 76, 14 => some 84
  | 76, 15 => some 85
  | 76, 16 => some 86
  | 76, 17 => some 87
  | 76, 18 => some 88
  | 76, 19 => some 89
  | 76, 20 => some 90
  | 76, 21 => some 91
  | 76, 22 => some 92
  | 76, 26 => some 93
  | 76, 28 => some 94
  | 76, 29 => some 95
  | 76, 30 => some 96
  | 76, 41 => some 97
  | 76, 42 => some 98
  | 76, 43 => some 99
  | 76, 44 => some 100
  | 76, 45 => some 101
  | 76, 46 => some 102
  | 76, 47 => some 103
  | 76, 48 => some 104
  | 76, 49 => some 105
  | 76, 50 => some 106
  | 76, 51 => some 107
  | 76, 52 => some 108
  | 76, 53 => some 109
  | 76, 58 => some 110
  | 76, 59 => some 111
  | 76, 60 => some 112
  | 76, 62 => some 113
  | 76, 63 => some 114
  | 76, 64 => some 115
  | 76, 65 => some 116
  | 76, 66 => some 117
  | _, _ => none
def Good (M : Mem) : Prop := 118 ≤ mN M ∧ (∀ b, b < 118 → mS M b = shp b) ∧ ∀ b k v, pvx b k = some v → mP M b k = some v
theorem isO_g {M : Mem} (hG : Good M) {a ci : Nat} (ha : a < 118) (h : shp a = .inl ci) : isO M a [ci] := ⟨ci, List.mem_singleton.mpr rfl, (hG.2.1 a ha).trans h⟩
theorem isA_g {M : Mem} (hG : Good M) {a t len : Nat} {i : Int32} (ha : a < 118) (h : shp a = .inr (t, len)) (hi : vp_in i len) : isA M a t i := ⟨len, (hG.2.1 a ha).trans h, hi⟩
theorem mP_g {M : Mem} (hG : Good M) {a k v : Nat} (h : pvx a k = some v) : mP M a k = some v := hG.2.2 a k v h
/-- reads behind writes -/
theorem mI_sI (M : Mem) (a k : Nat) (v : Int32) (b j : Nat) : mI (sI M a k v) b j = if b = a ∧ j = k then v else mI M b j := rfl
theorem mI_sI_o (M : Mem) {a b : Nat} (k : Nat) (v : Int32) (h : b ≠ a) : mI (sI M a k v) b = mI M b := u2_row _ _ _ h
theorem mI_sI_s (M : Mem) (a k : Nat) (v : Int32) : mI (sI M a k v) a k = v := u2_same _ _ _ _
theorem mI_sI_k (M : Mem) (a : Nat) {k j : Nat} (v : Int32) (h : j ≠ k) : mI (sI M a k v) a j = mI M a j := u2_ne _ _ (Or.inr h)
theorem mL_sI (M : Mem) (a k : Nat) (v : Int32) : mL (sI M a k v) = mL M := rfl
theorem mP_sI (M : Mem) (a k : Nat) (v : Int32) : mP (sI M a k v) = mP M := rfl
theorem mS_sI (M : Mem) (a k : Nat) (v : Int32) : mS (sI M a k v) = mS M := rfl
theorem mN_sI (M : Mem) (a k : Nat) (v : Int32) : mN (sI M a k v) = mN M := rfl
theorem isO_sI (M : Mem) (a k : Nat) (v : Int32) (b : Nat) (cs : List Nat) : isO (sI M a k v) b cs = isO M b cs := rfl
theorem isA_sI (M : Mem) (a k : Nat) (v : Int32) (b t : Nat) (i : Int32) : isA (sI M a k v) b t i = isA M b t i := rfl
theorem good_sI {M : Mem} (hG : Good M) (a k : Nat) (v : Int32) : Good (sI M a k v) := hG
theorem mI_sL (M : Mem) (a k : Nat) (v : Int64) : mI (sL M a k v) = mI M := rfl
theorem mL_sL_o (M : Mem) {a b : Nat} (k : Nat) (v : Int64) (h : b ≠ a) : mL (sL M a k v) b = mL M b := u2_row _ _ _ h
theorem mL_sL_s (M : Mem) (a k : Nat) (v : Int64) : mL (sL M a k v) a k = v := u2_same _ _ _ _
theorem mL_sL (M : Mem) (a k : Nat) (v : Int64) (b j : Nat) : mL (sL M a k v) b j = if b = a ∧ j = k then v else mL M b j := rfl
theorem good_sL {M : Mem} (hG : Good M) (a k : Nat) (v : Int64) : Good (sL M a k v) := hG
theorem good_sIr {M : Mem} (hG : Good M) (a : Nat) (f : Nat → Int32) : Good (sIr M a f) := hG
theorem good_sLr {M : Mem} (hG : Good M) (a : Nat) (f : Nat → Int64) : Good (sLr M a f) := hG
theorem mI_sIr_o (M : Mem) {a b : Nat} (f : Nat → Int32) (h : b ≠ a) : mI (sIr M a f) b = mI M b := u1_ne _ _ h
theorem mI_sIr_s (M : Mem) (a : Nat) (f : Nat → Int32) : mI (sIr M a f) a = f := u1_same _ _ _
theorem mI_sP (M : Mem) (a k : Nat) (v : Option Nat) : mI (sP M a k v) = mI M := rfl
theorem mL_sP (M : Mem) (a k : Nat) (v : Option Nat) : mL (sP M a k v) = mL M := rfl
theorem good_sP {M : Mem} (hG : Good M) {a k : Nat} (h : pvx a k = none) (v : Option Nat) : Good (sP M a k v) := by
  refine ⟨hG.1, hG.2.1, fun b j w hw => ?_⟩
  show u2 (mP M) a k v b j = some w
  rw [u2_ne _ _ ?_]
  · exact hG.2.2 b j w hw
  · by_cases e : b = a
    · by_cases e2 : j = k
      · subst e; subst e2; rw [h] at hw; cases hw
      · exact Or.inr e2
    · exact Or.inl e
theorem oQ {M : Mem} (hG : Good M) : isO M 0 [11] := isO_g hG (by decide) rfl
theorem oM {M : Mem} (hG : Good M) : isO M 76 [12] := isO_g hG (by decide) rfl
theorem oH {M : Mem} (hG : Good M) : isO M 29 [3] := isO_g hG (by decide) rfl
/-- numbers -/
theorem i32_lt (a b : Int32) : a < b ↔ a.toInt < b.toInt := Int32.lt_iff_toInt_lt
theorem i32_le (a b : Int32) : a ≤ b ↔ a.toInt ≤ b.toInt := Int32.le_iff_toInt_le
theorem i32_eq (a b : Int32) : a = b ↔ a.toInt = b.toInt := Int32.toInt_inj.symm
theorem vp_of {x : Int32} {n : Nat} (h0 : 0 ≤ x.toInt) (h1 : x.toInt < n) : vp_in x n := vp_in_iff.mpr ⟨h0, h1⟩
theorem clampN {x : Int32} (h0 : 0 ≤ x.toInt) : x = nI x.toNatClampNeg := by
  apply Int32.toInt_inj.mp
  have : x.toInt < 2 ^ 31 := Int32.toInt_lt x
  rw [nI_toInt (by show x.toInt.toNat < _; omega)]
  show x.toInt = ((x.toInt.toNat : Nat) : Int)
  omega
