/-! ===== the tapes ===== -/
theorem lgc_lt (x y : Int64) : (lg_cmp x y < 0) ↔ x.toInt < y.toInt := by
  unfold lg_cmp
  simp only [gt_iff_lt, Int64.lt_iff_toInt_lt, ← Int64.toInt_inj]
  repeat' split
  all_goals (constructor <;> intro hh <;> first | omega | decide | exact absurd hh (by decide))
theorem lgc_eq (x y : Int64) : (lg_cmp x y = 0) ↔ x = y := by
  unfold lg_cmp
  simp only [gt_iff_lt, Int64.lt_iff_toInt_lt, ← Int64.toInt_inj]
  repeat' split
  all_goals (constructor <;> intro hh <;> first | omega | decide | exact absurd hh (by decide))
theorem finL {a b : Int64} {P : Prop} (h : a = b) (p : P) : if (lg_cmp a b) = 0 then P else False := by rw [if_pos ((lgc_eq a b).mpr h)]; exact p
/-- ints and longs have changed -/
def St (M M1 : Mem) : Prop := mN M1 = mN M ∧ mS M1 = mS M ∧ mP M1 = mP M
theorem St.good {M M1 : Mem} (h : St M M1) (hG : Good M) : Good M1 := by
  obtain ⟨h1, h2, h3⟩ := h
  unfold Good
  rw [h1, h2, h3]; exact hG
theorem St.rf (M : Mem) : St M M := ⟨rfl, rfl, rfl⟩
theorem mL_ne (M : Mem) {a k b j : Nat} (v : Int64) (h : ¬ (b = a ∧ j = k)) : mL (sL M a k v) b j = mL M b j := if_neg h
theorem mL_i (M : Mem) (a k : Nat) (v : Int32) (b j : Nat) : mL (sI M a k v) b j = mL M b j := rfl
theorem mI_l (M : Mem) (a k : Nat) (v : Int64) (b j : Nat) : mI (sL M a k v) b j = mI M b j := rfl
theorem mL_sLr_ne (M : Mem) {a b j : Nat} (f : Nat → Int64) (h : ¬ b = a) : mL (sLr M a f) b j = mL M b j := congrFun (u1_ne (mL M) f h) j
theorem mL_sLr_j (M : Mem) (a j : Nat) (f : Nat → Int64) : mL (sLr M a f) a j = f j := congrFun (u1_same (mL M) a f) j
theorem fill_l {M : Mem} {a n : Nat} {y : Int64} {Q : Mem → Prop} (hs : mS M a = .inr (3, n)) (hn : n < 2 ^ 31) (hQ : ∀ M1, St M M1 → mI M1 = mI M → (∀ j, j < n → mL M1 a j = y) → (∀ b j, ¬ b = a → mL M1 b j = mL M b j) → Q M1) : f_J7_fill_d0a16 (some a) y M Q := by
  unfold f_J7_fill_d0a16
  refine ⟨a, rfl, 3, n, ⟨by omega, hs⟩, ?_⟩
  unfold f_J7_fill_d0a16_L6
  refine ⟨fun z => ∃ k, k ≤ n ∧ z.1 = nI k ∧ z.2.1 = nI n ∧ St M z.2.2 ∧ mI z.2.2 = mI M ∧ (∀ j, j < k → mL z.2.2 a j = y) ∧ ∀ b j, ¬ b = a → mL z.2.2 b j = mL M b j, fun z => n - z.1.toNatClampNeg, ⟨0, Nat.zero_le _, rfl, rfl, St.rf M, rfl, fun j hj => absurd hj (Nat.not_lt_zero _), fun _ _ _ => rfl⟩, ?_⟩
  rintro ⟨v, w, N⟩ ⟨k, hk, hv, hw, s, eI, o, e⟩
  replace hv : v = nI k := hv
  replace hw : w = nI n := hw
  subst hv; subst hw
  show f_J7_fill_d0a16_B6 (some a) y (nI k) (nI n) N _ Q
  unfold f_J7_fill_d0a16_B6
  have ek := nI_toInt (n := k) (by omega)
  have en := nI_toInt (n := n) (by omega)
  by_cases hkn : k < n
  · rw [if_neg (by rw [i32_le]; omega)]
    refine ⟨a, rfl, ⟨n, by rw [s.2.1]; exact hs, vp_of (by omega) (by omega)⟩, ?_⟩
    intro N2 hE
    refine ⟨⟨k + 1, hkn, nI_1 k, rfl, by show St M N2; rw [hE]; exact s, by show mI N2 = _; rw [hE]; exact eI, fun j hj => ?_, fun b j q => ?_⟩, ?_⟩
    · show mL N2 a j = y
      rw [hE, nI_clamp (by omega)]
      by_cases e2 : j = k
      · subst e2; rw [mL_sL_s]
      · rw [mL_ne _ _ (by omega)]; exact o j (by omega)
    · show mL N2 b j = _
      rw [hE, mL_ne _ _ (by omega)]; exact e b j q
    · show n - (nI k + 1).toNatClampNeg < n - (nI k).toNatClampNeg
      rw [nI_1, nI_clamp (by omega), nI_clamp (by omega)]; omega
  · rw [if_pos (by rw [i32_le]; omega)]
    obtain rfl : k = n := by omega
    exact hQ N s eI o e
theorem fill_i {M : Mem} {a n : Nat} {y : Int32} {Q : Mem → Prop} (hs : mS M a = .inr (0, n)) (hn : n < 2 ^ 31) (hQ : ∀ M1, Sm M M1 → (∀ j, j < n → mI M1 a j = y) → (∀ b j, ¬ b = a → mI M1 b j = mI M b j) → Q M1) : f_J7_fill_53178 (some a) y M Q := by
  unfold f_J7_fill_53178
  refine ⟨a, rfl, 0, n, ⟨by omega, hs⟩, ?_⟩
  unfold f_J7_fill_53178_L5
  refine ⟨fun z => ∃ k, k ≤ n ∧ z.1 = nI k ∧ z.2.1 = nI n ∧ Sm M z.2.2 ∧ (∀ j, j < k → mI z.2.2 a j = y) ∧ ∀ b j, ¬ b = a → mI z.2.2 b j = mI M b j, fun z => n - z.1.toNatClampNeg, ⟨0, Nat.zero_le _, rfl, rfl, Sm.rf M, fun j hj => absurd hj (Nat.not_lt_zero _), fun _ _ _ => rfl⟩, ?_⟩
  rintro ⟨v, w, N⟩ ⟨k, hk, hv, hw, s, o, e⟩
  replace hv : v = nI k := hv
  replace hw : w = nI n := hw
  subst hv; subst hw
  show f_J7_fill_53178_B5 (some a) y (nI k) (nI n) N _ Q
  unfold f_J7_fill_53178_B5
  have ek := nI_toInt (n := k) (by omega)
  have en := nI_toInt (n := n) (by omega)
  by_cases hkn : k < n
  · rw [if_neg (by rw [i32_le]; omega)]
    refine ⟨a, rfl, ⟨n, by rw [s.2.1]; exact hs, vp_of (by omega) (by omega)⟩, ?_⟩
    intro N2 hE
    refine ⟨⟨k + 1, hkn, nI_1 k, rfl, by show Sm M N2; rw [hE]; exact s, fun j hj => ?_, fun b j q => ?_⟩, ?_⟩
    · show mI N2 a j = y
      rw [hE, nI_clamp (by omega)]
      by_cases e2 : j = k
      · subst e2; rw [mI_sI_s]
      · rw [mI_ne _ _ (by omega)]; exact o j (by omega)
    · show mI N2 b j = _
      rw [hE, mI_ne _ _ (by omega)]; exact e b j q
    · show n - (nI k + 1).toNatClampNeg < n - (nI k).toNatClampNeg
      rw [nI_1, nI_clamp (by omega), nI_clamp (by omega)]; omega
  · rw [if_pos (by rw [i32_le]; omega)]
    obtain rfl : k = n := by omega
    exact hQ N s o e
theorem tapA_n {x : Int32} {M : Mem} {Q : Option Nat → Mem → Prop} (c : x.toInt < 0 ∨ 6 ≤ x.toInt) (q : Q none M) : f_X11_tapeAt 0 x M Q := by
  unfold f_X11_tapeAt f_X11_tapeAt_J10
  split
  · exact q
  · rw [if_neg]
    · exact q
    · rename_i a; rw [i32_lt] at a ⊢; simp only [Int32.reduceToInt] at a ⊢; omega
theorem tapA_s {k : Nat} {M : Mem} {Q : Option Nat → Mem → Prop} (hG : Good M) (hk : k < 6) (q : Q (some (64 + 2 * k)) M) : f_X11_tapeAt 0 (nI k) M Q := by
  unfold f_X11_tapeAt
  have e2 := nI_toInt (n := k) (by omega)
  rw [if_neg (by rw [i32_lt]; simp only [Int32.reduceToInt]; omega), if_pos (by rw [i32_lt]; simp only [Int32.reduceToInt]; omega)]
  refine ⟨oQ hG, 39, mP_g hG rfl, isA_g hG (by decide) rfl (vp_of (by omega) (by omega)), ?_⟩
  rw [nI_clamp (by omega), p_tape hG hk]; exact q
theorem isT_t {k : Nat} {M : Mem} {Q : Bool → Mem → Prop} (hG : Good M) (hk : k < 6) (q : Q true M) : f_X12_isTape 76 (nI k) M Q := by
  unfold f_X12_isTape
  have e2 := nI_toInt (n := k) (by omega)
  exact ⟨oM hG, in_t (by simp only [Int32.reduceToInt]; omega) q⟩
theorem isT_f {x : Int32} {M : Mem} {Q : Bool → Mem → Prop} (hG : Good M) (c : x.toInt < 0 ∨ 6 ≤ x.toInt) (q : Q false M) : f_X12_isTape 76 x M Q := by
  unfold f_X12_isTape
  exact ⟨oM hG, in_f (by simp only [Int32.reduceToInt]; omega) q⟩
theorem lack_f {a : Nat} {y : Int64} {M : Mem} {Q : Bool → Mem → Prop} (hO : isO M a [8]) (c : 0 ≤ y.toInt ∧ y.toInt < (mI M a 1).toInt) (q : Q false M) : f_X8_lacks a y M Q := by
  unfold f_X8_lacks
  rw [if_neg (by rw [lgc_lt]; simp only [Int64.reduceToInt]; omega)]
  refine ⟨hO, ?_⟩
  rw [if_pos (by rw [lgc_lt, Int32.toInt_toInt64]; omega)]; exact q
theorem lack_t {a : Nat} {y : Int64} {M : Mem} {Q : Bool → Mem → Prop} (hO : isO M a [8]) (c : y.toInt < 0 ∨ (mI M a 1).toInt ≤ y.toInt) (q : Q true M) : f_X8_lacks a y M Q := by
  unfold f_X8_lacks
  by_cases h : y.toInt < 0
  · rw [if_pos (by rw [lgc_lt]; exact h)]; exact q
  · rw [if_neg (by rw [lgc_lt]; exact h)]
    refine ⟨hO, ?_⟩
    rw [if_neg (by rw [lgc_lt, Int32.toInt_toInt64]; omega)]; exact q
theorem nI_mul (a b : Nat) : nI a * nI b = nI (a * b) := (Int32.ofNat_mul a b).symm
theorem tape_i {k j : Nat} : (60 : Int32) * nI k + nI j = nI (60 * k + j) := by
  rw [show (60 : Int32) = nI 60 from rfl, nI_mul, nI_add]
/-- read -/
theorem J1187 {M : Mem} (hI : Inv M) {v3 : Int32} {xs : Nat → Int32} {L : Nat} {K : Mem → Prop} (h1 : vp_in (v3 + 1) L) (h2 : vp_in (v3 + 2) L) (hK : ∀ M', Inv M' → K M') : f_L_law_J1187 0 76 v3 M xs L K := by
  obtain ⟨hG, ns, nt, nw, no, nh, cls, th, oa, kd, vv, iS0, iQ0, iN0, iH0, iZ0, iW0, iD0, iO0, iA0, iI0, iT0⟩ := id hI
  unfold f_L_law_J1187
  generalize xs (v3 + 1).toNatClampNeg = x1
  generalize xs (v3 + 2).toNatClampNeg = x2
  refine ⟨h1, h2, oQ hG, ?_⟩
  unfold f_X11_read f_X12_read
  refine ⟨oQ hG, ?_⟩
  by_cases c1 : 0 ≤ x1.toInt ∧ x1.toInt < 6
  case neg =>
    refine tapA_n (by omega) ⟨fun _ => ⟨h1, h2, oM hG, oM hG, isT_f hG (by omega) ?_⟩, fun b hb => by cases hb⟩
    simp only [if_true, if_false, Bool.false_eq_true, reduceIte]
    exact finL rfl (hK _ hI)
  obtain ⟨k, -, rfl, f1, f2⟩ := nI_ex c1.1
  have hk : k < 6 := by omega
  obtain ⟨t1, t2, t3, t4, t5, t6⟩ := iT0 k hk
  have hv : vp_in (nI k) 6 := vp_of (by omega) (by omega)
  refine tapA_s hG hk ⟨fun h => (by cases h), fun b hb => ?_⟩
  cases hb
  refine ⟨o_tape hG hk, ?_⟩
  by_cases c2 : 0 ≤ x2.toInt ∧ x2.toInt < (mI M (64 + 2 * k) 1).toInt
  case neg =>
    refine lack_t (o_tape hG hk) (by rw [Int32.toInt_toInt64]; omega) ?_
    simp only [if_true, if_false, Bool.false_eq_true, reduceIte]
    refine ⟨h1, h2, oM hG, oM hG, isT_t hG hk ?_⟩
    simp only [if_true, if_false, Bool.false_eq_true, reduceIte]
    refine ⟨oM hG, 114, mP_g hG rfl, isA_g hG (by decide) rfl hv, ?_⟩
    rw [f2, t1]
    split
    · exact finL rfl (hK _ hI)
    · refine ⟨115, mP_g hG rfl, isA_g hG (by decide) rfl hv, in_f ?_ ?_⟩
      · rw [t3, i32_subI] <;> simp only [Int32.reduceToInt] <;> unfold rg at t4 <;> omega
      · simp only [if_true, if_false, Bool.false_eq_true, reduceIte]
        exact finL rfl (hK _ hI)
  have hnot : ¬ mI M (64 + 2 * k) 0 < 0 := by
    intro hc
    rw [i32_lt] at hc
    simp only [Int32.reduceToInt] at hc
    have : mI M (64 + 2 * k) 0 = -1 := by
      apply Int32.toInt_inj.mp
      simp only [Int32.reduceToInt]
      have := t2.1
      omega
    have e := t5 this
    rw [e] at c2
    simp only [Int32.reduceToInt] at c2
    omega
  obtain ⟨j, -, rfl, j1, j2⟩ := nI_ex c2.1
  have hj : j < 60 := by have := t4.2; omega
  refine lack_f (o_tape hG hk) (by rw [Int32.toInt_toInt64]; omega) ?_
  simp only [if_true, if_false, Bool.false_eq_true, reduceIte]
  refine ⟨o_tape hG hk, 65 + 2 * k, p_tapeI hG hk, a_tape hG hk (vp_of (by omega) (by omega)), h1, h2, oM hG, oM hG, isT_t hG hk ?_⟩
  simp only [if_true, if_false, Bool.false_eq_true, reduceIte]
  refine ⟨oM hG, 114, mP_g hG rfl, isA_g hG (by decide) rfl hv, ?_⟩
  rw [f2, t1, if_neg hnot]
  refine ⟨115, mP_g hG rfl, isA_g hG (by decide) rfl hv, in_t ?_ ?_⟩
  · rw [t3, i32_subI] <;> simp only [Int32.reduceToInt] <;> unfold rg at t4 <;> omega
  simp only [if_true, if_false, Bool.false_eq_true, reduceIte]
  rw [tape_i]
  refine ⟨oM hG, 116, mP_g hG rfl, isA_g hG (by decide) rfl (vp_of (by rw [nI_toInt (by omega)]; omega) (by rw [nI_toInt (by omega)]; omega)), ?_⟩
  rw [j2, nI_clamp (by omega)]
  exact finL (t6 j hj).symm (hK _ hI)
/-- item -/
theorem fit_c {a : Nat} {y : Int64} {M : Mem} {Q : Int64 → Mem → Prop} (hO : isO M a [8]) (c : rg (mI M a 0) 0 4) {b : Nat} (q : ∀ v, (∀ R : Int64 → Mem → Prop, ∀ N, R v N → f_X12_narrow b (mI M a 0) y N R) → Q v M) : f_X8_fitted a y M Q := by
  unfold f_X8_fitted
  refine ⟨hO, ?_⟩
  obtain ⟨j, -, e, f1, f2⟩ := nI_ex c.1
  have hj : j = 0 ∨ j = 1 ∨ j = 2 ∨ j = 3 ∨ j = 4 := by have := c.2; omega
  rw [e] at q ⊢
  unfold f_X12_narrow at q
  rcases hj with rfl | rfl | rfl | rfl | rfl
  · rw [if_pos (by decide)]
    exact q _ fun R N h => by rw [if_pos (by decide)]; exact h
  · rw [if_neg (by decide), if_pos (by decide)]
    exact q _ fun R N h => by rw [if_neg (by decide), if_pos (by decide)]; exact h
  · rw [if_neg (by decide), if_neg (by decide), if_pos (by decide)]
    exact q _ fun R N h => by rw [if_neg (by decide), if_neg (by decide), if_pos (by decide)]; exact h
  · rw [if_neg (by decide), if_neg (by decide), if_neg (by decide), if_pos (by decide)]
    exact q _ fun R N h => by rw [if_neg (by decide), if_neg (by decide), if_neg (by decide), if_neg (by decide)]; exact h
  · rw [if_neg (by decide), if_neg (by decide), if_neg (by decide), if_neg (by decide), if_pos (by decide)]
    by_cases hz : lg_cmp y 0 = 0
    · rw [if_pos hz]
      exact q _ fun R N h => by rw [if_neg (by decide), if_neg (by decide), if_neg (by decide), if_pos (by decide), if_pos hz]; exact h
    · rw [if_neg hz]
      exact q _ fun R N h => by rw [if_neg (by decide), if_neg (by decide), if_neg (by decide), if_pos (by decide), if_neg hz]; exact h
theorem J1114 {M : Mem} (hI : Inv M) {v3 : Int32} {xs : Nat → Int32} {L : Nat} {K : Mem → Prop} (h1 : vp_in (v3 + 1) L) (h2 : vp_in (v3 + 2) L) (h3 : vp_in (v3 + 3) L) (h4 : vp_in (v3 + 4) L) (hK : ∀ M', Inv M' → K M') : f_L_law_J1114 0 76 v3 M xs L K := by
  obtain ⟨hG, ns, nt, nw, no, nh, cls, th, oa, kd, vv, iS0, iQ0, iN0, iH0, iZ0, iW0, iD0, iO0, iA0, iI0, iT0⟩ := id hI
  unfold f_L_law_J1114
  generalize xs (v3 + 1).toNatClampNeg = x1
  generalize xs (v3 + 2).toNatClampNeg = x2
  generalize (((((xs ((v3 + (3 : Int32))).toNatClampNeg)).toInt64) <<< (((32 : Int32)).toInt64 &&& 63)) ||| ((((xs ((v3 + (4 : Int32))).toNatClampNeg)).toInt64) &&& (4294967295 : Int64))) = y
  refine ⟨h1, h2, h3, h4, oQ hG, ?_⟩
  unfold f_X11_item f_X12_item
  refine ⟨oQ hG, ?_⟩
  by_cases c1 : 0 ≤ x1.toInt ∧ x1.toInt < 6
  case neg =>
    refine tapA_n (by omega) ⟨fun _ => ⟨h1, h2, h3, h4, oM hG, oM hG, isT_f hG (by omega) ?_⟩, fun b hb => by cases hb⟩
    simp only [if_true, if_false, Bool.false_eq_true, reduceIte]
    first | exact fin_ rfl (hK _ hI) | exact hK _ hI
  obtain ⟨k, -, rfl, f1, f2⟩ := nI_ex c1.1
  have hk : k < 6 := by omega
  obtain ⟨t1, t2, t3, t4, t5, t6⟩ := id (iT0 k hk)
  have hv : vp_in (nI k) 6 := vp_of (by omega) (by omega)
  refine tapA_s hG hk ⟨fun h => (by cases h), fun b hb => ?_⟩
  cases hb
  refine ⟨o_tape hG hk, ?_⟩
  by_cases hnot : mI M (64 + 2 * k) 0 = -1
  · rw [if_pos hnot]
    refine ⟨h1, h2, h3, h4, oM hG, oM hG, isT_t hG hk ?_⟩
    simp only [if_true, if_false, Bool.false_eq_true, reduceIte]
    refine ⟨oM hG, 114, mP_g hG rfl, isA_g hG (by decide) rfl hv, ?_⟩
    rw [f2, t1, hnot, if_neg (by decide)]
    first | exact fin_ rfl (hK _ hI) | exact hK _ hI
  rw [if_neg hnot]
  have hpos : 0 ≤ (mI M (64 + 2 * k) 0).toInt := by
    have := t2.1
    have h9 : ¬ (mI M (64 + 2 * k) 0).toInt = -1 := fun e => hnot (Int32.toInt_inj.mp e)
    omega
  have hpos2 : 0 ≤ mI M (64 + 2 * k) 0 := by rw [i32_le]; simp only [Int32.reduceToInt]; exact hpos
  by_cases c2 : 0 ≤ x2.toInt ∧ x2.toInt < (mI M (64 + 2 * k) 1).toInt
  case neg =>
    refine lack_t (o_tape hG hk) (by rw [Int32.toInt_toInt64]; omega) ?_
    simp only [if_true, if_false, Bool.false_eq_true, reduceIte]
    refine ⟨h1, h2, h3, h4, oM hG, oM hG, isT_t hG hk ?_⟩
    simp only [if_true, if_false, Bool.false_eq_true, reduceIte]
    refine ⟨oM hG, 114, mP_g hG rfl, isA_g hG (by decide) rfl hv, ?_⟩
    rw [f2, t1, if_pos hpos2]
    refine ⟨115, mP_g hG rfl, isA_g hG (by decide) rfl hv, in_f ?_ ?_⟩
    · rw [t3, i32_subI] <;> simp only [Int32.reduceToInt] <;> unfold rg at t4 <;> omega
    · simp only [if_true, if_false, Bool.false_eq_true, reduceIte]
      first | exact fin_ rfl (hK _ hI) | exact hK _ hI
  obtain ⟨j, -, rfl, j1, j2⟩ := nI_ex c2.1
  have hj : j < 60 := by have := t4.2; omega
  refine lack_f (o_tape hG hk) (by rw [Int32.toInt_toInt64]; omega) ?_
  simp only [if_true, if_false, Bool.false_eq_true, reduceIte]
  refine ⟨o_tape hG hk, fit_c (b := 76) (o_tape hG hk) ⟨hpos, t2.2⟩ fun v hvn => ⟨65 + 2 * k, p_tapeI hG hk, a_tape hG hk (vp_of (by omega) (by omega)), ?_⟩⟩
  intro M2 hE
  have s2 : St M M2 := by rw [hE]; exact St.rf M
  have hG2 := s2.good hG
  have eI : mI M2 = mI M := by rw [hE]; rfl
  refine ⟨h1, h2, h3, h4, oM hG2, oM hG2, isT_t hG2 hk ?_⟩
  simp only [if_true, if_false, Bool.false_eq_true, reduceIte]
  refine ⟨oM hG2, 114, mP_g hG2 rfl, isA_g hG2 (by decide) rfl hv, ?_⟩
  rw [f2, eI, t1, if_pos hpos2]
  refine ⟨115, mP_g hG2 rfl, isA_g hG2 (by decide) rfl hv, in_t ?_ ?_⟩
  · rw [t3, i32_subI] <;> simp only [Int32.reduceToInt] <;> unfold rg at t4 <;> omega
  simp only [if_true, if_false, Bool.false_eq_true, reduceIte]
  refine ⟨oM hG2, 114, mP_g hG2 rfl, isA_g hG2 (by decide) rfl hv, ?_⟩
  rw [eI, t1]
  refine hvn _ M2 ⟨116, mP_g hG2 rfl, ?_⟩
  rw [tape_i]
  refine ⟨isA_g hG2 (by decide) rfl (vp_of (by rw [nI_toInt (by omega)]; omega) (by rw [nI_toInt (by omega)]; omega)), ?_⟩
  rw [nI_clamp (by omega)]
  intro M3 hE3
  have s3 : St M M3 := by rw [hE3]; exact s2
  have eI3 : mI M3 = mI M := by rw [hE3]; exact eI
  refine (hK _ ⟨s3.good hG, ns, nt, nw, no, nh, cls, th, oa, kd, vv, iS_fr iS0 (fun _ _ _ => by rw [eI3]), iQ_fr iQ0 (fun _ _ _ => by rw [eI3]), iN_fr iN0 (fun _ _ _ => by rw [eI3]), iH_fr iH0 (fun _ _ _ => by rw [eI3]), iZ_fr iZ0 (fun _ _ _ => by rw [eI3]), iW_fr iW0 (fun _ _ _ => by rw [eI3]), iD_fr iD0 (fun _ _ _ => by rw [eI3]), iO_fr iO0 s3.1 s3.2.1 (fun _ _ _ => by rw [s3.2.2]) (fun _ _ _ => by rw [eI3]), iA_fr iA0 (fun r hr => (iO0.2.2.2.1 r hr).2.1.1) (by rw [s3.2.2]) (fun _ _ _ => by rw [eI3]), iI_fr iI0 (fun _ _ _ => by rw [eI3]), ?_⟩)
  intro i hi
  obtain ⟨u1, u2, u3, u4, u5, u6⟩ := iT0 i hi
  rw [eI3]
  refine ⟨u1, u2, u3, u4, u5, fun q hq => ?_⟩
  rw [hE3, hE, j2]
  by_cases e : i = k ∧ q = j
  · obtain ⟨rfl, rfl⟩ := e
    rw [mL_sL_s, mL_ne _ _ (by omega), mL_sL_s]
  · rw [mL_ne _ _ (by omega), mL_ne _ _ (by omega), mL_ne _ _ (by omega), mL_ne _ _ (by omega)]
    exact u6 q hq
