/-! ===== shift ===== -/
theorem i64_addI {a b : Int64} (h0 : -9223372036854775808 ≤ a.toInt + b.toInt) (h1 : a.toInt + b.toInt < 9223372036854775808) : (a + b).toInt = a.toInt + b.toInt := by
  rw [Int64.toInt_add, Int.bmod_def]; split <;> omega
theorem lgc_gt (x y : Int64) : (0 < lg_cmp x y) ↔ y.toInt < x.toInt := by rw [lg_cmp_gt, Int64.lt_iff_toInt_lt]
theorem lgc_le (x y : Int64) : (lg_cmp x y ≤ 0) ↔ x.toInt ≤ y.toInt := by rw [lg_cmp_le, Int64.le_iff_toInt_le]
theorem shift_m {M : Mem} {t o i j n lt lo : Nat} {Q : Int32 → Mem → Prop} (hG : Good M) (ht : t < 6) (ho : o < 6) (h1 : i + n ≤ 60) (h2 : j + n ≤ 60) (hQ : ∀ M1, St M M1 → mI M1 = mI M → (∀ k, k < n → mL M1 116 (60 * o + j + k) = mL M 116 (60 * t + i + k)) → (∀ a q, ¬ (a = 117 ∨ a = 116 ∧ 60 * o + j ≤ q ∧ q < 60 * o + j + n) → mL M1 a q = mL M a q) → Q (nI n) M1) : f_X12_shift_L104 76 (nI t) (nI i) (nI o) (nI j) (nI n) (0 : Int32) M Q := by
  unfold f_X12_shift_L104
  have en := nI_toInt (n := n) (by omega)
  refine cnt n (by omega) (fun k N => St M N ∧ mI N = mI M ∧ (∀ q, q < k → mL N 117 q = mL M 116 (60 * t + i + q)) ∧ ∀ a q, ¬ (a = 117) → mL N a q = mL M a q) ⟨St.rf M, rfl, fun q hq => absurd hq (Nat.not_lt_zero _), fun _ _ _ => rfl⟩ ?_
  rintro K k N hk ⟨sN, eI, oN, eN⟩ hK
  have hGN := sN.good hG
  show f_X12_shift_B104 76 (nI t) (nI i) (nI o) (nI j) (nI n) (nI k) N K Q
  unfold f_X12_shift_B104
  have ek := nI_toInt (n := k) (by omega)
  by_cases hkn : k < n
  · rw [if_neg (by rw [i32_le]; omega)]
    refine ⟨oM hGN, 116, mP_g hGN rfl, ?_⟩
    rw [tape_i, nI_add]
    refine ⟨isA_g hGN (by decide) rfl (vp_of (by rw [nI_toInt (by omega)]; omega) (by rw [nI_toInt (by omega)]; omega)), 117, mP_g hGN rfl, isA_g hGN (by decide) rfl (vp_of (by omega) (by omega)), ?_⟩
    rw [nI_clamp (by omega), nI_clamp (by omega)]
    intro N2 hE
    refine hK hkn N2 ⟨by rw [hE]; exact sN, by rw [hE]; exact eI, fun q hq => ?_, fun a q z => ?_⟩
    · rw [hE]
      by_cases e : q = k
      · subst e; rw [mL_sL_s, eN _ _ (by omega)]
      · rw [mL_ne _ _ (by omega)]; exact oN q (by omega)
    · rw [hE, mL_ne _ _ (by omega)]; exact eN a q z
  obtain rfl : k = n := by omega
  rw [if_pos (by rw [i32_le]; omega)]
  clear hK
  unfold f_X12_shift_L141
  refine cnt k (by omega) (fun q N' => St M N' ∧ mI N' = mI M ∧ (∀ z, z < q → mL N' 116 (60 * o + j + z) = mL M 116 (60 * t + i + z)) ∧ (∀ z, z < k → mL N' 117 z = mL M 116 (60 * t + i + z)) ∧ ∀ a z, ¬ (a = 117 ∨ a = 116 ∧ 60 * o + j ≤ z ∧ z < 60 * o + j + k) → mL N' a z = mL M a z) ⟨sN, eI, fun q hq => absurd hq (Nat.not_lt_zero _), oN, fun a z q => eN a z (by omega)⟩ ?_
  rintro K2 q N' hq ⟨sN', eI', pN', oN', eN'⟩ hK
  have hGN' := sN'.good hG
  show f_X12_shift_B141 76 (nI t) (nI i) (nI o) (nI j) (nI k) (nI q) N' K2 Q
  unfold f_X12_shift_B141
  have eq := nI_toInt (n := q) (by omega)
  by_cases hqk : q < k
  · rw [if_neg (by rw [i32_le]; omega)]
    refine ⟨oM hGN', 117, mP_g hGN' rfl, isA_g hGN' (by decide) rfl (vp_of (by omega) (by omega)), 116, mP_g hGN' rfl, ?_⟩
    rw [tape_i, nI_add]
    refine ⟨isA_g hGN' (by decide) rfl (vp_of (by rw [nI_toInt (by omega)]; omega) (by rw [nI_toInt (by omega)]; omega)), ?_⟩
    rw [nI_clamp (by omega), nI_clamp (by omega)]
    intro N2 hE
    refine hK hqk N2 ⟨by rw [hE]; exact sN', by rw [hE]; exact eI', fun z hz => ?_, fun z hz => ?_, fun a z y => ?_⟩
    · rw [hE]
      by_cases e : z = q
      · subst e; rw [mL_sL_s, oN' _ hqk]
      · rw [mL_ne _ _ (by omega)]; exact pN' z (by omega)
    · rw [hE, mL_ne _ _ (by omega)]; exact oN' z hz
    · rw [hE, mL_ne _ _ (by omega)]; exact eN' a z y
  obtain rfl : q = k := by omega
  rw [if_pos (by rw [i32_le]; omega)]
  exact hQ N' sN' eI' pN' eN'
theorem J1221 {M : Mem} (hI : Inv M) {v3 : Int32} {xs : Nat → Int32} {L : Nat} {K : Mem → Prop} (h1 : vp_in (v3 + 1) L) (h2 : vp_in (v3 + 2) L) (h3 : vp_in (v3 + 3) L) (h4 : vp_in (v3 + 4) L) (h5 : vp_in (v3 + 5) L) (hK : ∀ M', Inv M' → K M') : f_L_law_J1221 0 76 v3 M xs L K := by
  obtain ⟨hG, ns, nt, nw, no, nh, cls, th, oa, kd, vv, iS0, iQ0, iN0, iH0, iZ0, iW0, iD0, iO0, iA0, iI0, iT0⟩ := id hI
  unfold f_L_law_J1221
  generalize xs (v3 + 1).toNatClampNeg = x1
  generalize xs (v3 + 2).toNatClampNeg = x2
  generalize xs (v3 + 3).toNatClampNeg = x3
  generalize xs (v3 + 4).toNatClampNeg = x4
  generalize xs (v3 + 5).toNatClampNeg = x5
  refine ⟨h1, h2, h3, h4, h5, oQ hG, ?_⟩
  unfold f_X11_shift f_X12_shift
  refine ⟨oQ hG, ?_⟩
  by_cases c1 : 0 ≤ x1.toInt ∧ x1.toInt < 6
  case neg =>
    refine tapA_n (by omega) ⟨oQ hG, ?_⟩
    by_cases c3 : 0 ≤ x3.toInt ∧ x3.toInt < 6
    case neg =>
      refine tapA_n (by omega) ⟨fun _ => ⟨h1, h2, h3, h4, h5, oM hG, oM hG, isT_f hG (by omega) ?_⟩, fun b hb => by cases hb⟩
      simp only [if_true, if_false, Bool.false_eq_true, reduceIte]
      first | exact fin_ rfl (hK _ hI) | exact hK _ hI
    obtain ⟨k, -, rfl, f1, f2⟩ := nI_ex c3.1
    refine tapA_s hG (by omega) ⟨fun _ => ⟨h1, h2, h3, h4, h5, oM hG, oM hG, isT_f hG (by omega) ?_⟩, fun b hb => by cases hb⟩
    simp only [if_true, if_false, Bool.false_eq_true, reduceIte]
    first | exact fin_ rfl (hK _ hI) | exact hK _ hI
  obtain ⟨t, -, rfl, f1, f2⟩ := nI_ex c1.1
  have ht : t < 6 := by omega
  refine tapA_s hG ht ⟨oQ hG, ?_⟩
  by_cases c3 : 0 ≤ x3.toInt ∧ x3.toInt < 6
  case neg =>
    refine tapA_n (by omega) ⟨fun h => (by cases h), fun b hb => ⟨fun _ => ⟨h1, h2, h3, h4, h5, oM hG, oM hG, isT_t hG ht ?_⟩, fun b hb => by cases hb⟩⟩
    simp only [if_true, if_false, Bool.false_eq_true, reduceIte]
    refine ⟨oM hG, isT_f hG (by omega) ?_⟩
    simp only [if_true, if_false, Bool.false_eq_true, reduceIte]
    first | exact fin_ rfl (hK _ hI) | exact hK _ hI
  obtain ⟨o, -, rfl, g1, g2⟩ := nI_ex c3.1
  have ho : o < 6 := by omega
  obtain ⟨t1, t2, t3, t4, t5, t6⟩ := id (iT0 t ht)
  obtain ⟨u1, u2, u3, u4, u5, u6⟩ := id (iT0 o ho)
  have hv : vp_in (nI t) 6 := vp_of (by omega) (by omega)
  have hw : vp_in (nI o) 6 := vp_of (by omega) (by omega)
  refine tapA_s hG ho ⟨fun h => (by cases h), fun b hb => ⟨fun h => (by cases h), fun b2 hb2 => ?_⟩⟩
  cases hb; cases hb2
  refine ⟨o_tape hG ht, ?_⟩
  have pos : ∀ x : Int32, rg x (-1) 4 → ¬ x = -1 → ¬ x < 0 := fun x hx hn hc => by
    rw [i32_lt] at hc; simp only [Int32.reduceToInt] at hc
    have h9 : ¬ x.toInt = -1 := fun q => hn (Int32.toInt_inj.mp q)
    have := hx.1; omega
  have pos2 : ∀ x : Int32, rg x (-1) 4 → ¬ x = -1 → 0 ≤ x := fun x hx hn => by
    rw [i32_le]; simp only [Int32.reduceToInt]
    have h9 : ¬ x.toInt = -1 := fun q => hn (Int32.toInt_inj.mp q)
    have := hx.1; omega
  by_cases z1 : mI M (64 + 2 * t) 0 = -1
  · rw [if_pos z1]
    refine ⟨h1, h2, h3, h4, h5, oM hG, oM hG, isT_t hG ht ?_⟩
    simp only [if_true, if_false, Bool.false_eq_true, reduceIte]
    refine ⟨oM hG, isT_t hG ho ?_⟩
    simp only [if_true, if_false, Bool.false_eq_true, reduceIte]
    refine ⟨oM hG, 114, mP_g hG rfl, isA_g hG (by decide) rfl hv, ?_⟩
    rw [f2, t1, z1, if_pos (by decide)]
    first | exact fin_ rfl (hK _ hI) | exact hK _ hI
  rw [if_neg z1]
  refine ⟨o_tape hG ho, ?_⟩
  by_cases z2 : mI M (64 + 2 * o) 0 = -1
  · rw [if_pos z2]
    refine ⟨h1, h2, h3, h4, h5, oM hG, oM hG, isT_t hG ht ?_⟩
    simp only [if_true, if_false, Bool.false_eq_true, reduceIte]
    refine ⟨oM hG, isT_t hG ho ?_⟩
    simp only [if_true, if_false, Bool.false_eq_true, reduceIte]
    refine ⟨oM hG, 114, mP_g hG rfl, isA_g hG (by decide) rfl hv, ?_⟩
    rw [f2, t1, if_neg (pos _ t2 z1)]
    refine ⟨isA_g hG (by decide) rfl hw, ?_⟩
    rw [g2, u1, z2, if_neg (by decide)]
    first | exact fin_ rfl (hK _ hI) | exact hK _ hI
  rw [if_neg z2]
  by_cases z3 : mI M (64 + 2 * t) 0 = mI M (64 + 2 * o) 0
  case neg =>
    rw [if_neg z3]
    refine ⟨h1, h2, h3, h4, h5, oM hG, oM hG, isT_t hG ht ?_⟩
    simp only [if_true, if_false, Bool.false_eq_true, reduceIte]
    refine ⟨oM hG, isT_t hG ho ?_⟩
    simp only [if_true, if_false, Bool.false_eq_true, reduceIte]
    refine ⟨oM hG, 114, mP_g hG rfl, isA_g hG (by decide) rfl hv, ?_⟩
    rw [f2, t1, if_neg (pos _ t2 z1)]
    refine ⟨isA_g hG (by decide) rfl hw, ?_⟩
    rw [g2, u1, if_pos (pos2 _ u2 z2)]
    refine ⟨isA_g hG (by decide) rfl hv, isA_g hG (by decide) rfl hw, ?_⟩
    rw [if_neg z3]
    first | exact fin_ rfl (hK _ hI) | exact hK _ hI
  rw [if_pos z3]
  have lt0 := t4.1
  have lt1 := t4.2
  have lo0 := u4.1
  have lo1 := u4.2
  by_cases ok : 0 ≤ x5.toInt ∧ 0 ≤ x2.toInt ∧ 0 ≤ x4.toInt ∧ x2.toInt + x5.toInt ≤ (mI M (64 + 2 * t) 1).toInt ∧ x4.toInt + x5.toInt ≤ (mI M (64 + 2 * o) 1).toInt
  case neg =>
    have P13 : vp_in (v3 + 1) L ∧ (vp_in (v3 + 2) L ∧ (vp_in (v3 + 3) L ∧ (vp_in (v3 + 4) L ∧ (vp_in (v3 + 5) L ∧ (isO M 76 [12] ∧ f_X12_shift 76 (nI t) x2 (nI o) x4 x5 M (fun w' M2 => if (-13 : Int32) = w' then K M2 else False)))))) := by
      unfold f_X12_shift
      refine ⟨h1, h2, h3, h4, h5, oM hG, oM hG, isT_t hG ht ?_⟩
      simp only [if_true, if_false, Bool.false_eq_true, reduceIte]
      refine ⟨oM hG, isT_t hG ho ?_⟩
      simp only [if_true, if_false, Bool.false_eq_true, reduceIte]
      refine ⟨oM hG, 114, mP_g hG rfl, isA_g hG (by decide) rfl hv, ?_⟩
      rw [f2, t1, if_neg (pos _ t2 z1)]
      refine ⟨isA_g hG (by decide) rfl hw, ?_⟩
      rw [g2, u1, if_pos (pos2 _ u2 z2)]
      refine ⟨isA_g hG (by decide) rfl hv, isA_g hG (by decide) rfl hw, ?_⟩
      rw [if_pos z3]
      have fin : K M := hK _ hI
      split
      · first | exact fin_ rfl fin | exact fin
      rename_i n5
      rw [i32_lt] at n5; simp only [Int32.reduceToInt] at n5
      split
      · first | exact fin_ rfl fin | exact fin
      rename_i n2
      rw [i32_lt] at n2; simp only [Int32.reduceToInt] at n2
      split
      · first | exact fin_ rfl fin | exact fin
      rename_i n4
      rw [i32_lt] at n4; simp only [Int32.reduceToInt] at n4
      have l5 := Int32.toInt_lt x5
      refine ⟨115, mP_g hG rfl, isA_g hG (by decide) rfl hv, ?_⟩
      split
      · first | exact fin_ rfl fin | exact fin
      rename_i m2
      rw [t3, i32_lt, i32_subI (by omega) (by omega)] at m2
      refine ⟨isA_g hG (by decide) rfl hw, ?_⟩
      rw [if_neg]
      · first | exact fin_ rfl fin | exact fin
      · rw [u3, i32_le, i32_subI (by omega) (by omega)]
        omega
    unfold f_X12_shift at P13
    have l5 := Int32.toInt_lt x5
    have l2 := Int32.toInt_lt x2
    have l4 := Int32.toInt_lt x4
    by_cases n5 : x5 < 0
    · rw [if_pos n5]; exact P13
    rw [if_neg n5]
    rw [i32_lt] at n5; simp only [Int32.reduceToInt] at n5
    by_cases n2 : x2 < 0
    · rw [if_pos n2]; exact P13
    rw [if_neg n2]
    rw [i32_lt] at n2; simp only [Int32.reduceToInt] at n2
    by_cases n4 : x4 < 0
    · rw [if_pos n4]; exact P13
    rw [if_neg n4]
    rw [i32_lt] at n4; simp only [Int32.reduceToInt] at n4
    by_cases m2 : 0 < lg_cmp (x2.toInt64 + x5.toInt64) ((mI M (64 + 2 * t) 1).toInt64)
    · rw [if_pos m2]; exact P13
    rw [if_neg m2]
    rw [lgc_gt, i64_addI (by simp only [Int32.toInt_toInt64]; omega) (by simp only [Int32.toInt_toInt64]; omega)] at m2
    simp only [Int32.toInt_toInt64] at m2
    rw [if_neg]
    · exact P13
    · rw [lgc_le, i64_addI (by simp only [Int32.toInt_toInt64]; omega) (by simp only [Int32.toInt_toInt64]; omega)]
      simp only [Int32.toInt_toInt64]
      omega
  obtain ⟨ok5, ok2, ok4, okt, oko⟩ := ok
  obtain ⟨n, -, rfl, n1, n2⟩ := nI_ex ok5
  obtain ⟨i, -, rfl, i1, i2⟩ := nI_ex ok2
  obtain ⟨j, -, rfl, j1, j2⟩ := nI_ex ok4
  have nn5 : ¬ nI n < 0 := by rw [i32_lt]; simp only [Int32.reduceToInt]; omega
  have nn2 : ¬ nI i < 0 := by rw [i32_lt]; simp only [Int32.reduceToInt]; omega
  have nn4 : ¬ nI j < 0 := by rw [i32_lt]; simp only [Int32.reduceToInt]; omega
  rw [if_neg nn5, if_neg nn2, if_neg nn4, if_neg, if_pos]
  rotate_left
  · rw [lgc_le, i64_addI (by simp only [Int32.toInt_toInt64]; omega) (by simp only [Int32.toInt_toInt64]; omega)]
    simp only [Int32.toInt_toInt64]; omega
  · rw [lgc_gt, i64_addI (by simp only [Int32.toInt_toInt64]; omega) (by simp only [Int32.toInt_toInt64]; omega)]
    simp only [Int32.toInt_toInt64]; omega
  have hsh : ∀ k, k < 6 → mS M (65 + 2 * k) = .inr (3, 60) := fun k hk => by
    rw [hG.2.1 _ (by omega)]
    rcases six hk with rfl | rfl | rfl | rfl | rfl | rfl <;> rfl
  refine ⟨65 + 2 * o, p_tapeI hG ho, 65 + 2 * t, p_tapeI hG ht, ⟨60, 60, hsh t ht, hsh o ho, nn2, nn4, nn5, by omega, by omega⟩, ?_⟩
  intro M1 hE1
  rw [i2, j2, n2] at hE1
  have s1 : St M M1 := by rw [hE1]; exact St.rf M
  have eI1 : mI M1 = mI M := by rw [hE1]; rfl
  have hG1 := s1.good hG
  refine ⟨h1, h2, h3, h4, h5, oM hG1, oM hG1, isT_t hG1 ht ?_⟩
  simp only [if_true, if_false, Bool.false_eq_true, reduceIte]
  refine ⟨oM hG1, isT_t hG1 ho ?_⟩
  simp only [if_true, if_false, Bool.false_eq_true, reduceIte]
  refine ⟨oM hG1, 114, mP_g hG1 rfl, isA_g hG1 (by decide) rfl hv, ?_⟩
  rw [f2, eI1, t1, if_neg (pos _ t2 z1)]
  refine ⟨isA_g hG1 (by decide) rfl hw, ?_⟩
  rw [g2, u1, if_pos (pos2 _ u2 z2)]
  refine ⟨isA_g hG1 (by decide) rfl hv, isA_g hG1 (by decide) rfl hw, ?_⟩
  rw [if_pos z3, if_neg nn5, if_neg nn2, if_neg nn4]
  refine ⟨115, mP_g hG1 rfl, isA_g hG1 (by decide) rfl hv, ?_⟩
  rw [t3, if_neg (by rw [i32_lt, i32_subI (by omega) (by omega)]; omega)]
  refine ⟨isA_g hG1 (by decide) rfl hw, ?_⟩
  rw [u3, if_pos (by rw [i32_le, i32_subI (by omega) (by omega)]; omega)]
  refine shift_m (lt := 0) (lo := 0) hG1 ht ho (by omega) (by omega) fun M2 s2 eI2 p2 e2 => ?_
  have s3 : St M M2 := ⟨s2.1.trans s1.1, s2.2.1.trans s1.2.1, s2.2.2.trans s1.2.2⟩
  have eI3 : mI M2 = mI M := eI2.trans eI1
  have fin : Inv M2 := by
    refine ⟨s3.good hG, ns, nt, nw, no, nh, cls, th, oa, kd, vv, iS_fr iS0 (fun _ _ _ => by rw [eI3]), iQ_fr iQ0 (fun _ _ _ => by rw [eI3]), iN_fr iN0 (fun _ _ _ => by rw [eI3]), iH_fr iH0 (fun _ _ _ => by rw [eI3]), iZ_fr iZ0 (fun _ _ _ => by rw [eI3]), iW_fr iW0 (fun _ _ _ => by rw [eI3]), iD_fr iD0 (fun _ _ _ => by rw [eI3]), iO_fr iO0 s3.1 s3.2.1 (fun _ _ _ => by rw [s3.2.2]) (fun _ _ _ => by rw [eI3]), iA_fr iA0 (fun r hr => (iO0.2.2.2.1 r hr).2.1.1) (by rw [s3.2.2]) (fun _ _ _ => by rw [eI3]), iI_fr iI0 (fun _ _ _ => by rw [eI3]), ?_⟩
    intro q hq
    obtain ⟨w1, w2, w3, w4, w5, w6⟩ := iT0 q hq
    rw [eI3]
    refine ⟨w1, w2, w3, w4, w5, fun z hz => ?_⟩
    have cl : ∀ a z, mL M1 a z = if a = 65 + 2 * o then (if j ≤ z ∧ z < j + n then mL M (65 + 2 * t) (i + (z - j)) else mL M (65 + 2 * o) z) else mL M a z := fun a z => by
      rw [hE1]
      by_cases e : a = 65 + 2 * o
      · subst e; rw [mL_sLr_j, if_pos rfl]; rfl
      · rw [mL_sLr_ne _ _ e, if_neg e]
    by_cases e : q = o
    · subst e
      by_cases e3 : j ≤ z ∧ z < j + n
      · have e4 := p2 (z - j) (by omega)
        rw [show 60 * q + j + (z - j) = 60 * q + z from by omega] at e4
        rw [e4, e2 (65 + 2 * q) z (by omega), cl, cl, if_neg (by omega), if_pos rfl, if_pos e3, Nat.add_assoc]
        exact t6 _ (by omega)
      · rw [e2 116 _ (by omega), e2 (65 + 2 * q) z (by omega), cl, cl, if_neg (by omega), if_pos rfl, if_neg e3]
        exact w6 z hz
    · rw [e2 116 _ (by omega), e2 (65 + 2 * q) z (by omega), cl, cl, if_neg (by omega), if_neg (by omega)]
      exact w6 z hz
  first | exact fin_ rfl (hK _ fin) | exact hK _ fin
