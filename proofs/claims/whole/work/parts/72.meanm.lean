/-! ===== mean by the model ===== -/
theorem mean_m82 {M0 M : Mem} {ns nt nw no nh r : Nat} {cls : Nat → List Cl} {th : Option Nat} {oa kd vv : Nat → Nat} {X : Nat → Nat → Nat} {S : HS} (A : AK M0 M ns nt nw no nh r cls th oa kd vv X S) {n : Nat} {x2 : Int32} {v3 v5 : Int64} {K : Int64 × Int64 × Int32 × Mem → Prop} {Q : Int64 → Mem → Prop} (h6 : nh ≤ 6) (hn : n < 2 ^ nh) (hK : ∀ M1, AF nh M0 M1 → wgN M0 (fun k => !(n.testBit k)) nh ≤ 1000000 → (wgN M0 (fun k => !(n.testBit k)) nh = 0 → K (v3, v5, nI n + 1, M1)) ∧ (aLo X (mnS M0 X (wcl cls th) ns nh (fun k => !(n.testBit k))) ≤ 612000 → K (v3 + lL (wgN M0 (fun k => !(n.testBit k)) nh * aLo X (mnS M0 X (wcl cls th) ns nh (fun k => !(n.testBit k)))), v5, nI n + 1, M1))) : f_X12_mean_L82 76 (nI r) x2 v3 v5 (nI n) 1 0 M K Q := by
  obtain ⟨J, f, hr, hX', hS'⟩ := id A
  have hC : mnC M0 ns nh := ⟨h6, J.2.2.2.2.1, J.2.2.1, J.2.1.1⟩
  have hH := J.2.2.2.2.1
  have J1 := J.af f
  have hG := J1.1
  have iH1 : iH M ns nh := J1.2.2.2.2.1
  have iQ1 : iQ M ns := J1.2.2.1
  have n64 : n < 64 := by
    have : 2 ^ nh ≤ 2 ^ 6 := Nat.pow_le_pow_right (by decide) h6
    have : 2 ^ 6 = 64 := by decide
    omega
  have ns6 := J.2.1.1
  subst hX'
  unfold f_X12_mean_L82
  refine ⟨fun z => ∃ k, k ≤ nh ∧ z = (v3, v5, nI n, lL (wgN M0 (fun k => !(n.testBit k)) k), nI k, M), fun z => nh - z.2.2.2.2.1.toNatClampNeg, ⟨0, by omega, rfl⟩, ?_⟩
  rintro z ⟨k, hk, rfl⟩
  show f_X12_mean_B82 76 (nI r) x2 v3 v5 (nI n) (lL (wgN M0 (fun k => !(n.testBit k)) k)) (nI k) M _ K Q
  unfold f_X12_mean_B82 f_X12_mean_J136 f_X12_mean_J179
  have wl := wgN_6 hC (fun k => !(n.testBit k)) hk
  refine ⟨oM hG, ?_⟩
  rw [iH1.2.2.1]
  by_cases ck : k < nh
  case neg =>
    obtain rfl : k = nh := by omega
    rw [if_pos (nI_le (Nat.le_refl _) (by omega))]
    by_cases cw : wgN M0 (fun j => !(n.testBit j)) k = 0
    · rw [if_pos ((lL_0 (by omega)).mpr cw)]
      exact (hK M f wl).1 cw
    · rw [if_neg (fun z => cw ((lL_0 (by omega)).mp z))]
      refine told0 hG ⟨J1.2.2.2.2.2.2.1, J1.2.2.2.2.2.2.2.1⟩ ⟨oM hG, ?_⟩
      have hmk : hMk (hnd M0 k) false (fun j => !(!(n.testBit j))) (nI n) := by
        refine ⟨fun j hj => ?_, fun e => by cases e⟩
        rw [hnd_len] at hj
        rw [bit6 n n64 j (by omega)]
        show n.testBit j = true ↔ (!(!(n.testBit j))) = true
        rw [Bool.not_not]
      refine goW_m (X := aX M0 cls th oa kd vv r) hG (wd_m J f hr (wPr_le _) (Nat.le_trans (wMo_le _) (by omega))) (nI_add _ 0) (hnd_m hH J1.2.2.2.2.2.1.1 (fun a j q => f.2.2.2.2 _ _ (by omega))) hmk fun t M2 ht u2 e2 w2 s2 => ?_
      have f2 := f.tr (u2.af k)
      have hlo := lost_le e2.2.2
      refine ⟨oM e2.1.1, lost_m e2 ?_⟩
      have hprod : wgN M0 (fun j => !(n.testBit j)) k * aLo (aX M0 cls th oa kd vv r) (hPs (aX M0 cls th oa kd vv r) (wcl cls th) ns (hfl (fun j => !(!(n.testBit j))) 0 (hnd M0 k))) ≤ 1000000 * 612000 := Nat.mul_le_mul wl hlo
      rw [lL_of (by omega), lL_mul]
      exact (hK M2 f2 wl).2 hlo
  rw [if_neg (nI_ge ck (by omega))]
  obtain ⟨n1, n2, n3, n4⟩ := hnd_n hH ck
  obtain ⟨o1, o2⟩ := odN_b hC ck
  have vk : vp_in (nI k) 13 := vpN (by omega) (by omega)
  have ek : (nI k).toNatClampNeg = k := nI_clamp (by omega)
  have e82 : mI M 82 k = mI M0 19 k := ((iH1.2.2.2 k ck).1.1).trans (f.2.2.2.2 _ _ (by omega))
  have e81 : mI M 81 (mI M0 19 k).toNatClampNeg = nI (odN M0 k) := ((iQ1 _ n3).1).trans ((f.2.2.2.2 _ _ (by omega)).trans o2)
  have v19 : vp_in (mI M0 19 k) 6 := by rw [n1]; exact vpN (by omega) (by omega)
  have ms : nh - (nI k + 1).toNatClampNeg < nh - (nI k).toNatClampNeg := by rw [nI_1, nI_clamp (by omega), nI_clamp (by omega)]; omega
  have hb := bit6 n n64 k (by omega)
  by_cases c : n.testBit k = true
  · rw [if_pos (hb.mpr c)]
    refine ⟨82, mP_g hG rfl, isA_g hG (by decide) rfl vk, 81, mP_g hG rfl, ?_⟩
    rw [ek, e82, e81]
    refine ⟨isA_g hG (by decide) rfl v19, ⟨k + 1, ck, ?_⟩, ms⟩
    have t10 : (10 : Int32) - nI (odN M0 k) = nI (10 - odN M0 k) := pk_sub (a := 10) o1
    rw [t10, lL_of (by omega), lL_mul, nI_1]
    have : wgN M0 (fun k => !(n.testBit k)) (k + 1) = wgN M0 (fun k => !(n.testBit k)) k * (10 - odN M0 k) := by
      show _ * (if (!(n.testBit k)) = true then _ else _) = _
      rw [c]; rfl
    rw [this]
  · rw [if_neg (fun z => c (hb.mp z))]
    refine ⟨82, mP_g hG rfl, isA_g hG (by decide) rfl vk, 81, mP_g hG rfl, ?_⟩
    rw [ek, e82, e81]
    refine ⟨isA_g hG (by decide) rfl v19, ⟨k + 1, ck, ?_⟩, ms⟩
    rw [lL_of (by omega), lL_mul, nI_1]
    have : wgN M0 (fun k => !(n.testBit k)) (k + 1) = wgN M0 (fun k => !(n.testBit k)) k * odN M0 k := by
      show _ * (if (!(n.testBit k)) = true then _ else _) = _
      rw [Bool.eq_false_iff.mpr c]; rfl
    rw [this]
theorem mean_m {M0 M : Mem} {ns nt nw no nh r : Nat} {cls : Nat → List Cl} {th : Option Nat} {oa kd vv : Nat → Nat} {X : Nat → Nat → Nat} {S : HS} (A : AK M0 M ns nt nw no nh r cls th oa kd vv X S) {x2 : Int32} {Q : Int64 → Mem → Prop} (h6 : nh ≤ 6) (q : ∀ M1, AF nh M0 M1 → Q (mnV (mnA M0 X (wcl cls th) ns nh) nh x2) M1) : f_X12_mean_L39 76 (nI r) x2 0 1 0 M Q := by
  obtain ⟨J, f, hr, hX', hS'⟩ := id A
  have hC : mnC M0 ns nh := ⟨h6, J.2.2.2.2.1, J.2.2.1, J.2.1.1⟩
  have J1 := J.af f
  have hG := J1.1
  have iH1 : iH M ns nh := J1.2.2.2.2.1
  have n64 : 2 ^ nh ≤ 64 := by
    have : 2 ^ nh ≤ 2 ^ 6 := Nat.pow_le_pow_right (by decide) h6
    have : 2 ^ 6 = 64 := by decide
    omega
  unfold f_X12_mean_L39
  refine ⟨fun z => ∃ k, k ≤ nh ∧ z = (lL 0, lL (10 ^ k), nI k, M), fun z => nh - z.2.2.1.toNatClampNeg, ⟨0, by omega, rfl⟩, ?_⟩
  rintro z ⟨k, hk, rfl⟩
  show f_X12_mean_B39 76 (nI r) x2 (lL 0) (lL (10 ^ k)) (nI k) M _ Q
  unfold f_X12_mean_B39
  refine ⟨oM hG, ?_⟩
  rw [iH1.2.2.1]
  by_cases ck : k < nh
  · rw [if_neg (nI_ge ck (by omega))]
    refine ⟨⟨k + 1, ck, ?_⟩, ?_⟩
    · rw [show (10 : Int64) = lL 10 from rfl, lL_mul, nI_1]; rfl
    · show nh - (nI k + 1).toNatClampNeg < nh - (nI k).toNatClampNeg
      rw [nI_1, nI_clamp (by omega), nI_clamp (by omega)]; omega
  obtain rfl : k = nh := by omega
  rw [if_pos (nI_le (Nat.le_refl _) (by omega))]
  have p10 := p10_le hk h6
  unfold f_X12_mean_L65
  refine ⟨fun z => ∃ n N, n ≤ 2 ^ k ∧ z = (lL (sm (fun n => mnT M0 X (wcl cls th) ns k (fun j => !(n.testBit j))) n), lL (10 ^ k), nI n, N) ∧ AF k M0 N ∧ sm (fun n => mnT M0 X (wcl cls th) ns k (fun j => !(n.testBit j))) n ≤ 612000000000 * n, fun z => 64 - z.2.2.1.toNatClampNeg, ⟨0, M, Nat.zero_le _, rfl, f, Nat.zero_le _⟩, ?_⟩
  rintro z ⟨n, N, hn, rfl, fN, hle⟩
  have J2 := J.af fN
  have hG2 := J2.1
  have iH2 : iH N ns k := J2.2.2.2.2.1
  show f_X12_mean_B65 76 (nI r) x2 (lL (sm (fun n => mnT M0 X (wcl cls th) ns k (fun j => !(n.testBit j))) n)) (lL (10 ^ k)) (nI n) N _ Q
  unfold f_X12_mean_B65
  refine ⟨oM hG2, ?_⟩
  rw [iH2.2.2.1, shl6 k (by omega)]
  by_cases c : n < 2 ^ k
  case neg =>
    obtain rfl : n = 2 ^ k := by omega
    rw [if_pos (nI_le (Nat.le_refl _) (by omega))]
    have e : sm (fun n => mnT M0 X (wcl cls th) ns k (fun j => !(n.testBit j))) (2 ^ k) = mnA M0 X (wcl cls th) ns k := mn_eq M0 X (wcl cls th) ns k
    rw [e] at hle ⊢
    have q := q N fN
    unfold mnV at q
    have pos : 0 < 10 ^ k := Nat.pow_pos (by decide)
    have g0 : Nat.gcd (mnA M0 X (wcl cls th) ns k) (10 ^ k) ≠ 0 := fun z => by
      have := Nat.eq_zero_of_gcd_eq_zero_right z
      omega
    have gl : Nat.gcd (mnA M0 X (wcl cls th) ns k) (10 ^ k) ≤ 10 ^ k := Nat.gcd_le_right _ pos
    refine divisor_m (by omega) (by omega) ?_
    have nz : ¬ lL (Nat.gcd (mnA M0 X (wcl cls th) ns k) (10 ^ k)) = 0 := fun z => g0 ((lL_inj (b := 0) (by omega) (by omega)).mp z)
    rw [lL_div (by omega) (by omega), lL_div (by omega) (by omega)]
    by_cases cx : x2 = 0
    · rw [if_pos cx] at q ⊢; exact ⟨nz, q⟩
    · rw [if_neg cx] at q ⊢; exact ⟨nz, q⟩
  rw [if_neg (nI_ge c (by omega))]
  have ms : 64 - (nI n + 1).toNatClampNeg < 64 - (nI n).toNatClampNeg := by rw [nI_1, nI_clamp (by omega), nI_clamp (by omega)]; omega
  have hs : sm (fun n => mnT M0 X (wcl cls th) ns k (fun j => !(n.testBit j))) (n + 1) = sm (fun n => mnT M0 X (wcl cls th) ns k (fun j => !(n.testBit j))) n + wgN M0 (fun j => !(n.testBit j)) k * aLo X (mnS M0 X (wcl cls th) ns k (fun j => !(n.testBit j))) := rfl
  refine mean_m82 (M0 := M0) ⟨J, fN, hr, hX', hS'⟩ h6 c fun M2 f2 wl => ⟨fun cw => ?_, fun hlo => ?_⟩
  · rw [cw, Nat.zero_mul] at hs
    have hs := hs.trans (Nat.add_zero _)
    exact ⟨⟨n + 1, M2, c, by rw [hs, nI_1], f2, by rw [hs]; omega⟩, ms⟩
  · have hprod : wgN M0 (fun j => !(n.testBit j)) k * aLo X (mnS M0 X (wcl cls th) ns k (fun j => !(n.testBit j))) ≤ 1000000 * 612000 := Nat.mul_le_mul wl hlo
    rw [lL_add, ← hs]
    exact ⟨⟨n + 1, M2, c, by rw [nI_1], f2, by rw [hs]; omega⟩, ms⟩
theorem J836 {M : Mem} (hI : Inv M) {v3 : Int32} {xs : Nat → Int32} {L : Nat} {K : Mem → Prop} (h1 : vp_in (v3 + 1) L) (h2 : vp_in (v3 + 2) L) (hK : ∀ M', Inv M' → K M') : f_L_law_J836 0 76 v3 M xs L K := by
  obtain ⟨hG, ns, nt, nw, no, nh, cls, th, oa, kd, vv, J0⟩ := id hI; have J : Jn M ns nt nw no nh cls th oa kd vv := ⟨hG, J0⟩; obtain ⟨iS0, iQ0, iN0, iH0, iZ0, iW0, iD0, iO0, iA0, iI0, iT0⟩ := id J0
  unfold f_L_law_J836
  generalize xs (v3 + 1).toNatClampNeg = x1
  generalize xs (v3 + 2).toNatClampNeg = x2
  refine ⟨h1, h2, oQ hG, ?_⟩
  unfold f_X11_mean
  by_cases c1 : 0 ≤ x1.toInt ∧ x1.toInt < (no : Int)
  case neg =>
    unfold f_X12_mean
    refine ⟨oQ hG, ordA_n hG iO0.2.1 iO0.1 (by omega) ⟨fun _ => ⟨h1, h2, oM hG, oM hG, isO_f hG iO0.2.2.1 iO0.1 (by omega) ?_⟩, fun b hb => by cases hb⟩⟩
    rw [if_neg (by decide)]
    exact finL rfl (hK _ hI)
  obtain ⟨r, -, rfl, r1, r2⟩ := nI_ex c1.1; have hr : r < no := by omega
  refine ⟨oQ hG, ordA_s hG iO0.2.1 iO0.1 hr (iO0.2.2.2.1 r hr).2.2.1.2.2.2 ⟨fun h => (by cases h), fun b hb => ?_⟩⟩; cases hb
  by_cases c3 : 0 ≤ x2.toInt ∧ x2.toInt ≤ 1
  case neg =>
    unfold f_X12_mean
    refine out_t (by simp only [Int32.reduceToInt]; omega) ?_
    rw [if_pos rfl]
    refine ⟨h1, h2, oM hG, ?_⟩
    refine ⟨oM hG, isO_t hG iO0.2.2.1 iO0.1 hr ?_⟩
    rw [if_pos rfl]
    refine ⟨oM hG, in_f (by simp only [Int32.reduceToInt]; omega) ?_⟩
    rw [if_neg (by decide)]
    exact finL rfl (hK _ hI)
  refine out_f c3 ?_
  rw [if_neg (by decide)]
  refine ⟨oQ hG, 17, mP_g hG rfl, day_o hG (Or.inl rfl), ?_⟩
  have h12 := iH0.1
  rw [iH0.2.1]
  by_cases h6 : nh ≤ 6
  case neg =>
    unfold f_X12_mean
    rw [if_neg (show ¬ nI nh ≤ (6 : Int32) from nI_ge (a := 6) (by omega) (by omega))]
    refine ⟨h1, h2, oM hG, ?_⟩
    refine ⟨oM hG, isO_t hG iO0.2.2.1 iO0.1 hr ?_⟩
    rw [if_pos rfl]
    refine ⟨oM hG, in_t c3 ?_⟩
    rw [if_pos rfl]
    refine ⟨oM hG, ?_⟩
    rw [iH0.2.2.1, if_neg (show ¬ nI nh ≤ (6 : Int32) from nI_ge (a := 6) (by omega) (by omega))]
    exact finL rfl (hK _ hI)
  rw [if_pos (show nI nh ≤ (6 : Int32) from nI_le (b := 6) h6 (by omega))]
  refine mean_c (M0 := M) ⟨J, AF.rf nh M, hr, rfl, rfl⟩ h6 fun M1 f1 => ?_
  have J1 := J.af f1
  have hG1 := J1.1
  have jO : iO M1 no oa kd vv := J1.2.2.2.2.2.2.2.2.1
  have jH : iH M1 ns nh := J1.2.2.2.2.1
  unfold f_X12_mean
  refine ⟨h1, h2, oM hG1, oM hG1, isO_t hG1 jO.2.2.1 jO.1 hr ?_⟩
  rw [if_pos rfl]
  refine ⟨oM hG1, in_t c3 ?_⟩
  rw [if_pos rfl]
  refine ⟨oM hG1, ?_⟩
  rw [jH.2.2.1, if_pos (show nI nh ≤ (6 : Int32) from nI_le (b := 6) h6 (by omega))]
  exact mean_m (M0 := M) ⟨J, f1, hr, rfl, rfl⟩ h6 fun M2 f2 => finL rfl (hK _ (J.af f2).inv)
