/-! ===== the same calls, by the law ===== -/
theorem J486 {M : Mem} (hI : Inv M) {v3 : Int32} {xs : Nat → Int32} {L : Nat} {K : Mem → Prop} (h1 : vp_in (v3 + 1) L) (h2 : vp_in (v3 + 2) L) (h3 : vp_in (v3 + 3) L) (hK : ∀ M', Inv M' → K M') : f_L_law_J486 0 76 v3 M xs L K := by
  obtain ⟨hG, ns, nt, nw, no, nh, cls, th, oa, kd, vv, J0⟩ := id hI; have J : Jn M ns nt nw no nh cls th oa kd vv := ⟨hG, J0⟩; obtain ⟨iS0, iQ0, iN0, iH0, iZ0, iW0, iD0, iO0, iA0, iI0, iT0⟩ := id J0
  unfold f_L_law_J486
  generalize xs (v3 + 1).toNatClampNeg = x1
  generalize xs (v3 + 2).toNatClampNeg = x2
  generalize xs (v3 + 3).toNatClampNeg = x3
  refine ⟨h1, h2, h3, oQ hG, ?_⟩
  by_cases c1 : 0 ≤ x1.toInt ∧ x1.toInt < (no : Int)
  case neg =>
    unfold f_X11_comer f_X12_comer
    refine ⟨oQ hG, ordA_n hG iO0.2.1 iO0.1 (by omega) ⟨fun _ => ⟨h1, h2, h3, oM hG, oM hG, isO_f hG iO0.2.2.1 iO0.1 (by omega) ?_⟩, fun b hb => by cases hb⟩⟩
    simp only [if_true, if_false, Bool.false_eq_true, reduceIte]
    exact hK _ hI
  obtain ⟨r, -, rfl, r1, r2⟩ := nI_ex c1.1; have hr : r < no := by omega
  exact comer_c (M0 := M) ⟨J, AF.rf nh M, hr, rfl, rfl⟩ fun w M1 f1 hw => ⟨h1, h2, h3, oM (f1.good hG), comer_m (M0 := M) ⟨J, f1, hr, rfl, rfl⟩ hw fun M2 f2 => fin_ rfl (hK _ (J.af f2).inv)⟩
theorem J529 {M : Mem} (hI : Inv M) {v3 : Int32} {xs : Nat → Int32} {L : Nat} {K : Mem → Prop} (h1 : vp_in (v3 + 1) L) (h2 : vp_in (v3 + 2) L) (h3 : vp_in (v3 + 3) L) (hK : ∀ M', Inv M' → K M') : f_L_law_J529 0 76 v3 M xs L K := by
  obtain ⟨hG, ns, nt, nw, no, nh, cls, th, oa, kd, vv, J0⟩ := id hI; have J : Jn M ns nt nw no nh cls th oa kd vv := ⟨hG, J0⟩; obtain ⟨iS0, iQ0, iN0, iH0, iZ0, iW0, iD0, iO0, iA0, iI0, iT0⟩ := id J0
  unfold f_L_law_J529
  generalize xs (v3 + 1).toNatClampNeg = x1
  generalize xs (v3 + 2).toNatClampNeg = x2
  generalize xs (v3 + 3).toNatClampNeg = x3
  refine ⟨h1, h2, h3, oQ hG, ?_⟩
  by_cases c1 : 0 ≤ x1.toInt ∧ x1.toInt < (no : Int)
  case neg =>
    unfold f_X11_served f_X12_served
    refine ⟨oQ hG, ordA_n hG iO0.2.1 iO0.1 (by omega) ⟨fun _ => ⟨h1, h2, h3, oM hG, oM hG, isO_f hG iO0.2.2.1 iO0.1 (by omega) ?_⟩, fun b hb => by cases hb⟩⟩
    simp only [if_true, if_false, Bool.false_eq_true, reduceIte]
    exact hK _ hI
  obtain ⟨r, -, rfl, r1, r2⟩ := nI_ex c1.1; have hr : r < no := by omega
  exact served_c (M0 := M) ⟨J, AF.rf nh M, hr, rfl, rfl⟩ fun M1 f1 => ⟨h1, h2, h3, oM (f1.good hG), served_m (M0 := M) ⟨J, f1, hr, rfl, rfl⟩ fun M2 f2 => fin_ rfl (hK _ (J.af f2).inv)⟩
theorem J572 {M : Mem} (hI : Inv M) {v3 : Int32} {xs : Nat → Int32} {L : Nat} {K : Mem → Prop} (h1 : vp_in (v3 + 1) L) (h2 : vp_in (v3 + 2) L) (hK : ∀ M', Inv M' → K M') : f_L_law_J572 0 76 v3 M xs L K := by
  obtain ⟨hG, ns, nt, nw, no, nh, cls, th, oa, kd, vv, J0⟩ := id hI; have J : Jn M ns nt nw no nh cls th oa kd vv := ⟨hG, J0⟩; obtain ⟨iS0, iQ0, iN0, iH0, iZ0, iW0, iD0, iO0, iA0, iI0, iT0⟩ := id J0
  unfold f_L_law_J572
  generalize xs (v3 + 1).toNatClampNeg = x1
  generalize xs (v3 + 2).toNatClampNeg = x2
  refine ⟨h1, h2, oQ hG, ?_⟩
  by_cases c1 : 0 ≤ x1.toInt ∧ x1.toInt < (no : Int)
  case neg =>
    unfold f_X11_all f_X12_all
    refine ⟨oQ hG, ordA_n hG iO0.2.1 iO0.1 (by omega) ⟨fun _ => ⟨h1, h2, oM hG, oM hG, isO_f hG iO0.2.2.1 iO0.1 (by omega) ?_⟩, fun b hb => by cases hb⟩⟩
    simp only [if_true, if_false, Bool.false_eq_true, reduceIte]
    exact hK _ hI
  obtain ⟨r, -, rfl, r1, r2⟩ := nI_ex c1.1; have hr : r < no := by omega
  by_cases c3 : 0 ≤ x2.toInt ∧ x2.toInt ≤ 7
  case neg =>
    unfold f_X11_all f_X12_all
    refine ⟨oQ hG, ordA_s hG iO0.2.1 iO0.1 hr (iO0.2.2.2.1 r hr).2.2.1.2.2.2 ⟨fun h => (by cases h), fun b hb => ?_⟩⟩; cases hb
    refine out_t (by simp only [Int32.reduceToInt]; omega) ?_
    simp only [if_true, if_false, Bool.false_eq_true, reduceIte]
    refine ⟨h1, h2, oM hG, ?_⟩
    refine ⟨oM hG, isO_t hG iO0.2.2.1 iO0.1 hr ?_⟩
    simp only [if_true, if_false, Bool.false_eq_true, reduceIte]
    refine ⟨oM hG, in_f (by simp only [Int32.reduceToInt]; omega) ?_⟩
    simp only [if_true, if_false, Bool.false_eq_true, reduceIte]
    exact hK _ hI
  exact all_c (M0 := M) ⟨J, AF.rf nh M, hr, rfl, rfl⟩ c3 fun M1 f1 => ⟨h1, h2, oM (f1.good hG), all_m (M0 := M) ⟨J, f1, hr, rfl, rfl⟩ c3 fun M2 f2 => fin_ rfl (hK _ (J.af f2).inv)⟩
theorem J605 {M : Mem} (hI : Inv M) {v3 : Int32} {xs : Nat → Int32} {L : Nat} {K : Mem → Prop} (h1 : vp_in (v3 + 1) L) (h2 : vp_in (v3 + 2) L) (h3 : vp_in (v3 + 3) L) (hK : ∀ M', Inv M' → K M') : f_L_law_J605 0 76 v3 M xs L K := by
  obtain ⟨hG, ns, nt, nw, no, nh, cls, th, oa, kd, vv, J0⟩ := id hI; have J : Jn M ns nt nw no nh cls th oa kd vv := ⟨hG, J0⟩; obtain ⟨iS0, iQ0, iN0, iH0, iZ0, iW0, iD0, iO0, iA0, iI0, iT0⟩ := id J0
  unfold f_L_law_J605
  generalize xs (v3 + 1).toNatClampNeg = x1
  generalize xs (v3 + 2).toNatClampNeg = x2
  generalize xs (v3 + 3).toNatClampNeg = x3
  refine ⟨h1, h2, h3, oQ hG, ?_⟩
  by_cases c1 : 0 ≤ x1.toInt ∧ x1.toInt < (no : Int)
  case neg =>
    unfold f_X11_stand f_X12_stand
    refine ⟨oQ hG, ordA_n hG iO0.2.1 iO0.1 (by omega) ⟨fun _ => ⟨h1, h2, h3, oM hG, oM hG, isO_f hG iO0.2.2.1 iO0.1 (by omega) ?_⟩, fun b hb => by cases hb⟩⟩
    simp only [if_true, if_false, Bool.false_eq_true, reduceIte]
    exact hK _ hI
  obtain ⟨r, -, rfl, r1, r2⟩ := nI_ex c1.1; have hr : r < no := by omega
  by_cases c3 : 0 ≤ x2.toInt ∧ x2.toInt ≤ 1
  case neg =>
    unfold f_X11_stand f_X12_stand
    refine ⟨oQ hG, ordA_s hG iO0.2.1 iO0.1 hr (iO0.2.2.2.1 r hr).2.2.1.2.2.2 ⟨fun h => (by cases h), fun b hb => ?_⟩⟩; cases hb
    refine out_t (by simp only [Int32.reduceToInt]; omega) ?_
    simp only [if_true, if_false, Bool.false_eq_true, reduceIte]
    refine ⟨h1, h2, h3, oM hG, ?_⟩
    refine ⟨oM hG, isO_t hG iO0.2.2.1 iO0.1 hr ?_⟩
    simp only [if_true, if_false, Bool.false_eq_true, reduceIte]
    refine ⟨oM hG, in_f (by simp only [Int32.reduceToInt]; omega) ?_⟩
    simp only [if_true, if_false, Bool.false_eq_true, reduceIte]
    exact hK _ hI
  by_cases c4 : 0 ≤ x3.toInt ∧ x3.toInt ≤ 99
  case neg =>
    unfold f_X11_stand f_X12_stand
    refine ⟨oQ hG, ordA_s hG iO0.2.1 iO0.1 hr (iO0.2.2.2.1 r hr).2.2.1.2.2.2 ⟨fun h => (by cases h), fun b hb => ?_⟩⟩; cases hb
    refine out_f c3 ?_
    simp only [if_true, if_false, Bool.false_eq_true, reduceIte]
    refine out_t (by simp only [Int32.reduceToInt]; omega) ?_
    simp only [if_true, if_false, Bool.false_eq_true, reduceIte]
    refine ⟨h1, h2, h3, oM hG, ?_⟩
    refine ⟨oM hG, isO_t hG iO0.2.2.1 iO0.1 hr ?_⟩
    simp only [if_true, if_false, Bool.false_eq_true, reduceIte]
    refine ⟨oM hG, in_t c3 ?_⟩
    simp only [if_true, if_false, Bool.false_eq_true, reduceIte]
    refine ⟨oM hG, in_f (by simp only [Int32.reduceToInt]; omega) ?_⟩
    simp only [if_true, if_false, Bool.false_eq_true, reduceIte]
    exact hK _ hI
  obtain ⟨l, -, rfl, l1, l2⟩ := nI_ex c3.1
  obtain ⟨j, -, rfl, j1, j2⟩ := nI_ex c4.1
  exact stand_c (M0 := M) ⟨J, AF.rf nh M, hr, rfl, rfl⟩ (by omega) (by omega) fun M1 f1 => ⟨h1, h2, h3, oM (f1.good hG), standA_m (M0 := M) ⟨J, f1, hr, rfl, rfl⟩ (by omega) (by omega) fun M2 f2 => fin_ rfl (hK _ (J.af f2).inv)⟩
theorem J704 {M : Mem} (hI : Inv M) {v3 : Int32} {xs : Nat → Int32} {L : Nat} {K : Mem → Prop} (h1 : vp_in (v3 + 1) L) (h2 : vp_in (v3 + 2) L) (hK : ∀ M', Inv M' → K M') : f_L_law_J704 0 76 v3 M xs L K := by
  obtain ⟨hG, ns, nt, nw, no, nh, cls, th, oa, kd, vv, J0⟩ := id hI; have J : Jn M ns nt nw no nh cls th oa kd vv := ⟨hG, J0⟩; obtain ⟨iS0, iQ0, iN0, iH0, iZ0, iW0, iD0, iO0, iA0, iI0, iT0⟩ := id J0
  unfold f_L_law_J704
  generalize xs (v3 + 1).toNatClampNeg = x1
  generalize xs (v3 + 2).toNatClampNeg = x2
  refine ⟨h1, h2, oQ hG, ?_⟩
  by_cases c1 : 0 ≤ x1.toInt ∧ x1.toInt < (no : Int)
  case neg =>
    unfold f_X11_loss f_X12_loss
    refine ⟨oQ hG, ordA_n hG iO0.2.1 iO0.1 (by omega) ⟨fun _ => ⟨h1, h2, oM hG, oM hG, isO_f hG iO0.2.2.1 iO0.1 (by omega) ?_⟩, fun b hb => by cases hb⟩⟩
    simp only [if_true, if_false, Bool.false_eq_true, reduceIte]
    exact hK _ hI
  obtain ⟨r, -, rfl, r1, r2⟩ := nI_ex c1.1; have hr : r < no := by omega
  by_cases c3 : 0 ≤ x2.toInt ∧ x2.toInt < (ns : Int)
  case neg =>
    have c4 : x2.toInt < 0 ∨ (ns : Int) ≤ x2.toInt := by omega
    unfold f_X11_loss f_X12_loss
    refine ⟨oQ hG, ordA_s hG iO0.2.1 iO0.1 hr (iO0.2.2.2.1 r hr).2.2.1.2.2.2 ⟨fun h => (by cases h), fun b hb => ?_⟩⟩; cases hb
    refine ⟨oQ hG, noS_t hG iS0.2.1 iS0.1 c4 ?_⟩
    simp only [if_true, if_false, Bool.false_eq_true, reduceIte]
    refine ⟨h1, h2, oM hG, ?_⟩
    refine ⟨oM hG, isO_t hG iO0.2.2.1 iO0.1 hr ?_⟩
    simp only [if_true, if_false, Bool.false_eq_true, reduceIte]
    refine ⟨oM hG, isS_f hG iS0.2.2.1 iS0.1 c4 ?_⟩
    simp only [if_true, if_false, Bool.false_eq_true, reduceIte]
    exact hK _ hI
  obtain ⟨s, -, rfl, s1, s2⟩ := nI_ex c3.1
  exact lossA_c (M0 := M) ⟨J, AF.rf nh M, hr, rfl, rfl⟩ (by omega) fun M1 f1 => ⟨h1, h2, oM (f1.good hG), lossA_m (M0 := M) ⟨J, f1, hr, rfl, rfl⟩ (by omega) fun M2 f2 => fin_ rfl (hK _ (J.af f2).inv)⟩
theorem J813 {M : Mem} (hI : Inv M) {v3 : Int32} {xs : Nat → Int32} {L : Nat} {K : Mem → Prop} (h1 : vp_in (v3 + 1) L) (hK : ∀ M', Inv M' → K M') : f_L_law_J813 0 76 v3 M xs L K := by
  obtain ⟨hG, ns, nt, nw, no, nh, cls, th, oa, kd, vv, J0⟩ := id hI; have J : Jn M ns nt nw no nh cls th oa kd vv := ⟨hG, J0⟩; obtain ⟨iS0, iQ0, iN0, iH0, iZ0, iW0, iD0, iO0, iA0, iI0, iT0⟩ := id J0
  unfold f_L_law_J813
  generalize xs (v3 + 1).toNatClampNeg = x1
  refine ⟨h1, oQ hG, ?_⟩
  by_cases c1 : 0 ≤ x1.toInt ∧ x1.toInt < (no : Int)
  case neg =>
    unfold f_X11_sell f_X12_sell
    refine ⟨oQ hG, ordA_n hG iO0.2.1 iO0.1 (by omega) ⟨fun _ => ⟨h1, oM hG, oM hG, isO_f hG iO0.2.2.1 iO0.1 (by omega) ?_⟩, fun b hb => by cases hb⟩⟩
    simp only [if_true, if_false, Bool.false_eq_true, reduceIte]
    exact hK _ hI
  obtain ⟨r, -, rfl, r1, r2⟩ := nI_ex c1.1; have hr : r < no := by omega
  exact sellA_c (M0 := M) ⟨J, AF.rf nh M, hr, rfl, rfl⟩ fun M1 f1 => ⟨h1, oM (f1.good hG), sellA_m (M0 := M) ⟨J, f1, hr, rfl, rfl⟩ fun M2 f2 => fin_ rfl (hK _ (J.af f2).inv)⟩
