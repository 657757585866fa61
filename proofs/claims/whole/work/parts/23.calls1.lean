/-! ===== of, come, clear, count ===== -/
theorem J229 {M : Mem} (hI : Inv M) {v3 : Int32} {xs : Nat → Int32} {L : Nat} {K : Mem → Prop} (h1 : vp_in (v3 + 1) L) (h2 : vp_in (v3 + 2) L) (hK : ∀ M', Inv M' → K M') : f_L_law_J229 0 76 v3 M xs L K := by
  obtain ⟨hG, ns, nt, nw, no, nh, cls, th, oa, kd, vv, iS0, iQ0, iN0, iH0, iZ0, iW0, iD0, iO0, iA0, iI0, iT0⟩ := id hI
  unfold f_L_law_J229
  generalize xs (v3 + 1).toNatClampNeg = x1
  generalize xs (v3 + 2).toNatClampNeg = x2
  refine ⟨h1, h2, oQ hG, ?_⟩
  obtain ⟨g1, g2, g3, g4⟩ := id iS0
  unfold f_X11_of f_X12_of
  refine ⟨oQ hG, ?_⟩
  by_cases c1 : 0 ≤ x1.toInt ∧ x1.toInt < (ns : Int)
  case neg =>
    have c2 : x1.toInt < 0 ∨ (ns : Int) ≤ x1.toInt := by omega
    refine noS_t hG g2 g1 c2 ?_
    simp only [if_true, if_false, Bool.false_eq_true, reduceIte]
    repeat (first | ((with_reducible refine And.intro ?_ ?_); focus (first | exact isO_g hG (by decide) rfl | (with_reducible assumption) | exact isA_g hG (by decide) rfl (by with_reducible assumption))) | ((with_reducible apply Exists.intro); (with_reducible apply And.intro); focus (exact mP_g hG rfl)) | (intro _ hE; subst hE))
    refine isS_f hG g3 g1 c2 ?_
    simp only [if_true, if_false, Bool.false_eq_true, reduceIte]
    exact hK _ hI
  refine noS_f hG g2 g1 c1 ?_
  simp only [if_true, if_false, Bool.false_eq_true, reduceIte]
  obtain ⟨k, -, rfl, e1, e2⟩ := nI_ex c1.1
  have hk : k < ns := by omega
  have hv : vp_in (nI k) 6 := vp_of (by omega) (by omega)
  by_cases c2 : 0 ≤ x2.toInt ∧ x2.toInt ≤ 4
  case neg =>
    have c3 : x2.toInt < 0 ∨ 4 < x2.toInt := by omega
    refine out_t c3 ?_
    simp only [if_true, if_false, Bool.false_eq_true, reduceIte]
    repeat (first | ((with_reducible refine And.intro ?_ ?_); focus (first | exact isO_g hG (by decide) rfl | (with_reducible assumption) | exact isA_g hG (by decide) rfl (by with_reducible assumption))) | ((with_reducible apply Exists.intro); (with_reducible apply And.intro); focus (exact mP_g hG rfl)) | (intro _ hE; subst hE))
    refine isS_t hG g3 g1 c1 ?_
    simp only [if_true, if_false, Bool.false_eq_true, reduceIte]
    rw [if_neg (by rw [i32_eq]; simp only [Int32.reduceToInt]; omega), if_neg (by rw [i32_eq]; simp only [Int32.reduceToInt]; omega), if_neg (by rw [i32_eq]; simp only [Int32.reduceToInt]; omega), if_neg (by rw [i32_eq]; simp only [Int32.reduceToInt]; omega), if_neg (by rw [i32_eq]; simp only [Int32.reduceToInt]; omega)]
    exact hK _ hI
  refine out_f c2 ?_
  simp only [if_true, if_false, Bool.false_eq_true, reduceIte]
  obtain ⟨j, -, rfl, f1, f2⟩ := nI_ex c2.1
  have hj : j = 0 ∨ j = 1 ∨ j = 2 ∨ j = 3 ∨ j = 4 := by omega
  have hp := p_row hG (k := k) (by omega)
  obtain ⟨⟨q1, q2, q3, q4⟩, -⟩ := g4 k hk
  rcases hj with rfl | rfl | rfl | rfl | rfl
  · rw [if_neg (by decide)]
    refine ⟨oQ hG, 1, mP_g hG rfl, isA_g hG (by decide) rfl hv, 2 + k, by rw [e2]; exact hp, a_row hG (by omega) (vp_of (by decide) (by decide)), ?_⟩
    repeat (first | ((with_reducible refine And.intro ?_ ?_); focus (first | exact isO_g hG (by decide) rfl | (with_reducible assumption) | exact isA_g hG (by decide) rfl (by with_reducible assumption))) | ((with_reducible apply Exists.intro); (with_reducible apply And.intro); focus (exact mP_g hG rfl)) | (intro _ hE; subst hE))
    refine isS_t hG g3 g1 c1 ?_
    simp only [if_true, if_false, Bool.false_eq_true, reduceIte]
    rw [if_pos (by decide)]
    repeat (first | ((with_reducible refine And.intro ?_ ?_); focus (first | exact isO_g hG (by decide) rfl | (with_reducible assumption) | exact isA_g hG (by decide) rfl (by with_reducible assumption))) | ((with_reducible apply Exists.intro); (with_reducible apply And.intro); focus (exact mP_g hG rfl)) | (intro _ hE; subst hE))
    rw [e2, show (nI 0).toNatClampNeg = 0 from rfl, if_pos q1.symm]
    exact hK _ hI
  · rw [if_neg (by decide)]
    refine ⟨oQ hG, 1, mP_g hG rfl, isA_g hG (by decide) rfl hv, 2 + k, by rw [e2]; exact hp, a_row hG (by omega) (vp_of (by decide) (by decide)), ?_⟩
    repeat (first | ((with_reducible refine And.intro ?_ ?_); focus (first | exact isO_g hG (by decide) rfl | (with_reducible assumption) | exact isA_g hG (by decide) rfl (by with_reducible assumption))) | ((with_reducible apply Exists.intro); (with_reducible apply And.intro); focus (exact mP_g hG rfl)) | (intro _ hE; subst hE))
    refine isS_t hG g3 g1 c1 ?_
    simp only [if_true, if_false, Bool.false_eq_true, reduceIte]
    rw [if_neg (by decide), if_pos (by decide)]
    repeat (first | ((with_reducible refine And.intro ?_ ?_); focus (first | exact isO_g hG (by decide) rfl | (with_reducible assumption) | exact isA_g hG (by decide) rfl (by with_reducible assumption))) | ((with_reducible apply Exists.intro); (with_reducible apply And.intro); focus (exact mP_g hG rfl)) | (intro _ hE; subst hE))
    rw [e2, show (nI 1).toNatClampNeg = 1 from rfl, if_pos q2.symm]
    exact hK _ hI
  · rw [if_neg (by decide)]
    refine ⟨oQ hG, 1, mP_g hG rfl, isA_g hG (by decide) rfl hv, 2 + k, by rw [e2]; exact hp, a_row hG (by omega) (vp_of (by decide) (by decide)), ?_⟩
    repeat (first | ((with_reducible refine And.intro ?_ ?_); focus (first | exact isO_g hG (by decide) rfl | (with_reducible assumption) | exact isA_g hG (by decide) rfl (by with_reducible assumption))) | ((with_reducible apply Exists.intro); (with_reducible apply And.intro); focus (exact mP_g hG rfl)) | (intro _ hE; subst hE))
    refine isS_t hG g3 g1 c1 ?_
    simp only [if_true, if_false, Bool.false_eq_true, reduceIte]
    rw [if_neg (by decide), if_neg (by decide), if_pos (by decide)]
    repeat (first | ((with_reducible refine And.intro ?_ ?_); focus (first | exact isO_g hG (by decide) rfl | (with_reducible assumption) | exact isA_g hG (by decide) rfl (by with_reducible assumption))) | ((with_reducible apply Exists.intro); (with_reducible apply And.intro); focus (exact mP_g hG rfl)) | (intro _ hE; subst hE))
    rw [e2, show (nI 2).toNatClampNeg = 2 from rfl, if_pos q3.symm]
    exact hK _ hI
  · rw [if_neg (by decide)]
    refine ⟨oQ hG, 1, mP_g hG rfl, isA_g hG (by decide) rfl hv, 2 + k, by rw [e2]; exact hp, a_row hG (by omega) (vp_of (by decide) (by decide)), ?_⟩
    repeat (first | ((with_reducible refine And.intro ?_ ?_); focus (first | exact isO_g hG (by decide) rfl | (with_reducible assumption) | exact isA_g hG (by decide) rfl (by with_reducible assumption))) | ((with_reducible apply Exists.intro); (with_reducible apply And.intro); focus (exact mP_g hG rfl)) | (intro _ hE; subst hE))
    refine isS_t hG g3 g1 c1 ?_
    simp only [if_true, if_false, Bool.false_eq_true, reduceIte]
    rw [if_neg (by decide), if_neg (by decide), if_neg (by decide), if_pos (by decide)]
    repeat (first | ((with_reducible refine And.intro ?_ ?_); focus (first | exact isO_g hG (by decide) rfl | (with_reducible assumption) | exact isA_g hG (by decide) rfl (by with_reducible assumption))) | ((with_reducible apply Exists.intro); (with_reducible apply And.intro); focus (exact mP_g hG rfl)) | (intro _ hE; subst hE))
    rw [e2, show (nI 3).toNatClampNeg = 3 from rfl, if_pos q4.symm]
    exact hK _ hI
  · rw [if_pos (by decide)]
    repeat (first | ((with_reducible refine And.intro ?_ ?_); focus (first | exact isO_g hG (by decide) rfl | (with_reducible assumption) | exact isA_g hG (by decide) rfl (by with_reducible assumption))) | ((with_reducible apply Exists.intro); (with_reducible apply And.intro); focus (exact mP_g hG rfl)) | (intro _ hE; subst hE))
    refine isS_t hG g3 g1 c1 ?_
    simp only [if_true, if_false, Bool.false_eq_true, reduceIte]
    rw [if_neg (by decide), if_neg (by decide), if_neg (by decide), if_neg (by decide), if_pos (by decide)]
    repeat (first | ((with_reducible refine And.intro ?_ ?_); focus (first | exact isO_g hG (by decide) rfl | (with_reducible assumption) | exact isA_g hG (by decide) rfl (by with_reducible assumption))) | ((with_reducible apply Exists.intro); (with_reducible apply And.intro); focus (exact mP_g hG rfl)) | (intro _ hE; subst hE))
    rw [e2, if_pos (iQ0 k hk).1.symm]
    exact hK _ hI
/-- come -/
theorem come_c {M : Mem} {ns nh : Nat} {x1 x2 : Int32} {Q : Int32 → Mem → Prop} (hG : Good M) (g1 : ns ≤ 6) (g2 : mI M 0 1 = nI ns) (h2 : mI M 17 4 = nI nh) (c1 : 0 ≤ x1.toInt ∧ x1.toInt < (ns : Int)) (d1 : 0 ≤ x2.toInt ∧ x2.toInt ≤ 59) (c : nh < 12) (hQ : ∀ M1, Sm M M1 → mI M1 17 4 = nI (nh + 1) → mI M1 19 nh = x1 → mI M1 20 nh = x2 → (∀ a j, ¬ (a = 17 ∧ j = 4 ∨ (a = 19 ∨ a = 20) ∧ j = nh) → mI M1 a j = mI M a j) → Q (nI (nh + 1)) M1) : f_X11_come 0 x1 x2 M Q := by
  unfold f_X11_come f_X0_tell
  refine ⟨oQ hG, noS_f hG g2 g1 c1 ?_⟩
  simp only [if_true, if_false, Bool.false_eq_true, reduceIte]
  refine out_f d1 ?_
  simp only [if_true, if_false, Bool.false_eq_true, reduceIte]
  have en := nI_toInt (n := nh) (by omega)
  have ec : (nI nh).toNatClampNeg = nh := nI_clamp (by omega)
  have hv : vp_in (nI nh) 12 := vp_of (by omega) (by omega)
  refine ⟨oQ hG, 17, mP_g hG rfl, isO_g hG (by decide) rfl, ?_⟩
  rw [h2, if_pos (by rw [i32_lt, en]; show (nh : Int) < 12; omega)]
  refine ⟨isO_g hG (by decide) rfl, ?_⟩
  rw [if_neg (by rw [i32_le, en]; show ¬ (12 : Int) ≤ nh; omega), ec]
  refine ⟨19, mP_g hG rfl, isA_g hG (by decide) rfl hv, ?_⟩
  intro _ hE; subst hE
  simp (disch := omega) only [mI_ne, mI_sI_s, Int32.reduceToNatClampNeg, h2, ec]
  refine ⟨20, mP_g hG rfl, isA_g hG (by decide) rfl hv, ?_⟩
  intro _ hE; subst hE
  intro _ hE; subst hE
  refine ⟨oQ hG, 17, mP_g hG rfl, isO_g hG (by decide) rfl, ?_⟩
  simp (disch := omega) only [mI_ne, mI_sI_s, Int32.reduceToNatClampNeg, h2, ec, nI_1]
  refine hQ _ (Sm.rf M) ?_ ?_ ?_ (fun a j q => ?_)
  all_goals simp (disch := omega) only [mI_ne, mI_sI_s, Int32.reduceToNatClampNeg, h2]
theorem come_m {M : Mem} {ns nh : Nat} {x1 x2 : Int32} {Q : Int32 → Mem → Prop} (hG : Good M) (g1 : ns ≤ 6) (g2 : mI M 76 0 = nI ns) (h2 : mI M 76 1 = nI nh) (c1 : 0 ≤ x1.toInt ∧ x1.toInt < (ns : Int)) (d1 : 0 ≤ x2.toInt ∧ x2.toInt ≤ 59) (c : nh < 12) (hQ : ∀ M1, Sm M M1 → mI M1 76 1 = nI (nh + 1) → mI M1 82 nh = x1 → mI M1 83 nh = x2 → (∀ a j, ¬ (a = 76 ∧ j = 1 ∨ (a = 82 ∨ a = 83) ∧ j = nh) → mI M1 a j = mI M a j) → Q (nI (nh + 1)) M1) : f_X12_come 76 x1 x2 M Q := by
  unfold f_X12_come
  refine ⟨oM hG, isS_t hG g2 g1 c1 ?_⟩
  simp only [if_true, if_false, Bool.false_eq_true, reduceIte]
  refine ⟨oM hG, in_t d1 ?_⟩
  simp only [if_true, if_false, Bool.false_eq_true, reduceIte]
  have en := nI_toInt (n := nh) (by omega)
  have ec : (nI nh).toNatClampNeg = nh := nI_clamp (by omega)
  have hv : vp_in (nI nh) 13 := vp_of (by omega) (by omega)
  refine ⟨oM hG, ?_⟩
  rw [h2, if_neg (by rw [i32_eq, en]; show ¬ (nh : Int) = 12; omega), ec]
  refine ⟨82, mP_g hG rfl, isA_g hG (by decide) rfl hv, ?_⟩
  intro _ hE; subst hE
  simp (disch := omega) only [mI_ne, mI_sI_s, Int32.reduceToNatClampNeg, h2, ec]
  refine ⟨83, mP_g hG rfl, isA_g hG (by decide) rfl hv, ?_⟩
  intro _ hE; subst hE
  intro _ hE; subst hE
  simp (disch := omega) only [mI_ne, mI_sI_s, Int32.reduceToNatClampNeg, h2, ec, nI_1]
  refine hQ _ (Sm.rf M) ?_ ?_ ?_ (fun a j q => ?_)
  all_goals simp (disch := omega) only [mI_ne, mI_sI_s, Int32.reduceToNatClampNeg, h2]
theorem J364 {M : Mem} (hI : Inv M) {v3 : Int32} {xs : Nat → Int32} {L : Nat} {K : Mem → Prop} (h1 : vp_in (v3 + 1) L) (h2 : vp_in (v3 + 2) L) (hK : ∀ M', Inv M' → K M') : f_L_law_J364 0 76 v3 M xs L K := by
  obtain ⟨hG, ns, nt, nw, no, nh, cls, th, oa, kd, vv, iS0, iQ0, iN0, iH0, iZ0, iW0, iD0, iO0, iA0, iI0, iT0⟩ := id hI
  unfold f_L_law_J364
  generalize xs (v3 + 1).toNatClampNeg = x1
  generalize xs (v3 + 2).toNatClampNeg = x2
  refine ⟨h1, h2, oQ hG, ?_⟩
  obtain ⟨g1, g2, g3, g4⟩ := id iS0
  obtain ⟨k1, k2, k3, k4⟩ := id iH0
  by_cases c1 : 0 ≤ x1.toInt ∧ x1.toInt < (ns : Int)
  case neg =>
    have c2 : x1.toInt < 0 ∨ (ns : Int) ≤ x1.toInt := by omega
    unfold f_X11_come f_X12_come
    refine ⟨oQ hG, noS_t hG g2 g1 c2 ?_⟩
    simp only [if_true, if_false, Bool.false_eq_true, reduceIte]
    refine ⟨h1, h2, oM hG, oM hG, isS_f hG g3 g1 c2 ?_⟩
    simp only [if_true, if_false, Bool.false_eq_true, reduceIte]
    exact hK _ hI
  by_cases d1 : 0 ≤ x2.toInt ∧ x2.toInt ≤ 59
  case neg =>
    have d2 : x2.toInt < 0 ∨ 59 < x2.toInt := by omega
    unfold f_X11_come f_X12_come
    refine ⟨oQ hG, noS_f hG g2 g1 c1 ?_⟩
    simp only [if_true, if_false, Bool.false_eq_true, reduceIte]
    refine out_t d2 ?_
    simp only [if_true, if_false, Bool.false_eq_true, reduceIte]
    refine ⟨h1, h2, oM hG, oM hG, isS_t hG g3 g1 c1 ?_⟩
    simp only [if_true, if_false, Bool.false_eq_true, reduceIte]
    refine ⟨oM hG, in_f d2 ?_⟩
    simp only [if_true, if_false, Bool.false_eq_true, reduceIte]
    exact hK _ hI
  by_cases c : nh < 12
  case neg =>
    obtain rfl : nh = 12 := by omega
    unfold f_X11_come f_X12_come
    refine ⟨oQ hG, noS_f hG g2 g1 c1 ?_⟩
    simp only [if_true, if_false, Bool.false_eq_true, reduceIte]
    refine out_f d1 ?_
    simp only [if_true, if_false, Bool.false_eq_true, reduceIte]
    refine ⟨oQ hG, 17, mP_g hG rfl, isO_g hG (by decide) rfl, ?_⟩
    rw [k2, if_neg (by decide)]
    refine ⟨h1, h2, oM hG, oM hG, isS_t hG g3 g1 c1 ?_⟩
    simp only [if_true, if_false, Bool.false_eq_true, reduceIte]
    refine ⟨oM hG, in_t d1 ?_⟩
    simp only [if_true, if_false, Bool.false_eq_true, reduceIte]
    refine ⟨oM hG, ?_⟩
    rw [k3, if_pos (by decide)]
    exact hK _ hI
  refine come_c hG g1 g2 k2 c1 d1 c fun M1 s1 a1 a2 a3 e1 => ?_
  have hG1 := s1.good hG
  refine ⟨h1, h2, oM hG1, come_m hG1 g1 ((e1 _ _ (by omega)).trans g3) ((e1 _ _ (by omega)).trans k3) c1 d1 c fun M2 s2 b1 b2 b3 e2 => ?_⟩
  rw [if_pos rfl]
  refine hK _ ⟨s2.good hG1, ns, nt, nw, no, nh + 1, cls, th, oa, kd, vv, (iS_fr iS0 (by (intro a j q; unfold cS at q; exact (e2 a j (by omega)).trans (e1 a j (by omega))))), (iQ_fr iQ0 (by (intro a j q; unfold cQ at q; exact (e2 a j (by omega)).trans (e1 a j (by omega))))), (iN_fr iN0 (by (intro a j q; unfold cN at q; exact (e2 a j (by omega)).trans (e1 a j (by omega))))), ?_, (iZ_fr iZ0 (by (intro a j q; unfold cZ at q; exact (e2 a j (by omega)).trans (e1 a j (by omega))))), (iW_fr iW0 (by (intro a j q; unfold cW at q; exact (e2 a j (by omega)).trans (e1 a j (by omega))))), (iD_fr iD0 (by (intro a j q; unfold cD at q; exact (e2 a j (by omega)).trans (e1 a j (by omega))))), (iO_fr iO0 (s2.1.trans s1.1) (s2.2.1.trans s1.2.1) (fun b j _ => by rw [s2.2.2.1, s1.2.2.1]) (by (intro a j q; unfold cO at q; exact (e2 a j (by omega)).trans (e1 a j (by omega))))), (iA_fr iA0 (fun r hr => (iO0.2.2.2.1 r hr).2.1.1) (by rw [s2.2.2.1, s1.2.2.1]) (by (intro a j q; unfold cA at q; exact (e2 a j (by omega)).trans (e1 a j (by omega))))), (iI_fr iI0 (by (intro a j q; unfold cI at q; exact (e2 a j (by omega)).trans (e1 a j (by omega))))), (iT_fr iT0 (fun b j _ => by rw [s2.2.2.2, s1.2.2.2]) (by (intro a j q; unfold cT at q; exact (e2 a j (by omega)).trans (e1 a j (by omega)))))⟩
  refine ⟨by omega, (e2 _ _ (by omega)).trans a1, b1, fun k hk => ?_⟩
  by_cases e : k = nh
  · subst e
    rw [b2, b3, e2 19 k (by omega), e2 20 k (by omega), a2, a3]
    exact ⟨⟨rfl, c1.1, by omega⟩, rfl, d1⟩
  · rw [(e2 19 k (by omega)).trans (e1 19 k (by omega)), (e2 20 k (by omega)).trans (e1 20 k (by omega)), (e2 82 k (by omega)).trans (e1 82 k (by omega)), (e2 83 k (by omega)).trans (e1 83 k (by omega))]
    exact k4 k (by omega)
theorem J397 {M : Mem} (hI : Inv M) {v3 : Int32} {xs : Nat → Int32} {L : Nat} {K : Mem → Prop} (hK : ∀ M', Inv M' → K M') : f_L_law_J397 0 76 v3 M xs L K := by
  obtain ⟨hG, ns, nt, nw, no, nh, cls, th, oa, kd, vv, iS0, iQ0, iN0, iH0, iZ0, iW0, iD0, iO0, iA0, iI0, iT0⟩ := id hI
  unfold f_L_law_J397 f_X11_clear f_X12_clear
  obtain ⟨k1, k2, k3, k4⟩ := id iH0
  repeat (first | ((with_reducible refine And.intro ?_ ?_); focus (first | exact isO_g hG (by decide) rfl | (with_reducible assumption) | exact isA_g hG (by decide) rfl (by with_reducible assumption))) | ((with_reducible apply Exists.intro); (with_reducible apply And.intro); focus (exact mP_g hG rfl)) | (intro _ hE; subst hE))
  rw [if_pos (by rw [mI_ne _ _ (by omega), k2, k3])]
  refine hK _ ⟨hG, ns, nt, nw, no, 0, cls, th, oa, kd, vv, (iS_fr iS0 (by (intro a j q; unfold cS at q; repeat (first | (with_reducible refine (mI_ne _ _ (by omega)).trans ?_) | (with_reducible rfl))))), (iQ_fr iQ0 (by (intro a j q; unfold cQ at q; repeat (first | (with_reducible refine (mI_ne _ _ (by omega)).trans ?_) | (with_reducible rfl))))), (iN_fr iN0 (by (intro a j q; unfold cN at q; repeat (first | (with_reducible refine (mI_ne _ _ (by omega)).trans ?_) | (with_reducible rfl))))), ⟨by omega, ?_, ?_, fun k hk => absurd hk (Nat.not_lt_zero _)⟩, (iZ_fr iZ0 (by (intro a j q; unfold cZ at q; repeat (first | (with_reducible refine (mI_ne _ _ (by omega)).trans ?_) | (with_reducible rfl))))), (iW_fr iW0 (by (intro a j q; unfold cW at q; repeat (first | (with_reducible refine (mI_ne _ _ (by omega)).trans ?_) | (with_reducible rfl))))), (iD_fr iD0 (by (intro a j q; unfold cD at q; repeat (first | (with_reducible refine (mI_ne _ _ (by omega)).trans ?_) | (with_reducible rfl))))), (iO_fr iO0 rfl rfl (fun _ _ _ => rfl) (by (intro a j q; unfold cO at q; repeat (first | (with_reducible refine (mI_ne _ _ (by omega)).trans ?_) | (with_reducible rfl))))), (iA_fr iA0 (fun r hr => (iO0.2.2.2.1 r hr).2.1.1) rfl (by (intro a j q; unfold cA at q; repeat (first | (with_reducible refine (mI_ne _ _ (by omega)).trans ?_) | (with_reducible rfl))))), (iI_fr iI0 (by (intro a j q; unfold cI at q; repeat (first | (with_reducible refine (mI_ne _ _ (by omega)).trans ?_) | (with_reducible rfl))))), (iT_fr iT0 (fun _ _ _ => rfl) (by (intro a j q; unfold cT at q; repeat (first | (with_reducible refine (mI_ne _ _ (by omega)).trans ?_) | (with_reducible rfl)))))⟩
  · simp (disch := omega) only [mI_ne, mI_sI_s, Int32.reduceToNatClampNeg, k2]; rfl
  · simp (disch := omega) only [mI_ne, mI_sI_s, Int32.reduceToNatClampNeg, k2]; rfl
