/-! ===== tape, shift ===== -/
theorem tape_c {M : Mem} {k : Nat} {x1 x2 x3 x2' x3' : Int32} {Q : Int32 → Mem → Prop} (hG : Good M) (hk : k < 6) (hQ : ∀ M1, St M M1 → mI M1 (64 + 2 * k) 0 = x2 → mI M1 (64 + 2 * k) 1 = x3 → (∀ j, j < 60 → mL M1 (65 + 2 * k) j = 0) → (∀ a j, ¬ (a = 64 + 2 * k ∧ j < 2) → mI M1 a j = mI M a j) → (∀ a j, ¬ (a = 65 + 2 * k) → mL M1 a j = mL M a j) → Q 1 M1) : f_X11_tape_J62 0 x1 x2' x3' x3 x2 (some (64 + 2 * k)) M Q := by
  unfold f_X11_tape_J62
  refine ⟨_, rfl, o_tape hG hk, ?_⟩
  unfold f_X8_become
  refine ⟨o_tape hG hk, ?_⟩
  intro M2 hE2; intro M3 hE3
  have s3 : St M M3 := by rw [hE3, hE2]; exact St.rf M
  have eL : mL M3 = mL M := by rw [hE3, hE2]; rfl
  have e3 : ∀ a j, ¬ (a = 64 + 2 * k ∧ j < 2) → mI M3 a j = mI M a j := fun a j q => by rw [hE3, mI_ne _ _ (by omega), hE2, mI_ne _ _ (by omega)]
  have q0 : mI M3 (64 + 2 * k) 0 = x2 := by rw [hE3, mI_ne _ _ (by omega), hE2, mI_sI_s]
  have q1 : mI M3 (64 + 2 * k) 1 = x3 := by rw [hE3, mI_sI_s]
  clear hE2 hE3
  have hG3 := s3.good hG
  rw [p_tapeI hG3 hk]
  have hsh : mS M3 (65 + 2 * k) = .inr (3, 60) := by
    rw [hG3.2.1 _ (by omega)]
    rcases six hk with rfl | rfl | rfl | rfl | rfl | rfl <;> rfl
  refine fill_l hsh (by omega) fun M4 s4 eI o4 eL4 => ?_
  refine hQ M4 ⟨s4.1.trans s3.1, s4.2.1.trans s3.2.1, s4.2.2.trans s3.2.2⟩ (by rw [eI]; exact q0) (by rw [eI]; exact q1) o4 (fun a j q => by rw [eI]; exact e3 a j q) (fun a j q => by rw [eL4 a j q, eL])
theorem tape_m {M : Mem} {k : Nat} {x3 x2' x3' : Int32} {Q : Int32 → Mem → Prop} (hG : Good M) (hk : k < 6) (hQ : ∀ M1, St M M1 → mI M1 114 k = mI M 114 k → mI M1 115 k = x3 → (∀ j, j < 60 → mL M1 116 (60 * k + j) = 0) → (∀ a j, ¬ (a = 115 ∧ j = k) → mI M1 a j = mI M a j) → (∀ a j, ¬ (a = 116 ∧ 60 * k ≤ j ∧ j < 60 * k + 60) → mL M1 a j = mL M a j) → Q 1 M1) : f_X12_tape_J65 76 (nI k) x2' x3' x3 (nI k) (some 115) M Q := by
  unfold f_X12_tape_J65
  have hv : vp_in (nI k) 6 := vp_of (by rw [nI_toInt (by omega)]; omega) (by rw [nI_toInt (by omega)]; omega)
  refine ⟨_, rfl, isA_g hG (by decide) rfl hv, ?_⟩
  intro M2 hE2
  rw [nI_clamp (by omega)] at hE2
  have s2 : St M M2 := by rw [hE2]; exact St.rf M
  have eL : mL M2 = mL M := by rw [hE2]; rfl
  have e2 : ∀ a j, ¬ (a = 115 ∧ j = k) → mI M2 a j = mI M a j := fun a j q => by rw [hE2, mI_ne _ _ (by omega)]
  have q1 : mI M2 115 k = x3 := by rw [hE2, mI_sI_s]
  clear hE2
  unfold f_X12_tape_L69
  refine cnt 60 (by omega) (fun i N => St M N ∧ mI N = mI M2 ∧ (∀ j, j < i → mL N 116 (60 * k + j) = 0) ∧ ∀ a j, ¬ (a = 116 ∧ 60 * k ≤ j ∧ j < 60 * k + 60) → mL N a j = mL M a j) ⟨s2, rfl, fun j hj => absurd hj (Nat.not_lt_zero _), fun a j q => by rw [eL]⟩ ?_
  rintro K i N hi ⟨sN, eI, oN, eN⟩ hK
  have hGN := sN.good hG
  show f_X12_tape_B69 76 (nI k) x2' x3' (nI i) N K Q
  unfold f_X12_tape_B69
  have ei := nI_toInt (n := i) (by omega)
  by_cases h60 : i < 60
  · rw [if_neg (by rw [i32_le, ei]; simp only [Int32.reduceToInt]; omega)]
    refine ⟨oM hGN, 116, mP_g hGN rfl, ?_⟩
    rw [tape_i]
    refine ⟨isA_g hGN (by decide) rfl (vp_of (by rw [nI_toInt (by omega)]; omega) (by rw [nI_toInt (by omega)]; omega)), ?_⟩
    rw [nI_clamp (by omega)]
    intro N2 hE
    refine hK h60 N2 ⟨by rw [hE]; exact sN, by rw [hE]; exact eI, fun j hj => ?_, fun a j q => ?_⟩
    · rw [hE]
      by_cases e : j = i
      · subst e; rw [mL_sL_s]
      · rw [mL_ne _ _ (by omega)]; exact oN j (by omega)
    · rw [hE, mL_ne _ _ (by omega)]; exact eN a j q
  · obtain rfl : i = 60 := by omega
    rw [if_pos (by decide)]
    exact hQ N sN (by rw [eI]; exact e2 _ _ (by omega)) (by rw [eI]; exact q1) oN (fun a j q => by rw [eI]; exact e2 a j q) eN
theorem tape_fin {M M1 : Mem} (hI : Inv M) {K : Mem → Prop} {k : Nat} {x2 x3 z3 : Int32} (hk : k < 6) (b1 : rg x2 (-1) 4) (b2 : rg z3 0 60) (b3 : x2 = -1 → z3 = 0) (b4 : ¬ x2 = -1 → z3 = x3) (hK : ∀ M', Inv M' → K M') (s1 : St M M1) (a1 : mI M1 (64 + 2 * k) 0 = x2) (a2 : mI M1 (64 + 2 * k) 1 = z3) (a3 : ∀ j, j < 60 → mL M1 (65 + 2 * k) j = 0) (e1 : ∀ a j, ¬ (a = 64 + 2 * k ∧ j < 2) → mI M1 a j = mI M a j) (l1 : ∀ a j, ¬ (a = 65 + 2 * k) → mL M1 a j = mL M a j) : f_X12_tape_J44 76 (nI k) x2 x3 M1 (fun w' M3 => if (1 : Int32) = w' then K M3 else False) := by
  obtain ⟨hG, ns, nt, nw, no, nh, cls, th, oa, kd, vv, iS0, iQ0, iN0, iH0, iZ0, iW0, iD0, iO0, iA0, iI0, iT0⟩ := id hI
  have hG1 := s1.good hG
  unfold f_X12_tape_J44
  have hv : vp_in (nI k) 6 := vp_of (by rw [nI_toInt (by omega)]; omega) (by rw [nI_toInt (by omega)]; omega)
  refine ⟨oM hG1, 114, mP_g hG1 rfl, isA_g hG1 (by decide) rfl hv, ?_⟩
  intro M2 hE2
  rw [nI_clamp (by omega)] at hE2
  have s2 : St M M2 := by rw [hE2]; exact s1
  have hG2 := s2.good hG
  have hz : (if 0 ≤ x2 then f_X12_tape_J65 76 (nI k) x2 x3 x3 (nI k) (mP M2 76 64) M2 (fun w' M3 => if (1 : Int32) = w' then K M3 else False) else f_X12_tape_J65 76 (nI k) x2 x3 (0 : Int32) (nI k) (mP M2 76 64) M2 (fun w' M3 => if (1 : Int32) = w' then K M3 else False)) ↔ f_X12_tape_J65 76 (nI k) x2 x3 z3 (nI k) (mP M2 76 64) M2 (fun w' M3 => if (1 : Int32) = w' then K M3 else False) := by
    by_cases e : x2 = -1
    · subst e; rw [if_neg (by decide), b3 rfl]
    · have h0 : 0 ≤ x2 := by
        rw [i32_le]; simp only [Int32.reduceToInt]
        have h9 : ¬ x2.toInt = -1 := fun q => e (Int32.toInt_inj.mp q)
        have := b1.1; omega
      rw [if_pos h0, b4 e]
  refine hz.mpr ?_
  rw [mP_g hG2 (show pvx 76 64 = some 115 from rfl)]
  refine tape_m hG2 hk fun M3 s3 c1 c2 c3 e3 l3 => ?_
  have s4 : St M M3 := ⟨s3.1.trans s2.1, s3.2.1.trans s2.2.1, s3.2.2.trans s2.2.2⟩
  have e : ∀ a j, ¬ (a = 64 + 2 * k ∧ j < 2 ∨ (a = 114 ∨ a = 115) ∧ j = k) → mI M3 a j = mI M a j := fun a j q => by rw [e3 a j (by omega), hE2, mI_ne _ _ (by omega), e1 a j (by omega)]
  have l : ∀ a j, ¬ (a = 65 + 2 * k ∨ a = 116 ∧ 60 * k ≤ j ∧ j < 60 * k + 60) → mL M3 a j = mL M a j := fun a j q => by rw [l3 a j (by omega), hE2, mL_i, l1 a j (by omega)]
  have g114 : mI M3 114 k = x2 := by rw [c1, hE2, mI_sI_s]
  have g0 : mI M3 (64 + 2 * k) 0 = x2 := by rw [e3 _ _ (by omega), hE2, mI_ne _ _ (by omega), a1]
  have g1 : mI M3 (64 + 2 * k) 1 = z3 := by rw [e3 _ _ (by omega), hE2, mI_ne _ _ (by omega), a2]
  have gL : ∀ j, j < 60 → mL M3 (65 + 2 * k) j = 0 := fun j hj => by rw [l3 _ _ (by omega), hE2, mL_i, a3 j hj]
  refine fin_ rfl (hK _ ⟨s4.good hG, ns, nt, nw, no, nh, cls, th, oa, kd, vv, iS_fr iS0 ?_, iQ_fr iQ0 ?_, iN_fr iN0 ?_, iH_fr iH0 ?_, iZ_fr iZ0 ?_, iW_fr iW0 ?_, iD_fr iD0 ?_, iO_fr iO0 s4.1 s4.2.1 (fun _ _ _ => by rw [s4.2.2]) ?_, iA_fr iA0 (fun r hr => (iO0.2.2.2.1 r hr).2.1.1) (by rw [s4.2.2]) ?_, iI_fr iI0 ?_, ?_⟩)
  · intro a j q; unfold cS at q; exact e a j (by omega)
  · intro a j q; unfold cQ at q; exact e a j (by omega)
  · intro a j q; unfold cN at q; exact e a j (by omega)
  · intro a j q; unfold cH at q; exact e a j (by omega)
  · intro a j q; unfold cZ at q; exact e a j (by omega)
  · intro a j q; unfold cW at q; exact e a j (by omega)
  · intro a j q; unfold cD at q; exact e a j (by omega)
  · intro a j q; unfold cO at q; exact e a j (by omega)
  · intro a j q; unfold cA at q; exact e a j (by omega)
  · intro a j q; unfold cI at q; exact e a j (by omega)
  · intro i hi
    by_cases hik : i = k
    · subst hik
      rw [g114, g0, c2, g1]
      exact ⟨rfl, b1, rfl, b2, b3, fun j hj => by rw [c3 j hj, gL j hj]⟩
    · rw [e 114 i (by omega), e (64 + 2 * i) 0 (by omega), e 115 i (by omega), e (64 + 2 * i) 1 (by omega)]
      obtain ⟨u1, u2, u3, u4, u5, u6⟩ := iT0 i hi
      exact ⟨u1, u2, u3, u4, u5, fun j hj => by rw [l 116 _ (by omega), l (65 + 2 * i) j (by omega)]; exact u6 j hj⟩
theorem J1071 {M : Mem} (hI : Inv M) {v3 : Int32} {xs : Nat → Int32} {L : Nat} {K : Mem → Prop} (h1 : vp_in (v3 + 1) L) (h2 : vp_in (v3 + 2) L) (h3 : vp_in (v3 + 3) L) (hK : ∀ M', Inv M' → K M') : f_L_law_J1071 0 76 v3 M xs L K := by
  have hG := hI.1
  unfold f_L_law_J1071
  generalize xs (v3 + 1).toNatClampNeg = x1
  generalize xs (v3 + 2).toNatClampNeg = x2
  generalize xs (v3 + 3).toNatClampNeg = x3
  refine ⟨h1, h2, h3, oQ hG, ?_⟩
  unfold f_X11_tape f_X12_tape
  refine ⟨oQ hG, ?_⟩
  by_cases c1 : 0 ≤ x1.toInt ∧ x1.toInt < 6
  case neg =>
    refine tapA_n (by omega) ⟨fun _ => ⟨h1, h2, h3, oM hG, oM hG, isT_f hG (by omega) ?_⟩, fun b hb => by cases hb⟩
    simp only [if_true, if_false, Bool.false_eq_true, reduceIte]
    first | exact fin_ rfl (hK _ hI) | exact hK _ hI
  obtain ⟨k, -, rfl, f1, f2⟩ := nI_ex c1.1
  have hk : k < 6 := by omega
  refine tapA_s hG hk ⟨fun h => (by cases h), fun b hb => ?_⟩
  cases hb
  by_cases c2 : -1 ≤ x2.toInt ∧ x2.toInt ≤ 4
  case neg =>
    have c3 : x2.toInt < -1 ∨ 4 < x2.toInt := by omega
    refine out_t c3 ?_
    simp only [if_true, if_false, Bool.false_eq_true, reduceIte]
    refine ⟨h1, h2, h3, oM hG, oM hG, isT_t hG hk ?_⟩
    simp only [if_true, if_false, Bool.false_eq_true, reduceIte]
    refine ⟨oM hG, in_f c3 ?_⟩
    simp only [if_true, if_false, Bool.false_eq_true, reduceIte]
    first | exact fin_ rfl (hK _ hI) | exact hK _ hI
  refine out_f c2 ?_
  simp only [if_true, if_false, Bool.false_eq_true, reduceIte]
  by_cases e : x2 = -1
  · subst e
    rw [if_pos rfl]
    unfold f_X11_tape_J37 f_X11_tape_J49
    rw [if_pos rfl, if_pos rfl]
    refine tape_c hG hk fun M1 s1 a1 a2 a3 e1 l1 => ?_
    have hG1 := s1.good hG
    refine ⟨h1, h2, h3, oM hG1, oM hG1, isT_t hG1 hk ?_⟩
    simp only [if_true, if_false, Bool.false_eq_true, reduceIte]
    refine ⟨oM hG1, in_t c2 ?_⟩
    simp only [if_true, if_false, Bool.false_eq_true, reduceIte]
    rw [if_pos (by decide)]
    unfold f_X12_tape_J33
    rw [if_pos (by decide)]
    exact tape_fin hI hk c2 ⟨by decide, by decide⟩ (fun _ => rfl) (fun q => absurd rfl q) hK s1 a1 a2 a3 e1 l1
  have h9 : ¬ x2.toInt = -1 := fun q => e (Int32.toInt_inj.mp q)
  have hneg : ¬ x2 < 0 := by rw [i32_lt]; simp only [Int32.reduceToInt]; omega
  rw [if_neg e]
  by_cases c3 : x3.toInt ≤ 60
  case neg =>
    rw [if_neg (by rw [i32_le]; exact c3)]
    refine ⟨h1, h2, h3, oM hG, oM hG, isT_t hG hk ?_⟩
    simp only [if_true, if_false, Bool.false_eq_true, reduceIte]
    refine ⟨oM hG, in_t c2 ?_⟩
    simp only [if_true, if_false, Bool.false_eq_true, reduceIte]
    rw [if_neg hneg, if_neg (by rw [i32_le]; exact c3)]
    first | exact fin_ rfl (hK _ hI) | exact hK _ hI
  rw [if_pos (by rw [i32_le]; exact c3)]
  unfold f_X11_tape_J37
  rw [if_neg e]
  by_cases c4 : 0 ≤ x3.toInt
  case neg =>
    rw [if_neg (by rw [i32_le]; exact c4)]
    refine ⟨h1, h2, h3, oM hG, oM hG, isT_t hG hk ?_⟩
    simp only [if_true, if_false, Bool.false_eq_true, reduceIte]
    refine ⟨oM hG, in_t c2 ?_⟩
    simp only [if_true, if_false, Bool.false_eq_true, reduceIte]
    rw [if_neg hneg, if_pos (by rw [i32_le]; exact c3)]
    unfold f_X12_tape_J33
    rw [if_neg hneg, if_neg (by rw [i32_le]; exact c4)]
    first | exact fin_ rfl (hK _ hI) | exact hK _ hI
  rw [if_pos (by rw [i32_le]; exact c4)]
  unfold f_X11_tape_J49
  rw [if_neg e]
  refine tape_c hG hk fun M1 s1 a1 a2 a3 e1 l1 => ?_
  have hG1 := s1.good hG
  refine ⟨h1, h2, h3, oM hG1, oM hG1, isT_t hG1 hk ?_⟩
  simp only [if_true, if_false, Bool.false_eq_true, reduceIte]
  refine ⟨oM hG1, in_t c2 ?_⟩
  simp only [if_true, if_false, Bool.false_eq_true, reduceIte]
  rw [if_neg hneg, if_pos (by rw [i32_le]; exact c3)]
  unfold f_X12_tape_J33
  rw [if_neg hneg, if_pos (by rw [i32_le]; exact c4)]
  exact tape_fin hI hk c2 ⟨c4, c3⟩ (fun q => absurd q e) (fun _ => rfl) hK s1 a1 a2 a3 e1 l1
