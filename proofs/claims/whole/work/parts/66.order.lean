/-! ===== order ===== -/
theorem nw_S (M : Mem) (x : Sh) (b : Nat) : mS (nw M x) b = if b = mN M then x else mS M b := rfl
theorem nw_N (M : Mem) (x : Sh) : mN (nw M x) = mN M + 1 := rfl
theorem nw_I (M : Mem) (x : Sh) {b : Nat} (h : b ≠ mN M) : mI (nw M x) b = mI M b := if_neg h
theorem nw_L (M : Mem) (x : Sh) {b : Nat} (h : b ≠ mN M) : mL (nw M x) b = mL M b := if_neg h
theorem nw_P (M : Mem) (x : Sh) {b : Nat} (h : b ≠ mN M) : mP (nw M x) b = mP M b := if_neg h
/-- what was there stays -/
def Ke (M M1 : Mem) : Prop := (∀ b, b < mN M → mS M1 b = mS M b ∧ mL M1 b = mL M b) ∧ ∀ b j, b < mN M → mI M1 b j = mI M b j ∧ mP M1 b j = mP M b j
theorem init5_c {M M2 : Mem} {ci : Nat} {x1 x2 : Int32} {Q : Mem → Prop} (hc : ci ∈ [5, 1, 2, 4, 6, 7, 9]) (hE : M2 = nw M (.inl ci)) (q : ∀ M1, Ke M M1 → mN M1 = mN M + 2 → mS M1 (mN M) = .inl ci → mS M1 (mN M + 1) = .inr (0, 20) → mP M1 (mN M) 3 = some (mN M + 1) → mI M1 (mN M) 0 = x1 → mI M1 (mN M) 1 = x2 → Q M1) : f_X5_init (mN M) x1 x2 M2 Q := by
  unfold f_X5_init
  intro M3 h3
  have n2 : mN M2 = mN M + 1 := by rw [hE]; rfl
  have s3 : mS M3 (mN M) = .inl ci := by rw [h3, nw_S, if_neg (by omega), hE, nw_S, if_pos rfl]
  refine ⟨⟨ci, hc, s3⟩, ?_⟩
  intro M4 h4; intro M5 h5; intro M6 h6
  have sS : mS M6 = mS M3 := by rw [h6, h5, h4]; rfl
  have sL : mL M6 = mL M3 := by rw [h6, h5, h4]; rfl
  have sP' : mP M6 = mP M4 := by rw [h6, h5]; rfl
  have sI0 : mI M4 = mI M3 := by rw [h4]; rfl
  have sN : mN M6 = mN M3 := by rw [h6, h5, h4]; rfl
  refine q M6 ⟨fun b hb => ⟨?_, ?_⟩, fun b j hb => ⟨?_, ?_⟩⟩ ?_ ?_ ?_ ?_ ?_ ?_
  · rw [sS, h3, nw_S, if_neg (by omega), hE, nw_S, if_neg (by omega)]
  · rw [sL, h3, nw_L _ _ (by omega), hE, nw_L _ _ (by omega)]
  · rw [h6, mI_ne _ _ (by omega), h5, mI_ne _ _ (by omega), sI0, h3, nw_I _ _ (by omega), hE, nw_I _ _ (by omega)]
  · rw [sP', h4, mP_sP_ne _ _ (by omega), h3, nw_P _ _ (by omega), hE, nw_P _ _ (by omega)]
  · rw [sN, h3, nw_N, n2]
  · rw [sS]; exact s3
  · rw [sS, h3, nw_S, if_pos n2.symm]
  · rw [sP', h4, mP_sP_s, n2]
  · rw [h6, mI_ne _ _ (by omega), h5, mI_sI_s]
  · rw [h6, mI_sI_s]
theorem made_c {M : Mem} {k no v : Nat} {Q : Option Nat → Mem → Prop} (hk : k ≤ 6) (q : ∀ M1, Ke M M1 → mN M1 = mN M + ow k → mS M1 (mN M) = .inl (kc k) → mS M1 (mN M + 1) = .inr (0, 20) → mP M1 (mN M) 3 = some (mN M + 1) → mI M1 (mN M) 0 = nI no → mI M1 (mN M) 1 = nI v → (k = 6 → mS M1 (mN M + 2) = .inr (0, 10) ∧ mP M1 (mN M) 4 = some (mN M + 2) ∧ ∀ j, j < 10 → mI M1 (mN M + 2) j = -1) → Q (some (mN M)) M1) : f_X11_made (nI k) (nI no) (nI v) M Q := by
  unfold f_X11_made
  have no6 : ∀ M2 ci, ¬ k = 6 → kc k = ci → ci ∈ [5, 1, 2, 4, 6, 7, 9] → M2 = nw M (.inl ci) → f_X5_init (mN M) (nI no) (nI v) M2 (fun M6 => Q (some (mN M)) M6) := by
    intro M2 ci h6 hci hm hE
    refine init5_c hm hE fun M1 a1 a2 a3 a4 a5 a6 a7 => q M1 a1 ?_ (by rw [hci]; exact a3) a4 a5 a6 a7 (fun e => absurd e h6)
    rw [a2]; unfold ow; rw [if_neg h6]
  rcases seven hk with rfl | rfl | rfl | rfl | rfl | rfl | rfl
  · rw [if_neg (by decide), if_neg (by decide), if_neg (by decide), if_neg (by decide), if_neg (by decide), if_neg (by decide)]
    intro M2 hE; exact no6 M2 5 (by decide) rfl (by decide) hE
  · rw [if_pos (by decide)]
    intro M2 hE; exact no6 M2 1 (by decide) rfl (by decide) hE
  · rw [if_neg (by decide), if_pos (by decide)]
    intro M2 hE; exact no6 M2 7 (by decide) rfl (by decide) hE
  · rw [if_neg (by decide), if_neg (by decide), if_pos (by decide)]
    intro M2 hE; exact no6 M2 4 (by decide) rfl (by decide) hE
  · rw [if_neg (by decide), if_neg (by decide), if_neg (by decide), if_pos (by decide)]
    intro M2 hE; exact no6 M2 6 (by decide) rfl (by decide) hE
  · rw [if_neg (by decide), if_neg (by decide), if_neg (by decide), if_neg (by decide), if_pos (by decide)]
    intro M2 hE; exact no6 M2 2 (by decide) rfl (by decide) hE
  · rw [if_neg (by decide), if_neg (by decide), if_neg (by decide), if_neg (by decide), if_neg (by decide), if_pos (by decide)]
    intro M2 hE
    unfold f_X9_init f_X1_init
    refine init5_c (ci := 9) (by decide) hE fun M3 a1 a2 a3 a4 a5 a6 a7 => ?_
    intro M4 h4
    have s4 : mS M4 (mN M) = .inl 9 := by rw [h4, nw_S, if_neg (by omega)]; exact a3
    refine ⟨⟨9, by decide, s4⟩, ?_⟩
    intro M5 h5
    have p5 : mP M5 (mN M) 4 = some (mN M + 2) := by rw [h5, mP_sP_s, a2]
    have s5 : mS M5 = mS M4 := by rw [h5]; rfl
    rw [p5]
    refine fill_i (n := 10) (by rw [s5, h4, nw_S, if_pos a2.symm]) (by omega) fun M6 s6 o6 e6 => ?_
    have i6 : ∀ b j, b < mN M + 2 → mI M6 b j = mI M3 b j := fun b j hb => by
      rw [e6 b j (by omega), h5]
      show mI M4 b j = _
      rw [h4, nw_I _ _ (by omega)]
    have p6 : ∀ b j, b < mN M + 2 → ¬ (b = mN M ∧ j = 4) → mP M6 b j = mP M3 b j := fun b j hb hn => by
      rw [s6.2.2.1, h5, mP_sP_ne _ _ hn, h4, nw_P _ _ (by omega)]
    have t6 : ∀ b, b < mN M + 2 → mS M6 b = mS M3 b ∧ mL M6 b = mL M3 b := fun b hb => by
      constructor
      · rw [s6.2.1, s5, h4, nw_S, if_neg (by omega)]
      · rw [s6.2.2.2, h5]
        show mL M4 b = _
        rw [h4, nw_L _ _ (by omega)]
    refine q M6 ⟨fun b hb => ⟨(t6 b (by omega)).1.trans (a1.1 b hb).1, (t6 b (by omega)).2.trans (a1.1 b hb).2⟩, fun b j hb => ⟨(i6 b j (by omega)).trans (a1.2 b j hb).1, (p6 b j (by omega) (by omega)).trans (a1.2 b j hb).2⟩⟩ ?_ ((t6 _ (by omega)).1.trans a3) ((t6 _ (by omega)).1.trans a4) ((p6 _ _ (by omega) (by omega)).trans a5) ((i6 _ _ (by omega)).trans a6) ((i6 _ _ (by omega)).trans a7) (fun _ => ⟨?_, ?_, fun j hj => o6 j hj⟩)
    · rw [s6.1, h5]
      show mN M4 = _
      rw [h4, nw_N, a2]; rfl
    · rw [s6.2.1, s5, h4, nw_S, if_pos a2.symm]
    · rw [s6.2.2.1]; exact p5
theorem order_c {M : Mem} {k no v : Nat} {Q : Int32 → Mem → Prop} (hG : Good M) (h9 : mI M 0 9 = nI no) (hno : no < 10) (hk : k ≤ 6) (hv : 1 ≤ v ∧ v ≤ 9) (q : ∀ M1, Good M1 → mN M1 = mN M + ow k → (∀ b, b < mN M → mS M1 b = mS M b ∧ mL M1 b = mL M b) → (∀ b j, b < mN M → ¬ (b = 0 ∧ j = 9) → mI M1 b j = mI M b j) → (∀ b j, b < mN M → ¬ (b = 14 ∧ j = no) → mP M1 b j = mP M b j) → mI M1 0 9 = nI (no + 1) → mP M1 14 no = some (mN M) → mS M1 (mN M) = .inl (kc k) → mS M1 (mN M + 1) = .inr (0, 20) → mP M1 (mN M) 3 = some (mN M + 1) → mI M1 (mN M) 0 = nI no → mI M1 (mN M) 1 = nI v → (k = 6 → mS M1 (mN M + 2) = .inr (0, 10) ∧ mP M1 (mN M) 4 = some (mN M + 2) ∧ ∀ j, j < 10 → mI M1 (mN M + 2) j = -1) → Q (nI no) M1) : f_X11_order 0 (nI k) (nI v) M Q := by
  have h118 := hG.1
  have ek := nI_toInt (n := k) (by omega)
  have ev := nI_toInt (n := v) (by omega)
  have o2 := ow_2 k
  unfold f_X11_order
  refine out_f (by simp only [Int32.reduceToInt]; omega) ?_
  simp only [if_true, if_false, Bool.false_eq_true, reduceIte]
  refine out_f (by simp only [Int32.reduceToInt]; omega) ?_
  simp only [if_true, if_false, Bool.false_eq_true, reduceIte]
  refine ⟨oQ hG, ?_⟩
  rw [h9, if_pos (show nI no < (10 : Int32) from nI_lt (b := 10) hno (by omega))]
  refine made_c hk fun M1 a1 a2 a3 a4 a5 a6 a7 a8 => ?_
  have s1 : ∀ b, b < 118 → mS M1 b = shp b := fun b hb => (a1.1 b (by omega)).1.trans (hG.2.1 b hb)
  have sA : isA M1 14 6 (nI no) := ⟨10, s1 14 (by decide), vpN hno (by omega)⟩
  refine ⟨14, mP_g hG rfl, mN M, rfl, sA, ⟨kc k, kc_in hk, a3⟩, ?_⟩
  rw [nI_clamp (by omega)]
  intro M2 h2
  have s2 : mS M2 = mS M1 := by rw [h2]; rfl
  have i2 : mI M2 = mI M1 := by rw [h2]; rfl
  have z9 : mI M2 0 9 = nI no := by rw [i2]; exact (a1.2 0 9 (by omega)).1.trans h9
  refine ⟨⟨11, by decide, by rw [s2]; exact s1 0 (by decide)⟩, ?_⟩
  intro M3 h3
  have s3 : mS M3 = mS M1 := by rw [h3]; exact s2
  have p3 : mP M3 = mP M2 := by rw [h3]; rfl
  have n3 : mN M3 = mN M1 := by rw [h3, h2]; rfl
  have l3 : mL M3 = mL M1 := by rw [h3, h2]; rfl
  have i3 : ∀ b j, ¬ (b = 0 ∧ j = 9) → mI M3 b j = mI M1 b j := fun b j hn => by rw [h3, mI_ne _ _ hn, i2]
  have q3 : ∀ b j, ¬ (b = 14 ∧ j = no) → mP M3 b j = mP M1 b j := fun b j hn => by rw [p3, h2, mP_sP_ne _ _ hn]
  have e9 : mI M3 0 9 = nI (no + 1) := by rw [h3, mI_sI_s, z9, nI_1]
  rw [e9, nI_pred]
  refine q M3 ⟨by rw [n3]; omega, fun b hb => by rw [s3]; exact s1 b hb, fun b j w hw => ?_⟩ (n3.trans a2) (fun b hb => ⟨by rw [s3]; exact (a1.1 b hb).1, by rw [l3]; exact (a1.1 b hb).2⟩) (fun b j hb hn => (i3 b j hn).trans (a1.2 b j hb).1) (fun b j hb hn => (q3 b j hn).trans (a1.2 b j hb).2) e9 ?_ (by rw [s3]; exact a3) (by rw [s3]; exact a4) ((q3 _ _ (by omega)).trans a5) ((i3 _ _ (by omega)).trans a6) ((i3 _ _ (by omega)).trans a7) (fun e => ?_)
  · by_cases c : b = 14
    · subst c; cases hw
    · have hb : b < 118 := by
        rcases Nat.lt_or_ge b 118 with h | h
        · exact h
        · exfalso
          unfold pvx at hw
          split at hw <;> first | omega | cases hw
      rw [q3 _ _ (by omega), (a1.2 b j (by omega)).2]; exact hG.2.2 b j w hw
  · rw [p3, h2, mP_sP_s]
  · obtain ⟨b1, b2, b3⟩ := a8 e
    exact ⟨by rw [s3]; exact b1, (q3 _ _ (by omega)).trans b2, fun j hj => (i3 _ _ (by omega)).trans (b3 j hj)⟩
theorem order_m {M : Mem} {k no v : Nat} {Q : Int32 → Mem → Prop} (hG : Good M) (h27 : mI M 76 27 = nI no) (hno : no < 10) (hk : k ≤ 6) (hv : 1 ≤ v ∧ v ≤ 9) (q : ∀ M1, Sm M M1 → mI M1 94 no = nI k → mI M1 95 no = nI v → (∀ j, j < 10 → mI M1 96 (10 * no + j) = -1) → mI M1 76 27 = nI (no + 1) → (∀ a j, ¬ ((a = 94 ∨ a = 95) ∧ j = no ∨ a = 96 ∧ 10 * no ≤ j ∧ j < 10 * no + 10 ∨ a = 76 ∧ j = 27) → mI M1 a j = mI M a j) → Q (nI no) M1) : f_X12_order 76 (nI k) (nI v) M Q := by
  have ek := nI_toInt (n := k) (by omega)
  have ev := nI_toInt (n := v) (by omega)
  unfold f_X12_order
  refine ⟨oM hG, in_t (by simp only [Int32.reduceToInt]; omega) ?_⟩
  simp only [if_true, if_false, Bool.false_eq_true, reduceIte]
  refine ⟨oM hG, in_t (by simp only [Int32.reduceToInt]; omega) ?_⟩
  simp only [if_true, if_false, Bool.false_eq_true, reduceIte]
  refine ⟨oM hG, ?_⟩
  rw [h27, if_neg (show ¬ nI no = (10 : Int32) from fun e => by have := (nI_eq (b := 10) (by omega) (by omega)).mp e; omega)]
  have vn : vp_in (nI no) 11 := vpN (by omega) (by omega)
  have en : (nI no).toNatClampNeg = no := nI_clamp (by omega)
  refine ⟨94, mP_g hG rfl, isA_g hG (by decide) rfl vn, ?_⟩
  rw [en]
  intro M2 h2
  have hG2 : Good M2 := by rw [h2]; exact hG
  have z2 : mI M2 76 27 = nI no := by rw [h2, mI_ne _ _ (by omega)]; exact h27
  refine ⟨95, mP_g hG2 rfl, ?_⟩
  rw [z2, en]
  refine ⟨isA_g hG2 (by decide) rfl vn, ?_⟩
  intro M3 h3
  have s3 : Sm M M3 := by rw [h3, h2]; exact Sm.rf M
  have e3 : ∀ a j, ¬ ((a = 94 ∨ a = 95) ∧ j = no) → mI M3 a j = mI M a j := fun a j c => by rw [h3, mI_ne _ _ (by omega), h2, mI_ne _ _ (by omega)]
  have k3 : mI M3 94 no = nI k := by rw [h3, mI_ne _ _ (by omega), h2, mI_sI_s]
  have v3 : mI M3 95 no = nI v := by rw [h3, mI_sI_s]
  clear h2 h3
  unfold f_X12_order_L61
  refine cnt 10 (by omega) (fun i N => Sm M N ∧ (∀ a j, ¬ (a = 96 ∧ 10 * no ≤ j ∧ j < 10 * no + 10) → mI N a j = mI M3 a j) ∧ ∀ j, j < i → mI N 96 (10 * no + j) = -1) ⟨s3, fun _ _ _ => rfl, fun j hj => absurd hj (Nat.not_lt_zero _)⟩ ?_
  rintro K i N hi ⟨sN, eN, oN⟩ hK
  have hGN := sN.good hG
  show f_X12_order_B61 76 (nI k) (nI v) (nI i) N K Q
  unfold f_X12_order_B61
  have z27 : mI N 76 27 = nI no := (eN _ _ (by omega)).trans ((e3 _ _ (by omega)).trans h27)
  by_cases hi10 : i < 10
  · rw [if_neg (show ¬ (10 : Int32) ≤ nI i from nI_ge (b := 10) hi10 (by omega))]
    refine ⟨oM hGN, 96, mP_g hGN rfl, ?_⟩
    rw [z27, show (10 : Int32) = nI 10 from rfl, nI_mul, nI_add, nI_clamp (by omega)]
    refine ⟨isA_g hGN (by decide) rfl (vpN (by omega) (by omega)), ?_⟩
    intro N2 hE
    refine hK hi10 N2 ⟨by rw [hE]; exact sN, fun a j c => by rw [hE, mI_ne _ _ (by omega)]; exact eN a j c, fun j hj => ?_⟩
    by_cases e : j = i
    · subst e; rw [hE, mI_sI_s]
    · rw [hE, mI_ne _ _ (by omega)]; exact oN j (by omega)
  obtain rfl : i = 10 := by omega
  rw [if_pos (show (10 : Int32) ≤ nI 10 by decide)]
  refine ⟨oM hGN, ?_⟩
  intro N2 hE
  have e27 : mI N2 76 27 = nI (no + 1) := by rw [hE, mI_sI_s, z27, nI_1]
  have eE : ∀ a j, ¬ (a = 76 ∧ j = 27) → mI N2 a j = mI N a j := fun a j c => by rw [hE, mI_ne _ _ c]
  rw [e27, nI_pred]
  refine q N2 (by rw [hE]; exact sN) ?_ ?_ (fun j hj => ?_) e27 (fun a j c => ?_)
  · rw [eE _ _ (by omega), eN _ _ (by omega)]; exact k3
  · rw [eE _ _ (by omega), eN _ _ (by omega)]; exact v3
  · rw [eE _ _ (by omega)]; exact oN j hj
  · rw [eE _ _ (by omega), eN _ _ (by omega), e3 _ _ (by omega)]
theorem J410 {M : Mem} (hI : Inv M) {v3 : Int32} {xs : Nat → Int32} {L : Nat} {K : Mem → Prop} (h1 : vp_in (v3 + 1) L) (h2 : vp_in (v3 + 2) L) (hK : ∀ M', Inv M' → K M') : f_L_law_J410 0 76 v3 M xs L K := by
  obtain ⟨hG, ns, nt, nw, no, nh, cls, th, oa, kd, vv, J0⟩ := id hI; have J : Jn M ns nt nw no nh cls th oa kd vv := ⟨hG, J0⟩; obtain ⟨iS0, iQ0, iN0, iH0, iZ0, iW0, iD0, iO0, iA0, iI0, iT0⟩ := id J0
  unfold f_L_law_J410
  generalize xs (v3 + 1).toNatClampNeg = x1
  generalize xs (v3 + 2).toNatClampNeg = x2
  refine ⟨h1, h2, oQ hG, ?_⟩
  by_cases c1 : 0 ≤ x1.toInt ∧ x1.toInt ≤ 6
  case neg =>
    unfold f_X11_order f_X12_order
    refine out_t (by simp only [Int32.reduceToInt]; omega) ?_
    simp only [if_true, if_false, Bool.false_eq_true, reduceIte]
    refine ⟨h1, h2, oM hG, oM hG, in_f (by simp only [Int32.reduceToInt]; omega) ?_⟩
    simp only [if_true, if_false, Bool.false_eq_true, reduceIte]
    exact hK _ hI
  by_cases c2 : 1 ≤ x2.toInt ∧ x2.toInt ≤ 9
  case neg =>
    unfold f_X11_order f_X12_order
    refine out_f c1 ?_
    simp only [if_true, if_false, Bool.false_eq_true, reduceIte]
    refine out_t (by simp only [Int32.reduceToInt]; omega) ?_
    simp only [if_true, if_false, Bool.false_eq_true, reduceIte]
    refine ⟨h1, h2, oM hG, oM hG, in_t c1 ?_⟩
    simp only [if_true, if_false, Bool.false_eq_true, reduceIte]
    refine ⟨oM hG, in_f (by simp only [Int32.reduceToInt]; omega) ?_⟩
    simp only [if_true, if_false, Bool.false_eq_true, reduceIte]
    exact hK _ hI
  by_cases c3 : no < 10
  case neg =>
    obtain rfl : no = 10 := by have := iO0.1; omega
    unfold f_X11_order f_X12_order
    refine out_f c1 ?_
    simp only [if_true, if_false, Bool.false_eq_true, reduceIte]
    refine out_f c2 ?_
    simp only [if_true, if_false, Bool.false_eq_true, reduceIte]
    refine ⟨oQ hG, ?_⟩
    rw [iO0.2.1, if_neg (by decide)]
    refine ⟨h1, h2, oM hG, oM hG, in_t c1 ?_⟩
    simp only [if_true, if_false, Bool.false_eq_true, reduceIte]
    refine ⟨oM hG, in_t c2 ?_⟩
    simp only [if_true, if_false, Bool.false_eq_true, reduceIte]
    refine ⟨oM hG, ?_⟩
    rw [iO0.2.2.1, if_pos (by decide)]
    first | exact hK _ hI | exact fin_ rfl (hK _ hI)
  obtain ⟨k, -, rfl, k1, k2⟩ := nI_ex c1.1
  obtain ⟨v, -, rfl, v1, v2⟩ := nI_ex (x := x2) (by omega)
  have h118 := hG.1
  have hk : k ≤ 6 := by omega
  refine order_c hG iO0.2.1 c3 hk (by omega) fun M1 hG1 n1 t1 i1 p1 a1 a2 a3 a4 a5 a6 a7 a8 => ?_
  refine ⟨h1, h2, oM hG1, order_m hG1 ((i1 _ _ (by omega) (by omega)).trans iO0.2.2.1) c3 hk (by omega) fun M2 s2 b1 b2 b3 b4 e2 => ?_⟩
  have e : ∀ a j, a < mN M → ¬ (a = 0 ∧ j = 9 ∨ (a = 94 ∨ a = 95) ∧ j = no ∨ a = 96 ∧ 10 * no ≤ j ∧ j < 10 * no + 10 ∨ a = 76 ∧ j = 27) → mI M2 a j = mI M a j := fun a j ha c => (e2 a j (by omega)).trans (i1 a j ha (by omega))
  have P : ∀ b j, b < mN M → ¬ (b = 14 ∧ j = no) → mP M2 b j = mP M b j := fun b j hb c => by rw [s2.2.2.1]; exact p1 b j hb c
  have N2 : mN M2 = mN M + ow k := s2.1.trans n1
  have o2 := ow_2 k
  refine fin_ rfl (hK _ ⟨s2.good hG1, ns, nt, nw, no + 1, nh, cls, th, fun r => if r = no then mN M else oa r, fun r => if r = no then k else kd r, fun r => if r = no then v else vv r, iS_fr iS0 ?_, iQ_fr iQ0 ?_, iN_fr iN0 ?_, iH_fr iH0 ?_, iZ_fr iZ0 ?_, iW_fr iW0 ?_, iD_fr iD0 ?_, ?_, ?_, iI_fr iI0 ?_, iT_fr iT0 (fun a j c => ?_) ?_⟩)
  · intro a j q; unfold cS at q; exact e a j (by omega) (by omega)
  · intro a j q; unfold cQ at q; exact e a j (by omega) (by omega)
  · intro a j q; unfold cN at q; exact e a j (by omega) (by omega)
  · intro a j q; unfold cH at q; exact e a j (by omega) (by omega)
  · intro a j q; unfold cZ at q; exact e a j (by omega) (by omega)
  · intro a j q; unfold cW at q; exact e a j (by omega) (by omega)
  · intro a j q; unfold cD at q; exact e a j (by omega) (by omega)
  · obtain ⟨g1, g2, g3, g4, g5⟩ := id iO0
    refine ⟨by omega, (e2 _ _ (by omega)).trans a1, b4, fun r hr => ?_, fun r q hrq hq => ?_⟩
    · show oK M2 (if r = no then mN M else oa r) r (if r = no then k else kd r) (if r = no then v else vv r)
      by_cases er : r = no
      · subst er
        rw [if_pos rfl, if_pos rfl, if_pos rfl]
        refine ⟨⟨hk, by omega, by omega⟩, ⟨h118, by omega⟩, ⟨by rw [s2.2.1]; exact a3, by rw [s2.2.1]; exact a4, by rw [s2.2.2.1]; exact a5, by rw [s2.2.2.1]; exact a2⟩, ⟨(e2 _ _ (by omega)).trans a6, (e2 _ _ (by omega)).trans a7, b1, b2⟩, fun e6 => ?_⟩
        obtain ⟨d1, d2, d3⟩ := a8 e6
        refine ⟨by rw [s2.2.1]; exact d1, by rw [s2.2.2.1]; exact d2, fun j hj => ?_⟩
        rw [b3 j hj, e2 _ _ (by omega), d3 j hj]
        exact ⟨rfl, by decide, by decide⟩
      · rw [if_neg er, if_neg er, if_neg er]
        have h4 := g4 r (by omega)
        have hb := h4.2.1
        have o3 := ow_2 (kd r)
        refine oK_fr h4 (by omega) (fun b z1 z2 => by rw [s2.2.1]; exact (t1 b (by omega)).1) (fun b j q => P b j (by omega) (by omega)) (fun b j q => ?_)
        rcases q with q | q | q | q | ⟨q6, q⟩
        · exact e b j (by omega) (by omega)
        · exact e b j (by omega) (by omega)
        · exact e b j (by omega) (by omega)
        · exact e b j (by omega) (by omega)
        · rw [ow_6 q6] at hb
          exact e b j (by omega) (by omega)
    · show (if r = no then mN M else oa r) + ow (if r = no then k else kd r) ≤ (if q = no then mN M else oa q)
      rw [if_neg (by omega), if_neg (by omega)]
      by_cases eq : q = no
      · rw [if_pos eq]; exact (g4 r (by omega)).2.1.2
      · rw [if_neg eq]; exact g5 r q hrq (by omega)
  · rcases iA0 with ⟨z1, z2⟩ | ⟨r, n, z1, z2, z3, z4, z5, z6⟩
    · exact Or.inl ⟨(P _ _ (by omega) (by omega)).trans z1, (e _ _ (by omega) (by omega)).trans z2⟩
    · have hb := (iO0.2.2.2.1 r z1).2.1
      have o3 := ow_2 (kd r)
      refine Or.inr ⟨r, n, by omega, z2, ?_, ?_, (e _ _ (by omega) (by omega)).trans z5, fun j hj => ?_⟩
      · show mP M2 0 10 = some (if r = no then mN M else oa r)
        rw [if_neg (by omega)]; exact (P _ _ (by omega) (by omega)).trans z3
      · show mI M2 (if r = no then mN M else oa r) 2 = nI n
        rw [if_neg (by omega)]; exact (e _ _ (by omega) (by omega)).trans z4
      · show mI M2 113 j = mI M2 ((if r = no then mN M else oa r) + 1) j
        rw [if_neg (by omega), e 113 j (by omega) (by omega), e (oa r + 1) j (by omega) (by omega)]; exact z6 j hj
  · intro a j q; unfold cI at q; exact e a j (by omega) (by omega)
  · rw [s2.2.2.2]; rw [(t1 a (by omega)).2]
  · intro a j q; unfold cT at q; exact e a j (by omega) (by omega)
