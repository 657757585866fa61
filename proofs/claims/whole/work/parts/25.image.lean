/-! ===== counting loops; image, undo ===== -/
theorem cnt {body : (Int32 × Mem → Prop) → Int32 × Mem → Prop} (N : Nat) (hN : N < 2 ^ 31) (I : Nat → Mem → Prop) {M0 : Mem} (h0 : I 0 M0) (step : ∀ (K : Int32 × Mem → Prop) (k : Nat) (M : Mem), k ≤ N → I k M → (k < N → ∀ M', I (k + 1) M' → K (nI k + 1, M')) → body K (nI k, M)) : loopP body (0, M0) := by
  refine ⟨fun z => ∃ k, k ≤ N ∧ z.1 = nI k ∧ I k z.2, fun z => N - z.1.toNatClampNeg, ⟨0, Nat.zero_le _, rfl, h0⟩, ?_⟩
  rintro ⟨v, M⟩ ⟨k, hk, hv, hI⟩
  replace hv : v = nI k := hv
  subst hv
  refine step _ k M hk hI (fun hlt M' hM' => ⟨⟨k + 1, hlt, nI_1 k, hM'⟩, ?_⟩)
  show N - (nI k + 1).toNatClampNeg < N - (nI k).toNatClampNeg
  rw [nI_1, nI_clamp (by omega), nI_clamp (by omega)]; omega
theorem nI_leN {a b : Nat} (ha : a < 2 ^ 31) (hb : b < 2 ^ 31) (h : b < a) : ¬ nI a ≤ nI b := nI_ge h ha
theorem image_m {M : Mem} {Q : Int32 → Mem → Prop} (hG : Good M) (hQ : ∀ M1, Sm M M1 → mI M1 76 54 = 1 → mI M1 76 55 = mI M 76 10 → mI M1 76 56 = mI M 76 0 → mI M1 76 57 = mI M 76 1 → (∀ k, k < 6 → mI M1 110 k = mI M 81 k) → (∀ k, k < 12 → mI M1 111 k = mI M 82 k ∧ mI M1 112 k = mI M 83 k) → (∀ a j, ¬ (a = 76 ∧ 54 ≤ j ∧ j < 58 ∨ 110 ≤ a ∧ a < 113) → mI M1 a j = mI M a j) → Q (mI M 76 1) M1) : f_X12_image 76 M Q := by
  unfold f_X12_image
  refine ⟨oM hG, ?_⟩
  intro M2 hE2; intro M3 hE3; intro M4 hE4; intro M5 hE5
  have s5 : Sm M M5 := by rw [hE5, hE4, hE3, hE2]; exact Sm.rf M
  have e5 : ∀ a j, ¬ (a = 76 ∧ 54 ≤ j ∧ j < 58) → mI M5 a j = mI M a j := fun a j q => by rw [hE5, mI_ne _ _ (by omega), hE4, mI_ne _ _ (by omega), hE3, mI_ne _ _ (by omega), hE2, mI_ne _ _ (by omega)]
  have q54 : mI M5 76 54 = 1 := by rw [hE5, mI_ne _ _ (by omega), hE4, mI_ne _ _ (by omega), hE3, mI_ne _ _ (by omega), hE2, mI_sI_s]
  have q55 : mI M5 76 55 = mI M 76 10 := by rw [hE5, mI_ne _ _ (by omega), hE4, mI_ne _ _ (by omega), hE3, mI_sI_s, hE2, mI_ne _ _ (by omega)]
  have q56 : mI M5 76 56 = mI M 76 0 := by rw [hE5, mI_ne _ _ (by omega), hE4, mI_sI_s, hE3, mI_ne _ _ (by omega), hE2, mI_ne _ _ (by omega)]
  have q57 : mI M5 76 57 = mI M 76 1 := by rw [hE5, mI_sI_s, hE4, mI_ne _ _ (by omega), hE3, mI_ne _ _ (by omega), hE2, mI_ne _ _ (by omega)]
  clear hE2 hE3 hE4 hE5
  unfold f_X12_image_L31
  refine cnt 6 (by omega) (fun k N => Sm M N ∧ (∀ j, j < k → mI N 110 j = mI M 81 j) ∧ ∀ a j, ¬ (a = 110) → mI N a j = mI M5 a j) ⟨s5, fun j hj => absurd hj (Nat.not_lt_zero _), fun _ _ _ => rfl⟩ ?_
  rintro K k N hk ⟨sN, oN, eN⟩ hK
  have hGN := sN.good hG
  show f_X12_image_B31 76 (nI k) N K Q
  unfold f_X12_image_B31
  have ek := nI_toInt (n := k) (by omega)
  have ec : (nI k).toNatClampNeg = k := nI_clamp (by omega)
  by_cases hk6 : k < 6
  · rw [if_neg (by rw [i32_le, ek]; simp only [Int32.reduceToInt]; omega)]
    have hv : vp_in (nI k) 6 := vp_of (by omega) (by omega)
    refine ⟨oM hGN, 81, mP_g hGN rfl, isA_g hGN (by decide) rfl hv, 110, mP_g hGN rfl, isA_g hGN (by decide) rfl hv, ?_⟩
    intro N2 hE
    refine hK hk6 N2 ⟨by rw [hE]; exact sN, fun j hj => ?_, fun a j q => ?_⟩
    · rw [hE, ec]
      by_cases e : j = k
      · subst e; rw [mI_sI_s, eN _ _ (by omega), e5 _ _ (by omega)]
      · rw [mI_ne _ _ (by omega)]; exact oN j (by omega)
    · rw [hE, mI_ne _ _ (by omega)]; exact eN a j q
  obtain rfl : k = 6 := by omega
  rw [if_pos (by decide)]
  clear hK
  unfold f_X12_image_L57
  refine cnt 12 (by omega) (fun k N' => Sm M N' ∧ (∀ j, j < k → mI N' 111 j = mI M 82 j ∧ mI N' 112 j = mI M 83 j) ∧ ∀ a j, ¬ (a = 111 ∨ a = 112) → mI N' a j = mI N a j) ⟨sN, fun j hj => absurd hj (Nat.not_lt_zero _), fun _ _ _ => rfl⟩ ?_
  rintro K2 k N' hk' ⟨sN', oN', eN'⟩ hK
  have hGN' := sN'.good hG
  show f_X12_image_B57 76 (nI k) N' K2 Q
  unfold f_X12_image_B57
  have ek := nI_toInt (n := k) (by omega)
  have ec : (nI k).toNatClampNeg = k := nI_clamp (by omega)
  by_cases hk6 : k < 12
  · rw [if_neg (by rw [i32_le, ek]; simp only [Int32.reduceToInt]; omega)]
    have hv : vp_in (nI k) 12 := vp_of (by omega) (by omega)
    have hv3 : vp_in (nI k) 13 := vp_of (by omega) (by omega)
    refine ⟨oM hGN', 82, mP_g hGN' rfl, isA_g hGN' (by decide) rfl hv3, 111, mP_g hGN' rfl, isA_g hGN' (by decide) rfl hv, ?_⟩
    intro N2 hE
    have s2 : Sm M N2 := by rw [hE]; exact sN'
    have hG2 := s2.good hG
    refine ⟨83, mP_g hG2 rfl, isA_g hG2 (by decide) rfl hv3, 112, mP_g hG2 rfl, isA_g hG2 (by decide) rfl hv, ?_⟩
    intro N3 hE3
    refine hK hk6 N3 ⟨by rw [hE3]; exact s2, fun j hj => ?_, fun a j q => ?_⟩
    · rw [hE3, hE, ec]
      by_cases e : j = k
      · subst e
        rw [mI_ne _ _ (by omega), mI_sI_s, mI_sI_s, mI_ne _ _ (by omega), eN' _ _ (by omega), eN _ _ (by omega), e5 _ _ (by omega), eN' _ _ (by omega), eN _ _ (by omega), e5 _ _ (by omega)]
        exact ⟨rfl, rfl⟩
      · rw [mI_ne _ _ (by omega), mI_ne _ _ (by omega), mI_ne _ _ (by omega), mI_ne _ _ (by omega)]; exact oN' j (by omega)
    · rw [hE3, mI_ne _ _ (by omega), hE, mI_ne _ _ (by omega)]; exact eN' a j q
  obtain rfl : k = 12 := by omega
  rw [if_pos (by decide)]
  refine ⟨oM hGN', ?_⟩
  rw [eN' 76 1 (by omega), eN 76 1 (by omega), e5 76 1 (by omega)]
  refine hQ N' sN' ?_ ?_ ?_ ?_ (fun j hj => ?_) oN' (fun a j q => ?_)
  · rw [eN' _ _ (by omega), eN _ _ (by omega), q54]
  · rw [eN' _ _ (by omega), eN _ _ (by omega), q55]
  · rw [eN' _ _ (by omega), eN _ _ (by omega), q56]
  · rw [eN' _ _ (by omega), eN _ _ (by omega), q57]
  · rw [eN' _ _ (by omega)]; exact oN j hj
  · rw [eN' _ _ (by omega), eN _ _ (by omega)]; exact e5 a j (by omega)
theorem J923 {M : Mem} (hI : Inv M) {v3 : Int32} {xs : Nat → Int32} {L : Nat} {K : Mem → Prop} (hK : ∀ M', Inv M' → K M') : f_L_law_J923 0 76 v3 M xs L K := by
  obtain ⟨hG, ns, nt, nw, no, nh, cls, th, oa, kd, vv, iS0, iQ0, iN0, iH0, iZ0, iW0, iD0, iO0, iA0, iI0, iT0⟩ := id hI
  unfold f_L_law_J923 f_X11_image
  obtain ⟨k1, k2, k3, k4⟩ := id iH0
  obtain ⟨d1, d2, d3⟩ := id iD0
  refine ⟨oQ hG, oQ hG, 21, mP_g hG rfl, isO_g hG (by decide) rfl, ?_⟩
  rw [mP_g hG (show pvx 0 11 = some 17 from rfl), iS0.2.1]
  refine become_c hG (Or.inr (Or.inl rfl)) (Or.inl rfl) (by omega) iS0.1 k1 k2 fun M1 s1 a1 a2 a3 a4 e1 => ?_
  have hG1 := s1.good hG
  refine ⟨oQ hG1, ?_⟩
  intro M2 hE2; intro M3 hE3
  have s3 : Sm M M3 := by rw [hE3, hE2]; exact s1
  have hG3 := s3.good hG
  have e3 : ∀ a j, ¬ (a = 0 ∧ (j = 14 ∨ j = 15)) → mI M3 a j = mI M1 a j := fun a j q => by rw [hE3, mI_ne _ _ (by omega), hE2, mI_ne _ _ (by omega)]
  have q14 : mI M3 0 14 = 1 := by rw [hE3, mI_sI_s]
  have q15 : mI M3 0 15 = nI ns := by rw [hE3, mI_ne _ _ (by omega), hE2, mI_sI_s, e1 _ _ (by omega), iS0.2.1]
  clear hE2 hE3
  refine ⟨17, mP_g hG3 rfl, isO_g hG3 (by decide) rfl, oM hG3, image_m hG3 fun M4 s4 b1 b2 b3 b4 b5 b6 e4 => ?_⟩
  have s1 := s3
  have s2 := s4
  have e2 : ∀ a j, ¬ (a = 76 ∧ 54 ≤ j ∧ j < 58 ∨ 110 ≤ a ∧ a < 113) → mI M4 a j = mI M3 a j := e4
  have e1 : ∀ a j, ¬ (a = 0 ∧ (j = 14 ∨ j = 15) ∨ 21 ≤ a ∧ a < 25) → mI M3 a j = mI M a j := fun a j q => (e3 a j (by omega)).trans (e1 a j (by omega))
  refine fin_ ?_ (hK _ ⟨s4.good hG3, ns, nt, nw, no, nh, cls, th, oa, kd, vv, (iS_fr iS0 (by (intro a j q; unfold cS at q; exact (e2 a j (by omega)).trans (e1 a j (by omega))))), (iQ_fr iQ0 (by (intro a j q; unfold cQ at q; exact (e2 a j (by omega)).trans (e1 a j (by omega))))), (iN_fr iN0 (by (intro a j q; unfold cN at q; exact (e2 a j (by omega)).trans (e1 a j (by omega))))), (iH_fr iH0 (by (intro a j q; unfold cH at q; exact (e2 a j (by omega)).trans (e1 a j (by omega))))), (iZ_fr iZ0 (by (intro a j q; unfold cZ at q; exact (e2 a j (by omega)).trans (e1 a j (by omega))))), (iW_fr iW0 (by (intro a j q; unfold cW at q; exact (e2 a j (by omega)).trans (e1 a j (by omega))))), (iD_fr iD0 (by (intro a j q; unfold cD at q; exact (e2 a j (by omega)).trans (e1 a j (by omega))))), (iO_fr iO0 (s2.1.trans s1.1) (s2.2.1.trans s1.2.1) (fun b j _ => by rw [s2.2.2.1, s1.2.2.1]) (by (intro a j q; unfold cO at q; exact (e2 a j (by omega)).trans (e1 a j (by omega))))), (iA_fr iA0 (fun r hr => (iO0.2.2.2.1 r hr).2.1.1) (by rw [s2.2.2.1, s1.2.2.1]) (by (intro a j q; unfold cA at q; exact (e2 a j (by omega)).trans (e1 a j (by omega))))), ?_, (iT_fr iT0 (fun b j _ => by rw [s2.2.2.2, s1.2.2.2]) (by (intro a j q; unfold cT at q; exact (e2 a j (by omega)).trans (e1 a j (by omega)))))⟩)
  · rw [e1 17 4 (by omega), e1 76 1 (by omega), k2, k3]
  · refine Or.inr ⟨(e2 _ _ (by omega)).trans q14, b1, ns, nh, th, Nat.le_refl _, k1, (e2 _ _ (by omega)).trans q15, ?_, ?_, ?_, ⟨?_, ?_, ?_⟩, fun k hk => ?_, fun k hk => ?_⟩
    · rw [b3, e1 _ _ (by omega), iS0.2.2.1]
    · rw [e2 _ _ (by omega), e3 _ _ (by omega), a2]
    · rw [b4, e1 _ _ (by omega), k3]
    · rw [b2, e1 _ _ (by omega), d1, e2 _ _ (by omega), e3 _ _ (by omega), a1]
    · intro h; rw [e2 _ _ (by omega), e3 _ _ (by omega), a1, d2 h]
    · intro h hh; rw [e2 _ _ (by omega), e3 _ _ (by omega), a1]; exact d3 h hh
    · have := iS0.1
      rw [b5 k (by omega), e1 _ _ (by omega), e2 _ _ (by omega), e3 _ _ (by omega), show mI M1 22 k = mI M1 (21 + 1) k from rfl, a3, if_pos hk]
      exact iQ0 k hk
    · rw [(b6 k (by omega)).1, (b6 k (by omega)).2, e1 _ _ (by omega), e1 _ _ (by omega), e2 23 _ (by omega), e3 23 _ (by omega), e2 24 _ (by omega), e3 24 _ (by omega), show mI M1 23 k = mI M1 (21 + 2) k from rfl, show mI M1 24 k = mI M1 (21 + 3) k from rfl, (a4 k hk).1, (a4 k hk).2]
      exact k4 k hk
theorem undo_m {M : Mem} {is : Nat} {Q : Int32 → Mem → Prop} (hG : Good M) (his : is ≤ 6) (h54 : mI M 76 54 = 1) (h56 : mI M 76 56 = nI is) (hQ : ∀ M1, Sm M M1 → mI M1 76 10 = mI M 76 55 → mI M1 76 1 = mI M 76 57 → (∀ k, k < is → mI M1 81 k = mI M 110 k) → (∀ k, k < 12 → mI M1 82 k = mI M 111 k ∧ mI M1 83 k = mI M 112 k) → (∀ a j, ¬ (a = 76 ∧ (j = 10 ∨ j = 1) ∨ a = 81 ∧ j < is ∨ a = 82 ∨ a = 83) → mI M1 a j = mI M a j) → Q (mI M 76 57) M1) : f_X12_undo 76 M Q := by
  unfold f_X12_undo
  refine ⟨oM hG, ?_⟩
  rw [h54, if_neg (by decide)]
  intro M2 hE2; intro M5 hE5
  have s5 : Sm M M5 := by rw [hE5, hE2]; exact Sm.rf M
  have e5 : ∀ a j, ¬ (a = 76 ∧ (j = 10 ∨ j = 1)) → mI M5 a j = mI M a j := fun a j q => by rw [hE5, mI_ne _ _ (by omega), hE2, mI_ne _ _ (by omega)]
  have q10 : mI M5 76 10 = mI M 76 55 := by rw [hE5, mI_ne _ _ (by omega), hE2, mI_sI_s]
  have q1 : mI M5 76 1 = mI M 76 57 := by rw [hE5, mI_sI_s, hE2, mI_ne _ _ (by omega)]
  clear hE2 hE5
  unfold f_X12_undo_L28
  refine cnt is (by omega) (fun k N => Sm M N ∧ (∀ j, j < k → mI N 81 j = mI M 110 j) ∧ ∀ a j, ¬ (a = 81 ∧ j < k) → mI N a j = mI M5 a j) ⟨s5, fun j hj => absurd hj (Nat.not_lt_zero _), fun _ _ _ => rfl⟩ ?_
  rintro K k N hk ⟨sN, oN, eN⟩ hK
  have hGN := sN.good hG
  show f_X12_undo_B28 76 (nI k) N K Q
  unfold f_X12_undo_B28
  have ek := nI_toInt (n := k) (by omega)
  have ei := nI_toInt (n := is) (by omega)
  have ec : (nI k).toNatClampNeg = k := nI_clamp (by omega)
  refine ⟨oM hGN, ?_⟩
  rw [eN 76 56 (by omega), e5 _ _ (by omega), h56]
  by_cases hk6 : k < is
  · rw [if_neg (by rw [i32_le, ek, ei]; omega)]
    have hv : vp_in (nI k) 6 := vp_of (by omega) (by omega)
    refine ⟨110, mP_g hGN rfl, isA_g hGN (by decide) rfl hv, 81, mP_g hGN rfl, isA_g hGN (by decide) rfl hv, ?_⟩
    intro N2 hE
    refine hK hk6 N2 ⟨by rw [hE]; exact sN, fun j hj => ?_, fun a j q => ?_⟩
    · rw [hE, ec]
      by_cases e : j = k
      · subst e; rw [mI_sI_s, eN _ _ (by omega), e5 _ _ (by omega)]
      · rw [mI_ne _ _ (by omega)]; exact oN j (by omega)
    · rw [hE, mI_ne _ _ (by omega)]; exact eN a j (by omega)
  obtain rfl : k = is := by omega
  rw [if_pos (by rw [i32_le]; omega)]
  clear hK
  unfold f_X12_undo_L56
  refine cnt 12 (by omega) (fun k N' => Sm M N' ∧ (∀ j, j < k → mI N' 82 j = mI M 111 j ∧ mI N' 83 j = mI M 112 j) ∧ ∀ a j, ¬ (a = 82 ∨ a = 83) → mI N' a j = mI N a j) ⟨sN, fun j hj => absurd hj (Nat.not_lt_zero _), fun _ _ _ => rfl⟩ ?_
  rintro K2 i N' hk' ⟨sN', oN', eN'⟩ hK
  have hGN' := sN'.good hG
  show f_X12_undo_B56 76 (nI i) N' K2 Q
  unfold f_X12_undo_B56
  have ek := nI_toInt (n := i) (by omega)
  have ec : (nI i).toNatClampNeg = i := nI_clamp (by omega)
  by_cases hk6 : i < 12
  · rw [if_neg (by rw [i32_le, ek]; simp only [Int32.reduceToInt]; omega)]
    have hv : vp_in (nI i) 12 := vp_of (by omega) (by omega)
    have hv3 : vp_in (nI i) 13 := vp_of (by omega) (by omega)
    refine ⟨oM hGN', 111, mP_g hGN' rfl, isA_g hGN' (by decide) rfl hv, 82, mP_g hGN' rfl, isA_g hGN' (by decide) rfl hv3, ?_⟩
    intro N2 hE
    have s2 : Sm M N2 := by rw [hE]; exact sN'
    have hG2 := s2.good hG
    refine ⟨112, mP_g hG2 rfl, isA_g hG2 (by decide) rfl hv, 83, mP_g hG2 rfl, isA_g hG2 (by decide) rfl hv3, ?_⟩
    intro N3 hE3
    refine hK hk6 N3 ⟨by rw [hE3]; exact s2, fun j hj => ?_, fun a j q => ?_⟩
    · rw [hE3, hE, ec]
      by_cases e : j = i
      · subst e
        rw [mI_ne _ _ (by omega), mI_sI_s, mI_sI_s, mI_ne _ _ (by omega), eN' _ _ (by omega), eN _ _ (by omega), e5 _ _ (by omega), eN' _ _ (by omega), eN _ _ (by omega), e5 _ _ (by omega)]
        exact ⟨rfl, rfl⟩
      · rw [mI_ne _ _ (by omega), mI_ne _ _ (by omega), mI_ne _ _ (by omega), mI_ne _ _ (by omega)]; exact oN' j (by omega)
    · rw [hE3, mI_ne _ _ (by omega), hE, mI_ne _ _ (by omega)]; exact eN' a j q
  obtain rfl : i = 12 := by omega
  rw [if_pos (by decide)]
  refine ⟨oM hGN', ?_⟩
  rw [eN' 76 1 (by omega), eN 76 1 (by omega), q1]
  refine hQ N' sN' ?_ ?_ (fun j hj => ?_) oN' (fun a j q => ?_)
  · rw [eN' _ _ (by omega), eN _ _ (by omega), q10]
  · rw [eN' _ _ (by omega), eN _ _ (by omega), q1]
  · rw [eN' _ _ (by omega)]; exact oN j hj
  · rw [eN' _ _ (by omega), eN _ _ (by omega)]; exact e5 a j (by omega)
theorem J936 {M : Mem} (hI : Inv M) {v3 : Int32} {xs : Nat → Int32} {L : Nat} {K : Mem → Prop} (hK : ∀ M', Inv M' → K M') : f_L_law_J936 0 76 v3 M xs L K := by
  obtain ⟨hG, ns, nt, nw, no, nh, cls, th, oa, kd, vv, iS0, iQ0, iN0, iH0, iZ0, iW0, iD0, iO0, iA0, iI0, iT0⟩ := id hI
  unfold f_L_law_J936 f_X11_undo
  obtain ⟨k1, k2, k3, k4⟩ := id iH0
  refine ⟨oQ hG, oQ hG, ?_⟩
  rcases id iI0 with ⟨z1, z2⟩ | ⟨z1, z2, is, ih, th', q1, q2, q3, q4, q5, q6, q7, q8, q9⟩
  · rw [z1, if_pos rfl]
    refine ⟨oM hG, ?_⟩
    unfold f_X12_undo
    refine ⟨oM hG, ?_⟩
    rw [z2, if_pos rfl]
    exact fin_ rfl (hK _ hI)
  rw [z1, if_neg (by decide), q3, mP_g hG (show pvx 0 12 = some 21 from rfl)]
  have hs6 := iS0.1
  refine ⟨17, mP_g hG rfl, isO_g hG (by decide) rfl, ?_⟩
  refine become_c hG (Or.inl rfl) (Or.inr (Or.inl rfl)) (by omega) (by omega) q2 q5 fun M1 s1 a1 a2 a3 a4 e1 => ?_
  have hG1 := s1.good hG
  refine ⟨oQ hG1, 17, mP_g hG1 rfl, isO_g hG1 (by decide) rfl, oM hG1, ?_⟩
  refine undo_m hG1 (is := is) (by omega) ((e1 _ _ (by omega)).trans z2) ((e1 _ _ (by omega)).trans q4) fun M2 s2 b1 b2 b3 b4 e2 => ?_
  refine fin_ ?_ (hK _ ⟨s2.good hG1, ns, nt, nw, no, ih, cls, th', oa, kd, vv, (iS_fr iS0 (by (intro a j q; unfold cS at q; exact (e2 a j (by omega)).trans (e1 a j (by omega))))), ?_, (iN_fr iN0 (by (intro a j q; unfold cN at q; exact (e2 a j (by omega)).trans (e1 a j (by omega))))), ?_, (iZ_fr iZ0 (by (intro a j q; unfold cZ at q; exact (e2 a j (by omega)).trans (e1 a j (by omega))))), (iW_fr iW0 (by (intro a j q; unfold cW at q; exact (e2 a j (by omega)).trans (e1 a j (by omega))))), ?_, (iO_fr iO0 (s2.1.trans s1.1) (s2.2.1.trans s1.2.1) (fun b j _ => by rw [s2.2.2.1, s1.2.2.1]) (by (intro a j q; unfold cO at q; exact (e2 a j (by omega)).trans (e1 a j (by omega))))), (iA_fr iA0 (fun r hr => (iO0.2.2.2.1 r hr).2.1.1) (by rw [s2.2.2.1, s1.2.2.1]) (by (intro a j q; unfold cA at q; exact (e2 a j (by omega)).trans (e1 a j (by omega))))), (iI_fr iI0 (by (intro a j q; unfold cI at q; exact (e2 a j (by omega)).trans (e1 a j (by omega))))), (iT_fr iT0 (fun b j _ => by rw [s2.2.2.2, s1.2.2.2]) (by (intro a j q; unfold cT at q; exact (e2 a j (by omega)).trans (e1 a j (by omega)))))⟩)
  · rw [a2, e1 _ _ (by omega), q6]
  · intro k hk
    by_cases e : k < is
    · rw [b3 k e, e1 _ _ (by omega), e2 _ _ (by omega), show mI M1 18 k = mI M1 (17 + 1) k from rfl, a3, if_pos e]
      exact q8 k e
    · rw [e2 81 _ (by omega), e1 _ _ (by omega), e2 18 _ (by omega), show mI M1 18 k = mI M1 (17 + 1) k from rfl, a3, if_neg e]
      exact iQ0 k hk
  · refine ⟨q2, (e2 _ _ (by omega)).trans a2, by rw [b2, e1 _ _ (by omega), q6], fun k hk => ?_⟩
    rw [(b4 k (by omega)).1, (b4 k (by omega)).2, e1 _ _ (by omega), e1 _ _ (by omega), e2 19 _ (by omega), e2 20 _ (by omega), show mI M1 19 k = mI M1 (17 + 2) k from rfl, show mI M1 20 k = mI M1 (17 + 3) k from rfl, (a4 k hk).1, (a4 k hk).2]
    exact q9 k hk
  · refine ⟨?_, fun h => ?_, fun h hh => ?_⟩
    · rw [b1, e1 _ _ (by omega), q7.1, e2 _ _ (by omega), a1]
    · rw [e2 _ _ (by omega), a1, q7.2.1 h]
    · rw [e2 _ _ (by omega), a1]; exact q7.2.2 h hh
