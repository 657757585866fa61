/-! ===== feed, image, undo, count ===== -/
def byt (x v : Int32) : Int32 := (x >>> (((8 : Int32) * v) &&& 31)).toInt8.toInt32
theorem byt_c {x : Int32} {j : Nat} (h : j < 4) : vp_nar .byte (((((x).toUInt32 >>> ((((8 : Int32) * nI j)).toUInt32 &&& Int32.toUInt32 31)).toInt32)).toInt8.toInt32) = byt x (nI j) := by
  have hn : ∀ y : Int8, vp_nar .byte (y.toInt32) = y.toInt32 := by
    intro y
    unfold vp_nar narrow
    simp
  rw [hn]
  unfold byt
  congr 1
  have hj : j = 0 ∨ j = 1 ∨ j = 2 ∨ j = 3 := by omega
  rcases hj with rfl | rfl | rfl | rfl
  · rw [show (((8 : Int32) * nI 0).toUInt32 &&& Int32.toUInt32 31) = 0 from by decide, show (((8 : Int32) * nI 0) &&& 31) = 0 from by decide]
    apply Int8.toBitVec_inj.mp
    ext i hi
    have h1 : i < 32 := by omega
    simp
  · rw [show (((8 : Int32) * nI 1).toUInt32 &&& Int32.toUInt32 31) = 8 from by decide, show (((8 : Int32) * nI 1) &&& 31) = 8 from by decide]
    apply Int8.toBitVec_inj.mp
    ext i hi
    have h1 : i < 32 := by omega
    have h2 : 8 + i < 32 := by omega
    simp [BitVec.getElem_signExtend, BitVec.getElem_sshiftRight, h1, h2, BitVec.getLsbD_eq_getElem]
  · rw [show (((8 : Int32) * nI 2).toUInt32 &&& Int32.toUInt32 31) = 16 from by decide, show (((8 : Int32) * nI 2) &&& 31) = 16 from by decide]
    apply Int8.toBitVec_inj.mp
    ext i hi
    have h1 : i < 32 := by omega
    have h2 : 16 + i < 32 := by omega
    simp [BitVec.getElem_signExtend, BitVec.getElem_sshiftRight, h1, h2, BitVec.getLsbD_eq_getElem]
  · rw [show (((8 : Int32) * nI 3).toUInt32 &&& Int32.toUInt32 31) = 24 from by decide, show (((8 : Int32) * nI 3) &&& 31) = 24 from by decide]
    apply Int8.toBitVec_inj.mp
    ext i hi
    have h1 : i < 32 := by omega
    have h2 : 24 + i < 32 := by omega
    simp [BitVec.getElem_signExtend, BitVec.getElem_sshiftRight, h1, h2, BitVec.getLsbD_eq_getElem]
theorem byt_rg (x v : Int32) : rg (byt x v) (-128) 127 := by
  unfold byt rg
  rw [Int8.toInt_toInt32]
  generalize (x >>> (((8 : Int32) * v) &&& 31)).toInt8 = y
  have h1 := Int8.le_toInt y
  have h2 := Int8.toInt_lt y
  omega
theorem nI_of_toInt {x : Int32} {n : Nat} (h : x.toInt = (n : Int)) (hn : n < 2 ^ 31) : x = nI n := Int32.toInt_inj.mp (by rw [h, nI_toInt hn])
theorem feed_c {M : Mem} {nt n : Nat} {x1 : Int32} {Q : Int32 → Mem → Prop} (hG : Good M) (g2 : mI M 0 3 = nI nt) (hn : n ≤ 4) (c : nt + n ≤ 100) (hQ : ∀ M1, Sm M M1 → mI M1 0 3 = nI (nt + n) → (∀ j, j < n → mI M1 8 (nt + j) = byt x1 (nI (n - 1 - j))) → (∀ a j, ¬ (a = 0 ∧ j = 3 ∨ a = 8 ∧ nt ≤ j) → mI M1 a j = mI M a j) → Q (nI (nt + n)) M1) : f_X11_feed 0 x1 (nI n) M Q := by
  unfold f_X11_feed
  have en := nI_toInt (n := n) (by omega)
  refine out_f (by simp only [Int32.reduceToInt]; omega) ?_
  simp only [if_true, if_false, Bool.false_eq_true, reduceIte]
  refine ⟨oQ hG, ?_⟩
  have e3 : (nI (nt + n)).toInt = ((nt + n : Nat) : Int) := nI_toInt (by omega)
  rw [g2, nI_add, if_pos (by rw [i32_le, e3]; simp only [Int32.reduceToInt]; omega)]
  unfold f_X11_feed_L30
  refine ⟨fun z => ∃ i, i ≤ n ∧ z.1.toInt = (n : Int) - i - 1 ∧ Sm M z.2 ∧ mI z.2 0 3 = nI (nt + i) ∧ (∀ j, j < i → mI z.2 8 (nt + j) = byt x1 (nI (n - 1 - j))) ∧ (∀ a j, ¬ (a = 0 ∧ j = 3 ∨ a = 8 ∧ nt ≤ j) → mI z.2 a j = mI M a j), fun z => (z.1.toInt + 1).toNat, ⟨0, Nat.zero_le _, ?_, Sm.rf M, g2, fun j hj => absurd hj (Nat.not_lt_zero _), fun _ _ _ => rfl⟩, ?_⟩
  · show (nI n - 1).toInt = _
    rw [i32_subI] <;> simp only [Int32.reduceToInt] <;> omega
  rintro ⟨v, M1⟩ ⟨i, hi, hv, s1, e1, hj, e2⟩
  have hG1 := s1.good hG
  replace hv : v.toInt = (n : Int) - i - 1 := hv
  replace e1 : mI M1 0 3 = nI (nt + i) := e1
  replace hj : ∀ j, j < i → mI M1 8 (nt + j) = byt x1 (nI (n - 1 - j)) := hj
  replace e2 : ∀ a j, ¬ (a = 0 ∧ j = 3 ∨ a = 8 ∧ nt ≤ j) → mI M1 a j = mI M a j := e2
  show f_X11_feed_B30 0 x1 (nI n) v M1 _ Q
  unfold f_X11_feed_B30
  by_cases hin : i = n
  · subst hin
    rw [if_pos (by rw [i32_lt]; simp only [Int32.reduceToInt]; omega)]
    refine ⟨oQ hG1, ?_⟩
    rw [e1]
    exact hQ M1 s1 e1 hj e2
  · rw [if_neg (by rw [i32_lt]; simp only [Int32.reduceToInt]; omega)]
    obtain rfl : v = nI (n - 1 - i) := nI_of_toInt (by omega) (by omega)
    have ec : (nI (nt + i)).toNatClampNeg = nt + i := nI_clamp (by omega)
    have ei := nI_toInt (n := nt + i) (by omega)
    refine ⟨oQ hG1, 8, mP_g hG1 rfl, ?_⟩
    rw [e1, ec]
    refine ⟨isA_g hG1 (by decide) rfl (vp_of (by omega) (by omega)), ?_⟩
    intro M2 hE; intro M3 hE2
    refine ⟨⟨i + 1, by omega, ?_, ?_, ?_, ?_, ?_⟩, ?_⟩
    · show (nI (n - 1 - i) + -1).toInt = _
      rw [i32_addI] <;> simp only [Int32.reduceToInt] <;> omega
    · show Sm M M3
      rw [hE2, hE]; exact s1
    · show mI M3 0 3 = _
      rw [hE2, mI_sI_s, hE, mI_ne _ _ (by omega), e1, nI_1]; rfl
    · intro j hji
      show mI M3 8 (nt + j) = _
      rw [hE2, mI_ne _ _ (by omega), hE]
      by_cases hh : j = i
      · subst hh
        rw [mI_sI_s]
        exact byt_c (by omega)
      · rw [mI_ne _ _ (by omega)]; exact hj j (by omega)
    · intro a j q
      show mI M3 a j = _
      rw [hE2, mI_ne _ _ (by omega), hE, mI_ne _ _ (by omega)]
      exact e2 a j q
    · show ((nI (n - 1 - i) + -1).toInt + 1).toNat < ((nI (n - 1 - i)).toInt + 1).toNat
      rw [i32_addI] <;> simp only [Int32.reduceToInt] <;> omega
theorem feed_m {M : Mem} {nt n : Nat} {x1 : Int32} {Q : Int32 → Mem → Prop} (hG : Good M) (g2 : mI M 76 11 = nI nt) (hn : n ≤ 4) (c : nt + n ≤ 100) (hQ : ∀ M1, Sm M M1 → mI M1 76 11 = nI (nt + n) → (∀ j, j < n → mI M1 84 (nt + j) = byt x1 (nI (n - 1 - j))) → (∀ a j, ¬ (a = 76 ∧ j = 11 ∨ a = 84 ∧ nt ≤ j) → mI M1 a j = mI M a j) → Q (nI (nt + n)) M1) : f_X12_feed 76 x1 (nI n) M Q := by
  unfold f_X12_feed
  have en := nI_toInt (n := n) (by omega)
  refine ⟨oM hG, in_t (by simp only [Int32.reduceToInt]; omega) ?_⟩
  simp only [if_true, if_false, Bool.false_eq_true, reduceIte]
  refine ⟨oM hG, ?_⟩
  have e3 : (nI (nt + n)).toInt = ((nt + n : Nat) : Int) := nI_toInt (by omega)
  rw [g2, nI_add, if_pos (by rw [i32_le, e3]; simp only [Int32.reduceToInt]; omega)]
  unfold f_X12_feed_L31
  refine ⟨fun z => ∃ i, i ≤ n ∧ z.1.toInt = (n : Int) - i - 1 ∧ Sm M z.2 ∧ mI z.2 76 11 = nI (nt + i) ∧ (∀ j, j < i → mI z.2 84 (nt + j) = byt x1 (nI (n - 1 - j))) ∧ (∀ a j, ¬ (a = 76 ∧ j = 11 ∨ a = 84 ∧ nt ≤ j) → mI z.2 a j = mI M a j), fun z => (z.1.toInt + 1).toNat, ⟨0, Nat.zero_le _, ?_, Sm.rf M, g2, fun j hj => absurd hj (Nat.not_lt_zero _), fun _ _ _ => rfl⟩, ?_⟩
  · show (nI n - 1).toInt = _
    rw [i32_subI] <;> simp only [Int32.reduceToInt] <;> omega
  rintro ⟨v, M1⟩ ⟨i, hi, hv, s1, e1, hj, e2⟩
  have hG1 := s1.good hG
  replace hv : v.toInt = (n : Int) - i - 1 := hv
  replace e1 : mI M1 76 11 = nI (nt + i) := e1
  replace hj : ∀ j, j < i → mI M1 84 (nt + j) = byt x1 (nI (n - 1 - j)) := hj
  replace e2 : ∀ a j, ¬ (a = 76 ∧ j = 11 ∨ a = 84 ∧ nt ≤ j) → mI M1 a j = mI M a j := e2
  show f_X12_feed_B31 76 x1 (nI n) v M1 _ Q
  unfold f_X12_feed_B31
  by_cases hin : i = n
  · subst hin
    rw [if_pos (by rw [i32_lt]; simp only [Int32.reduceToInt]; omega)]
    refine ⟨oM hG1, ?_⟩
    rw [e1]
    exact hQ M1 s1 e1 hj e2
  · rw [if_neg (by rw [i32_lt]; simp only [Int32.reduceToInt]; omega)]
    obtain rfl : v = nI (n - 1 - i) := nI_of_toInt (by omega) (by omega)
    have ec : (nI (nt + i)).toNatClampNeg = nt + i := nI_clamp (by omega)
    have ei := nI_toInt (n := nt + i) (by omega)
    refine ⟨oM hG1, 84, mP_g hG1 rfl, ?_⟩
    rw [e1, ec]
    refine ⟨isA_g hG1 (by decide) rfl (vp_of (by omega) (by omega)), ?_⟩
    intro M2 hE; intro M3 hE2
    refine ⟨⟨i + 1, by omega, ?_, ?_, ?_, ?_, ?_⟩, ?_⟩
    · show (nI (n - 1 - i) + -1).toInt = _
      rw [i32_addI] <;> simp only [Int32.reduceToInt] <;> omega
    · show Sm M M3
      rw [hE2, hE]; exact s1
    · show mI M3 76 11 = _
      rw [hE2, mI_sI_s, hE, mI_ne _ _ (by omega), e1, nI_1]; rfl
    · intro j hji
      show mI M3 84 (nt + j) = _
      rw [hE2, mI_ne _ _ (by omega), hE]
      by_cases hh : j = i
      · subst hh
        rw [mI_sI_s]
        rfl
      · rw [mI_ne _ _ (by omega)]; exact hj j (by omega)
    · intro a j q
      show mI M3 a j = _
      rw [hE2, mI_ne _ _ (by omega), hE, mI_ne _ _ (by omega)]
      exact e2 a j q
    · show ((nI (n - 1 - i) + -1).toInt + 1).toNat < ((nI (n - 1 - i)).toInt + 1).toNat
      rw [i32_addI] <;> simp only [Int32.reduceToInt] <;> omega
theorem J295 {M : Mem} (hI : Inv M) {v3 : Int32} {xs : Nat → Int32} {L : Nat} {K : Mem → Prop} (h1 : vp_in (v3 + 1) L) (h2 : vp_in (v3 + 2) L) (hK : ∀ M', Inv M' → K M') : f_L_law_J295 0 76 v3 M xs L K := by
  obtain ⟨hG, ns, nt, nw, no, nh, cls, th, oa, kd, vv, iS0, iQ0, iN0, iH0, iZ0, iW0, iD0, iO0, iA0, iI0, iT0⟩ := id hI
  unfold f_L_law_J295
  generalize xs (v3 + 1).toNatClampNeg = x1
  generalize xs (v3 + 2).toNatClampNeg = x2
  refine ⟨h1, h2, oQ hG, ?_⟩
  obtain ⟨g1, g2, g3, g4⟩ := id iN0
  by_cases c1 : 0 ≤ x2.toInt ∧ x2.toInt ≤ 4
  case neg =>
    have c2 : x2.toInt < 0 ∨ 4 < x2.toInt := by omega
    unfold f_X11_feed f_X12_feed
    refine out_t c2 ?_
    simp only [if_true, if_false, Bool.false_eq_true, reduceIte]
    refine ⟨h1, h2, oM hG, oM hG, in_f c2 ?_⟩
    simp only [if_true, if_false, Bool.false_eq_true, reduceIte]
    exact hK _ hI
  obtain ⟨n, -, rfl, f1, f2⟩ := nI_ex c1.1
  by_cases c : nt + n ≤ 100
  case neg =>
    have e3 : (nI (nt + n)).toInt = ((nt + n : Nat) : Int) := nI_toInt (by omega)
    unfold f_X11_feed f_X12_feed
    refine out_f c1 ?_
    simp only [if_true, if_false, Bool.false_eq_true, reduceIte]
    refine ⟨oQ hG, ?_⟩
    rw [g2, nI_add, if_neg (by rw [i32_le, e3]; simp only [Int32.reduceToInt]; omega)]
    refine ⟨h1, h2, oM hG, oM hG, in_t c1 ?_⟩
    simp only [if_true, if_false, Bool.false_eq_true, reduceIte]
    refine ⟨oM hG, ?_⟩
    rw [g3, nI_add, if_neg (by rw [i32_le, e3]; simp only [Int32.reduceToInt]; omega)]
    exact hK _ hI
  refine feed_c hG g2 (by omega) c fun M1 s1 a1 a2 e1 => ?_
  have hG1 := s1.good hG
  refine ⟨h1, h2, oM hG1, feed_m hG1 ((e1 _ _ (by omega)).trans g3) (by omega) c fun M2 s2 b1 b2 e2 => ?_⟩
  rw [if_pos rfl]
  refine hK _ ⟨s2.good hG1, ns, nt + n, nw, no, nh, cls, th, oa, kd, vv, (iS_fr iS0 (by (intro a j q; unfold cS at q; exact (e2 a j (by omega)).trans (e1 a j (by omega))))), (iQ_fr iQ0 (by (intro a j q; unfold cQ at q; exact (e2 a j (by omega)).trans (e1 a j (by omega))))), ?_, (iH_fr iH0 (by (intro a j q; unfold cH at q; exact (e2 a j (by omega)).trans (e1 a j (by omega))))), (iZ_fr iZ0 (by (intro a j q; unfold cZ at q; exact (e2 a j (by omega)).trans (e1 a j (by omega))))), (iW_fr iW0 (by (intro a j q; unfold cW at q; exact (e2 a j (by omega)).trans (e1 a j (by omega))))), (iD_fr iD0 (by (intro a j q; unfold cD at q; exact (e2 a j (by omega)).trans (e1 a j (by omega))))), (iO_fr iO0 (s2.1.trans s1.1) (s2.2.1.trans s1.2.1) (fun b j _ => by rw [s2.2.2.1, s1.2.2.1]) (by (intro a j q; unfold cO at q; exact (e2 a j (by omega)).trans (e1 a j (by omega))))), (iA_fr iA0 (fun r hr => (iO0.2.2.2.1 r hr).2.1.1) (by rw [s2.2.2.1, s1.2.2.1]) (by (intro a j q; unfold cA at q; exact (e2 a j (by omega)).trans (e1 a j (by omega))))), (iI_fr iI0 (by (intro a j q; unfold cI at q; exact (e2 a j (by omega)).trans (e1 a j (by omega))))), (iT_fr iT0 (fun b j _ => by rw [s2.2.2.2, s1.2.2.2]) (by (intro a j q; unfold cT at q; exact (e2 a j (by omega)).trans (e1 a j (by omega)))))⟩
  refine ⟨c, (e2 _ _ (by omega)).trans a1, b1, fun k hk => ?_⟩
  by_cases e : k < nt
  · rw [(e2 84 k (by omega)).trans (e1 84 k (by omega)), (e2 8 k (by omega)).trans (e1 8 k (by omega))]
    exact g4 k e
  · obtain ⟨j, rfl⟩ : ∃ j, k = nt + j := ⟨k - nt, by omega⟩
    rw [b2 j (by omega), e2 8 _ (by omega), a2 j (by omega)]
    exact ⟨rfl, byt_rg _ _⟩
theorem fin_ {a b : Int32} {P : Prop} (h : a = b) (p : P) : if a = b then P else False := by rw [if_pos h]; exact p
theorem J1048 {M : Mem} (hI : Inv M) {v3 : Int32} {xs : Nat → Int32} {L : Nat} {K : Mem → Prop} (h1 : vp_in (v3 + 1) L) (hK : ∀ M', Inv M' → K M') : f_L_law_J1048 0 76 v3 M xs L K := by
  obtain ⟨hG, ns, nt, nw, no, nh, cls, th, oa, kd, vv, iS0, iQ0, iN0, iH0, iZ0, iW0, iD0, iO0, iA0, iI0, iT0⟩ := id hI
  unfold f_L_law_J1048
  generalize xs (v3 + 1).toNatClampNeg = x1
  refine ⟨h1, oQ hG, ?_⟩
  unfold f_X11_count f_X12_count
  have done : (if (-2 : Int32) = -2 then K M else False) := by rw [if_pos rfl]; exact hK _ hI
  by_cases e0 : x1 = 0
  · rw [if_pos e0]
    refine ⟨oQ hG, h1, oM hG, ?_⟩
    rw [if_pos e0]
    refine ⟨oM hG, ?_⟩
    exact fin_ (by rw [iS0.2.1, iS0.2.2.1]) (hK _ hI)
  rw [if_neg e0]
  by_cases e1 : x1 = 1
  · rw [if_pos e1]
    refine ⟨oQ hG, h1, oM hG, ?_⟩
    rw [if_neg e0, if_pos e1]
    refine ⟨oM hG, ?_⟩
    exact fin_ (by rw [iW0.2.1, iW0.2.2.1]) (hK _ hI)
  rw [if_neg e1]
  by_cases e2 : x1 = 2
  · rw [if_pos e2]
    refine ⟨oQ hG, h1, oM hG, ?_⟩
    rw [if_neg e0, if_neg e1, if_pos e2]
    refine ⟨oM hG, ?_⟩
    exact fin_ (by rw [iO0.2.1, iO0.2.2.1]) (hK _ hI)
  rw [if_neg e2]
  by_cases e3 : x1 = 3
  · rw [if_pos e3]
    refine ⟨oQ hG, 17, mP_g hG rfl, isO_g hG (by decide) rfl, h1, oM hG, ?_⟩
    rw [if_neg e0, if_neg e1, if_neg e2, if_pos e3]
    refine ⟨oM hG, ?_⟩
    exact fin_ (by rw [iH0.2.1, iH0.2.2.1]) (hK _ hI)
  rw [if_neg e3]
  by_cases e4 : x1 = 4
  · rw [if_pos e4]
    refine ⟨oQ hG, h1, oM hG, ?_⟩
    rw [if_neg e0, if_neg e1, if_neg e2, if_neg e3, if_pos e4]
    refine ⟨oM hG, ?_⟩
    exact fin_ (by rw [iN0.2.1, iN0.2.2.1]) (hK _ hI)
  rw [if_neg e4]
  by_cases e5 : x1 = 5
  · rw [if_pos e5]
    refine ⟨oQ hG, fun hn => ⟨h1, oM hG, ?_⟩, fun b hb => ⟨?_, h1, oM hG, ?_⟩⟩
    · rw [if_neg e0, if_neg e1, if_neg e2, if_neg e3, if_neg e4, if_pos e5]
      refine ⟨oM hG, ?_⟩
      rcases iA0 with h | ⟨r, n, q1, q2, q3, q4, q5, q6⟩
      · exact fin_ h.2.symm (hK _ hI)
      · rw [hn] at q3; cases q3
    · rcases iA0 with h | ⟨r, n, q1, q2, q3, q4, q5, q6⟩
      · rw [hb] at h; cases h.1
      · rw [hb] at q3; cases q3
        have q := (iO0.2.2.2.1 r q1)
        refine ⟨kc (kd r), ?_, q.2.2.1.1⟩
        have hk := q.1.1
        generalize kd r = k at hk
        have hk2 : k = 0 ∨ k = 1 ∨ k = 2 ∨ k = 3 ∨ k = 4 ∨ k = 5 ∨ k = 6 := by omega
        rcases hk2 with rfl | rfl | rfl | rfl | rfl | rfl | rfl <;> decide
    · rw [if_neg e0, if_neg e1, if_neg e2, if_neg e3, if_neg e4, if_pos e5]
      refine ⟨oM hG, ?_⟩
      rcases iA0 with h | ⟨r, n, q1, q2, q3, q4, q5, q6⟩
      · rw [hb] at h; cases h.1
      · rw [hb] at q3; cases q3
        exact fin_ (by rw [q4, q5]) (hK _ hI)
  · rw [if_neg e5]
    refine ⟨h1, oM hG, ?_⟩
    rw [if_neg e0, if_neg e1, if_neg e2, if_neg e3, if_neg e4, if_neg e5]
    exact done
/-- a day becomes another one -/
theorem mI_sIr_ne (M : Mem) {a b j : Nat} (f : Nat → Int32) (h : ¬ b = a) : mI (sIr M a f) b j = mI M b j := congrFun (mI_sIr_o M f h) j
theorem mI_sIr_j (M : Mem) (a j : Nat) (f : Nat → Int32) : mI (sIr M a f) a j = f j := congrFun (mI_sIr_s M a f) j
theorem Sm.row {M M1 : Mem} (h : Sm M M1) (a : Nat) (f : Nat → Int32) : Sm M (sIr M1 a f) := h
theorem acOk_g {M : Mem} (hG : Good M) {a b n q : Nat} (ha : a < 118) (hb : b < 118) (h1 : shp a = .inr (0, n)) (h2 : shp b = .inr (0, n)) (hq : q ≤ n) (hn : n < 2 ^ 31) : acOk M a b 0 0 0 (nI q) := by
  refine ⟨n, n, (hG.2.1 a ha).trans h1, (hG.2.1 b hb).trans h2, by decide, by decide, ?_, ?_, ?_⟩
  · rw [i32_lt, nI_toInt (by omega)]; simp only [Int32.reduceToInt]; omega
  · rw [nI_clamp (by omega)]; simp only [Int32.reduceToNatClampNeg]; omega
  · rw [nI_clamp (by omega)]; simp only [Int32.reduceToNatClampNeg]; omega
theorem cpy0 {f g : Nat → Int32} {n k : Nat} (hn : n < 2 ^ 31) : va_cpy f g (0 : Int32).toNatClampNeg (0 : Int32).toNatClampNeg (nI n).toNatClampNeg k = if k < n then f k else g k := by
  unfold va_cpy
  rw [nI_clamp hn]
  simp only [Int32.reduceToNatClampNeg]
  by_cases h : k < n
  · rw [if_pos ⟨Nat.zero_le _, by omega⟩, if_pos h]; congr 1; omega
  · rw [if_neg (by omega), if_neg h]
def isDay (a : Nat) : Prop := a = 17 ∨ a = 21 ∨ a = 25
theorem day_o {M : Mem} (hG : Good M) {a : Nat} (h : isDay a) : isO M a [0] := by rcases h with rfl | rfl | rfl <;> exact isO_g hG (by decide) rfl
theorem day_p {M : Mem} (hG : Good M) {a : Nat} (h : isDay a) : mP M a 1 = some (a + 1) ∧ mP M a 2 = some (a + 2) ∧ mP M a 3 = some (a + 3) := by rcases h with rfl | rfl | rfl <;> exact ⟨mP_g hG rfl, mP_g hG rfl, mP_g hG rfl⟩
theorem day_s {a : Nat} (h : isDay a) : a + 3 < 118 ∧ shp (a + 1) = .inr (0, 6) ∧ shp (a + 2) = .inr (0, 12) ∧ shp (a + 3) = .inr (0, 12) := by rcases h with rfl | rfl | rfl <;> exact ⟨by decide, rfl, rfl, rfl⟩
theorem become_c {M : Mem} {a b ns nh : Nat} {Q : Mem → Prop} (hG : Good M) (ha : isDay a) (hb : isDay b) (hab : a ≠ b) (hs : ns ≤ 6) (hh : nh ≤ 12) (h4 : mI M b 4 = nI nh) (hQ : ∀ M1, Sm M M1 → mI M1 a 0 = mI M b 0 → mI M1 a 4 = nI nh → (∀ k, mI M1 (a + 1) k = if k < ns then mI M (b + 1) k else mI M (a + 1) k) → (∀ k, k < nh → mI M1 (a + 2) k = mI M (b + 2) k ∧ mI M1 (a + 3) k = mI M (b + 3) k) → (∀ x j, ¬ (x = a ∧ (j = 0 ∨ j = 4) ∨ a < x ∧ x ≤ a + 3) → mI M1 x j = mI M x j) → Q M1) : f_X0_become a (some b) (nI ns) M Q := by
  unfold f_X0_become
  obtain ⟨p1, p2, p3⟩ := day_p hG ha
  obtain ⟨r1, r2, r3⟩ := day_p hG hb
  obtain ⟨a0, a1, a2, a3⟩ := day_s ha
  obtain ⟨b0, b1, b2, b3⟩ := day_s hb
  have hd : a + 4 ≤ b ∨ b + 4 ≤ a := by unfold isDay at ha hb; omega
  refine ⟨b, rfl, day_o hG hb, day_o hG ha, ?_⟩
  intro M2 hE2; intro M3 hE3
  have s3 : Sm M M3 := by rw [hE3, hE2]; exact Sm.rf M
  have e3 : ∀ x j, ¬ (x = a ∧ (j = 0 ∨ j = 4)) → mI M3 x j = mI M x j := fun x j q => by rw [hE3, mI_ne _ _ (by omega), hE2, mI_ne _ _ (by omega)]
  have z3 : mI M3 a 0 = mI M b 0 := by rw [hE3, mI_ne _ _ (by omega), hE2, mI_sI_s]
  have f3 : mI M3 a 4 = nI nh := by rw [hE3, mI_sI_s, hE2, mI_ne _ _ (by omega), h4]
  have hG3 := s3.good hG
  refine ⟨a + 1, by rw [s3.2.2.1]; exact p1, b + 1, by rw [s3.2.2.1]; exact r1, acOk_g hG3 (by omega) (by omega) b1 a1 hs (by omega), ?_⟩
  intro M4 hE4
  have s4 : Sm M M4 := by rw [hE4]; exact s3.row _ _
  have e4 : ∀ x j, ¬ x = a + 1 → mI M4 x j = mI M3 x j := fun x j q => by rw [hE4, mI_sIr_ne _ _ q]
  have o4 : ∀ k, mI M4 (a + 1) k = if k < ns then mI M (b + 1) k else mI M (a + 1) k := fun k => by
    rw [hE4, mI_sIr_j, cpy0 (by omega), e3 _ _ (by omega), e3 _ _ (by omega)]
  have hG4 := s4.good hG
  refine ⟨a + 2, by rw [s4.2.2.1]; exact p2, b + 2, by rw [s4.2.2.1]; exact r2, ?_⟩
  rw [e4 a 4 (by omega), f3]
  refine ⟨acOk_g hG4 (by omega) (by omega) b2 a2 hh (by omega), ?_⟩
  intro M5 hE5
  have s5 : Sm M M5 := by rw [hE5]; exact s4.row _ _
  have e5 : ∀ x j, ¬ x = a + 2 → mI M5 x j = mI M4 x j := fun x j q => by rw [hE5, mI_sIr_ne _ _ q]
  have o5 : ∀ k, k < nh → mI M5 (a + 2) k = mI M (b + 2) k := fun k hk => by
    rw [hE5, mI_sIr_j, cpy0 (by omega), if_pos hk, e4 _ _ (by omega), e3 _ _ (by omega)]
  have hG5 := s5.good hG
  refine ⟨a + 3, by rw [s5.2.2.1]; exact p3, b + 3, by rw [s5.2.2.1]; exact r3, ?_⟩
  rw [e5 a 4 (by omega), e4 a 4 (by omega), f3]
  refine ⟨acOk_g hG5 (by omega) (by omega) b3 a3 hh (by omega), ?_⟩
  intro M6 hE6
  have s6 : Sm M M6 := by rw [hE6]; exact s5.row _ _
  have e6 : ∀ x j, ¬ x = a + 3 → mI M6 x j = mI M5 x j := fun x j q => by rw [hE6, mI_sIr_ne _ _ q]
  have o6 : ∀ k, k < nh → mI M6 (a + 3) k = mI M (b + 3) k := fun k hk => by
    rw [hE6, mI_sIr_j, cpy0 (by omega), if_pos hk, e5 _ _ (by omega), e4 _ _ (by omega), e3 _ _ (by omega)]
  refine hQ M6 s6 ?_ ?_ (fun k => ?_) (fun k hk => ⟨?_, o6 k hk⟩) (fun x j q => ?_)
  · rw [e6 _ _ (by omega), e5 _ _ (by omega), e4 _ _ (by omega), z3]
  · rw [e6 _ _ (by omega), e5 _ _ (by omega), e4 _ _ (by omega), f3]
  · rw [e6 _ _ (by omega), e5 _ _ (by omega), o4]
  · rw [e6 _ _ (by omega), o5 k hk]
  · rw [e6 _ _ (by omega), e5 _ _ (by omega), e4 _ _ (by omega), e3 _ _ (by omega)]
