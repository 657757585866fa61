/-! ===== acts of the model; act, trace, taken ===== -/
def bM (M0 : Mem) (b : List Int32) (M : Mem) : Prop := Sm M0 M ∧ mI M 76 61 = nI b.length ∧ (∀ j x, b[j]? = some x → mI M 113 j = x) ∧ ∀ c j, ¬ (c = 76 ∧ j = 61 ∨ c = 113) → mI M c j = mI M0 c j
def oM2 (M0 : Mem) (k r v : Nat) : Prop := Good M0 ∧ k ≤ 6 ∧ r < 10 ∧ mI M0 94 r = nI k ∧ mI M0 95 r = nI v
theorem body_m {M0 M : Mem} {b : List Int32} {x : Int32} {Q : Mem → Prop} (hG : Good M0) (h : bM M0 b M) (hl : b.length < 20) (q : ∀ M1, bM M0 (b ++ [x]) M1 → Q M1) : f_X12_body 76 x M Q := by
  obtain ⟨s, e1, e2, e3⟩ := h
  have hG1 := s.good hG
  have ec := nI_toInt (n := b.length) (by omega)
  unfold f_X12_body f_X12_body_J19
  refine ⟨oM hG1, ?_⟩
  rw [e1, if_neg (by rw [i32_le]; simp only [Int32.reduceToInt]; omega)]
  refine ⟨113, mP_g hG1 rfl, isA_g hG1 (by decide) rfl (vp_of (by omega) (by omega)), ?_⟩
  intro M2 hE2
  rw [nI_clamp (by omega)] at hE2
  refine ⟨oM (by rw [hE2]; exact hG1), ?_⟩
  intro M3 hE3
  refine q M3 ⟨by rw [hE3, hE2]; exact s, ?_, fun j y hj => ?_, fun c j z => ?_⟩
  · rw [hE3, mI_sI_s, hE2, mI_ne _ _ (by omega), e1, nI_1, List.length_append]; rfl
  · rw [hE3, mI_ne _ _ (by omega), hE2]
    by_cases e : j = b.length
    · subst e
      rw [mI_sI_s]
      rw [List.getElem?_append_right (Nat.le_refl _), Nat.sub_self] at hj
      injection hj
    · have hjl := (List.getElem?_eq_some_iff.mp hj).1
      rw [List.length_append] at hjl
      have hjl2 : j < b.length + 1 := hjl
      rw [mI_ne _ _ (by omega)]
      rw [List.getElem?_append_left (by omega)] at hj
      exact e2 j y hj
  · rw [hE3, mI_ne _ _ (by omega), hE2, mI_ne _ _ (by omega)]; exact e3 c j z
theorem bM_g {M0 M : Mem} {b : List Int32} (hG : Good M0) (h : bM M0 b M) : Good M := h.1.good hG
theorem bM_k {M0 M : Mem} {b : List Int32} {k r v : Nat} (ho : oM2 M0 k r v) (h : bM M0 b M) : mI M 94 r = nI k := by rw [h.2.2.2 94 r (by omega)]; exact ho.2.2.2.1
theorem bM_v {M0 M : Mem} {b : List Int32} {k r v : Nat} (ho : oM2 M0 k r v) (h : bM M0 b M) : mI M 95 r = nI v := by rw [h.2.2.2 95 r (by omega)]; exact ho.2.2.2.2
theorem vp_r {r : Nat} (h : r < 10) : vp_in (nI r) 11 := vp_of (by rw [nI_toInt (by omega)]; omega) (by rw [nI_toInt (by omega)]; omega)
theorem pj_m {M0 M : Mem} {b : List Int32} {r : Nat} {x : Int32} {Q : Int32 → Mem → Prop} (hG : Good M0) (h : bM M0 b M) (hl : b.length < 20) (q : ∀ M1, bM M0 (b ++ [10]) M1 → Q (x + nI r) M1) : f_X12_plainJoins 76 (nI r) x M Q := by
  unfold f_X12_plainJoins
  exact ⟨oM (bM_g hG h), body_m hG h hl q⟩
theorem joins_m {M0 M : Mem} {k r v : Nat} {b : List Int32} {x : Int32} {Q : Int32 → Mem → Prop} (ho : oM2 M0 k r v) (h : bM M0 b M) (hl : b.length < 19) (q : ∀ M1, bM M0 (b ++ (aJ k r v x).1) M1 → Q (aJ k r v x).2 M1) : f_X12_joinsAct 76 (nI r) x M Q := by
  have hG := bM_g ho.1 h
  have l2 : ∀ y : Int32, (b ++ [y]).length < 20 := fun y => by rw [List.length_append]; show b.length + 1 < 20; omega
  have hr := ho.2.2.1
  have ek := bM_k ho h
  unfold f_X12_joinsAct
  refine ⟨oM hG, 94, mP_g hG rfl, isA_g hG (by decide) rfl (vp_r hr), ?_⟩
  rw [nI_clamp (by omega), ek]
  rcases seven ho.2.1 with rfl | rfl | rfl | rfl | rfl | rfl | rfl
  · rw [if_neg (by decide), if_neg (by decide), if_neg (by decide), if_neg (by decide), if_neg (by decide)]
    exact pj_m ho.1 h (by omega) q
  · rw [if_neg (by decide), if_neg (by decide), if_neg (by decide), if_neg (by decide), if_neg (by decide)]
    exact pj_m ho.1 h (by omega) q
  · rw [if_pos (by decide)]
    refine body_m ho.1 h (by omega) fun M1 h1 => ⟨oM (bM_g ho.1 h1), pj_m ho.1 h1 (l2 _) fun M2 h2 => ?_⟩
    rw [List.append_assoc] at h2
    exact q M2 h2
  · rw [if_neg (by decide), if_pos (by decide)]
    refine body_m ho.1 h (by omega) fun M1 h1 => ⟨oM (bM_g ho.1 h1), pj_m ho.1 h1 (l2 _) fun M2 h2 => ?_⟩
    rw [List.append_assoc] at h2
    exact q M2 h2
  · rw [if_neg (by decide), if_neg (by decide), if_pos (by decide)]
    refine body_m ho.1 h (by omega) fun M1 h1 => ⟨oM (bM_g ho.1 h1), pj_m ho.1 h1 (l2 _) fun M2 h2 => ?_⟩
    rw [List.append_assoc] at h2
    exact q M2 h2
  · rw [if_neg (by decide), if_neg (by decide), if_neg (by decide), if_pos (by decide)]
    exact pj_m ho.1 h (by omega) q
  · rw [if_neg (by decide), if_neg (by decide), if_neg (by decide), if_neg (by decide), if_pos (by decide)]
    refine body_m ho.1 h (by omega) fun M1 h1 => ⟨oM (bM_g ho.1 h1), pj_m ho.1 h1 (l2 _) fun M2 h2 => ?_⟩
    have hG2 := bM_g ho.1 h2
    refine ⟨oM hG2, 95, mP_g hG2 rfl, isA_g hG2 (by decide) rfl (vp_r hr), ?_⟩
    rw [bM_v ho h2]
    rw [List.append_assoc] at h2
    exact q M2 h2
theorem pt_m {M0 M : Mem} {k r v : Nat} {b : List Int32} {x : Int32} {Q : Int32 → Mem → Prop} (ho : oM2 M0 k r v) (h : bM M0 b M) (hl : b.length < 18) (q : ∀ M1, bM M0 (b ++ (aPT k r v x).1) M1 → Q (aPT k r v x).2 M1) : f_X12_plainTakes 76 (nI r) x M Q := by
  have hr := ho.2.2.1
  unfold f_X12_plainTakes
  refine ⟨oM (bM_g ho.1 h), body_m ho.1 h (by omega) fun M1 h1 => ⟨oM (bM_g ho.1 h1), joins_m ho h1 (by rw [List.length_append]; show b.length + 1 < 19; omega) fun M2 h2 => ?_⟩⟩
  have hG2 := bM_g ho.1 h2
  refine ⟨oM hG2, 95, mP_g hG2 rfl, isA_g hG2 (by decide) rfl (vp_r hr), ?_⟩
  rw [nI_clamp (by omega), bM_v ho h2]
  rw [List.append_assoc] at h2
  exact q M2 h2
theorem ft_m {M0 M : Mem} {k r v : Nat} {b : List Int32} {x : Int32} {Q : Int32 → Mem → Prop} (ho : oM2 M0 k r v) (h : bM M0 b M) (hl : b.length < 17) (q : ∀ M1, bM M0 (b ++ (aFT k r v x).1) M1 → Q (aFT k r v x).2 M1) : f_X12_firstTakes 76 (nI r) x M Q := by
  unfold f_X12_firstTakes
  refine ⟨oM (bM_g ho.1 h), body_m ho.1 h (by omega) fun M1 h1 => ⟨oM (bM_g ho.1 h1), pt_m ho h1 (by rw [List.length_append]; show b.length + 1 < 18; omega) fun M2 h2 => ?_⟩⟩
  rw [List.append_assoc] at h2
  exact q M2 h2
theorem takes_m {M0 M : Mem} {k r v : Nat} {b : List Int32} {x : Int32} {Q : Int32 → Mem → Prop} (ho : oM2 M0 k r v) (h : bM M0 b M) (hl : b.length < 15) (q : ∀ M1, bM M0 (b ++ (aT k r v x).1) M1 → Q (aT k r v x).2 M1) : f_X12_takesAct 76 (nI r) x M Q := by
  have hG := bM_g ho.1 h
  have l2 : ∀ y : Int32, (b ++ [y]).length < 16 := fun y => by rw [List.length_append]; show b.length + 1 < 16; omega
  have hr := ho.2.2.1
  have ek := bM_k ho h
  unfold f_X12_takesAct
  refine ⟨oM hG, 94, mP_g hG rfl, isA_g hG (by decide) rfl (vp_r hr), ?_⟩
  rw [nI_clamp (by omega), ek]
  rcases seven ho.2.1 with rfl | rfl | rfl | rfl | rfl | rfl | rfl
  · rw [if_neg (by decide), if_neg (by decide), if_neg (by decide)]
    exact pt_m ho h (by omega) q
  · rw [if_pos (by decide)]
    exact ft_m ho h (by omega) q
  · rw [if_neg (by decide), if_neg (by decide), if_neg (by decide)]
    exact pt_m ho h (by omega) q
  · rw [if_neg (by decide), if_pos (by decide)]
    refine body_m ho.1 h (by omega) fun M1 h1 => ⟨oM (bM_g ho.1 h1), ft_m ho h1 (by have := l2 51; omega) fun M2 h2 => ?_⟩
    rw [List.append_assoc] at h2
    exact q M2 h2
  · rw [if_neg (by decide), if_neg (by decide), if_neg (by decide)]
    exact pt_m ho h (by omega) q
  · rw [if_neg (by decide), if_neg (by decide), if_neg (by decide)]
    exact pt_m ho h (by omega) q
  · rw [if_neg (by decide), if_neg (by decide), if_pos (by decide)]
    refine body_m ho.1 h (by omega) fun M1 h1 => ⟨oM (bM_g ho.1 h1), ft_m ho h1 (by have := l2 70; omega) fun M2 h2 => ⟨oM (bM_g ho.1 h2), pj_m ho.1 h2 ?_ fun M3 h3 => ?_⟩⟩
    · have := aFT_len 6 r v x
      rw [List.length_append, List.length_append]; show b.length + 1 + (aFT 6 r v x).1.length < 20; omega
    · rw [List.append_assoc, List.append_assoc] at h3
      exact q M3 h3
theorem pl_m {M0 M : Mem} {k r v : Nat} {b : List Int32} {x : Int32} {Q : Int32 → Mem → Prop} (ho : oM2 M0 k r v) (h : bM M0 b M) (hl : b.length < 14) (q : ∀ M1, bM M0 (b ++ (aPL k r v x).1) M1 → Q (aPL k r v x).2 M1) : f_X12_plainTells 76 (nI r) x M Q := by
  unfold f_X12_plainTells
  refine ⟨oM (bM_g ho.1 h), body_m ho.1 h (by omega) fun M1 h1 => ⟨oM (bM_g ho.1 h1), takes_m ho h1 (by rw [List.length_append]; show b.length + 1 < 15; omega) fun M2 h2 => ?_⟩⟩
  rw [List.append_assoc] at h2
  exact q M2 h2
theorem tells_m {M0 M : Mem} {k r v : Nat} {b : List Int32} {x : Int32} {Q : Int32 → Mem → Prop} (ho : oM2 M0 k r v) (h : bM M0 b M) (hl : b.length < 5) (q : ∀ M1, bM M0 (b ++ (aL k r v x).1) M1 → Q (aL k r v x).2 M1) : f_X12_tellsAct 76 (nI r) x M Q := by
  have hG := bM_g ho.1 h
  have l2 : ∀ y : Int32, (b ++ [y]).length < 6 := fun y => by rw [List.length_append]; show b.length + 1 < 6; omega
  have hr := ho.2.2.1
  have ek := bM_k ho h
  unfold f_X12_tellsAct
  refine ⟨oM hG, 94, mP_g hG rfl, isA_g hG (by decide) rfl (vp_r hr), ?_⟩
  rw [nI_clamp (by omega), ek]
  rcases seven ho.2.1 with rfl | rfl | rfl | rfl | rfl | rfl | rfl
  · rw [if_neg (by decide), if_neg (by decide)]
    exact pl_m ho h (by omega) q
  · rw [if_neg (by decide), if_neg (by decide)]
    exact pl_m ho h (by omega) q
  · rw [if_neg (by decide), if_neg (by decide)]
    exact pl_m ho h (by omega) q
  · rw [if_neg (by decide), if_neg (by decide)]
    exact pl_m ho h (by omega) q
  · rw [if_pos (by decide)]
    refine body_m ho.1 h (by omega) fun M1 h1 => ⟨oM (bM_g ho.1 h1), pl_m ho h1 (by have := l2 60; omega) fun M2 h2 => ?_⟩
    rw [List.append_assoc] at h2
    exact q M2 h2
  · rw [if_neg (by decide), if_pos (by decide)]
    refine body_m ho.1 h (by omega) fun M1 h1 => ⟨oM (bM_g ho.1 h1), pl_m ho h1 (by have := l2 40; omega) fun M2 h2 => ⟨oM (bM_g ho.1 h2), takes_m ho h2 ?_ fun M3 h3 => ?_⟩⟩
    · have h7 := aT_len 5 r v x
      rw [List.length_append, List.length_append]; show b.length + 1 + ((aT 5 r v x).1.length + 1) < 15; omega
    · rw [List.append_assoc, List.append_assoc] at h3
      exact q M3 h3
  · rw [if_neg (by decide), if_neg (by decide)]
    exact pl_m ho h (by omega) q
/-- trace -/
theorem oAnyK {M : Mem} {a r k v : Nat} (h : oK M a r k v) : isO M a [5, 1, 2, 4, 6, 7, 9] := ⟨kc k, kc_in h.1.1, h.2.2.1.1⟩
theorem J992 {M : Mem} (hI : Inv M) {v3 : Int32} {xs : Nat → Int32} {L : Nat} {K : Mem → Prop} (h1 : vp_in (v3 + 1) L) (hK : ∀ M', Inv M' → K M') : f_L_law_J992 0 76 v3 M xs L K := by
  obtain ⟨hG, ns, nt, nw, no, nh, cls, th, oa, kd, vv, iS0, iQ0, iN0, iH0, iZ0, iW0, iD0, iO0, iA0, iI0, iT0⟩ := id hI
  unfold f_L_law_J992
  generalize xs (v3 + 1).toNatClampNeg = x1
  refine ⟨h1, oQ hG, ?_⟩
  unfold f_X11_trace f_X12_trace
  refine ⟨oQ hG, ?_⟩
  have fin : K M := hK _ hI
  rcases id iA0 with ⟨a1, a2⟩ | ⟨r, n, q1, q2, q3, q4, q5, q6⟩
  · refine ⟨fun _ => ⟨h1, oM hG, oM hG, ?_⟩, fun b hb => by rw [a1] at hb; cases hb⟩
    by_cases c : 0 ≤ x1.toInt ∧ x1.toInt ≤ 19
    · refine in_t c ?_
      simp only [if_true, if_false, Bool.false_eq_true, reduceIte]
      refine ⟨oM hG, ?_⟩
      rw [a2, if_pos (by rw [i32_le]; exact c.1)]
      first | exact fin_ rfl fin | exact fin
    · refine in_f (by simp only [Int32.reduceToInt]; omega) ?_
      simp only [if_true, if_false, Bool.false_eq_true, reduceIte]
      exact fin
  · have oK0 := iO0.2.2.2.1 r q1
    have en := nI_toInt (n := n) (by omega)
    refine ⟨fun hn => (by rw [hn] at q3; cases q3), fun b hb => ?_⟩
    rw [q3] at hb; cases hb
    by_cases c : 0 ≤ x1.toInt ∧ x1.toInt ≤ 19
    case neg =>
      have P : vp_in (v3 + 1) L ∧ (isO M 76 [12] ∧ (isO M 76 [12] ∧ (f_X12_in 76 x1 (0 : Int32) (19 : Int32) M (fun w1 M2 => (if w1 = true then (isO M2 76 [12] ∧ (if (mI M2 76 61) ≤ x1 then (if (-1 : Int32) = -1 then K M2 else False) else (∃ b7, (mP M2 76 62) = some b7 ∧ (isA M2 b7 0 x1 ∧ (if (-1 : Int32) = mI M2 b7 (x1).toNatClampNeg then K M2 else False))))) else (if (-1 : Int32) = -1 then K M2 else False)))))) := by
        refine ⟨h1, oM hG, oM hG, in_f (by simp only [Int32.reduceToInt]; omega) ?_⟩
        simp only [if_true, if_false, Bool.false_eq_true, reduceIte]
        exact fin
      by_cases c2 : x1 < 0
      · rw [if_pos c2]; exact P
      · rw [if_neg c2, if_pos (by rw [i32_lt] at c2; rw [i32_le]; simp only [Int32.reduceToInt] at c2 ⊢; omega)]; exact P
    rw [if_neg (by rw [i32_lt]; simp only [Int32.reduceToInt]; omega), if_neg (by rw [i32_le]; simp only [Int32.reduceToInt]; omega)]
    refine ⟨oAnyK oK0, ?_⟩
    rw [q4]
    by_cases c2 : x1.toInt < n
    · rw [if_pos (by rw [i32_lt]; omega)]
      obtain ⟨i, -, rfl, i1, i2⟩ := nI_ex c.1
      refine ⟨oa r + 1, oK0.2.2.1.2.2.1, ⟨20, oK0.2.2.1.2.1, vp_of (by omega) (by omega)⟩, h1, oM hG, oM hG, in_t c ?_⟩
      simp only [if_true, if_false, Bool.false_eq_true, reduceIte]
      refine ⟨oM hG, ?_⟩
      rw [q5, if_neg (by rw [i32_le]; omega)]
      refine ⟨113, mP_g hG rfl, isA_g hG (by decide) rfl (vp_of (by omega) (by omega)), ?_⟩
      rw [i2]
      exact fin_ (q6 i (by omega)).symm fin
    · rw [if_neg (by rw [i32_lt]; omega)]
      refine ⟨h1, oM hG, oM hG, in_t c ?_⟩
      simp only [if_true, if_false, Bool.false_eq_true, reduceIte]
      refine ⟨oM hG, ?_⟩
      rw [q5, if_pos (by rw [i32_le]; omega)]
      first | exact fin_ rfl fin | exact fin
