/-! ===== the whole hour, by the class ===== -/
theorem hSv_len (X : Nat → Nat → Nat) (now : Nat) (S : HS) : (hsv S).length ≤ (hsv (hSv X now S)).length := by
  unfold hSv
  split
  · exact Nat.le_refl _
  · split
    · exact Nat.le_refl _
    · show (hsv S).length ≤ (hsv S ++ [_]).length
      rw [List.length_append]; omega
theorem hEn_sv (X : Nat → Nat → Nat) (now s : Nat) (S : HS) : hsv (hEn X now s S) = hsv S ∧ hbz (hEn X now s S) = hbz S := ⟨rfl, rfl⟩
theorem hLf_pos {S : HS} (h : ¬ hLf S = 0) (X : Nat → Nat → Nat) : hq S (hNx X S) ≠ [] := by
  unfold hLf at h
  unfold hNx
  by_cases c1 : hq S 1 = []
  · rw [if_pos c1]
    intro c0
    rw [c1, c0] at h; exact h rfl
  · rw [if_neg c1]
    by_cases c0 : hq S 0 = []
    · rw [if_pos c0]; exact c1
    · rw [if_neg c0]
      repeat' split
      all_goals first | exact c1 | exact c0
theorem hLf_sv {X : Nat → Nat → Nat} {now : Nat} {S : HS} (hb : hbz S ≤ now) : hLf (hSv X now S) = hLf S - 1 := by
  unfold hSv
  rw [if_neg (by omega)]
  by_cases c : hLf S = 0
  · have : hq S (hNx X S) = [] := by
      have h0 : (hq S 0).length = 0 := by unfold hLf at c; omega
      have h1 : (hq S 1).length = 0 := by unfold hLf at c; omega
      have hl := hNx_lt X S
      generalize hNx X S = l at *
      have : l = 0 ∨ l = 1 := by omega
      rcases this with rfl | rfl
      · exact List.length_eq_zero_iff.mp h0
      · exact List.length_eq_zero_iff.mp h1
    rw [if_pos this, c]
  · have hp := hLf_pos c X
    rw [if_neg hp]
    have hl := hNx_lt X S
    generalize hNx X S = l at *
    have hlen : 0 < (hq S l).length := List.length_pos_iff.mpr hp
    have htl : (hq S l).tail.length = (hq S l).length - 1 := List.length_tail
    have : l = 0 ∨ l = 1 := by omega
    rcases this with rfl | rfl
    · show (hq S 0).tail.length + (hq S 1).length = (hq S 0).length + (hq S 1).length - 1
      omega
    · show (hq S 0).length + (hq S 1).tail.length = (hq S 0).length + (hq S 1).length - 1
      omega
theorem hDr_lf (X : Nat → Nat → Nat) : ∀ (k now : Nat) (S : HS), hLf S ≤ k → hLf (hDr X k now S) = 0
  | 0, _, S, h => Nat.le_zero.mp h
  | k + 1, now, S, h => hDr_lf X k _ _ (by rw [hLf_sv (Nat.le_max_right _ _)]; omega)
theorem hPs_lf (X : Nat → Nat → Nat) (cl : List Cl) (n : Nat) (H : List (Nat × Nat)) : hLf (hPs X cl n H) = 0 := hDr_lf X _ _ _ (Nat.le_refl _)
/-- references of the hour and its cells have changed -/
def PF (M M1 : Mem) : Prop := mN M1 = mN M ∧ mS M1 = mS M ∧ mL M1 = mL M ∧ (∀ b j, ¬ (b = 29 ∧ (j = 11 ∨ j = 12)) → mP M1 b j = mP M b j) ∧ ∀ a j, ¬ (29 ≤ a ∧ a < 38) → mI M1 a j = mI M a j
theorem PF.rf (M : Mem) : PF M M := ⟨rfl, rfl, rfl, fun _ _ _ => rfl, fun _ _ _ => rfl⟩
theorem PF.tr {M M1 M2 : Mem} (h : PF M M1) (k : PF M1 M2) : PF M M2 := ⟨k.1.trans h.1, k.2.1.trans h.2.1, k.2.2.1.trans h.2.2.1, fun b j q => (k.2.2.2.1 b j q).trans (h.2.2.2.1 b j q), fun a j q => (k.2.2.2.2 a j q).trans (h.2.2.2.2 a j q)⟩
theorem HF.pf {M M1 : Mem} (h : HF M M1) : PF M M1 := ⟨h.1.1, h.1.2.1, h.1.2.2.2, fun b j _ => by rw [h.1.2.2.1], fun a j q => h.2 a j (by omega)⟩
theorem PF.good {M M1 : Mem} (h : PF M M1) (hG : Good M) : Good M1 := by
  refine ⟨by rw [h.1]; exact hG.1, fun b hb => by rw [h.2.1]; exact hG.2.1 b hb, fun b k v hv => ?_⟩
  by_cases c : b = 29 ∧ (k = 11 ∨ k = 12)
  · obtain ⟨rfl, rfl | rfl⟩ := c
    · cases hv
    · cases hv
  · rw [h.2.2.2.1 b k c]; exact hG.2.2 b k v hv
theorem PF.st {M M1 : Mem} (h : PF M M1) {a k : Nat} (v : Int32) (q : 29 ≤ a ∧ a < 38) : PF M (sI M1 a k v) := ⟨h.1, h.2.1, h.2.2.1, h.2.2.2.1, fun b j c => by rw [mI_ne _ _ (by omega)]; exact h.2.2.2.2 b j c⟩
/-- what an hour asks of the memory: the sorts, an order, a window -/
def aC (X : Nat → Nat → Nat) (ns oa w : Nat) (cl : List Cl) (M : Mem) : Prop := hX X ns ∧ cX X ns M ∧ oC X oa M ∧ wO w M ∧ wC M w cl ∧ WFc cl ∧ X 4 4 = wMx cl
theorem aC_pf {X : Nat → Nat → Nat} {ns oa w : Nat} {cl : List Cl} {M M1 : Mem} (h : aC X ns oa w cl M) (f : PF M M1) : aC X ns oa w cl M1 := by
  obtain ⟨h2, h3, ⟨⟨o1, o2, o3, o4⟩, o5⟩, ⟨w1, w2, ⟨w3, w4, w5⟩, w6, w7, w8⟩, h6, h7, h8⟩ := h
  refine ⟨h2, cX_fr h3 h2.1 (fun a j q => f.2.2.2.2 a j (by omega)), ⟨⟨o1, o2, by rw [f.2.1]; exact o3, by rw [f.2.2.2.2 _ _ (by omega)]; exact o4⟩, fun e => ?_⟩, ⟨w1, ?_, ⟨?_, ?_, ?_⟩, ?_, ?_, ?_⟩, wC_fr h6 (fun b k q1 q2 => f.2.2.2.2 b k (by omega)), h7, h8⟩
  · obtain ⟨g1, g2, g3, g4⟩ := o5 e
    exact ⟨by rw [f.2.2.2.1 _ _ (by omega)]; exact g1, g2, by rw [f.2.1]; exact g3, fun j hj => by rw [f.2.2.2.2 _ _ (by omega)]; exact g4 j hj⟩
  · obtain ⟨c, c1, c2⟩ := w2
    exact ⟨c, c1, by rw [f.2.1]; exact c2⟩
  · rw [f.2.2.2.1 _ _ (by omega)]; exact w3
  · rw [f.2.2.2.1 _ _ (by omega)]; exact w4
  · rw [f.2.2.2.1 _ _ (by omega)]; exact w5
  · rw [f.2.1]; exact w6
  · rw [f.2.1]; exact w7
  · rw [f.2.1]; exact w8
theorem begin_c {X : Nat → Nat → Nat} {ns oa w : Nat} {cl : List Cl} {M : Mem} {Q : Mem → Prop} (hG : Good M) (h : aC X ns oa w cl M) (q : ∀ M1, PF M M1 → cC X ns oa w cl M1 → rC X h00 M1 → Q M1) : f_X3_begin 29 (some oa) (some w) (nI (X 4 2)) (nI (X 4 3)) M Q := by
  unfold f_X3_begin
  refine ⟨oH hG, ?_⟩
  intro M2 hE2; intro M3 hE3
  have f3 : PF M M3 := by
    rw [hE3, hE2]
    exact ⟨rfl, rfl, rfl, fun b j c => (if_neg (by omega)).trans (if_neg (by omega)), fun _ _ _ => rfl⟩
  have p12 : mP M3 29 12 = some w := by rw [hE3]; exact mP_sP_s _ _ _ _
  have p11 : mP M3 29 11 = some oa := by rw [hE3, mP_sP_ne _ _ (by omega), hE2]; exact mP_sP_s _ _ _ _
  clear hE2 hE3
  intro M4 hE4; intro M5 hE5; intro M6 hE6; intro M7 hE7; intro M8 hE8; intro M9 hE9; intro M10 hE10
  have s10 : Sm M3 M10 := by rw [hE10, hE9, hE8, hE7, hE6, hE5, hE4]; exact Sm.rf M3
  have f10 : PF M M10 := by rw [hE10, hE9, hE8, hE7, hE6, hE5, hE4]; exact ((((((f3.st _ (by omega)).st _ (by omega)).st _ (by omega)).st _ (by omega)).st _ (by omega)).st _ (by omega)).st _ (by omega)
  have y13 : mI M10 29 13 = nI (X 4 2) := by rw [hE10, mI_ne _ _ (by omega), hE9, mI_ne _ _ (by omega), hE8, mI_ne _ _ (by omega), hE7, mI_ne _ _ (by omega), hE6, mI_ne _ _ (by omega), hE5, mI_ne _ _ (by omega), hE4, mI_sI_s]
  have y14 : mI M10 29 14 = nI (X 4 3) := by rw [hE10, mI_ne _ _ (by omega), hE9, mI_ne _ _ (by omega), hE8, mI_ne _ _ (by omega), hE7, mI_ne _ _ (by omega), hE6, mI_ne _ _ (by omega), hE5, mI_sI_s]
  have y6 : mI M10 29 6 = 0 := by rw [hE10, mI_ne _ _ (by omega), hE9, mI_ne _ _ (by omega), hE8, mI_ne _ _ (by omega), hE7, mI_ne _ _ (by omega), hE6, mI_sI_s]
  have y7 : mI M10 29 7 = 0 := by rw [hE10, mI_ne _ _ (by omega), hE9, mI_ne _ _ (by omega), hE8, mI_ne _ _ (by omega), hE7, mI_sI_s]
  have y8 : mI M10 29 8 = -1 := by rw [hE10, mI_ne _ _ (by omega), hE9, mI_ne _ _ (by omega), hE8, mI_sI_s]
  have y9 : mI M10 29 9 = 0 := by rw [hE10, mI_ne _ _ (by omega), hE9, mI_sI_s]
  have y18 : mI M10 29 18 = 0 := by rw [hE10, mI_sI_s]
  clear hE4 hE5 hE6 hE7 hE8 hE9 hE10
  have hG10 := f10.good hG
  rw [mP_g hG10 (show pvx 29 16 = some 36 from rfl)]
  refine fill_i (n := 2) (hG10.2.1 36 (by decide)) (by omega) fun M11 s11 a11 e11 => ?_
  have hG11 := s11.good hG10
  refine ⟨oH hG11, ?_⟩
  rw [mP_g hG11 (show pvx 29 17 = some 37 from rfl)]
  refine fill_i (n := 2) (hG11.2.1 37 (by decide)) (by omega) fun M12 s12 a12 e12 => ?_
  have f12 : PF M M12 := ⟨(s12.1.trans s11.1).trans f10.1, (s12.2.1.trans s11.2.1).trans f10.2.1, (s12.2.2.2.trans s11.2.2.2).trans f10.2.2.1, fun b j c => by rw [s12.2.2.1, s11.2.2.1]; exact f10.2.2.2.1 b j c, fun a j c => (e12 a j (by omega)).trans ((e11 a j (by omega)).trans (f10.2.2.2.2 a j c))⟩
  have e29 : ∀ j, mI M12 29 j = mI M10 29 j := fun j => (e12 29 j (by omega)).trans (e11 29 j (by omega))
  have hh := aC_pf h f12
  refine q M12 f12 ⟨f12.good hG, hh.1, hh.2.1, hh.2.2.1, hh.2.2.2.1, hh.2.2.2.2.1, hh.2.2.2.2.2.1, hh.2.2.2.2.2.2, ?_, ?_, (e29 13).trans y13, (e29 14).trans y14⟩ ⟨⟨(e29 6).trans y6, (e29 7).trans y7, (e29 9).trans y9, (e29 18).trans y18, (e29 8).trans y8⟩, fun i hi => absurd hi (Nat.not_lt_zero _), fun k e he => ?_, fun l hl => ⟨?_, ?_, fun i hi => ?_⟩⟩
  · rw [s12.2.2.1, s11.2.2.1, s10.2.2.1]; exact p11
  · rw [s12.2.2.1, s11.2.2.1, s10.2.2.1]; exact p12
  · have he : ([] : List (Nat × Nat))[k]? = some e := he
    simp at he
  · rw [e12 36 l (by omega)]; exact a11 l hl
  · exact a12 l hl
  · exact absurd hi List.not_mem_nil
theorem hSx_s (X : Nat → Nat → Nat) (cl : List Cl) (n : Nat) (H : List (Nat × Nat)) (m : Nat) : hSx X cl n H (m + 1) = hMn X cl n H (hSx X cl n H m) m := by
  unfold hSx; rw [List.range_succ, List.foldl_append]; rfl
theorem pass_c {X : Nat → Nat → Nat} {ns oa w d : Nat} {cl : List Cl} {H : List (Nat × Nat)} {M : Mem} {Q : Mem → Prop} (hG : Good M) (h : aC X ns oa w cl M) (hd : dC H ns d M) (q : ∀ M1, Good M1 → PF M M1 → cC X ns oa w cl M1 → rC X (hPs X cl ns H) M1 → hW X ns 1700 (hPs X cl ns H) → Q M1) : f_X3_pass 29 (some oa) (some w) (nI (X 4 2)) (nI (X 4 3)) (some d) (nI ns) M Q := by
  unfold f_X3_pass
  refine ⟨oH hG, begin_c hG h fun M1 f1 c1 r1 => ⟨oH c1.1, ?_⟩⟩
  intro M2 hE2
  have g2 : HF M1 M2 := by rw [hE2]; exact (HF.rf M1).st _ (by omega)
  have f2 : PF M M2 := f1.tr g2.pf
  have c2 := cC_fr c1 g2
  have n2 : mI M2 29 15 = nI 0 := by rw [hE2, mI_sI_s]; rfl
  have r2 : rC X h00 M2 := by
    obtain ⟨⟨a1, a2, a3, a4, a5⟩, a6, a7, a8⟩ := r1
    rw [hE2]
    refine ⟨⟨a1, a2, a3, a4, a5⟩, fun i hi => absurd hi (Nat.not_lt_zero _), fun k e he => ?_, fun l hl => ?_⟩
    · have he : ([] : List (Nat × Nat))[k]? = some e := he
      simp at he
    · obtain ⟨z1, z2, z3⟩ := a8 l hl
      rw [mI_ne _ _ (by omega), mI_ne _ _ (by omega)]
      exact ⟨z1, z2, fun i hi => absurd hi List.not_mem_nil⟩
  clear hE2 g2 r1 c1 f1
  unfold f_X3_pass_L14
  refine ⟨fun N => ∃ k, k ≤ 60 ∧ mI N 29 15 = nI k ∧ PF M N ∧ cC X ns oa w cl N ∧ rC X (hSx X cl ns H k) N ∧ hW X ns k (hSx X cl ns H k), fun N => 60 - (mI N 29 15).toNatClampNeg, ⟨0, by omega, n2, f2, c2, r2, hW_00 X ns⟩, ?_⟩
  rintro N ⟨k, hk, hn, f, c, r, hw⟩
  have hGN := c.1
  have hx := c.2.1
  unfold f_X3_pass_B14
  refine ⟨oH hGN, ?_⟩
  rw [hn]
  by_cases h60 : k < 60
  · rw [if_neg (show ¬ (60 : Int32) ≤ nI k from nI_ge (b := 60) h60 (by omega))]
    refine hand_c c (dC_fr hd (fun a j ha => f.2.2.2.2 a j (by omega))) r hw hn h60 fun N2 f2 hn2 r2 w2 => ⟨oH (f2.1.good hGN), ?_⟩
    have c2 := cC_fr c f2
    refine text_c c2 r2 w2 hn2 h60 fun N3 f3 hn3 r3 w3 => ⟨oH (f3.1.good c2.1), ?_⟩
    have c3 := cC_fr c2 f3
    refine serve_c c3 r3 w3 hn3 (by omega) fun N4 f4 hn4 r4 => ⟨oH (f4.1.good c3.1), ?_⟩
    have c4 := cC_fr c3 f4
    have w4 := hW_sv hx w3 (by omega)
    intro N5 hE5
    have f5 : HF N4 N5 := by rw [hE5]; exact (HF.rf N4).st _ (by omega)
    have n5 : mI N5 29 15 = nI (k + 1) := by rw [hE5, mI_sI_s, hn4, nI_1]
    have r5 : rC X (hSx X cl ns H (k + 1)) N5 := by
      rw [hSx_s]
      obtain ⟨⟨a1, a2, a3, a4, a5⟩, a6, a7, a8⟩ := r4
      rw [hE5]
      refine ⟨⟨?_, ?_, ?_, ?_, ?_⟩, fun i hi => ?_, fun k e he => ?_, fun l hl => ?_⟩
      · rw [mI_ne _ _ (by omega)]; exact a1
      · rw [mI_ne _ _ (by omega)]; exact a2
      · rw [mI_ne _ _ (by omega)]; exact a3
      · rw [mI_ne _ _ (by omega)]; exact a4
      · rw [mI_ne _ _ (by omega)]; exact a5
      · rw [mI_ne _ _ (by omega), mI_ne _ _ (by omega), mI_ne _ _ (by omega), mI_ne _ _ (by omega)]; exact a6 i hi
      · rw [mI_ne _ _ (by omega), mI_ne _ _ (by omega)]; exact a7 k e he
      · obtain ⟨g1, g2, g3⟩ := a8 l hl
        rw [mI_ne _ _ (by omega), mI_ne _ _ (by omega)]
        exact ⟨g1, g2, fun i hi => by rw [mI_ne _ _ (by omega)]; exact g3 i hi⟩
    refine ⟨⟨k + 1, by omega, n5, (((f.tr f2.pf).tr f3.pf).tr f4.pf).tr f5.pf, cC_fr c4 f5, r5, ?_⟩, ?_⟩
    · rw [hSx_s]; exact hW_mono w4 (by omega)
    · show 60 - (mI N5 29 15).toNatClampNeg < 60 - (mI N 29 15).toNatClampNeg
      rw [n5, hn, nI_clamp (by omega), nI_clamp (by omega)]; omega
  · obtain rfl : k = 60 := by omega
    rw [if_pos (show (60 : Int32) ≤ nI 60 by decide)]
    refine ⟨36, mP_g hGN rfl, isA_g hGN (by decide) rfl (vp_of (by decide) (by decide)), isA_g hGN (by decide) rfl (vp_of (by decide) (by decide)), ?_⟩
    rw [show ((1 : Int32)).toNatClampNeg = 1 from rfl, show ((0 : Int32)).toNatClampNeg = 0 from rfl, (r.2.2.2 1 (by omega)).1, (r.2.2.2 0 (by omega)).1, nI_add]
    have hL := hW_len hx hw
    unfold f_X3_pass_L67
    refine ⟨fun z => ∃ k now S', k ≤ 40 ∧ z.1 = nI k ∧ now ≤ 60 + 38 * (hsv S').length ∧ mI z.2 29 15 = nI now ∧ PF M z.2 ∧ cC X ns oa w cl z.2 ∧ rC X S' z.2 ∧ hW X ns now S' ∧ hDr X k now S' = hPs X cl ns H, fun z => z.1.toNatClampNeg, ⟨_, 60, hSx X cl ns H 60, by omega, rfl, by omega, hn, f, c, r, hw, rfl⟩, ?_⟩
    rintro ⟨v, N⟩ ⟨k, now, S', hk, hv, hno, hn, f, c, r, hw, hdr⟩
    replace hv : v = nI k := hv
    subst hv
    have hx := c.2.1
    have hL := hW_len hx hw
    have hGN := c.1
    show f_X3_pass_B67 29 (some oa) (some w) (nI (X 4 2)) (nI (X 4 3)) (some d) (nI ns) (nI k) N _ Q
    unfold f_X3_pass_B67
    cases k with
    | zero =>
      rw [if_pos (by decide)]
      have e : S' = hPs X cl ns H := hdr
      subst e
      exact q N hGN f c r (hW_mono hw (by omega))
    | succ k =>
      rw [if_neg (nI_nle (by omega) (by omega))]
      refine ⟨oH hGN, ?_⟩
      intro N2 hE2
      have em : (if mI N 29 15 < mI N 29 9 then mI N 29 9 else mI N 29 15) = nI (max now (hbz S')) := by
        replace hn : mI N 29 15 = nI now := hn
        rw [hn, r.1.2.2.1]
        by_cases cc : now < hbz S'
        · rw [if_pos (nI_lt cc (by omega)), Nat.max_eq_right (by omega)]
        · rw [if_neg (nI_nlt (by omega) (by omega)), Nat.max_eq_left (by omega)]
      rw [em] at hE2
      have g2 : HF N N2 := by rw [hE2]; exact (HF.rf N).st _ (by omega)
      have n2 : mI N2 29 15 = nI (max now (hbz S')) := by rw [hE2, mI_sI_s]
      have hmx : max now (hbz S') ≤ 60 + 38 * (hsv S').length := by
        have := hw.1.2.2.1
        omega
      have r2 : rC X S' N2 := by
        obtain ⟨⟨a1, a2, a3, a4, a5⟩, a6, a7, a8⟩ := r
        rw [hE2]
        refine ⟨⟨?_, ?_, ?_, ?_, ?_⟩, fun i hi => ?_, fun k e he => ?_, fun l hl => ?_⟩
        · rw [mI_ne _ _ (by omega)]; exact a1
        · rw [mI_ne _ _ (by omega)]; exact a2
        · rw [mI_ne _ _ (by omega)]; exact a3
        · rw [mI_ne _ _ (by omega)]; exact a4
        · rw [mI_ne _ _ (by omega)]; exact a5
        · rw [mI_ne _ _ (by omega), mI_ne _ _ (by omega), mI_ne _ _ (by omega), mI_ne _ _ (by omega)]; exact a6 i hi
        · rw [mI_ne _ _ (by omega), mI_ne _ _ (by omega)]; exact a7 k e he
        · obtain ⟨g1, g2, g3⟩ := a8 l hl
          rw [mI_ne _ _ (by omega), mI_ne _ _ (by omega)]
          exact ⟨g1, g2, fun i hi => by rw [mI_ne _ _ (by omega)]; exact g3 i hi⟩
      have w2 : hW X ns (max now (hbz S')) S' := hW_mono hw (by omega)
      refine serve_c (cC_fr c g2) r2 w2 n2 (by omega) fun N3 f3 hn3 r3 => ?_
      have hl := hSv_len X (max now (hbz S')) S'
      refine ⟨⟨k, max now (hbz S'), hSv X (max now (hbz S')) S', by omega, pk_m1 k, by omega, hn3, (f.tr g2.pf).tr f3.pf, cC_fr (cC_fr c g2) f3, r3, hW_sv hx w2 hmx, hdr⟩, ?_⟩
      show (nI (k + 1) + -1).toNatClampNeg < (nI (k + 1)).toNatClampNeg
      rw [pk_m1, nI_clamp (by omega), nI_clamp (by omega)]; omega
