/-! ===== the hour of the class: one comes ===== -/
theorem rC_en {X : Nat → Nat → Nat} {ns now s : Nat} {S : HS} {M M1 : Mem} (hw : hW X ns now S) (r : rC X S M)
    (a6 : mI M1 29 6 = nI ((hcm S).length + 1)) (a0 : mI M1 30 (hcm S).length = nI s) (a1 : mI M1 31 (hcm S).length = nI now) (a2 : mI M1 32 (hcm S).length = nI (hli X now s S)) (a3 : mI M1 33 (hcm S).length = nI (hpd X now s S)) (a4 : mI M1 34 (hcm S).length = -1)
    (al : ∀ l, l < 2 → mI M1 36 l = (if l = hli X now s S then mI M 36 l + 1 else mI M 36 l) ∧ mI M1 37 l = (if l = hli X now s S then mI M 37 l + nI (tmX X s) else mI M 37 l))
    (f : ∀ a j, (a = 29 ∧ (j = 7 ∨ j = 8 ∨ j = 9 ∨ j = 18)) ∨ (30 ≤ a ∧ a < 35 ∧ j ≠ (hcm S).length) ∨ a = 35 → mI M1 a j = mI M a j) : rC X (hEn X now s S) M1 := by
  obtain ⟨⟨r1, r2, r3, r4, r5⟩, r6, r7, r8⟩ := r
  obtain ⟨-, h2, h3, h4, -, -⟩ := hw
  have hl := hli_le X now s S
  obtain ⟨cm, sv, q, bz, tr, wt⟩ := S
  simp only [hcm, hsv, hq, hbz, htr, hwt] at *
  unfold hEn
  generalize hli X now s (cm, sv, q, bz, tr, wt) = li at *
  generalize hpd X now s (cm, sv, q, bz, tr, wt) = pd at *
  simp only [hcm, hsv, hq, hbz, htr, hwt]
  unfold rC
  simp only [hcm, hsv, hq, hbz, htr, hwt]
  have hlen : (cm ++ [((s, now, li, pd) : Cm)]).length = cm.length + 1 := List.length_append
  refine ⟨⟨by rw [hlen]; exact a6, (f _ _ (by omega)).trans r2, (f _ _ (by omega)).trans r3, (f _ _ (by omega)).trans r4, (f _ _ (by omega)).trans r5⟩, fun i hi => ?_, fun k e he => ?_, fun l hl2 => ?_⟩
  · rw [hlen] at hi
    by_cases e : i = cm.length
    · subst e; rw [gC_at]; exact ⟨a0, a1, a2, a3⟩
    · rw [gC_lt _ (by omega), f 30 i (by omega), f 31 i (by omega), f 32 i (by omega), f 33 i (by omega)]; exact r6 i (by omega)
  · obtain ⟨g1, g2⟩ := r7 k e he
    have := (h4 e (List.mem_of_getElem? he)).1
    rw [f 35 k (by omega), f 34 e.1 (by omega)]; exact ⟨g1, g2⟩
  · obtain ⟨g1, g2, g3⟩ := r8 l hl2
    obtain ⟨p1, p2⟩ := al l hl2
    have hm : ∀ i, i ∈ q l → i < cm.length := fun i hi => ((h3 l hl2).2 i hi).1
    have hq1 : (if li = 2 then q else u1 q li (q li ++ [cm.length])) l = if l = li then q l ++ [cm.length] else q l := by
      by_cases e : li = 2
      · rw [if_pos e, if_neg (by omega)]
      · rw [if_neg e, u1_if]
        by_cases e2 : l = li
        · rw [if_pos e2, if_pos e2, e2]
        · rw [if_neg e2, if_neg e2]
    rw [hq1, p1, p2]
    by_cases e : l = li
    · rw [if_pos e, if_pos e, if_pos e, g1, g2, qtm_cat, qtm_app _ hm, gC_at, List.length_append, nI_1, nI_add]
      refine ⟨rfl, rfl, fun i hi => ?_⟩
      rcases List.mem_append.mp hi with hi | hi
      · have := hm i hi
        rw [f 34 i (by omega)]; exact g3 i hi
      · rw [List.mem_singleton.mp hi]; exact a4
    · rw [if_neg e, if_neg e, if_neg e, g1, g2, qtm_app _ hm]
      refine ⟨rfl, rfl, fun i hi => ?_⟩
      have := hm i hi
      rw [f 34 i (by omega)]; exact g3 i hi
theorem time_c {X : Nat → Nat → Nat} {ns s : Nat} {M : Mem} {Q : Int32 → Mem → Prop} (hG : Good M) (hns : ns ≤ 6) (hcx : cX X ns M) (h14 : mI M 29 14 = nI (X 4 3)) (hs : s < ns) (q : Q (nI (tmX X s)) M) : f_X3_timeOf 29 (nI s) M Q := by
  unfold f_X3_timeOf
  have ec : (nI s).toNatClampNeg = s := nI_clamp (by omega)
  refine ⟨oH hG, 1, mP_g hG rfl, isA_g hG (by decide) rfl (vpN (by omega) (by omega)), 2 + s, by rw [ec]; exact p_row hG (by omega), a_row hG (by omega) (vp_of (by decide) (by decide)), ?_⟩
  rw [show ((3 : Int32)).toNatClampNeg = 3 from rfl, hcx s hs 3 (by omega), h14, nI_add]; exact q
theorem enter_c {X : Nat → Nat → Nat} {ns oa w now s : Nat} {cl : List Cl} {S : HS} {M : Mem} {Q : Mem → Prop} (h : cC X ns oa w cl M) (r : rC X S M) (hw : hW X ns now S) (hn : mI M 29 15 = nI now) (hnow : now < 60) (hs : s < ns) (hc : (hcm S).length < X 4 4) (q : ∀ M1, HF M M1 → mI M1 29 15 = nI now → rC X (hEn X now s S) M1 → Q M1) : f_X3_enter 29 (nI s) M Q := by
  obtain ⟨hG, hx, hcx, ho, -, -, -, -, po, -, h13, h14⟩ := id h
  obtain ⟨⟨r1, -⟩, -, -, r8⟩ := id r
  obtain ⟨b1, b2, b3, b4, b5, b6, b7⟩ := hW_len hx hw
  have hns := hx.1
  have hmx := hx.2.2.2.2.2.2.2.1
  obtain ⟨x0, x1, x2, -⟩ := hx.2.1 s hs
  have hk := hask_le hx (show (hq S 1).length ≤ 40 by omega)
  have vs : vp_in (nI s) 6 := vpN (by omega) (by omega)
  have ec : (nI s).toNatClampNeg = s := nI_clamp (by omega)
  have ps : mP M 1 (nI s).toNatClampNeg = some (2 + s) := by rw [ec]; exact p_row hG (by omega)
  have el : (nI (hcm S).length).toNatClampNeg = (hcm S).length := nI_clamp (by omega)
  have vl : vp_in (nI (hcm S).length) 40 := vpN (by omega) (by omega)
  unfold f_X3_enter
  refine ⟨oH hG, 36, mP_g hG rfl, isA_g hG (by decide) rfl (vp_of (by decide) (by decide)), oa, po, ?_⟩
  rw [h13, show ((1 : Int32)).toNatClampNeg = 1 from rfl, (r8 1 (by omega)).1]
  refine asks_c ho ⟨oH hG, 1, mP_g hG rfl, isA_g hG (by decide) rfl vs, 2 + s, ps, a_row hG (by omega) (vp_of (by decide) (by decide)), ?_⟩
  rw [show ((2 : Int32)).toNatClampNeg = 2 from rfl, hcx s hs 2 (by omega)]
  refine due_c ho (by omega) (by omega) ⟨oH hG, line_c h r hw hn (by omega) hs ⟨oH hG, 30, mP_g hG rfl, ?_⟩⟩
  rw [r1, el]
  refine ⟨isA_g hG (by decide) rfl vl, ?_⟩
  intro M2 hE2
  refine ⟨31, by rw [hE2]; exact mP_g hG rfl, ?_⟩
  have z2 : mI M2 29 6 = nI (hcm S).length ∧ mI M2 29 15 = nI now := by rw [hE2, mI_ne _ _ (by omega), mI_ne _ _ (by omega)]; exact ⟨r1, hn⟩
  rw [z2.1, z2.2, el]
  refine ⟨by rw [hE2]; exact isA_g hG (by decide) rfl vl, ?_⟩
  intro M3 hE3
  refine ⟨32, by rw [hE3, hE2]; exact mP_g hG rfl, ?_⟩
  have z3 : mI M3 29 6 = nI (hcm S).length := by rw [hE3, mI_ne _ _ (by omega)]; exact z2.1
  rw [z3, el]
  refine ⟨by rw [hE3, hE2]; exact isA_g hG (by decide) rfl vl, ?_⟩
  intro M4 hE4
  have z4 : mI M4 29 6 = nI (hcm S).length := by rw [hE4, mI_ne _ _ (by omega)]; exact z3
  have f4 : HF M M4 := by rw [hE4, hE3, hE2]; exact (((HF.rf M).st _ (by omega)).st _ (by omega)).st _ (by omega)
  have e4 : ∀ a j, ¬ (30 ≤ a ∧ a < 33 ∧ j = (hcm S).length) → mI M4 a j = mI M a j := fun a j c => by rw [hE4, mI_ne _ _ (by omega), hE3, mI_ne _ _ (by omega), hE2, mI_ne _ _ (by omega)]
  have g30 : mI M4 30 (hcm S).length = nI s := by rw [hE4, mI_ne _ _ (by omega), hE3, mI_ne _ _ (by omega), hE2, mI_sI_s]
  have g31 : mI M4 31 (hcm S).length = nI now := by rw [hE4, mI_ne _ _ (by omega), hE3, mI_sI_s]
  have g32 : mI M4 32 (hcm S).length = nI (hli X now s S) := by rw [hE4, mI_sI_s]
  clear hE2 hE3 hE4 z2 z3
  have hG4 := f4.1.good hG
  rw [z4]
  have hli2 := hli_le X now s S
  -- what is paid
  have J91 : ∀ pd : Int32, pd = nI (hpd X now s S) → f_X3_enter_J91 29 (nI s) (nI (hli X now s S)) pd (nI (hcm S).length) (mP M4 29 3) M4 Q := by
    rintro pd rfl
    unfold f_X3_enter_J91
    rw [el]
    refine ⟨33, mP_g hG4 rfl, isA_g hG4 (by decide) rfl vl, ?_⟩
    intro M5 hE5
    have f5 : HF M M5 := by rw [hE5]; exact f4.st _ (by omega)
    have hG5 := f5.1.good hG
    have z5 : mI M5 29 6 = nI (hcm S).length := by rw [hE5, mI_ne _ _ (by omega)]; exact z4
    refine ⟨oH hG5, 34, mP_g hG5 rfl, ?_⟩
    rw [z5, el]
    refine ⟨isA_g hG5 (by decide) rfl vl, ?_⟩
    intro M6 hE6
    intro M7 hE7
    have f7 : HF M M7 := by rw [hE7, hE6]; exact (f5.st _ (by omega)).st _ (by omega)
    have hG7 := f7.1.good hG
    have e7 : ∀ a j, ¬ (30 ≤ a ∧ a < 35 ∧ j = (hcm S).length) → ¬ (a = 29 ∧ j = 6) → mI M7 a j = mI M a j := fun a j c c2 => by rw [hE7, mI_ne _ _ (by omega), hE6, mI_ne _ _ (by omega), hE5, mI_ne _ _ (by omega)]; exact e4 a j (by omega)
    have k6 : mI M7 29 6 = nI ((hcm S).length + 1) := by rw [hE7, mI_sI_s, hE6, mI_ne _ _ (by omega), z5, nI_1]
    have k0 : mI M7 30 (hcm S).length = nI s := by rw [hE7, mI_ne _ _ (by omega), hE6, mI_ne _ _ (by omega), hE5, mI_ne _ _ (by omega)]; exact g30
    have k1 : mI M7 31 (hcm S).length = nI now := by rw [hE7, mI_ne _ _ (by omega), hE6, mI_ne _ _ (by omega), hE5, mI_ne _ _ (by omega)]; exact g31
    have k2 : mI M7 32 (hcm S).length = nI (hli X now s S) := by rw [hE7, mI_ne _ _ (by omega), hE6, mI_ne _ _ (by omega), hE5, mI_ne _ _ (by omega)]; exact g32
    have k3 : mI M7 33 (hcm S).length = nI (hpd X now s S) := by rw [hE7, mI_ne _ _ (by omega), hE6, mI_ne _ _ (by omega), hE5, mI_sI_s]
    have k4 : mI M7 34 (hcm S).length = -1 := by rw [hE7, mI_ne _ _ (by omega), hE6, mI_sI_s]
    clear hE5 hE6 hE7
    by_cases c : hli X now s S = 2
    · rw [if_pos (by rw [c]; rfl)]
      refine q M7 f7 (by rw [e7 _ _ (by omega) (by omega)]; exact hn) (rC_en hw r k6 k0 k1 k2 k3 k4 (fun l hl => ?_) (fun a j d => e7 a j (by omega) (by omega)))
      rw [if_neg (by omega), if_neg (by omega)]
      exact ⟨e7 _ _ (by omega) (by omega), e7 _ _ (by omega) (by omega)⟩
    · have c2 : hli X now s S < 2 := by omega
      rw [if_neg (nn_2 c (by omega))]
      have ei : (nI (hli X now s S)).toNatClampNeg = hli X now s S := nI_clamp (by omega)
      have vi : vp_in (nI (hli X now s S)) 2 := vpN c2 (by omega)
      refine ⟨36, mP_g hG7 rfl, isA_g hG7 (by decide) rfl vi, isA_g hG7 (by decide) rfl vi, ?_⟩
      rw [ei]
      intro M8 hE8
      have f8 : HF M M8 := by rw [hE8]; exact f7.st _ (by omega)
      have hG8 := f8.1.good hG
      refine ⟨37, mP_g hG8 rfl, isA_g hG8 (by decide) rfl vi, ?_⟩
      have h8 := cC_fr h f8
      refine time_c hG8 hx.1 h8.2.2.1 h8.2.2.2.2.2.2.2.2.2.2.2 hs ⟨isA_g hG8 (by decide) rfl vi, ?_⟩
      intro M9 hE9
      have f9 : HF M M9 := by rw [hE9]; exact f8.st _ (by omega)
      have e9 : ∀ a j, ¬ ((a = 36 ∨ a = 37) ∧ j = hli X now s S) → mI M9 a j = mI M7 a j := fun a j d => by rw [hE9, mI_ne _ _ (by omega), hE8, mI_ne _ _ (by omega)]
      refine q M9 f9 (by rw [e9 _ _ (by omega), e7 _ _ (by omega) (by omega)]; exact hn) (rC_en hw r ((e9 _ _ (by omega)).trans k6) ((e9 _ _ (by omega)).trans k0) ((e9 _ _ (by omega)).trans k1) ((e9 _ _ (by omega)).trans k2) ((e9 _ _ (by omega)).trans k3) ((e9 _ _ (by omega)).trans k4) (fun l hl => ?_) (fun a j d => (e9 a j (by omega)).trans (e7 a j (by omega) (by omega))))
      by_cases e : l = hli X now s S
      · subst e
        rw [if_pos rfl, if_pos rfl, hE9, mI_ne _ _ (by omega), mI_sI_s, hE8, mI_sI_s, mI_ne _ _ (by omega), e7 _ _ (by omega) (by omega), e7 _ _ (by omega) (by omega)]
        exact ⟨rfl, rfl⟩
      · rw [if_neg e, if_neg e, e9 _ _ (by omega), e9 _ _ (by omega), e7 _ _ (by omega) (by omega), e7 _ _ (by omega) (by omega)]
        exact ⟨rfl, rfl⟩
  by_cases c : hli X now s S = 1
  · rw [if_pos (by rw [c]; rfl)]
    refine J91 _ ?_
    unfold hpd; rw [if_pos c]
  · rw [if_neg (nn_1 c (by omega))]
    refine J91 _ ?_
    unfold hpd; rw [if_neg c]; rfl
