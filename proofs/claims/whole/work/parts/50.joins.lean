/-! ===== the hour of the model: one comes, one is taken ===== -/
theorem rM_en {X : Nat → Nat → Nat} {sk : Bool} {ns now s : Nat} {S : HS} {M M1 : Mem} (hw : hW X ns now S) (rm : rM X sk S M)
    (a6 : mI M1 76 31 = nI ((hcm S).length + 1)) (a0 : mI M1 97 (hcm S).length = nI s) (a1 : mI M1 98 (hcm S).length = nI now) (a2 : mI M1 99 (hcm S).length = nI (hli X now s S)) (a3 : mI M1 100 (hcm S).length = nI (hpd X now s S)) (a4 : mI M1 101 (hcm S).length = -5) (a5 : mI M1 102 (hcm S).length = -5)
    (al : ∀ l, l < 2 → mI M1 104 l = mI M 104 l ∧ mI M1 105 l = (if l = hli X now s S then mI M 105 l + 1 else mI M 105 l))
    (ai : ∀ l h, l < 2 → mI M 105 l = nI h → h ≤ 40 → (l = hli X now s S → mI M1 103 (41 * l + h) = nI (hcm S).length) ∧ ∀ k, k < h → mI M1 103 (41 * l + k) = mI M 103 (41 * l + k))
    (f : ∀ a j, (a = 76 ∧ (j = 32 ∨ j = 33 ∨ j = 34 ∨ j = 40)) ∨ (97 ≤ a ∧ a < 103 ∧ j ≠ (hcm S).length) ∨ a = 106 ∨ a = 107 → mI M1 a j = mI M a j) (h40 : (hcm S).length ≤ 40) : rM X sk (hEn X now s S) M1 := by
  obtain ⟨⟨r1, r2, r3, r4, r5⟩, r6, r7, r8, r9⟩ := rm
  obtain ⟨-, h2, h3, h4, -, -⟩ := hw
  have hl := hli_le X now s S
  obtain ⟨cm, sv, q, bz, tr, wt⟩ := S
  unfold rL at r9
  simp only [hcm, hsv, hq, hbz, htr, hwt] at *
  unfold hEn
  generalize hli X now s (cm, sv, q, bz, tr, wt) = li at *
  generalize hpd X now s (cm, sv, q, bz, tr, wt) = pd at *
  simp only [hcm, hsv, hq, hbz, htr, hwt]
  unfold rM rL
  simp only [hcm, hsv, hq, hbz, htr, hwt]
  have hlen : (cm ++ [((s, now, li, pd) : Cm)]).length = cm.length + 1 := List.length_append
  refine ⟨⟨by rw [hlen]; exact a6, (f _ _ (by omega)).trans r2, (f _ _ (by omega)).trans r3, (f _ _ (by omega)).trans r4, fun e => (f _ _ (by omega)).trans (r5 e)⟩, fun i hi => ?_, fun k e he => ?_, fun i hi hn => ?_, fun l hl2 => ?_⟩
  · rw [hlen] at hi
    by_cases e : i = cm.length
    · subst e; rw [gC_at]; exact ⟨a0, a1, a2, a3⟩
    · rw [gC_lt _ (by omega), f 97 i (by omega), f 98 i (by omega), f 99 i (by omega), f 100 i (by omega)]; exact r6 i (by omega)
  · have := (h4 e (List.mem_of_getElem? he)).1
    rw [gC_lt _ this, f 106 k (by omega), f 107 k (by omega), f 101 e.1 (by omega), f 102 e.1 (by omega)]; exact r7 k e he
  · rw [hlen] at hi
    by_cases e : i = cm.length
    · subst e; exact ⟨a4, a5⟩
    · rw [f 101 i (by omega), f 102 i (by omega)]; exact r8 i (by omega) hn
  · obtain ⟨hd, g1, g2, g3, g4⟩ := r9 l hl2
    obtain ⟨p1, p2⟩ := al l hl2
    obtain ⟨i1, i2⟩ := ai l _ hl2 g3 (by omega)
    have hq1 : (if li = 2 then q else u1 q li (q li ++ [cm.length])) l = if l = li then q l ++ [cm.length] else q l := by
      by_cases e : li = 2
      · rw [if_pos e, if_neg (by omega)]
      · rw [if_neg e, u1_if]
        by_cases e2 : l = li
        · rw [if_pos e2, if_pos e2, e2]
        · rw [if_neg e2, if_neg e2]
    rw [hq1, p1, p2, hlen]
    refine ⟨hd, ?_⟩
    have old : ∀ k i, (q l)[k]? = some i → mI M1 103 (41 * l + hd + k) = nI i := fun k i hi => by
      have := (List.getElem?_eq_some_iff.mp hi).1
      rw [Nat.add_assoc, i2 (hd + k) (by omega), ← Nat.add_assoc]; exact g4 k i hi
    by_cases e : l = li
    · rw [if_pos e, if_pos e, g3, nI_1]
      have hl3 : (q l ++ [cm.length]).length = (q l).length + 1 := List.length_append
      rw [hl3]
      refine ⟨by omega, g2, rfl, fun k i hi => ?_⟩
      by_cases ek : k = (q l).length
      · subst ek
        rw [List.getElem?_append_right (Nat.le_refl _), Nat.sub_self] at hi
        injection hi with hi
        rw [Nat.add_assoc, i1 e, ← hi]
      · have := (List.getElem?_eq_some_iff.mp hi).1
        rw [List.getElem?_append_left (by omega)] at hi
        exact old k i hi
    · rw [if_neg e, if_neg e]
      exact ⟨by omega, g2, g3, old⟩
theorem joins_m2 {X : Nat → Nat → Nat} {ns r now s : Nat} {cl : List Cl} {sk : Bool} {S : HS} {M : Mem} {Q : Mem → Prop} (h : mC X ns r cl M) (rm : rM X sk S M) (hw : hW X ns now S) (hn : mI M 76 39 = nI now) (hnow : now < 60) (hs : s < ns) (q0 : (hcm S).length = X 4 4 → Q M) (q : (hcm S).length < X 4 4 → ∀ M1, GF M M1 → mI M1 76 39 = nI now → (∀ j, mI M1 108 j = mI M 108 j) → rM X sk (hEn X now s S) M1 → Q M1) : f_X12_joins 76 (nI r) (nI s) M Q := by
  have hG := h.1
  have hx := h.2.1.1
  have hL := hW_len hx hw
  have h44 := hx.2.2.2.2.2.2.2.1
  have h37 := h.2.2.2.2
  have hle := hw.1.1
  unfold f_X12_joins
  refine ⟨oM hG, ?_⟩
  rw [rm.1.1, h37]
  by_cases c : (hcm S).length = X 4 4
  · rw [if_pos (by rw [c])]; exact q0 c
  rw [if_neg (by rw [nI_eq (by omega) (by omega)]; exact c)]
  have ei : (nI (hcm S).length).toNatClampNeg = (hcm S).length := nI_clamp (by omega)
  have vi : vp_in (nI (hcm S).length) 41 := vpN (by omega) (by omega)
  rw [ei]
  refine ⟨97, mP_g hG rfl, isA_g hG (by decide) rfl vi, ?_⟩
  intro M2 hE2
  refine ⟨98, by rw [hE2]; exact mP_g hG rfl, by rw [hE2]; exact isA_g hG (by decide) rfl vi, ?_⟩
  intro M3 hE3
  have z2 : mI M2 76 39 = nI now := by rw [hE2, mI_ne _ _ (by omega)]; exact hn
  rw [z2] at hE3
  refine ⟨101, by rw [hE3, hE2]; exact mP_g hG rfl, by rw [hE3, hE2]; exact isA_g hG (by decide) rfl vi, ?_⟩
  intro M4 hE4
  refine ⟨102, by rw [hE4, hE3, hE2]; exact mP_g hG rfl, by rw [hE4, hE3, hE2]; exact isA_g hG (by decide) rfl vi, ?_⟩
  intro M5 hE5
  have f5 : GF M M5 := by rw [hE5, hE4, hE3, hE2]; exact ((((GF.rf M).st _ (by omega)).st _ (by omega)).st _ (by omega)).st _ (by omega)
  have e5 : ∀ a j, ¬ ((a = 97 ∨ a = 98 ∨ a = 101 ∨ a = 102) ∧ j = (hcm S).length) → mI M5 a j = mI M a j := fun a j c => by rw [hE5, mI_ne _ _ (by omega), hE4, mI_ne _ _ (by omega), hE3, mI_ne _ _ (by omega), hE2, mI_ne _ _ (by omega)]
  have y97 : mI M5 97 (hcm S).length = nI s := by rw [hE5, mI_ne _ _ (by omega), hE4, mI_ne _ _ (by omega), hE3, mI_ne _ _ (by omega), hE2, mI_sI_s]
  have y98 : mI M5 98 (hcm S).length = nI now := by rw [hE5, mI_ne _ _ (by omega), hE4, mI_ne _ _ (by omega), hE3, mI_sI_s]
  have y101 : mI M5 101 (hcm S).length = -5 := by rw [hE5, mI_ne _ _ (by omega), hE4, mI_sI_s]
  have y102 : mI M5 102 (hcm S).length = -5 := by rw [hE5, mI_sI_s]
  clear hE2 hE3 hE4 hE5 z2
  have rm5 : rM X sk S M5 := rM_fr rm hw (fun a j d => e5 a j (by omega))
  refine choose_m (mC_fr h f5) rm5 hw ((e5 _ _ (by omega)).trans hn) (by omega) hs y97 fun M6 f6 e6 y100 => ?_
  have hG6 := f6.1.good (f5.1.good hG)
  refine ⟨oM hG6, 99, mP_g hG6 rfl, isA_g hG6 (by decide) rfl vi, ?_⟩
  intro M7 hE7; intro M8 hE8
  have f8 : GF M M8 := by rw [hE8, hE7]; exact ((f5.tr f6).st _ (by omega)).st _ (by omega)
  have hG8 := f8.1.good hG
  have e8 : ∀ a j, ¬ (a = 76 ∧ j = 31) → ¬ (97 ≤ a ∧ a < 103 ∧ j = (hcm S).length) → mI M8 a j = mI M a j := fun a j d1 d2 => by rw [hE8, mI_ne _ _ (by omega), hE7, mI_ne _ _ (by omega), e6 _ _ (by omega), e5 _ _ (by omega)]
  have k31 : mI M8 76 31 = nI ((hcm S).length + 1) := by rw [hE8, mI_sI_s, hE7, mI_ne _ _ (by omega), e6 _ _ (by omega), e5 _ _ (by omega), rm.1.1, nI_1]
  have k97 : mI M8 97 (hcm S).length = nI s := by rw [hE8, mI_ne _ _ (by omega), hE7, mI_ne _ _ (by omega), e6 _ _ (by omega)]; exact y97
  have k98 : mI M8 98 (hcm S).length = nI now := by rw [hE8, mI_ne _ _ (by omega), hE7, mI_ne _ _ (by omega), e6 _ _ (by omega)]; exact y98
  have k99 : mI M8 99 (hcm S).length = nI (hli X now s S) := by rw [hE8, mI_ne _ _ (by omega), hE7, mI_sI_s]
  have k100 : mI M8 100 (hcm S).length = nI (hpd X now s S) := by rw [hE8, mI_ne _ _ (by omega), hE7, mI_ne _ _ (by omega)]; exact y100
  have k101 : mI M8 101 (hcm S).length = -5 := by rw [hE8, mI_ne _ _ (by omega), hE7, mI_ne _ _ (by omega), e6 _ _ (by omega)]; exact y101
  have k102 : mI M8 102 (hcm S).length = -5 := by rw [hE8, mI_ne _ _ (by omega), hE7, mI_ne _ _ (by omega), e6 _ _ (by omega)]; exact y102
  clear hE7 hE8
  have hli2 := hli_le X now s S
  have hlt : (hcm S).length < X 4 4 := by omega
  by_cases c2 : hli X now s S = 2
  · rw [if_pos (by rw [c2]; rfl)]
    refine q hlt M8 f8 ((e8 _ _ (by omega) (by omega)).trans hn) (fun j => e8 _ _ (by omega) (by omega)) (rM_en hw rm k31 k97 k98 k99 k100 k101 k102 (fun l hl => ?_) (fun l hd hl g _ => ⟨fun z => by omega, fun k hk => e8 _ _ (by omega) (by omega)⟩) (fun a j d => e8 a j (by omega) (by omega)) (by omega))
    rw [if_neg (by omega)]
    exact ⟨e8 _ _ (by omega) (by omega), e8 _ _ (by omega) (by omega)⟩
  · have hl2 : hli X now s S < 2 := by omega
    rw [if_neg (nn_2 c2 (by omega))]
    have el : (nI (hli X now s S)).toNatClampNeg = hli X now s S := nI_clamp (by omega)
    have vl : vp_in (nI (hli X now s S)) 2 := vpN hl2 (by omega)
    obtain ⟨hd, g1, g2, g3, g4⟩ := rm.2.2.2.2 _ hl2
    have k105 : mI M8 105 (hli X now s S) = nI (hd + (hq S (hli X now s S)).length) := (e8 _ _ (by omega) (by omega)).trans g3
    refine ⟨105, mP_g hG8 rfl, isA_g hG8 (by decide) rfl vl, 103, mP_g hG8 rfl, ?_⟩
    rw [el, k105, show (41 : Int32) = nI 41 from rfl, nI_mul, nI_add, nI_clamp (by omega)]
    refine ⟨isA_g hG8 (by decide) rfl (vpN (by omega) (by omega)), ?_⟩
    intro M9 hE9
    have f9 : GF M M9 := by rw [hE9]; exact f8.st _ (by omega)
    have hG9 := f9.1.good hG
    refine ⟨isA_g hG9 (by decide) rfl vl, isA_g hG9 (by decide) rfl vl, ?_⟩
    intro M10 hE10
    have f10 : GF M M10 := by rw [hE10]; exact f9.st _ (by omega)
    have e10 : ∀ a j, ¬ (a = 105 ∧ j = hli X now s S) → ¬ (a = 103 ∧ j = 41 * hli X now s S + (hd + (hq S (hli X now s S)).length)) → mI M10 a j = mI M8 a j := fun a j d1 d2 => by rw [hE10, mI_ne _ _ (by omega), hE9, mI_ne _ _ (by omega)]
    refine q hlt M10 f10 (by rw [e10 _ _ (by omega) (by omega), e8 _ _ (by omega) (by omega)]; exact hn) (fun j => by rw [e10 _ _ (by omega) (by omega), e8 _ _ (by omega) (by omega)]) (rM_en hw rm ((e10 _ _ (by omega) (by omega)).trans k31) ((e10 _ _ (by omega) (by omega)).trans k97) ((e10 _ _ (by omega) (by omega)).trans k98) ((e10 _ _ (by omega) (by omega)).trans k99) ((e10 _ _ (by omega) (by omega)).trans k100) ((e10 _ _ (by omega) (by omega)).trans k101) ((e10 _ _ (by omega) (by omega)).trans k102) (fun l hl => ?_) (fun l h' hl g h40 => ⟨fun z => ?_, fun k hk => ?_⟩) (fun a j d => (e10 a j (by omega) (by omega)).trans (e8 a j (by omega) (by omega))) (by omega))
    · refine ⟨(e10 _ _ (by omega) (by omega)).trans (e8 _ _ (by omega) (by omega)), ?_⟩
      by_cases e : l = hli X now s S
      · subst e
        rw [if_pos rfl, hE10, mI_sI_s, hE9, mI_ne _ _ (by omega), e8 _ _ (by omega) (by omega)]
      · rw [if_neg e, e10 _ _ (by omega) (by omega), e8 _ _ (by omega) (by omega)]
    · subst z
      have : h' = hd + (hq S (hli X now s S)).length := (nI_eq (by omega) (by omega)).mp (g.symm.trans g3)
      subst this
      rw [hE10, mI_ne _ _ (by omega), hE9, mI_sI_s]
    · have d2 : ¬ (103 = 103 ∧ 41 * l + k = 41 * hli X now s S + (hd + (hq S (hli X now s S)).length)) := by
        rintro ⟨-, d⟩
        have hdl : hd + (hq S (hli X now s S)).length ≤ 40 := by omega
        have : l = hli X now s S := by omega
        subst this
        have : h' = hd + (hq S (hli X now s S)).length := (nI_eq (by omega) (by omega)).mp (g.symm.trans g3)
        omega
      rw [e10 _ _ (by omega) d2, e8 _ _ (by omega) (by omega)]
theorem isF_m {k : Nat} {M : Mem} {Q : Bool → Mem → Prop} (hk : k < 2 ^ 31) (q : Q (decide (k = 1 ∨ k = 3 ∨ k = 6)) M) : f_X12_isFirst 76 (nI k) M Q := by
  unfold f_X12_isFirst
  by_cases c1 : k = 1
  · rw [decide_eq_true (by omega)] at q; rw [if_pos (by rw [c1]; rfl)]; exact q
  rw [if_neg (nn_1 c1 hk)]
  by_cases c3 : k = 3
  · rw [decide_eq_true (by omega)] at q; rw [if_pos (by rw [c3]; rfl)]; exact q
  rw [if_neg (show ¬ nI k = (3 : Int32) from fun z => c3 ((nI_eq (b := 3) hk (by omega)).mp z))]
  by_cases c6 : k = 6
  · rw [decide_eq_true (by omega)] at q; rw [if_pos (by rw [c6]; rfl)]; exact q
  rw [if_neg (show ¬ nI k = (6 : Int32) from fun z => c6 ((nI_eq (b := 6) hk (by omega)).mp z))]
  rw [decide_eq_false (by omega)] at q; exact q
theorem nextL_m {X : Nat → Nat → Nat} {ns r now : Nat} {cl : List Cl} {sk : Bool} {S : HS} {M : Mem} {Q : Int32 → Mem → Prop} (h : mC X ns r cl M) (rm : rM X sk S M) (hw : hW X ns now S) (hne : ¬ hLf S = 0) (q : Q (nI (hNx X S)) M) : f_X12_nextLine 76 (nI r) M Q := by
  obtain ⟨hG, ⟨hx, ⟨mx0, mx⟩, mo, -, -⟩, h35, h36, h37⟩ := id h
  obtain ⟨b1, b2, b3, b4, b5, b6, b7⟩ := hW_len hx hw
  have hk6 := hx.2.2.1
  have hv9 := hx.2.2.2.2.1
  have rl := rm.2.2.2.2
  have hr : r ≤ 10 := by rcases mo with ⟨h, -⟩ | ⟨h, -⟩ <;> omega
  have vr : vp_in (nI r) 11 := vpN (by omega) (by omega)
  have er : (nI r).toNatClampNeg = r := nI_clamp (by omega)
  obtain ⟨-, v2, v3, -⟩ := hw
  have z2 : ∀ l, hq S l = [] ↔ (hq S l).length = 0 := fun l => List.length_eq_zero_iff.symm
  unfold f_X12_nextLine
  unfold hNx at q
  unfold hLf at hne
  refine ⟨oM hG, stand_m hG rl (l := 0) (by omega) ?_⟩
  by_cases c0 : hq S 0 = []
  · have c1 : ¬ hq S 1 = [] := fun z => by rw [(z2 0).mp c0, (z2 1).mp z] at hne; exact hne rfl
    rw [if_pos (by rw [c0]; rfl)]
    rw [if_neg c1, if_pos c0] at q; exact q
  rw [if_neg (nn_0 (fun z => c0 ((z2 0).mpr z)) (by omega))]
  refine ⟨oM hG, stand_m hG rl (l := 1) (by omega) ?_⟩
  by_cases c1 : hq S 1 = []
  · rw [if_pos (by rw [c1]; rfl)]
    rw [if_pos c1] at q; exact q
  rw [if_neg (nn_0 (fun z => c1 ((z2 1).mpr z)) (by omega))]
  rw [if_neg c1, if_neg c0] at q
  have J36 : ∀ kd : Int32, kd = nI (X 4 0) → f_X12_nextLine_J36 76 (nI r) kd M Q := by
    rintro kd rfl
    unfold f_X12_nextLine_J36
    refine ⟨oM hG, isF_m (by omega) ?_⟩
    by_cases k1 : X 4 0 = 1 ∨ X 4 0 = 3 ∨ X 4 0 = 6
    · rw [decide_eq_true k1, if_pos rfl]
      rw [if_pos k1] at q; exact q
    rw [decide_eq_false k1, if_neg (by decide)]
    rw [if_neg k1] at q
    have J57 : (X 4 0 = 2 ∨ X 4 0 = 4) → f_X12_nextLine_J57 76 (nI r) M Q := by
      intro k2
      rw [if_pos k2] at q
      unfold f_X12_nextLine_J57
      refine ⟨oM hG, 95, mP_g hG rfl, isA_g hG (by decide) rfl vr, ?_⟩
      rcases mo with ⟨-, z⟩ | ⟨z1, z2, z3, z4⟩
      · omega
      rw [er, z3, rm.1.2.2.2.1]
      by_cases ct : htr S < X 4 1
      · rw [if_neg (nI_ge ct (by omega))]; rw [if_pos ct] at q; exact q
      · rw [if_pos (nI_le (by omega) (by omega))]; rw [if_neg ct] at q; exact q
    by_cases k2 : X 4 0 = 2
    · rw [if_pos (by rw [k2]; rfl)]; exact J57 (Or.inl k2)
    rw [if_neg (nn_2 k2 (by omega))]
    by_cases k4 : X 4 0 = 4
    · rw [if_pos (by rw [k4]; rfl)]; exact J57 (Or.inr k4)
    rw [if_neg (show ¬ nI (X 4 0) = (4 : Int32) from fun z => k4 ((nI_eq (b := 4) (by omega) (by omega)).mp z))]
    rw [if_neg (by omega)] at q
    obtain ⟨d0, p1, p2, p3, p4⟩ := rl 0 (by omega)
    obtain ⟨d1, s1, s2, s3, s4⟩ := rl 1 (by omega)
    refine ⟨oM hG, 104, mP_g hG rfl, isA_g hG (by decide) rfl (vp_of (by decide) (by decide)), 103, mP_g hG rfl, ?_⟩
    rw [show ((1 : Int32)).toNatClampNeg = 1 from rfl, show ((0 : Int32)).toNatClampNeg = 0 from rfl, s2, p2, show (41 : Int32) = nI 41 from rfl, nI_add, nI_clamp (by omega), nI_clamp (by omega)]
    refine ⟨isA_g hG (by decide) rfl (vpN (by omega) (by omega)), isA_g hG (by decide) rfl (vp_of (by decide) (by decide)), isA_g hG (by decide) rfl (vpN (by omega) (by omega)), ?_⟩
    cases e0 : hq S 0 with
    | nil => exact absurd e0 c0
    | cons i0 r0 =>
      cases e1 : hq S 1 with
      | nil => exact absurd e1 c1
      | cons i1 r1 =>
        rw [e0, e1] at q
        have q0 := p4 0 i0 (by rw [e0]; rfl)
        have q1 := s4 0 i1 (by rw [e1]; rfl)
        have l0 := ((v3 0 (by omega)).2 i0 (by rw [e0]; exact List.mem_cons_self ..)).1
        have l1 := ((v3 1 (by omega)).2 i1 (by rw [e1]; exact List.mem_cons_self ..)).1
        rw [show 41 + d1 = 41 * 1 + d1 + 0 by omega, show d0 = 41 * 0 + d0 + 0 by omega, q0, q1]
        have q' : Q (nI (if i1 < i0 then 1 else 0)) M := q
        by_cases ci : i1 < i0
        · rw [if_neg (nI_ge ci (by omega))]; rw [if_pos ci] at q'; exact q'
        · rw [if_pos (nI_le (by omega) (by omega))]; rw [if_neg ci] at q'; exact q'
  rcases mo with ⟨rfl, z⟩ | ⟨z1, z2, z3, z4⟩
  · rw [if_pos (show nI 10 = (10 : Int32) from rfl)]
    exact J36 0 (by rw [z]; rfl)
  · rw [if_neg (show ¬ nI r = (10 : Int32) from fun z => by have := (nI_eq (b := 10) (by omega) (by omega)).mp z; omega)]
    refine ⟨oM hG, 94, mP_g hG rfl, isA_g hG (by decide) rfl vr, ?_⟩
    rw [er]
    exact J36 _ z2
