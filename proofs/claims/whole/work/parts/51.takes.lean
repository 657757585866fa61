/-! ===== the hour of the model: takes; a condition ===== -/
theorem takes_m2 {X : Nat → Nat → Nat} {ns r now : Nat} {cl : List Cl} {sk : Bool} {S : HS} {M : Mem} {Q : Mem → Prop} (h : mC X ns r cl M) (rm : rM X sk S M) (hw : hW X ns now S) (hn : mI M 76 39 = nI now) (hnow : now < 2 ^ 30) (q : ∀ M1, GF M M1 → mI M1 76 39 = nI now → (∀ j, mI M1 108 j = mI M 108 j) → rM X sk (hSv X now S) M1 → Q M1) : f_X12_takes 76 (nI r) M Q := by
  have hG := h.1
  have hx := h.2.1.1
  obtain ⟨b1, b2, b3, b4, b5, b6, b7⟩ := hW_len hx hw
  obtain ⟨⟨r1, r2, r3, r4, r5⟩, r6, r7, r8, r9⟩ := id rm
  unfold f_X12_takes
  refine ⟨oM hG, ?_⟩
  rw [hn, r3]
  unfold hSv at q
  by_cases c1 : now < hbz S
  · rw [if_pos (nI_lt c1 (by omega))]
    rw [if_pos c1] at q
    exact q M (GF.rf M) hn (fun _ => rfl) rm
  rw [if_neg c1] at q
  rw [if_neg (nI_nlt (by omega) (by omega))]
  refine stand_m hG r9 (l := 0) (by omega) ⟨oM hG, stand_m hG r9 (l := 1) (by omega) ?_⟩
  rw [nI_add]
  by_cases c2 : hLf S = 0
  · have e0 : hq S (hNx X S) = [] := by
      unfold hLf at c2
      have hl := hNx_lt X S
      generalize hNx X S = l at *
      have : l = 0 ∨ l = 1 := by omega
      rcases this with rfl | rfl
      · exact List.length_eq_zero_iff.mp (by omega)
      · exact List.length_eq_zero_iff.mp (by omega)
    rw [if_pos (by unfold hLf at c2; rw [c2]; rfl)]
    rw [if_pos e0] at q
    exact q M (GF.rf M) hn (fun _ => rfl) rm
  have hne := hLf_pos c2 X
  rw [if_neg hne] at q
  rw [if_neg (nn_0 (by unfold hLf at c2; exact c2) (by omega))]
  refine ⟨oM hG, nextL_m h rm hw c2 ⟨oM hG, ?_⟩⟩
  have hl2 := hNx_lt X S
  generalize hNx X S = l at *
  obtain ⟨-, v2, v3, v4, v5, -⟩ := id hw
  obtain ⟨u1', u2'⟩ := v3 l hl2
  obtain ⟨hd, g1, g2, g3, g4⟩ := r9 l hl2
  have vl : vp_in (nI l) 2 := vpN hl2 (by omega)
  have el : (nI l).toNatClampNeg = l := nI_clamp (by omega)
  cases hq0 : hq S l with
  | nil => exact absurd hq0 hne
  | cons i rest =>
    rw [hq0] at u1' u2' g1 g3 g4 q
    obtain ⟨a1, a2, a3⟩ := u2' i (List.mem_cons_self ..)
    have hrl : (i :: rest).length = rest.length + 1 := rfl
    have gi : mI M 103 (41 * l + hd) = nI i := g4 0 i rfl
    have vi : vp_in (nI i) 41 := vpN (by omega) (by omega)
    have ei : (nI i).toNatClampNeg = i := nI_clamp (by omega)
    have hmi := (v2 i a1).2.1
    refine ⟨104, mP_g hG rfl, isA_g hG (by decide) rfl vl, 103, mP_g hG rfl, ?_⟩
    rw [el, g2, show (41 : Int32) = nI 41 from rfl, nI_mul, nI_add, nI_clamp (by omega), gi]
    refine ⟨isA_g hG (by decide) rfl (vpN (by omega) (by omega)), isA_g hG (by decide) rfl vl, isA_g hG (by decide) rfl vl, ?_⟩
    intro M2 hE2
    rw [nI_1] at hE2
    have f2 : GF M M2 := by rw [hE2]; exact (GF.rf M).st _ (by omega)
    have e2 : ∀ a j, ¬ (a = 104 ∧ j = l) → mI M2 a j = mI M a j := fun a j c => by rw [hE2, mI_ne _ _ (by omega)]
    have y104 : mI M2 104 l = nI (hd + 1) := by rw [hE2, mI_sI_s]
    clear hE2
    have hG2 := f2.1.good hG
    have J74 : ∀ tr' : Nat, tr' = (if l = 1 then htr S + 1 else 0) → f_X12_takes_J74 76 (nI r) (nI i) (nI tr') (some 76) M2 Q := by
      intro tr' htr'
      unfold f_X12_takes_J74
      have vd : vp_in (nI (hsv S).length) 41 := vpN (by omega) (by omega)
      have ed : (nI (hsv S).length).toNatClampNeg = (hsv S).length := nI_clamp (by omega)
      refine ⟨76, rfl, oM hG2, ?_⟩
      intro M3 hE3
      have f3 : GF M M3 := by rw [hE3]; exact f2.st _ (by omega)
      have hG3 := f3.1.good hG
      have e3 : ∀ a j, ¬ (a = 104 ∧ j = l) → ¬ (a = 76 ∧ j = 34) → mI M3 a j = mI M a j := fun a j c d => by rw [hE3, mI_ne _ _ (by omega)]; exact e2 a j c
      have y34 : mI M3 76 34 = nI tr' := by rw [hE3, mI_sI_s]
      have y104 : mI M3 104 l = nI (hd + 1) := by rw [hE3, mI_ne _ _ (by omega)]; exact y104
      clear hE3
      refine ⟨oM hG3, 98, mP_g hG3 rfl, isA_g hG3 (by decide) rfl vi, 101, mP_g hG3 rfl, isA_g hG3 (by decide) rfl vi, ?_⟩
      rw [ei, e3 76 39 (by omega) (by omega), hn, e3 98 i (by omega) (by omega), (r6 i a1).2.1, pk_sub hmi]
      intro M4 hE4
      have f4 : GF M M4 := by rw [hE4]; exact f3.st _ (by omega)
      have hG4 := f4.1.good hG
      refine ⟨102, mP_g hG4 rfl, isA_g hG4 (by decide) rfl vi, ?_⟩
      rw [show mI M4 76 32 = nI (hsv S).length by rw [hE4, mI_ne _ _ (by omega), e3 _ _ (by omega) (by omega)]; exact r2]
      intro M5 hE5
      have f5 : GF M M5 := by rw [hE5]; exact f4.st _ (by omega)
      have hG5 := f5.1.good hG
      refine ⟨106, mP_g hG5 rfl, ?_⟩
      rw [show mI M5 76 32 = nI (hsv S).length by rw [hE5, mI_ne _ _ (by omega), hE4, mI_ne _ _ (by omega), e3 _ _ (by omega) (by omega)]; exact r2, ed]
      refine ⟨isA_g hG5 (by decide) rfl vd, ?_⟩
      intro M6 hE6
      have f6 : GF M M6 := by rw [hE6]; exact f5.st _ (by omega)
      have hG6 := f6.1.good hG
      refine ⟨107, mP_g hG6 rfl, ?_⟩
      rw [show mI M6 76 32 = nI (hsv S).length by rw [hE6, mI_ne _ _ (by omega), hE5, mI_ne _ _ (by omega), hE4, mI_ne _ _ (by omega), e3 _ _ (by omega) (by omega)]; exact r2, ed, show mI M6 76 39 = nI now by rw [hE6, mI_ne _ _ (by omega), hE5, mI_ne _ _ (by omega), hE4, mI_ne _ _ (by omega), e3 _ _ (by omega) (by omega)]; exact hn]
      refine ⟨isA_g hG6 (by decide) rfl vd, ?_⟩
      intro M7 hE7
      intro M8 hE8
      have f8 : GF M M8 := by rw [hE8, hE7]; exact (f6.st _ (by omega)).st _ (by omega)
      have e8 : ∀ a j, ¬ (a = 104 ∧ j = l) → ¬ (a = 76 ∧ (j = 34 ∨ j = 32)) → ¬ ((a = 101 ∨ a = 102) ∧ j = i) → ¬ ((a = 106 ∨ a = 107) ∧ j = (hsv S).length) → mI M8 a j = mI M a j := fun a j d1 d2 d3 d4 => by
        rw [hE8, mI_ne _ _ (by omega), hE7, mI_ne _ _ (by omega), hE6, mI_ne _ _ (by omega), hE5, mI_ne _ _ (by omega), hE4, mI_ne _ _ (by omega)]; exact e3 a j (by omega) (by omega)
      have k34 : mI M8 76 34 = nI tr' := by rw [hE8, mI_ne _ _ (by omega), hE7, mI_ne _ _ (by omega), hE6, mI_ne _ _ (by omega), hE5, mI_ne _ _ (by omega), hE4, mI_ne _ _ (by omega)]; exact y34
      have k104 : mI M8 104 l = nI (hd + 1) := by rw [hE8, mI_ne _ _ (by omega), hE7, mI_ne _ _ (by omega), hE6, mI_ne _ _ (by omega), hE5, mI_ne _ _ (by omega), hE4, mI_ne _ _ (by omega)]; exact y104
      have k101 : mI M8 101 i = nI (now - (gC (hcm S) i).2.1) := by rw [hE8, mI_ne _ _ (by omega), hE7, mI_ne _ _ (by omega), hE6, mI_ne _ _ (by omega), hE5, mI_ne _ _ (by omega), hE4, mI_sI_s]
      have k102 : mI M8 102 i = nI (hsv S).length := by rw [hE8, mI_ne _ _ (by omega), hE7, mI_ne _ _ (by omega), hE6, mI_ne _ _ (by omega), hE5, mI_sI_s]
      have k106 : mI M8 106 (hsv S).length = nI i := by rw [hE8, mI_ne _ _ (by omega), hE7, mI_ne _ _ (by omega), hE6, mI_sI_s]
      have k107 : mI M8 107 (hsv S).length = nI now := by rw [hE8, mI_ne _ _ (by omega), hE7, mI_sI_s]
      have k32 : mI M8 76 32 = nI ((hsv S).length + 1) := by
        rw [hE8, mI_sI_s, hE7, mI_ne _ _ (by omega), hE6, mI_ne _ _ (by omega), hE5, mI_ne _ _ (by omega), hE4, mI_ne _ _ (by omega), e3 _ _ (by omega) (by omega), r2, nI_1]
      clear hE4 hE5 hE6 hE7 hE8
      refine timeM (mC_fr h f8) (by omega) (v2 i a1).1 ((e8 _ _ (by omega) (by omega) (by omega) (by omega)).trans (r6 i a1).1) ⟨oM (f8.1.good hG), ?_⟩
      rw [e8 76 39 (by omega) (by omega) (by omega) (by omega), hn, nI_add]
      intro M9 hE9
      have f9 : GF M M9 := by rw [hE9]; exact f8.st _ (by omega)
      have e9 : ∀ a j, ¬ (a = 104 ∧ j = l) → ¬ (a = 76 ∧ (j = 34 ∨ j = 32 ∨ j = 33)) → ¬ ((a = 101 ∨ a = 102) ∧ j = i) → ¬ ((a = 106 ∨ a = 107) ∧ j = (hsv S).length) → mI M9 a j = mI M a j := fun a j d1 d2 d3 d4 => by
        rw [hE9, mI_ne _ _ (by omega)]; exact e8 a j d1 (by omega) d3 d4
      have n9 : ∀ a j, ¬ (a = 76 ∧ j = 33) → mI M9 a j = mI M8 a j := fun a j d => by rw [hE9, mI_ne _ _ (by omega)]
      have k33 : mI M9 76 33 = nI (now + tmX X (gC (hcm S) i).1) := by rw [hE9, mI_sI_s]
      clear hE9
      refine q M9 f9 (by rw [e9 _ _ (by omega) (by omega) (by omega) (by omega)]; exact hn) (fun j => e9 _ _ (by omega) (by omega) (by omega) (by omega)) ?_
      unfold hS1
      have hsl : (hsv S ++ [((i, now) : Nat × Nat)]).length = (hsv S).length + 1 := List.length_append
      have hm : (hsv S ++ [((i, now) : Nat × Nat)]).map (·.1) = (hsv S).map (·.1) ++ [i] := List.map_append
      refine ⟨⟨?_, ?_, ?_, ?_, fun e => ?_⟩, fun j hj => ?_, fun k e he => ?_, fun j hj hnj => ?_, fun k hk => ?_⟩
      · exact (e9 _ _ (by omega) (by omega) (by omega) (by omega)).trans r1
      · show mI M9 76 32 = nI (hsv S ++ [((i, now) : Nat × Nat)]).length
        rw [hsl, n9 _ _ (by omega)]; exact k32
      · exact k33
      · rw [n9 _ _ (by omega), k34, htr']; rfl
      · exact (e9 _ _ (by omega) (by omega) (by omega) (by omega)).trans (r5 e)
      · show mI M9 97 j = _ ∧ mI M9 98 j = _ ∧ mI M9 99 j = _ ∧ mI M9 100 j = _
        rw [e9 97 j (by omega) (by omega) (by omega) (by omega), e9 98 j (by omega) (by omega) (by omega) (by omega), e9 99 j (by omega) (by omega) (by omega) (by omega), e9 100 j (by omega) (by omega) (by omega) (by omega)]
        exact r6 j hj
      · replace he : (hsv S ++ [((i, now) : Nat × Nat)])[k]? = some e := he
        show mI M9 106 k = _ ∧ mI M9 107 k = _ ∧ mI M9 101 e.1 = nI (e.2 - (gC (hcm S) e.1).2.1) ∧ mI M9 102 e.1 = _
        by_cases ek : k = (hsv S).length
        · subst ek
          rw [List.getElem?_append_right (Nat.le_refl _), Nat.sub_self] at he
          injection he with he
          subst he
          rw [n9 _ _ (by omega), n9 _ _ (by omega), n9 _ _ (by omega), n9 _ _ (by omega)]
          exact ⟨k106, k107, k101, k102⟩
        · have hkl := (List.getElem?_eq_some_iff.mp he).1
          rw [hsl] at hkl
          rw [List.getElem?_append_left (by omega)] at he
          have hne : e.1 ≠ i := fun z => a3 (List.mem_map.mpr ⟨e, List.mem_of_getElem? he, z⟩)
          rw [e9 106 k (by omega) (by omega) (by omega) (by omega), e9 107 k (by omega) (by omega) (by omega) (by omega), e9 101 e.1 (by omega) (by omega) (by omega) (by omega), e9 102 e.1 (by omega) (by omega) (by omega) (by omega)]
          exact r7 k e he
      · replace hnj : j ∉ (hsv S ++ [((i, now) : Nat × Nat)]).map (·.1) := hnj
        rw [hm] at hnj
        have hne : j ≠ i := fun z => hnj (List.mem_append.mpr (Or.inr (List.mem_singleton.mpr z)))
        rw [e9 101 j (by omega) (by omega) (by omega) (by omega), e9 102 j (by omega) (by omega) (by omega) (by omega)]
        exact r8 j hj (fun z => hnj (List.mem_append.mpr (Or.inl z)))
      · show ∃ h, h + (u1 (hq S) l (hq S l).tail k).length ≤ (hcm S).length ∧ mI M9 104 k = nI h ∧ mI M9 105 k = nI (h + (u1 (hq S) l (hq S l).tail k).length) ∧ ∀ k' i', (u1 (hq S) l (hq S l).tail k)[k']? = some i' → mI M9 103 (41 * k + h + k') = nI i'
        rw [u1_if, hq0]
        by_cases ek : k = l
        · subst ek
          rw [if_pos rfl, n9 _ _ (by omega), k104]
          refine ⟨hd + 1, ?_, rfl, ?_, fun k' i' hi' => ?_⟩
          · show hd + 1 + rest.length ≤ _; omega
          · rw [e9 105 k (by omega) (by omega) (by omega) (by omega), g3]
            show nI (hd + (rest.length + 1)) = nI (hd + 1 + rest.length)
            rw [show hd + (rest.length + 1) = hd + 1 + rest.length by omega]
          · rw [e9 103 _ (by omega) (by omega) (by omega) (by omega), show 41 * k + (hd + 1) + k' = 41 * k + hd + (k' + 1) by omega]
            exact g4 (k' + 1) i' hi'
        · rw [if_neg ek]
          obtain ⟨hd', o1, o2, o3, o4⟩ := r9 k hk
          refine ⟨hd', o1, ?_, ?_, fun k' i' hi' => ?_⟩
          · rw [e9 104 k (by omega) (by omega) (by omega) (by omega)]; exact o2
          · rw [e9 105 k (by omega) (by omega) (by omega) (by omega)]; exact o3
          · rw [e9 103 _ (by omega) (by omega) (by omega) (by omega)]; exact o4 k' i' hi'
    by_cases c : l = 0
    · rw [if_pos (by rw [c]; rfl)]
      exact J74 0 (by rw [if_neg (by omega)])
    · rw [if_neg (nn_0 c (by omega)), e2 76 34 (by omega), r4, nI_1]
      exact J74 _ (by rw [if_pos (by omega)])
