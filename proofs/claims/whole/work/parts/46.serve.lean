/-! ===== the hour of the class: who is next, the whole hour ===== -/
theorem first_c {X : Nat → Nat → Nat} {ns oa w now l : Nat} {cl : List Cl} {S : HS} {M : Mem} {Q : Int32 → Mem → Prop} (h : cC X ns oa w cl M) (r : rC X S M) (hw : hW X ns now S) (hnow : now < 2 ^ 30) (hl : l < 2) (q : Q (hdI (hq S l)) M) : f_X3_firstOf 29 (nI l) M Q := by
  have hG := h.1
  have hL := hW_len h.2.1 hw
  have hlen : (hq S l).length ≤ 40 := by
    have : l = 0 ∨ l = 1 := by omega
    rcases this with rfl | rfl <;> omega
  obtain ⟨⟨r1, r2, r3, r4, r5⟩, r6, r7, r8⟩ := r
  obtain ⟨g1, g2, g3⟩ := r8 l hl
  obtain ⟨-, v2, v3, v4, v5, v6⟩ := hw
  obtain ⟨u1', u2'⟩ := v3 l hl
  unfold f_X3_firstOf
  have el : (nI l).toNatClampNeg = l := nI_clamp (by omega)
  refine ⟨oH hG, 36, mP_g hG rfl, isA_g hG (by decide) rfl (vpN hl (by omega)), ?_⟩
  rw [el, g1]
  cases hq0 : hq S l with
  | nil => rw [hq0] at q; rw [if_pos (by decide)]; exact q
  | cons a rest =>
    rw [hq0] at q u1' u2' hlen g3
    rw [if_neg (nI_nle (by show 0 < rest.length + 1; omega) (by omega))]
    obtain ⟨a1, a2, a3⟩ := u2' a (List.mem_cons_self ..)
    have srt := (List.pairwise_cons.mp u1').1
    unfold f_X3_firstOf_L11
    refine cnt (hcm S).length (by omega) (fun k N => N = M ∧ k ≤ a) ⟨rfl, Nat.zero_le _⟩ ?_
    rintro K k N hk ⟨rfl, hka⟩ hK
    show f_X3_firstOf_B11 29 (nI l) (nI k) N K Q
    unfold f_X3_firstOf_B11 f_X3_firstOf_J40
    refine ⟨oH hG, ?_⟩
    rw [r1, if_neg (nI_ge (by omega) (by omega))]
    have vk : vp_in (nI k) 40 := vpN (by omega) (by omega)
    obtain ⟨c1, c2, c3, c4⟩ := r6 k (by omega)
    have hl2 := (v2 k (by omega)).2.2.2
    refine ⟨32, mP_g hG rfl, isA_g hG (by decide) rfl vk, ?_⟩
    rw [nI_clamp (by omega), c3]
    by_cases e : k = a
    · subst e
      rw [a2, if_pos rfl]
      refine ⟨34, mP_g hG rfl, isA_g hG (by decide) rfl vk, ?_⟩
      rw [g3 k (List.mem_cons_self ..), if_neg (by decide)]
      exact q
    · have nx : K (nI k + 1, N) := hK (by omega) N ⟨rfl, by omega⟩
      by_cases e2 : (gC (hcm S) k).2.2.1 = l
      · rw [if_pos (by rw [e2])]
        refine ⟨34, mP_g hG rfl, isA_g hG (by decide) rfl vk, ?_⟩
        have hin := v6 k (by omega)
        rw [e2, hq0] at hin
        rcases hin with z | z | z
        · omega
        · rcases List.mem_cons.mp z with z | z
          · exact absurd z e
          · have := srt k z; omega
        · obtain ⟨p, hp, hp1⟩ := List.mem_map.mp z
          obtain ⟨i, hi⟩ := List.mem_iff_getElem?.mp hp
          have z1 := (r7 i p hi).2
          have z2 := (v4 p hp)
          subst hp1
          rw [z1]
          have : p.2 < 2 ^ 31 ∨ 2 ^ 31 ≤ p.2 := by omega
          rcases this with z3 | z3
          · rw [if_pos (nI_pos' z3)]; exact nx
          · have := z2.2.2.2
            omega
      · rw [if_neg (by rw [nI_eq (by omega) (by omega)]; exact e2)]
        exact nx
theorem hdI_neg {l : List Nat} (h : ∀ i, i ∈ l → i < 2 ^ 31) : hdI l < 0 ↔ l = [] := by
  cases l with
  | nil => exact ⟨fun _ => rfl, fun _ => by decide⟩
  | cons i r => exact ⟨fun c => absurd c (nI_pos (h i (List.mem_cons_self ..))), fun c => by cases c⟩
theorem serve_c {X : Nat → Nat → Nat} {ns oa w now : Nat} {cl : List Cl} {S : HS} {M : Mem} {Q : Mem → Prop} (h : cC X ns oa w cl M) (r : rC X S M) (hw : hW X ns now S) (hn : mI M 29 15 = nI now) (hnow : now < 2 ^ 30) (q : ∀ M1, HF M M1 → mI M1 29 15 = nI now → rC X (hSv X now S) M1 → Q M1) : f_X3_serve 29 M Q := by
  obtain ⟨hG, hx, hcx, ho, -, -, -, -, po, -, h13, h14⟩ := id h
  obtain ⟨b1, b2, b3, b4, b5, b6, b7⟩ := hW_len hx hw
  obtain ⟨⟨r1, r2, r3, r4, r5⟩, r6, r7, r8⟩ := id r
  obtain ⟨⟨x1, x2, x3, x4⟩, v2, v3, v4, v5, v6⟩ := id hw
  have hv9 := hx.2.2.2.2.1
  have hqb : ∀ l i, l < 2 → i ∈ hq S l → i < 2 ^ 31 := fun l i hl hi => by have := ((v3 l hl).2 i hi).1; omega
  unfold f_X3_serve
  refine ⟨oH hG, ?_⟩
  rw [r3, hn]
  unfold hSv at q
  by_cases c1 : now < hbz S
  · rw [if_neg (nI_ge c1 (by omega))]
    rw [if_pos c1] at q
    exact q M (HF.rf M) hn r
  rw [if_neg c1] at q
  rw [if_pos (nI_le (by omega) (by omega))]
  refine first_c h r hw hnow (l := 1) (by omega) ⟨oH hG, first_c h r hw hnow (l := 0) (by omega) ⟨oH hG, oa, po, ?_⟩⟩
  rw [r4]
  refine nxt_c ho (by omega) (by omega) hqb ?_
  have hl2 := hNx_lt X S
  generalize hNx X S = l at *
  obtain ⟨u1', u2'⟩ := v3 l hl2
  obtain ⟨g1, g2, g3⟩ := r8 l hl2
  by_cases c2 : hq S l = []
  · rw [if_pos ((hdI_neg (fun i hi => hqb l i hl2 hi)).mpr c2)]
    rw [if_pos c2] at q
    exact q M (HF.rf M) hn r
  rw [if_neg c2] at q
  rw [if_neg (fun e => c2 ((hdI_neg (fun i hi => hqb l i hl2 hi)).mp e))]
  have hsm : (hq S l).length ≤ (hq S 0).length + (hq S 1).length := by
    have : l = 0 ∨ l = 1 := by omega
    rcases this with rfl | rfl <;> omega
  cases hq0 : hq S l with
  | nil => exact absurd hq0 c2
  | cons i rest =>
    rw [hq0] at q u1' u2' g3 g1 g2 hsm
    obtain ⟨a1, a2, a3⟩ := u2' i (List.mem_cons_self ..)
    have hrl : (i :: rest).length = rest.length + 1 := rfl
    have i40 : i < 40 := by omega
    obtain ⟨k1, k2, k3, k4⟩ := r6 i a1
    have hso := (v2 i a1).1
    have hns := hx.1
    rw [hdI_cons]
    refine ⟨oH hG, ?_⟩
    rw [r2, if_pos (show nI (hsv S).length < (40 : Int32) from nI_lt (b := 40) (by omega) (by omega))]
    have vi : vp_in (nI i) 40 := vpN i40 (by omega)
    have ei : (nI i).toNatClampNeg = i := nI_clamp (by omega)
    refine ⟨32, mP_g hG rfl, isA_g hG (by decide) rfl vi, 30, mP_g hG rfl, isA_g hG (by decide) rfl vi, ?_⟩
    rw [ei, k1, k3, a2]
    refine time_c hG hns hcx h14 hso ?_
    have J82 : ∀ tr' : Nat, tr' = (if l = 1 then htr S + 1 else 0) → f_X3_serve_J82 29 (nI i) (nI l) (nI (tmX X (gC (hcm S) i).1)) (nI tr') (some 29) M Q := by
      intro tr' htr'
      unfold f_X3_serve_J82
      have vl : vp_in (nI l) 2 := vpN hl2 (by omega)
      have el : (nI l).toNatClampNeg = l := nI_clamp (by omega)
      have es : (nI (hsv S).length).toNatClampNeg = (hsv S).length := nI_clamp (by omega)
      refine ⟨29, rfl, oH hG, ?_⟩
      intro M2 hE2
      have f2 : HF M M2 := by rw [hE2]; exact (HF.rf M).st _ (by omega)
      have hG2 := f2.1.good hG
      refine ⟨oH hG2, 36, mP_g hG2 rfl, isA_g hG2 (by decide) rfl vl, isA_g hG2 (by decide) rfl vl, ?_⟩
      rw [el]
      intro M3 hE3
      have f3 : HF M M3 := by rw [hE3]; exact f2.st _ (by omega)
      have hG3 := f3.1.good hG
      refine ⟨37, mP_g hG3 rfl, isA_g hG3 (by decide) rfl vl, isA_g hG3 (by decide) rfl vl, ?_⟩
      intro M4 hE4
      have f4 : HF M M4 := by rw [hE4]; exact f3.st _ (by omega)
      have hG4 := f4.1.good hG
      refine ⟨34, mP_g hG4 rfl, isA_g hG4 (by decide) rfl vi, ?_⟩
      rw [ei]
      intro M5 hE5
      have f5 : HF M M5 := by rw [hE5]; exact f4.st _ (by omega)
      intro M6 hE6
      have f6 : HF M M6 := by rw [hE6]; exact f5.st _ (by omega)
      have hG6 := f6.1.good hG
      have z4 : mI M4 29 15 = nI now := by rw [hE4, mI_ne _ _ (by omega), hE3, mI_ne _ _ (by omega), hE2, mI_ne _ _ (by omega)]; exact hn
      have z5 : mI M5 29 15 = nI now := by rw [hE5, mI_ne _ _ (by omega)]; exact z4
      have z6 : mI M6 29 7 = nI (hsv S).length := by rw [hE6, mI_ne _ _ (by omega), hE5, mI_ne _ _ (by omega), hE4, mI_ne _ _ (by omega), hE3, mI_ne _ _ (by omega), hE2, mI_ne _ _ (by omega)]; exact r2
      refine ⟨35, mP_g hG6 rfl, ?_⟩
      rw [z6, es]
      refine ⟨isA_g hG6 (by decide) rfl (vpN (by omega) (by omega)), ?_⟩
      intro M7 hE7
      intro M8 hE8
      have f8 : HF M M8 := by rw [hE8, hE7]; exact (f6.st _ (by omega)).st _ (by omega)
      have e8 : ∀ a j, ¬ (a = 29 ∧ (j = 18 ∨ j = 9 ∨ j = 7)) → ¬ ((a = 36 ∨ a = 37) ∧ j = l) → ¬ (a = 34 ∧ j = i) → ¬ (a = 35 ∧ j = (hsv S).length) → mI M8 a j = mI M a j := fun a j q1 q2 q3 q4 => by
        rw [hE8, mI_ne _ _ (by omega), hE7, mI_ne _ _ (by omega), hE6, mI_ne _ _ (by omega), hE5, mI_ne _ _ (by omega), hE4, mI_ne _ _ (by omega), hE3, mI_ne _ _ (by omega), hE2, mI_ne _ _ (by omega)]
      have y18 : mI M8 29 18 = nI tr' := by
        rw [hE8, mI_ne _ _ (by omega), hE7, mI_ne _ _ (by omega), hE6, mI_ne _ _ (by omega), hE5, mI_ne _ _ (by omega), hE4, mI_ne _ _ (by omega), hE3, mI_ne _ _ (by omega), hE2, mI_sI_s]
      have y36 : mI M8 36 l = mI M 36 l - 1 := by
        rw [hE8, mI_ne _ _ (by omega), hE7, mI_ne _ _ (by omega), hE6, mI_ne _ _ (by omega), hE5, mI_ne _ _ (by omega), hE4, mI_ne _ _ (by omega), hE3, mI_sI_s, hE2, mI_ne _ _ (by omega)]
      have y37 : mI M8 37 l = mI M 37 l - nI (tmX X (gC (hcm S) i).1) := by
        rw [hE8, mI_ne _ _ (by omega), hE7, mI_ne _ _ (by omega), hE6, mI_ne _ _ (by omega), hE5, mI_ne _ _ (by omega), hE4, mI_sI_s, hE3, mI_ne _ _ (by omega), hE2, mI_ne _ _ (by omega)]
      have y34 : mI M8 34 i = nI now := by
        rw [hE8, mI_ne _ _ (by omega), hE7, mI_ne _ _ (by omega), hE6, mI_ne _ _ (by omega), hE5, mI_sI_s]; exact z4
      have y9 : mI M8 29 9 = nI (now + tmX X (gC (hcm S) i).1) := by
        rw [hE8, mI_ne _ _ (by omega), hE7, mI_ne _ _ (by omega), hE6, mI_sI_s, z5, nI_add]
      have y35 : mI M8 35 (hsv S).length = nI i := by
        rw [hE8, mI_ne _ _ (by omega), hE7, mI_sI_s]
      have y7 : mI M8 29 7 = nI ((hsv S).length + 1) := by
        rw [hE8, mI_sI_s, hE7, mI_ne _ _ (by omega), z6, nI_1]
      clear hE2 hE3 hE4 hE5 hE6 hE7 hE8
      refine q M8 f8 (by rw [e8 _ _ (by omega) (by omega) (by omega) (by omega)]; exact hn) ?_
      unfold hS1
      have hsl : (hsv S ++ [((i, now) : Nat × Nat)]).length = (hsv S).length + 1 := List.length_append
      refine ⟨⟨?_, ?_, ?_, ?_, ?_⟩, fun j hj => ?_, fun k e he => ?_, fun k hk => ?_⟩
      · exact (e8 _ _ (by omega) (by omega) (by omega) (by omega)).trans r1
      · show mI M8 29 7 = nI (hsv S ++ [((i, now) : Nat × Nat)]).length
        rw [hsl]; exact y7
      · exact y9
      · rw [y18, htr']; rfl
      · exact (e8 _ _ (by omega) (by omega) (by omega) (by omega)).trans r5
      · show mI M8 30 j = _ ∧ mI M8 31 j = _ ∧ mI M8 32 j = _ ∧ mI M8 33 j = _
        rw [e8 30 j (by omega) (by omega) (by omega) (by omega), e8 31 j (by omega) (by omega) (by omega) (by omega), e8 32 j (by omega) (by omega) (by omega) (by omega), e8 33 j (by omega) (by omega) (by omega) (by omega)]
        exact r6 j hj
      · replace he : (hsv S ++ [((i, now) : Nat × Nat)])[k]? = some e := he
        by_cases ek : k = (hsv S).length
        · subst ek
          rw [List.getElem?_append_right (Nat.le_refl _), Nat.sub_self] at he
          injection he with he
          subst he
          exact ⟨y35, y34⟩
        · have hkl := (List.getElem?_eq_some_iff.mp he).1
          rw [hsl] at hkl
          rw [List.getElem?_append_left (by omega)] at he
          have hne : e.1 ≠ i := fun z => a3 (List.mem_map.mpr ⟨e, List.mem_of_getElem? he, z⟩)
          rw [e8 35 k (by omega) (by omega) (by omega) (by omega), e8 34 e.1 (by omega) (by omega) (by omega) (by omega)]
          exact r7 k e he
      · show mI M8 36 k = nI (u1 (hq S) l (hq S l).tail k).length ∧ mI M8 37 k = nI (qtm X (hcm S) (u1 (hq S) l (hq S l).tail k)) ∧ ∀ j, j ∈ u1 (hq S) l (hq S l).tail k → mI M8 34 j = -1
        rw [u1_if, hq0]
        by_cases ek : k = l
        · subst ek
          rw [if_pos rfl, y36, y37, g1, g2]
          refine ⟨?_, ?_, fun j hj => ?_⟩
          · rw [hrl, nI_pred]; rfl
          · show nI (tmX X (gC (hcm S) i).1 + qtm X (hcm S) rest) - _ = nI (qtm X (hcm S) rest)
            rw [pk_sub (by omega), Nat.add_sub_cancel_left]
          · have hne : j ≠ i := fun z => by
              subst z
              have := (List.pairwise_cons.mp u1').1 j hj
              omega
            rw [e8 34 j (by omega) (by omega) (by omega) (by omega)]
            exact g3 j (List.mem_cons_of_mem _ hj)
        · rw [if_neg ek, e8 36 k (by omega) (by omega) (by omega) (by omega), e8 37 k (by omega) (by omega) (by omega) (by omega)]
          obtain ⟨o1, o2, o3⟩ := r8 k hk
          refine ⟨o1, o2, fun j hj => ?_⟩
          have hne : j ≠ i := fun z => by
            subst z
            have := ((v3 k hk).2 j hj).2.1
            omega
          rw [e8 34 j (by omega) (by omega) (by omega) (by omega)]
          exact o3 j hj
    by_cases c : l = 1
    · rw [if_pos (by rw [c]; rfl)]
      refine ⟨oH hG, ?_⟩
      rw [r4, nI_1]
      exact J82 _ (by rw [if_pos c])
    · rw [if_neg (nn_1 c (by omega))]
      exact J82 0 (by rw [if_neg c])
