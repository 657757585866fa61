/-! ===== what came of the hour: sums, by the model ===== -/
def eM (X : Nat → Nat → Nat) (ns r : Nat) (cl : List Cl) (sk : Bool) (S : HS) (M : Mem) : Prop := mC X ns r cl M ∧ rM X sk S M ∧ hFi X ns S
theorem eM_b {X : Nat → Nat → Nat} {ns r : Nat} {cl : List Cl} {sk : Bool} {S : HS} {M : Mem} (h : eM X ns r cl sk S M) : (hcm S).length ≤ 40 ∧ (hsv S).length ≤ 40 := by
  have := hW_len h.2.2.1 h.2.2.2.1
  omega
theorem waitM {X : Nat → Nat → Nat} {ns r i : Nat} {cl : List Cl} {sk : Bool} {S : HS} {M : Mem} (h : eM X ns r cl sk S M) (hi : i < (hcm S).length) : mI M 101 i = aWt S i := by
  obtain ⟨-, ⟨-, r6, r7, r8, -⟩, hf⟩ := h
  unfold aWt
  by_cases e : (gC (hcm S) i).2.2.1 = 2
  · rw [if_pos e]; exact (r8 i hi (fi_out hf e)).1
  · rw [if_neg e]
    obtain ⟨k, p, hp, rfl, hs⟩ := fi_in hf hi e
    rw [(r7 k p hp).2.2.1]
    unfold wtN
    rw [hs]; rfl
theorem lost_m {X : Nat → Nat → Nat} {ns r : Nat} {cl : List Cl} {sk : Bool} {S : HS} {M : Mem} {Q : Int32 → Mem → Prop} (h : eM X ns r cl sk S M) (q : Q (nI (aLo X S)) M) : f_X12_lost 76 M Q := by
  have hb := eM_b h
  obtain ⟨⟨hG, ⟨hx, ⟨-, mx⟩, -⟩, -⟩, ⟨⟨-, r2, -⟩, r6, r7, r8, -⟩, hf⟩ := h
  have hns := hx.1
  rw [lost_eq hf] at q
  unfold f_X12_lost f_X12_lost_L4
  refine sumL (hsv S).length (by omega) (gLk X S) ?_
  rintro K k hk hK
  show f_X12_lost_B4 76 (nI (sm (gLk X S) k)) (nI k) M K Q
  unfold f_X12_lost_B4
  refine ⟨oM hG, ?_⟩
  rw [r2]
  by_cases hkl : k < (hsv S).length
  · rw [if_neg (nI_ge hkl (by omega))]
    obtain ⟨e, he⟩ : ∃ e, (hsv S)[k]? = some e := ⟨(hsv S)[k], List.getElem?_eq_getElem hkl⟩
    have hel := (hf.2.1.2.2.2.1 e (List.mem_of_getElem? he)).1
    have hso := (hf.2.1.2.1 e.1 hel).1
    obtain ⟨s1, s2, s3, s4⟩ := r7 k e he
    have m0 : mI M 77 (gC (hcm S) e.1).1 = nI (X 0 (gC (hcm S) e.1).1) := mx _ hso 0 (by omega)
    have hK := hK hkl
    have eg : gLk X S k = X 0 (gC (hcm S) e.1).1 * (e.2 - (gC (hcm S) e.1).2.1) := by unfold gLk so_; rw [getD_of he]
    rw [eg] at hK
    have vk : vp_in (nI k) 41 := vpN (by omega) (by omega)
    have ve : vp_in (nI e.1) 41 := vpN (by omega) (by omega)
    refine ⟨106, mP_g hG rfl, isA_g hG (by decide) rfl vk, 97, mP_g hG rfl, ?_⟩
    rw [nI_clamp (n := k) (by omega), s1, nI_clamp (n := e.1) (by omega)]
    refine ⟨isA_g hG (by decide) rfl ve, 77, mP_g hG rfl, ?_⟩
    rw [(r6 _ hel).1, nI_clamp (n := (gC (hcm S) e.1).1) (by omega)]
    refine ⟨isA_g hG (by decide) rfl (vpN (by omega) (by omega)), isA_g hG (by decide) rfl vk, 101, mP_g hG rfl, isA_g hG (by decide) rfl ve, ?_⟩
    rw [m0, s3, nI_mul, nI_add]
    exact hK
  · obtain rfl : k = (hsv S).length := by omega
    rw [if_pos (nI_le (Nat.le_refl _) (by omega))]
    exact q
theorem pence_m {X : Nat → Nat → Nat} {ns r : Nat} {cl : List Cl} {sk : Bool} {S : HS} {M : Mem} {Q : Int32 → Mem → Prop} (h : eM X ns r cl sk S M) (q : Q (nI (aPe S)) M) : f_X12_pence 76 M Q := by
  have hb := eM_b h
  obtain ⟨⟨hG, -⟩, ⟨⟨r1, -⟩, r6, -⟩, -⟩ := h
  unfold f_X12_pence f_X12_pence_L4
  refine sumL (hcm S).length (by omega) (gPe S) ?_
  rintro K k hk hK
  show f_X12_pence_B4 76 (nI (sm (gPe S) k)) (nI k) M K Q
  unfold f_X12_pence_B4
  refine ⟨oM hG, ?_⟩
  rw [r1]
  by_cases hkl : k < (hcm S).length
  · rw [if_neg (nI_ge hkl (by omega))]
    refine ⟨100, mP_g hG rfl, isA_g hG (by decide) rfl (vpN (by omega) (by omega)), ?_⟩
    rw [nI_clamp (by omega), (r6 k hkl).2.2.2, nI_add]
    exact hK hkl
  · obtain rfl : k = (hcm S).length := by omega
    rw [if_pos (nI_le (Nat.le_refl _) (by omega))]
    exact q
theorem many_m {X : Nat → Nat → Nat} {ns r l : Nat} {cl : List Cl} {sk : Bool} {S : HS} {M : Mem} {Q : Int32 → Mem → Prop} (h : eM X ns r cl sk S M) (hl : l < 2 ^ 31) (q : Q (nI (aHm S l)) M) : f_X12_inLine 76 (nI l) M Q := by
  have hb := eM_b h
  obtain ⟨⟨hG, -⟩, ⟨⟨r1, -⟩, r6, -⟩, hf⟩ := h
  unfold f_X12_inLine f_X12_inLine_L4
  refine sumL (hcm S).length (by omega) (gHm S l) ?_
  rintro K k hk hK
  show f_X12_inLine_B4 76 (nI l) (nI (sm (gHm S l) k)) (nI k) M K Q
  unfold f_X12_inLine_B4 f_X12_inLine_J28
  refine ⟨oM hG, ?_⟩
  rw [r1]
  by_cases hkl : k < (hcm S).length
  · rw [if_neg (nI_ge hkl (by omega))]
    have h2 := (hf.2.1.2.1 k hkl).2.2.2
    have hK := hK hkl
    refine ⟨99, mP_g hG rfl, isA_g hG (by decide) rfl (vpN (by omega) (by omega)), ?_⟩
    rw [nI_clamp (by omega), (r6 k hkl).2.2.1]
    by_cases c : (gC (hcm S) k).2.2.1 = l
    · rw [if_pos (by rw [c])]
      have eg : gHm S l k = 1 := if_pos c
      rw [eg] at hK
      show K (nI (sm (gHm S l) k) + nI 1, nI k + 1, M)
      rw [nI_add]; exact hK
    · rw [if_neg (by rw [nI_eq (by omega) hl]; exact c)]
      have eg : gHm S l k = 0 := if_neg c
      rw [eg] at hK
      show K (nI (sm (gHm S l) k) + nI 0, nI k + 1, M)
      rw [nI_add]; exact hK
  · obtain rfl : k = (hcm S).length := by omega
    rw [if_pos (nI_le (Nat.le_refl _) (by omega))]
    exact q
theorem loss_m {X : Nat → Nat → Nat} {ns r s : Nat} {cl : List Cl} {sk : Bool} {S : HS} {M : Mem} {Q : Int32 → Mem → Prop} (h : eM X ns r cl sk S M) (hs : s < ns) (q : Q (nI (aLs X S s)) M) : f_X12_lossOf 76 (nI s) M Q := by
  have hb := eM_b h
  have h' := h
  obtain ⟨⟨hG, ⟨hx, ⟨-, mx⟩, -⟩, -⟩, ⟨⟨r1, -⟩, r6, -⟩, hf⟩ := h
  have hns := hx.1
  have m0 : mI M 77 s = nI (X 0 s) := mx _ hs 0 (by omega)
  have m1 : mI M 78 s = nI (X 1 s) := mx _ hs 1 (by omega)
  unfold f_X12_lossOf f_X12_lossOf_L4
  refine sumL (hcm S).length (by omega) (gLs X S s) ?_
  rintro K k hk hK
  show f_X12_lossOf_B4 76 (nI s) (nI (sm (gLs X S s) k)) (nI k) M K Q
  unfold f_X12_lossOf_B4 f_X12_lossOf_J62 f_X12_lossOf_J64
  refine ⟨oM hG, ?_⟩
  rw [r1]
  by_cases hkl : k < (hcm S).length
  · rw [if_neg (nI_ge hkl (by omega))]
    obtain ⟨c1, c2, c3, c4⟩ := r6 k hkl
    have hK := hK hkl
    have h2 := (hf.2.1.2.1 k hkl).2.2.2
    have hso := (hf.2.1.2.1 k hkl).1
    have vk : vp_in (nI k) 41 := vpN (by omega) (by omega)
    have ek : (nI k).toNatClampNeg = k := nI_clamp (by omega)
    have es : (nI s).toNatClampNeg = s := nI_clamp (by omega)
    have vs : vp_in (nI s) 6 := vpN (by omega) (by omega)
    refine ⟨97, mP_g hG rfl, isA_g hG (by decide) rfl vk, ?_⟩
    rw [ek, c1]
    unfold gLs at hK ⊢
    by_cases cs : (gC (hcm S) k).1 = s
    · rw [if_pos (by rw [cs])]
      rw [if_pos cs] at hK
      refine ⟨99, mP_g hG rfl, isA_g hG (by decide) rfl vk, ?_⟩
      rw [c3]
      by_cases c : (gC (hcm S) k).2.2.1 = 2
      · rw [if_pos (by rw [c]; rfl)]
        rw [if_pos c] at hK
        refine ⟨78, mP_g hG rfl, isA_g hG (by decide) rfl vs, ?_⟩
        rw [es, m1, nI_add]; exact hK
      · rw [if_neg (nn_2 c (by omega))]
        rw [if_neg c] at hK
        refine ⟨77, mP_g hG rfl, isA_g hG (by decide) rfl vs, 101, mP_g hG rfl, isA_g hG (by decide) rfl vk, 100, mP_g hG rfl, isA_g hG (by decide) rfl vk, ?_⟩
        have ew := waitM h' hkl
        unfold aWt at ew
        rw [if_neg c] at ew
        rw [es, m0, ew, c4, nI_mul, nI_add, nI_add]
        exact hK
    · rw [if_neg (by rw [nI_eq (by omega) (by omega)]; exact cs)]
      rw [if_neg cs] at hK; exact hK
  · obtain rfl : k = (hcm S).length := by omega
    rw [if_pos (nI_le (Nat.le_refl _) (by omega))]
    exact q
theorem sell_m {X : Nat → Nat → Nat} {ns r : Nat} {cl : List Cl} {sk : Bool} {S : HS} {M : Mem} {x1 : Int32} {Q : Int32 → Mem → Prop} (h : eM X ns r cl sk S M) (q : Q (nI (aSe X S)) M) : f_X12_sell_L19 76 x1 0 1 M Q := by
  have hb := eM_b h
  obtain ⟨hmC, ⟨⟨r1, r2, -⟩, r6, r7, -⟩, hf⟩ := h
  obtain ⟨hG, ⟨hx, ⟨-, mx⟩, -⟩, -⟩ := id hmC
  have hns := hx.1
  unfold f_X12_sell_L19
  refine sumL1 (max 1 (hsv S).length) (by omega) (by omega) (gSe X S) rfl ?_
  rintro K k hk hK
  show f_X12_sell_B19 76 x1 (nI (sm (gSe X S) (k + 1))) (nI (k + 1)) M K Q
  unfold f_X12_sell_B19 f_X12_sell_J108 f_X12_sell_J109
  refine ⟨oM hG, ?_⟩
  rw [r2]
  by_cases hkl : k + 1 < (hsv S).length
  · rw [if_neg (nI_ge hkl (by omega))]
    obtain ⟨a, ha⟩ : ∃ e, (hsv S)[k]? = some e := ⟨(hsv S)[k], List.getElem?_eq_getElem (by omega)⟩
    obtain ⟨b, hb'⟩ : ∃ e, (hsv S)[k + 1]? = some e := ⟨(hsv S)[k + 1], List.getElem?_eq_getElem hkl⟩
    have al := (hf.2.1.2.2.2.1 a (List.mem_of_getElem? ha)).1
    have bl := (hf.2.1.2.2.2.1 b (List.mem_of_getElem? hb')).1
    have as_ := (hf.2.1.2.1 a.1 al).1
    have bs_ := (hf.2.1.2.1 b.1 bl).1
    have ta := (tmS_le hx as_).2
    have tb := (tmS_le hx bs_).2
    have wa' := (hx.2.1 _ as_).1
    have wb' := (hx.2.1 _ bs_).1
    have m1 : X 0 (gC (hcm S) b.1).1 * tmX X (gC (hcm S) a.1).1 ≤ 9 * 38 := Nat.mul_le_mul wb' ta
    have m2 : X 0 (gC (hcm S) a.1).1 * tmX X (gC (hcm S) b.1).1 ≤ 9 * 38 := Nat.mul_le_mul wa' tb
    have m0a : mI M 77 (gC (hcm S) a.1).1 = nI (X 0 (gC (hcm S) a.1).1) := mx _ as_ 0 (by omega)
    have m0b : mI M 77 (gC (hcm S) b.1).1 = nI (X 0 (gC (hcm S) b.1).1) := mx _ bs_ 0 (by omega)
    have hK : K (nI (sm (gSe X S) (k + 1) + gSe X S (k + 1)), nI (k + 1) + 1, M) := hK (by omega)
    have e1 : so_ S k = (gC (hcm S) a.1).1 := by unfold so_; rw [getD_of ha]
    have e2 : so_ S (k + 1) = (gC (hcm S) b.1).1 := by unfold so_; rw [getD_of hb']
    have eg : gSe X S (k + 1) = if (gC (hcm S) a.1).1 = (gC (hcm S) b.1).1 then 0 else if X 0 (gC (hcm S) a.1).1 * tmX X (gC (hcm S) b.1).1 < X 0 (gC (hcm S) b.1).1 * tmX X (gC (hcm S) a.1).1 then 1 else 0 := by
      unfold gSe; rw [if_neg (by omega), Nat.add_sub_cancel, e1, e2]
    rw [eg] at hK
    have va : vp_in (nI a.1) 41 := vpN (by omega) (by omega)
    have vb : vp_in (nI b.1) 41 := vpN (by omega) (by omega)
    have ea : (nI a.1).toNatClampNeg = a.1 := nI_clamp (by omega)
    have eb : (nI b.1).toNatClampNeg = b.1 := nI_clamp (by omega)
    have k0 : K (nI (sm (gSe X S) (k + 1) + 0), nI (k + 1) + 1, M) → K (nI (sm (gSe X S) (k + 1)) + 0, nI (k + 1) + 1, M) := fun z => by
      show K (nI (sm (gSe X S) (k + 1)) + nI 0, nI (k + 1) + 1, M)
      rw [nI_add]; exact z
    refine ⟨106, mP_g hG rfl, ?_⟩
    rw [nI_pred, nI_clamp (n := k) (by omega), nI_clamp (n := k + 1) (by omega), (r7 k a ha).1, (r7 _ b hb').1, ea, eb]
    refine ⟨isA_g hG (by decide) rfl (vpN (by omega) (by omega)), isA_g hG (by decide) rfl (vpN (by omega) (by omega)), 97, mP_g hG rfl, isA_g hG (by decide) rfl va, isA_g hG (by decide) rfl vb, ?_⟩
    rw [(r6 _ al).1, (r6 _ bl).1]
    by_cases c : (gC (hcm S) a.1).1 = (gC (hcm S) b.1).1
    · rw [if_pos (by rw [c])]
      rw [if_pos c] at hK; exact k0 hK
    · rw [if_neg (by rw [nI_eq (by omega) (by omega)]; exact c)]
      rw [if_neg c] at hK
      refine ⟨isA_g hG (by decide) rfl vb, 77, mP_g hG rfl, isA_g hG (by decide) rfl (vpN (by omega) (by omega)), ?_⟩
      refine timeM hmC (by omega) as_ (r6 _ al).1 ⟨oM hG, 97, mP_g hG rfl, isA_g hG (by decide) rfl va, 77, mP_g hG rfl, ?_⟩
      rw [(r6 _ al).1]
      refine ⟨isA_g hG (by decide) rfl (vpN (by omega) (by omega)), ?_⟩
      refine timeM hmC (by omega) bs_ (r6 _ bl).1 ?_
      rw [nI_clamp (n := (gC (hcm S) a.1).1) (by omega), nI_clamp (n := (gC (hcm S) b.1).1) (by omega), m0a, m0b, nI_mul, nI_mul]
      by_cases cc : X 0 (gC (hcm S) a.1).1 * tmX X (gC (hcm S) b.1).1 < X 0 (gC (hcm S) b.1).1 * tmX X (gC (hcm S) a.1).1
      · rw [if_neg (nI_ge cc (by omega))]
        rw [if_pos cc] at hK
        show K (nI (sm (gSe X S) (k + 1)) + nI 1, nI (k + 1) + 1, M)
        rw [nI_add]; exact hK
      · rw [if_pos (nI_le (by omega) (by omega))]
        rw [if_neg cc] at hK; exact k0 hK
  · rw [if_pos (nI_le (by omega) (by omega))]
    have : k + 1 = max 1 (hsv S).length := by omega
    rw [this]; exact q
