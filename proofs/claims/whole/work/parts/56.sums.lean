/-! ===== what came of the hour: sums, by the class ===== -/
def sm (g : Nat → Nat) : Nat → Nat
  | 0 => 0
  | k + 1 => sm g k + g k
theorem sm_ext {g h : Nat → Nat} : ∀ {n : Nat}, (∀ k, k < n → g k = h k) → sm g n = sm h n
  | 0, _ => rfl
  | n + 1, e => by
    show sm g n + g n = sm h n + h n
    rw [sm_ext (fun k hk => e k (by omega)), e n (by omega)]
theorem sm_le {g : Nat → Nat} {b : Nat} : ∀ {n : Nat}, (∀ k, k < n → g k ≤ b) → sm g n ≤ b * n
  | 0, _ => Nat.zero_le _
  | n + 1, e => by
    have h1 := sm_le (n := n) (fun k hk => e k (by omega))
    have h2 := e n (by omega)
    show sm g n + g n ≤ b * (n + 1)
    rw [Nat.mul_add]; omega
theorem sumL {body : (Int32 × Int32 × Mem → Prop) → Int32 × Int32 × Mem → Prop} (N : Nat) (hN : N < 2 ^ 31) (g : Nat → Nat) {M : Mem} (step : ∀ (K : Int32 × Int32 × Mem → Prop) (k : Nat), k ≤ N → (k < N → K (nI (sm g k + g k), nI k + 1, M)) → body K (nI (sm g k), nI k, M)) : loopP body (0, 0, M) := by
  refine ⟨fun z => ∃ k, k ≤ N ∧ z = (nI (sm g k), nI k, M), fun z => N - z.2.1.toNatClampNeg, ⟨0, Nat.zero_le _, rfl⟩, ?_⟩
  rintro z ⟨k, hk, rfl⟩
  refine step _ k hk (fun hlt => ⟨⟨k + 1, hlt, by rw [nI_1]; rfl⟩, ?_⟩)
  show N - (nI k + 1).toNatClampNeg < N - (nI k).toNatClampNeg
  rw [nI_1, nI_clamp (by omega), nI_clamp (by omega)]; omega
/-- how long one waited; in the class's and the model's words -/
def wtN (S : HS) (i : Nat) : Nat := (svAt (hsv S) i).getD 0 - (gC (hcm S) i).2.1
def aWt (S : HS) (i : Nat) : Int32 := if (gC (hcm S) i).2.2.1 = 2 then -5 else nI (wtN S i)
def gPe (S : HS) (i : Nat) : Nat := (gC (hcm S) i).2.2.2
def gHm (S : HS) (l i : Nat) : Nat := if (gC (hcm S) i).2.2.1 = l then 1 else 0
def gLo (X : Nat → Nat → Nat) (S : HS) (i : Nat) : Nat := X 0 (gC (hcm S) i).1 * wtN S i
def gLi (X : Nat → Nat → Nat) (S : HS) (i : Nat) : Nat := if (gC (hcm S) i).2.2.1 = 2 then 0 else gLo X S i
def gLs (X : Nat → Nat → Nat) (S : HS) (s i : Nat) : Nat := if (gC (hcm S) i).1 = s then (if (gC (hcm S) i).2.2.1 = 2 then X 1 s else X 0 s * wtN S i + gPe S i) else 0
def gSt (S : HS) (l j i : Nat) : Nat := if stP S l j i = true then 1 else 0
def aPe (S : HS) : Nat := sm (gPe S) (hcm S).length
def aHm (S : HS) (l : Nat) : Nat := sm (gHm S l) (hcm S).length
def aLo (X : Nat → Nat → Nat) (S : HS) : Nat := sm (gLi X S) (hcm S).length
def aLs (X : Nat → Nat → Nat) (S : HS) (s : Nat) : Nat := sm (gLs X S s) (hcm S).length
/-- the end of an hour: nobody stands any more -/
def hFi (X : Nat → Nat → Nat) (ns : Nat) (S : HS) : Prop := hX X ns ∧ hW X ns 1700 S ∧ hLf S = 0
theorem fi_in {X : Nat → Nat → Nat} {ns i : Nat} {S : HS} (h : hFi X ns S) (hi : i < (hcm S).length) (hl : ¬ (gC (hcm S) i).2.2.1 = 2) : ∃ k : Nat, ∃ e : Nat × Nat, (hsv S)[k]? = some e ∧ e.1 = i ∧ svAt (hsv S) i = some e.2 := by
  obtain ⟨-, ⟨-, v2, v3, v4, v5, v6⟩, h0⟩ := h
  have hq : ∀ l, l < 2 → hq S l = [] := by
    intro l hl
    unfold hLf at h0
    have : l = 0 ∨ l = 1 := by omega
    rcases this with rfl | rfl
    · exact List.length_eq_zero_iff.mp (by omega)
    · exact List.length_eq_zero_iff.mp (by omega)
  have h2 := (v2 i hi).2.2.2
  rcases v6 i hi with z | z | z
  · exact absurd z hl
  · rw [hq _ (by omega)] at z; exact absurd z List.not_mem_nil
  · obtain ⟨e, he, rfl⟩ := List.mem_map.mp z
    obtain ⟨k, hk⟩ := List.mem_iff_getElem?.mp he
    exact ⟨k, e, hk, rfl, svAt_in v5 he⟩
theorem fi_out {X : Nat → Nat → Nat} {ns i : Nat} {S : HS} (h : hFi X ns S) (hl : (gC (hcm S) i).2.2.1 = 2) : i ∉ (hsv S).map (·.1) := by
  intro z
  obtain ⟨e, he, rfl⟩ := List.mem_map.mp z
  have := (h.2.1.2.2.2.1 e he).2.1
  omega
/-- the class's memory at the end of an hour -/
def eC (X : Nat → Nat → Nat) (ns oa w : Nat) (cl : List Cl) (S : HS) (M : Mem) : Prop := cC X ns oa w cl M ∧ rC X S M ∧ hFi X ns S
theorem eC_b {X : Nat → Nat → Nat} {ns oa w : Nat} {cl : List Cl} {S : HS} {M : Mem} (h : eC X ns oa w cl S M) : (hcm S).length ≤ 40 ∧ (hsv S).length ≤ 40 := by
  have := hW_len h.2.2.1 h.2.2.2.1
  omega
theorem waits_c {X : Nat → Nat → Nat} {ns oa w i : Nat} {cl : List Cl} {S : HS} {M : Mem} {Q : Int32 → Mem → Prop} (h : eC X ns oa w cl S M) (hi : i < (hcm S).length) (q : Q (aWt S i) M) : f_X3_waits 29 (nI i) M Q := by
  have hb := eC_b h
  obtain ⟨⟨hG, -⟩, ⟨⟨r1, -⟩, r6, r7, -⟩, hf⟩ := h
  obtain ⟨c1, c2, c3, c4⟩ := r6 i hi
  have hl := (hf.2.1.2.1 i hi).2.2.2
  have vi : vp_in (nI i) 40 := vpN (by omega) (by omega)
  have ei : (nI i).toNatClampNeg = i := nI_clamp (by omega)
  unfold f_X3_waits
  rw [if_neg (nI_pos (by omega))]
  refine ⟨oH hG, ?_⟩
  rw [r1, if_neg (nI_ge hi (by omega))]
  refine ⟨32, mP_g hG rfl, isA_g hG (by decide) rfl vi, ?_⟩
  rw [ei, c3]
  unfold aWt at q
  by_cases e : (gC (hcm S) i).2.2.1 = 2
  · rw [if_pos (by rw [e]; rfl)]
    rw [if_pos e] at q; exact q
  · rw [if_neg (nn_2 e (by omega))]
    rw [if_neg e] at q
    obtain ⟨k, p, hp, rfl, hs⟩ := fi_in hf hi e
    have hle := (hf.2.1.2.2.2.1 p (List.mem_of_getElem? hp)).2.2.1
    refine ⟨34, mP_g hG rfl, isA_g hG (by decide) rfl vi, 31, mP_g hG rfl, isA_g hG (by decide) rfl vi, ?_⟩
    rw [(r7 k p hp).2, c2, pk_sub hle]
    unfold wtN at q
    rw [hs] at q; exact q
theorem rank_c {X : Nat → Nat → Nat} {ns oa w i : Nat} {cl : List Cl} {S : HS} {M : Mem} {Q : Int32 → Mem → Prop} (h : eC X ns oa w cl S M) (hi : i < (hcm S).length) (q1 : ∀ k e, (hsv S)[k]? = some e → e.1 = i → Q (nI k) M) (q2 : i ∉ (hsv S).map (·.1) → Q (-5) M) : f_X3_rank 29 (nI i) M Q := by
  have hb := eC_b h
  obtain ⟨⟨hG, -⟩, ⟨⟨-, r2, -⟩, r6, r7, -⟩, hf⟩ := h
  unfold f_X3_rank f_X3_rank_L2
  refine cnt (hsv S).length (by omega) (fun k N => N = M ∧ i ∉ ((hsv S).take k).map (·.1)) ⟨rfl, by simp⟩ ?_
  rintro K k N hk ⟨rfl, hI⟩ hK
  show f_X3_rank_B2 29 (nI i) (nI k) N K Q
  unfold f_X3_rank_B2
  refine ⟨oH hG, ?_⟩
  rw [r2]
  by_cases hkl : k < (hsv S).length
  · rw [if_neg (nI_ge hkl (by omega))]
    obtain ⟨e, he⟩ : ∃ e, (hsv S)[k]? = some e := ⟨(hsv S)[k], List.getElem?_eq_getElem hkl⟩
    have hel := (hf.2.1.2.2.2.1 e (List.mem_of_getElem? he)).1
    refine ⟨35, mP_g hG rfl, isA_g hG (by decide) rfl (vpN (by omega) (by omega)), ?_⟩
    rw [nI_clamp (by omega), (r7 k e he).1]
    by_cases c : e.1 = i
    · rw [if_pos (by rw [c])]; exact q1 k e he c
    · rw [if_neg (by rw [nI_eq (by omega) (by omega)]; exact c)]
      refine hK hkl N ⟨rfl, ?_⟩
      rw [take_one he, List.map_append, List.mem_append]
      rintro (z | z)
      · exact hI z
      · rw [List.map_cons, List.map_nil, List.mem_singleton] at z; exact c z.symm
  · obtain rfl : k = (hsv S).length := by omega
    rw [if_pos (nI_le (Nat.le_refl _) (by omega))]
    rw [List.take_length] at hI
    exact q2 hI
theorem many_c {X : Nat → Nat → Nat} {ns oa w l : Nat} {cl : List Cl} {S : HS} {M : Mem} {Q : Int32 → Mem → Prop} (h : eC X ns oa w cl S M) (hl : l < 2 ^ 31) (q : Q (nI (aHm S l)) M) : f_X3_howMany 29 (nI l) M Q := by
  have hb := eC_b h
  obtain ⟨⟨hG, -⟩, ⟨⟨r1, -⟩, r6, r7, -⟩, hf⟩ := h
  unfold f_X3_howMany f_X3_howMany_L4
  refine sumL (hcm S).length (by omega) (gHm S l) ?_
  rintro K k hk hK
  show f_X3_howMany_B4 29 (nI l) (nI (sm (gHm S l) k)) (nI k) M K Q
  unfold f_X3_howMany_B4 f_X3_howMany_J25
  refine ⟨oH hG, ?_⟩
  rw [r1]
  by_cases hkl : k < (hcm S).length
  · rw [if_neg (nI_ge hkl (by omega))]
    have h2 := (hf.2.1.2.1 k hkl).2.2.2
    have hK := hK hkl
    refine ⟨32, mP_g hG rfl, isA_g hG (by decide) rfl (vpN (by omega) (by omega)), ?_⟩
    rw [nI_clamp (by omega), (r6 k hkl).2.2.1]
    unfold gHm at hK ⊢
    by_cases c : (gC (hcm S) k).2.2.1 = l
    · rw [if_pos (by rw [c]), nI_1]
      rw [if_pos c] at hK; exact hK
    · rw [if_neg (by rw [nI_eq (by omega) hl]; exact c)]
      rw [if_neg c] at hK; exact hK
  · obtain rfl : k = (hcm S).length := by omega
    rw [if_pos (nI_le (Nat.le_refl _) (by omega))]
    exact q
theorem pence_c {X : Nat → Nat → Nat} {ns oa w : Nat} {cl : List Cl} {S : HS} {M : Mem} {Q : Int32 → Mem → Prop} (h : eC X ns oa w cl S M) (q : Q (nI (aPe S)) M) : f_X3_pence 29 M Q := by
  have hb := eC_b h
  obtain ⟨⟨hG, -⟩, ⟨⟨r1, -⟩, r6, r7, -⟩, hf⟩ := h
  unfold f_X3_pence f_X3_pence_L4
  refine sumL (hcm S).length (by omega) (gPe S) ?_
  rintro K k hk hK
  show f_X3_pence_B4 29 (nI (sm (gPe S) k)) (nI k) M K Q
  unfold f_X3_pence_B4
  refine ⟨oH hG, ?_⟩
  rw [r1]
  by_cases hkl : k < (hcm S).length
  · rw [if_neg (nI_ge hkl (by omega))]
    refine ⟨33, mP_g hG rfl, isA_g hG (by decide) rfl (vpN (by omega) (by omega)), ?_⟩
    rw [nI_clamp (by omega), (r6 k hkl).2.2.2, nI_add]
    exact hK hkl
  · obtain rfl : k = (hcm S).length := by omega
    rw [if_pos (nI_le (Nat.le_refl _) (by omega))]
    exact q
theorem lost_c {X : Nat → Nat → Nat} {ns oa w : Nat} {cl : List Cl} {S : HS} {M : Mem} {Q : Int32 → Mem → Prop} (h : eC X ns oa w cl S M) (q : Q (nI (aLo X S)) M) : f_X3_lost 29 M Q := by
  have hb := eC_b h
  have h' := h
  obtain ⟨⟨hG, hx, hcx, -⟩, ⟨⟨r1, -⟩, r6, r7, -⟩, hf⟩ := h
  have hns := hx.1
  unfold f_X3_lost f_X3_lost_L4
  refine sumL (hcm S).length (by omega) (gLi X S) ?_
  rintro K k hk hK
  show f_X3_lost_B4 29 (nI (sm (gLi X S) k)) (nI k) M K Q
  unfold f_X3_lost_B4 f_X3_lost_J44
  refine ⟨oH hG, ?_⟩
  rw [r1]
  by_cases hkl : k < (hcm S).length
  · rw [if_neg (nI_ge hkl (by omega))]
    obtain ⟨c1, c2, c3, c4⟩ := r6 k hkl
    have hK := hK hkl
    have h2 := (hf.2.1.2.1 k hkl).2.2.2
    have hso := (hf.2.1.2.1 k hkl).1
    have vk : vp_in (nI k) 40 := vpN (by omega) (by omega)
    have ek : (nI k).toNatClampNeg = k := nI_clamp (by omega)
    refine ⟨32, mP_g hG rfl, isA_g hG (by decide) rfl vk, ?_⟩
    rw [ek, c3]
    unfold gLi at hK ⊢
    by_cases c : (gC (hcm S) k).2.2.1 = 2
    · rw [if_pos (by rw [c]; rfl)]
      rw [if_pos c] at hK; exact hK
    · rw [if_neg (nn_2 c (by omega))]
      rw [if_neg c] at hK
      refine ⟨30, mP_g hG rfl, isA_g hG (by decide) rfl vk, 1, mP_g hG rfl, ?_⟩
      rw [c1]
      refine ⟨isA_g hG (by decide) rfl (vpN (by omega) (by omega)), 2 + (gC (hcm S) k).1, by rw [nI_clamp (by omega)]; exact p_row hG (by omega), a_row hG (by omega) (vp_of (by decide) (by decide)), ?_⟩
      refine waits_c h' hkl ?_
      unfold aWt
      rw [if_neg c, show ((0 : Int32)).toNatClampNeg = 0 from rfl, hcx _ hso 0 (by omega), nI_mul, nI_add]
      exact hK
  · obtain rfl : k = (hcm S).length := by omega
    rw [if_pos (nI_le (Nat.le_refl _) (by omega))]
    exact q
theorem loss_c {X : Nat → Nat → Nat} {ns oa w s : Nat} {cl : List Cl} {S : HS} {M : Mem} {Q : Int32 → Mem → Prop} (h : eC X ns oa w cl S M) (hs : s < ns) (q : Q (nI (aLs X S s)) M) : f_X3_lossOf 29 (nI s) M Q := by
  have hb := eC_b h
  have h' := h
  obtain ⟨⟨hG, hx, hcx, -⟩, ⟨⟨r1, -⟩, r6, r7, -⟩, hf⟩ := h
  have hns := hx.1
  unfold f_X3_lossOf f_X3_lossOf_L4
  refine sumL (hcm S).length (by omega) (gLs X S s) ?_
  rintro K k hk hK
  show f_X3_lossOf_B4 29 (nI s) (nI (sm (gLs X S s) k)) (nI k) M K Q
  unfold f_X3_lossOf_B4 f_X3_lossOf_J65 f_X3_lossOf_J67
  refine ⟨oH hG, ?_⟩
  rw [r1]
  by_cases hkl : k < (hcm S).length
  · rw [if_neg (nI_ge hkl (by omega))]
    obtain ⟨c1, c2, c3, c4⟩ := r6 k hkl
    have hK := hK hkl
    have h2 := (hf.2.1.2.1 k hkl).2.2.2
    have hso := (hf.2.1.2.1 k hkl).1
    have vk : vp_in (nI k) 40 := vpN (by omega) (by omega)
    have ek : (nI k).toNatClampNeg = k := nI_clamp (by omega)
    have vs : vp_in (nI s) 6 := vpN (by omega) (by omega)
    have ps : mP M 1 (nI s).toNatClampNeg = some (2 + s) := by rw [nI_clamp (by omega)]; exact p_row hG (by omega)
    refine ⟨30, mP_g hG rfl, isA_g hG (by decide) rfl vk, ?_⟩
    rw [ek, c1]
    unfold gLs at hK ⊢
    by_cases cs : (gC (hcm S) k).1 = s
    · rw [if_pos (by rw [cs])]
      rw [if_pos cs] at hK
      refine ⟨32, mP_g hG rfl, isA_g hG (by decide) rfl vk, ?_⟩
      rw [c3]
      by_cases c : (gC (hcm S) k).2.2.1 = 2
      · rw [if_pos (by rw [c]; rfl)]
        rw [if_pos c] at hK
        refine ⟨1, mP_g hG rfl, isA_g hG (by decide) rfl vs, 2 + s, ps, a_row hG (by omega) (vp_of (by decide) (by decide)), ?_⟩
        rw [show ((1 : Int32)).toNatClampNeg = 1 from rfl, hcx _ hs 1 (by omega), nI_add]; exact hK
      · rw [if_neg (nn_2 c (by omega))]
        rw [if_neg c] at hK
        refine ⟨1, mP_g hG rfl, isA_g hG (by decide) rfl vs, 2 + s, ps, a_row hG (by omega) (vp_of (by decide) (by decide)), ?_⟩
        refine waits_c h' hkl ⟨oH hG, 33, mP_g hG rfl, isA_g hG (by decide) rfl vk, ?_⟩
        unfold aWt
        rw [if_neg c, show ((0 : Int32)).toNatClampNeg = 0 from rfl, hcx _ hs 0 (by omega), c4, nI_mul, nI_add, nI_add]
        exact hK
    · rw [if_neg (by rw [nI_eq (by omega) (by omega)]; exact cs)]
      rw [if_neg cs] at hK; exact hK
  · obtain rfl : k = (hcm S).length := by omega
    rw [if_pos (nI_le (Nat.le_refl _) (by omega))]
    exact q
theorem sm_fil (P : Nat → Bool) : ∀ n, ((List.range n).filter P).length = sm (fun i => if P i = true then 1 else 0) n
  | 0 => rfl
  | n + 1 => by
    rw [List.range_succ, List.filter_append, List.length_append, sm_fil P n]
    show _ = sm _ n + (if P n = true then 1 else 0)
    by_cases c : P n = true
    · rw [List.filter_cons_of_pos c, if_pos c]; rfl
    · rw [List.filter_cons_of_neg c, if_neg c]; rfl
theorem stood_c {X : Nat → Nat → Nat} {ns oa w l j : Nat} {cl : List Cl} {S : HS} {M : Mem} {Q : Int32 → Mem → Prop} (h : eC X ns oa w cl S M) (hl : l < 2) (hj : j < 100) (q : Q (nI (sCn S l j)) M) : f_X3_stoodAt 29 (nI l) (nI j) M Q := by
  have hb := eC_b h
  obtain ⟨⟨hG, hx, hcx, -⟩, ⟨⟨r1, -⟩, r6, r7, -⟩, hf⟩ := h
  unfold f_X3_stoodAt f_X3_stoodAt_L5
  unfold sCn at q
  rw [sm_fil] at q
  refine sumL (hcm S).length (by omega) (fun i => if stP S l j i = true then 1 else 0) ?_
  rintro K k hk hK
  show f_X3_stoodAt_B5 29 (nI l) (nI j) (nI (sm (fun i => if stP S l j i = true then 1 else 0) k)) (nI k) M K Q
  unfold f_X3_stoodAt_B5 f_X3_stoodAt_J50
  refine ⟨oH hG, ?_⟩
  rw [r1]
  by_cases hkl : k < (hcm S).length
  · rw [if_neg (nI_ge hkl (by omega))]
    obtain ⟨c1, c2, c3, c4⟩ := r6 k hkl
    have hK : K (nI (sm (fun i => if stP S l j i = true then 1 else 0) k + (if stP S l j k = true then 1 else 0)), nI k + 1, M) := hK hkl
    obtain ⟨-, h60, h61, h2⟩ := hf.2.1.2.1 k hkl
    have vk : vp_in (nI k) 40 := vpN (by omega) (by omega)
    have ek : (nI k).toNatClampNeg = k := nI_clamp (by omega)
    have no : stP S l j k = false → K (nI (sm (fun i => if stP S l j i = true then 1 else 0) k), nI k + 1, M) := by
      intro e
      rw [e, if_neg (by decide)] at hK; exact hK
    refine ⟨32, mP_g hG rfl, isA_g hG (by decide) rfl vk, ?_⟩
    rw [ek, c3]
    by_cases c : (gC (hcm S) k).2.2.1 = l
    · rw [if_pos (by rw [c])]
      refine ⟨31, mP_g hG rfl, isA_g hG (by decide) rfl vk, ?_⟩
      rw [c2]
      by_cases cm : (gC (hcm S) k).2.1 ≤ j
      · rw [if_neg (nI_nlt cm (by omega))]
        refine ⟨34, mP_g hG rfl, isA_g hG (by decide) rfl vk, ?_⟩
        obtain ⟨k', p, hp, hp1, hs⟩ := fi_in hf hkl (by omega)
        have h34 := (r7 k' p hp).2
        rw [hp1] at h34
        have hb2 := (hf.2.1.2.2.2.1 p (List.mem_of_getElem? hp)).2.2.2
        rw [h34]
        have est : stP S l j k = decide (j < p.2) := by
          unfold stP
          rw [hs, c, beq_self_eq_true, decide_eq_true cm]; rfl
        by_cases ca : j < p.2
        · rw [if_neg (nI_ge ca (by omega)), nI_1]
          rw [est, decide_eq_true ca, if_pos rfl] at hK; exact hK
        · rw [if_pos (nI_le (by omega) (by omega))]
          exact no (by rw [est, decide_eq_false ca])
      · rw [if_pos (nI_lt (by omega) (by omega))]
        refine no ?_
        unfold stP
        rw [decide_eq_false cm, Bool.false_and, Bool.and_false]
    · rw [if_neg (by rw [nI_eq (by omega) (by omega)]; exact c)]
      refine no ?_
      unfold stP
      rw [beq_eq_false_iff_ne.mpr c, Bool.false_and]
  · obtain rfl : k = (hcm S).length := by omega
    rw [if_pos (nI_le (Nat.le_refl _) (by omega))]
    exact q
