/-! ===== what came of the hour: sums, by both ===== -/
def so_ (S : HS) (k : Nat) : Nat := (gC (hcm S) ((hsv S).getD k (0, 0)).1).1
def gSe (X : Nat → Nat → Nat) (S : HS) (k : Nat) : Nat := if k = 0 then 0 else if so_ S (k - 1) = so_ S k then 0 else if X 0 (so_ S (k - 1)) * tmX X (so_ S k) < X 0 (so_ S k) * tmX X (so_ S (k - 1)) then 1 else 0
def aSe (X : Nat → Nat → Nat) (S : HS) : Nat := sm (gSe X S) (max 1 (hsv S).length)
theorem sumL1 {body : (Int32 × Int32 × Mem → Prop) → Int32 × Int32 × Mem → Prop} (N : Nat) (hN : N < 2 ^ 31) (h1 : 1 ≤ N) (g : Nat → Nat) (g0 : g 0 = 0) {M : Mem} (step : ∀ (K : Int32 × Int32 × Mem → Prop) (k : Nat), k < N → (k + 1 < N → K (nI (sm g (k + 1) + g (k + 1)), nI (k + 1) + 1, M)) → body K (nI (sm g (k + 1)), nI (k + 1), M)) : loopP body (0, 1, M) := by
  refine ⟨fun z => ∃ k, k < N ∧ z = (nI (sm g (k + 1)), nI (k + 1), M), fun z => N - z.2.1.toNatClampNeg, ⟨0, h1, by show _ = (nI (0 + g 0), nI 1, M); rw [g0]; rfl⟩, ?_⟩
  rintro z ⟨k, hk, rfl⟩
  refine step _ k hk (fun hlt => ⟨⟨k + 1, hlt, by rw [nI_1]; rfl⟩, ?_⟩)
  show N - (nI (k + 1) + 1).toNatClampNeg < N - (nI (k + 1)).toNatClampNeg
  rw [nI_1, nI_clamp (by omega), nI_clamp (by omega)]; omega
theorem getD_of {sv : List (Nat × Nat)} {k : Nat} {e : Nat × Nat} (h : sv[k]? = some e) : sv.getD k (0, 0) = e := by
  rw [List.getD_eq_getElem?_getD, h]; rfl
theorem sales_c {X : Nat → Nat → Nat} {ns oa w : Nat} {cl : List Cl} {S : HS} {M : Mem} {Q : Int32 → Mem → Prop} (h : eC X ns oa w cl S M) (q : Q (nI (aSe X S)) M) : f_X3_sales 29 M Q := by
  have hb := eC_b h
  obtain ⟨⟨hG, hx, hcx, -, -, -, -, -, -, -, -, h14⟩, ⟨⟨r1, r2, -⟩, r6, r7, -⟩, hf⟩ := h
  have hns := hx.1
  unfold f_X3_sales f_X3_sales_L4
  refine sumL1 (max 1 (hsv S).length) (by omega) (by omega) (gSe X S) rfl ?_
  rintro K k hk hK
  show f_X3_sales_B4 29 (nI (sm (gSe X S) (k + 1))) (nI (k + 1)) M K Q
  unfold f_X3_sales_B4 f_X3_sales_J81
  refine ⟨oH hG, ?_⟩
  rw [r2]
  by_cases hkl : k + 1 < (hsv S).length
  · rw [if_neg (nI_ge hkl (by omega))]
    obtain ⟨a, ha⟩ : ∃ e, (hsv S)[k]? = some e := ⟨(hsv S)[k], List.getElem?_eq_getElem (by omega)⟩
    obtain ⟨b, hb'⟩ : ∃ e, (hsv S)[k + 1]? = some e := ⟨(hsv S)[k + 1], List.getElem?_eq_getElem hkl⟩
    have al := (hf.2.1.2.2.2.1 a (List.mem_of_getElem? ha)).1
    have bl := (hf.2.1.2.2.2.1 b (List.mem_of_getElem? hb')).1
    have as_ := (hf.2.1.2.1 a.1 al).1
    have bs_ := (hf.2.1.2.1 b.1 bl).1
    have ta := (tmS_le hx as_).2
    have tb := (tmS_le hx bs_).2
    have wa' := (hx.2.1 _ as_).1
    have wb' := (hx.2.1 _ bs_).1
    have m1 : X 0 (gC (hcm S) b.1).1 * tmX X (gC (hcm S) a.1).1 ≤ 9 * 38 := Nat.mul_le_mul wb' ta
    have m2 : X 0 (gC (hcm S) a.1).1 * tmX X (gC (hcm S) b.1).1 ≤ 9 * 38 := Nat.mul_le_mul wa' tb
    have hK : K (nI (sm (gSe X S) (k + 1) + gSe X S (k + 1)), nI (k + 1) + 1, M) := hK (by omega)
    have e1 : so_ S k = (gC (hcm S) a.1).1 := by unfold so_; rw [getD_of ha]
    have e2 : so_ S (k + 1) = (gC (hcm S) b.1).1 := by unfold so_; rw [getD_of hb']
    have eg : gSe X S (k + 1) = if (gC (hcm S) a.1).1 = (gC (hcm S) b.1).1 then 0 else if X 0 (gC (hcm S) a.1).1 * tmX X (gC (hcm S) b.1).1 < X 0 (gC (hcm S) b.1).1 * tmX X (gC (hcm S) a.1).1 then 1 else 0 := by
      unfold gSe; rw [if_neg (by omega), Nat.add_sub_cancel, e1, e2]
    rw [eg] at hK
    have vs : ∀ s, s < ns → vp_in (nI s) 6 := fun s hs => vpN (by omega) (by omega)
    have ps : ∀ s, s < ns → mP M 1 (nI s).toNatClampNeg = some (2 + s) := fun s hs => by rw [nI_clamp (by omega)]; exact p_row hG (by omega)
    refine ⟨35, mP_g hG rfl, ?_⟩
    rw [nI_pred, nI_clamp (by omega), nI_clamp (by omega), (r7 k a ha).1, (r7 _ b hb').1, nI_clamp (by omega), nI_clamp (by omega)]
    refine ⟨isA_g hG (by decide) rfl (vpN (by omega) (by omega)), 30, mP_g hG rfl, isA_g hG (by decide) rfl (vpN (by omega) (by omega)), isA_g hG (by decide) rfl (vpN (by omega) (by omega)), isA_g hG (by decide) rfl (vpN (by omega) (by omega)), ?_⟩
    rw [(r6 _ al).1, (r6 _ bl).1]
    by_cases c : (gC (hcm S) a.1).1 = (gC (hcm S) b.1).1
    · rw [if_pos (by rw [c])]
      rw [if_pos c] at hK; exact hK
    · rw [if_neg (by rw [nI_eq (by omega) (by omega)]; exact c)]
      rw [if_neg c] at hK
      refine ⟨1, mP_g hG rfl, isA_g hG (by decide) rfl (vs _ bs_), _, ps _ bs_, a_row hG (by omega) (vp_of (by decide) (by decide)), ?_⟩
      refine time_c hG hns hcx h14 as_ ⟨oH hG, 1, mP_g hG rfl, isA_g hG (by decide) rfl (vs _ as_), _, ps _ as_, a_row hG (by omega) (vp_of (by decide) (by decide)), ?_⟩
      refine time_c hG hns hcx h14 bs_ ?_
      rw [show ((0 : Int32)).toNatClampNeg = 0 from rfl, hcx _ as_ 0 (by omega), hcx _ bs_ 0 (by omega), nI_mul, nI_mul]
      by_cases cc : X 0 (gC (hcm S) a.1).1 * tmX X (gC (hcm S) b.1).1 < X 0 (gC (hcm S) b.1).1 * tmX X (gC (hcm S) a.1).1
      · rw [if_neg (nI_ge cc (by omega)), nI_1]
        rw [if_pos cc] at hK; exact hK
      · rw [if_pos (nI_le (by omega) (by omega))]
        rw [if_neg cc] at hK; exact hK
  · rw [if_pos (nI_le (by omega) (by omega))]
    have : k + 1 = max 1 (hsv S).length := by omega
    rw [this]; exact q
theorem back_c {X : Nat → Nat → Nat} {ns oa w : Nat} {cl : List Cl} {S : HS} {M : Mem} {Q : Int32 → Mem → Prop} (h : eC X ns oa w cl S M) (q : Q (if nI (aHm S 0) = 0 then 0 else nI (aPe S) / nI (aHm S 0)) M) : f_X3_back 29 M Q := by
  unfold f_X3_back
  refine ⟨oH h.1.1, many_c (l := 0) h (by omega) ?_⟩
  by_cases c : nI (aHm S 0) = 0
  · rw [if_pos c]; rw [if_pos c] at q; exact q
  · rw [if_neg c]; rw [if_neg c] at q
    exact ⟨oH h.1.1, pence_c h ⟨c, q⟩⟩
/-- what waiting loses, told by those served, is the same -/
def gLk (X : Nat → Nat → Nat) (S : HS) (k : Nat) : Nat := X 0 (so_ S k) * (((hsv S).getD k (0, 0)).2 - (gC (hcm S) ((hsv S).getD k (0, 0)).1).2.1)
theorem sum_nd (g : Nat → Nat) : ∀ (a b : List Nat), a.Nodup → b.Nodup → (∀ x, x ∈ a ↔ x ∈ b) → (a.map g).sum = (b.map g).sum
  | [], [], _, _, _ => rfl
  | [], y :: b, _, _, h => absurd ((h y).mpr (List.mem_cons_self ..)) List.not_mem_nil
  | x :: a, b, ha, hb, h => by
    obtain ⟨b1, b2, rfl⟩ := List.append_of_mem ((h x).mp (List.mem_cons_self ..))
    obtain ⟨a1, a2⟩ := List.nodup_cons.mp ha
    have hb' := hb
    rw [List.nodup_append] at hb
    obtain ⟨n1, n2, n3⟩ := hb
    obtain ⟨n4, n5⟩ := List.nodup_cons.mp n2
    have hbb : (b1 ++ b2).Nodup := List.nodup_append.mpr ⟨n1, n5, fun u hu v hv => n3 u hu v (List.mem_cons_of_mem _ hv)⟩
    have ih := sum_nd g a (b1 ++ b2) a2 hbb fun z => by
      constructor
      · intro hz
        have hzx : z ≠ x := fun e => a1 (e ▸ hz)
        rcases List.mem_append.mp ((h z).mp (List.mem_cons_of_mem _ hz)) with w | w
        · exact List.mem_append.mpr (Or.inl w)
        · rcases List.mem_cons.mp w with w | w
          · exact absurd w hzx
          · exact List.mem_append.mpr (Or.inr w)
      · intro hz
        have hzx : z ≠ x := fun e => by
          subst e
          rcases List.mem_append.mp hz with w | w
          · exact n3 z w z (List.mem_cons_self ..) rfl
          · exact n4 w
        have : z ∈ b1 ++ x :: b2 := by
          rcases List.mem_append.mp hz with w | w
          · exact List.mem_append.mpr (Or.inl w)
          · exact List.mem_append.mpr (Or.inr (List.mem_cons_of_mem _ w))
        rcases List.mem_cons.mp ((h z).mpr this) with w | w
        · exact absurd w hzx
        · exact w
    rw [List.map_cons, List.sum_cons, ih, List.map_append, List.map_append, List.sum_append, List.sum_append, List.map_cons, List.sum_cons]
    omega
theorem sm_fm (P : Nat → Bool) (g : Nat → Nat) : ∀ n, sm (fun i => if P i = true then g i else 0) n = (((List.range n).filter P).map g).sum
  | 0 => rfl
  | n + 1 => by
    rw [List.range_succ, List.filter_append, List.map_append, List.sum_append, ← sm_fm P g n]
    show sm _ n + (if P n = true then g n else 0) = _
    by_cases c : P n = true
    · rw [List.filter_cons_of_pos c, if_pos c]; simp
    · rw [List.filter_cons_of_neg c, if_neg c]; simp
theorem sm_lst (l : List (Nat × Nat)) (g : Nat → Nat) (u : Nat × Nat → Nat) (h : ∀ k e, l[k]? = some e → g k = u e) : ∀ n, n ≤ l.length → sm g n = ((l.take n).map u).sum
  | 0, _ => rfl
  | n + 1, hn => by
    obtain ⟨e, he⟩ : ∃ e, l[n]? = some e := ⟨l[n], List.getElem?_eq_getElem hn⟩
    rw [take_one he, List.map_append, List.sum_append, ← sm_lst l g u h n (by omega)]
    show sm g n + g n = _
    rw [h n e he]; simp
theorem lost_eq {X : Nat → Nat → Nat} {ns : Nat} {S : HS} (h : hFi X ns S) : aLo X S = sm (gLk X S) (hsv S).length := by
  have h1 : aLo X S = (((List.range (hcm S).length).filter (fun i => !((gC (hcm S) i).2.2.1 == 2))).map (gLo X S)).sum := by
    rw [← sm_fm]
    unfold aLo
    refine sm_ext fun k _ => ?_
    unfold gLi
    by_cases c : (gC (hcm S) k).2.2.1 = 2
    · rw [if_pos c, if_neg (by simp [c])]
    · rw [if_neg c, if_pos (by simp [c])]
  have h2 : sm (gLk X S) (hsv S).length = (((hsv S).map (·.1)).map (gLo X S)).sum := by
    rw [sm_lst (hsv S) (gLk X S) (fun e => gLo X S e.1) (fun k e he => ?_) _ (Nat.le_refl _), List.take_length, List.map_map]; rfl
    unfold gLk gLo wtN so_
    rw [getD_of he, svAt_in h.2.1.2.2.2.2.1 (List.mem_of_getElem? he)]; rfl
  rw [h1, h2]
  refine sum_nd _ _ _ (List.Pairwise.filter _ List.nodup_range) h.2.1.2.2.2.2.1 fun i => ⟨fun hi => ?_, fun hi => ?_⟩
  · obtain ⟨i1, i2⟩ := List.mem_filter.mp hi
    obtain ⟨k, e, he, rfl, -⟩ := fi_in h (List.mem_range.mp i1) (by simpa using i2)
    exact List.mem_map.mpr ⟨e, List.mem_of_getElem? he, rfl⟩
  · obtain ⟨e, he, rfl⟩ := List.mem_map.mp hi
    have := h.2.1.2.2.2.1 e he
    exact List.mem_filter.mpr ⟨List.mem_range.mpr this.1, by have := this.2.1; simp; omega⟩
theorem lost_le {X : Nat → Nat → Nat} {ns : Nat} {S : HS} (h : hFi X ns S) : aLo X S ≤ 15300 * 40 := by
  have hL := (hW_len h.1 h.2.1).2.1
  rw [lost_eq h]
  refine Nat.le_trans (sm_le (b := 15300) fun k hk => ?_) (Nat.mul_le_mul_left _ hL)
  obtain ⟨e, he⟩ : ∃ e, (hsv S)[k]? = some e := ⟨(hsv S)[k], List.getElem?_eq_getElem hk⟩
  have h1 := h.2.1.2.2.2.1 e (List.mem_of_getElem? he)
  have h2 := (h.1.2.1 _ (h.2.1.2.1 _ h1.1).1).1
  unfold gLk so_
  rw [getD_of he]
  have : X 0 (gC (hcm S) e.1).1 * (e.2 - (gC (hcm S) e.1).2.1) ≤ 9 * 1700 := Nat.mul_le_mul h2 (by omega)
  omega
