/-! ===== the clauses by the model ===== -/
theorem wrd_s (c : Nat → Int) (x : Int) (r : List Int) (p : Nat) : wrd c (x :: r) p = if c p = x then wrd c r (p + 1) else (false, p) := rfl
theorem wk_come : wOk 114085 4 [99, 111, 109, 101, 32] := ⟨by decide, by decide, by decide⟩
theorem wk_price : wOk 17376357 5 [112, 114, 105, 99, 101, 32] := ⟨by decide, by decide, by decide⟩
theorem wk_more : wOk 441925 4 [109, 111, 114, 101, 32] := ⟨by decide, by decide, by decide⟩
theorem wk_most : wOk 441972 4 [109, 111, 115, 116, 32] := ⟨by decide, by decide, by decide⟩
theorem sW_0 : sW 0 = [111, 109, 101, 32] := by decide
theorem sW_3 : sW 3 = [114, 105, 99, 101, 32] := by decide
theorem sW_4 : sW 4 = [109, 111] := by decide
theorem sW_5 : sW 5 = [101, 32] := by decide
theorem sW_6 : sW 6 = [115, 116, 32] := by decide
def nwk (c : Nat → Int) (L : List Int) (k p : Nat) : Nat × Nat := if (wrd c L p).1 = true then (k, (wrd c L p).2) else (0, (wrd c L p).2)
theorem nwd_price {c : Nat → Int} {p : Nat} (h : c p ≠ 109) : nwd c p = nwk c [112, 114, 105, 99, 101, 32] 1 p := by
  unfold nwd nwk
  rw [sW_3, sW_4, wrd_s c 112, wrd_s c 109]
  by_cases e : c p = 112
  · rw [if_pos e, if_pos e]
  · rw [if_neg e, if_neg h, if_neg e]; rfl
theorem nwd_most {c : Nat → Int} {p : Nat} (h : c p = 109) (h2 : c (p + 2) = 115) : nwd c p = nwk c [109, 111, 115, 116, 32] 3 p := by
  unfold nwd nwk
  rw [if_neg (by omega), sW_4, sW_5, sW_6, wrd_s c 109, wrd_s c 109, if_pos h, if_pos h, wrd_s c 111, wrd_s c 111]
  by_cases e : c (p + 1) = 111
  · rw [if_pos e, if_pos e]
    show (if true = true then (if c (p + 2) = 114 then _ else _) else _) = _
    rw [if_pos rfl, if_neg (by omega)]; rfl
  · rw [if_neg e, if_neg e]; rfl
theorem nwd_more {c : Nat → Int} {p : Nat} (h : c p = 109) (h2 : c (p + 2) ≠ 115) : nwd c p = nwk c [109, 111, 114, 101, 32] 2 p := by
  unfold nwd nwk
  rw [if_neg (by omega), sW_4, sW_5, sW_6, wrd_s c 109, wrd_s c 109, if_pos h, if_pos h, wrd_s c 111, wrd_s c 111]
  by_cases e : c (p + 1) = 111
  · rw [if_pos e, if_pos e]
    show (if true = true then (if c (p + 2) = 114 then _ else _) else _) = _
    rw [if_pos rfl]
    by_cases e2 : c (p + 2) = 114
    · rw [if_pos e2, wrd_s c 114, if_pos (show c (p + 1 + 1) = 114 from e2)]; rfl
    · rw [if_neg e2, wrd_s c 114, if_neg (show ¬ c (p + 1 + 1) = 114 from e2)]
      have hw : wrd c [115, 116, 32] (p + 2) = (false, p + 2) := by rw [wrd_s, if_neg h2]
      show (if (wrd c [115, 116, 32] (p + 2)).1 = true then ((3, (wrd c [115, 116, 32] (p + 2)).2) : Nat × Nat) else (0, (wrd c [115, 116, 32] (p + 2)).2)) = _
      rw [hw]; rfl
  · rw [if_neg e, if_neg e]; rfl
def clM (w x : Nat) (T : List Int) (z : Cl) (M : Mem) : Prop := sM w (T ++ z.2.2) M ∧ mI M 86 x = nI z.1 ∧ (z.1 = 0 → mI M 87 x = nI z.2.1 ∧ mI M 89 x = nI (100 * w + T.length) ∧ mI M 90 x = nI (100 * w + (T ++ z.2.2).length)) ∧ (z.1 ≠ 0 → mI M 88 x = nI z.2.1)
theorem sM_fr {w : Nat} {T : List Int} {M M1 : Mem} (h : sM w T M) (e : mI M1 76 23 = mI M 76 23) (e2 : ∀ j, mI M1 91 j = mI M 91 j) : sM w T M1 := ⟨e.trans h.1, fun k t q => (e2 _).trans (h.2 k t q)⟩
theorem cF_st {w x b : Nat} {v : Int32} {M M1 : Mem} (hb : 86 ≤ b ∧ b < 91) (hE : M1 = sI M b x v) : cF w x M M1 := ⟨by rw [hE]; exact Sm.rf M, fun a j q r s u => by rw [hE, mI_ne _ _ (by omega)]⟩
theorem numP_m {w x n p k s : Nat} {c : Nat → Int} {T L : List Int} {y : Int32} {M M0 : Mem} {Q : Bool → Mem → Prop} (hL : wOk y s L) (hx : x < 48) (hk : k ≠ 0) (hn : nwd c p = nwk c L k p) (h : rdM c n p M) (f0 : cF w x M0 M) (hS : sM w T M) (e86 : mI M 86 x = nI k) (q : ∀ M1, cF w x M0 M1 → rdM c n (numz c p).2.1 M1 → ((numz c p).1 = true → clM w x T (numz c p).2.2 M1) → Q (numz c p).1 M1) : f_X12_takesWord 76 y (nI s) M (fun w1 M1 => if w1 = true then f_X12_takesClause_J187 76 (nI x) M1 Q else Q false M1) := by
  refine tword_m hL h fun M1 f1 h1 => ?_
  unfold numz at q
  rw [hn] at q
  unfold nwk at q
  by_cases e1 : (wrd c L p).1 = true
  case neg =>
    rw [if_neg e1]
    rw [if_neg e1] at q
    exact q M1 (f0.tr ((f1.e w).d x).c) h1 (fun e => by cases e)
  rw [if_pos e1]
  rw [if_pos e1] at q
  rw [if_neg (show ¬ ((k, (wrd c L p).2) : Nat × Nat).1 = 0 from hk)] at q
  generalize (wrd c L p).2 = r at *
  have q : ∀ M1, cF w x M0 M1 → rdM c n (num c r).2.1 M1 → ((num c r).1 = true → clM w x T (k, (num c r).2.2, []) M1) → Q (num c r).1 M1 := by
    by_cases e2 : (num c r).1 = true
    · rw [if_pos e2] at q
      intro M1 g1 g2 g3
      rw [e2]; exact q M1 g1 g2 (fun _ => g3 e2)
    · rw [if_neg e2] at q
      intro M1 g1 g2 g3
      rw [Bool.eq_false_iff.mpr e2]
      exact q M1 g1 g2 (fun e => by cases e)
  unfold f_X12_takesClause_J187
  refine ⟨oM h1.1, tnum_m h1 fun M2 f2 h2 d2 => ?_⟩
  have ff := f1.tr f2
  have fc := f0.tr ((ff.e w).d x).c
  by_cases e2 : (num c r).1 = true
  case neg =>
    rw [if_neg e2]
    have q := q M2 fc h2 (fun e => absurd e e2)
    rw [Bool.eq_false_iff.mpr e2] at q; exact q
  rw [if_pos e2]
  have d2 := d2 e2
  refine ⟨oM h2.1, 88, mP_g h2.1 rfl, isA_g h2.1 (by decide) rfl (vpN hx (by omega)), fun M3 hE => ?_⟩
  rw [nI_clamp (by omega), d2] at hE
  have f3 : cF w x M2 M3 := cF_st (by omega) hE
  have q := q M3 (fc.tr f3) (rdM_mv h2 f3 (by rw [hE, mI_ne _ _ (by omega)]; exact h2.2.2.2) h2.2.2.1) (fun _ => ⟨?_, ?_, fun e => absurd e hk, fun _ => ?_⟩)
  · rw [e2] at q; exact q
  · show sM w (T ++ []) M3
    rw [List.append_nil]
    exact sM_fr hS (by rw [hE, mI_ne _ _ (by omega), ff.2 _ _ (by omega)]) (fun j => by rw [hE, mI_ne _ _ (by omega), ff.2 _ _ (by omega)])
  · rw [hE, mI_ne _ _ (by omega), ff.2 _ _ (by omega)]; exact e86
  · rw [hE, mI_sI_s]
theorem tclause_m {w x n p : Nat} {c : Nat → Int} {T : List Int} {M : Mem} {Q : Bool → Mem → Prop} (hw : w < 6) (hx : x < 48) (h : rdM c n p M) (hS : sM w T M) (hT : T.length ≤ p) (q : ∀ M1, cF w x M M1 → rdM c n (clz c p).2.1 M1 → ((clz c p).1 = true → clM w x T (clz c p).2.2 M1) → Q (clz c p).1 M1) : f_X12_takesClause 76 (nI x) M Q := by
  unfold f_X12_takesClause
  have hG := h.1
  have hc := h.2.1.2.2.1
  have h100 := h.2.1.1
  have vx : vp_in (nI x) 48 := vpN hx (by omega)
  refine ⟨oM hG, third_m h fun t ht => ⟨oM hG, next_m h fun y hy => ?_⟩⟩
  have y99 : y = 99 ↔ c p = 99 := sn_eq hy (by decide)
  have y109 : y = 109 ↔ c p = 109 := sn_eq hy (by decide)
  have t115 : t = 115 ↔ c (p + 2) = 115 := sn_eq ht (by decide)
  unfold clz at q
  by_cases c99 : c p = 99
  case neg =>
    rw [if_neg (fun e => c99 (y99.mp e))]
    rw [if_neg c99] at q
    -- a word, and its number
    have go : ∀ (k s : Nat) (yy : Int32) (L : List Int) (M1 : Mem), wOk yy s L → k ≠ 0 → nwd c p = nwk c L k p → M1 = sI M 86 x (nI k) → f_X12_takesWord 76 yy (nI s) M1 (fun w1 M1 => if w1 = true then f_X12_takesClause_J187 76 (nI x) M1 Q else Q false M1) := by
      intro k s yy L M1 hL hk hn hE
      have f1 : cF w x M M1 := cF_st (by omega) hE
      exact numP_m hL hx hk hn (rdM_mv h f1 (by rw [hE, mI_ne _ _ (by omega)]; exact h.2.2.2) h.2.2.1) f1 (sM_fr hS (by rw [hE, mI_ne _ _ (by omega)]) (fun j => by rw [hE, mI_ne _ _ (by omega)])) (by rw [hE, mI_sI_s]) q
    by_cases c109 : c p = 109
    · rw [if_pos (y109.mpr c109)]
      refine ⟨oM hG, ?_⟩
      by_cases c115 : c (p + 2) = 115
      · rw [if_pos (t115.mpr c115)]
        unfold f_X12_takesClause_J133
        refine ⟨86, mP_g hG rfl, isA_g hG (by decide) rfl vx, fun M1 hE => ?_⟩
        rw [nI_clamp (by omega)] at hE
        rw [if_pos (t115.mpr c115)]
        have hG1 : Good M1 := by rw [hE]; exact hG
        exact ⟨oM hG1, go 3 4 _ _ M1 wk_most (by decide) (nwd_most c109 c115) hE⟩
      · rw [if_neg (fun e => c115 (t115.mp e))]
        unfold f_X12_takesClause_J133
        refine ⟨86, mP_g hG rfl, isA_g hG (by decide) rfl vx, fun M1 hE => ?_⟩
        rw [nI_clamp (by omega)] at hE
        rw [if_neg (fun e => c115 (t115.mp e))]
        have hG1 : Good M1 := by rw [hE]; exact hG
        exact ⟨oM hG1, go 2 4 _ _ M1 wk_more (by decide) (nwd_more c109 c115) hE⟩
    · rw [if_neg (fun e => c109 (y109.mp e))]
      refine ⟨oM hG, 86, mP_g hG rfl, isA_g hG (by decide) rfl vx, fun M1 hE => ?_⟩
      rw [nI_clamp (by omega)] at hE
      exact go 1 5 _ _ M1 wk_price (by decide) (nwd_price c109) hE
  rw [if_pos (y99.mpr c99)]
  rw [if_pos c99] at q
  refine ⟨oM hG, 86, mP_g hG rfl, isA_g hG (by decide) rfl vx, fun M1 hE => ?_⟩
  rw [nI_clamp (by omega)] at hE
  have f1 : cF w x M M1 := cF_st (by omega) hE
  have h1 : rdM c n p M1 := rdM_mv h f1 (by rw [hE, mI_ne _ _ (by omega)]; exact h.2.2.2) h.2.2.1
  have hwd : wrd c [99, 111, 109, 101, 32] p = wrd c (sW 0) (p + 1) := by rw [wrd_s, if_pos c99, sW_0]
  refine tword_m (s := 4) wk_come h1 fun M2 f2 h2 => ?_
  rw [hwd] at h2 ⊢
  have lp := ne_lt hc (p := p) (by omega)
  have wo := wrd_ok hc (sW 0) (p + 1) (sW_ne 0 (by decide)) (by omega)
  unfold comz at q
  have g2 := f1.tr ((f2.e w).d x).c
  by_cases e1 : (wrd c (sW 0) (p + 1)).1 = true
  case neg =>
    rw [if_neg e1]
    rw [if_neg e1] at q
    exact q M2 g2 h2 (fun e => by cases e)
  rw [if_pos e1]
  rw [if_pos e1] at q
  have wo1 := wo.1
  generalize (wrd c (sW 0) (p + 1)).2 = r at *
  refine ⟨oM h2.1, next_m h2 fun u hu => ⟨oM h2.1, ?_⟩⟩
  unfold sn at hu
  by_cases e2 : 48 ≤ c r ∧ c r < 54
  case neg =>
    refine in_f (by simp only [Int32.reduceToInt]; omega) ?_
    rw [if_neg (by decide)]
    rw [if_neg e2] at q
    exact q M2 g2 h2 (fun e => by cases e)
  refine in_t (by simp only [Int32.reduceToInt]; omega) ?_
  rw [if_pos rfl]
  rw [if_pos e2] at q
  have l2 := ne_lt hc (p := r) (by omega)
  refine ⟨oM h2.1, next_m h2 fun v hv => ?_⟩
  unfold sn at hv
  have ev : v - 48 = nI (c r - 48).toNat := by
    apply Int32.toInt_inj.mp
    rw [nI_toInt (by omega), i32_subI] <;> simp only [Int32.reduceToInt] <;> omega
  rw [ev]
  refine ⟨87, mP_g h2.1 rfl, isA_g h2.1 (by decide) rfl vx, fun M3 hE3 => ?_⟩
  rw [nI_clamp (by omega)] at hE3
  have f3 : cF w x M2 M3 := cF_st (by omega) hE3
  have hG3 : Good M3 := f3.1.good h2.1
  refine ⟨oM hG3, fun M4 hE4 => ?_⟩
  rw [show mI M3 76 12 = nI r by rw [hE3, mI_ne _ _ (by omega)]; exact h2.2.2.2, nI_1] at hE4
  have f4 : nF M3 M4 := nF.st hE4
  have g4 := (g2.tr f3).tr ((f4.e w).d x).c
  have h4 : rdM c n (r + 1) M4 := rdM_mv h g4 (by rw [hE4, mI_sI_s]) (by omega)
  refine sign_m h4 (by decide) (fun e3 M5 hE5 h5 => ?_) (fun e3 => ?_)
  case refine_2 =>
    have e3 : ¬ c (r + 1) = 32 := e3
    rw [if_neg (by decide)]
    rw [if_neg e3] at q
    exact q M4 g4 h4 (fun e => by cases e)
  have e3 : c (r + 1) = 32 := e3
  rw [if_pos rfl]
  rw [if_pos e3] at q
  have f5 : nF M4 M5 := nF.st hE5
  have g5 := g4.tr ((f5.e w).d x).c
  have a86 : mI M5 86 x = nI 0 := by rw [f5.2 _ _ (by omega), f4.2 _ _ (by omega), hE3, mI_ne _ _ (by omega), f2.2 _ _ (by omega), hE, mI_sI_s]; rfl
  have a87 : mI M5 87 x = nI (c r - 48).toNat := by rw [f5.2 _ _ (by omega), f4.2 _ _ (by omega), hE3, mI_sI_s]
  have s5 : sM w T M5 := sM_fr hS (by rw [f5.2 _ _ (by omega), f4.2 _ _ (by omega), hE3, mI_ne _ _ (by omega), f2.2 _ _ (by omega), hE, mI_ne _ _ (by omega)]) (fun j => by rw [f5.2 _ _ (by omega), f4.2 _ _ (by omega), hE3, mI_ne _ _ (by omega), f2.2 _ _ (by omega), hE, mI_ne _ _ (by omega)])
  refine ⟨oM h5.1, takesE_m hw hx h5 s5 (by omega) fun M6 f6 h6 t6 => ?_⟩
  have h6 : rdM c n (ei c 4 (r + 2)).2.1 M6 := h6
  by_cases e4 : (ei c 4 (r + 2)).1 = true
  case neg =>
    rw [if_neg (show ¬ (ei c 4 (r + 1 + 1)).1 = true from e4)]
    rw [if_neg e4] at q
    exact q M6 (g5.tr f6.c) h6 (fun e => by cases e)
  rw [if_pos (show (ei c 4 (r + 1 + 1)).1 = true from e4)]
  rw [if_pos e4] at q
  obtain ⟨b1, b2, b3⟩ := t6 e4
  refine q M6 (g5.tr f6.c) h6 (fun _ => ⟨b1, ?_, fun _ => ⟨?_, b2, b3⟩, fun e => absurd rfl e⟩)
  · exact (f6.2 86 x (by omega) (by omega) (by omega) (by omega)).trans a86
  · exact (f6.2 87 x (by omega) (by omega) (by omega) (by omega)).trans a87
def vM (w : Nat) (acc : List Cl) (M : Mem) : Prop := (∀ j z, acc[j]? = some z → mI M 86 (8 * w + j) = nI z.1 ∧ (z.1 = 0 → mI M 87 (8 * w + j) = nI z.2.1 ∧ mI M 89 (8 * w + j) = nI (100 * w + (tks (acc.take j)).length) ∧ mI M 90 (8 * w + j) = nI (100 * w + (tks (acc.take (j + 1))).length)) ∧ (z.1 ≠ 0 → mI M 88 (8 * w + j) = nI z.2.1)) ∧ sM w (tks acc) M
theorem vM_s {w : Nat} {acc : List Cl} {z : Cl} {M M1 : Mem} (h : vM w acc M) (k : clM w (8 * w + acc.length) (tks acc) z M1) (f : cF w (8 * w + acc.length) M M1) : vM w (acc ++ [z]) M1 := by
  obtain ⟨k1, k2, k3, k4⟩ := k
  refine ⟨fun j y e => ?_, by rw [tks_aq, tks_1]; exact k1⟩
  by_cases ej : j = acc.length
  · subst ej
    rw [List.getElem?_append_right (Nat.le_refl _), Nat.sub_self] at e
    injection e with e
    subst e
    rw [List.take_append_of_le_length (Nat.le_refl _), List.take_of_length_le (Nat.le_refl _), List.take_of_length_le (show (acc ++ [z]).length ≤ acc.length + 1 by rw [List.length_append]; exact Nat.le_refl _), tks_aq, tks_1]
    exact ⟨k2, k3, k4⟩
  · have hj := (List.getElem?_eq_some_iff.mp e).1
    rw [List.length_append] at hj
    have hj : j < acc.length + 1 := hj
    rw [List.getElem?_append_left (by omega)] at e
    have ff : ∀ b, 86 ≤ b ∧ b < 91 → mI M1 b (8 * w + j) = mI M b (8 * w + j) := fun b hb => f.2 b _ (by omega) (by omega) (by omega) (by omega)
    rw [ff 86 (by omega), ff 87 (by omega), ff 88 (by omega), ff 89 (by omega), ff 90 (by omega), List.take_append_of_le_length (by omega), List.take_append_of_le_length (by omega)]
    exact h.1 j y e
def tF (w : Nat) (M M1 : Mem) : Prop := Sm M M1 ∧ ∀ b j, ¬ (b = 76 ∧ (j = 12 ∨ j = 13 ∨ j = 23 ∨ j = 24 ∨ j = 25)) → ¬ (b = 91 ∧ 100 * w ≤ j) → ¬ b = 92 → ¬ (86 ≤ b ∧ b < 91 ∧ 8 * w ≤ j ∧ j < 8 * w + 8) → ¬ (b = 85 ∧ j = w) → mI M1 b j = mI M b j
theorem tF.tr {w : Nat} {M M1 M2 : Mem} (h : tF w M M1) (k : tF w M1 M2) : tF w M M2 := ⟨h.1.tr k.1, fun b j q r s u v => (k.2 b j q r s u v).trans (h.2 b j q r s u v)⟩
theorem cF.t {w x : Nat} {M M1 : Mem} (h : cF w x M M1) (hx : 8 * w ≤ x ∧ x < 8 * w + 8) : tF w M M1 := ⟨h.1, fun b j q r s u _ => h.2 b j q r s (by omega)⟩
theorem rdM_t {w n p q : Nat} {c : Nat → Int} {M M1 : Mem} (h : rdM c n p M) (f : tF w M M1) (e : mI M1 76 12 = nI q) (hq : q ≤ n) : rdM c n q M1 := by
  obtain ⟨hG, ⟨hn, e9, hc, ht⟩, hp, e10⟩ := h
  exact ⟨f.1.good hG, ⟨hn, by rw [f.2 76 11 (by omega) (by omega) (by omega) (by omega) (by omega)]; exact e9, hc, fun k hk => by rw [f.2 84 k (by omega) (by omega) (by omega) (by omega) (by omega)]; exact ht k hk⟩, hq, e⟩
theorem text_m {w n : Nat} {c : Nat → Int} {M : Mem} {Q : Bool → Mem → Prop} (hw : w < 6) (hG : Good M) (h0 : ∀ M5, M5 = sI M 76 12 0 → rdM c n 0 M5) (q : ∀ M1, tF w M M1 → mI M1 76 12 = nI (gtx c n 8 0 []).2.1 → ((gtx c n 8 0 []).1 = true → wM M1 w (gtx c n 8 0 []).2.2) → Q (gtx c n 8 0 []).1 M1) : f_X12_goesText 76 (nI w) M Q := by
  unfold f_X12_goesText
  have hc := (h0 _ rfl).2.1.2.2.1
  have h100 := (h0 _ rfl).2.1.1
  refine ⟨oM hG, fun N1 g1 N2 g2 => ?_⟩
  have h1 := h0 N1 g1
  rw [show (100 : Int32) = nI 100 from rfl, nI_mul] at g2
  have f2 : tF w M N2 := ⟨by rw [g2, g1]; exact Sm.rf M, fun b j q r s u v => by rw [g2, mI_ne _ _ (by omega), g1, mI_ne _ _ (by omega)]⟩
  have f12 : tF w N1 N2 := ⟨by rw [g2]; exact Sm.rf N1, fun b j q r s u v => by rw [g2, mI_ne _ _ (by omega)]⟩
  have h2 : rdM c n 0 N2 := rdM_t h1 f12 (by rw [g2, mI_ne _ _ (by omega)]; exact h1.2.2.2) (Nat.zero_le _)
  have v2 : vM w [] N2 := ⟨fun j z e => (by cases e), (by rw [g2, mI_sI_s]; rfl), fun k t e => (by cases e)⟩
  clear g1 g2 h1 f12
  unfold f_X12_goesText_L15
  refine ⟨fun z => ∃ k p acc N, z = (nI (7 - k), N) ∧ k ≤ 7 ∧ rdM c n p N ∧ vM w acc N ∧ aOk acc p ∧ acc.length + k = 7 ∧ tF w M N ∧ gtx c n 8 0 [] = gtx c n (k + 1) p acc, fun z => 8 - z.1.toNatClampNeg, ⟨7, 0, [], N2, rfl, Nat.le_refl _, h2, v2, ⟨fun c hc => (by cases hc), Nat.le_refl _⟩, rfl, f2, rfl⟩, ?_⟩
  rintro z ⟨k, p, acc, N, rfl, hk, hN, vN, ok, hl, fN, hg⟩
  show f_X12_goesText_B15 76 (nI w) (nI (7 - k)) N _ Q
  unfold f_X12_goesText_B15
  have hp := hN.2.2.1
  have zo := clz_ok hc hp
  refine ⟨oM hN.1, ?_⟩
  rw [show (8 : Int32) = nI 8 from rfl, nI_mul, nI_add, show 8 * w + (7 - k) = 8 * w + acc.length by omega]
  refine tclause_m hw (by omega) hN vN.2 ok.2 fun M1 f1 h1 i1 => ?_
  have t1 := fN.tr (f1.t (by omega))
  have e12 := h1.2.2.2
  by_cases e1 : (clz c p).1 = true
  case neg =>
    rw [if_neg e1]
    have eg : gtx c n 8 0 [] = (false, (clz c p).2.1, []) := by
      rw [hg]; unfold gtx; rw [if_neg e1]
    have q := q M1 t1
    rw [eg] at q
    exact q e12 (fun e => by cases e)
  rw [if_pos e1]
  have a1 := aOk_s hc hp ok e1
  have vv := vM_s vN (i1 e1) f1
  have ll : (acc ++ [(clz c p).2.2]).length = acc.length + 1 := List.length_append
  refine ⟨oM h1.1, 85, mP_g h1.1 rfl, isA_g h1.1 (by decide) rfl (vpN hw (by omega)), fun M2 hE => ?_⟩
  rw [nI_clamp (by omega), nI_1] at hE
  have f2 : tF w M1 M2 := ⟨by rw [hE]; exact Sm.rf M1, fun b j q r s u v => by rw [hE, mI_ne _ _ (by omega)]⟩
  have h2 : rdM c n (clz c p).2.1 M2 := rdM_t h1 f2 (by rw [hE, mI_ne _ _ (by omega)]; exact e12) h1.2.2.1
  have v2 : vM w (acc ++ [(clz c p).2.2]) M2 := by
    refine ⟨fun j z e => ?_, sM_fr vv.2 (by rw [hE, mI_ne _ _ (by omega)]) (fun j => by rw [hE, mI_ne _ _ (by omega)])⟩
    rw [hE, mI_ne _ _ (by omega), mI_ne _ _ (by omega), mI_ne _ _ (by omega), mI_ne _ _ (by omega), mI_ne _ _ (by omega)]
    exact vv.1 j z e
  have t2 := t1.tr f2
  have gs : gtx c n 8 0 [] = if (clz c p).2.1 = n then (true, n, acc ++ [(clz c p).2.2]) else if k = 0 then (false, (clz c p).2.1, []) else if c (clz c p).2.1 = 59 then gtx c n k ((clz c p).2.1 + 1) (acc ++ [(clz c p).2.2]) else (false, (clz c p).2.1, []) := by
    rw [hg]
    show (if (clz c p).1 = true then _ else _) = _
    rw [if_pos e1]
  have hr := h2.2.2.1
  rw [h2.2.2.2, h2.2.1.2.1]
  by_cases e2 : (clz c p).2.1 = n
  · rw [if_pos e2] at gs
    rw [if_pos (by rw [e2])]
    have q := q M2 t2
    rw [gs] at q
    refine q (by rw [h2.2.2.2, e2]) (fun _ => ⟨?_, v2.1, v2.2.2⟩)
    rw [hE, mI_sI_s, ll]; congr 1; omega
  rw [if_neg e2] at gs
  rw [if_neg (fun e => e2 ((nI_eq (by omega) (by omega)).mp e))]
  rw [nI_1]
  by_cases e3 : k = 0
  · rw [if_pos e3] at gs
    rw [if_pos (show nI (7 - k + 1) = nI 8 by rw [e3])]
    have q := q M2 t2
    rw [gs] at q
    exact q h2.2.2.2 (fun e => by cases e)
  rw [if_neg e3] at gs
  rw [if_neg (show ¬ nI (7 - k + 1) = nI 8 from fun e => e3 (by have := (nI_eq (by omega) (by omega)).mp e; omega))]
  refine sign_m h2 (by decide) (fun e M3 hE3 h3 => ?_) (fun e => ?_)
  · have e : c (clz c p).2.1 = 59 := e
    rw [if_pos rfl]
    rw [if_pos e] at gs
    have f3 : tF w M2 M3 := ⟨by rw [hE3]; exact Sm.rf M2, fun b j q r s u v => by rw [hE3, mI_ne _ _ (by omega)]⟩
    refine ⟨⟨k - 1, (clz c p).2.1 + 1, acc ++ [(clz c p).2.2], M3, ?_, by omega, h3, ?_, ⟨a1.1, by have := a1.2; omega⟩, by omega, t2.tr f3, ?_⟩, ?_⟩
    · rw [show 7 - k + 1 = 7 - (k - 1) by omega]
    · refine ⟨fun j z e => ?_, sM_fr v2.2 (by rw [hE3, mI_ne _ _ (by omega)]) (fun j => by rw [hE3, mI_ne _ _ (by omega)])⟩
      rw [hE3, mI_ne _ _ (by omega), mI_ne _ _ (by omega), mI_ne _ _ (by omega), mI_ne _ _ (by omega), mI_ne _ _ (by omega)]
      exact v2.1 j z e
    · rw [gs, show k - 1 + 1 = k by omega]
    · show 8 - (nI (7 - k + 1)).toNatClampNeg < 8 - (nI (7 - k)).toNatClampNeg
      rw [nI_clamp (by omega), nI_clamp (by omega)]; omega
  · have e : ¬ c (clz c p).2.1 = 59 := e
    rw [if_neg (by decide)]
    rw [if_neg e] at gs
    have q := q M2 t2
    rw [gs] at q
    exact q h2.2.2.2 (fun e => by cases e)
