/-! ===== the hour of the class: its world, its kinds, who joins which line ===== -/
theorem nn_0 {a : Nat} (h : ¬ a = 0) (ha : a < 2 ^ 31) : ¬ nI a = 0 := fun e => h ((nI_eq (b := 0) ha (by omega)).mp e)
theorem nn_1 {a : Nat} (h : ¬ a = 1) (ha : a < 2 ^ 31) : ¬ nI a = 1 := fun e => h ((nI_eq (b := 1) ha (by omega)).mp e)
theorem nn_2 {a : Nat} (h : ¬ a = 2) (ha : a < 2 ^ 31) : ¬ nI a = 2 := fun e => h ((nI_eq (b := 2) ha (by omega)).mp e)
def HF (M M1 : Mem) : Prop := Sm M M1 ∧ ∀ a j, ¬ ((30 ≤ a ∧ a < 38) ∨ (a = 29 ∧ (j = 6 ∨ j = 7 ∨ j = 8 ∨ j = 9 ∨ j = 15 ∨ j = 18))) → mI M1 a j = mI M a j
theorem HF.rf (M : Mem) : HF M M := ⟨Sm.rf M, fun _ _ _ => rfl⟩
theorem HF.tr {M M1 M2 : Mem} (h : HF M M1) (k : HF M1 M2) : HF M M2 := ⟨h.1.tr k.1, fun a j q => (k.2 a j q).trans (h.2 a j q)⟩
theorem HF.st {M M1 : Mem} (h : HF M M1) {a k : Nat} (v : Int32) (q : (30 ≤ a ∧ a < 38) ∨ (a = 29 ∧ (k = 6 ∨ k = 7 ∨ k = 8 ∨ k = 9 ∨ k = 15 ∨ k = 18))) : HF M (sI M1 a k v) := ⟨h.1, fun b j c => by rw [mI_ne _ _ (by omega)]; exact h.2 b j c⟩
def cX (X : Nat → Nat → Nat) (ns : Nat) (M : Mem) : Prop := ∀ k, k < ns → ∀ j, j < 4 → mI M (2 + k) j = nI (X j k)
def oC (X : Nat → Nat → Nat) (oa : Nat) (M : Mem) : Prop := (X 4 0 ≤ 6 ∧ (oa = 15 ∨ 118 ≤ oa) ∧ mS M oa = .inl (kc (X 4 0)) ∧ mI M oa 1 = nI (X 4 1)) ∧ (X 4 0 = 6 → mP M oa 4 = some (oa + 2) ∧ 118 ≤ oa ∧ mS M (oa + 2) = .inr (0, 10) ∧ ∀ j, j < 10 → (mI M (oa + 2) j).toInt = (X 5 j : Int) - 1)
def wO (w : Nat) (M : Mem) : Prop := (w + 3 < 29 ∨ 38 ≤ w) ∧ isO M w [10] ∧ (mP M w 4 = some (w + 1) ∧ mP M w 5 = some (w + 2) ∧ mP M w 6 = some (w + 3)) ∧ mS M (w + 1) = .inr (0, 8) ∧ mS M (w + 2) = .inr (0, 8) ∧ mS M (w + 3) = .inr (0, 100)
def cC (X : Nat → Nat → Nat) (ns oa w : Nat) (cl : List Cl) (M : Mem) : Prop := Good M ∧ hX X ns ∧ cX X ns M ∧ oC X oa M ∧ wO w M ∧ wC M w cl ∧ WFc cl ∧ X 4 4 = wMx cl ∧ mP M 29 11 = some oa ∧ mP M 29 12 = some w ∧ mI M 29 13 = nI (X 4 2) ∧ mI M 29 14 = nI (X 4 3)
theorem cX_fr {X : Nat → Nat → Nat} {ns : Nat} {M M1 : Mem} (h : cX X ns M) (hn : ns ≤ 6) (f : ∀ a j, 2 ≤ a ∧ a < 8 → mI M1 a j = mI M a j) : cX X ns M1 := fun k hk j hj => (f _ _ (by omega)).trans (h k hk j hj)
theorem oC_fr {X : Nat → Nat → Nat} {oa : Nat} {M M1 : Mem} (h : oC X oa M) (s : Sm M M1) (f : ∀ a j, a = 15 ∧ j < 2 ∨ 118 ≤ a ∧ (a = oa ∧ j < 2 ∨ a = oa + 2) → mI M1 a j = mI M a j) : oC X oa M1 := by
  obtain ⟨⟨h1, h2, h3, h4⟩, h5⟩ := h
  refine ⟨⟨h1, h2, by rw [s.2.1]; exact h3, by rw [f _ _ (by omega)]; exact h4⟩, fun e => ?_⟩
  obtain ⟨g1, g2, g3, g4⟩ := h5 e
  refine ⟨by rw [s.2.2.1]; exact g1, g2, by rw [s.2.1]; exact g3, fun j hj => by rw [f _ _ (by omega)]; exact g4 j hj⟩
theorem isO_sm {M M1 : Mem} (s : Sm M M1) {a : Nat} {cs : List Nat} (h : isO M a cs) : isO M1 a cs := by
  obtain ⟨c, h1, h2⟩ := h
  exact ⟨c, h1, by rw [s.2.1]; exact h2⟩
theorem wO_fr {w : Nat} {M M1 : Mem} (h : wO w M) (s : Sm M M1) : wO w M1 := by
  obtain ⟨h1, h2, h3, h4, h5, h6⟩ := h
  refine ⟨h1, isO_sm s h2, ?_, ?_, ?_, ?_⟩
  · rw [s.2.2.1]; exact h3
  · rw [s.2.1]; exact h4
  · rw [s.2.1]; exact h5
  · rw [s.2.1]; exact h6
theorem cC_fr {X : Nat → Nat → Nat} {ns oa w : Nat} {cl : List Cl} {M M1 : Mem} (h : cC X ns oa w cl M) (f : HF M M1) : cC X ns oa w cl M1 := by
  obtain ⟨h1, h2, h3, h4, h5, h6, h7, h8, h9, h10, h11, h12⟩ := h
  have hw := h5.1
  refine ⟨f.1.good h1, h2, cX_fr h3 h2.1 (fun a j q => f.2 a j (by omega)), oC_fr h4 f.1 (fun a j q => f.2 a j (by omega)), wO_fr h5 f.1, wC_fr h6 (fun b k q1 q2 => f.2 b k (by omega)), h7, h8, by rw [f.1.2.2.1]; exact h9, by rw [f.1.2.2.1]; exact h10, (f.2 _ _ (by omega)).trans h11, (f.2 _ _ (by omega)).trans h12⟩
theorem asks_c {X : Nat → Nat → Nat} {oa n1 : Nat} {M : Mem} {Q : Int32 → Mem → Prop} (h : oC X oa M) (q : Q (nI (hask X n1)) M) : v_X5_asks oa (nI (X 4 2)) (nI n1) M Q := by
  obtain ⟨⟨hk, ho, hs, hv⟩, -⟩ := h
  unfold v_X5_asks
  unfold hask at q
  rcases seven hk with e | e | e | e | e | e | e <;> rw [e] at hs
  · rw [if_neg (by omega)] at q; exact Or.inl ⟨hs, q⟩
  · rw [if_neg (by omega)] at q; exact Or.inr (Or.inl ⟨hs, q⟩)
  · rw [if_neg (by omega)] at q; exact Or.inr (Or.inr (Or.inr (Or.inr (Or.inr (Or.inl ⟨hs, q⟩)))))
  · rw [if_pos e] at q
    refine Or.inr (Or.inr (Or.inr (Or.inl ⟨hs, ⟨4, List.mem_singleton.mpr rfl, hs⟩, ?_⟩)))
    rw [hv, nI_mul, nI_add]; exact q
  · rw [if_neg (by omega)] at q; exact Or.inr (Or.inr (Or.inr (Or.inr (Or.inl ⟨hs, q⟩))))
  · rw [if_neg (by omega)] at q; exact Or.inr (Or.inr (Or.inl ⟨hs, q⟩))
  · rw [if_neg (by omega)] at q; exact Or.inr (Or.inr (Or.inr (Or.inr (Or.inr (Or.inr ⟨hs, q⟩)))))
theorem due_c {X : Nat → Nat → Nat} {oa n1 s : Nat} {M : Mem} {Q : Int32 → Mem → Prop} (h : oC X oa M) (h1 : hask X n1 < 2 ^ 31) (h2 : X 2 s < 2 ^ 31) (q : Q (nI (hdue X s n1)) M) : v_X5_due oa (nI (hask X n1)) (nI (X 2 s)) M Q := by
  obtain ⟨⟨hk, ho, hs, hv⟩, -⟩ := h
  unfold v_X5_due
  unfold hdue at q
  rcases seven hk with e | e | e | e | e | e | e <;> rw [e] at hs
  · rw [if_neg (by omega)] at q; exact Or.inl ⟨hs, q⟩
  · rw [if_neg (by omega)] at q; exact Or.inr (Or.inl ⟨hs, q⟩)
  · rw [if_neg (by omega)] at q; exact Or.inr (Or.inr (Or.inr (Or.inr (Or.inr (Or.inl ⟨hs, q⟩)))))
  · rw [if_neg (by omega)] at q; exact Or.inr (Or.inr (Or.inr (Or.inl ⟨hs, q⟩)))
  · refine Or.inr (Or.inr (Or.inr (Or.inr (Or.inl ⟨hs, ?_⟩))))
    unfold f_X6_due
    by_cases c : hask X n1 ≤ X 2 s
    · rw [if_pos (nI_le c h2)]; rw [if_neg (by omega)] at q; exact q
    · rw [if_neg (nI_ge (by omega) h1)]; rw [if_pos ⟨e, by omega⟩] at q; exact q
  · rw [if_neg (by omega)] at q; exact Or.inr (Or.inr (Or.inl ⟨hs, q⟩))
  · rw [if_neg (by omega)] at q; exact Or.inr (Or.inr (Or.inr (Or.inr (Or.inr (Or.inr ⟨hs, q⟩)))))
theorem ahd_c {X : Nat → Nat → Nat} {oa : Nat} {a b : Int32} {M : Mem} {Q : Int32 → Mem → Prop} (h : oC X oa M) (q : Q (if X 4 0 = 0 ∨ X 4 0 = 5 then b else a) M) : v_X5_aheadOfPaying oa a b M Q := by
  obtain ⟨⟨hk, ho, hs, hv⟩, -⟩ := h
  unfold v_X5_aheadOfPaying
  rcases seven hk with e | e | e | e | e | e | e <;> rw [e] at hs
  · rw [if_pos (by omega)] at q; exact Or.inl ⟨hs, q⟩
  · rw [if_neg (by omega)] at q; exact Or.inr (Or.inl ⟨hs, q⟩)
  · rw [if_neg (by omega)] at q; exact Or.inr (Or.inr (Or.inr (Or.inr (Or.inr (Or.inl ⟨hs, q⟩)))))
  · rw [if_neg (by omega)] at q; exact Or.inr (Or.inr (Or.inr (Or.inl ⟨hs, q⟩)))
  · rw [if_neg (by omega)] at q; exact Or.inr (Or.inr (Or.inr (Or.inr (Or.inl ⟨hs, q⟩))))
  · rw [if_pos (by omega)] at q; exact Or.inr (Or.inr (Or.inl ⟨hs, q⟩))
  · rw [if_neg (by omega)] at q; exact Or.inr (Or.inr (Or.inr (Or.inr (Or.inr (Or.inr ⟨hs, q⟩)))))
theorem awa_c {X : Nat → Nat → Nat} {oa n : Nat} {M : Mem} {Q : Bool → Mem → Prop} (h : oC X oa M) (hv9 : X 4 1 < 2 ^ 31) (hn : n < 2 ^ 31) (q : Q (decide (X 4 0 = 5 ∧ X 4 1 ≤ n)) M) : v_X5_turnsAway oa (nI n) M Q := by
  obtain ⟨⟨hk, ho, hs, hv⟩, -⟩ := h
  unfold v_X5_turnsAway
  rcases seven hk with e | e | e | e | e | e | e <;> rw [e] at hs
  · rw [decide_eq_false (by omega)] at q; exact Or.inl ⟨hs, q⟩
  · rw [decide_eq_false (by omega)] at q; exact Or.inr (Or.inl ⟨hs, q⟩)
  · rw [decide_eq_false (by omega)] at q; exact Or.inr (Or.inr (Or.inr (Or.inr (Or.inr (Or.inl ⟨hs, q⟩)))))
  · rw [decide_eq_false (by omega)] at q; exact Or.inr (Or.inr (Or.inr (Or.inl ⟨hs, q⟩)))
  · rw [decide_eq_false (by omega)] at q; exact Or.inr (Or.inr (Or.inr (Or.inr (Or.inl ⟨hs, q⟩))))
  · refine Or.inr (Or.inr (Or.inl ⟨hs, ⟨2, List.mem_singleton.mpr rfl, hs⟩, ?_⟩))
    rw [hv]
    by_cases c : X 4 1 ≤ n
    · rw [if_neg (nI_nlt c hn)]; rw [decide_eq_true ⟨e, c⟩] at q; exact q
    · rw [if_pos (nI_lt (by omega) hv9)]; rw [decide_eq_false (by omega)] at q; exact q
  · rw [decide_eq_false (by omega)] at q; exact Or.inr (Or.inr (Or.inr (Or.inr (Or.inr (Or.inr ⟨hs, q⟩)))))
theorem ltd_c {X : Nat → Nat → Nat} {oa i : Nat} {M : Mem} {Q : Int32 → Mem → Prop} (h : oC X oa M) (hi : i < 2 ^ 31) (q : ∀ x : Int32, x.toInt = (htd X i : Int) - 1 → Q x M) : v_X5_lineTold oa (nI i) M Q := by
  obtain ⟨⟨hk, ho, hs, hv⟩, h6⟩ := h
  unfold v_X5_lineTold
  have q0 : ¬ (X 4 0 = 6 ∧ i < 10) → Q (-1) M := fun c => q (-1) (by unfold htd; rw [if_neg c]; decide)
  rcases seven hk with e | e | e | e | e | e | e <;> rw [e] at hs
  · exact Or.inl ⟨hs, q0 (by omega)⟩
  · exact Or.inr (Or.inl ⟨hs, q0 (by omega)⟩)
  · exact Or.inr (Or.inr (Or.inr (Or.inr (Or.inr (Or.inl ⟨hs, q0 (by omega)⟩)))))
  · exact Or.inr (Or.inr (Or.inr (Or.inl ⟨hs, q0 (by omega)⟩)))
  · exact Or.inr (Or.inr (Or.inr (Or.inr (Or.inl ⟨hs, q0 (by omega)⟩))))
  · exact Or.inr (Or.inr (Or.inl ⟨hs, q0 (by omega)⟩))
  · refine Or.inr (Or.inr (Or.inr (Or.inr (Or.inr (Or.inr ⟨hs, ?_⟩)))))
    obtain ⟨g1, g2, g3, g4⟩ := h6 e
    unfold f_X9_lineTold
    rw [if_neg (nI_pos hi)]
    by_cases c : i < 10
    · rw [if_pos (show nI i < (10 : Int32) from nI_lt (b := 10) c (by omega))]
      refine ⟨⟨9, List.mem_singleton.mpr rfl, hs⟩, oa + 2, g1, ⟨10, g3, vp_in_nI c (by omega)⟩, q _ ?_⟩
      rw [nI_clamp hi, g4 i c]; unfold htd; rw [if_pos ⟨e, c⟩]
    · rw [if_neg (show ¬ nI i < (10 : Int32) from nI_nlt (b := 10) (by omega) hi)]
      exact q0 (by omega)
def hdI (l : List Nat) : Int32 := match l with
  | [] => -1
  | i :: _ => nI i
theorem hdI_cons (i : Nat) (l : List Nat) : hdI (i :: l) = nI i := rfl
theorem nxt_c {X : Nat → Nat → Nat} {oa : Nat} {S : HS} {M : Mem} {Q : Int32 → Mem → Prop} (h : oC X oa M) (hv9 : X 4 1 < 2 ^ 31) (ht : htr S < 2 ^ 31) (hb : ∀ l i, l < 2 → i ∈ hq S l → i < 2 ^ 31) (q : Q (hdI (hq S (hNx X S))) M) : v_X5_next oa (hdI (hq S 1)) (hdI (hq S 0)) (nI (htr S)) M Q := by
  obtain ⟨⟨hk, ho, hs, hv⟩, -⟩ := h
  have m1 : hdI ([] : List Nat) < 0 := by decide
  have m2 : ¬ (0 : Int32) ≤ hdI ([] : List Nat) := by decide
  have b0 := fun i => hb 0 i (by omega)
  have b1 := fun i => hb 1 i (by omega)
  unfold v_X5_next
  have X1 : (X 4 0 = 1 ∨ X 4 0 = 3 ∨ X 4 0 = 6) → f_X1_next oa (hdI (hq S 1)) (hdI (hq S 0)) (nI (htr S)) M Q := by
    intro e
    unfold f_X1_next
    unfold hNx at q
    cases h1 : hq S 1 with
    | nil => rw [if_pos h1] at q; rw [if_pos m1]; exact q
    | cons i r =>
      rw [if_neg (by rw [h1]; exact List.cons_ne_nil _ _)] at q
      rw [hdI_cons, if_neg (nI_pos (b1 i (by rw [h1]; exact List.mem_cons_self ..)))]
      by_cases h0 : hq S 0 = []
      · rw [if_pos h0, h1] at q; exact q
      · rw [if_neg h0, if_pos e, h1] at q; exact q
  have X7 : (X 4 0 = 2 ∨ X 4 0 = 4) → isO M oa [7, 6] → f_X7_next oa (hdI (hq S 1)) (hdI (hq S 0)) (nI (htr S)) M Q := by
    intro e hO
    unfold f_X7_next
    unfold hNx at q
    cases h1 : hq S 1 with
    | nil => rw [if_pos h1] at q; rw [if_pos m1]; exact q
    | cons i r =>
      rw [if_neg (by rw [h1]; exact List.cons_ne_nil _ _)] at q
      rw [hdI_cons, if_neg (nI_pos (b1 i (by rw [h1]; exact List.mem_cons_self ..)))]
      refine ⟨hO, ?_⟩
      rw [hv]
      cases h0 : hq S 0 with
      | nil =>
        rw [if_pos h0, h1] at q
        have : ¬ (0 : Int32) ≤ hdI [] := m2
        rw [if_neg this]
        split <;> exact q
      | cons j r0 =>
        rw [if_neg (by rw [h0]; exact List.cons_ne_nil _ _), if_neg (by omega), if_pos e] at q
        rw [hdI_cons, if_pos (nI_pos' (b0 j (by rw [h0]; exact List.mem_cons_self ..)))]
        by_cases c : htr S < X 4 1
        · rw [if_pos c, h1] at q; rw [if_pos (nI_lt c hv9)]; exact q
        · rw [if_neg c, h0] at q; rw [if_neg (nI_nlt (by omega) ht)]; exact q
  have X5 : (X 4 0 = 0 ∨ X 4 0 = 5) → f_X5_next oa (hdI (hq S 1)) (hdI (hq S 0)) (nI (htr S)) M Q := by
    intro e
    unfold f_X5_next f_X5_next_J8
    unfold hNx at q
    cases h1 : hq S 1 with
    | nil =>
      rw [if_pos h1] at q
      have : hdI ([] : List Nat) < 0 := m1
      rw [if_pos this]
      cases h0 : hq S 0 with
      | nil => rw [h0] at q; exact q
      | cons j r =>
        rw [h0] at q
        have hj := b0 j (by rw [h0]; exact List.mem_cons_self ..)
        have : hdI ([] : List Nat) < nI j := by show (-1 : Int32) < nI j; rw [i32_lt, nI_toInt hj]; simp only [Int32.reduceToInt]; omega
        rw [hdI_cons, if_pos this]; exact q
    | cons i r =>
      have hi := b1 i (by rw [h1]; exact List.mem_cons_self ..)
      rw [if_neg (by rw [h1]; exact List.cons_ne_nil _ _)] at q
      rw [hdI_cons, if_neg (nI_pos hi)]
      cases h0 : hq S 0 with
      | nil =>
        rw [if_pos h0, h1] at q
        have : ¬ (0 : Int32) ≤ hdI [] := m2
        rw [if_neg this]
        have : ¬ nI i < hdI ([] : List Nat) := by show ¬ nI i < (-1 : Int32); rw [i32_lt, nI_toInt hi]; simp only [Int32.reduceToInt]; omega
        rw [if_neg this]; exact q
      | cons j r0 =>
        have hj := b0 j (by rw [h0]; exact List.mem_cons_self ..)
        rw [if_neg (by rw [h0]; exact List.cons_ne_nil _ _), if_neg (by omega), if_neg (by omega), h1, h0] at q
        rw [hdI_cons, if_pos (nI_pos' hj)]
        by_cases c : i < j
        · rw [if_pos (show (i :: r).headD 0 < (j :: r0).headD 0 from c), h1] at q
          rw [if_neg (nI_nlt (by omega) hj)]; exact q
        · rw [if_neg (show ¬ (i :: r).headD 0 < (j :: r0).headD 0 from c), h0] at q
          by_cases c2 : j < i
          · rw [if_pos (nI_lt c2 hi)]; exact q
          · obtain rfl : i = j := by omega
            rw [if_neg (nI_nlt (Nat.le_refl _) hi)]; exact q
  rcases seven hk with e | e | e | e | e | e | e <;> rw [e] at hs
  · exact Or.inl ⟨hs, X5 (by omega)⟩
  · exact Or.inr (Or.inl ⟨hs, X1 (by omega)⟩)
  · exact Or.inr (Or.inr (Or.inr (Or.inr (Or.inr (Or.inl ⟨hs, X7 (by omega) ⟨7, by decide, hs⟩⟩)))))
  · exact Or.inr (Or.inr (Or.inr (Or.inl ⟨hs, X1 (by omega)⟩)))
  · exact Or.inr (Or.inr (Or.inr (Or.inr (Or.inl ⟨hs, X7 (by omega) ⟨6, by decide, hs⟩⟩))))
  · exact Or.inr (Or.inr (Or.inl ⟨hs, X5 (by omega)⟩))
  · exact Or.inr (Or.inr (Or.inr (Or.inr (Or.inr (Or.inr ⟨hs, X1 (by omega)⟩)))))
