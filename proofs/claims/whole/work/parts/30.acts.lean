/-! ===== acts: bodies, values ===== -/
def aJ (k r v : Nat) (x : Int32) : List Int32 × Int32 := if k = 2 ∨ k = 4 then ([30, 10], x * 3 + nI r) else if k = 3 then ([50, 10], -(x + nI r)) else if k = 6 then ([71, 10], (x + nI r) ^^^ nI v) else ([10], x + nI r)
def aPT (k r v : Nat) (x : Int32) : List Int32 × Int32 := (11 :: (aJ k r v x).1, (aJ k r v x).2 - nI v)
def aFT (k r v : Nat) (x : Int32) : List Int32 × Int32 := (20 :: (aPT k r v x).1, (aPT k r v x).2 ^^^ 6)
def aT (k r v : Nat) (x : Int32) : List Int32 × Int32 := if k = 1 then aFT k r v x else if k = 3 then (51 :: (aFT k r v (x + 1)).1, (aFT k r v (x + 1)).2) else if k = 6 then (70 :: ((aFT k r v x).1 ++ [10]), (aFT k r v x).2 + (2 + nI r)) else aPT k r v x
def aPL (k r v : Nat) (x : Int32) : List Int32 × Int32 := (12 :: (aT k r v x).1, (aT k r v x).2 * 2)
def aL (k r v : Nat) (x : Int32) : List Int32 × Int32 := if k = 4 then (60 :: (aPL k r v (x - nI r)).1, (aPL k r v (x - nI r)).2) else if k = 5 then (40 :: ((aPL k r v x).1 ++ (aT k r v 1).1), (aPL k r v x).2 + (aT k r v 1).2) else aPL k r v x
theorem aJ_len (k r v : Nat) (x : Int32) : (aJ k r v x).1.length ≤ 2 := by
  unfold aJ; split
  · exact Nat.le_refl _
  · split
    · exact Nat.le_refl _
    · split
      · exact Nat.le_refl _
      · show 1 ≤ 2; omega
theorem aFT_len (k r v : Nat) (x : Int32) : (aFT k r v x).1.length ≤ 4 := by
  have := aJ_len k r v x
  show (aJ k r v x).1.length + 1 + 1 ≤ 4; omega
theorem aT_len (k r v : Nat) (x : Int32) : (aT k r v x).1.length ≤ 6 := by
  have h1 := aJ_len k r v x
  have h2 := aFT_len k r v x
  have h3 := aFT_len k r v (x + 1)
  unfold aT; split
  · omega
  · split
    · show (aFT k r v (x + 1)).1.length + 1 ≤ 6; omega
    · split
      · show ((aFT k r v x).1 ++ [10]).length + 1 ≤ 6
        rw [List.length_append]; show (aFT k r v x).1.length + 1 + 1 ≤ 6; omega
      · show (aJ k r v x).1.length + 1 ≤ 6; omega
theorem aL_len (k r v : Nat) (x : Int32) : (aL k r v x).1.length ≤ 14 := by
  have h1 := aT_len k r v x
  have h2 := aT_len k r v (x - nI r)
  have h3 := aT_len k r v 1
  unfold aL; split
  · show (aT k r v (x - nI r)).1.length + 1 + 1 ≤ 14; omega
  · split
    · show ((aPL k r v x).1 ++ (aT k r v 1).1).length + 1 ≤ 14
      rw [List.length_append]
      show (aT k r v x).1.length + 1 + (aT k r v 1).1.length + 1 ≤ 14; omega
    · show (aT k r v x).1.length + 1 ≤ 14; omega
/-- the class's object at a has run the bodies b since M0 -/
def bC (M0 : Mem) (a : Nat) (b : List Int32) (M : Mem) : Prop := Sm M0 M ∧ mI M a 2 = nI b.length ∧ (∀ j x, b[j]? = some x → mI M (a + 1) j = x) ∧ ∀ c j, ¬ (c = a ∧ j = 2 ∨ c = a + 1) → mI M c j = mI M0 c j
def oB (M0 : Mem) (a k r v : Nat) : Prop := k ≤ 6 ∧ mS M0 a = .inl (kc k) ∧ mS M0 (a + 1) = .inr (0, 20) ∧ mP M0 a 3 = some (a + 1) ∧ mI M0 a 0 = nI r ∧ mI M0 a 1 = nI v
theorem seven {k : Nat} (h : k ≤ 6) : k = 0 ∨ k = 1 ∨ k = 2 ∨ k = 3 ∨ k = 4 ∨ k = 5 ∨ k = 6 := by omega
theorem kc_in {k : Nat} (h : k ≤ 6) : kc k ∈ [5, 1, 2, 4, 6, 7, 9] := by rcases seven h with rfl | rfl | rfl | rfl | rfl | rfl | rfl <;> decide
theorem began_c {M0 M : Mem} {a k r v : Nat} {b : List Int32} {x : Int32} {Q : Mem → Prop} (ho : oB M0 a k r v) (h : bC M0 a b M) (hl : b.length < 20) (q : ∀ M1, bC M0 a (b ++ [x]) M1 → Q M1) : f_X5_began a x M Q := by
  obtain ⟨o1, o2, o3, o4, o5, o6⟩ := ho
  obtain ⟨s, e1, e2, e3⟩ := h
  have hs : mS M a = .inl (kc k) := by rw [s.2.1]; exact o2
  have ec := nI_toInt (n := b.length) (by omega)
  unfold f_X5_began f_X5_began_J26
  refine ⟨⟨kc k, kc_in o1, hs⟩, ?_⟩
  rw [e1, if_neg (by rw [i32_lt]; simp only [Int32.reduceToInt]; omega), if_neg (by rw [i32_le]; simp only [Int32.reduceToInt]; omega)]
  refine ⟨a + 1, by rw [s.2.2.1]; exact o4, ⟨20, by rw [s.2.1]; exact o3, vp_of (by omega) (by omega)⟩, ?_⟩
  intro M2 hE2
  rw [nI_clamp (by omega)] at hE2
  refine ⟨⟨kc k, kc_in o1, by rw [hE2]; exact hs⟩, ?_⟩
  intro M3 hE3
  refine q M3 ⟨by rw [hE3, hE2]; exact s, ?_, fun j y hj => ?_, fun c j z => ?_⟩
  · rw [hE3, mI_sI_s, hE2, mI_ne _ _ (by omega), e1, nI_1, List.length_append]; rfl
  · rw [hE3, mI_ne _ _ (by omega), hE2]
    by_cases e : j = b.length
    · subst e
      rw [mI_sI_s]
      rw [List.getElem?_append_right (Nat.le_refl _), Nat.sub_self] at hj
      injection hj
    · have hjl := (List.getElem?_eq_some_iff.mp hj).1
      rw [List.length_append] at hjl
      have hjl2 : j < b.length + 1 := hjl
      rw [mI_ne _ _ (by omega)]
      rw [List.getElem?_append_left (by omega)] at hj
      exact e2 j y hj
  · rw [hE3, mI_ne _ _ (by omega), hE2, mI_ne _ _ (by omega)]; exact e3 c j z
theorem bC_s {M0 M : Mem} {a : Nat} {b : List Int32} (h : bC M0 a b M) : mS M = mS M0 := h.1.2.1
theorem bC_n {M0 M : Mem} {a j : Nat} {b : List Int32} (h : bC M0 a b M) (hj : j < 2) : mI M a j = mI M0 a j := h.2.2.2 a j (by omega)
theorem mS_cls {M0 M : Mem} {a k r v : Nat} {b : List Int32} (ho : oB M0 a k r v) (h : bC M0 a b M) : mS M a = .inl (kc k) := by rw [bC_s h]; exact ho.2.1
theorem vbegan_c {M0 M : Mem} {a k r v : Nat} {b : List Int32} {x : Int32} {Q : Mem → Prop} (ho : oB M0 a k r v) (h : bC M0 a b M) (hl : b.length < 20) (q : ∀ M1, bC M0 a (b ++ [x]) M1 → Q M1) : v_X5_began a x M Q := by
  have hf := began_c (x := x) ho h hl q
  have hs := mS_cls ho h
  unfold v_X5_began
  rcases seven ho.1 with rfl | rfl | rfl | rfl | rfl | rfl | rfl
  · exact Or.inl ⟨hs, hf⟩
  · exact Or.inr (Or.inl ⟨hs, hf⟩)
  · exact Or.inr (Or.inr (Or.inr (Or.inr (Or.inr (Or.inl ⟨hs, hf⟩)))))
  · exact Or.inr (Or.inr (Or.inr (Or.inl ⟨hs, hf⟩)))
  · exact Or.inr (Or.inr (Or.inr (Or.inr (Or.inl ⟨hs, hf⟩))))
  · exact Or.inr (Or.inr (Or.inl ⟨hs, hf⟩))
  · exact Or.inr (Or.inr (Or.inr (Or.inr (Or.inr (Or.inr ⟨hs, hf⟩)))))
theorem oAny {M0 M : Mem} {a k r v : Nat} {b : List Int32} (ho : oB M0 a k r v) (h : bC M0 a b M) : isO M a [5, 1, 2, 4, 6, 7, 9] := ⟨kc k, kc_in ho.1, mS_cls ho h⟩
/-- ORDER's own joins -/
theorem j5_c {M0 M : Mem} {a k r v : Nat} {b : List Int32} {x : Int32} {Q : Int32 → Mem → Prop} (ho : oB M0 a k r v) (h : bC M0 a b M) (hl : b.length < 20) (q : ∀ M1, bC M0 a (b ++ [10]) M1 → Q (x + nI r) M1) : f_X5_joins a x M Q := by
  unfold f_X5_joins
  refine vbegan_c ho h hl fun M1 h1 => ⟨oAny ho h1, ?_⟩
  rw [bC_n h1 (by omega), ho.2.2.2.2.1]; exact q M1 h1
theorem joins_c {M0 M : Mem} {a k r v : Nat} {b : List Int32} {x : Int32} {Q : Int32 → Mem → Prop} (ho : oB M0 a k r v) (h : bC M0 a b M) (hl : b.length < 19) (q : ∀ M1, bC M0 a (b ++ (aJ k r v x).1) M1 → Q (aJ k r v x).2 M1) : v_X5_joins a x M Q := by
  have hs := mS_cls ho h
  have l2 : ∀ y : Int32, (b ++ [y]).length < 20 := fun y => by rw [List.length_append]; show b.length + 1 < 20; omega
  unfold v_X5_joins
  rcases seven ho.1 with rfl | rfl | rfl | rfl | rfl | rfl | rfl
  · exact Or.inl ⟨hs, j5_c ho h (by omega) q⟩
  · exact Or.inr (Or.inl ⟨hs, j5_c ho h (by omega) q⟩)
  · refine Or.inr (Or.inr (Or.inr (Or.inr (Or.inr (Or.inl ⟨hs, ?_⟩)))))
    unfold f_X7_joins v_X7_began
    refine Or.inl ⟨hs, began_c ho h (by omega) fun M1 h1 => ⟨⟨7, by decide, mS_cls ho h1⟩, j5_c ho h1 (l2 _) fun M2 h2 => ?_⟩⟩
    rw [List.append_assoc] at h2
    exact q M2 h2
  · refine Or.inr (Or.inr (Or.inr (Or.inl ⟨hs, ?_⟩)))
    unfold f_X4_joins v_X4_began
    refine ⟨hs, began_c ho h (by omega) fun M1 h1 => ⟨⟨4, by decide, mS_cls ho h1⟩, j5_c ho h1 (l2 _) fun M2 h2 => ?_⟩⟩
    rw [List.append_assoc] at h2
    exact q M2 h2
  · refine Or.inr (Or.inr (Or.inr (Or.inr (Or.inl ⟨hs, ?_⟩))))
    unfold f_X7_joins v_X7_began
    refine Or.inr ⟨hs, began_c ho h (by omega) fun M1 h1 => ⟨⟨6, by decide, mS_cls ho h1⟩, j5_c ho h1 (l2 _) fun M2 h2 => ?_⟩⟩
    rw [List.append_assoc] at h2
    exact q M2 h2
  · exact Or.inr (Or.inr (Or.inl ⟨hs, j5_c ho h (by omega) q⟩))
  · refine Or.inr (Or.inr (Or.inr (Or.inr (Or.inr (Or.inr ⟨hs, ?_⟩)))))
    unfold f_X9_joins v_X9_began
    refine ⟨hs, began_c ho h (by omega) fun M1 h1 => ⟨⟨9, by decide, mS_cls ho h1⟩, j5_c ho h1 (l2 _) fun M2 h2 => ⟨⟨9, by decide, mS_cls ho h2⟩, ?_⟩⟩⟩
    rw [List.append_assoc] at h2
    rw [bC_n h2 (by omega), ho.2.2.2.2.2]
    exact q M2 h2
theorem t5_c {M0 M : Mem} {a k r v : Nat} {b : List Int32} {x : Int32} {Q : Int32 → Mem → Prop} (ho : oB M0 a k r v) (h : bC M0 a b M) (hl : b.length < 18) (q : ∀ M1, bC M0 a (b ++ (aPT k r v x).1) M1 → Q (aPT k r v x).2 M1) : f_X5_takes a x M Q := by
  unfold f_X5_takes
  refine vbegan_c ho h (by omega) fun M1 h1 => joins_c ho h1 (by rw [List.length_append]; show b.length + 1 < 19; omega) fun M2 h2 => ⟨oAny ho h2, ?_⟩
  rw [List.append_assoc] at h2
  rw [bC_n h2 (by omega), ho.2.2.2.2.2]
  exact q M2 h2
theorem t1_c {M0 M : Mem} {a k r v : Nat} {b : List Int32} {x : Int32} {Q : Int32 → Mem → Prop} (ho : oB M0 a k r v) (hk : k = 1 ∨ k = 3 ∨ k = 6) (h : bC M0 a b M) (hl : b.length < 17) (q : ∀ M1, bC M0 a (b ++ (aFT k r v x).1) M1 → Q (aFT k r v x).2 M1) : f_X1_takes a x M Q := by
  have hs := mS_cls ho h
  have go : f_X5_began a 20 M (fun M2 => (isO M2 a [1, 4, 9] ∧ (f_X5_takes a x M2 (fun w3 M4 => Q (w3 ^^^ (6 : Int32)) M4)))) := by
    refine began_c ho h (by omega) fun M1 h1 => ⟨⟨kc k, ?_, mS_cls ho h1⟩, t5_c ho h1 (by rw [List.length_append]; show b.length + 1 < 18; omega) fun M2 h2 => ?_⟩
    · rcases hk with rfl | rfl | rfl <;> decide
    · rw [List.append_assoc] at h2
      exact q M2 h2
  unfold f_X1_takes v_X1_began
  rcases hk with rfl | rfl | rfl
  · exact Or.inl ⟨hs, go⟩
  · exact Or.inr (Or.inl ⟨hs, go⟩)
  · exact Or.inr (Or.inr ⟨hs, go⟩)
theorem takes_c {M0 M : Mem} {a k r v : Nat} {b : List Int32} {x : Int32} {Q : Int32 → Mem → Prop} (ho : oB M0 a k r v) (h : bC M0 a b M) (hl : b.length < 15) (q : ∀ M1, bC M0 a (b ++ (aT k r v x).1) M1 → Q (aT k r v x).2 M1) : v_X5_takes a x M Q := by
  have hs := mS_cls ho h
  have l2 : ∀ y : Int32, (b ++ [y]).length < 16 := fun y => by rw [List.length_append]; show b.length + 1 < 16; omega
  unfold v_X5_takes
  rcases seven ho.1 with rfl | rfl | rfl | rfl | rfl | rfl | rfl
  · exact Or.inl ⟨hs, t5_c ho h (by omega) q⟩
  · exact Or.inr (Or.inl ⟨hs, t1_c ho (by omega) h (by omega) q⟩)
  · exact Or.inr (Or.inr (Or.inr (Or.inr (Or.inr (Or.inl ⟨hs, t5_c ho h (by omega) q⟩)))))
  · refine Or.inr (Or.inr (Or.inr (Or.inl ⟨hs, ?_⟩)))
    unfold f_X4_takes v_X4_began
    refine ⟨hs, began_c ho h (by omega) fun M1 h1 => ⟨⟨4, by decide, mS_cls ho h1⟩, t1_c ho (by omega) h1 (by have := l2 51; omega) fun M2 h2 => ?_⟩⟩
    rw [List.append_assoc] at h2
    exact q M2 h2
  · exact Or.inr (Or.inr (Or.inr (Or.inr (Or.inl ⟨hs, t5_c ho h (by omega) q⟩))))
  · exact Or.inr (Or.inr (Or.inl ⟨hs, t5_c ho h (by omega) q⟩))
  · refine Or.inr (Or.inr (Or.inr (Or.inr (Or.inr (Or.inr ⟨hs, ?_⟩)))))
    unfold f_X9_takes v_X9_began
    refine ⟨hs, began_c ho h (by omega) fun M1 h1 => ⟨⟨9, by decide, mS_cls ho h1⟩, t1_c ho (by omega) h1 (by have := l2 70; omega) fun M2 h2 => ⟨⟨9, by decide, mS_cls ho h2⟩, j5_c ho h2 ?_ fun M3 h3 => ?_⟩⟩⟩
    · have := aFT_len 6 r v x
      rw [List.length_append, List.length_append]; show b.length + 1 + (aFT 6 r v x).1.length < 20; omega
    · rw [List.append_assoc, List.append_assoc] at h3
      exact q M3 h3
theorem l5_c {M0 M : Mem} {a k r v : Nat} {b : List Int32} {x : Int32} {Q : Int32 → Mem → Prop} (ho : oB M0 a k r v) (h : bC M0 a b M) (hl : b.length < 14) (q : ∀ M1, bC M0 a (b ++ (aPL k r v x).1) M1 → Q (aPL k r v x).2 M1) : f_X5_tells a x M Q := by
  unfold f_X5_tells
  refine vbegan_c ho h (by omega) fun M1 h1 => takes_c ho h1 (by rw [List.length_append]; show b.length + 1 < 15; omega) fun M2 h2 => ?_
  rw [List.append_assoc] at h2
  exact q M2 h2
theorem tells_c {M0 M : Mem} {a k r v : Nat} {b : List Int32} {x : Int32} {Q : Int32 → Mem → Prop} (ho : oB M0 a k r v) (h : bC M0 a b M) (hl : b.length < 5) (q : ∀ M1, bC M0 a (b ++ (aL k r v x).1) M1 → Q (aL k r v x).2 M1) : v_X5_tells a x M Q := by
  have hs := mS_cls ho h
  have l2 : ∀ y : Int32, (b ++ [y]).length < 6 := fun y => by rw [List.length_append]; show b.length + 1 < 6; omega
  unfold v_X5_tells
  rcases seven ho.1 with rfl | rfl | rfl | rfl | rfl | rfl | rfl
  · exact Or.inl ⟨hs, l5_c ho h (by omega) q⟩
  · exact Or.inr (Or.inl ⟨hs, l5_c ho h (by omega) q⟩)
  · exact Or.inr (Or.inr (Or.inr (Or.inr (Or.inr (Or.inl ⟨hs, l5_c ho h (by omega) q⟩)))))
  · exact Or.inr (Or.inr (Or.inr (Or.inl ⟨hs, l5_c ho h (by omega) q⟩)))
  · refine Or.inr (Or.inr (Or.inr (Or.inr (Or.inl ⟨hs, ?_⟩))))
    unfold f_X6_tells v_X6_began
    refine ⟨hs, began_c ho h (by omega) fun M1 h1 => ⟨⟨6, by decide, mS_cls ho h1⟩, ?_⟩⟩
    rw [bC_n h1 (by omega), ho.2.2.2.2.1]
    refine l5_c ho h1 (by have := l2 60; omega) fun M2 h2 => ?_
    rw [List.append_assoc] at h2
    exact q M2 h2
  · refine Or.inr (Or.inr (Or.inl ⟨hs, ?_⟩))
    unfold f_X2_tells v_X2_began
    refine ⟨hs, began_c ho h (by omega) fun M1 h1 => ⟨⟨2, by decide, mS_cls ho h1⟩, l5_c ho h1 (by have := l2 40; omega) fun M2 h2 => ?_⟩⟩
    unfold v_X2_takes
    refine ⟨mS_cls ho h2, t5_c ho h2 ?_ fun M3 h3 => ?_⟩
    · have h7 := aT_len 5 r v x
      rw [List.length_append, List.length_append]; show b.length + 1 + ((aT 5 r v x).1.length + 1) < 18; omega
    · rw [List.append_assoc, List.append_assoc] at h3
      exact q M3 h3
  · exact Or.inr (Or.inr (Or.inr (Or.inr (Or.inr (Or.inr ⟨hs, l5_c ho h (by omega) q⟩)))))
