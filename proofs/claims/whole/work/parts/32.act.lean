/-! ===== act, taken, row ===== -/
theorem mP_sP_s (M : Mem) (a k : Nat) (v : Option Nat) : mP (sP M a k v) a k = v := u2_same _ _ _ _
theorem mP_sP_ne (M : Mem) {a k b j : Nat} (v : Option Nat) (h : ¬ (b = a ∧ j = k)) : mP (sP M a k v) b j = mP M b j := if_neg h
theorem ow_2 (k : Nat) : 2 ≤ ow k ∧ ow k ≤ 3 := by unfold ow; split <;> omega
theorem ow_6 {k : Nat} (h : k = 6) : ow k = 3 := by unfold ow; rw [if_pos h]
theorem iO_sep {M : Mem} {no : Nat} {oa kd vv : Nat → Nat} (h : iO M no oa kd vv) {r q : Nat} (hr : r < no) (hq : q < no) (hne : r ≠ q) : oa r + ow (kd r) ≤ oa q ∨ oa q + ow (kd q) ≤ oa r := by
  rcases Nat.lt_or_ge r q with e | e
  · exact Or.inl (h.2.2.2.2 r q e hq)
  · exact Or.inr (h.2.2.2.2 q r (by omega) hr)
theorem iO_act {M M' : Mem} {no r0 : Nat} {oa kd vv : Nat → Nat} (h : iO M no oa kd vv) (h0 : r0 < no) (hn : mN M' = mN M) (hs : mS M' = mS M) (hp : ∀ b j, b = 14 ∨ 118 ≤ b → mP M' b j = mP M b j) (e : ∀ c j, ¬ (c = oa r0 ∧ j = 2 ∨ c = oa r0 + 1 ∨ c = 76 ∧ j = 61 ∨ c = 113) → mI M' c j = mI M c j) : iO M' no oa kd vv := by
  obtain ⟨h1, h2, h3, h4, h5⟩ := id h
  have hb := (h4 r0 h0).2.1.1
  refine ⟨h1, (e _ _ (by omega)).trans h2, (e _ _ (by omega)).trans h3, fun r hr => ?_, h5⟩
  have hbr := (h4 r hr).2.1.1
  have o1 := ow_2 (kd r)
  have o2 := ow_2 (kd r0)
  refine oK_fr (h4 r hr) (by omega) (fun b _ _ => by rw [hs]) (fun b j q => hp b j (by omega)) (fun b j q => e b j ?_)
  by_cases er : r = r0
  · subst er; omega
  · rcases iO_sep h hr h0 er with s | s
    · rcases q with q | q | q | q | ⟨q6, q⟩
      · omega
      · omega
      · omega
      · omega
      · rw [ow_6 q6] at s; omega
    · rcases q with q | q | q | q | ⟨q6, q⟩
      · omega
      · omega
      · omega
      · omega
      · omega
/-- one act, by its number -/
def aAct (w k r v : Nat) (x : Int32) : List Int32 × Int32 := if w = 0 then aJ k r v x else if w = 1 then aT k r v x else aL k r v x
theorem aAct_len (w k r v : Nat) (x : Int32) : (aAct w k r v x).1.length ≤ 20 := by
  have h1 := aJ_len k r v x
  have h2 := aT_len k r v x
  have h3 := aL_len k r v x
  unfold aAct; split
  · omega
  · split <;> omega
theorem act_c {M : Mem} {w no r : Nat} {x3 : Int32} {oa kd vv : Nat → Nat} {Q : Int32 → Mem → Prop} (hG : Good M) (hO : iO M no oa kd vv) (hr : r < no) (hw : w ≤ 2) (hQ : ∀ M1, Good M1 → mN M1 = mN M → mS M1 = mS M → mL M1 = mL M → mP M1 0 10 = some (oa r) → (∀ b j, ¬ (b = 0 ∧ j = 10) → mP M1 b j = mP M b j) → mI M1 (oa r) 2 = nI (aAct w (kd r) r (vv r) x3).1.length → (∀ j y, (aAct w (kd r) r (vv r) x3).1[j]? = some y → mI M1 (oa r + 1) j = y) → (∀ c j, ¬ (c = oa r ∧ j = 2 ∨ c = oa r + 1) → mI M1 c j = mI M c j) → Q (aAct w (kd r) r (vv r) x3).2 M1) : f_X11_act 0 (nI r) (nI w) x3 M Q := by
  have hK := hO.2.2.2.1 r hr
  obtain ⟨k1, k2, k3, k4, k5⟩ := id hK
  have h10 := hO.1
  unfold f_X11_act
  refine ⟨oQ hG, ?_⟩
  intro M2 hE2
  have hG2 : Good M2 := by rw [hE2]; exact good_sP hG rfl _
  have p2 : ∀ b j, ¬ (b = 0 ∧ j = 10) → mP M2 b j = mP M b j := fun b j q => by rw [hE2]; exact if_neg q
  have i2 : mI M2 = mI M := by rw [hE2]; rfl
  have n2 : mN M2 = mN M ∧ mS M2 = mS M ∧ mL M2 = mL M := by rw [hE2]; exact ⟨rfl, rfl, rfl⟩
  refine ordA_s (a := oa r) hG2 (by rw [i2]; exact hO.2.1) h10 hr (by rw [p2 _ _ (by omega)]; exact k3.2.2.2) ?_
  refine And.intro (fun h => (by cases h)) (fun b hb => ?_)
  cases hb
  have ew := nI_toInt (n := w) (by omega)
  refine out_f (by simp only [Int32.reduceToInt]; omega) ?_
  simp only [if_true, if_false, Bool.false_eq_true, reduceIte]
  refine ⟨oQ hG2, ?_⟩
  intro M3 hE3
  have hG3 : Good M3 := by rw [hE3]; exact good_sP hG2 rfl _
  have p3 : ∀ b j, ¬ (b = 0 ∧ j = 10) → mP M3 b j = mP M b j := fun b j q => by rw [hE3]; exact (if_neg q).trans (p2 b j q)
  have p3s : mP M3 0 10 = some (oa r) := by rw [hE3, mP_sP_s]
  have i3 : mI M3 = mI M := by rw [hE3]; exact i2
  have n3 : mN M3 = mN M ∧ mS M3 = mS M ∧ mL M3 = mL M := by rw [hE3]; exact n2
  refine ⟨⟨kc (kd r), kc_in k1.1, by rw [n3.2.1]; exact k3.1⟩, ?_⟩
  intro M4 hE4
  have hG4 : Good M4 := by rw [hE4]; exact hG3
  have p4 : mP M4 = mP M3 := by rw [hE4]; rfl
  have n4 : mN M4 = mN M ∧ mS M4 = mS M ∧ mL M4 = mL M := by rw [hE4]; exact n3
  have i4 : ∀ c j, ¬ (c = oa r ∧ j = 2) → mI M4 c j = mI M c j := fun c j q => by rw [hE4, mI_ne _ _ (by omega), i3]
  have i4s : mI M4 (oa r) 2 = nI 0 := by rw [hE4, mI_sI_s]; rfl
  have ho : oB M4 (oa r) (kd r) r (vv r) := ⟨k1.1, by rw [n4.2.1]; exact k3.1, by rw [n4.2.1]; exact k3.2.1, by rw [p4, p3 _ _ (by omega)]; exact k3.2.2.1, by rw [i4 _ _ (by omega)]; exact k4.1, by rw [i4 _ _ (by omega)]; exact k4.2.1⟩
  have hb : bC M4 (oa r) [] M4 := ⟨Sm.rf _, i4s, fun j y hj => by simp at hj, fun _ _ _ => rfl⟩
  have fin : ∀ w', w' = w → ∀ M5, bC M4 (oa r) ([] ++ (aAct w' (kd r) r (vv r) x3).1) M5 → Q (aAct w' (kd r) r (vv r) x3).2 M5 := by
    rintro w' rfl M5 ⟨s5, b1, b2, b3⟩
    rw [List.nil_append] at b1 b2
    refine hQ M5 (s5.good hG4) (s5.1.trans n4.1) (s5.2.1.trans n4.2.1) (s5.2.2.2.trans n4.2.2) (by rw [s5.2.2.1, p4]; exact p3s) (fun b j q => by rw [s5.2.2.1, p4]; exact p3 b j q) b1 b2 (fun c j q => ?_)
    rw [b3 c j q, i4 c j (by omega)]
  have hw3 : w = 0 ∨ w = 1 ∨ w = 2 := by omega
  rcases hw3 with rfl | rfl | rfl
  · rw [if_pos (by decide)]
    exact joins_c ho hb (by show 0 < 19; omega) (fin 0 rfl)
  · rw [if_neg (by decide), if_pos (by decide)]
    exact takes_c ho hb (by show 0 < 15; omega) (fin 1 rfl)
  · rw [if_neg (by decide), if_neg (by decide)]
    exact tells_c ho hb (by show 0 < 5; omega) (fin 2 rfl)
theorem act_m {M : Mem} {w no r k v : Nat} {x3 : Int32} {Q : Int32 → Mem → Prop} (hG : Good M) (hn : no ≤ 10) (h27 : mI M 76 27 = nI no) (hr : r < no) (hk : k ≤ 6) (hk2 : mI M 94 r = nI k) (hv : mI M 95 r = nI v) (hw : w ≤ 2) (hQ : ∀ M1, Sm M M1 → mI M1 76 61 = nI (aAct w k r v x3).1.length → (∀ j y, (aAct w k r v x3).1[j]? = some y → mI M1 113 j = y) → (∀ c j, ¬ (c = 76 ∧ j = 61 ∨ c = 113) → mI M1 c j = mI M c j) → Q (aAct w k r v x3).2 M1) : f_X12_act 76 (nI r) (nI w) x3 M Q := by
  unfold f_X12_act
  refine ⟨oM hG, ?_⟩
  intro M2 hE2
  have s2 : Sm M M2 := by rw [hE2]; exact Sm.rf M
  have hG2 := s2.good hG
  have e2 : ∀ c j, ¬ (c = 76 ∧ j = 61) → mI M2 c j = mI M c j := fun c j q => by rw [hE2, mI_ne _ _ (by omega)]
  have z2 : mI M2 76 61 = nI 0 := by rw [hE2, mI_sI_s]; rfl
  refine isO_t hG2 (by rw [e2 _ _ (by omega)]; exact h27) hn hr ?_
  simp only [if_true, if_false, Bool.false_eq_true, reduceIte]
  have ew := nI_toInt (n := w) (by omega)
  refine ⟨oM hG2, in_t (by simp only [Int32.reduceToInt]; omega) ?_⟩
  simp only [if_true, if_false, Bool.false_eq_true, reduceIte]
  have ho : oM2 M2 k r v := ⟨hG2, hk, by omega, by rw [e2 _ _ (by omega)]; exact hk2, by rw [e2 _ _ (by omega)]; exact hv⟩
  have hb : bM M2 [] M2 := ⟨Sm.rf _, z2, fun j y hj => by simp at hj, fun _ _ _ => rfl⟩
  have fin : ∀ w', w' = w → ∀ M5, bM M2 ([] ++ (aAct w' k r v x3).1) M5 → Q (aAct w' k r v x3).2 M5 := by
    rintro w' rfl M5 ⟨s5, b1, b2, b3⟩
    rw [List.nil_append] at b1 b2
    exact hQ M5 (s2.tr s5) b1 b2 (fun c j q => by rw [b3 c j q, e2 c j (by omega)])
  have hw3 : w = 0 ∨ w = 1 ∨ w = 2 := by omega
  rcases hw3 with rfl | rfl | rfl
  · rw [if_pos (by decide)]
    exact ⟨oM hG2, joins_m ho hb (by show 0 < 19; omega) (fin 0 rfl)⟩
  · rw [if_neg (by decide), if_pos (by decide)]
    exact ⟨oM hG2, takes_m ho hb (by show 0 < 15; omega) (fin 1 rfl)⟩
  · rw [if_neg (by decide), if_neg (by decide)]
    exact ⟨oM hG2, tells_m ho hb (by show 0 < 5; omega) (fin 2 rfl)⟩
theorem J949 {M : Mem} (hI : Inv M) {v3 : Int32} {xs : Nat → Int32} {L : Nat} {K : Mem → Prop} (h1 : vp_in (v3 + 1) L) (h2 : vp_in (v3 + 2) L) (h3 : vp_in (v3 + 3) L) (hK : ∀ M', Inv M' → K M') : f_L_law_J949 0 76 v3 M xs L K := by
  obtain ⟨hG, ns, nt, nw, no, nh, cls, th, oa, kd, vv, iS0, iQ0, iN0, iH0, iZ0, iW0, iD0, iO0, iA0, iI0, iT0⟩ := id hI
  unfold f_L_law_J949
  generalize xs (v3 + 1).toNatClampNeg = x1
  generalize xs (v3 + 2).toNatClampNeg = x2
  generalize xs (v3 + 3).toNatClampNeg = x3
  refine ⟨h1, h2, h3, oQ hG, ?_⟩
  have h10 := iO0.1
  by_cases c : (0 ≤ x1.toInt ∧ x1.toInt < (no : Int)) ∧ 0 ≤ x2.toInt ∧ x2.toInt ≤ 2
  case neg =>
    -- nothing acts
    have bad : ∀ M2, M2 = sP M 0 10 none → vp_in (v3 + 1) L ∧ (vp_in (v3 + 2) L ∧ (vp_in (v3 + 3) L ∧ (isO M2 76 [12] ∧ f_X12_act 76 x1 x2 x3 M2 (fun w' M9 => if (0 : Int32) = w' then K M9 else False)))) := by
      intro M2 hE2
      have hG2 : Good M2 := by rw [hE2]; exact good_sP hG rfl _
      have i2 : mI M2 = mI M := by rw [hE2]; rfl
      refine ⟨h1, h2, h3, oM hG2, ?_⟩
      unfold f_X12_act
      refine ⟨oM hG2, ?_⟩
      intro M3 hE3
      have hG3 : Good M3 := by rw [hE3]; exact hG2
      have e3 : ∀ a j, ¬ (a = 76 ∧ j = 61) → mI M3 a j = mI M a j := fun a j q => by rw [hE3, mI_ne _ _ (by omega), i2]
      have p3 : ∀ b j, ¬ (b = 0 ∧ j = 10) → mP M3 b j = mP M b j := fun b j q => by rw [hE3, hE2]; exact if_neg q
      have fin : K M3 := by
        refine hK _ ⟨hG3, ns, nt, nw, no, nh, cls, th, oa, kd, vv, iS_fr iS0 ?_, iQ_fr iQ0 ?_, iN_fr iN0 ?_, iH_fr iH0 ?_, iZ_fr iZ0 ?_, iW_fr iW0 ?_, iD_fr iD0 ?_, iO_fr iO0 (by rw [hE3, hE2]; rfl) (by rw [hE3, hE2]; rfl) (fun b j q => p3 b j (by omega)) ?_, Or.inl ⟨by rw [hE3, mP_sI, hE2, mP_sP_s], by rw [hE3, mI_sI_s]⟩, iI_fr iI0 ?_, iT_fr iT0 (fun _ _ _ => by rw [hE3, hE2]; rfl) ?_⟩
        · intro a j q; unfold cS at q; exact e3 a j (by omega)
        · intro a j q; unfold cQ at q; exact e3 a j (by omega)
        · intro a j q; unfold cN at q; exact e3 a j (by omega)
        · intro a j q; unfold cH at q; exact e3 a j (by omega)
        · intro a j q; unfold cZ at q; exact e3 a j (by omega)
        · intro a j q; unfold cW at q; exact e3 a j (by omega)
        · intro a j q; unfold cD at q; exact e3 a j (by omega)
        · intro a j q; unfold cO at q; exact e3 a j (by omega)
        · intro a j q; unfold cI at q; exact e3 a j (by omega)
        · intro a j q; unfold cT at q; exact e3 a j (by omega)
      by_cases c1 : 0 ≤ x1.toInt ∧ x1.toInt < (no : Int)
      · obtain ⟨r, -, rfl, r1, r2⟩ := nI_ex c1.1
        refine isO_t hG3 ((e3 _ _ (by omega)).trans iO0.2.2.1) h10 (by omega) ?_
        simp only [if_true, if_false, Bool.false_eq_true, reduceIte]
        refine ⟨oM hG3, in_f (by simp only [Int32.reduceToInt]; omega) ?_⟩
        simp only [if_true, if_false, Bool.false_eq_true, reduceIte]
        exact fin
      · refine isO_f hG3 ((e3 _ _ (by omega)).trans iO0.2.2.1) h10 (by omega) ?_
        simp only [if_true, if_false, Bool.false_eq_true, reduceIte]
        exact fin
    unfold f_X11_act
    refine ⟨oQ hG, ?_⟩
    intro M2 hE2
    have hG2 : Good M2 := by rw [hE2]; exact good_sP hG rfl _
    have i2 : mI M2 = mI M := by rw [hE2]; rfl
    by_cases c1 : 0 ≤ x1.toInt ∧ x1.toInt < (no : Int)
    · obtain ⟨r, -, rfl, r1, r2⟩ := nI_ex c1.1
      have hp : mP M2 14 r = some (oa r) := by rw [hE2, mP_sP_ne _ _ (by omega)]; exact (iO0.2.2.2.1 r (by omega)).2.2.1.2.2.2
      refine ordA_s (a := oa r) hG2 (by rw [i2]; exact iO0.2.1) h10 (by omega) hp ?_
      refine And.intro (fun h => (by cases h)) (fun b hb => ?_)
      refine out_t (by simp only [Int32.reduceToInt]; omega) ?_
      rw [if_pos rfl]
      exact bad M2 hE2
    · refine ordA_n hG2 (by rw [i2]; exact iO0.2.1) h10 (by omega) (And.intro (fun _ => bad M2 hE2) (fun b hb => by cases hb))
  obtain ⟨c1, c2⟩ := c
  obtain ⟨r, -, rfl, r1, r2⟩ := nI_ex c1.1
  obtain ⟨w, -, rfl, w1, w2⟩ := nI_ex c2.1
  have hr : r < no := by omega
  have hw : w ≤ 2 := by omega
  have hok := iO0.2.2.2.1 r hr
  have hb := hok.2.1.1
  refine act_c hG iO0 hr hw fun M1 g1 n1 s1 l1 p1 q1 a1 a2 e1 => ?_
  refine ⟨h1, h2, h3, oM g1, act_m (no := no) (k := kd r) (v := vv r) g1 h10 ((e1 _ _ (by omega)).trans iO0.2.2.1) hr hok.1.1 ((e1 _ _ (by omega)).trans hok.2.2.2.1.2.2.1) ((e1 _ _ (by omega)).trans hok.2.2.2.1.2.2.2) hw fun M2 s2 b1 b2 e2 => ?_⟩
  have e : ∀ a j, ¬ (a = oa r ∧ j = 2 ∨ a = oa r + 1 ∨ a = 76 ∧ j = 61 ∨ a = 113) → mI M2 a j = mI M a j := fun a j q => (e2 a j (by omega)).trans (e1 a j (by omega))
  have hP : mP M2 = mP M1 := s2.2.2.1
  have hlen := aAct_len w (kd r) r (vv r) x3
  refine fin_ rfl (hK _ ⟨s2.good g1, ns, nt, nw, no, nh, cls, th, oa, kd, vv, iS_fr iS0 ?_, iQ_fr iQ0 ?_, iN_fr iN0 ?_, iH_fr iH0 ?_, iZ_fr iZ0 ?_, iW_fr iW0 ?_, iD_fr iD0 ?_, iO_act iO0 hr (s2.1.trans n1) (s2.2.1.trans s1) (fun b j q => by rw [hP]; exact q1 b j (by omega)) e, ?_, iI_fr iI0 ?_, iT_fr iT0 (fun _ _ _ => by rw [s2.2.2.2, l1]) ?_⟩)
  · intro a j q; unfold cS at q; exact e a j (by omega)
  · intro a j q; unfold cQ at q; exact e a j (by omega)
  · intro a j q; unfold cN at q; exact e a j (by omega)
  · intro a j q; unfold cH at q; exact e a j (by omega)
  · intro a j q; unfold cZ at q; exact e a j (by omega)
  · intro a j q; unfold cW at q; exact e a j (by omega)
  · intro a j q; unfold cD at q; exact e a j (by omega)
  · refine Or.inr ⟨r, (aAct w (kd r) r (vv r) x3).1.length, hr, hlen, by rw [hP]; exact p1, by rw [e2 _ _ (by omega)]; exact a1, b1, fun j hj => ?_⟩
    have hg : (aAct w (kd r) r (vv r) x3).1[j]? = some ((aAct w (kd r) r (vv r) x3).1[j]) := List.getElem?_eq_getElem hj
    rw [b2 j _ hg, e2 _ _ (by omega), a2 j _ hg]
  · intro a j q; unfold cI at q; exact e a j (by omega)
  · intro a j q; unfold cT at q; exact e a j (by omega)
