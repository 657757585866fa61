/-! ===== the guards, and the simple calls ===== -/
theorem out_t {x l h : Int32} {M : Mem} {Q : Bool → Mem → Prop} (c : x.toInt < l.toInt ∨ h.toInt < x.toInt) (q : Q true M) : f_X11_outside x l h M Q := by
  unfold f_X11_outside
  split
  · exact q
  · split
    · rename_i a b; rw [i32_lt] at a; rw [i32_le] at b; omega
    · exact q
theorem out_f {x l h : Int32} {M : Mem} {Q : Bool → Mem → Prop} (c : l.toInt ≤ x.toInt ∧ x.toInt ≤ h.toInt) (q : Q false M) : f_X11_outside x l h M Q := by
  unfold f_X11_outside
  rw [if_neg (by rw [i32_lt]; omega), if_pos (by rw [i32_le]; omega)]; exact q
theorem in_t {a : Nat} {x l h : Int32} {M : Mem} {Q : Bool → Mem → Prop} (c : l.toInt ≤ x.toInt ∧ x.toInt ≤ h.toInt) (q : Q true M) : f_X12_in a x l h M Q := by
  unfold f_X12_in
  rw [if_neg (by rw [i32_lt]; omega), if_neg (by rw [i32_lt]; omega)]; exact q
theorem in_f {a : Nat} {x l h : Int32} {M : Mem} {Q : Bool → Mem → Prop} (c : x.toInt < l.toInt ∨ h.toInt < x.toInt) (q : Q false M) : f_X12_in a x l h M Q := by
  unfold f_X12_in
  split
  · exact q
  · split
    · exact q
    · rename_i a b; rw [i32_lt] at a b; omega
theorem noS_t {x : Int32} {ns : Nat} {M : Mem} {Q : Bool → Mem → Prop} (hG : Good M) (hs : mI M 0 1 = nI ns) (hn : ns ≤ 6) (c : x.toInt < 0 ∨ (ns : Int) ≤ x.toInt) (q : Q true M) : f_X11_noSort 0 x M Q := by
  unfold f_X11_noSort
  have e := nI_toInt (n := ns) (by omega)
  split
  · exact q
  · refine ⟨oQ hG, ?_⟩
    rw [hs, if_neg]
    · exact q
    · rename_i a; rw [i32_lt] at a ⊢; simp only [Int32.reduceToInt] at a; omega
theorem noS_f {x : Int32} {ns : Nat} {M : Mem} {Q : Bool → Mem → Prop} (hG : Good M) (hs : mI M 0 1 = nI ns) (hn : ns ≤ 6) (c : 0 ≤ x.toInt ∧ x.toInt < (ns : Int)) (q : Q false M) : f_X11_noSort 0 x M Q := by
  unfold f_X11_noSort
  have e := nI_toInt (n := ns) (by omega)
  rw [if_neg (by rw [i32_lt]; simp only [Int32.reduceToInt]; omega)]
  refine ⟨oQ hG, ?_⟩
  rw [hs, if_pos (by rw [i32_lt]; omega)]; exact q
theorem isS_t {x : Int32} {ns : Nat} {M : Mem} {Q : Bool → Mem → Prop} (hG : Good M) (hs : mI M 76 0 = nI ns) (hn : ns ≤ 6) (c : 0 ≤ x.toInt ∧ x.toInt < (ns : Int)) (q : Q true M) : f_X12_isSort 76 x M Q := by
  unfold f_X12_isSort
  have e := nI_toInt (n := ns) (by omega)
  refine ⟨oM hG, in_t ?_ q⟩
  rw [hs, i32_subI] <;> simp only [Int32.reduceToInt] <;> omega
theorem isS_f {x : Int32} {ns : Nat} {M : Mem} {Q : Bool → Mem → Prop} (hG : Good M) (hs : mI M 76 0 = nI ns) (hn : ns ≤ 6) (c : x.toInt < 0 ∨ (ns : Int) ≤ x.toInt) (q : Q false M) : f_X12_isSort 76 x M Q := by
  unfold f_X12_isSort
  have e := nI_toInt (n := ns) (by omega)
  refine ⟨oM hG, in_f ?_ q⟩
  rw [hs, i32_subI] <;> simp only [Int32.reduceToInt] <;> omega
theorem ioK {r no : Nat} {x : Int32} (h : x = nI r) (hr : r < 2 ^ 31) : x.toInt = (r : Int) := by rw [h]; exact nI_toInt hr
theorem ordA_n {x : Int32} {no : Nat} {M : Mem} {Q : Option Nat → Mem → Prop} (hG : Good M) (hs : mI M 0 9 = nI no) (hn : no ≤ 10) (c : x.toInt < 0 ∨ (no : Int) ≤ x.toInt) (q : Q none M) : f_X11_orderAt 0 x M Q := by
  unfold f_X11_orderAt f_X11_orderAt_J12
  have e := nI_toInt (n := no) (by omega)
  split
  · exact q
  · refine ⟨oQ hG, ?_⟩
    rw [hs, if_neg]
    · exact q
    · rename_i a; rw [i32_lt] at a ⊢; simp only [Int32.reduceToInt] at a; omega
theorem ordA_s {r no : Nat} {M : Mem} {Q : Option Nat → Mem → Prop} (hG : Good M) (hs : mI M 0 9 = nI no) (hn : no ≤ 10) (hr : r < no) {a : Nat} (hp : mP M 14 r = some a) (q : Q (some a) M) : f_X11_orderAt 0 (nI r) M Q := by
  unfold f_X11_orderAt
  have e := nI_toInt (n := no) (by omega)
  have e2 := nI_toInt (n := r) (by omega)
  rw [if_neg (by rw [i32_lt]; simp only [Int32.reduceToInt]; omega)]
  refine ⟨oQ hG, ?_⟩
  rw [hs, if_pos (by rw [i32_lt]; omega)]
  refine ⟨14, mP_g hG rfl, isA_g hG (by decide) rfl (vp_of (by omega) (by omega)), ?_⟩
  rw [nI_clamp (by omega), hp]; exact q
theorem isO_t {r no : Nat} {M : Mem} {Q : Bool → Mem → Prop} (hG : Good M) (hs : mI M 76 27 = nI no) (hn : no ≤ 10) (hr : r < no) (q : Q true M) : f_X12_isOrder 76 (nI r) M Q := by
  unfold f_X12_isOrder
  have e := nI_toInt (n := no) (by omega)
  have e2 := nI_toInt (n := r) (by omega)
  refine ⟨oM hG, in_t ?_ q⟩
  rw [hs, i32_subI] <;> simp only [Int32.reduceToInt] <;> omega
theorem isO_f {x : Int32} {no : Nat} {M : Mem} {Q : Bool → Mem → Prop} (hG : Good M) (hs : mI M 76 27 = nI no) (hn : no ≤ 10) (c : x.toInt < 0 ∨ (no : Int) ≤ x.toInt) (q : Q false M) : f_X12_isOrder 76 x M Q := by
  unfold f_X12_isOrder
  have e := nI_toInt (n := no) (by omega)
  refine ⟨oM hG, in_f ?_ q⟩
  rw [hs, i32_subI] <;> simp only [Int32.reduceToInt] <;> omega
theorem J262 {M : Mem} (hI : Inv M) {v3 : Int32} {xs : Nat → Int32} {L : Nat} {K : Mem → Prop} (h1 : vp_in (v3 + 1) L) (h2 : vp_in (v3 + 2) L) (hK : ∀ M', Inv M' → K M') : f_L_law_J262 0 76 v3 M xs L K := by
  obtain ⟨hG, ns, nt, nw, no, nh, cls, th, oa, kd, vv, iS0, iQ0, iN0, iH0, iZ0, iW0, iD0, iO0, iA0, iI0, iT0⟩ := id hI
  unfold f_L_law_J262
  generalize xs (v3 + 1).toNatClampNeg = x1
  generalize xs (v3 + 2).toNatClampNeg = x2
  refine ⟨h1, h2, oQ hG, ?_⟩
  unfold f_X11_odds f_X12_odds
  refine ⟨oQ hG, ?_⟩
  by_cases c1 : 0 ≤ x1.toInt ∧ x1.toInt < (ns : Int)
  · refine noS_f hG iS0.2.1 iS0.1 c1 ?_
    simp only [if_true, if_false, Bool.false_eq_true, reduceIte]
    by_cases c2 : 0 ≤ x2.toInt ∧ x2.toInt ≤ 10
    · refine out_f c2 ?_
      simp only [if_true, if_false, Bool.false_eq_true, reduceIte]
      obtain ⟨k, -, rfl, e1, e2⟩ := nI_ex c1.1
      have hv : vp_in (nI k) 6 := vp_of (by omega) (by have := iS0.1; omega)
      have hk : k < ns := by omega
      repeat (first | ((with_reducible refine And.intro ?_ ?_); focus (first | exact isO_g hG (by decide) rfl | (with_reducible assumption) | exact isA_g hG (by decide) rfl (by with_reducible assumption))) | ((with_reducible apply Exists.intro); (with_reducible apply And.intro); focus (exact mP_g hG rfl)) | (intro _ hE; subst hE))
      refine isS_t hG iS0.2.2.1 iS0.1 c1 ?_
      simp only [if_true, if_false, Bool.false_eq_true, reduceIte]
      repeat (first | ((with_reducible refine And.intro ?_ ?_); focus (first | exact isO_g hG (by decide) rfl | (with_reducible assumption) | exact isA_g hG (by decide) rfl (by with_reducible assumption))) | ((with_reducible apply Exists.intro); (with_reducible apply And.intro); focus (exact mP_g hG rfl)) | (intro _ hE; subst hE))
      refine in_t c2 ?_
      simp only [if_true, if_false, Bool.false_eq_true, reduceIte]
      repeat (first | ((with_reducible refine And.intro ?_ ?_); focus (first | exact isO_g hG (by decide) rfl | (with_reducible assumption) | exact isA_g hG (by decide) rfl (by with_reducible assumption))) | ((with_reducible apply Exists.intro); (with_reducible apply And.intro); focus (exact mP_g hG rfl)) | (intro _ hE; subst hE))
      rw [e2, if_pos]
      · refine hK _ ⟨hG, ns, nt, nw, no, nh, cls, th, oa, kd, vv, (iS_fr iS0 (by (intro a j q; unfold cS at q; repeat (first | (with_reducible refine (mI_ne _ _ (by omega)).trans ?_) | (with_reducible rfl))))), ?_, (iN_fr iN0 (by (intro a j q; unfold cN at q; repeat (first | (with_reducible refine (mI_ne _ _ (by omega)).trans ?_) | (with_reducible rfl))))), (iH_fr iH0 (by (intro a j q; unfold cH at q; repeat (first | (with_reducible refine (mI_ne _ _ (by omega)).trans ?_) | (with_reducible rfl))))), (iZ_fr iZ0 (by (intro a j q; unfold cZ at q; repeat (first | (with_reducible refine (mI_ne _ _ (by omega)).trans ?_) | (with_reducible rfl))))), (iW_fr iW0 (by (intro a j q; unfold cW at q; repeat (first | (with_reducible refine (mI_ne _ _ (by omega)).trans ?_) | (with_reducible rfl))))), (iD_fr iD0 (by (intro a j q; unfold cD at q; repeat (first | (with_reducible refine (mI_ne _ _ (by omega)).trans ?_) | (with_reducible rfl))))), (iO_fr iO0 rfl rfl (fun _ _ _ => rfl) (by (intro a j q; unfold cO at q; repeat (first | (with_reducible refine (mI_ne _ _ (by omega)).trans ?_) | (with_reducible rfl))))), (iA_fr iA0 (fun r hr => (iO0.2.2.2.1 r hr).2.1.1) rfl (by (intro a j q; unfold cA at q; repeat (first | (with_reducible refine (mI_ne _ _ (by omega)).trans ?_) | (with_reducible rfl))))), (iI_fr iI0 (by (intro a j q; unfold cI at q; repeat (first | (with_reducible refine (mI_ne _ _ (by omega)).trans ?_) | (with_reducible rfl))))), (iT_fr iT0 (fun _ _ _ => rfl) (by (intro a j q; unfold cT at q; repeat (first | (with_reducible refine (mI_ne _ _ (by omega)).trans ?_) | (with_reducible rfl)))))⟩
        intro j hj
        rw [mI_sI, mI_ne _ _ (by omega), mI_ne _ _ (by omega), mI_sI]
        by_cases e : j = k
        · rw [if_pos ⟨rfl, e⟩, if_pos ⟨rfl, e⟩]; exact ⟨rfl, c2⟩
        · rw [if_neg (fun q => e q.2), if_neg (fun q => e q.2)]; exact iQ0 j hj
      · exact ((iQ0 k hk).1).symm
    · have c3 : x2.toInt < 0 ∨ 10 < x2.toInt := by omega
      refine out_t c3 ?_
      simp only [if_true, if_false, Bool.false_eq_true, reduceIte]
      repeat (first | ((with_reducible refine And.intro ?_ ?_); focus (first | exact isO_g hG (by decide) rfl | (with_reducible assumption) | exact isA_g hG (by decide) rfl (by with_reducible assumption))) | ((with_reducible apply Exists.intro); (with_reducible apply And.intro); focus (exact mP_g hG rfl)) | (intro _ hE; subst hE))
      refine isS_t hG iS0.2.2.1 iS0.1 c1 ?_
      simp only [if_true, if_false, Bool.false_eq_true, reduceIte]
      repeat (first | ((with_reducible refine And.intro ?_ ?_); focus (first | exact isO_g hG (by decide) rfl | (with_reducible assumption) | exact isA_g hG (by decide) rfl (by with_reducible assumption))) | ((with_reducible apply Exists.intro); (with_reducible apply And.intro); focus (exact mP_g hG rfl)) | (intro _ hE; subst hE))
      refine in_f c3 ?_
      simp only [if_true, if_false, Bool.false_eq_true, reduceIte]
      exact hK _ hI
  · have c2 : x1.toInt < 0 ∨ (ns : Int) ≤ x1.toInt := by omega
    refine noS_t hG iS0.2.1 iS0.1 c2 ?_
    simp only [if_true, if_false, Bool.false_eq_true, reduceIte]
    repeat (first | ((with_reducible refine And.intro ?_ ?_); focus (first | exact isO_g hG (by decide) rfl | (with_reducible assumption) | exact isA_g hG (by decide) rfl (by with_reducible assumption))) | ((with_reducible apply Exists.intro); (with_reducible apply And.intro); focus (exact mP_g hG rfl)) | (intro _ hE; subst hE))
    refine isS_f hG iS0.2.2.1 iS0.1 c2 ?_
    simp only [if_true, if_false, Bool.false_eq_true, reduceIte]
    exact hK _ hI
theorem six {k : Nat} (h : k < 6) : k = 0 ∨ k = 1 ∨ k = 2 ∨ k = 3 ∨ k = 4 ∨ k = 5 := by omega
theorem p_row {M : Mem} (hG : Good M) {k : Nat} (h : k < 6) : mP M 1 k = some (2 + k) := by
  rcases six h with rfl | rfl | rfl | rfl | rfl | rfl <;> exact mP_g hG rfl
theorem a_row {M : Mem} (hG : Good M) {k : Nat} (h : k < 6) {i : Int32} (hi : vp_in i 4) : isA M (2 + k) 0 i := by
  rcases six h with rfl | rfl | rfl | rfl | rfl | rfl <;> exact isA_g hG (by decide) rfl hi
theorem p_win {M : Mem} (hG : Good M) {k : Nat} (h : k < 6) : mP M 9 k = some (40 + 4 * k) := by
  rcases six h with rfl | rfl | rfl | rfl | rfl | rfl <;> exact mP_g hG rfl
theorem o_win {M : Mem} (hG : Good M) {k : Nat} (h : k < 6) : isO M (40 + 4 * k) [10] := by
  rcases six h with rfl | rfl | rfl | rfl | rfl | rfl <;> exact isO_g hG (by decide) rfl
theorem p_tape {M : Mem} (hG : Good M) {k : Nat} (h : k < 6) : mP M 39 k = some (64 + 2 * k) := by
  rcases six h with rfl | rfl | rfl | rfl | rfl | rfl <;> exact mP_g hG rfl
theorem o_tape {M : Mem} (hG : Good M) {k : Nat} (h : k < 6) : isO M (64 + 2 * k) [8] := by
  rcases six h with rfl | rfl | rfl | rfl | rfl | rfl <;> exact isO_g hG (by decide) rfl
theorem p_tapeI {M : Mem} (hG : Good M) {k : Nat} (h : k < 6) : mP M (64 + 2 * k) 2 = some (65 + 2 * k) := by
  rcases six h with rfl | rfl | rfl | rfl | rfl | rfl <;> exact mP_g hG rfl
theorem a_tape {M : Mem} (hG : Good M) {k : Nat} (h : k < 6) {i : Int32} (hi : vp_in i 60) : isA M (65 + 2 * k) 3 i := by
  rcases six h with rfl | rfl | rfl | rfl | rfl | rfl <;> exact isA_g hG (by decide) rfl hi
theorem iH_up {M : Mem} {ns ns' nh : Nat} (h : iH M ns nh) (e : ns ≤ ns') : iH M ns' nh := by
  obtain ⟨h1, h2, h3, h4⟩ := h
  refine ⟨h1, h2, h3, fun k hk => ?_⟩
  obtain ⟨⟨q1, q2, q3⟩, q4⟩ := h4 k hk
  exact ⟨⟨q1, q2, by omega⟩, q4⟩
theorem iI_up {M : Mem} {ns ns' nw nw' : Nat} (h : iI M ns nw) (e : ns ≤ ns') (e2 : nw ≤ nw') : iI M ns' nw' := by
  rcases h with h | ⟨h1, h2, is, ih, th, q1, q2, q3, q4, q5, q6, q7, q8, q9⟩
  · exact Or.inl h
  · refine Or.inr ⟨h1, h2, is, ih, th, by omega, q2, q3, q4, q5, q6, ⟨q7.1, q7.2.1, fun h hh => ⟨by have := (q7.2.2 h hh).1; omega, (q7.2.2 h hh).2⟩⟩, q8, fun k hk => ?_⟩
    obtain ⟨⟨q1, q2, q3⟩, q4⟩ := q9 k hk
    exact ⟨⟨q1, q2, by omega⟩, q4⟩
/-- only ints have changed -/
def Sm (M M1 : Mem) : Prop := mN M1 = mN M ∧ mS M1 = mS M ∧ mP M1 = mP M ∧ mL M1 = mL M
theorem Sm.good {M M1 : Mem} (h : Sm M M1) (hG : Good M) : Good M1 := by
  obtain ⟨h1, h2, h3, h4⟩ := h
  unfold Good
  rw [h1, h2, h3]; exact hG
theorem Sm.tr {M M1 M2 : Mem} (h : Sm M M1) (k : Sm M1 M2) : Sm M M2 := ⟨k.1.trans h.1, k.2.1.trans h.2.1, k.2.2.1.trans h.2.2.1, k.2.2.2.trans h.2.2.2⟩
theorem Sm.rf (M : Mem) : Sm M M := ⟨rfl, rfl, rfl, rfl⟩
theorem Sm.st {M M1 : Mem} (h : Sm M M1) (a k : Nat) (v : Int32) : Sm M (sI M1 a k v) := h
theorem sort_c {M : Mem} {ns : Nat} {x1 x2 x3 x4 : Int32} {Q : Int32 → Mem → Prop} (hG : Good M) (g2 : mI M 0 1 = nI ns) (c : ns < 6) (c1 : 0 ≤ x1.toInt ∧ x1.toInt ≤ 9) (d1 : 0 ≤ x2.toInt ∧ x2.toInt ≤ 99) (f1 : 0 ≤ x3.toInt ∧ x3.toInt ≤ 20) (g1 : 1 ≤ x4.toInt ∧ x4.toInt ≤ 9) (hQ : ∀ M1, Sm M M1 → mI M1 0 1 = nI (ns + 1) → mI M1 18 ns = 10 → mI M1 (2 + ns) 0 = x1 → mI M1 (2 + ns) 1 = x2 → mI M1 (2 + ns) 2 = x3 → mI M1 (2 + ns) 3 = x4 → (∀ a j, ¬ (a = 2 + ns ∨ a = 0 ∧ j = 1 ∨ a = 18 ∧ j = ns) → mI M1 a j = mI M a j) → Q (nI ns) M1) : f_X11_sort 0 x1 x2 x3 x4 M Q := by
  unfold f_X11_sort
  refine out_f c1 ?_
  simp only [if_true, if_false, Bool.false_eq_true, reduceIte]
  refine out_f d1 ?_
  simp only [if_true, if_false, Bool.false_eq_true, reduceIte]
  refine out_f f1 ?_
  simp only [if_true, if_false, Bool.false_eq_true, reduceIte]
  refine out_f g1 ?_
  simp only [if_true, if_false, Bool.false_eq_true, reduceIte]
  refine ⟨oQ hG, ?_⟩
  have en := nI_toInt (n := ns) (by omega)
  have ec : (nI ns).toNatClampNeg = ns := nI_clamp (by omega)
  have hv : vp_in (nI ns) 6 := vp_of (by omega) (by omega)
  have i0 : vp_in (0 : Int32) 4 := vp_of (by decide) (by decide)
  have i1 : vp_in (1 : Int32) 4 := vp_of (by decide) (by decide)
  have i2 : vp_in (2 : Int32) 4 := vp_of (by decide) (by decide)
  have i3 : vp_in (3 : Int32) 4 := vp_of (by decide) (by decide)
  rw [g2, if_pos (by rw [i32_lt, en]; show (ns : Int) < 6; omega), ec]
  refine ⟨1, mP_g hG rfl, isA_g hG (by decide) rfl hv, 2 + ns, p_row hG c, a_row hG c i0, ?_⟩
  intro _ hE; subst hE
  refine ⟨a_row (M := sI M _ _ _) hG c i1, ?_⟩
  intro _ hE; subst hE
  refine ⟨a_row (M := sI (sI M _ _ _) _ _ _) hG c i2, ?_⟩
  intro _ hE; subst hE
  refine ⟨a_row (M := sI (sI (sI M _ _ _) _ _ _) _ _ _) hG c i3, ?_⟩
  intro _ hE; subst hE
  refine ⟨17, mP_g hG rfl, isO_g hG (by decide) rfl, 18, mP_g hG rfl, ?_⟩
  simp (disch := omega) only [mI_ne, mI_sI_s, Int32.reduceToNatClampNeg, g2, ec]
  refine ⟨isA_g hG (by decide) rfl hv, ?_⟩
  intro _ hE; subst hE
  intro _ hE; subst hE
  simp (disch := omega) only [mI_ne, mI_sI_s, Int32.reduceToNatClampNeg, g2, ec]
  rw [show nI ns + 1 - 1 = nI ns from by rw [nI_1]; exact nI_pred ns]
  refine hQ _ (Sm.rf M) ?_ ?_ ?_ ?_ ?_ ?_ (fun a j q => ?_)
  all_goals simp (disch := omega) only [mI_ne, mI_sI_s, Int32.reduceToNatClampNeg, g2]
  exact nI_1 ns
theorem sort_m {M : Mem} {ns : Nat} {x1 x2 x3 x4 : Int32} {Q : Int32 → Mem → Prop} (hG : Good M) (g2 : mI M 76 0 = nI ns) (c : ns < 6) (c1 : 0 ≤ x1.toInt ∧ x1.toInt ≤ 9) (d1 : 0 ≤ x2.toInt ∧ x2.toInt ≤ 99) (f1 : 0 ≤ x3.toInt ∧ x3.toInt ≤ 20) (g1 : 1 ≤ x4.toInt ∧ x4.toInt ≤ 9) (hQ : ∀ M1, Sm M M1 → mI M1 76 0 = nI (ns + 1) → mI M1 81 ns = 10 → mI M1 77 ns = x1 → mI M1 78 ns = x2 → mI M1 79 ns = x3 → mI M1 80 ns = x4 → (∀ a j, ¬ (77 ≤ a ∧ a < 82 ∧ j = ns ∨ a = 76 ∧ j = 0) → mI M1 a j = mI M a j) → Q (nI ns) M1) : f_X12_sort 76 x1 x2 x3 x4 M Q := by
  unfold f_X12_sort
  refine ⟨oM hG, in_t c1 ?_⟩
  simp only [if_true, if_false, Bool.false_eq_true, reduceIte]
  refine ⟨oM hG, in_t d1 ?_⟩
  simp only [if_true, if_false, Bool.false_eq_true, reduceIte]
  refine ⟨oM hG, in_t f1 ?_⟩
  simp only [if_true, if_false, Bool.false_eq_true, reduceIte]
  refine ⟨oM hG, in_t g1 ?_⟩
  simp only [if_true, if_false, Bool.false_eq_true, reduceIte]
  refine ⟨oM hG, ?_⟩
  have en := nI_toInt (n := ns) (by omega)
  have ec : (nI ns).toNatClampNeg = ns := nI_clamp (by omega)
  have hv : vp_in (nI ns) 6 := vp_of (by omega) (by omega)
  rw [g2, if_neg (by rw [i32_eq, en]; show ¬ (ns : Int) = 6; omega), ec]
  refine ⟨77, mP_g hG rfl, isA_g hG (by decide) rfl hv, ?_⟩
  intro _ hE; subst hE
  simp (disch := omega) only [mI_ne, mI_sI_s, Int32.reduceToNatClampNeg, g2, ec]
  refine ⟨78, mP_g hG rfl, isA_g hG (by decide) rfl hv, ?_⟩
  intro _ hE; subst hE
  simp (disch := omega) only [mI_ne, mI_sI_s, Int32.reduceToNatClampNeg, g2, ec]
  refine ⟨79, mP_g hG rfl, isA_g hG (by decide) rfl hv, ?_⟩
  intro _ hE; subst hE
  simp (disch := omega) only [mI_ne, mI_sI_s, Int32.reduceToNatClampNeg, g2, ec]
  refine ⟨80, mP_g hG rfl, isA_g hG (by decide) rfl hv, ?_⟩
  intro _ hE; subst hE
  simp (disch := omega) only [mI_ne, mI_sI_s, Int32.reduceToNatClampNeg, g2, ec]
  refine ⟨81, mP_g hG rfl, isA_g hG (by decide) rfl hv, ?_⟩
  intro _ hE; subst hE
  intro _ hE; subst hE
  simp (disch := omega) only [mI_ne, mI_sI_s, Int32.reduceToNatClampNeg, g2, ec]
  rw [show nI ns + 1 - 1 = nI ns from by rw [nI_1]; exact nI_pred ns]
  refine hQ _ (Sm.rf M) ?_ ?_ ?_ ?_ ?_ ?_ (fun a j q => ?_)
  all_goals simp (disch := omega) only [mI_ne, mI_sI_s, Int32.reduceToNatClampNeg, g2]
  exact nI_1 ns
theorem sort_cb {M : Mem} {x1 x2 x3 x4 : Int32} {Q : Int32 → Mem → Prop} (c : ¬ ((0 ≤ x1.toInt ∧ x1.toInt ≤ 9) ∧ (0 ≤ x2.toInt ∧ x2.toInt ≤ 99) ∧ (0 ≤ x3.toInt ∧ x3.toInt ≤ 20) ∧ 1 ≤ x4.toInt ∧ x4.toInt ≤ 9)) (q : Q (-2) M) : f_X11_sort 0 x1 x2 x3 x4 M Q := by
  unfold f_X11_sort
  by_cases c1 : 0 ≤ x1.toInt ∧ x1.toInt ≤ 9
  case neg => exact out_t (by simp only [Int32.reduceToInt]; omega) q
  refine out_f c1 ?_
  simp only [if_true, if_false, Bool.false_eq_true, reduceIte]
  by_cases d1 : 0 ≤ x2.toInt ∧ x2.toInt ≤ 99
  case neg => exact out_t (by simp only [Int32.reduceToInt]; omega) q
  refine out_f d1 ?_
  simp only [if_true, if_false, Bool.false_eq_true, reduceIte]
  by_cases e1 : 0 ≤ x3.toInt ∧ x3.toInt ≤ 20
  case neg => exact out_t (by simp only [Int32.reduceToInt]; omega) q
  refine out_f e1 ?_
  simp only [if_true, if_false, Bool.false_eq_true, reduceIte]
  exact out_t (by simp only [Int32.reduceToInt]; omega) q
theorem sort_mb {M : Mem} {x1 x2 x3 x4 : Int32} {Q : Int32 → Mem → Prop} (hG : Good M) (c : ¬ ((0 ≤ x1.toInt ∧ x1.toInt ≤ 9) ∧ (0 ≤ x2.toInt ∧ x2.toInt ≤ 99) ∧ (0 ≤ x3.toInt ∧ x3.toInt ≤ 20) ∧ 1 ≤ x4.toInt ∧ x4.toInt ≤ 9)) (q : Q (-2) M) : f_X12_sort 76 x1 x2 x3 x4 M Q := by
  unfold f_X12_sort
  refine ⟨oM hG, ?_⟩
  by_cases c1 : 0 ≤ x1.toInt ∧ x1.toInt ≤ 9
  case neg => exact in_f (by simp only [Int32.reduceToInt]; omega) q
  refine in_t c1 ?_
  simp only [if_true, if_false, Bool.false_eq_true, reduceIte]
  refine ⟨oM hG, ?_⟩
  by_cases d1 : 0 ≤ x2.toInt ∧ x2.toInt ≤ 99
  case neg => exact in_f (by simp only [Int32.reduceToInt]; omega) q
  refine in_t d1 ?_
  simp only [if_true, if_false, Bool.false_eq_true, reduceIte]
  refine ⟨oM hG, ?_⟩
  by_cases e1 : 0 ≤ x3.toInt ∧ x3.toInt ≤ 20
  case neg => exact in_f (by simp only [Int32.reduceToInt]; omega) q
  refine in_t e1 ?_
  simp only [if_true, if_false, Bool.false_eq_true, reduceIte]
  refine ⟨oM hG, ?_⟩
  exact in_f (by simp only [Int32.reduceToInt]; omega) q
theorem sort_cf {M : Mem} {x1 x2 x3 x4 : Int32} {Q : Int32 → Mem → Prop} (hG : Good M) (g2 : mI M 0 1 = nI 6) (c1 : 0 ≤ x1.toInt ∧ x1.toInt ≤ 9) (d1 : 0 ≤ x2.toInt ∧ x2.toInt ≤ 99) (f1 : 0 ≤ x3.toInt ∧ x3.toInt ≤ 20) (g1 : 1 ≤ x4.toInt ∧ x4.toInt ≤ 9) (q : Q (-4) M) : f_X11_sort 0 x1 x2 x3 x4 M Q := by
  unfold f_X11_sort
  refine out_f c1 ?_
  simp only [if_true, if_false, Bool.false_eq_true, reduceIte]
  refine out_f d1 ?_
  simp only [if_true, if_false, Bool.false_eq_true, reduceIte]
  refine out_f f1 ?_
  simp only [if_true, if_false, Bool.false_eq_true, reduceIte]
  refine out_f g1 ?_
  simp only [if_true, if_false, Bool.false_eq_true, reduceIte]
  refine ⟨oQ hG, ?_⟩
  rw [g2, if_neg (by decide)]; exact q
theorem sort_mf {M : Mem} {x1 x2 x3 x4 : Int32} {Q : Int32 → Mem → Prop} (hG : Good M) (g2 : mI M 76 0 = nI 6) (c1 : 0 ≤ x1.toInt ∧ x1.toInt ≤ 9) (d1 : 0 ≤ x2.toInt ∧ x2.toInt ≤ 99) (f1 : 0 ≤ x3.toInt ∧ x3.toInt ≤ 20) (g1 : 1 ≤ x4.toInt ∧ x4.toInt ≤ 9) (q : Q (-4) M) : f_X12_sort 76 x1 x2 x3 x4 M Q := by
  unfold f_X12_sort
  refine ⟨oM hG, in_t c1 ?_⟩
  simp only [if_true, if_false, Bool.false_eq_true, reduceIte]
  refine ⟨oM hG, in_t d1 ?_⟩
  simp only [if_true, if_false, Bool.false_eq_true, reduceIte]
  refine ⟨oM hG, in_t f1 ?_⟩
  simp only [if_true, if_false, Bool.false_eq_true, reduceIte]
  refine ⟨oM hG, in_t g1 ?_⟩
  simp only [if_true, if_false, Bool.false_eq_true, reduceIte]
  refine ⟨oM hG, ?_⟩
  rw [g2, if_pos (by decide)]; exact q
theorem J176 {M : Mem} (hI : Inv M) {v3 : Int32} {xs : Nat → Int32} {L : Nat} {K : Mem → Prop} (h1 : vp_in (v3 + 1) L) (h2 : vp_in (v3 + 2) L) (h3 : vp_in (v3 + 3) L) (h4 : vp_in (v3 + 4) L) (hK : ∀ M', Inv M' → K M') : f_L_law_J176 0 76 v3 M xs L K := by
  obtain ⟨hG, ns, nt, nw, no, nh, cls, th, oa, kd, vv, iS0, iQ0, iN0, iH0, iZ0, iW0, iD0, iO0, iA0, iI0, iT0⟩ := id hI
  unfold f_L_law_J176
  generalize xs (v3 + 1).toNatClampNeg = x1
  generalize xs (v3 + 2).toNatClampNeg = x2
  generalize xs (v3 + 3).toNatClampNeg = x3
  generalize xs (v3 + 4).toNatClampNeg = x4
  refine ⟨h1, h2, h3, h4, oQ hG, ?_⟩
  obtain ⟨g1, g2, g3, g4⟩ := id iS0
  by_cases b : (0 ≤ x1.toInt ∧ x1.toInt ≤ 9) ∧ (0 ≤ x2.toInt ∧ x2.toInt ≤ 99) ∧ (0 ≤ x3.toInt ∧ x3.toInt ≤ 20) ∧ 1 ≤ x4.toInt ∧ x4.toInt ≤ 9
  case neg => exact sort_cb b ⟨h1, h2, h3, h4, oM hG, sort_mb hG b (by rw [if_pos rfl]; exact hK _ hI)⟩
  obtain ⟨c1, d1, y1, f1⟩ := b
  by_cases c : ns < 6
  case neg =>
    obtain rfl : ns = 6 := by omega
    exact sort_cf hG g2 c1 d1 y1 f1 ⟨h1, h2, h3, h4, oM hG, sort_mf hG g3 c1 d1 y1 f1 (by rw [if_pos rfl]; exact hK _ hI)⟩
  refine sort_c hG g2 c c1 d1 y1 f1 fun M1 s1 a1 a2 a3 a4 a5 a6 e1 => ?_
  have hG1 := s1.good hG
  refine ⟨h1, h2, h3, h4, oM hG1, sort_m hG1 ((e1 _ _ (by omega)).trans g3) c c1 d1 y1 f1 fun M2 s2 b1 b2 b3 b4 b5 b6 e2 => ?_⟩
  rw [if_pos rfl]
  refine hK _ ⟨s2.good hG1, ns + 1, nt, nw, no, nh, cls, th, oa, kd, vv, ?_, ?_, (iN_fr iN0 (by (intro a j q; unfold cN at q; exact (e2 a j (by omega)).trans (e1 a j (by omega))))), iH_up (iH_fr iH0 (by (intro a j q; unfold cH at q; exact (e2 a j (by omega)).trans (e1 a j (by omega))))) (by omega), (iZ_fr iZ0 (by (intro a j q; unfold cZ at q; exact (e2 a j (by omega)).trans (e1 a j (by omega))))), (iW_fr iW0 (by (intro a j q; unfold cW at q; exact (e2 a j (by omega)).trans (e1 a j (by omega))))), (iD_fr iD0 (by (intro a j q; unfold cD at q; exact (e2 a j (by omega)).trans (e1 a j (by omega))))), (iO_fr iO0 (s2.1.trans s1.1) (s2.2.1.trans s1.2.1) (fun b j _ => by rw [s2.2.2.1, s1.2.2.1]) (by (intro a j q; unfold cO at q; exact (e2 a j (by omega)).trans (e1 a j (by omega))))), (iA_fr iA0 (fun r hr => (iO0.2.2.2.1 r hr).2.1.1) (by rw [s2.2.2.1, s1.2.2.1]) (by (intro a j q; unfold cA at q; exact (e2 a j (by omega)).trans (e1 a j (by omega))))), iI_up (iI_fr iI0 (by (intro a j q; unfold cI at q; exact (e2 a j (by omega)).trans (e1 a j (by omega))))) (by omega) (Nat.le_refl _), (iT_fr iT0 (fun b j _ => by rw [s2.2.2.2, s1.2.2.2]) (by (intro a j q; unfold cT at q; exact (e2 a j (by omega)).trans (e1 a j (by omega)))))⟩
  · refine ⟨by omega, (e2 _ _ (by omega)).trans a1, b1, fun k hk => ?_⟩
    by_cases e : k = ns
    · subst e
      rw [b3, b4, b5, b6, e2 (2 + k) 0 (by omega), e2 (2 + k) 1 (by omega), e2 (2 + k) 2 (by omega), e2 (2 + k) 3 (by omega), a3, a4, a5, a6]
      exact ⟨⟨rfl, rfl, rfl, rfl⟩, c1, d1, y1, f1⟩
    · have f : ∀ a, 77 ≤ a ∧ a < 82 → mI M2 a k = mI M a k := fun a q => (e2 a k (by omega)).trans (e1 a k (by omega))
      have f2 : ∀ j, mI M2 (2 + k) j = mI M (2 + k) j := fun j => (e2 _ j (by omega)).trans (e1 _ j (by omega))
      rw [f 77 (by omega), f 78 (by omega), f 79 (by omega), f 80 (by omega), f2, f2, f2, f2]
      exact g4 k (by omega)
  · intro k hk
    by_cases e : k = ns
    · subst e
      rw [b2, e2 18 k (by omega), a2]
      exact ⟨rfl, by decide, by decide⟩
    · rw [(e2 81 k (by omega)).trans (e1 81 k (by omega)), (e2 18 k (by omega)).trans (e1 18 k (by omega))]
      exact iQ0 k (by omega)
