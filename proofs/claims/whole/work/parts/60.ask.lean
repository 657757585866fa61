/-! ===== calls that ask once: comer, served, all, stand, loss, sell ===== -/
theorem nI_m1I {n : Nat} (h : n < 2 ^ 30) : (nI n - 1).toInt = (n : Int) - 1 := by
  have e := nI_toInt (n := n) (by omega)
  rw [i32_subI] <;> rw [e] <;> simp only [Int32.reduceToInt] <;> omega
def AK (M0 M : Mem) (ns nt nw no nh r : Nat) (cls : Nat → List Cl) (th : Option Nat) (oa kd vv : Nat → Nat) (X : Nat → Nat → Nat) (S : HS) : Prop := Jn M0 ns nt nw no nh cls th oa kd vv ∧ AF nh M0 M ∧ r < no ∧ aX M0 cls th oa kd vv r = X ∧ aS M0 ns nh cls th oa kd vv r = S
theorem askA_c {M0 M : Mem} {ns nt nw no nh r : Nat} {cls : Nat → List Cl} {th : Option Nat} {oa kd vv : Nat → Nat} {X : Nat → Nat → Nat} {S : HS} (A : AK M0 M ns nt nw no nh r cls th oa kd vv X S) {Q : Mem → Prop} (q : ∀ M1, AF nh M0 M1 → eC X ns (oa r) (wa th) (wcl cls th) S M1 → Q M1) : f_X11_goThrough 0 (some (oa r)) M Q := by
  obtain ⟨J, f, hr, rfl, rfl⟩ := A
  exact ask_c J f hr fun M1 f1 p1 e1 => q M1 f1 e1
theorem askA_m {M0 M : Mem} {ns nt nw no nh r : Nat} {cls : Nat → List Cl} {th : Option Nat} {oa kd vv : Nat → Nat} {X : Nat → Nat → Nat} {S : HS} (A : AK M0 M ns nt nw no nh r cls th oa kd vv X S) {Q : Mem → Prop} (q : ∀ t M1, t ≤ 1640 → AF nh M0 M1 → eM X ns r (wcl cls th) false S M1 → hW X ns t S → rSt S t M1 → Q M1) : f_X12_goPlainly 76 (nI r) M Q := by
  obtain ⟨J, f, hr, rfl, rfl⟩ := A
  exact ask_m J f hr fun t M1 ht f1 u1 e1 w1 s1 => q t M1 ht f1 e1 w1 s1
def comerS (S : HS) (x2 x3 w : Int32) : Prop :=
  if 0 ≤ x2.toInt ∧ x2.toInt < ((hcm S).length : Int) then
    (if x3 = 0 then w = nI (gC (hcm S) x2.toNatClampNeg).1 else if x3 = 1 then w = nI (gC (hcm S) x2.toNatClampNeg).2.1 else if x3 = 2 then w = nI (gC (hcm S) x2.toNatClampNeg).2.2.1 else if x3 = 3 then w = nI (gC (hcm S) x2.toNatClampNeg).2.2.2 else if x3 = 4 then w = aWt S x2.toNatClampNeg else if x3 = 5 then (∃ k e, (hsv S)[k]? = some e ∧ e.1 = x2.toNatClampNeg ∧ w = nI k) ∨ (x2.toNatClampNeg ∉ (hsv S).map (·.1) ∧ w = -5) else w = -1001)
  else w = -1001
theorem comer_c {M0 M : Mem} {ns nt nw no nh r : Nat} {cls : Nat → List Cl} {th : Option Nat} {oa kd vv : Nat → Nat} {X : Nat → Nat → Nat} {S : HS} (A : AK M0 M ns nt nw no nh r cls th oa kd vv X S) {x2 x3 : Int32} {Q : Int32 → Mem → Prop} (q : ∀ w M1, AF nh M0 M1 → comerS S x2 x3 w → Q w M1) : f_X11_comer 0 (nI r) x2 x3 M Q := by
  obtain ⟨J, f, hr, hX', hS'⟩ := id A; have J1 := J.af f; have hG := J1.1; have iO0 : iO M no oa kd vv := J1.2.2.2.2.2.2.2.2.1; have iS0 : iS M ns := J1.2.1; have iH0 : iH M ns nh := J1.2.2.2.2.1
  unfold f_X11_comer
  refine ⟨oQ hG, ordA_s hG iO0.2.1 iO0.1 hr (iO0.2.2.2.1 r hr).2.2.1.2.2.2 ⟨fun h => (by cases h), fun b hb => ?_⟩⟩; cases hb
  refine ⟨oQ hG, askA_c A fun M1 f1 e1 => ?_⟩
  replace q := fun w => q w M1 f1
  have hb := eC_b e1
  obtain ⟨⟨hG1, -⟩, ⟨⟨r1', -⟩, r6, r7, -⟩, hf⟩ := id e1
  unfold comerS at q
  by_cases c2 : 0 ≤ x2.toInt ∧ x2.toInt < ((hcm S).length : Int)
  · simp only [if_pos c2] at q
    obtain ⟨i, -, rfl, i1, i2⟩ := nI_ex c2.1
    have hi : i < (hcm S).length := by omega
    have vi : vp_in (nI i) 40 := vpN (by omega) (by omega)
    obtain ⟨s1, s2, s3, s4⟩ := r6 i hi
    rw [if_neg (nI_pos (by omega))]
    refine ⟨oQ hG1, 29, mP_g hG1 rfl, oH hG1, ?_⟩
    rw [r1', if_pos (nI_lt hi (by omega)), i2]
    rw [i2] at q
    by_cases c0 : x3 = 0
    · rw [if_pos c0]
      exact ⟨30, mP_g hG1 rfl, isA_g hG1 (by decide) rfl vi, q _ (by rw [if_pos c0]; exact s1)⟩
    rw [if_neg c0]
    by_cases c1 : x3 = 1
    · rw [if_pos c1]
      exact ⟨31, mP_g hG1 rfl, isA_g hG1 (by decide) rfl vi, q _ (by rw [if_neg c0, if_pos c1]; exact s2)⟩
    rw [if_neg c1]
    by_cases c3 : x3 = 2
    · rw [if_pos c3]
      exact ⟨32, mP_g hG1 rfl, isA_g hG1 (by decide) rfl vi, q _ (by rw [if_neg c0, if_neg c1, if_pos c3]; exact s3)⟩
    rw [if_neg c3]
    by_cases c4 : x3 = 3
    · rw [if_pos c4]
      exact ⟨33, mP_g hG1 rfl, isA_g hG1 (by decide) rfl vi, q _ (by rw [if_neg c0, if_neg c1, if_neg c3, if_pos c4]; exact s4)⟩
    rw [if_neg c4]
    by_cases c5 : x3 = 4
    · rw [if_pos c5]
      exact waits_c e1 hi (q _ (by rw [if_neg c0, if_neg c1, if_neg c3, if_neg c4, if_pos c5]))
    rw [if_neg c5]
    by_cases c6 : x3 = 5
    · rw [if_pos c6]
      refine rank_c e1 hi (fun k e he hei => q _ ?_) (fun hn => q _ ?_)
      · rw [if_neg c0, if_neg c1, if_neg c3, if_neg c4, if_neg c5, if_pos c6]; exact Or.inl ⟨k, e, he, hei, rfl⟩
      · rw [if_neg c0, if_neg c1, if_neg c3, if_neg c4, if_neg c5, if_pos c6]; exact Or.inr ⟨hn, rfl⟩
    rw [if_neg c6]
    exact q _ (by rw [if_neg c0, if_neg c1, if_neg c3, if_neg c4, if_neg c5, if_neg c6])
  · simp only [if_neg c2] at q
    by_cases c0 : x2 < 0
    · rw [if_pos c0]; exact q _ rfl
    · rw [if_neg c0]
      refine ⟨oQ hG1, 29, mP_g hG1 rfl, oH hG1, ?_⟩
      rw [r1', if_neg ?_]
      · exact q _ rfl
      · rw [i32_lt, nI_toInt (by omega)]; rw [i32_lt] at c0; simp only [Int32.reduceToInt] at c0; omega
theorem comer_m {M0 M : Mem} {ns nt nw no nh r : Nat} {cls : Nat → List Cl} {th : Option Nat} {oa kd vv : Nat → Nat} {X : Nat → Nat → Nat} {S : HS} (A : AK M0 M ns nt nw no nh r cls th oa kd vv X S) {x2 x3 w : Int32} {Q : Int32 → Mem → Prop} (hw : comerS S x2 x3 w) (q : ∀ M1, AF nh M0 M1 → Q w M1) : f_X12_comer 76 (nI r) x2 x3 M Q := by
  obtain ⟨J, f, hr, hX', hS'⟩ := id A; have J1 := J.af f; have hG := J1.1; have iO0 : iO M no oa kd vv := J1.2.2.2.2.2.2.2.2.1; have iS0 : iS M ns := J1.2.1; have iH0 : iH M ns nh := J1.2.2.2.2.1
  unfold f_X12_comer
  refine ⟨oM hG, isO_t hG iO0.2.2.1 iO0.1 hr ?_⟩
  simp only [if_true, if_false, Bool.false_eq_true, reduceIte]
  unfold comerS at hw
  by_cases c3 : 0 ≤ x3.toInt ∧ x3.toInt ≤ 5
  case neg =>
    refine ⟨oM hG, in_f (by simp only [Int32.reduceToInt]; omega) ?_⟩
    simp only [if_true, if_false, Bool.false_eq_true, reduceIte]
    have n : ∀ y : Int32, 0 ≤ y.toInt ∧ y.toInt ≤ 5 → ¬ x3 = y := fun y hy e => c3 (e ▸ hy)
    rw [if_neg (n 0 (by decide)), if_neg (n 1 (by decide)), if_neg (n 2 (by decide)), if_neg (n 3 (by decide)), if_neg (n 4 (by decide)), if_neg (n 5 (by decide)), ite_self] at hw
    rw [← hw]; exact q M f
  refine ⟨oM hG, in_t c3 ?_⟩
  simp only [if_true, if_false, Bool.false_eq_true, reduceIte]
  refine ⟨oM hG, askA_m A fun t M1 ht f1 e1 w1 st1 => ?_⟩
  replace q := q M1 f1
  have hb := eM_b e1
  obtain ⟨⟨hG1, -⟩, ⟨⟨r1', -⟩, r6, r7, r8, -⟩, hf⟩ := id e1
  refine ⟨oM hG1, ?_⟩
  by_cases c2 : 0 ≤ x2.toInt ∧ x2.toInt < ((hcm S).length : Int)
  · rw [if_pos c2] at hw
    have hsub : (mI M1 76 31 - 1).toInt = ((hcm S).length : Int) - 1 := by rw [r1']; exact nI_m1I (by omega)
    refine in_t (by rw [hsub]; simp only [Int32.reduceToInt]; omega) ?_
    simp only [if_true, if_false, Bool.false_eq_true, reduceIte]
    obtain ⟨i, -, rfl, i1, i2⟩ := nI_ex c2.1
    have hi : i < (hcm S).length := by omega
    have vi : vp_in (nI i) 41 := vpN (by omega) (by omega)
    obtain ⟨s1, s2, s3, s4⟩ := r6 i hi
    rw [i2] at hw ⊢
    by_cases c0 : x3 = 0
    · rw [if_pos c0] at hw ⊢
      exact ⟨oM hG1, 97, mP_g hG1 rfl, isA_g hG1 (by decide) rfl vi, by rw [s1, ← hw]; exact q⟩
    rw [if_neg c0] at hw ⊢
    by_cases c1 : x3 = 1
    · rw [if_pos c1] at hw ⊢
      exact ⟨oM hG1, 98, mP_g hG1 rfl, isA_g hG1 (by decide) rfl vi, by rw [s2, ← hw]; exact q⟩
    rw [if_neg c1] at hw ⊢
    by_cases c3 : x3 = 2
    · rw [if_pos c3] at hw ⊢
      exact ⟨oM hG1, 99, mP_g hG1 rfl, isA_g hG1 (by decide) rfl vi, by rw [s3, ← hw]; exact q⟩
    rw [if_neg c3] at hw ⊢
    by_cases c4 : x3 = 3
    · rw [if_pos c4] at hw ⊢
      exact ⟨oM hG1, 100, mP_g hG1 rfl, isA_g hG1 (by decide) rfl vi, by rw [s4, ← hw]; exact q⟩
    rw [if_neg c4] at hw ⊢
    by_cases c5 : x3 = 4
    · rw [if_pos c5] at hw ⊢
      exact ⟨oM hG1, 101, mP_g hG1 rfl, isA_g hG1 (by decide) rfl vi, by rw [waitM e1 hi, ← hw]; exact q⟩
    rw [if_neg c5] at hw ⊢
    by_cases c6 : x3 = 5
    · rw [if_pos c6] at hw
      refine ⟨oM hG1, 102, mP_g hG1 rfl, isA_g hG1 (by decide) rfl vi, ?_⟩
      rcases hw with ⟨k, e, he, rfl, rfl⟩ | ⟨hn, rfl⟩
      · rw [(r7 k e he).2.2.2]; exact q
      · rw [(r8 i hi hn).2]; exact q
    · exact absurd c6 (by
        intro c6
        have : x3 = 0 ∨ x3 = 1 ∨ x3 = 2 ∨ x3 = 3 ∨ x3 = 4 ∨ x3 = 5 := by
          rename_i q3
          simp only [i32_eq, Int32.reduceToInt] at *; omega
        rcases this with e | e | e | e | e | e
        · exact c0 e
        · exact c1 e
        · exact c3 e
        · exact c4 e
        · exact c5 e
        · exact c6 e)
  · rw [if_neg c2] at hw
    have hsub : (mI M1 76 31 - 1).toInt = ((hcm S).length : Int) - 1 := by rw [r1']; exact nI_m1I (by omega)
    refine in_f (by rw [hsub]; simp only [Int32.reduceToInt]; omega) ?_
    simp only [if_true, if_false, Bool.false_eq_true, reduceIte]
    rw [← hw]; exact q
def servedV (S : HS) (x2 x3 : Int32) : Int32 :=
  if 0 ≤ x3.toInt ∧ x3.toInt ≤ 1 then (if 0 ≤ x2.toInt ∧ x2.toInt < ((hsv S).length : Int) then (if x3 = 0 then nI ((hsv S).getD x2.toNatClampNeg (0, 0)).1 else nI ((hsv S).getD x2.toNatClampNeg (0, 0)).2) else -1) else -1
theorem served_c {M0 M : Mem} {ns nt nw no nh r : Nat} {cls : Nat → List Cl} {th : Option Nat} {oa kd vv : Nat → Nat} {X : Nat → Nat → Nat} {S : HS} (A : AK M0 M ns nt nw no nh r cls th oa kd vv X S) {x2 x3 : Int32} {Q : Int32 → Mem → Prop} (q : ∀ M1, AF nh M0 M1 → Q (servedV S x2 x3) M1) : f_X11_served 0 (nI r) x2 x3 M Q := by
  obtain ⟨J, f, hr, hX', hS'⟩ := id A; have J1 := J.af f; have hG := J1.1; have iO0 : iO M no oa kd vv := J1.2.2.2.2.2.2.2.2.1; have iS0 : iS M ns := J1.2.1; have iH0 : iH M ns nh := J1.2.2.2.2.1
  unfold f_X11_served
  refine ⟨oQ hG, ordA_s hG iO0.2.1 iO0.1 hr (iO0.2.2.2.1 r hr).2.2.1.2.2.2 ⟨fun h => (by cases h), fun b hb => ?_⟩⟩; cases hb
  unfold servedV at q
  by_cases c3 : 0 ≤ x3.toInt ∧ x3.toInt ≤ 1
  case neg =>
    rw [if_neg c3] at q
    refine out_t (by simp only [Int32.reduceToInt]; omega) ?_
    simp only [if_true, if_false, Bool.false_eq_true, reduceIte]
    exact q M f
  rw [if_pos c3] at q
  refine out_f c3 ?_
  simp only [if_true, if_false, Bool.false_eq_true, reduceIte]
  refine ⟨oQ hG, askA_c A fun M1 f1 e1 => ?_⟩
  replace q := q M1 f1
  have hb := eC_b e1
  obtain ⟨⟨hG1, -⟩, ⟨⟨-, r2', -⟩, r6, r7, -⟩, hf⟩ := e1
  by_cases c2 : 0 ≤ x2.toInt ∧ x2.toInt < ((hsv S).length : Int)
  · rw [if_pos c2] at q
    obtain ⟨i, -, rfl, i1, i2⟩ := nI_ex c2.1
    have hi : i < (hsv S).length := by omega
    rw [if_neg (nI_pos (by omega))]
    refine ⟨oQ hG1, 29, mP_g hG1 rfl, oH hG1, ?_⟩
    rw [r2', if_pos (nI_lt hi (by omega))]
    obtain ⟨e, he⟩ : ∃ e, (hsv S)[i]? = some e := ⟨(hsv S)[i], List.getElem?_eq_getElem hi⟩
    rw [i2, getD_of he] at q
    have hel := (hf.2.1.2.2.2.1 e (List.mem_of_getElem? he)).1
    refine ⟨35, mP_g hG1 rfl, isA_g hG1 (by decide) rfl (vpN (by omega) (by omega)), ?_⟩
    rw [i2, (r7 i e he).1]
    by_cases c0 : x3 = 0
    · rw [if_pos c0]; rw [if_pos c0] at q; exact q
    · rw [if_neg c0]; rw [if_neg c0] at q
      refine ⟨34, mP_g hG1 rfl, isA_g hG1 (by decide) rfl (vpN (by omega) (by omega)), ?_⟩
      rw [nI_clamp (by omega), (r7 i e he).2]; exact q
  · rw [if_neg c2] at q
    by_cases c0 : x2 < 0
    · rw [if_pos c0]; exact q
    · rw [if_neg c0]
      refine ⟨oQ hG1, 29, mP_g hG1 rfl, oH hG1, ?_⟩
      rw [r2', if_neg ?_]
      · exact q
      · rw [i32_lt, nI_toInt (by omega)]; rw [i32_lt] at c0; simp only [Int32.reduceToInt] at c0; omega
theorem served_m {M0 M : Mem} {ns nt nw no nh r : Nat} {cls : Nat → List Cl} {th : Option Nat} {oa kd vv : Nat → Nat} {X : Nat → Nat → Nat} {S : HS} (A : AK M0 M ns nt nw no nh r cls th oa kd vv X S) {x2 x3 : Int32} {Q : Int32 → Mem → Prop} (q : ∀ M1, AF nh M0 M1 → Q (servedV S x2 x3) M1) : f_X12_served 76 (nI r) x2 x3 M Q := by
  obtain ⟨J, f, hr, hX', hS'⟩ := id A; have J1 := J.af f; have hG := J1.1; have iO0 : iO M no oa kd vv := J1.2.2.2.2.2.2.2.2.1; have iS0 : iS M ns := J1.2.1; have iH0 : iH M ns nh := J1.2.2.2.2.1
  unfold f_X12_served
  refine ⟨oM hG, isO_t hG iO0.2.2.1 iO0.1 hr ?_⟩
  simp only [if_true, if_false, Bool.false_eq_true, reduceIte]
  unfold servedV at q
  by_cases c3 : 0 ≤ x3.toInt ∧ x3.toInt ≤ 1
  case neg =>
    rw [if_neg c3] at q
    refine ⟨oM hG, in_f (by simp only [Int32.reduceToInt]; omega) ?_⟩
    simp only [if_true, if_false, Bool.false_eq_true, reduceIte]
    exact q M f
  rw [if_pos c3] at q
  refine ⟨oM hG, in_t c3 ?_⟩
  simp only [if_true, if_false, Bool.false_eq_true, reduceIte]
  refine ⟨oM hG, askA_m A fun t M1 ht f1 e1 w1 st1 => ?_⟩
  replace q := q M1 f1
  have hb := eM_b e1
  obtain ⟨⟨hG1, -⟩, ⟨⟨-, r2', -⟩, r6, r7, r8, -⟩, hf⟩ := id e1
  refine ⟨oM hG1, ?_⟩
  have hsub : (mI M1 76 32 - 1).toInt = ((hsv S).length : Int) - 1 := by rw [r2']; exact nI_m1I (by omega)
  by_cases c2 : 0 ≤ x2.toInt ∧ x2.toInt < ((hsv S).length : Int)
  · rw [if_pos c2] at q
    refine in_t (by rw [hsub]; simp only [Int32.reduceToInt]; omega) ?_
    simp only [if_true, if_false, Bool.false_eq_true, reduceIte]
    obtain ⟨i, -, rfl, i1, i2⟩ := nI_ex c2.1
    have hi : i < (hsv S).length := by omega
    obtain ⟨e, he⟩ : ∃ e, (hsv S)[i]? = some e := ⟨(hsv S)[i], List.getElem?_eq_getElem hi⟩
    rw [i2, getD_of he] at q
    rw [i2]
    have vi : vp_in (nI i) 41 := vpN (by omega) (by omega)
    by_cases c0 : x3 = 0
    · rw [if_pos c0] at q ⊢
      exact ⟨oM hG1, 106, mP_g hG1 rfl, isA_g hG1 (by decide) rfl vi, by rw [(r7 i e he).1]; exact q⟩
    · rw [if_neg c0] at q ⊢
      exact ⟨oM hG1, 107, mP_g hG1 rfl, isA_g hG1 (by decide) rfl vi, by rw [(r7 i e he).2.1]; exact q⟩
  · rw [if_neg c2] at q
    refine in_f (by rw [hsub]; simp only [Int32.reduceToInt]; omega) ?_
    simp only [if_true, if_false, Bool.false_eq_true, reduceIte]
    exact q
def bkI (S : HS) : Int32 := if nI (aHm S 0) = 0 then 0 else nI (aPe S) / nI (aHm S 0)
def allV (X : Nat → Nat → Nat) (S : HS) (x2 : Int32) : Int32 :=
  if x2 = 0 then nI (hcm S).length else if x2 = 1 then nI (hsv S).length else if x2 = 2 then nI (aHm S 0) else if x2 = 3 then nI (aHm S 2) else if x2 = 4 then nI (aLo X S) else if x2 = 5 then nI (aPe S) else if x2 = 6 then nI (hbz S) else bkI S
theorem all_c {M0 M : Mem} {ns nt nw no nh r : Nat} {cls : Nat → List Cl} {th : Option Nat} {oa kd vv : Nat → Nat} {X : Nat → Nat → Nat} {S : HS} (A : AK M0 M ns nt nw no nh r cls th oa kd vv X S) {x2 : Int32} {Q : Int32 → Mem → Prop} (c3 : 0 ≤ x2.toInt ∧ x2.toInt ≤ 7) (q : ∀ M1, AF nh M0 M1 → Q (allV X S x2) M1) : f_X11_all 0 (nI r) x2 M Q := by
  obtain ⟨J, f, hr, hX', hS'⟩ := id A; have J1 := J.af f; have hG := J1.1; have iO0 : iO M no oa kd vv := J1.2.2.2.2.2.2.2.2.1; have iS0 : iS M ns := J1.2.1; have iH0 : iH M ns nh := J1.2.2.2.2.1
  unfold f_X11_all
  refine ⟨oQ hG, ordA_s hG iO0.2.1 iO0.1 hr (iO0.2.2.2.1 r hr).2.2.1.2.2.2 ⟨fun h => (by cases h), fun b hb => ?_⟩⟩; cases hb
  refine out_f c3 ?_
  simp only [if_true, if_false, Bool.false_eq_true, reduceIte]
  refine ⟨oQ hG, askA_c A fun M1 f1 e1 => ?_⟩
  replace q := q M1 f1
  obtain ⟨⟨hG1, -⟩, ⟨⟨r1', r2', r3', -⟩, r6, r7, -⟩, hf⟩ := id e1
  have oA : isO M1 0 [11] ∧ mP M1 0 16 = some 29 ∧ isO M1 29 [3] := ⟨oQ hG1, mP_g hG1 rfl, oH hG1⟩
  unfold allV at q
  by_cases d0 : x2 = 0
  · rw [if_pos d0] at q ⊢
    exact ⟨oA.1, 29, oA.2.1, oA.2.2, by rw [r1']; exact q⟩
  rw [if_neg d0] at q ⊢
  by_cases d1 : x2 = 1
  · rw [if_pos d1] at q ⊢
    exact ⟨oA.1, 29, oA.2.1, oA.2.2, by rw [r2']; exact q⟩
  rw [if_neg d1] at q ⊢
  by_cases d2 : x2 = 2
  · rw [if_pos d2] at q ⊢
    exact ⟨oA.1, 29, oA.2.1, oA.2.2, many_c (l := 0) e1 (by omega) q⟩
  rw [if_neg d2] at q ⊢
  by_cases d3 : x2 = 3
  · rw [if_pos d3] at q ⊢
    exact ⟨oA.1, 29, oA.2.1, oA.2.2, many_c (l := 2) e1 (by omega) q⟩
  rw [if_neg d3] at q ⊢
  by_cases d4 : x2 = 4
  · rw [if_pos d4] at q ⊢
    exact ⟨oA.1, 29, oA.2.1, oA.2.2, lost_c e1 q⟩
  rw [if_neg d4] at q ⊢
  by_cases d5 : x2 = 5
  · rw [if_pos d5] at q ⊢
    exact ⟨oA.1, 29, oA.2.1, oA.2.2, pence_c e1 q⟩
  rw [if_neg d5] at q ⊢
  by_cases d6 : x2 = 6
  · rw [if_pos d6] at q ⊢
    exact ⟨oA.1, 29, oA.2.1, oA.2.2, by rw [r3']; exact q⟩
  rw [if_neg d6] at q ⊢
  exact ⟨oA.1, 29, oA.2.1, oA.2.2, back_c e1 q⟩
theorem all_m {M0 M : Mem} {ns nt nw no nh r : Nat} {cls : Nat → List Cl} {th : Option Nat} {oa kd vv : Nat → Nat} {X : Nat → Nat → Nat} {S : HS} (A : AK M0 M ns nt nw no nh r cls th oa kd vv X S) {x2 : Int32} {Q : Int32 → Mem → Prop} (c3 : 0 ≤ x2.toInt ∧ x2.toInt ≤ 7) (q : ∀ M1, AF nh M0 M1 → Q (allV X S x2) M1) : f_X12_all 76 (nI r) x2 M Q := by
  obtain ⟨J, f, hr, hX', hS'⟩ := id A; have J1 := J.af f; have hG := J1.1; have iO0 : iO M no oa kd vv := J1.2.2.2.2.2.2.2.2.1; have iS0 : iS M ns := J1.2.1; have iH0 : iH M ns nh := J1.2.2.2.2.1
  unfold f_X12_all
  refine ⟨oM hG, isO_t hG iO0.2.2.1 iO0.1 hr ?_⟩
  simp only [if_true, if_false, Bool.false_eq_true, reduceIte]
  refine ⟨oM hG, in_t c3 ?_⟩
  simp only [if_true, if_false, Bool.false_eq_true, reduceIte]
  refine ⟨oM hG, askA_m A fun t M1 ht f1 e1 w1 st1 => ?_⟩
  replace q := q M1 f1
  obtain ⟨⟨hG1, -⟩, ⟨⟨r1', r2', r3', -⟩, r6, r7, r8, -⟩, hf⟩ := id e1
  unfold allV at q
  by_cases d0 : x2 = 0
  · rw [if_pos d0] at q ⊢
    exact ⟨oM hG1, by rw [r1']; exact q⟩
  rw [if_neg d0] at q ⊢
  by_cases d1 : x2 = 1
  · rw [if_pos d1] at q ⊢
    exact ⟨oM hG1, by rw [r2']; exact q⟩
  rw [if_neg d1] at q ⊢
  by_cases d2 : x2 = 2
  · rw [if_pos d2] at q ⊢
    exact ⟨oM hG1, many_m (l := 0) e1 (by omega) q⟩
  rw [if_neg d2] at q ⊢
  by_cases d3 : x2 = 3
  · rw [if_pos d3] at q ⊢
    exact ⟨oM hG1, many_m (l := 2) e1 (by omega) q⟩
  rw [if_neg d3] at q ⊢
  by_cases d4 : x2 = 4
  · rw [if_pos d4] at q ⊢
    exact ⟨oM hG1, lost_m e1 q⟩
  rw [if_neg d4] at q ⊢
  by_cases d5 : x2 = 5
  · rw [if_pos d5] at q ⊢
    exact ⟨oM hG1, pence_m e1 q⟩
  rw [if_neg d5] at q ⊢
  by_cases d6 : x2 = 6
  · rw [if_pos d6] at q ⊢
    exact ⟨oM hG1, by rw [r3']; exact q⟩
  rw [if_neg d6] at q ⊢
  refine ⟨oM hG1, many_m (l := 0) e1 (by omega) ?_⟩
  unfold bkI at q
  by_cases c : nI (aHm S 0) = 0
  · rw [if_pos c] at q ⊢; exact q
  · rw [if_neg c] at q ⊢
    exact ⟨oM hG1, pence_m e1 ⟨oM hG1, many_m (l := 0) e1 (by omega) ⟨c, q⟩⟩⟩
theorem stand_c {M0 M : Mem} {ns nt nw no nh r : Nat} {cls : Nat → List Cl} {th : Option Nat} {oa kd vv : Nat → Nat} {X : Nat → Nat → Nat} {S : HS} (A : AK M0 M ns nt nw no nh r cls th oa kd vv X S) {l j : Nat} {Q : Int32 → Mem → Prop} (hl : l < 2) (hj : j < 100) (q : ∀ M1, AF nh M0 M1 → Q (nI (sCn S l j)) M1) : f_X11_stand 0 (nI r) (nI l) (nI j) M Q := by
  obtain ⟨J, f, hr, hX', hS'⟩ := id A; have J1 := J.af f; have hG := J1.1; have iO0 : iO M no oa kd vv := J1.2.2.2.2.2.2.2.2.1; have iS0 : iS M ns := J1.2.1; have iH0 : iH M ns nh := J1.2.2.2.2.1
  unfold f_X11_stand
  refine ⟨oQ hG, ordA_s hG iO0.2.1 iO0.1 hr (iO0.2.2.2.1 r hr).2.2.1.2.2.2 ⟨fun h => (by cases h), fun b hb => ?_⟩⟩; cases hb
  have el := nI_toInt (n := l) (by omega)
  have ej := nI_toInt (n := j) (by omega)
  refine out_f (by simp only [Int32.reduceToInt]; omega) ?_
  simp only [if_true, if_false, Bool.false_eq_true, reduceIte]
  refine out_f (by simp only [Int32.reduceToInt]; omega) ?_
  simp only [if_true, if_false, Bool.false_eq_true, reduceIte]
  refine ⟨oQ hG, askA_c A fun M1 f1 e1 => ?_⟩
  have hG1 := e1.1.1
  exact ⟨oQ hG1, 29, mP_g hG1 rfl, oH hG1, stood_c e1 hl hj (q M1 f1)⟩
theorem standA_m {M0 M : Mem} {ns nt nw no nh r : Nat} {cls : Nat → List Cl} {th : Option Nat} {oa kd vv : Nat → Nat} {X : Nat → Nat → Nat} {S : HS} (A : AK M0 M ns nt nw no nh r cls th oa kd vv X S) {l j : Nat} {Q : Int32 → Mem → Prop} (hl : l < 2) (hj : j < 100) (q : ∀ M1, AF nh M0 M1 → Q (nI (sCn S l j)) M1) : f_X12_stand 76 (nI r) (nI l) (nI j) M Q := by
  obtain ⟨J, f, hr, hX', hS'⟩ := id A; have J1 := J.af f; have hG := J1.1; have iO0 : iO M no oa kd vv := J1.2.2.2.2.2.2.2.2.1; have iS0 : iS M ns := J1.2.1; have iH0 : iH M ns nh := J1.2.2.2.2.1
  unfold f_X12_stand
  refine ⟨oM hG, isO_t hG iO0.2.2.1 iO0.1 hr ?_⟩
  simp only [if_true, if_false, Bool.false_eq_true, reduceIte]
  have el := nI_toInt (n := l) (by omega)
  have ej := nI_toInt (n := j) (by omega)
  refine ⟨oM hG, in_t (by simp only [Int32.reduceToInt]; omega) ?_⟩
  simp only [if_true, if_false, Bool.false_eq_true, reduceIte]
  refine ⟨oM hG, in_t (by simp only [Int32.reduceToInt]; omega) ?_⟩
  simp only [if_true, if_false, Bool.false_eq_true, reduceIte]
  refine ⟨oM hG, askA_m A fun t M1 ht f1 e1 w1 st1 => ?_⟩
  have hG1 := e1.1.1
  refine ⟨oM hG1, 108, mP_g hG1 rfl, ?_⟩
  rw [show (100 : Int32) = nI 100 from rfl, nI_mul, nI_add, nI_clamp (by omega), st1 l hl j hj]
  refine ⟨isA_g hG1 (by decide) rfl (vpN (by omega) (by omega)), ?_⟩
  by_cases c : j < t
  · rw [if_pos c]; exact q M1 f1
  · rw [if_neg c]
    have := sCn_0 w1 hl e1.2.2.2.2 (by omega : t ≤ j)
    rw [this] at q; exact q M1 f1
theorem lossA_c {M0 M : Mem} {ns nt nw no nh r : Nat} {cls : Nat → List Cl} {th : Option Nat} {oa kd vv : Nat → Nat} {X : Nat → Nat → Nat} {S : HS} (A : AK M0 M ns nt nw no nh r cls th oa kd vv X S) {s : Nat} {Q : Int32 → Mem → Prop} (hs : s < ns) (q : ∀ M1, AF nh M0 M1 → Q (nI (aLs X S s)) M1) : f_X11_loss 0 (nI r) (nI s) M Q := by
  obtain ⟨J, f, hr, hX', hS'⟩ := id A; have J1 := J.af f; have hG := J1.1; have iO0 : iO M no oa kd vv := J1.2.2.2.2.2.2.2.2.1; have iS0 : iS M ns := J1.2.1; have iH0 : iH M ns nh := J1.2.2.2.2.1
  have h6 := iS0.1
  unfold f_X11_loss
  refine ⟨oQ hG, ordA_s hG iO0.2.1 iO0.1 hr (iO0.2.2.2.1 r hr).2.2.1.2.2.2 ⟨fun h => (by cases h), fun b hb => ?_⟩⟩; cases hb
  have es := nI_toInt (n := s) (by omega)
  refine ⟨oQ hG, noS_f hG iS0.2.1 iS0.1 (by omega) ?_⟩
  simp only [if_true, if_false, Bool.false_eq_true, reduceIte]
  refine ⟨oQ hG, askA_c A fun M1 f1 e1 => ?_⟩
  have hG1 := e1.1.1
  exact ⟨oQ hG1, 29, mP_g hG1 rfl, oH hG1, loss_c e1 hs (q M1 f1)⟩
theorem lossA_m {M0 M : Mem} {ns nt nw no nh r : Nat} {cls : Nat → List Cl} {th : Option Nat} {oa kd vv : Nat → Nat} {X : Nat → Nat → Nat} {S : HS} (A : AK M0 M ns nt nw no nh r cls th oa kd vv X S) {s : Nat} {Q : Int32 → Mem → Prop} (hs : s < ns) (q : ∀ M1, AF nh M0 M1 → Q (nI (aLs X S s)) M1) : f_X12_loss 76 (nI r) (nI s) M Q := by
  obtain ⟨J, f, hr, hX', hS'⟩ := id A; have J1 := J.af f; have hG := J1.1; have iO0 : iO M no oa kd vv := J1.2.2.2.2.2.2.2.2.1; have iS0 : iS M ns := J1.2.1; have iH0 : iH M ns nh := J1.2.2.2.2.1
  have h6 := iS0.1
  unfold f_X12_loss
  refine ⟨oM hG, isO_t hG iO0.2.2.1 iO0.1 hr ?_⟩
  simp only [if_true, if_false, Bool.false_eq_true, reduceIte]
  have es := nI_toInt (n := s) (by omega)
  refine ⟨oM hG, isS_t hG iS0.2.2.1 iS0.1 (by omega) ?_⟩
  simp only [if_true, if_false, Bool.false_eq_true, reduceIte]
  refine ⟨oM hG, askA_m A fun t M1 ht f1 e1 w1 st1 => ⟨oM e1.1.1, loss_m e1 hs (q M1 f1)⟩⟩
theorem sellA_c {M0 M : Mem} {ns nt nw no nh r : Nat} {cls : Nat → List Cl} {th : Option Nat} {oa kd vv : Nat → Nat} {X : Nat → Nat → Nat} {S : HS} (A : AK M0 M ns nt nw no nh r cls th oa kd vv X S) {Q : Int32 → Mem → Prop} (q : ∀ M1, AF nh M0 M1 → Q (nI (aSe X S)) M1) : f_X11_sell 0 (nI r) M Q := by
  obtain ⟨J, f, hr, hX', hS'⟩ := id A; have J1 := J.af f; have hG := J1.1; have iO0 : iO M no oa kd vv := J1.2.2.2.2.2.2.2.2.1; have iS0 : iS M ns := J1.2.1; have iH0 : iH M ns nh := J1.2.2.2.2.1
  unfold f_X11_sell
  refine ⟨oQ hG, ordA_s hG iO0.2.1 iO0.1 hr (iO0.2.2.2.1 r hr).2.2.1.2.2.2 ⟨fun h => (by cases h), fun b hb => ?_⟩⟩; cases hb
  refine ⟨oQ hG, askA_c A fun M1 f1 e1 => ?_⟩
  have hG1 := e1.1.1
  exact ⟨oQ hG1, 29, mP_g hG1 rfl, oH hG1, sales_c e1 (q M1 f1)⟩
theorem sellA_m {M0 M : Mem} {ns nt nw no nh r : Nat} {cls : Nat → List Cl} {th : Option Nat} {oa kd vv : Nat → Nat} {X : Nat → Nat → Nat} {S : HS} (A : AK M0 M ns nt nw no nh r cls th oa kd vv X S) {Q : Int32 → Mem → Prop} (q : ∀ M1, AF nh M0 M1 → Q (nI (aSe X S)) M1) : f_X12_sell 76 (nI r) M Q := by
  obtain ⟨J, f, hr, hX', hS'⟩ := id A; have J1 := J.af f; have hG := J1.1; have iO0 : iO M no oa kd vv := J1.2.2.2.2.2.2.2.2.1; have iS0 : iS M ns := J1.2.1; have iH0 : iH M ns nh := J1.2.2.2.2.1
  unfold f_X12_sell
  refine ⟨oM hG, isO_t hG iO0.2.2.1 iO0.1 hr ?_⟩
  simp only [if_true, if_false, Bool.false_eq_true, reduceIte]
  exact ⟨oM hG, askA_m A fun t M1 ht f1 e1 w1 st1 => sell_m e1 (q M1 f1)⟩
