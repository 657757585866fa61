/-! ===== judge ===== -/
def jdR (c : Nat → Option Int32) : Nat → Nat → Int32
  | 0, _ => -5
  | f + 1, k => match c k with
    | some w => w
    | none => jdR c f (k + 1)
def jdc (M0 : Mem) (S : HS) (t : Nat) (x2 : Int32) (k : Nat) : Option Int32 :=
  if 0 ≤ x2.toInt ∧ x2.toInt + (k : Int) < (mI M0 (64 + 2 * t) 1).toInt then (if k < (hsv S).length ∧ mL M0 (65 + 2 * t) (x2.toNatClampNeg + k) = (nI (so_ S k)).toInt64 then none else some (nI k)) else some (100 + nI k)
theorem i64_of (x : Int32) : x.toInt64.toInt = x.toInt := Int32.toInt_toInt64 x
theorem judge_c {M0 M : Mem} {ns nt nw no nh r : Nat} {cls : Nat → List Cl} {th : Option Nat} {oa kd vv : Nat → Nat} {X : Nat → Nat → Nat} {S : HS} (A : AK M0 M ns nt nw no nh r cls th oa kd vv X S) {t n : Nat} {x2 x3 x4 : Int32} {Q : Int32 → Mem → Prop} (ht : t < 6) (hn : n ≤ 40) (h0 : mI M (64 + 2 * t) 0 ≤ 0) (q : ∀ M1, AF nh M0 M1 → Q (jdR (jdc M0 S t x2) n 0) M1) : f_X11_judge 0 (nI t) x2 (nI n) (nI r) M Q := by
  obtain ⟨J, f, hr, hX', hS'⟩ := id A; have J1 := J.af f; have hG := J1.1; have iO0 : iO M no oa kd vv := J1.2.2.2.2.2.2.2.2.1; have iS0 : iS M ns := J1.2.1; have iH0 : iH M ns nh := J1.2.2.2.2.1
  unfold f_X11_judge
  refine ⟨oQ hG, tapA_s hG ht ⟨oQ hG, ordA_s hG iO0.2.1 iO0.1 hr (iO0.2.2.2.1 r hr).2.2.1.2.2.2 ⟨fun h => (by cases h), fun b hb => ⟨fun h => (by cases h), fun b' hb' => ?_⟩⟩⟩⟩
  cases hb; cases hb'
  have en := nI_toInt (n := n) (by omega)
  refine out_f (by simp only [Int32.reduceToInt]; omega) ?_
  simp only [if_true, if_false, Bool.false_eq_true, reduceIte]
  refine ⟨o_tape hG ht, ?_⟩
  rw [if_pos h0]
  refine ⟨oQ hG, askA_c A fun M1 f1 e1 => ?_⟩
  have J2 := J.af f1
  have hG1 := J2.1
  have hb := eC_b e1
  have hM0 := J.1
  obtain ⟨-, ⟨⟨r1', r2', r3', -⟩, r6, r7, -⟩, hf⟩ := id e1
  obtain ⟨t1, t2, t3, t4, t5, t6⟩ := J2.2.2.2.2.2.2.2.2.2.2.2 t ht
  have eL : mI M1 (64 + 2 * t) 1 = mI M0 (64 + 2 * t) 1 := f1.2.2.2.2 _ _ (by omega)
  have eI : mL M1 (65 + 2 * t) = mL M0 (65 + 2 * t) := by rw [f1.2.2.1]
  unfold f_X11_judge_L60
  refine ⟨fun z => ∃ k, k ≤ n ∧ z = (some (64 + 2 * t), nI k, M1) ∧ jdR (jdc M0 S t x2) (n - k) k = jdR (jdc M0 S t x2) n 0 ∧ (k = 0 ∨ 0 ≤ x2.toInt), fun z => n - z.2.1.toNatClampNeg, ⟨0, by omega, rfl, rfl, Or.inl rfl⟩, ?_⟩
  rintro z ⟨k, hk, rfl, hj, hk0⟩
  show f_X11_judge_B60 0 (nI t) x2 (nI n) (nI r) (some (64 + 2 * t)) (nI k) M1 _ Q
  unfold f_X11_judge_B60
  replace q := q M1 f1
  by_cases hkn : k < n
  case neg =>
    obtain rfl : k = n := by omega
    rw [if_pos (nI_le (Nat.le_refl _) (by omega))]
    rw [Nat.sub_self] at hj
    rw [← hj] at q; exact q
  rw [if_neg (nI_ge hkn (by omega))]
  obtain ⟨d, hd⟩ : ∃ d, n - k = d + 1 := ⟨n - k - 1, by omega⟩
  rw [hd] at hj
  have hj : (match jdc M0 S t x2 k with
    | some w => w
    | none => jdR (jdc M0 S t x2) d (k + 1)) = jdR (jdc M0 S t x2) n 0 := hj
  have ek := nI_toInt (n := k) (by omega)
  have x2b := Int32.toInt_lt x2
  have x2c := Int32.le_toInt x2
  have ey : (x2.toInt64 + (nI k).toInt64).toInt = x2.toInt + (k : Int) := by
    rw [i64_addI] <;> rw [i64_of, i64_of, ek] <;> omega
  refine ⟨_, rfl, o_tape hG1 ht, ?_⟩
  unfold rg at t4
  have stop : ∀ w, jdc M0 S t x2 k = some w → Q w M1 := by
    intro w hw
    rw [hw] at hj
    rw [← hj] at q; exact q
  have cont : jdc M0 S t x2 k = none → jdR (jdc M0 S t x2) d (k + 1) = jdR (jdc M0 S t x2) n 0 := by
    intro e
    rw [e] at hj; exact hj
  have j1 : ¬ (0 ≤ x2.toInt ∧ x2.toInt + (k : Int) < (mI M0 (64 + 2 * t) 1).toInt) → jdc M0 S t x2 k = some (100 + nI k) := fun h => if_neg h
  have j2 : (0 ≤ x2.toInt ∧ x2.toInt + (k : Int) < (mI M0 (64 + 2 * t) 1).toInt) → jdc M0 S t x2 k = (if k < (hsv S).length ∧ mL M0 (65 + 2 * t) (x2.toNatClampNeg + k) = (nI (so_ S k)).toInt64 then none else some (nI k)) := fun h => if_pos h
  by_cases c : 0 ≤ x2.toInt ∧ x2.toInt + (k : Int) < (mI M0 (64 + 2 * t) 1).toInt
  case neg =>
    refine lack_t (o_tape hG1 ht) (by rw [ey, eL]; omega) ?_
    rw [if_pos rfl]
    exact stop _ (j1 c)
  refine lack_f (o_tape hG1 ht) (by rw [ey, eL]; omega) ?_
  rw [if_neg (by decide)]
  replace j2 := j2 c
  refine ⟨oQ hG1, 29, mP_g hG1 rfl, oH hG1, ?_⟩
  rw [r2']
  by_cases ck : k < (hsv S).length
  case neg =>
    rw [if_pos (nI_le (by omega) (by omega))]
    exact stop _ (j2.trans (if_neg (fun h => ck h.1)))
  rw [if_neg (nI_ge ck (by omega))]
  obtain ⟨i, -, rfl, i1, i2⟩ := nI_ex c.1
  have i60 : i + k < 60 := by rw [← eL] at c; omega
  obtain ⟨e, he⟩ : ∃ e, (hsv S)[k]? = some e := ⟨(hsv S)[k], List.getElem?_eq_getElem ck⟩
  have hel := (hf.2.1.2.2.2.1 e (List.mem_of_getElem? he)).1
  have es : so_ S k = (gC (hcm S) e.1).1 := by unfold so_; rw [getD_of he]
  refine ⟨o_tape hG1 ht, 65 + 2 * t, p_tapeI hG1 ht, ?_⟩
  rw [nI_add]
  refine ⟨a_tape hG1 ht (vpN i60 (by omega)), 35, mP_g hG1 rfl, isA_g hG1 (by decide) rfl (vpN (by omega) (by omega)), 30, mP_g hG1 rfl, ?_⟩
  rw [nI_clamp (n := k) (by omega), (r7 k e he).1, nI_clamp (n := e.1) (by omega)]
  refine ⟨isA_g hG1 (by decide) rfl (vpN (by omega) (by omega)), ?_⟩
  rw [(r6 _ hel).1, nI_clamp (n := i + k) (by omega), eI]
  rw [i2, es] at j2
  by_cases cc : mL M0 (65 + 2 * t) (i + k) = (nI (gC (hcm S) e.1).1).toInt64
  · rw [if_pos ((lgc_eq _ _).mpr cc)]
    have hj2 := cont (j2.trans (if_pos ⟨ck, cc⟩))
    refine ⟨⟨k + 1, hkn, by rw [nI_1], ?_, Or.inr c.1⟩, ?_⟩
    · have : n - (k + 1) = d := by omega
      rw [this]; exact hj2
    · show n - (nI k + 1).toNatClampNeg < n - (nI k).toNatClampNeg
      rw [nI_1, nI_clamp (by omega), nI_clamp (by omega)]; omega
  · rw [if_neg (fun h => cc ((lgc_eq _ _).mp h))]
    exact stop _ (j2.trans (if_neg (fun h => cc h.2)))
theorem judge_m {M0 M : Mem} {ns nt nw no nh r : Nat} {cls : Nat → List Cl} {th : Option Nat} {oa kd vv : Nat → Nat} {X : Nat → Nat → Nat} {S : HS} (A : AK M0 M ns nt nw no nh r cls th oa kd vv X S) {t n : Nat} {x2 : Int32} {Q : Int32 → Mem → Prop} (ht : t < 6) (hn : n ≤ 40) (h0 : mI M (64 + 2 * t) 0 ≤ 0) (q : ∀ M1, AF nh M0 M1 → Q (jdR (jdc M0 S t x2) n 0) M1) : f_X12_judge 76 (nI t) x2 (nI n) (nI r) M Q := by
  obtain ⟨J, f, hr, hX', hS'⟩ := id A; have J1 := J.af f; have hG := J1.1; have iO0 : iO M no oa kd vv := J1.2.2.2.2.2.2.2.2.1; have iS0 : iS M ns := J1.2.1; have iH0 : iH M ns nh := J1.2.2.2.2.1
  unfold f_X12_judge
  refine ⟨oM hG, isT_t hG ht ?_⟩
  simp only [if_true, if_false, Bool.false_eq_true, reduceIte]
  refine ⟨oM hG, isO_t hG iO0.2.2.1 iO0.1 hr ?_⟩
  simp only [if_true, if_false, Bool.false_eq_true, reduceIte]
  have en := nI_toInt (n := n) (by omega)
  refine ⟨oM hG, in_t (by simp only [Int32.reduceToInt]; omega) ?_⟩
  simp only [if_true, if_false, Bool.false_eq_true, reduceIte]
  have tM := J1.2.2.2.2.2.2.2.2.2.2.2 t ht
  refine ⟨oM hG, 114, mP_g hG rfl, isA_g hG (by decide) rfl (vpN (by omega) (by omega)), ?_⟩
  rw [nI_clamp (n := t) (by omega), tM.1, if_pos h0]
  refine askA_m A fun tt M1 htt f1 e1 w1 st1 => ?_
  have J2 := J.af f1
  have hG1 := J2.1
  have hb := eM_b e1
  obtain ⟨-, ⟨⟨r1', r2', r3', -⟩, r6, r7, r8, -⟩, hf⟩ := id e1
  obtain ⟨t1, t2, t3, t4, t5, t6⟩ := J2.2.2.2.2.2.2.2.2.2.2.2 t ht
  have eL : mI M1 (64 + 2 * t) 1 = mI M0 (64 + 2 * t) 1 := f1.2.2.2.2 _ _ (by omega)
  have eI : mL M1 (65 + 2 * t) = mL M0 (65 + 2 * t) := by rw [f1.2.2.1]
  unfold f_X12_judge_L54
  refine ⟨fun z => ∃ k, k ≤ n ∧ z = (nI k, M1) ∧ jdR (jdc M0 S t x2) (n - k) k = jdR (jdc M0 S t x2) n 0, fun z => n - z.1.toNatClampNeg, ⟨0, by omega, rfl, rfl⟩, ?_⟩
  rintro z ⟨k, hk, rfl, hj⟩
  show f_X12_judge_B54 76 (nI t) x2 (nI n) (nI r) (nI k) M1 _ Q
  unfold f_X12_judge_B54 f_X12_judge_J88
  replace q := q M1 f1
  by_cases hkn : k < n
  case neg =>
    obtain rfl : k = n := by omega
    rw [if_pos (nI_le (Nat.le_refl _) (by omega))]
    rw [Nat.sub_self] at hj
    rw [← hj] at q; exact q
  rw [if_neg (nI_ge hkn (by omega))]
  obtain ⟨d, hd⟩ : ∃ d, n - k = d + 1 := ⟨n - k - 1, by omega⟩
  rw [hd] at hj
  have hj : (match jdc M0 S t x2 k with
    | some w => w
    | none => jdR (jdc M0 S t x2) d (k + 1)) = jdR (jdc M0 S t x2) n 0 := hj
  have ek := nI_toInt (n := k) (by omega)
  have stop : ∀ w, jdc M0 S t x2 k = some w → Q w M1 := by
    intro w hw
    rw [hw] at hj
    rw [← hj] at q; exact q
  have cont : jdc M0 S t x2 k = none → jdR (jdc M0 S t x2) d (k + 1) = jdR (jdc M0 S t x2) n 0 := by
    intro e
    rw [e] at hj; exact hj
  have j1 : ¬ (0 ≤ x2.toInt ∧ x2.toInt + (k : Int) < (mI M0 (64 + 2 * t) 1).toInt) → jdc M0 S t x2 k = some (100 + nI k) := fun h => if_neg h
  have j2 : (0 ≤ x2.toInt ∧ x2.toInt + (k : Int) < (mI M0 (64 + 2 * t) 1).toInt) → jdc M0 S t x2 k = (if k < (hsv S).length ∧ mL M0 (65 + 2 * t) (x2.toNatClampNeg + k) = (nI (so_ S k)).toInt64 then none else some (nI k)) := fun h => if_pos h
  unfold rg at t4 t2
  refine ⟨oM hG1, 114, mP_g hG1 rfl, isA_g hG1 (by decide) rfl (vpN (by omega) (by omega)), ?_⟩
  rw [nI_clamp (n := t) (by omega), t1]
  by_cases cs : mI M1 (64 + 2 * t) 0 < 0
  · rw [if_pos cs]
    refine stop _ (j1 ?_)
    rintro ⟨z1, z2⟩
    have e0 : mI M1 (64 + 2 * t) 0 = -1 := by
      rw [i32_lt] at cs; rw [i32_eq]; simp only [Int32.reduceToInt] at cs ⊢; omega
    have e0 := t5 e0
    rw [eL] at e0
    rw [e0] at z2
    simp only [Int32.reduceToInt] at z2; omega
  rw [if_neg cs]
  by_cases cx : x2 < 0
  · rw [if_pos cx]
    refine stop _ (j1 ?_)
    rintro ⟨z1, z2⟩
    rw [i32_lt] at cx; simp only [Int32.reduceToInt] at cx; omega
  rw [if_neg cx]
  refine ⟨115, mP_g hG1 rfl, isA_g hG1 (by decide) rfl (vpN (by omega) (by omega)), ?_⟩
  rw [t3, eL]
  rw [eL] at t4
  rw [i32_lt] at cx
  have e1' : (mI M0 (64 + 2 * t) 1 - nI k).toInt = (mI M0 (64 + 2 * t) 1).toInt - k := by rw [i32_subI] <;> rw [ek] <;> omega
  have e2' : (mI M0 (64 + 2 * t) 1 - nI k - 1).toInt = (mI M0 (64 + 2 * t) 1).toInt - k - 1 := by rw [i32_subI] <;> rw [e1'] <;> simp only [Int32.reduceToInt] <;> omega
  by_cases c : 0 ≤ x2.toInt ∧ x2.toInt + (k : Int) < (mI M0 (64 + 2 * t) 1).toInt
  case neg =>
    rw [if_neg (by rw [i32_le, e2']; simp only [Int32.reduceToInt] at cx; omega)]
    exact stop _ (j1 c)
  rw [if_pos (by rw [i32_le, e2']; omega)]
  replace j2 := j2 c
  rw [r2']
  by_cases ck : k < (hsv S).length
  case neg =>
    rw [if_pos (nI_le (by omega) (by omega))]
    exact stop _ (j2.trans (if_neg (fun h => ck h.1)))
  rw [if_neg (nI_ge ck (by omega))]
  obtain ⟨i, -, rfl, i1, i2⟩ := nI_ex c.1
  have i60 : i + k < 60 := by omega
  obtain ⟨e, he⟩ : ∃ e, (hsv S)[k]? = some e := ⟨(hsv S)[k], List.getElem?_eq_getElem ck⟩
  have hel := (hf.2.1.2.2.2.1 e (List.mem_of_getElem? he)).1
  have es : so_ S k = (gC (hcm S) e.1).1 := by unfold so_; rw [getD_of he]
  refine ⟨116, mP_g hG1 rfl, ?_⟩
  rw [show (60 : Int32) = nI 60 from rfl, nI_mul, nI_add, nI_add]
  refine ⟨isA_g hG1 (by decide) rfl (vpN (by omega) (by omega)), 106, mP_g hG1 rfl, isA_g hG1 (by decide) rfl (vpN (by omega) (by omega)), 97, mP_g hG1 rfl, ?_⟩
  rw [nI_clamp (n := k) (by omega), (r7 k e he).1, nI_clamp (n := e.1) (by omega)]
  refine ⟨isA_g hG1 (by decide) rfl (vpN (by omega) (by omega)), ?_⟩
  rw [(r6 _ hel).1, nI_clamp (n := 60 * t + i + k) (by omega), Nat.add_assoc, t6 (i + k) i60, eI]
  rw [i2, es] at j2
  by_cases cc : mL M0 (65 + 2 * t) (i + k) = (nI (gC (hcm S) e.1).1).toInt64
  · rw [if_pos ((lgc_eq _ _).mpr cc)]
    have hj2 := cont (j2.trans (if_pos ⟨ck, cc⟩))
    refine ⟨⟨k + 1, hkn, by rw [nI_1], ?_⟩, ?_⟩
    · have : n - (k + 1) = d := by omega
      rw [this]; exact hj2
    · show n - (nI k + 1).toNatClampNeg < n - (nI k).toNatClampNeg
      rw [nI_1, nI_clamp (by omega), nI_clamp (by omega)]; omega
  · rw [if_neg (fun h => cc ((lgc_eq _ _).mp h))]
    exact stop _ (j2.trans (if_neg (fun h => cc h.2)))
theorem J870 {M : Mem} (hI : Inv M) {v3 : Int32} {xs : Nat → Int32} {L : Nat} {K : Mem → Prop} (h1 : vp_in (v3 + 1) L) (h2 : vp_in (v3 + 2) L) (h3 : vp_in (v3 + 3) L) (h4 : vp_in (v3 + 4) L) (hK : ∀ M', Inv M' → K M') : f_L_law_J870 0 76 v3 M xs L K := by
  obtain ⟨hG, ns, nt, nw, no, nh, cls, th, oa, kd, vv, J0⟩ := id hI; have J : Jn M ns nt nw no nh cls th oa kd vv := ⟨hG, J0⟩; obtain ⟨iS0, iQ0, iN0, iH0, iZ0, iW0, iD0, iO0, iA0, iI0, iT0⟩ := id J0
  unfold f_L_law_J870
  generalize xs (v3 + 1).toNatClampNeg = x1
  generalize xs (v3 + 2).toNatClampNeg = x2
  generalize xs (v3 + 3).toNatClampNeg = x3
  generalize xs (v3 + 4).toNatClampNeg = x4
  refine ⟨h1, h2, h3, h4, oQ hG, ?_⟩
  by_cases ct : 0 ≤ x1.toInt ∧ x1.toInt < 6
  case neg =>
    have ct' : x1.toInt < 0 ∨ 6 ≤ x1.toInt := by omega
    unfold f_X11_judge f_X12_judge
    have P : ∀ w : Option Nat, ((none : Option Nat) = none → vp_in (v3 + 1) L ∧ vp_in (v3 + 2) L ∧ vp_in (v3 + 3) L ∧ vp_in (v3 + 4) L ∧ isO M 76 [12] ∧ (isO M 76 [12] ∧ f_X12_isTape 76 x1 M (fun w1 M2 => if w1 = true then (isO M2 76 [12] ∧ (f_X12_isOrder 76 x4 M2 (fun w5 M6 => (if w5 = true then (isO M6 76 [12] ∧ (f_X12_in 76 x3 (0 : Int32) (40 : Int32) M6 (fun w9 M10 => (if w9 = true then (isO M10 76 [12] ∧ (∃ b14, (mP M10 76 63) = some b14 ∧ (isA M10 b14 0 x1 ∧ (if (mI M10 b14 (x1).toNatClampNeg) ≤ 0 then (f_X12_goPlainly 76 x4 M10 (fun M19 => f_X12_judge_L54 76 x1 x2 x3 x4 (0 : Int32) M19 (fun w12 M13 => if (-1 : Int32) = w12 then K M13 else False))) else (if (-1 : Int32) = -12 then K M10 else False))))) else (if (-1 : Int32) = -2 then K M10 else False))))) else (if (-1 : Int32) = -1 then K M6 else False))))) else (if (-1 : Int32) = -1 then K M2 else False)))) := by
      intro w _
      refine ⟨h1, h2, h3, h4, oM hG, oM hG, isT_f hG ct' ?_⟩
      simp only [if_true, if_false, Bool.false_eq_true, reduceIte]
      exact hK _ hI
    refine ⟨oQ hG, tapA_n ct' ⟨oQ hG, ?_⟩⟩
    by_cases c1 : 0 ≤ x4.toInt ∧ x4.toInt < (no : Int)
    · obtain ⟨r, -, rfl, r1, r2⟩ := nI_ex c1.1
      have hr : r < no := by omega
      exact ordA_s hG iO0.2.1 iO0.1 hr (iO0.2.2.2.1 r hr).2.2.1.2.2.2 ⟨P none, fun b hb => by cases hb⟩
    · exact ordA_n hG iO0.2.1 iO0.1 (by omega) ⟨P none, fun b hb => by cases hb⟩
  obtain ⟨t, -, rfl, t1, t2⟩ := nI_ex ct.1
  have ht : t < 6 := by omega
  by_cases c1 : 0 ≤ x4.toInt ∧ x4.toInt < (no : Int)
  case neg =>
    unfold f_X11_judge f_X12_judge
    refine ⟨oQ hG, tapA_s hG ht ⟨oQ hG, ordA_n hG iO0.2.1 iO0.1 (by omega) ⟨fun h => (by cases h), fun b hb => ⟨fun _ => ?_, fun b hb => by cases hb⟩⟩⟩⟩
    refine ⟨h1, h2, h3, h4, oM hG, oM hG, isT_t hG ht ?_⟩
    simp only [if_true, if_false, Bool.false_eq_true, reduceIte]
    refine ⟨oM hG, isO_f hG iO0.2.2.1 iO0.1 (by omega) ?_⟩
    simp only [if_true, if_false, Bool.false_eq_true, reduceIte]
    exact hK _ hI
  obtain ⟨r, -, rfl, r1, r2⟩ := nI_ex c1.1; have hr : r < no := by omega
  have hp := (iO0.2.2.2.1 r hr).2.2.1.2.2.2
  by_cases c3 : 0 ≤ x3.toInt ∧ x3.toInt ≤ 40
  case neg =>
    unfold f_X11_judge f_X12_judge
    refine ⟨oQ hG, tapA_s hG ht ⟨oQ hG, ordA_s hG iO0.2.1 iO0.1 hr hp ⟨fun h => (by cases h), fun b hb => ⟨fun h => (by cases h), fun b hb => ?_⟩⟩⟩⟩
    refine out_t (by simp only [Int32.reduceToInt]; omega) ?_
    simp only [if_true, if_false, Bool.false_eq_true, reduceIte]
    refine ⟨h1, h2, h3, h4, oM hG, oM hG, isT_t hG ht ?_⟩
    simp only [if_true, if_false, Bool.false_eq_true, reduceIte]
    refine ⟨oM hG, isO_t hG iO0.2.2.1 iO0.1 hr ?_⟩
    simp only [if_true, if_false, Bool.false_eq_true, reduceIte]
    refine ⟨oM hG, in_f (by simp only [Int32.reduceToInt]; omega) ?_⟩
    simp only [if_true, if_false, Bool.false_eq_true, reduceIte]
    exact hK _ hI
  obtain ⟨n, -, rfl, n1, n2⟩ := nI_ex c3.1
  by_cases c4 : mI M (64 + 2 * t) 0 ≤ 0
  case neg =>
    have tM := (iT0 t ht).1
    unfold f_X11_judge f_X12_judge
    refine ⟨oQ hG, tapA_s hG ht ⟨oQ hG, ordA_s hG iO0.2.1 iO0.1 hr hp ⟨fun h => (by cases h), fun b hb => ⟨fun h => (by cases h), fun b' hb' => ?_⟩⟩⟩⟩
    cases hb
    refine out_f c3 ?_
    simp only [if_true, if_false, Bool.false_eq_true, reduceIte]
    refine ⟨o_tape hG ht, ?_⟩
    rw [if_neg c4]
    refine ⟨h1, h2, h3, h4, oM hG, oM hG, isT_t hG ht ?_⟩
    simp only [if_true, if_false, Bool.false_eq_true, reduceIte]
    refine ⟨oM hG, isO_t hG iO0.2.2.1 iO0.1 hr ?_⟩
    simp only [if_true, if_false, Bool.false_eq_true, reduceIte]
    refine ⟨oM hG, in_t c3 ?_⟩
    simp only [if_true, if_false, Bool.false_eq_true, reduceIte]
    refine ⟨oM hG, 114, mP_g hG rfl, isA_g hG (by decide) rfl (vpN (by omega) (by omega)), ?_⟩
    rw [t2, tM, if_neg c4]
    exact hK _ hI
  exact judge_c (M0 := M) (x3 := nI n) (x4 := nI r) ⟨J, AF.rf nh M, hr, rfl, rfl⟩ ht (by omega) c4 fun M1 f1 => ⟨h1, h2, h3, h4, oM (f1.good hG), judge_m (M0 := M) ⟨J, f1, hr, rfl, rfl⟩ ht (by omega) (by rw [f1.2.2.2.2 _ _ (by omega)]; exact c4) fun M2 f2 => fin_ rfl (hK _ (J.af f2).inv)⟩
