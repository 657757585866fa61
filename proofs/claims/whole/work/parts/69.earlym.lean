/-! ===== early by the model ===== -/
theorem AF.s38 {nh : Nat} {M0 N N2 : Mem} (f : AF nh M0 (sI N 76 38 0)) (s : Sm N N2) (e : ∀ a j, ¬ ((a = 76 ∧ 31 ≤ j ∧ j < 41) ∨ a = 93 ∨ (97 ≤ a ∧ a < 110) ∨ ((a = 82 ∨ a = 83) ∧ nh ≤ j)) → mI N2 a j = mI N a j) : AF nh M0 (sI N2 76 38 0) := by
  refine ⟨s.1.trans f.1, s.2.1.trans f.2.1, s.2.2.2.trans f.2.2.1, fun b j c => (congrFun (congrFun s.2.2.1 b) j).trans (f.2.2.2.1 b j c), fun a j c => ?_⟩
  by_cases z : a = 76 ∧ j = 38
  · obtain ⟨rfl, rfl⟩ := z
    have := f.2.2.2.2 76 38 (by omega)
    rw [mI_sI_s] at this ⊢; exact this
  · have := f.2.2.2.2 a j c
    rw [mI_ne _ _ z] at this ⊢
    rw [e a j (by omega)]; exact this
theorem early_ms {M0 M : Mem} {ns nt nw no nh r : Nat} {cls : Nat → List Cl} {th : Option Nat} {oa kd vv : Nat → Nat} {X : Nat → Nat → Nat} {S : HS} (A : AK M0 M ns nt nw no nh r cls th oa kd vv X S) {W : Nat → Int32} {s m : Nat} {x3 : Int32} {N : Mem} {K : Int32 × Int32 × Int32 × Mem → Prop} {Q : Int32 → Mem → Prop} (hW' : ∀ m, W m = erW (erS M0 ns nh cls th X s m)) (hs : s < ns) (h12 : nh < 12) (hm : m ≤ 60) (fN : AF nh M0 (sI N 76 38 0)) (h38 : mI N 76 38 = nI 1) (h82 : mI N 82 nh = nI s) (hK : m < 60 → ∀ z N', z = erG W (m + 1) → AF nh M0 (sI N' 76 38 0) → mI N' 76 38 = nI 1 → mI N' 82 nh = nI s → K (z.1, z.2, nI m + 1, N')) (q : m = 60 → ∀ N', AF nh M0 N' → Q (erV (erG W m) x3) N') : f_X12_early_B66 76 (nI r) (nI s) x3 (erG W m).1 (erG W m).2 (nI m) N K Q := by
  obtain ⟨J, f, hr, hX', hS'⟩ := id A
  have hH := J.2.2.2.2.1
  have J1 := J.af fN
  have hG : Good N := J1.1
  unfold f_X12_early_B66
  by_cases h60 : m < 60
  case neg =>
    have hm60 : m = 60 := by omega
    rw [if_pos (show (60 : Int32) ≤ nI m by rw [hm60]; decide)]
    refine ⟨oM hG, ?_⟩
    intro N3 hE
    have q := q hm60 N3 (by rw [hE]; exact fN)
    unfold erV at q
    by_cases c : x3 = 0
    · rw [if_pos c] at q ⊢; exact q
    · rw [if_neg c] at q ⊢; exact q
  rw [if_neg (show ¬ (60 : Int32) ≤ nI m from nI_ge (b := 60) h60 (by omega))]
  replace hK := hK h60
  have i0 : ∀ a j, ¬ (a = 76 ∧ j = 38) → mI (sI N 76 38 0) a j = mI N a j := fun a j c => mI_ne _ _ c
  have h1 : mI N 76 1 = nI nh := by
    rw [← i0 _ _ (by omega)]; exact J1.2.2.2.2.1.2.2.1
  refine ⟨oM hG, 83, mP_g hG rfl, ?_⟩
  rw [h1, nI_clamp (by omega)]
  refine ⟨isA_g hG (by decide) rfl (vpN (by omega) (by omega)), ?_⟩
  intro N2 hE
  have s2 : Sm N N2 := by rw [hE]; exact Sm.rf N
  have e2 : ∀ a j, ¬ (a = 83 ∧ j = nh) → mI N2 a j = mI N a j := fun a j c => by rw [hE, mI_ne _ _ c]
  have y2 : mI N2 83 nh = nI m := by rw [hE, mI_sI_s]
  clear hE
  have f2 : AF nh M0 (sI N2 76 38 0) := fN.s38 s2 (fun a j c => e2 a j (by omega))
  have J2 := J.af f2
  have hG2 : Good N2 := s2.good hG
  have i2 : ∀ a j, ¬ (a = 76 ∧ j = 38) → mI N2 a j = mI (sI N2 76 38 0) a j := fun a j c => (mI_ne _ _ c).symm
  have hE2 : iWE N2 nw cls th := ⟨iW_fr J2.2.2.2.2.2.2.1 (fun a j c => by unfold cW at c; exact i2 a j (by omega)), iD_fr J2.2.2.2.2.2.2.2.1 (fun a j c => by unfold cD at c; exact i2 a j (by omega))⟩
  subst hX'
  have hA : aM (aX M0 cls th oa kd vv r) ns r (wcl cls th) N2 := aM_fr (wd_m J f2 hr (wPr_le _) (Nat.le_trans (wMo_le _) (by omega))) (fun a j c => i2 a j (by omega))
  have hF : hM (hnd M0 nh ++ [(s, m)]) ns nh true N2 := by
    refine ⟨by rw [hnd1_len]; rfl, by rw [hnd1_len]; omega, by rw [e2 _ _ (by omega)]; exact h1, by rw [e2 _ _ (by omega)]; exact h38, fun k h hk => ?_⟩
    rcases hnd1_at hk with ⟨hk, hk2⟩ | ⟨rfl, rfl⟩
    · obtain ⟨-, rfl⟩ := hnd_at hk
      obtain ⟨n1, n2, n3, n4⟩ := hnd_n hH hk2
      obtain ⟨⟨d1, -⟩, d2, -⟩ := hH.2.2.2 k hk2
      refine ⟨⟨?_, ?_⟩, n3, n4⟩
      · rw [i2 _ _ (by omega), f2.2.2.2.2 _ _ (by omega), d1]; exact n1
      · rw [i2 _ _ (by omega), f2.2.2.2.2 _ _ (by omega), d2]; exact n2
    · exact ⟨⟨by rw [e2 _ _ (by omega)]; exact h82, y2⟩, hs, h60⟩
  refine goP_m hG2 hE2 hA rfl rfl hF fun t N3 ht u3 e3 w3 st3 => ?_
  have hG3 := e3.1.1
  have hb3 := eM_b e3
  have f3 : AF nh M0 (sI N3 76 38 0) := f2.s38 u3.1 (fun a j c => u3.2 a j (by omega))
  have n38 : mI N3 76 38 = nI 1 := by rw [u3.2 _ _ (by omega), e2 _ _ (by omega)]; exact h38
  have n82 : mI N3 82 nh = nI s := by rw [u3.2 _ _ (by omega), e2 _ _ (by omega)]; exact h82
  have fin := erG_st (K := fun z => z = erG W (m + 1)) W m rfl
  have J110 : f_X12_early_J110 76 (nI r) (nI s) x3 (erG W m).1 (erG W m).2 (nI m) (W m) N3 K Q := by
    unfold f_X12_early_J110 f_X12_early_J132 f_X12_early_J140
    by_cases k1 : W m < 0
    · rw [if_pos k1] at fin ⊢; exact hK _ _ fin f3 n38 n82
    rw [if_neg k1] at fin ⊢
    by_cases k2 : (erG W m).2 < 0
    · rw [if_pos k2] at fin ⊢; exact hK _ _ fin f3 n38 n82
    rw [if_neg k2] at fin ⊢
    by_cases k3 : (erG W m).2 ≤ W m
    · rw [if_pos k3] at fin
      rw [if_neg (by rw [i32_lt]; rw [i32_le] at k3; omega)]; exact hK _ _ fin f3 n38 n82
    · rw [if_neg k3] at fin
      rw [if_pos (by rw [i32_lt]; rw [i32_le] at k3; omega)]; exact hK _ _ fin f3 n38 n82
  have e40 := e3.2.1.1.2.2.2.2 rfl
  refine ⟨oM hG3, ?_⟩
  rw [e40]
  have hWm := hW' m
  have hv := hV_ps (aX M0 cls th oa kd vv r) (wcl cls th) ns (hnd M0 nh ++ [(s, m)])
  unfold hV at hv
  unfold erW erS at hWm
  cases hwt' : hwt (hPs (aX M0 cls th oa kd vv r) (wcl cls th) ns (hnd M0 nh ++ [(s, m)])) with
  | none =>
    rw [hwt'] at hWm
    rw [if_neg (show ¬ 0 ≤ wtI none by decide)]
    have hWm : W m = -5 := hWm
    rw [hWm] at J110
    exact J110
  | some i =>
    rw [hwt'] at hWm
    have hi := hv i hwt'
    have hWm : W m = aWt (hPs (aX M0 cls th oa kd vv r) (wcl cls th) ns (hnd M0 nh ++ [(s, m)])) i := hWm
    rw [if_pos (show 0 ≤ wtI (some i) from nI_pos' (by omega))]
    refine ⟨101, mP_g hG3 rfl, isA_g hG3 (by decide) rfl (show vp_in (nI i) 41 from vpN (by omega) (by omega)), ?_⟩
    rw [show (wtI (some i)).toNatClampNeg = i from nI_clamp (by omega), waitM e3 hi, ← hWm]
    exact J110
theorem early_m {M0 M : Mem} {ns nt nw no nh r : Nat} {cls : Nat → List Cl} {th : Option Nat} {oa kd vv : Nat → Nat} {X : Nat → Nat → Nat} {S : HS} (A : AK M0 M ns nt nw no nh r cls th oa kd vv X S) {M' : Mem} {s : Nat} {x3 : Int32} {Q : Int32 → Mem → Prop} (hs : s < ns) (h12 : nh < 12) (fM : AF nh M0 (sI M' 76 38 0)) (h38 : mI M' 76 38 = nI 1) (h82 : mI M' 82 nh = nI s) (q : ∀ M1, AF nh M0 M1 → Q (erV (erG (fun m => erW (erS M0 ns nh cls th X s m)) 60) x3) M1) : f_X12_early_L66 76 (nI r) (nI s) x3 (-5) (-5) 0 M' Q := by
  have hW' : ∀ m, (fun m => erW (erS M0 ns nh cls th X s m)) m = erW (erS M0 ns nh cls th X s m) := fun m => rfl
  generalize (fun m => erW (erS M0 ns nh cls th X s m)) = W at *
  unfold f_X12_early_L66
  refine ⟨fun z => ∃ m N, m ≤ 60 ∧ z = ((erG W m).1, (erG W m).2, nI m, N) ∧ AF nh M0 (sI N 76 38 0) ∧ mI N 76 38 = nI 1 ∧ mI N 82 nh = nI s, fun z => 60 - z.2.2.1.toNatClampNeg, ⟨0, M', by omega, rfl, fM, h38, h82⟩, ?_⟩
  rintro z ⟨m, N, hm, rfl, fN, k38, k82⟩
  refine early_ms A hW' hs h12 hm fN k38 k82 (fun h60 z N' hz f' g38 g82 => ⟨⟨m + 1, N', h60, by rw [hz, nI_1], f', g38, g82⟩, ?_⟩) (fun e N' f' => by subst e; exact q N' f')
  show 60 - (nI m + 1).toNatClampNeg < 60 - (nI m).toNatClampNeg
  rw [nI_1, nI_clamp (by omega), nI_clamp (by omega)]; omega
theorem J770 {M : Mem} (hI : Inv M) {v3 : Int32} {xs : Nat → Int32} {L : Nat} {K : Mem → Prop} (h1 : vp_in (v3 + 1) L) (h2 : vp_in (v3 + 2) L) (h3 : vp_in (v3 + 3) L) (hK : ∀ M', Inv M' → K M') : f_L_law_J770 0 76 v3 M xs L K := by
  obtain ⟨hG, ns, nt, nw, no, nh, cls, th, oa, kd, vv, J0⟩ := id hI; have J : Jn M ns nt nw no nh cls th oa kd vv := ⟨hG, J0⟩; obtain ⟨iS0, iQ0, iN0, iH0, iZ0, iW0, iD0, iO0, iA0, iI0, iT0⟩ := id J0
  unfold f_L_law_J770
  generalize xs (v3 + 1).toNatClampNeg = x1
  generalize xs (v3 + 2).toNatClampNeg = x2
  generalize xs (v3 + 3).toNatClampNeg = x3
  refine ⟨h1, h2, h3, oQ hG, ?_⟩
  unfold f_X11_early
  by_cases c1 : 0 ≤ x1.toInt ∧ x1.toInt < (no : Int)
  case neg =>
    unfold f_X12_early
    refine ⟨oQ hG, ordA_n hG iO0.2.1 iO0.1 (by omega) ⟨fun _ => ⟨h1, h2, h3, oM hG, oM hG, isO_f hG iO0.2.2.1 iO0.1 (by omega) ?_⟩, fun b hb => by cases hb⟩⟩
    simp only [if_true, if_false, Bool.false_eq_true, reduceIte]
    exact hK _ hI
  obtain ⟨r, -, rfl, r1, r2⟩ := nI_ex c1.1; have hr : r < no := by omega
  refine ⟨oQ hG, ordA_s hG iO0.2.1 iO0.1 hr (iO0.2.2.2.1 r hr).2.2.1.2.2.2 ⟨fun h => (by cases h), fun b hb => ?_⟩⟩; cases hb
  by_cases c2 : 0 ≤ x2.toInt ∧ x2.toInt < (ns : Int)
  case neg =>
    have c4 : x2.toInt < 0 ∨ (ns : Int) ≤ x2.toInt := by omega
    unfold f_X12_early
    refine ⟨oQ hG, noS_t hG iS0.2.1 iS0.1 c4 ?_⟩
    simp only [if_true, if_false, Bool.false_eq_true, reduceIte]
    refine ⟨h1, h2, h3, oM hG, ?_⟩
    refine ⟨oM hG, isO_t hG iO0.2.2.1 iO0.1 hr ?_⟩
    simp only [if_true, if_false, Bool.false_eq_true, reduceIte]
    refine ⟨oM hG, isS_f hG iS0.2.2.1 iS0.1 c4 ?_⟩
    simp only [if_true, if_false, Bool.false_eq_true, reduceIte]
    exact hK _ hI
  refine ⟨oQ hG, noS_f hG iS0.2.1 iS0.1 c2 ?_⟩
  simp only [if_true, if_false, Bool.false_eq_true, reduceIte]
  by_cases c3 : 0 ≤ x3.toInt ∧ x3.toInt ≤ 1
  case neg =>
    unfold f_X12_early
    refine out_t (by simp only [Int32.reduceToInt]; omega) ?_
    simp only [if_true, if_false, Bool.false_eq_true, reduceIte]
    refine ⟨h1, h2, h3, oM hG, ?_⟩
    refine ⟨oM hG, isO_t hG iO0.2.2.1 iO0.1 hr ?_⟩
    simp only [if_true, if_false, Bool.false_eq_true, reduceIte]
    refine ⟨oM hG, isS_t hG iS0.2.2.1 iS0.1 c2 ?_⟩
    simp only [if_true, if_false, Bool.false_eq_true, reduceIte]
    refine ⟨oM hG, in_f (by simp only [Int32.reduceToInt]; omega) ?_⟩
    simp only [if_true, if_false, Bool.false_eq_true, reduceIte]
    exact hK _ hI
  refine out_f c3 ?_
  simp only [if_true, if_false, Bool.false_eq_true, reduceIte]
  refine ⟨oQ hG, 17, mP_g hG rfl, day_o hG (Or.inl rfl), ?_⟩
  have h6 := iS0.1
  by_cases h12 : nh < 12
  case neg =>
    obtain rfl : nh = 12 := by have := iH0.1; omega
    unfold f_X12_early
    rw [iH0.2.1, if_neg (by decide)]
    refine ⟨h1, h2, h3, oM hG, ?_⟩
    refine ⟨oM hG, isO_t hG iO0.2.2.1 iO0.1 hr ?_⟩
    simp only [if_true, if_false, Bool.false_eq_true, reduceIte]
    refine ⟨oM hG, isS_t hG iS0.2.2.1 iS0.1 c2 ?_⟩
    simp only [if_true, if_false, Bool.false_eq_true, reduceIte]
    refine ⟨oM hG, in_t c3 ?_⟩
    simp only [if_true, if_false, Bool.false_eq_true, reduceIte]
    refine ⟨oM hG, ?_⟩
    rw [iH0.2.2.1, if_pos (by decide)]
    first | exact hK _ hI | exact fin_ rfl (hK _ hI)
  rw [iH0.2.1, if_pos (show nI nh < (12 : Int32) from nI_lt (b := 12) h12 (by omega))]
  obtain ⟨s, -, rfl, s1, s2⟩ := nI_ex c2.1
  have hs : s < ns := by omega
  refine early_c (M0 := M) ⟨J, AF.rf nh M, hr, rfl, rfl⟩ hs h12 fun M1 f1 => ?_
  have J1 := J.af f1
  have hG1 := J1.1
  have jO : iO M1 no oa kd vv := J1.2.2.2.2.2.2.2.2.1
  have jS : iS M1 ns := J1.2.1
  have jH : iH M1 ns nh := J1.2.2.2.2.1
  unfold f_X12_early
  refine ⟨h1, h2, h3, oM hG1, oM hG1, isO_t hG1 jO.2.2.1 jO.1 hr ?_⟩
  simp only [if_true, if_false, Bool.false_eq_true, reduceIte]
  refine ⟨oM hG1, isS_t hG1 jS.2.2.1 jS.1 c2 ?_⟩
  simp only [if_true, if_false, Bool.false_eq_true, reduceIte]
  refine ⟨oM hG1, in_t c3 ?_⟩
  simp only [if_true, if_false, Bool.false_eq_true, reduceIte]
  refine ⟨oM hG1, ?_⟩
  rw [jH.2.2.1, if_neg (show ¬ nI nh = (12 : Int32) from fun e => by have := (nI_eq (b := 12) (by omega) (by omega)).mp e; omega)]
  intro M2 hE2
  have z1 : mI M2 76 1 = nI nh := by rw [hE2, mI_ne _ _ (by omega)]; exact jH.2.2.1
  have hG2 : Good M2 := by rw [hE2]; exact hG1
  refine ⟨82, mP_g hG2 rfl, ?_⟩
  rw [z1, nI_clamp (by omega)]
  refine ⟨isA_g hG2 (by decide) rfl (vpN (by omega) (by omega)), ?_⟩
  intro M3 hE3
  have f3 : AF nh M (sI M3 76 38 0) := by
    refine ⟨by rw [hE3, hE2]; exact f1.1, by rw [hE3, hE2]; exact f1.2.1, by rw [hE3, hE2]; exact f1.2.2.1, by rw [hE3, hE2]; exact f1.2.2.2.1, fun a j c => ?_⟩
    by_cases z : a = 76 ∧ j = 38
    · obtain ⟨rfl, rfl⟩ := z
      rw [mI_sI_s]; exact iZ0.1.symm
    · rw [mI_ne _ _ z, hE3, mI_ne _ _ (by omega), hE2, mI_ne _ _ z]; exact f1.2.2.2.2 a j c
  exact early_m (M0 := M) (M := M1) ⟨J, f1, hr, rfl, rfl⟩ hs h12 f3 (by rw [hE3, mI_ne _ _ (by omega), hE2, mI_sI_s]; rfl) (by rw [hE3, mI_sI_s]) fun M4 f4 => fin_ rfl (hK _ (J.af f4).inv)
