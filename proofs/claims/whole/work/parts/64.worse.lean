/-! ===== worse by the model ===== -/
theorem worse_m {M0 M : Mem} {ns nt nw no nh r : Nat} {cls : Nat → List Cl} {th : Option Nat} {oa kd vv : Nat → Nat} {X : Nat → Nat → Nat} {S : HS} (A : AK M0 M ns nt nw no nh r cls th oa kd vv X S) {Q : Int32 → Mem → Prop} (q : ∀ M1, AF nh M0 M1 → Q (wsG (fun s => nI (aLs (pX M0 cls th) (pS M0 ns nh cls th) s)) (fun s => nI (aLs X S s)) ns) M1) : f_X12_worse 76 (nI r) M Q := by
  obtain ⟨J, f, hr, hX', hS'⟩ := id A; have J1 := J.af f; have hG := J1.1; have iO0 : iO M no oa kd vv := J1.2.2.2.2.2.2.2.2.1; have iS0 : iS M ns := J1.2.1; have iH0 : iH M ns nh := J1.2.2.2.2.1
  have h6 := iS0.1
  have hmo := wMo_le (wcl cls th)
  unfold f_X12_worse
  refine ⟨oM hG, isO_t hG iO0.2.2.1 iO0.1 hr ?_⟩
  simp only [if_true, if_false, Bool.false_eq_true, reduceIte]
  refine ⟨oM hG, askA_m A fun t M2 ht f2 e2 w2 st2 => ?_⟩
  unfold f_X12_worse_L17
  refine cnt ns (by omega) (fun k N => AF nh M0 N ∧ (∀ a j, ¬ a = 109 → mI N a j = mI M2 a j) ∧ Sm M2 N ∧ ∀ j, j < k → mI N 109 j = nI (aLs X S j)) ⟨f2, fun _ _ _ => rfl, Sm.rf M2, fun j hj => absurd hj (Nat.not_lt_zero _)⟩ ?_
  rintro K k N hk ⟨fN, eN, sN, oN⟩ hK
  have J2 := J.af fN
  have hG2 := J2.1
  have e3 := eM_fr e2 sN eN
  show f_X12_worse_B17 76 (nI r) (nI k) N K Q
  unfold f_X12_worse_B17
  refine ⟨oM hG2, ?_⟩
  rw [J2.2.1.2.2.1]
  by_cases hkn : k < ns
  · rw [if_neg (nI_ge hkn (by omega))]
    refine loss_m e3 hkn ⟨109, mP_g hG2 rfl, isA_g hG2 (by decide) rfl (vpN (by omega) (by omega)), ?_⟩
    intro N2 hE
    rw [nI_clamp (by omega)] at hE
    refine hK hkn N2 ⟨?_, fun a j c => by rw [hE, mI_ne _ _ (by omega)]; exact eN a j c, by rw [hE]; exact sN, fun j hj => ?_⟩
    · rw [hE]; exact ⟨fN.1, fN.2.1, fN.2.2.1, fN.2.2.2.1, fun a j c => by rw [mI_ne _ _ (by omega)]; exact fN.2.2.2.2 a j c⟩
    · by_cases e : j = k
      · subst e; rw [hE, mI_sI_s]
      · rw [hE, mI_ne _ _ (by omega)]; exact oN j (by omega)
  obtain rfl : k = ns := by omega
  rw [if_pos (nI_le (Nat.le_refl _) (by omega))]
  refine goZ_m (X := pX M0 cls th) (r := 10) hG2 (wp_m J fN (by omega) (by omega)) (nI_add _ 0) (hnd_m J.2.2.2.2.1 J2.2.2.2.2.2.1.1 (fun a j q => fN.2.2.2.2 _ _ (by omega))) fun t3 M3 ht3 u3 e3' w3 s3 => ?_
  have f3 := fN.tr (u3.af nh)
  have hG3 := f3.good J.1
  have J3 := J.af f3
  have o3 : ∀ j, j < k → mI M3 109 j = nI (aLs X S j) := fun j hj => (u3.2 _ _ (by omega)).trans (oN j hj)
  unfold f_X12_worse_L55
  refine ⟨fun z => ∃ i, i ≤ k ∧ z = (wsG (fun s => nI (aLs (pX M0 cls th) (pS M0 k nh cls th) s)) (fun s => nI (aLs X S s)) i, nI i, M3), fun z => k - z.2.1.toNatClampNeg, ⟨0, by omega, rfl⟩, ?_⟩
  rintro z ⟨i, hi, rfl⟩
  show f_X12_worse_B55 76 (nI r) (wsG (fun s => nI (aLs (pX M0 cls th) (pS M0 k nh cls th) s)) (fun s => nI (aLs X S s)) i) (nI i) M3 _ Q
  unfold f_X12_worse_B55 f_X12_worse_J85
  refine ⟨oM hG3, ?_⟩
  rw [J3.2.1.2.2.1]
  by_cases hik : i < k
  · rw [if_neg (nI_ge hik (by omega))]
    refine ⟨109, mP_g hG3 rfl, isA_g hG3 (by decide) rfl (vpN (by omega) (by omega)), loss_m e3' hik ?_⟩
    rw [nI_clamp (by omega), o3 i hik]
    have ms : k - (nI i + 1).toNatClampNeg < k - (nI i).toNatClampNeg := by rw [nI_1, nI_clamp (by omega), nI_clamp (by omega)]; omega
    by_cases c : nI (aLs X S i) ≤ nI (aLs (pX M0 cls th) (pS M0 k nh cls th) i)
    · have c' : nI (aLs X S i) ≤ nI (aLs (pX M0 cls th) (hPs (pX M0 cls th) (wcl cls th) k (hnd M0 nh)) i) := c
      rw [if_pos c', Int32.or_zero]
      refine ⟨⟨i + 1, hik, ?_⟩, ms⟩
      have : wsG (fun s => nI (aLs (pX M0 cls th) (pS M0 k nh cls th) s)) (fun s => nI (aLs X S s)) (i + 1) = wsG (fun s => nI (aLs (pX M0 cls th) (pS M0 k nh cls th) s)) (fun s => nI (aLs X S s)) i := if_pos c
      rw [this, nI_1]
    · have c' : ¬ nI (aLs X S i) ≤ nI (aLs (pX M0 cls th) (hPs (pX M0 cls th) (wcl cls th) k (hnd M0 nh)) i) := c
      rw [if_neg c']
      refine ⟨⟨i + 1, hik, ?_⟩, ms⟩
      have : wsG (fun s => nI (aLs (pX M0 cls th) (pS M0 k nh cls th) s)) (fun s => nI (aLs X S s)) (i + 1) = wsG (fun s => nI (aLs (pX M0 cls th) (pS M0 k nh cls th) s)) (fun s => nI (aLs X S s)) i ||| ((1 : Int32) <<< (nI i &&& 31)) := if_neg c
      rw [this, nI_1]
  · obtain rfl : i = k := by omega
    rw [if_pos (nI_le (Nat.le_refl _) (by omega))]
    exact q M3 f3
theorem J681 {M : Mem} (hI : Inv M) {v3 : Int32} {xs : Nat → Int32} {L : Nat} {K : Mem → Prop} (h1 : vp_in (v3 + 1) L) (hK : ∀ M', Inv M' → K M') : f_L_law_J681 0 76 v3 M xs L K := by
  obtain ⟨hG, ns, nt, nw, no, nh, cls, th, oa, kd, vv, J0⟩ := id hI; have J : Jn M ns nt nw no nh cls th oa kd vv := ⟨hG, J0⟩; obtain ⟨iS0, iQ0, iN0, iH0, iZ0, iW0, iD0, iO0, iA0, iI0, iT0⟩ := id J0
  unfold f_L_law_J681
  generalize xs (v3 + 1).toNatClampNeg = x1
  refine ⟨h1, oQ hG, ?_⟩
  by_cases c1 : 0 ≤ x1.toInt ∧ x1.toInt < (no : Int)
  case neg =>
    unfold f_X11_worse f_X12_worse
    refine ⟨oQ hG, ordA_n hG iO0.2.1 iO0.1 (by omega) ⟨fun _ => ⟨h1, oM hG, oM hG, isO_f hG iO0.2.2.1 iO0.1 (by omega) ?_⟩, fun b hb => by cases hb⟩⟩
    simp only [if_true, if_false, Bool.false_eq_true, reduceIte]
    exact hK _ hI
  obtain ⟨r, -, rfl, r1, r2⟩ := nI_ex c1.1; have hr : r < no := by omega
  exact worse_c (M0 := M) ⟨J, AF.rf nh M, hr, rfl, rfl⟩ fun M1 f1 => ⟨h1, oM (f1.good hG), worse_m (M0 := M) ⟨J, f1, hr, rfl, rfl⟩ fun M2 f2 => fin_ rfl (hK _ (J.af f2).inv)⟩
