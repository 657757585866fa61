/-! ===== price by the model; worse ===== -/
theorem price_m {M0 M : Mem} {ns nt nw no nh r : Nat} {cls : Nat → List Cl} {th : Option Nat} {oa kd vv : Nat → Nat} {X : Nat → Nat → Nat} {S : HS} (A : AK M0 M ns nt nw no nh r cls th oa kd vv X S) {x2 : Int32} {Q : Int32 → Mem → Prop} (q : ∀ M1, AF nh M0 M1 → Q (pzV (pzA M0 ns nh cls th oa kd vv r 21) x2) M1) : f_X12_price_L38 76 (nI r) x2 0 (-1) 0 (-1) (-5) 0 M Q := by
  obtain ⟨J, f, hr, hX', hS'⟩ := id A
  unfold f_X12_price_L38
  refine ⟨fun z => ∃ n N, n ≤ 21 ∧ z = ((pzA M0 ns nh cls th oa kd vv r n).1, enM (pzA M0 ns nh cls th oa kd vv r n).2.2.2.1, (pzA M0 ns nh cls th oa kd vv r n).2.1, (pzA M0 ns nh cls th oa kd vv r n).2.2.2.2, (pzA M0 ns nh cls th oa kd vv r n).2.2.1, nI n, N) ∧ AF nh M0 N ∧ pzB (pzA M0 ns nh cls th oa kd vv r n).2.2.2.1, fun z => 21 - z.2.2.2.2.2.1.toNatClampNeg, ⟨0, M, by omega, rfl, f, fun l e => by cases e⟩, ?_⟩
  rintro z ⟨n, N, hn, rfl, fN, hbn⟩
  have J1 := J.af fN
  have hG := J1.1
  have hs := pzA_s M0 ns nh cls th oa kd vv r n
  have hsome : n = 21 → ∃ l, (pzA M0 ns nh cls th oa kd vv r n).2.2.2.1 = some l := by
    rintro rfl
    exact pzG_some _ _ 20
  generalize hz : pzA M0 ns nh cls th oa kd vv r n = z at *
  obtain ⟨z1, z2, z3, z4, z5⟩ := z
  have hbn : pzB z4 := hbn
  show f_X12_price_B38 76 (nI r) x2 z1 (enM z4) z2 z5 z3 (nI n) N _ Q
  unfold f_X12_price_B38
  by_cases h20 : n ≤ 20
  case neg =>
    obtain rfl : n = 21 := by omega
    rw [if_pos (show (21 : Int32) ≤ nI 21 by decide)]
    rw [hz] at q
    have q := q N fN
    obtain ⟨l, hl⟩ := hsome rfl
    have hl : z4 = some l := hl
    subst hl
    exact pzV_st (Q := fun w => Q w N) q
  rw [if_neg (show ¬ (21 : Int32) ≤ nI n from nI_ge (b := 21) (by omega) (by omega))]
  have hmo := wMo_le (wcl cls th)
  refine ⟨oM hG, ?_⟩
  refine goZ_m (X := pzX M0 cls th oa kd vv r n) hG (wd_m J fN hr h20 (by omega)) (nI_add _ 0) (hnd_m J.2.2.2.2.1 J1.2.2.2.2.2.1.1 (fun a j q => fN.2.2.2.2 _ _ (by omega))) fun t M2 ht u2 e2 w2 s2 => ?_
  have f2 := fN.tr (u2.af nh)
  have hG2 := e2.1.1
  have hle := lost_le e2.2.2
  refine ⟨oM hG2, lost_m e2 ⟨oM hG2, pence_m e2 ?_⟩⟩
  change pzA M0 ns nh cls th oa kd vv r (n + 1) = pzN (aLo (pzX M0 cls th oa kd vv r n) (hPs (pzX M0 cls th oa kd vv r n) (wcl cls th) ns (hnd M0 nh))) (nI (aPe (hPs (pzX M0 cls th oa kd vv r n) (wcl cls th) ns (hnd M0 nh)))) n (z1, z2, z3, z4, z5) at hs
  generalize aLo (pzX M0 cls th oa kd vv r n) (hPs (pzX M0 cls th oa kd vv r n) (wcl cls th) ns (hnd M0 nh)) = lo at *
  generalize nI (aPe (hPs (pzX M0 cls th oa kd vv r n) (wcl cls th) ns (hnd M0 nh))) = pe at *
  have nx : ∀ y1 y2 y3 y4 y5, y1 = (if lsO lo z4 = true then nI n else z1) → y2 = (if pe ≤ z5 then z2 else nI n) → y3 = (if n = 0 then z3 else if pe = 0 then (if 0 ≤ z3 then z3 else nI n) else z3) → y4 = enM (if lsO lo z4 = true then some lo else z4) → y5 = (if pe ≤ z5 then z5 else pe) → (∃ n' N', n' ≤ 21 ∧ ((y1, y4, y2, y5, y3, nI n + 1, M2) : Int32 × Int32 × Int32 × Int32 × Int32 × Int32 × Mem) = ((pzA M0 ns nh cls th oa kd vv r n').1, enM (pzA M0 ns nh cls th oa kd vv r n').2.2.2.1, (pzA M0 ns nh cls th oa kd vv r n').2.1, (pzA M0 ns nh cls th oa kd vv r n').2.2.2.2, (pzA M0 ns nh cls th oa kd vv r n').2.2.1, nI n', N') ∧ AF nh M0 N' ∧ pzB (pzA M0 ns nh cls th oa kd vv r n').2.2.2.1) ∧ 21 - (nI n + 1).toNatClampNeg < 21 - (nI n).toNatClampNeg := by
    rintro y1 y2 y3 y4 y5 rfl rfl rfl rfl rfl
    refine ⟨⟨n + 1, M2, by omega, ?_, f2, ?_⟩, ?_⟩
    · rw [hs, nI_1]; rfl
    · rw [hs]; exact pzB_s hle hbn
    · rw [nI_1, nI_clamp (by omega), nI_clamp (by omega)]; omega
  have J100 : ∀ y1 y2 y4 y5, ∀ K : Int32 × Int32 × Int32 × Int32 × Int32 × Int32 × Mem → Prop, (∀ y3, y3 = (if n = 0 then z3 else if pe = 0 then (if 0 ≤ z3 then z3 else nI n) else z3) → K (y1, y4, y2, y5, y3, nI n + 1, M2)) → f_X12_price_J100 76 (nI r) x2 y1 y4 y2 y5 z3 (nI n) pe M2 K Q := by
    intro y1 y2 y4 y5 K hK
    unfold f_X12_price_J100 f_X12_price_J120 f_X12_price_J122
    by_cases c0 : n = 0
    · subst c0
      rw [if_pos (by decide)]
      exact hK _ (by rw [if_pos rfl])
    · rw [if_neg (nI_nle (by omega) (by omega))]
      by_cases c1 : pe = 0
      · rw [if_pos c1]
        by_cases c2 : 0 ≤ z3
        · rw [if_pos c2]; exact hK _ (by rw [if_neg c0, if_pos c1, if_pos c2])
        · rw [if_neg c2]; exact hK _ (by rw [if_neg c0, if_pos c1, if_neg c2])
      · rw [if_neg c1]; exact hK _ (by rw [if_neg c0, if_neg c1])
  have J85 : ∀ y1 y4, ∀ K : Int32 × Int32 × Int32 × Int32 × Int32 × Int32 × Mem → Prop, (∀ y2 y3 y5, y2 = (if pe ≤ z5 then z2 else nI n) → y3 = (if n = 0 then z3 else if pe = 0 then (if 0 ≤ z3 then z3 else nI n) else z3) → y5 = (if pe ≤ z5 then z5 else pe) → K (y1, y4, y2, y5, y3, nI n + 1, M2)) → f_X12_price_J85 76 (nI r) x2 y1 y4 z2 z5 z3 (nI n) pe M2 K Q := by
    intro y1 y4 K hK
    unfold f_X12_price_J85
    by_cases c : pe ≤ z5
    · rw [if_pos c]
      exact J100 y1 z2 y4 z5 K fun y3 i3 => hK _ _ _ (by rw [if_pos c]) i3 (by rw [if_pos c])
    · rw [if_neg c]
      exact J100 y1 (nI n) y4 pe K fun y3 i3 => hK _ _ _ (by rw [if_neg c]) i3 (by rw [if_neg c])
  unfold f_X12_price_J78
  by_cases cn : enM z4 < 0
  · rw [if_pos cn]
    have c : lsO lo z4 = true := by rw [(enM_neg hbn).mp cn]; rfl
    exact J85 (nI n) (nI lo) _ fun y2 y3 y5 i2 i3 i5 => nx _ _ _ _ _ (by rw [if_pos c]) i2 i3 (by rw [if_pos c]; rfl) i5
  · rw [if_neg cn]
    have hle' : enM z4 ≤ nI lo ↔ ¬ lsO lo z4 = true := by
      cases hz4 : z4 with
      | none => exact absurd ((enM_neg hbn).mpr hz4) cn
      | some l =>
        have := enC_le hle hbn
        rw [hz4] at this; exact this
    by_cases c : lsO lo z4 = true
    · rw [if_neg (fun h => hle'.mp h c)]
      exact J85 (nI n) (nI lo) _ fun y2 y3 y5 i2 i3 i5 => nx _ _ _ _ _ (by rw [if_pos c]) i2 i3 (by rw [if_pos c]; rfl) i5
    · rw [if_pos (hle'.mpr c)]
      exact J85 z1 (enM z4) _ fun y2 y3 y5 i2 i3 i5 => nx _ _ _ _ _ (by rw [if_neg c]) i2 i3 (by rw [if_neg c]) i5
theorem J648 {M : Mem} (hI : Inv M) {v3 : Int32} {xs : Nat → Int32} {L : Nat} {K : Mem → Prop} (h1 : vp_in (v3 + 1) L) (h2 : vp_in (v3 + 2) L) (hK : ∀ M', Inv M' → K M') : f_L_law_J648 0 76 v3 M xs L K := by
  obtain ⟨hG, ns, nt, nw, no, nh, cls, th, oa, kd, vv, J0⟩ := id hI; have J : Jn M ns nt nw no nh cls th oa kd vv := ⟨hG, J0⟩; obtain ⟨iS0, iQ0, iN0, iH0, iZ0, iW0, iD0, iO0, iA0, iI0, iT0⟩ := id J0
  unfold f_L_law_J648
  generalize xs (v3 + 1).toNatClampNeg = x1
  generalize xs (v3 + 2).toNatClampNeg = x2
  refine ⟨h1, h2, oQ hG, ?_⟩
  by_cases c1 : 0 ≤ x1.toInt ∧ x1.toInt < (no : Int)
  case neg =>
    unfold f_X11_price f_X12_price
    refine ⟨oQ hG, ordA_n hG iO0.2.1 iO0.1 (by omega) ⟨fun _ => ⟨h1, h2, oM hG, oM hG, isO_f hG iO0.2.2.1 iO0.1 (by omega) ?_⟩, fun b hb => by cases hb⟩⟩
    simp only [if_true, if_false, Bool.false_eq_true, reduceIte]
    exact hK _ hI
  obtain ⟨r, -, rfl, r1, r2⟩ := nI_ex c1.1; have hr : r < no := by omega
  by_cases c3 : 0 ≤ x2.toInt ∧ x2.toInt ≤ 4
  case neg =>
    unfold f_X11_price f_X12_price
    refine ⟨oQ hG, ordA_s hG iO0.2.1 iO0.1 hr (iO0.2.2.2.1 r hr).2.2.1.2.2.2 ⟨fun h => (by cases h), fun b hb => ?_⟩⟩; cases hb
    refine out_t (by simp only [Int32.reduceToInt]; omega) ?_
    simp only [if_true, if_false, Bool.false_eq_true, reduceIte]
    refine ⟨h1, h2, oM hG, ?_⟩
    refine ⟨oM hG, isO_t hG iO0.2.2.1 iO0.1 hr ?_⟩
    simp only [if_true, if_false, Bool.false_eq_true, reduceIte]
    refine ⟨oM hG, in_f (by simp only [Int32.reduceToInt]; omega) ?_⟩
    simp only [if_true, if_false, Bool.false_eq_true, reduceIte]
    exact hK _ hI
  unfold f_X11_price
  refine ⟨oQ hG, ordA_s hG iO0.2.1 iO0.1 hr (iO0.2.2.2.1 r hr).2.2.1.2.2.2 ⟨fun h => (by cases h), fun b hb => ?_⟩⟩; cases hb
  refine out_f c3 ?_
  simp only [if_true, if_false, Bool.false_eq_true, reduceIte]
  refine price_c (M0 := M) ⟨J, AF.rf nh M, hr, rfl, rfl⟩ fun M1 f1 => ⟨h1, h2, oM (f1.good hG), ?_⟩
  have J1 := J.af f1
  unfold f_X12_price
  refine ⟨oM (f1.good hG), isO_t (f1.good hG) J1.2.2.2.2.2.2.2.2.1.2.2.1 iO0.1 hr ?_⟩
  simp only [if_true, if_false, Bool.false_eq_true, reduceIte]
  refine ⟨oM (f1.good hG), in_t c3 ?_⟩
  simp only [if_true, if_false, Bool.false_eq_true, reduceIte]
  exact price_m (M0 := M) ⟨J, f1, hr, rfl, rfl⟩ fun M2 f2 => fin_ rfl (hK _ (J.af f2).inv)
/-- worse -/
theorem rC_fr {X : Nat → Nat → Nat} {S : HS} {M M1 : Mem} (r : rC X S M) (e : ∀ a j, 29 ≤ a ∧ a < 38 → mI M1 a j = mI M a j) : rC X S M1 := by
  obtain ⟨⟨r1, r2, r3, r4, r5⟩, r6, r7, r8⟩ := r
  refine ⟨⟨(e _ _ (by omega)).trans r1, (e _ _ (by omega)).trans r2, (e _ _ (by omega)).trans r3, (e _ _ (by omega)).trans r4, (e _ _ (by omega)).trans r5⟩, fun i hi => ?_, fun k x hx => ?_, fun l hl => ?_⟩
  · rw [e 30 _ (by omega), e 31 _ (by omega), e 32 _ (by omega), e 33 _ (by omega)]; exact r6 i hi
  · rw [e 35 _ (by omega), e 34 _ (by omega)]; exact r7 k x hx
  · rw [e 36 _ (by omega), e 37 _ (by omega)]
    obtain ⟨g1, g2, g3⟩ := r8 l hl
    exact ⟨g1, g2, fun i hi => by rw [e 34 _ (by omega)]; exact g3 i hi⟩
theorem eM_fr {X : Nat → Nat → Nat} {ns r : Nat} {cl : List Cl} {sk : Bool} {S : HS} {M M1 : Mem} (h : eM X ns r cl sk S M) (s : Sm M M1) (e : ∀ a j, ¬ a = 109 → mI M1 a j = mI M a j) : eM X ns r cl sk S M1 :=
  ⟨⟨s.good h.1.1, aM_fr h.1.2.1 (fun a j q => e a j (by omega)), (e _ _ (by omega)).trans h.1.2.2.1, (e _ _ (by omega)).trans h.1.2.2.2.1, (e _ _ (by omega)).trans h.1.2.2.2.2⟩, rM_fr h.2.1 h.2.2.2.1 (fun a j q => e a j (by omega)), h.2.2⟩
def pX (M0 : Mem) (cls : Nat → List Cl) (th : Option Nat) : Nat → Nat → Nat := oX M0 15 0 1 0 (wMo (wcl cls th)) (wcl cls th)
def pS (M0 : Mem) (ns nh : Nat) (cls : Nat → List Cl) (th : Option Nat) : HS := hPs (pX M0 cls th) (wcl cls th) ns (hnd M0 nh)
def wsG (p a : Nat → Int32) : Nat → Int32
  | 0 => 0
  | n + 1 => if a n ≤ p n then wsG p a n else wsG p a n ||| ((1 : Int32) <<< (nI n &&& 31))
theorem worse_c {M0 M : Mem} {ns nt nw no nh r : Nat} {cls : Nat → List Cl} {th : Option Nat} {oa kd vv : Nat → Nat} {X : Nat → Nat → Nat} {S : HS} (A : AK M0 M ns nt nw no nh r cls th oa kd vv X S) {Q : Int32 → Mem → Prop} (q : ∀ M1, AF nh M0 M1 → Q (wsG (fun s => nI (aLs (pX M0 cls th) (pS M0 ns nh cls th) s)) (fun s => nI (aLs X S s)) ns) M1) : f_X11_worse 0 (nI r) M Q := by
  obtain ⟨J, f, hr, hX', hS'⟩ := id A; have J1 := J.af f; have hG := J1.1; have iO0 : iO M no oa kd vv := J1.2.2.2.2.2.2.2.2.1; have iS0 : iS M ns := J1.2.1; have iH0 : iH M ns nh := J1.2.2.2.2.1
  have h6 := iS0.1
  have hmo := wMo_le (wcl cls th)
  unfold f_X11_worse
  refine ⟨oQ hG, ordA_s hG iO0.2.1 iO0.1 hr (iO0.2.2.2.1 r hr).2.2.1.2.2.2 ⟨fun h => (by cases h), fun b hb => ?_⟩⟩; cases hb
  have hw : iWD M nw cls th := ⟨J1.2.2.2.2.2.2.1, J1.2.2.2.2.2.2.2.1, J1.2.2.2.2.2.1⟩
  obtain ⟨w1, w2, w3, -⟩ := wa_C hw
  refine ⟨oQ hG, held_c hG hw ⟨_, rfl, wa_o hG hw, oQ hG, ?_⟩⟩
  rw [mP_g hG (show pvx 0 11 = some 17 from rfl), mP_g hG (show pvx 0 8 = some 15 from rfl), w2]
  refine goW_c (X := pX M0 cls th) hG hw iS0.2.1 (wp_c J f (by omega) (by omega)) (hnd_d J.2.2.2.2.1 (fun a j q => f.2.2.2.2 _ _ (by omega))) fun M2 p2 e2 => ?_
  have f2 := f.tr (p2.af nh)
  unfold f_X11_worse_L34
  refine ⟨fun z => ∃ k N, k ≤ ns ∧ z = (some (oa r), nI k, N) ∧ AF nh M0 N ∧ (∀ a j, ¬ a = 38 → mI N a j = mI M2 a j) ∧ Sm M2 N ∧ ∀ j, j < k → mI N 38 j = nI (aLs (pX M0 cls th) (pS M0 ns nh cls th) j), fun z => ns - z.2.1.toNatClampNeg, ⟨0, M2, by omega, rfl, f2, fun _ _ _ => rfl, Sm.rf M2, fun j hj => absurd hj (Nat.not_lt_zero _)⟩, ?_⟩
  rintro z ⟨k, N, hk, rfl, fN, eN, sN, oN⟩
  have J2 := J.af fN
  have hG2 := J2.1
  have eC2 : eC (pX M0 cls th) ns 15 (wa th) (wcl cls th) (pS M0 ns nh cls th) N := by
    obtain ⟨cc, rr, hf⟩ := e2
    refine ⟨?_, rC_fr rr (fun a j q => eN a j (by omega)), hf⟩
    obtain ⟨c1, c2, c3, c4, c5, c6, c7, c8, c9, c10, c11, c12⟩ := cc
    obtain ⟨d2, d3, d4, d5, d6, d7, d8⟩ := wp_c (p := 0) (m := wMo (wcl cls th)) J fN (by omega) (by omega)
    exact ⟨hG2, c2, d3, d4, d5, d6, d7, d8, by rw [sN.2.2.1]; exact c9, by rw [sN.2.2.1]; exact c10, (eN _ _ (by omega)).trans c11, (eN _ _ (by omega)).trans c12⟩
  show f_X11_worse_B34 0 (nI r) (some (oa r)) (nI k) N _ Q
  unfold f_X11_worse_B34
  refine ⟨oQ hG2, ?_⟩
  rw [J2.2.1.2.1]
  by_cases hkn : k < ns
  · rw [if_neg (nI_ge hkn (by omega))]
    refine ⟨29, mP_g hG2 rfl, oH hG2, loss_c eC2 hkn ⟨38, mP_g hG2 rfl, isA_g hG2 (by decide) rfl (vpN (by omega) (by omega)), ?_⟩⟩
    intro N2 hE
    rw [nI_clamp (by omega)] at hE
    refine ⟨⟨k + 1, N2, hkn, by rw [nI_1], ?_, fun a j c => by rw [hE, mI_ne _ _ (by omega)]; exact eN a j c, by rw [hE]; exact sN, fun j hj => ?_⟩, ?_⟩
    · rw [hE]; exact ⟨fN.1, fN.2.1, fN.2.2.1, fN.2.2.2.1, fun a j c => by rw [mI_ne _ _ (by omega)]; exact fN.2.2.2.2 a j c⟩
    · by_cases e : j = k
      · subst e; rw [hE, mI_sI_s]
      · rw [hE, mI_ne _ _ (by omega)]; exact oN j (by omega)
    · show ns - (nI k + 1).toNatClampNeg < ns - (nI k).toNatClampNeg
      rw [nI_1, nI_clamp (by omega), nI_clamp (by omega)]; omega
  obtain rfl : k = ns := by omega
  rw [if_pos (nI_le (Nat.le_refl _) (by omega))]
  refine ask_c J fN hr fun M3 f3 p3 e3 => ?_
  rw [hX', hS'] at e3
  have hG3 := e3.1.1
  have o3 : ∀ j, j < k → mI M3 38 j = nI (aLs (pX M0 cls th) (pS M0 k nh cls th) j) := fun j hj => (p3.2.2.2.2 _ _ (by omega)).trans (oN j hj)
  have J3 := J.af f3
  unfold f_X11_worse_L72
  refine ⟨fun z => ∃ i, i ≤ k ∧ z = (wsG (fun s => nI (aLs (pX M0 cls th) (pS M0 k nh cls th) s)) (fun s => nI (aLs X S s)) i, nI i, M3), fun z => k - z.2.1.toNatClampNeg, ⟨0, by omega, rfl⟩, ?_⟩
  rintro z ⟨i, hi, rfl⟩
  show f_X11_worse_B72 0 (nI r) (wsG (fun s => nI (aLs (pX M0 cls th) (pS M0 k nh cls th) s)) (fun s => nI (aLs X S s)) i) (nI i) M3 _ Q
  unfold f_X11_worse_B72 f_X11_worse_J107
  refine ⟨oQ hG3, ?_⟩
  rw [J3.2.1.2.1]
  by_cases hik : i < k
  · rw [if_neg (nI_ge hik (by omega))]
    refine ⟨29, mP_g hG3 rfl, oH hG3, loss_c e3 hik ⟨oQ hG3, 38, mP_g hG3 rfl, isA_g hG3 (by decide) rfl (vpN (by omega) (by omega)), ?_⟩⟩
    rw [nI_clamp (by omega), o3 i hik]
    have ms : k - (nI i + 1).toNatClampNeg < k - (nI i).toNatClampNeg := by rw [nI_1, nI_clamp (by omega), nI_clamp (by omega)]; omega
    by_cases c : nI (aLs X S i) ≤ nI (aLs (pX M0 cls th) (pS M0 k nh cls th) i)
    · rw [if_pos c]
      refine ⟨⟨i + 1, hik, ?_⟩, ms⟩
      have : wsG (fun s => nI (aLs (pX M0 cls th) (pS M0 k nh cls th) s)) (fun s => nI (aLs X S s)) (i + 1) = wsG (fun s => nI (aLs (pX M0 cls th) (pS M0 k nh cls th) s)) (fun s => nI (aLs X S s)) i := if_pos c
      rw [this, nI_1]
    · rw [if_neg c]
      refine ⟨⟨i + 1, hik, ?_⟩, ms⟩
      have : wsG (fun s => nI (aLs (pX M0 cls th) (pS M0 k nh cls th) s)) (fun s => nI (aLs X S s)) (i + 1) = wsG (fun s => nI (aLs (pX M0 cls th) (pS M0 k nh cls th) s)) (fun s => nI (aLs X S s)) i ||| ((1 : Int32) <<< (nI i &&& 31)) := if_neg c
      rw [this, nI_1]
  · obtain rfl : i = k := by omega
    rw [if_pos (nI_le (Nat.le_refl _) (by omega))]
    exact q M3 f3
