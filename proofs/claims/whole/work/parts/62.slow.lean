/-! ===== slow, price, worse ===== -/
theorem slow_c {M0 M : Mem} {ns nt nw no nh r : Nat} {cls : Nat → List Cl} {th : Option Nat} {oa kd vv : Nat → Nat} {X : Nat → Nat → Nat} {S : HS} (A : AK M0 M ns nt nw no nh r cls th oa kd vv X S) {n : Nat} {Q : Int32 → Mem → Prop} (hn : 1 ≤ n ∧ n ≤ 9) (q : ∀ M1, AF nh M0 M1 → Q (nI (aPe (hPs (oX M0 (oa r) (kd r) (vv r) (wPr (wcl cls th)) (wMo (wcl cls th) + n) (wcl cls th)) (wcl cls th) ns (hnd M0 nh))) - nI (aPe S)) M1) : f_X11_slow 0 (nI r) (nI n) M Q := by
  obtain ⟨J, f, hr, hX', hS'⟩ := id A; have J1 := J.af f; have hG := J1.1; have iO0 : iO M no oa kd vv := J1.2.2.2.2.2.2.2.2.1; have iS0 : iS M ns := J1.2.1; have iH0 : iH M ns nh := J1.2.2.2.2.1
  unfold f_X11_slow
  refine ⟨oQ hG, ordA_s hG iO0.2.1 iO0.1 hr (iO0.2.2.2.1 r hr).2.2.1.2.2.2 ⟨fun h => (by cases h), fun b hb => ?_⟩⟩; cases hb
  have en := nI_toInt (n := n) (by omega)
  refine out_f (by simp only [Int32.reduceToInt]; omega) ?_
  simp only [if_true, if_false, Bool.false_eq_true, reduceIte]
  refine ⟨oQ hG, askA_c A fun M1 f1 e1 => ?_⟩
  have hG1 := e1.1.1
  have J2 := J.af f1
  have hw : iWD M1 nw cls th := ⟨J2.2.2.2.2.2.2.1, J2.2.2.2.2.2.2.2.1, J2.2.2.2.2.2.1⟩
  obtain ⟨w1, w2, w3, -⟩ := wa_C hw
  have hmo := wMo_le (wcl cls th)
  refine ⟨oQ hG1, 29, mP_g hG1 rfl, oH hG1, pence_c e1 ⟨oQ hG1, held_c hG1 hw ⟨_, rfl, wa_o hG1 hw, oQ hG1, held_c hG1 hw ⟨_, rfl, wa_o hG1 hw, oQ hG1, ?_⟩⟩⟩⟩
  rw [mP_g hG1 (show pvx 0 11 = some 17 from rfl), w1, w2, nI_add]
  exact goW_c (X := oX M0 (oa r) (kd r) (vv r) (wPr (wcl cls th)) (wMo (wcl cls th) + n) (wcl cls th)) hG1 hw J2.2.1.2.1 (wd_c J f1 hr (wPr_le _) (by omega)) (hnd_d J.2.2.2.2.1 (fun a j q => f1.2.2.2.2 _ _ (by omega))) fun M2 p2 e2 => ⟨oQ e2.1.1, 29, mP_g e2.1.1 rfl, oH e2.1.1, pence_c e2 (q M2 (f1.tr (p2.af nh)))⟩
theorem slow_m {M0 M : Mem} {ns nt nw no nh r : Nat} {cls : Nat → List Cl} {th : Option Nat} {oa kd vv : Nat → Nat} {X : Nat → Nat → Nat} {S : HS} (A : AK M0 M ns nt nw no nh r cls th oa kd vv X S) {n : Nat} {Q : Int32 → Mem → Prop} (hn : 1 ≤ n ∧ n ≤ 9) (q : ∀ M1, AF nh M0 M1 → Q (nI (aPe (hPs (oX M0 (oa r) (kd r) (vv r) (wPr (wcl cls th)) (wMo (wcl cls th) + n) (wcl cls th)) (wcl cls th) ns (hnd M0 nh))) - nI (aPe S)) M1) : f_X12_slow 76 (nI r) (nI n) M Q := by
  obtain ⟨J, f, hr, hX', hS'⟩ := id A; have J1 := J.af f; have hG := J1.1; have iO0 : iO M no oa kd vv := J1.2.2.2.2.2.2.2.2.1; have iS0 : iS M ns := J1.2.1; have iH0 : iH M ns nh := J1.2.2.2.2.1
  unfold f_X12_slow
  refine ⟨oM hG, isO_t hG iO0.2.2.1 iO0.1 hr ?_⟩
  simp only [if_true, if_false, Bool.false_eq_true, reduceIte]
  have en := nI_toInt (n := n) (by omega)
  refine ⟨oM hG, in_t (by simp only [Int32.reduceToInt]; omega) ?_⟩
  simp only [if_true, if_false, Bool.false_eq_true, reduceIte]
  refine ⟨oM hG, askA_m A fun t M1 ht f1 e1 w1 st1 => ?_⟩
  have hG1 := e1.1.1
  have J2 := J.af f1
  have hmo := wMo_le (wcl cls th)
  refine ⟨oM hG1, pence_m e1 ⟨oM hG1, told0 hG1 ⟨J2.2.2.2.2.2.2.1, J2.2.2.2.2.2.2.2.1⟩ ⟨oM hG1, ?_⟩⟩⟩
  exact goZ_m (X := oX M0 (oa r) (kd r) (vv r) (wPr (wcl cls th)) (wMo (wcl cls th) + n) (wcl cls th)) hG1 (wd_m J f1 hr (wPr_le _) (by omega)) (nI_add _ _) (hnd_m J.2.2.2.2.1 J2.2.2.2.2.2.1.1 (fun a j q => f1.2.2.2.2 _ _ (by omega))) fun t2 M2 ht2 u2 e2 w2 s2 => ⟨oM e2.1.1, pence_m e2 (q M2 (f1.tr (u2.af nh)))⟩
theorem J737 {M : Mem} (hI : Inv M) {v3 : Int32} {xs : Nat → Int32} {L : Nat} {K : Mem → Prop} (h1 : vp_in (v3 + 1) L) (h2 : vp_in (v3 + 2) L) (hK : ∀ M', Inv M' → K M') : f_L_law_J737 0 76 v3 M xs L K := by
  obtain ⟨hG, ns, nt, nw, no, nh, cls, th, oa, kd, vv, J0⟩ := id hI; have J : Jn M ns nt nw no nh cls th oa kd vv := ⟨hG, J0⟩; obtain ⟨iS0, iQ0, iN0, iH0, iZ0, iW0, iD0, iO0, iA0, iI0, iT0⟩ := id J0
  unfold f_L_law_J737
  generalize xs (v3 + 1).toNatClampNeg = x1
  generalize xs (v3 + 2).toNatClampNeg = x2
  refine ⟨h1, h2, oQ hG, ?_⟩
  by_cases c1 : 0 ≤ x1.toInt ∧ x1.toInt < (no : Int)
  case neg =>
    unfold f_X11_slow f_X12_slow
    refine ⟨oQ hG, ordA_n hG iO0.2.1 iO0.1 (by omega) ⟨fun _ => ⟨h1, h2, oM hG, oM hG, isO_f hG iO0.2.2.1 iO0.1 (by omega) ?_⟩, fun b hb => by cases hb⟩⟩
    simp only [if_true, if_false, Bool.false_eq_true, reduceIte]
    exact hK _ hI
  obtain ⟨r, -, rfl, r1, r2⟩ := nI_ex c1.1; have hr : r < no := by omega
  by_cases c3 : 1 ≤ x2.toInt ∧ x2.toInt ≤ 9
  case neg =>
    unfold f_X11_slow f_X12_slow
    refine ⟨oQ hG, ordA_s hG iO0.2.1 iO0.1 hr (iO0.2.2.2.1 r hr).2.2.1.2.2.2 ⟨fun h => (by cases h), fun b hb => ?_⟩⟩; cases hb
    refine out_t (by simp only [Int32.reduceToInt]; omega) ?_
    simp only [if_true, if_false, Bool.false_eq_true, reduceIte]
    refine ⟨h1, h2, oM hG, ?_⟩
    refine ⟨oM hG, isO_t hG iO0.2.2.1 iO0.1 hr ?_⟩
    simp only [if_true, if_false, Bool.false_eq_true, reduceIte]
    refine ⟨oM hG, in_f (by simp only [Int32.reduceToInt]; omega) ?_⟩
    simp only [if_true, if_false, Bool.false_eq_true, reduceIte]
    exact hK _ hI
  obtain ⟨n, -, rfl, n1, n2⟩ := nI_ex (x := x2) (by omega)
  exact slow_c (M0 := M) ⟨J, AF.rf nh M, hr, rfl, rfl⟩ (by omega) fun M1 f1 => ⟨h1, h2, oM (f1.good hG), slow_m (M0 := M) ⟨J, f1, hr, rfl, rfl⟩ (by omega) fun M2 f2 => fin_ rfl (hK _ (J.af f2).inv)⟩
/-- price: the prices gone through -/
abbrev PZ : Type := Int32 × Int32 × Int32 × Option Nat × Int32
def pzX (M0 : Mem) (cls : Nat → List Cl) (th : Option Nat) (oa kd vv : Nat → Nat) (r n : Nat) : Nat → Nat → Nat := oX M0 (oa r) (kd r) (vv r) n (wMo (wcl cls th)) (wcl cls th)
def pzS (M0 : Mem) (ns nh : Nat) (cls : Nat → List Cl) (th : Option Nat) (oa kd vv : Nat → Nat) (r n : Nat) : HS := hPs (pzX M0 cls th oa kd vv r n) (wcl cls th) ns (hnd M0 nh)
def lsO (lo : Nat) (o : Option Nat) : Bool := match o with
  | none => true
  | some l => decide (lo < l)
def pzN (lo : Nat) (pe : Int32) (n : Nat) (z : PZ) : PZ :=
  (if lsO lo z.2.2.2.1 = true then nI n else z.1, if pe ≤ z.2.2.2.2 then z.2.1 else nI n, if n = 0 then z.2.2.1 else if pe = 0 then (if 0 ≤ z.2.2.1 then z.2.2.1 else nI n) else z.2.2.1, if lsO lo z.2.2.2.1 = true then some lo else z.2.2.2.1, if pe ≤ z.2.2.2.2 then z.2.2.2.2 else pe)
def pzG (lo : Nat → Nat) (pe : Nat → Int32) : Nat → PZ
  | 0 => (0, 0, -5, none, -1)
  | n + 1 => pzN (lo n) (pe n) n (pzG lo pe n)
def enC (o : Option Nat) : Int32 := match o with
  | none => 2147483647
  | some l => nI l
def enM (o : Option Nat) : Int32 := match o with
  | none => -1
  | some l => nI l
def pzB (o : Option Nat) : Prop := ∀ l, o = some l → l ≤ 15300 * 40
theorem pzB_s {lo : Nat} {o : Option Nat} (hl : lo ≤ 15300 * 40) (ho : pzB o) : pzB (if lsO lo o = true then some lo else o) := by
  intro l e
  by_cases c : lsO lo o = true
  · rw [if_pos c] at e; injection e with e; omega
  · rw [if_neg c] at e; exact ho l e
theorem pzG_some (lo : Nat → Nat) (pe : Nat → Int32) (n : Nat) : ∃ l, (pzG lo pe (n + 1)).2.2.2.1 = some l := by
  show ∃ l, (if lsO (lo n) (pzG lo pe n).2.2.2.1 = true then some (lo n) else (pzG lo pe n).2.2.2.1) = some l
  by_cases c : lsO (lo n) (pzG lo pe n).2.2.2.1 = true
  · exact ⟨_, if_pos c⟩
  · rw [if_neg c]
    cases e : (pzG lo pe n).2.2.2.1 with
    | none => rw [e] at c; exact absurd rfl c
    | some l => exact ⟨l, rfl⟩
theorem enC_le {lo : Nat} {o : Option Nat} (hl : lo ≤ 15300 * 40) (ho : pzB o) : enC o ≤ nI lo ↔ ¬ lsO lo o = true := by
  cases o with
  | none =>
    constructor
    · intro h
      rw [i32_le, nI_toInt (by omega)] at h
      have : ((2147483647 : Int32)).toInt = 2147483647 := by decide
      unfold enC at h
      rw [this] at h; omega
    · intro h; exact absurd rfl h
  | some l =>
    have := ho l rfl
    unfold enC lsO
    rw [i32_le, nI_toInt (by omega), nI_toInt (by omega), decide_eq_true_eq]; omega
theorem enM_neg {o : Option Nat} (ho : pzB o) : enM o < 0 ↔ o = none := by
  cases o with
  | none => exact ⟨fun _ => rfl, fun _ => by decide⟩
  | some l =>
    have := ho l rfl
    exact ⟨fun h => absurd h (nI_pos (by omega)), fun h => by cases h⟩
def pzV (z : PZ) (x2 : Int32) : Int32 := if x2 = 0 then z.1 else if x2 = 1 then z.2.1 else if x2 = 2 then z.2.2.1 else if x2 = 3 then enC z.2.2.2.1 else z.2.2.2.2
theorem pzV_st {z1 z2 z3 z5 x2 : Int32} {z4 : Option Nat} {Q : Int32 → Prop} (q : Q (pzV (z1, z2, z3, z4, z5) x2)) : if x2 = 0 then Q z1 else if x2 = 1 then Q z2 else if x2 = 2 then Q z3 else if x2 = 3 then Q (enC z4) else Q z5 := by
  unfold pzV at q
  by_cases c0 : x2 = 0
  · rw [if_pos c0] at q ⊢; exact q
  rw [if_neg c0] at q ⊢
  by_cases c1 : x2 = 1
  · rw [if_pos c1] at q ⊢; exact q
  rw [if_neg c1] at q ⊢
  by_cases c2 : x2 = 2
  · rw [if_pos c2] at q ⊢; exact q
  rw [if_neg c2] at q ⊢
  by_cases c3 : x2 = 3
  · rw [if_pos c3] at q ⊢; exact q
  rw [if_neg c3] at q ⊢; exact q
def pzA (M0 : Mem) (ns nh : Nat) (cls : Nat → List Cl) (th : Option Nat) (oa kd vv : Nat → Nat) (r : Nat) : Nat → PZ := pzG (fun n => aLo (pzX M0 cls th oa kd vv r n) (pzS M0 ns nh cls th oa kd vv r n)) (fun n => nI (aPe (pzS M0 ns nh cls th oa kd vv r n)))
theorem pzA_s (M0 : Mem) (ns nh : Nat) (cls : Nat → List Cl) (th : Option Nat) (oa kd vv : Nat → Nat) (r n : Nat) : pzA M0 ns nh cls th oa kd vv r (n + 1) = pzN (aLo (pzX M0 cls th oa kd vv r n) (pzS M0 ns nh cls th oa kd vv r n)) (nI (aPe (pzS M0 ns nh cls th oa kd vv r n))) n (pzA M0 ns nh cls th oa kd vv r n) := rfl
theorem price_c {M0 M : Mem} {ns nt nw no nh r : Nat} {cls : Nat → List Cl} {th : Option Nat} {oa kd vv : Nat → Nat} {X : Nat → Nat → Nat} {S : HS} (A : AK M0 M ns nt nw no nh r cls th oa kd vv X S) {x2 : Int32} {Q : Int32 → Mem → Prop} (q : ∀ M1, AF nh M0 M1 → Q (pzV (pzA M0 ns nh cls th oa kd vv r 21) x2) M1) : f_X11_price_L41 0 (nI r) x2 (some (oa r)) 0 0 (-5) 2147483647 (-1) 0 M Q := by
  obtain ⟨J, f, hr, hX', hS'⟩ := id A
  unfold f_X11_price_L41
  refine ⟨fun z => ∃ n N, n ≤ 21 ∧ z = (some (oa r), (pzA M0 ns nh cls th oa kd vv r n).1, (pzA M0 ns nh cls th oa kd vv r n).2.1, (pzA M0 ns nh cls th oa kd vv r n).2.2.1, enC (pzA M0 ns nh cls th oa kd vv r n).2.2.2.1, (pzA M0 ns nh cls th oa kd vv r n).2.2.2.2, nI n, N) ∧ AF nh M0 N ∧ pzB (pzA M0 ns nh cls th oa kd vv r n).2.2.2.1, fun z => 21 - z.2.2.2.2.2.2.1.toNatClampNeg, ⟨0, M, by omega, rfl, f, fun l e => by cases e⟩, ?_⟩
  rintro z ⟨n, N, hn, rfl, fN, hbn⟩
  have J1 := J.af fN
  have hG := J1.1
  have hs := pzA_s M0 ns nh cls th oa kd vv r n
  generalize hz : pzA M0 ns nh cls th oa kd vv r n = z at *
  obtain ⟨z1, z2, z3, z4, z5⟩ := z
  show f_X11_price_B41 0 (nI r) x2 (some (oa r)) z1 z2 z3 (enC z4) z5 (nI n) N _ Q
  unfold f_X11_price_B41
  by_cases h20 : n ≤ 20
  case neg =>
    obtain rfl : n = 21 := by omega
    rw [if_pos (show (20 : Int32) < nI 21 by decide)]
    rw [hz] at q
    have q := q N fN
    exact pzV_st (Q := fun w => Q w N) q
  rw [if_neg (show ¬ (20 : Int32) < nI n from nI_nlt (a := 20) h20 (by omega))]
  have hw : iWD N nw cls th := ⟨J1.2.2.2.2.2.2.1, J1.2.2.2.2.2.2.2.1, J1.2.2.2.2.2.1⟩
  obtain ⟨w1, w2, w3, -⟩ := wa_C hw
  have hmo := wMo_le (wcl cls th)
  refine ⟨oQ hG, held_c hG hw ⟨_, rfl, wa_o hG hw, oQ hG, ?_⟩⟩
  rw [mP_g hG (show pvx 0 11 = some 17 from rfl), w2]
  refine goW_c (X := pzX M0 cls th oa kd vv r n) hG hw J1.2.1.2.1 (wd_c J fN hr h20 (by omega)) (hnd_d J.2.2.2.2.1 (fun a j q => fN.2.2.2.2 _ _ (by omega))) fun M2 p2 e2 => ?_
  have f2 := fN.tr (p2.af nh)
  have hG2 := e2.1.1
  have hle := lost_le e2.2.2
  refine ⟨oQ hG2, 29, mP_g hG2 rfl, oH hG2, lost_c e2 ⟨oQ hG2, 29, mP_g hG2 rfl, oH hG2, pence_c e2 ?_⟩⟩
  change pzA M0 ns nh cls th oa kd vv r (n + 1) = pzN (aLo (pzX M0 cls th oa kd vv r n) (hPs (pzX M0 cls th oa kd vv r n) (wcl cls th) ns (hnd M0 nh))) (nI (aPe (hPs (pzX M0 cls th oa kd vv r n) (wcl cls th) ns (hnd M0 nh)))) n (z1, z2, z3, z4, z5) at hs
  generalize aLo (pzX M0 cls th oa kd vv r n) (hPs (pzX M0 cls th oa kd vv r n) (wcl cls th) ns (hnd M0 nh)) = lo at *
  generalize nI (aPe (hPs (pzX M0 cls th oa kd vv r n) (wcl cls th) ns (hnd M0 nh))) = pe at *
  -- the next round
  have nx : ∀ y1 y2 y3 y4 y5, y1 = (if lsO lo z4 = true then nI n else z1) → y2 = (if pe ≤ z5 then z2 else nI n) → y3 = (if n = 0 then z3 else if pe = 0 then (if 0 ≤ z3 then z3 else nI n) else z3) → y4 = enC (if lsO lo z4 = true then some lo else z4) → y5 = (if pe ≤ z5 then z5 else pe) → (∃ n' N', n' ≤ 21 ∧ ((some (oa r), y1, y2, y3, y4, y5, nI n + 1, M2) : (Option Nat) × Int32 × Int32 × Int32 × Int32 × Int32 × Int32 × Mem) = (some (oa r), (pzA M0 ns nh cls th oa kd vv r n').1, (pzA M0 ns nh cls th oa kd vv r n').2.1, (pzA M0 ns nh cls th oa kd vv r n').2.2.1, enC (pzA M0 ns nh cls th oa kd vv r n').2.2.2.1, (pzA M0 ns nh cls th oa kd vv r n').2.2.2.2, nI n', N') ∧ AF nh M0 N' ∧ pzB (pzA M0 ns nh cls th oa kd vv r n').2.2.2.1) ∧ 21 - (nI n + 1).toNatClampNeg < 21 - (nI n).toNatClampNeg := by
    rintro y1 y2 y3 y4 y5 rfl rfl rfl rfl rfl
    refine ⟨⟨n + 1, M2, by omega, ?_, f2, ?_⟩, ?_⟩
    · rw [hs, nI_1]; rfl
    · rw [hs]; exact pzB_s hle hbn
    · rw [nI_1, nI_clamp (by omega), nI_clamp (by omega)]; omega
  have J114 : ∀ y1 y2 y4 y5, y1 = (if lsO lo z4 = true then nI n else z1) → y2 = (if pe ≤ z5 then z2 else nI n) → y4 = enC (if lsO lo z4 = true then some lo else z4) → y5 = (if pe ≤ z5 then z5 else pe) → ∀ K : (Option Nat) × Int32 × Int32 × Int32 × Int32 × Int32 × Int32 × Mem → Prop, (∀ y3, y3 = (if n = 0 then z3 else if pe = 0 then (if 0 ≤ z3 then z3 else nI n) else z3) → K (some (oa r), y1, y2, y3, y4, y5, nI n + 1, M2)) → f_X11_price_J114 0 (nI r) x2 (some (oa r)) y1 y2 z3 y4 y5 (nI n) pe M2 K Q := by
    intro y1 y2 y4 y5 _ _ _ _ K hK
    unfold f_X11_price_J114 f_X11_price_J134
    by_cases c0 : n = 0
    · subst c0
      rw [if_pos (by decide)]
      exact hK _ (by rw [if_pos rfl])
    · rw [if_neg (show ¬ nI n < (1 : Int32) from nI_nlt (b := 1) (by omega) (by omega))]
      by_cases c1 : pe = 0
      · rw [if_pos c1]
        by_cases c2 : 0 ≤ z3
        · rw [if_pos c2]; exact hK _ (by rw [if_neg c0, if_pos c1, if_pos c2])
        · rw [if_neg c2]; exact hK _ (by rw [if_neg c0, if_pos c1, if_neg c2])
      · rw [if_neg c1]; exact hK _ (by rw [if_neg c0, if_neg c1])
  have J99 : ∀ y1 y4, y1 = (if lsO lo z4 = true then nI n else z1) → y4 = enC (if lsO lo z4 = true then some lo else z4) → ∀ K : (Option Nat) × Int32 × Int32 × Int32 × Int32 × Int32 × Int32 × Mem → Prop, (∀ y2 y3 y5, y2 = (if pe ≤ z5 then z2 else nI n) → y3 = (if n = 0 then z3 else if pe = 0 then (if 0 ≤ z3 then z3 else nI n) else z3) → y5 = (if pe ≤ z5 then z5 else pe) → K (some (oa r), y1, y2, y3, y4, y5, nI n + 1, M2)) → f_X11_price_J99 0 (nI r) x2 (some (oa r)) y1 z2 z3 y4 z5 (nI n) pe M2 K Q := by
    intro y1 y4 i1 i4 K hK
    unfold f_X11_price_J99
    by_cases c : pe ≤ z5
    · rw [if_pos c]
      exact J114 y1 z2 y4 z5 i1 (by rw [if_pos c]) i4 (by rw [if_pos c]) K fun y3 i3 => hK _ _ _ (by rw [if_pos c]) i3 (by rw [if_pos c])
    · rw [if_neg c]
      exact J114 y1 (nI n) y4 pe i1 (by rw [if_neg c]) i4 (by rw [if_neg c]) K fun y3 i3 => hK _ _ _ (by rw [if_neg c]) i3 (by rw [if_neg c])
  by_cases c : lsO lo z4 = true
  · rw [if_neg (fun h => (enC_le hle hbn).mp h c)]
    exact J99 (nI n) (nI lo) (by rw [if_pos c]) (by rw [if_pos c]; rfl) _ fun y2 y3 y5 i2 i3 i5 => nx _ _ _ _ _ (by rw [if_pos c]) i2 i3 (by rw [if_pos c]; rfl) i5
  · rw [if_pos ((enC_le hle hbn).mpr c)]
    exact J99 z1 (enC z4) (by rw [if_neg c]) (by rw [if_neg c]) _ fun y2 y3 y5 i2 i3 i5 => nx _ _ _ _ _ (by rw [if_neg c]) i2 i3 (by rw [if_neg c]) i5
