/-! ===== row, taken ===== -/
theorem kc_9 {k : Nat} (h : k ≤ 6) : kc k = 9 ↔ k = 6 := by
  rcases seven h with rfl | rfl | rfl | rfl | rfl | rfl | rfl <;> decide
theorem row_fin {M M2 : Mem} {ns nt nw no nh r i : Nat} {cls : Nat → List Cl} {th : Option Nat} {oa kd vv : Nat → Nat} {n : Int32} (J : Jn M ns nt nw no nh cls th oa kd vv) (hr : r < no) (hi : i < 10) (h6 : kd r = 6) (hn : rg n (-1) 2) (s : Sm M M2) (a1 : mI M2 (oa r + 2) i = n) (a2 : mI M2 96 (10 * r + i) = n) (e : ∀ a j, ¬ (a = oa r + 2 ∧ j = i ∨ a = 96 ∧ j = 10 * r + i) → mI M2 a j = mI M a j) : Inv M2 := by
  obtain ⟨hG, iS0, iQ0, iN0, iH0, iZ0, iW0, iD0, iO0, iA0, iI0, iT0⟩ := J
  obtain ⟨g1, g2, g3, g4, g5⟩ := id iO0
  have hb := (g4 r hr).2.1.1
  refine ⟨s.good hG, ns, nt, nw, no, nh, cls, th, oa, kd, vv, iS_fr iS0 ?_, iQ_fr iQ0 ?_, iN_fr iN0 ?_, iH_fr iH0 ?_, iZ_fr iZ0 ?_, iW_fr iW0 ?_, iD_fr iD0 ?_, ⟨g1, (e _ _ (by omega)).trans g2, (e _ _ (by omega)).trans g3, fun q hq => ?_, g5⟩, ?_, iI_fr iI0 ?_, iT_fr iT0 (fun a j c => by rw [s.2.2.2]) ?_⟩
  · intro a j q; unfold cS at q; exact e a j (by omega)
  · intro a j q; unfold cQ at q; exact e a j (by omega)
  · intro a j q; unfold cN at q; exact e a j (by omega)
  · intro a j q; unfold cH at q; exact e a j (by omega)
  · intro a j q; unfold cZ at q; exact e a j (by omega)
  · intro a j q; unfold cW at q; exact e a j (by omega)
  · intro a j q; unfold cD at q; exact e a j (by omega)
  · have hbq := (g4 q hq).2.1.1
    by_cases eq : q = r
    · subst eq
      obtain ⟨k1, k2, k3, k4, k5⟩ := g4 q hq
      obtain ⟨l1, l2, l3⟩ := k5 h6
      refine ⟨k1, by rw [s.1]; exact k2, by rw [s.2.1, s.2.2.1]; exact k3, ?_, fun _ => ⟨by rw [s.2.1]; exact l1, by rw [s.2.2.1]; exact l2, fun j hj => ?_⟩⟩
      · rw [e _ _ (by omega), e _ _ (by omega), e _ _ (by omega), e _ _ (by omega)]; exact k4
      · by_cases ej : j = i
        · subst ej; rw [a1, a2]; exact ⟨rfl, hn⟩
        · rw [e _ _ (by omega), e _ _ (by omega)]; exact l3 j hj
    · refine oK_fr (g4 q hq) (by rw [s.1]; omega) (fun b _ _ => by rw [s.2.1]) (fun b j _ => by rw [s.2.2.1]) (fun b j z => e b j ?_)
      have o6 := ow_6 h6
      have oq := ow_2 (kd q)
      rcases iO_sep iO0 hq hr eq with w | w
      · rcases z with z | z | z | z | ⟨z6, z⟩
        · omega
        · omega
        · omega
        · omega
        · rw [ow_6 z6] at w; omega
      · rcases z with z | z | z | z | ⟨z6, z⟩
        · omega
        · omega
        · omega
        · omega
        · omega
  · rcases iA0 with ⟨z1, z2⟩ | ⟨q, m, z1, z2, z3, z4, z5, z6⟩
    · exact Or.inl ⟨by rw [s.2.2.1]; exact z1, (e _ _ (by omega)).trans z2⟩
    · have hbq := (g4 q z1).2.1.1
      have oq := ow_2 (kd q)
      have o6 := ow_6 h6
      have ne : oa q ≠ oa r + 2 ∧ oa q + 1 ≠ oa r + 2 := by
        by_cases eq : q = r
        · subst eq; omega
        · rcases iO_sep iO0 z1 hr eq with w | w <;> omega
      refine Or.inr ⟨q, m, z1, z2, by rw [s.2.2.1]; exact z3, (e _ _ (by omega)).trans z4, (e _ _ (by omega)).trans z5, fun j hj => ?_⟩
      rw [e 113 j (by omega), e (oa q + 1) j (by omega)]; exact z6 j hj
  · intro a j q; unfold cI at q; exact e a j (by omega)
  · intro a j q; unfold cT at q; exact e a j (by omega)
theorem J443 {M : Mem} (hI : Inv M) {v3 : Int32} {xs : Nat → Int32} {L : Nat} {K : Mem → Prop} (h1 : vp_in (v3 + 1) L) (h2 : vp_in (v3 + 2) L) (h3 : vp_in (v3 + 3) L) (hK : ∀ M', Inv M' → K M') : f_L_law_J443 0 76 v3 M xs L K := by
  obtain ⟨hG, ns, nt, nw, no, nh, cls, th, oa, kd, vv, J0⟩ := id hI; have J : Jn M ns nt nw no nh cls th oa kd vv := ⟨hG, J0⟩; obtain ⟨iS0, iQ0, iN0, iH0, iZ0, iW0, iD0, iO0, iA0, iI0, iT0⟩ := id J0
  unfold f_L_law_J443
  generalize xs (v3 + 1).toNatClampNeg = x1
  generalize xs (v3 + 2).toNatClampNeg = x2
  generalize xs (v3 + 3).toNatClampNeg = x3
  refine ⟨h1, h2, h3, oQ hG, ?_⟩
  unfold f_X11_row f_X12_row
  by_cases c1 : 0 ≤ x1.toInt ∧ x1.toInt < (no : Int)
  case neg =>
    refine ⟨oQ hG, ordA_n hG iO0.2.1 iO0.1 (by omega) ⟨fun _ => ⟨h1, h2, h3, oM hG, oM hG, isO_f hG iO0.2.2.1 iO0.1 (by omega) ?_⟩, fun b hb => by cases hb⟩⟩
    simp only [if_true, if_false, Bool.false_eq_true, reduceIte]
    exact hK _ hI
  obtain ⟨r, -, rfl, r1, r2⟩ := nI_ex c1.1; have hr : r < no := by omega
  refine ⟨oQ hG, ordA_s hG iO0.2.1 iO0.1 hr (iO0.2.2.2.1 r hr).2.2.1.2.2.2 ⟨fun h => (by cases h), fun b hb => ?_⟩⟩; cases hb
  have hok := iO0.2.2.2.1 r hr
  have h10 := iO0.1
  by_cases c2 : 0 ≤ x2.toInt ∧ x2.toInt ≤ 9
  case neg =>
    refine out_t (by simp only [Int32.reduceToInt]; omega) ?_
    simp only [if_true, if_false, Bool.false_eq_true, reduceIte]
    refine ⟨h1, h2, h3, oM hG, oM hG, isO_t hG iO0.2.2.1 iO0.1 hr ?_⟩
    simp only [if_true, if_false, Bool.false_eq_true, reduceIte]
    refine ⟨oM hG, in_f (by simp only [Int32.reduceToInt]; omega) ?_⟩
    simp only [if_true, if_false, Bool.false_eq_true, reduceIte]
    exact hK _ hI
  refine out_f c2 ?_
  simp only [if_true, if_false, Bool.false_eq_true, reduceIte]
  by_cases c3 : -1 ≤ x3.toInt ∧ x3.toInt ≤ 2
  case neg =>
    refine out_t (by simp only [Int32.reduceToInt]; omega) ?_
    simp only [if_true, if_false, Bool.false_eq_true, reduceIte]
    refine ⟨h1, h2, h3, oM hG, oM hG, isO_t hG iO0.2.2.1 iO0.1 hr ?_⟩
    simp only [if_true, if_false, Bool.false_eq_true, reduceIte]
    refine ⟨oM hG, in_t c2 ?_⟩
    simp only [if_true, if_false, Bool.false_eq_true, reduceIte]
    refine ⟨oM hG, in_f (by simp only [Int32.reduceToInt]; omega) ?_⟩
    simp only [if_true, if_false, Bool.false_eq_true, reduceIte]
    exact hK _ hI
  refine out_f c3 ?_
  simp only [if_true, if_false, Bool.false_eq_true, reduceIte]
  refine ⟨oAnyK hok, ?_⟩
  by_cases h6 : kd r = 6
  case neg =>
    have hn : ¬ isO M (oa r) [9] := by
      rintro ⟨ci, hc, hs⟩
      rw [List.mem_singleton.mp hc, hok.2.2.1.1] at hs
      injection hs with hs
      exact h6 ((kc_9 hok.1.1).mp hs)
    refine ⟨fun h => absurd h hn, fun _ => ⟨h1, h2, h3, oM hG, oM hG, isO_t hG iO0.2.2.1 iO0.1 hr ?_⟩⟩
    simp only [if_true, if_false, Bool.false_eq_true, reduceIte]
    refine ⟨oM hG, in_t c2 ?_⟩
    simp only [if_true, if_false, Bool.false_eq_true, reduceIte]
    refine ⟨oM hG, in_t c3 ?_⟩
    simp only [if_true, if_false, Bool.false_eq_true, reduceIte]
    refine ⟨oM hG, 94, mP_g hG rfl, isA_g hG (by decide) rfl (vpN (by omega) (by omega)), ?_⟩
    rw [r2, hok.2.2.2.1.2.2.1, if_neg (show ¬ nI (kd r) = (6 : Int32) from fun e => h6 ((nI_eq (b := 6) (by have := hok.1.1; omega) (by omega)).mp e))]
    exact hK _ hI
  have y9 : isO M (oa r) [9] := ⟨9, List.mem_singleton.mpr rfl, by rw [hok.2.2.1.1, (kc_9 hok.1.1).mpr h6]⟩
  refine ⟨fun _ => ?_, fun h => absurd y9 h⟩
  obtain ⟨i, -, rfl, i1, i2⟩ := nI_ex c2.1
  have hi : i < 10 := by omega
  obtain ⟨l1, l2, l3⟩ := hok.2.2.2.2 h6
  obtain ⟨l4, l5⟩ := l3 i hi
  have vA : isA M (oa r + 2) 0 (nI i) := ⟨10, l1, vpN hi (by omega)⟩
  have hb := hok.2.1.1
  refine ⟨oa r + 2, l2, vA, vA, ?_⟩
  intro M2 hE
  rw [i2] at hE
  have s2 : Sm M M2 := by rw [hE]; exact Sm.rf M
  have hG2 := s2.good hG
  have e2 : ∀ a j, ¬ (a = oa r + 2 ∧ j = i) → mI M2 a j = mI M a j := fun a j c => by rw [hE, mI_ne _ _ c]
  have y2 : mI M2 (oa r + 2) i = x3 := by rw [hE, mI_sI_s]
  clear hE
  have MD : ∀ w : Int32, w = (if 0 ≤ mI M (oa r + 2) i then mI M (oa r + 2) i else -5) → vp_in (v3 + 1) L ∧ vp_in (v3 + 2) L ∧ vp_in (v3 + 3) L ∧ isO M2 76 [12] ∧ f_X12_row 76 (nI r) (nI i) x3 M2 (fun w10 M11 => (if w = w10 then K M11 else False)) := by
    intro w hw
    unfold f_X12_row
    refine ⟨h1, h2, h3, oM hG2, oM hG2, isO_t hG2 ((e2 _ _ (by omega)).trans iO0.2.2.1) iO0.1 hr ?_⟩
    simp only [if_true, if_false, Bool.false_eq_true, reduceIte]
    refine ⟨oM hG2, in_t c2 ?_⟩
    simp only [if_true, if_false, Bool.false_eq_true, reduceIte]
    refine ⟨oM hG2, in_t c3 ?_⟩
    simp only [if_true, if_false, Bool.false_eq_true, reduceIte]
    refine ⟨oM hG2, 94, mP_g hG2 rfl, isA_g hG2 (by decide) rfl (vpN (by omega) (by omega)), ?_⟩
    rw [r2, e2 _ _ (by omega), hok.2.2.2.1.2.2.1, if_pos (by rw [h6]; rfl)]
    have va : vp_in (nI (10 * r + i)) 110 := vpN (by omega) (by omega)
    refine ⟨96, mP_g hG2 rfl, ?_⟩
    rw [show (10 : Int32) = nI 10 from rfl, nI_mul, nI_add, nI_clamp (by omega)]
    refine ⟨isA_g hG2 (by decide) rfl va, isA_g hG2 (by decide) rfl va, ?_⟩
    intro M3 hE
    have fin : K M3 := by
      refine hK _ (row_fin J hr hi h6 c3 (by rw [hE]; exact s2) ?_ ?_ fun a j c => ?_)
      · rw [hE, mI_ne _ _ (by omega)]; exact y2
      · rw [hE, mI_sI_s]
      · rw [hE, mI_ne _ _ (by omega)]; exact e2 a j (by omega)
    rw [e2 96 _ (by omega), l4]
    by_cases c : 0 ≤ mI M (oa r + 2) i
    · rw [if_pos c] at hw ⊢
      exact fin_ hw fin
    · rw [if_neg c] at hw ⊢
      exact fin_ hw fin
  unfold f_X12_row at MD
  rw [i2]
  by_cases c : 0 ≤ mI M (oa r + 2) i
  · rw [if_pos c]; exact MD _ (by rw [if_pos c])
  · rw [if_neg c]; exact MD _ (by rw [if_neg c])
/-- taken -/
def tkn (k kd : Nat) : Bool := decide (k = 0 ∨ kd = k ∨ k = 1 ∧ (kd = 3 ∨ kd = 6) ∨ k = 2 ∧ kd = 4)
theorem isO_kc {M : Mem} {a k : Nat} {cs : List Nat} (h : mS M a = .inl (kc k)) : isO M a cs ↔ kc k ∈ cs := by
  constructor
  · rintro ⟨ci, hc, hs⟩
    rw [h] at hs
    injection hs with hs
    rw [hs]; exact hc
  · intro hc; exact ⟨kc k, hc, h⟩
theorem isOf_c {M : Mem} {a k kd : Nat} {Q : Bool → Mem → Prop} (h : mS M a = .inl (kc kd)) (hk : k ≤ 6) (hkd : kd ≤ 6) (q : Q (tkn k kd) M) : f_X11_isOf (some a) (nI k) M Q := by
  have any : isO M a [5, 1, 2, 4, 6, 7, 9] := ⟨kc kd, kc_in hkd, h⟩
  unfold f_X11_isOf
  have go : ∀ cs : List Nat, decide (kc kd ∈ cs) = tkn k kd → (∃ b, (some a : Option Nat) = some b ∧ (isO M b [5, 1, 2, 4, 6, 7, 9] ∧ ((isO M b cs → Q true M) ∧ (¬ isO M b cs → Q false M)))) := by
    intro cs e
    refine ⟨a, rfl, any, fun hc => ?_, fun hc => ?_⟩
    · rw [← e, decide_eq_true ((isO_kc h).mp hc)] at q; exact q
    · rw [← e, decide_eq_false (fun z => hc ((isO_kc h).mpr z))] at q; exact q
  rcases seven hk with rfl | rfl | rfl | rfl | rfl | rfl | rfl
  · rw [if_neg (by decide), if_neg (by decide), if_neg (by decide), if_neg (by decide), if_neg (by decide), if_neg (by decide)]
    exact q
  · rw [if_pos (by decide)]
    exact go _ (by rcases seven hkd with rfl | rfl | rfl | rfl | rfl | rfl | rfl <;> decide)
  · rw [if_neg (by decide), if_pos (by decide)]
    exact go _ (by rcases seven hkd with rfl | rfl | rfl | rfl | rfl | rfl | rfl <;> decide)
  · rw [if_neg (by decide), if_neg (by decide), if_pos (by decide)]
    exact go _ (by rcases seven hkd with rfl | rfl | rfl | rfl | rfl | rfl | rfl <;> decide)
  · rw [if_neg (by decide), if_neg (by decide), if_neg (by decide), if_pos (by decide)]
    exact go _ (by rcases seven hkd with rfl | rfl | rfl | rfl | rfl | rfl | rfl <;> decide)
  · rw [if_neg (by decide), if_neg (by decide), if_neg (by decide), if_neg (by decide), if_pos (by decide)]
    exact go _ (by rcases seven hkd with rfl | rfl | rfl | rfl | rfl | rfl | rfl <;> decide)
  · rw [if_neg (by decide), if_neg (by decide), if_neg (by decide), if_neg (by decide), if_neg (by decide), if_pos (by decide)]
    exact go _ (by rcases seven hkd with rfl | rfl | rfl | rfl | rfl | rfl | rfl <;> decide)
theorem kind_c {M : Mem} {a kd : Nat} {Q : Int32 → Mem → Prop} (h : mS M a = .inl (kc kd)) (hkd : kd ≤ 6) (q : Q (nI kd) M) : v_X5_kind a M Q := by
  unfold v_X5_kind
  rcases seven hkd with rfl | rfl | rfl | rfl | rfl | rfl | rfl
  · exact Or.inl ⟨h, q⟩
  · exact Or.inr (Or.inl ⟨h, q⟩)
  · exact Or.inr (Or.inr (Or.inr (Or.inr (Or.inr (Or.inl ⟨h, q⟩)))))
  · exact Or.inr (Or.inr (Or.inr (Or.inl ⟨h, q⟩)))
  · exact Or.inr (Or.inr (Or.inr (Or.inr (Or.inl ⟨h, q⟩))))
  · exact Or.inr (Or.inr (Or.inl ⟨h, q⟩))
  · exact Or.inr (Or.inr (Or.inr (Or.inr (Or.inr (Or.inr ⟨h, q⟩)))))
theorem taken_m {M : Mem} {r no k kd : Nat} {Q : Int32 → Mem → Prop} (hG : Good M) (hn : no ≤ 10) (h27 : mI M 76 27 = nI no) (hr : r < no) (hk : k ≤ 6) (hkd : kd ≤ 6) (h94 : mI M 94 r = nI kd) (q : Q (if tkn k kd = true then nI kd else -12) M) : f_X12_taken 76 (nI r) (nI k) M Q := by
  have ek := nI_toInt (n := k) (by omega)
  unfold f_X12_taken f_X12_taken_J57
  refine ⟨oM hG, in_t (by simp only [Int32.reduceToInt]; omega) ?_⟩
  simp only [if_true, if_false, Bool.false_eq_true, reduceIte]
  refine ⟨oM hG, isO_t hG h27 hn hr ?_⟩
  simp only [if_true, if_false, Bool.false_eq_true, reduceIte]
  refine ⟨oM hG, 94, mP_g hG rfl, isA_g hG (by decide) rfl (vpN (by omega) (by omega)), ?_⟩
  rw [nI_clamp (by omega), h94]
  have d : ∀ a b : Nat, a ≤ 6 → b ≤ 6 → (nI a = nI b ↔ a = b) := fun a b ha hb => nI_eq (by omega) (by omega)
  have e0 : nI k = 0 ↔ k = 0 := d k 0 hk (by omega)
  have e1 : nI k = (1 : Int32) ↔ k = 1 := d k 1 hk (by omega)
  have e2 : nI k = (2 : Int32) ↔ k = 2 := d k 2 hk (by omega)
  have e3 : nI kd = (3 : Int32) ↔ kd = 3 := d kd 3 hkd (by omega)
  have e4 : nI kd = (4 : Int32) ↔ kd = 4 := d kd 4 hkd (by omega)
  have e6 : nI kd = (6 : Int32) ↔ kd = 6 := d kd 6 hkd (by omega)
  have eq : nI kd = nI k ↔ kd = k := d kd k hkd hk
  by_cases t : tkn k kd = true
  · rw [if_pos t] at q
    unfold tkn at t
    have t := of_decide_eq_true t
    repeat' split
    all_goals first | exact q | (exfalso; simp only [e0, e1, e2, e3, e4, e6, eq] at *; omega)
  · rw [if_neg t] at q
    unfold tkn at t
    have t := of_decide_eq_false (Bool.eq_false_iff.mpr t)
    repeat' split
    all_goals first | exact q | (exfalso; simp only [e0, e1, e2, e3, e4, e6, eq] at *; omega)
theorem J1015 {M : Mem} (hI : Inv M) {v3 : Int32} {xs : Nat → Int32} {L : Nat} {K : Mem → Prop} (h1 : vp_in (v3 + 1) L) (h2 : vp_in (v3 + 2) L) (hK : ∀ M', Inv M' → K M') : f_L_law_J1015 0 76 v3 M xs L K := by
  obtain ⟨hG, ns, nt, nw, no, nh, cls, th, oa, kd, vv, J0⟩ := id hI; have J : Jn M ns nt nw no nh cls th oa kd vv := ⟨hG, J0⟩; obtain ⟨iS0, iQ0, iN0, iH0, iZ0, iW0, iD0, iO0, iA0, iI0, iT0⟩ := id J0
  unfold f_L_law_J1015
  generalize xs (v3 + 1).toNatClampNeg = x1
  generalize xs (v3 + 2).toNatClampNeg = x2
  refine ⟨h1, h2, oQ hG, ?_⟩
  unfold f_X11_taken
  by_cases c2 : 0 ≤ x2.toInt ∧ x2.toInt ≤ 6
  case neg =>
    unfold f_X12_taken
    refine out_t (by simp only [Int32.reduceToInt]; omega) ?_
    simp only [if_true, if_false, Bool.false_eq_true, reduceIte]
    refine ⟨h1, h2, oM hG, oM hG, in_f (by simp only [Int32.reduceToInt]; omega) ?_⟩
    simp only [if_true, if_false, Bool.false_eq_true, reduceIte]
    exact hK _ hI
  refine out_f c2 ?_
  simp only [if_true, if_false, Bool.false_eq_true, reduceIte]
  obtain ⟨k, -, rfl, k1, k2⟩ := nI_ex c2.1
  by_cases c1 : 0 ≤ x1.toInt ∧ x1.toInt < (no : Int)
  case neg =>
    unfold f_X12_taken
    refine ⟨oQ hG, ordA_n hG iO0.2.1 iO0.1 (by omega) ⟨fun _ => ⟨h1, h2, oM hG, oM hG, in_t (by simp only [Int32.reduceToInt]; omega) ?_⟩, fun b hb => by cases hb⟩⟩
    simp only [if_true, if_false, Bool.false_eq_true, reduceIte]
    refine ⟨oM hG, isO_f hG iO0.2.2.1 iO0.1 (by omega) ?_⟩
    simp only [if_true, if_false, Bool.false_eq_true, reduceIte]
    exact hK _ hI
  obtain ⟨r, -, rfl, r1, r2⟩ := nI_ex c1.1; have hr : r < no := by omega
  refine ⟨oQ hG, ordA_s hG iO0.2.1 iO0.1 hr (iO0.2.2.2.1 r hr).2.2.1.2.2.2 ⟨fun h => (by cases h), fun b hb => ?_⟩⟩; cases hb
  have hok := iO0.2.2.2.1 r hr
  have h6 := hok.1.1
  have MD : ∀ w : Int32, w = (if tkn k (kd r) = true then nI (kd r) else -12) → vp_in (v3 + 1) L ∧ vp_in (v3 + 2) L ∧ isO M 76 [12] ∧ f_X12_taken 76 (nI r) (nI k) M (fun w8 M9 => (if w = w8 then K M9 else False)) :=
    fun w hw => ⟨h1, h2, oM hG, taken_m hG iO0.1 iO0.2.2.1 hr (by omega) h6 hok.2.2.2.1.2.2.1 (fin_ hw (hK _ hI))⟩
  refine isOf_c hok.2.2.1.1 (by omega) h6 ?_
  by_cases t : tkn k (kd r) = true
  · rw [if_pos t]
    exact kind_c hok.2.2.1.1 h6 (MD _ (by rw [if_pos t]))
  · rw [if_neg t]
    exact MD _ (by rw [if_neg t])
