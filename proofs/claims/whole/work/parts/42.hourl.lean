/-! ===== the hour of the class: which line, one who comes ===== -/
def wtI (w : Option Nat) : Int32 := match w with
  | none => -1
  | some i => nI i
def rC (X : Nat → Nat → Nat) (S : HS) (M : Mem) : Prop :=
  (mI M 29 6 = nI (hcm S).length ∧ mI M 29 7 = nI (hsv S).length ∧ mI M 29 9 = nI (hbz S) ∧ mI M 29 18 = nI (htr S) ∧ mI M 29 8 = wtI (hwt S)) ∧
  (∀ i, i < (hcm S).length → mI M 30 i = nI (gC (hcm S) i).1 ∧ mI M 31 i = nI (gC (hcm S) i).2.1 ∧ mI M 32 i = nI (gC (hcm S) i).2.2.1 ∧ mI M 33 i = nI (gC (hcm S) i).2.2.2) ∧
  (∀ k e, (hsv S)[k]? = some e → mI M 35 k = nI e.1 ∧ mI M 34 e.1 = nI e.2) ∧
  ∀ l, l < 2 → mI M 36 l = nI (hq S l).length ∧ mI M 37 l = nI (qtm X (hcm S) (hq S l)) ∧ ∀ i, i ∈ hq S l → mI M 34 i = -1
theorem nI_max {a b : Nat} (ha : a < 2 ^ 31) (hb : b < 2 ^ 31) : (if nI a - nI b < (0 : Int32) then (0 : Int32) else nI a - nI b) = nI (a - b) := by
  have e1 := nI_toInt ha
  have e2 := nI_toInt hb
  have e3 : (nI a - nI b).toInt = (a : Int) - b := by rw [i32_subI (by omega) (by omega), e1, e2]
  by_cases c : a < b
  · rw [if_pos (by rw [i32_lt, e3]; simp only [Int32.reduceToInt]; omega), show a - b = 0 by omega]; rfl
  · rw [if_neg (by rw [i32_lt, e3]; simp only [Int32.reduceToInt]; omega)]
    apply Int32.toInt_inj.mp
    rw [e3, nI_toInt (by omega)]; omega
theorem vpN {n N : Nat} (h : n < N) (hN : N < 2 ^ 31) : vp_in (nI n) N := vp_in_nI h hN
theorem hW_len {X : Nat → Nat → Nat} {ns now : Nat} {S : HS} (hx : hX X ns) (h : hW X ns now S) : (hcm S).length ≤ 40 ∧ (hsv S).length ≤ 40 ∧ (hq S 0).length + (hq S 1).length ≤ 40 ∧ hbz S ≤ 1580 ∧ htr S ≤ 40 ∧ qtm X (hcm S) (hq S 0) ≤ 1520 ∧ qtm X (hcm S) (hq S 1) ≤ 1520 := by
  obtain ⟨⟨a1, a2, a3, a4⟩, h2, h3, h4, h5, h6⟩ := h
  have hmx := hx.2.2.2.2.2.2.2.1
  have q0 := qtm_le (cm := hcm S) hx (l := hq S 0) (fun i hi => (h2 i ((h3 0 (by omega)).2 i hi).1).1)
  have q1 := qtm_le (cm := hcm S) hx (l := hq S 1) (fun i hi => (h2 i ((h3 1 (by omega)).2 i hi).1).1)
  omega
theorem hask_le {X : Nat → Nat → Nat} {ns n1 : Nat} (hx : hX X ns) (h : n1 ≤ 40) : hask X n1 ≤ 380 := by
  obtain ⟨-, -, -, -, v9, p20, -⟩ := hx
  have : X 4 1 * n1 ≤ 9 * 40 := Nat.mul_le_mul v9 h
  unfold hask; split <;> omega
theorem hdue_le {X : Nat → Nat → Nat} {ns s n1 : Nat} (hx : hX X ns) (h : n1 ≤ 40) : hdue X s n1 ≤ 380 := by
  have := hask_le hx h
  unfold hdue; split <;> omega
theorem hahd_le (X : Nat → Nat → Nat) (yet t0 t1 : Nat) : hahd X yet t0 t1 ≤ yet + t0 + t1 := by
  unfold hahd; split <;> omega
theorem line_c {X : Nat → Nat → Nat} {ns oa w now s : Nat} {cl : List Cl} {S : HS} {M : Mem} {Q : Int32 → Mem → Prop} (h : cC X ns oa w cl M) (r : rC X S M) (hw : hW X ns now S) (hn : mI M 29 15 = nI now) (hnow : now ≤ 1700) (hs : s < ns) (q : Q (nI (hli X now s S)) M) : f_X3_lineFor 29 (nI s) (nI (hdue X s (hq S 1).length)) M Q := by
  obtain ⟨hG, hx, hcx, ho, -, -, -, -, po, -⟩ := h
  obtain ⟨⟨r1, r2, r3, r4, r5⟩, -, -, r6⟩ := r
  obtain ⟨b1, b2, b3, b4, b5, b6, b7⟩ := hW_len hx hw
  have hns := hx.1
  obtain ⟨x0, x1, x2, -⟩ := hx.2.1 s hs
  have hv9 := hx.2.2.2.2.1
  have hx5 := hx.2.2.2.2.2.2.2.2
  have hd := hdue_le (s := s) hx (show (hq S 1).length ≤ 40 by omega)
  have c0 := hcx s hs 0 (by omega)
  have c1 := hcx s hs 1 (by omega)
  have c2 := hcx s hs 2 (by omega)
  have vs : vp_in (nI s) 6 := vpN (by omega) (by omega)
  have ec : (nI s).toNatClampNeg = s := nI_clamp (by omega)
  have ps : mP M 1 (nI s).toNatClampNeg = some (2 + s) := by rw [ec]; exact p_row hG (by omega)
  obtain ⟨s0, t0, -⟩ := r6 0 (by omega)
  obtain ⟨s1, t1, -⟩ := r6 1 (by omega)
  unfold hli at q
  generalize hD : hdue X s (hq S 1).length = D at *
  have J161 : ∀ li cost, cost < 2 ^ 31 → Q (nI (if X 1 s < cost ∨ (X 4 0 = 5 ∧ X 4 1 ≤ (hq S 0).length + (hq S 1).length) then 2 else li)) M → f_X3_lineFor_J161 29 (nI s) (nI D) (nI li) (nI cost) M Q := by
    intro li cost hc qq
    unfold f_X3_lineFor_J161 f_X3_lineFor_J199 f_X3_lineFor_J204
    refine ⟨oH hG, 1, mP_g hG rfl, isA_g hG (by decide) rfl vs, 2 + s, ps, a_row hG (by omega) (vp_of (by decide) (by decide)), ?_⟩
    rw [show ((1 : Int32)).toNatClampNeg = 1 from rfl, show ((0 : Int32)).toNatClampNeg = 0 from rfl, c1]
    by_cases e : X 1 s < cost
    · rw [if_pos (nI_lt e hc), if_neg (by decide)]
      rw [if_pos (Or.inl e)] at qq; exact qq
    · rw [if_neg (nI_nlt (by omega) (by omega))]
      refine ⟨36, mP_g hG rfl, isA_g hG (by decide) rfl (vp_of (by decide) (by decide)), isA_g hG (by decide) rfl (vp_of (by decide) (by decide)), oa, po, ?_⟩
      rw [s0, s1, nI_add]
      refine awa_c ho (by omega) (by omega) ?_
      by_cases e2 : X 4 0 = 5 ∧ X 4 1 ≤ (hq S 0).length + (hq S 1).length
      · rw [decide_eq_true e2, if_pos rfl, if_neg (by decide)]
        rw [if_pos (Or.inr e2)] at qq; exact qq
      · rw [decide_eq_false e2, if_neg (by decide), if_pos rfl]
        rw [if_neg (by omega)] at qq; exact qq
  have J49 : ∀ t : Int32, (t = 0 ↔ ¬ D ≤ X 2 s) → Q (nI (hch X s (hq S 0).length (hq S 1).length (hbz S - now) (qtm X (hcm S) (hq S 0)) (qtm X (hcm S) (hq S 1)))) M → f_X3_lineFor_J49 29 (nI s) (nI D) t M Q := by
    intro t ht qq
    unfold hch at qq
    rw [hD] at qq
    generalize qtm X (hcm S) (hq S 0) = T0 at *
    generalize qtm X (hcm S) (hq S 1) = T1 at *
    generalize hY : hbz S - now = Y at *
    have hY2 : Y ≤ 1580 := by omega
    have ha := hahd_le X Y T0 T1
    have w1 : X 0 s * hahd X Y T0 T1 ≤ 9 * 4620 := Nat.mul_le_mul x0 (by omega)
    have w2 : X 0 s * (Y + T0 + T1) ≤ 9 * 4620 := Nat.mul_le_mul x0 (by omega)
    unfold f_X3_lineFor_J49 f_X3_lineFor_J145 f_X3_lineFor_J146
    refine ⟨oH hG, 37, mP_g hG rfl, isA_g hG (by decide) rfl (vp_of (by decide) (by decide)), isA_g hG (by decide) rfl (vp_of (by decide) (by decide)), isA_g hG (by decide) rfl (vp_of (by decide) (by decide)), oa, po, ?_⟩
    rw [r3, hn, nI_max (by omega) (by omega), hY, show ((1 : Int32)).toNatClampNeg = 1 from rfl, show ((0 : Int32)).toNatClampNeg = 0 from rfl, t0, t1]
    refine ahd_c ho ?_
    have eh : (if X 4 0 = 0 ∨ X 4 0 = 5 then nI Y + nI T0 + nI T1 else nI Y + nI T1) = nI (hahd X Y T0 T1) := by
      unfold hahd; split <;> simp only [nI_add]
    rw [eh]
    refine ⟨oH hG, 1, mP_g hG rfl, isA_g hG (by decide) rfl vs, 2 + s, ps, a_row hG (by omega) (vp_of (by decide) (by decide)), isA_g hG (by decide) rfl vs, 2 + s, ps, a_row hG (by omega) (vp_of (by decide) (by decide)), ?_⟩
    rw [c0]
    simp only [nI_add, nI_mul]
    generalize hP : X 0 s * hahd X Y T0 T1 + D = P at *
    generalize hF : X 0 s * (Y + T0 + T1) = F at *
    have hPb : P ≤ 50000 := by omega
    have hFb : F ≤ 50000 := by omega
    have k0 : ∀ t : Int32, t = 0 → ¬ (D ≤ X 2 s ∧ P < F) → f_X3_lineFor_J161 29 (nI s) (nI D) t (nI F) M Q := by
      rintro t rfl hc
      refine J161 0 F (by omega) ?_
      rw [if_neg hc] at qq
      by_cases e : X 4 0 = 5 ∧ X 4 1 ≤ (hq S 0).length + (hq S 1).length
      · rw [if_pos e] at qq; rw [if_pos (Or.inr e)]; exact qq
      · rw [if_neg e] at qq
        by_cases e2 : X 1 s < F
        · rw [if_pos e2] at qq; rw [if_pos (Or.inl e2)]; exact qq
        · rw [if_neg e2] at qq; rw [if_neg (by omega)]; exact qq
    by_cases cA : D ≤ X 2 s
    · have : ¬ t = 0 := fun e => (ht.mp e) cA
      rw [if_neg this]
      by_cases cB : P < F
      · rw [if_neg (nI_ge cB (by omega)), if_pos trivial]
        refine J161 1 P (by omega) ?_
        rw [if_pos (show D ≤ X 2 s ∧ P < F from ⟨cA, cB⟩)] at qq
        by_cases e : X 4 0 = 5 ∧ X 4 1 ≤ (hq S 0).length + (hq S 1).length
        · rw [if_pos e] at qq; rw [if_pos (Or.inr e)]; exact qq
        · rw [if_neg e] at qq
          by_cases e2 : X 1 s < P
          · rw [if_pos e2] at qq; rw [if_pos (Or.inl e2)]; exact qq
          · rw [if_neg e2] at qq; rw [if_neg (by omega)]; exact qq
      · rw [if_pos (nI_le (by omega) (by omega)), if_neg (by decide)]
        exact k0 0 rfl (by omega)
    · rw [if_pos (ht.mpr cA), if_neg (by decide)]
      exact k0 0 rfl (by omega)
  have J17 : ∀ t : Int32, (t = 0 ↔ ¬ D ≤ X 2 s) → f_X3_lineFor_J17 29 (nI s) (nI D) t M Q := by
    intro t ht
    unfold f_X3_lineFor_J17
    refine ⟨oH hG, oa, po, ?_⟩
    rw [r1]
    refine ltd_c ho (by omega) fun x hx => ?_
    have h5 : htd X (hcm S).length ≤ 3 := by
      unfold htd; split
      · rename_i e
        exact hx5 _ e.2
      · omega
    unfold hln at q
    rw [hD] at q
    generalize htd X (hcm S).length = T at *
    have ex : ∀ n : Nat, n < 100 → x.toInt = (n : Int) → x = nI n := fun n hn e => nI_of_toInt e (by omega)
    by_cases d1 : T = 1
    · subst d1
      rw [if_pos rfl] at q
      obtain rfl := ex 0 (by omega) (by omega)
      rw [if_neg (by decide), if_neg (by decide)]; exact q
    rw [if_neg d1] at q
    by_cases d3 : T = 3
    · subst d3
      rw [if_pos rfl] at q
      obtain rfl := ex 2 (by omega) (by omega)
      rw [if_neg (by decide), if_neg (by decide)]; exact q
    rw [if_neg d3] at q
    by_cases d2 : T = 2
    · subst d2
      obtain rfl := ex 1 (by omega) (by omega)
      rw [if_neg (by decide), if_pos (by decide)]
      by_cases cA : D ≤ X 2 s
      · rw [if_pos ⟨rfl, cA⟩] at q
        rw [if_neg (fun e => (ht.mp e) cA)]; exact q
      · rw [if_neg (by omega)] at q
        rw [if_pos (ht.mpr cA)]
        exact J49 t ht q
    · rw [if_neg (by omega)] at q
      rw [if_pos (by rw [i32_lt]; simp only [Int32.reduceToInt]; omega)]
      exact J49 t ht q
  unfold f_X3_lineFor
  refine ⟨oH hG, 1, mP_g hG rfl, isA_g hG (by decide) rfl vs, 2 + s, ps, a_row hG (by omega) (vp_of (by decide) (by decide)), ?_⟩
  rw [show ((2 : Int32)).toNatClampNeg = 2 from rfl, c2]
  by_cases cA : D ≤ X 2 s
  · rw [if_neg (nI_nlt cA (by omega))]
    exact J17 1 ⟨fun e => absurd e (by decide), fun e => absurd cA e⟩
  · rw [if_pos (nI_lt (by omega) (by omega))]
    exact J17 0 ⟨fun _ => cA, fun _ => rfl⟩
