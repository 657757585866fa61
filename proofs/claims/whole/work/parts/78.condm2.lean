/-! ===== tests and conditions by the model ===== -/
theorem place_m {x : Int32} {y : Int} {M : Mem} {Q : Int32 → Mem → Prop} (hx : x.toInt = y ∨ (x.toInt = -1 ∧ y = -1000)) (q1 : ∀ l, lix y = some l → Q (nI l) M) (q2 : lix y = none → Q (-1) M) : f_X12_place 76 x M Q := by
  unfold f_X12_place
  have e : ∀ z : Int32, 0 ≤ z.toInt → (x = z ↔ y = z.toInt) := fun z hz => by rw [i32_eq]; omega
  unfold lix at q1 q2
  have e102 := e 102 (by decide)
  have e108 := e 108 (by decide)
  have e110 := e 110 (by decide)
  have e116 := e 116 (by decide)
  simp only [Int32.reduceToInt] at e102 e108 e110 e116
  by_cases c1 : x = 102
  · have := e102.mp c1
    subst this
    rw [if_pos c1]; exact q1 2 rfl
  rw [if_neg c1]
  by_cases c2 : x = 108
  · have := e108.mp c2
    subst this
    rw [if_pos c2]; exact q1 1 rfl
  rw [if_neg c2]
  by_cases c3 : x = 110
  · have := e110.mp c3
    subst this
    rw [if_pos c3]; exact q1 3 rfl
  rw [if_neg c3]
  by_cases c4 : x = 116
  · have := e116.mp c4
    subst this
    rw [if_pos c4]; exact q1 0 rfl
  rw [if_neg c4]
  refine q2 ?_
  rw [if_neg (fun h => c4 (e116.mpr h)), if_neg (fun h => c2 (e108.mpr h)), if_neg (fun h => c1 (e102.mpr h)), if_neg (fun h => c3 (e110.mpr h))]
theorem mcode_t {l s m : Nat} (hl : l ≤ 3) (hs : s ≤ 2) (hm : m < 100) : mcode (((l * 3 + s) * 100 + m : Nat) : Int) = ((1000 * l + 100 * s + m : Nat) : Int) := by
  unfold mcode
  rw [if_neg (by omega), if_neg (by omega), if_neg (by omega)]
  omega
theorem ttest_m {w n p : Nat} {c : Nat → Int} {W O : List Int} {M : Mem} {Q : Bool → Mem → Prop} (hw : w < 6) (h : kM w c n p W O M) (q : ∀ M1, eF w M M1 → rdM c n (tst c p).2.1 M1 → ((tst c p).1 = true → kM w c n (tst c p).2.1 (wh W (O ++ (tst c p).2.2)).1 (wh W (O ++ (tst c p).2.2)).2 M1) → Q (tst c p).1 M1) : f_X12_takesTest 76 M Q := by
  unfold f_X12_takesTest
  obtain ⟨hr, h2, ⟨h3, h4⟩, h5, h6, h7⟩ := id h
  have hc := hr.2.1.2.2.1
  have h100 := hr.2.1.1
  refine ⟨oM hr.1, next_m hr fun x hx => ⟨oM hr.1, place_m hx (fun l e1 => ?_) (fun e1 => ?_)⟩⟩
  case refine_2 =>
    rw [if_neg (by decide)]
    have ht : tst c p = (false, p, []) := by unfold tst; rw [e1]
    have q := q M (eF.rf w M)
    rw [ht] at q
    exact q hr (fun e => by cases e)
  have bl := lix_b e1
  have l1 := ne_lt hc bl.2
  rw [if_pos (nI_pos' (by omega))]
  refine ⟨oM hr.1, fun M1 hE => ?_⟩
  rw [hr.2.2.2, nI_1] at hE
  have f1 : nF M M1 := nF.st hE
  have r1 : rdM c n (p + 1) M1 := f1.mv hr (by rw [hE, mI_sI_s]) (by omega)
  have t2 : tst c p = match six_ (c (p + 1)) with
      | none => (false, p + 1, [])
      | some s => if (num c (p + 2)).1 = true then (true, (num c (p + 2)).2.1, [(((l * 3 + s) * 100 + (num c (p + 2)).2.2 : Nat) : Int)]) else (false, (num c (p + 2)).2.1, []) := by
    unfold tst; rw [e1]; rfl
  refine next_m r1 fun y hy => ⟨oM r1.1, ?_⟩
  unfold sn at hy
  by_cases c6 : 60 ≤ c (p + 1) ∧ c (p + 1) ≤ 62
  case neg =>
    have e2 : six_ (c (p + 1)) = none := by
      unfold six_; rw [if_neg (by omega), if_neg (by omega), if_neg (by omega)]
    refine in_f (by simp only [Int32.reduceToInt]; omega) ?_
    rw [if_neg (by decide)]
    rw [e2] at t2
    have q := q M1 (f1.e w)
    rw [t2] at q
    exact q r1 (fun e => by cases e)
  obtain ⟨s, hs, es⟩ : ∃ s : Nat, s ≤ 2 ∧ c (p + 1) = 60 + s := ⟨(c (p + 1) - 60).toNat, by omega, by omega⟩
  have e2 : six_ (c (p + 1)) = some s := by
    unfold six_
    have : s = 0 ∨ s = 1 ∨ s = 2 := by omega
    rcases this with rfl | rfl | rfl
    · rw [if_pos (by omega)]
    · rw [if_neg (by omega), if_pos (by omega)]
    · rw [if_neg (by omega), if_neg (by omega), if_pos (by omega)]
  have l2 := ne_lt hc (p := p + 1) (by omega)
  refine in_t (by simp only [Int32.reduceToInt]; omega) ?_
  rw [if_pos rfl]
  rw [e2] at t2
  refine ⟨oM r1.1, fun M2 hE2 => ?_⟩
  rw [r1.2.2.2, nI_1] at hE2
  have f2 : nF M1 M2 := nF.st hE2
  have r2 : rdM c n (p + 2) M2 := f2.mv r1 (by rw [hE2, mI_sI_s]) (by omega)
  refine tnum_m r2 fun M3 f3 r3 d3 => ?_
  have no := num_ok hc (p := p + 2) (by omega)
  have fa := (f1.tr f2).tr f3
  by_cases hn : (num c (p + 2)).1 = true
  case neg =>
    rw [if_neg hn]
    have t2 : tst c p = (false, (num c (p + 2)).2.1, []) := t2.trans (if_neg hn)
    have q := q M3 (fa.e w)
    rw [t2] at q
    exact q r3 (fun e => by cases e)
  rw [if_pos hn]
  have t2 : tst c p = (true, (num c (p + 2)).2.1, [(((l * 3 + s) * 100 + (num c (p + 2)).2.2 : Nat) : Int)]) := t2.trans (if_pos hn)
  have d3 := d3 hn
  obtain ⟨n4, n5⟩ := no.2.2 hn
  have hr3 := r3.2.2.1
  generalize num c (p + 2) = z at *
  refine ⟨oM r3.1, ?_⟩
  rw [d3]
  have ey : y - 60 = nI s := by
    apply Int32.toInt_inj.mp
    rw [nI_toInt (by omega), i32_subI] <;> simp only [Int32.reduceToInt] <;> omega
  have ecode : (1000 : Int32) * nI l + (100 : Int32) * (y - 60) + nI z.2.2 = Int32.ofInt (mcode (((l * 3 + s) * 100 + z.2.2 : Nat) : Int)) := by
    rw [ey, mcode_t bl.1 hs n5, show (1000 : Int32) = nI 1000 from rfl, show (100 : Int32) = nI 100 from rfl, nI_mul, nI_mul, nI_add, nI_add]; rfl
  have s3 : sM w O M3 := ⟨by rw [fa.2 _ _ (by omega)]; exact h2.1, fun k t e => by rw [fa.2 _ _ (by omega)]; exact h2.2 k t e⟩
  refine put_m (t := (((l * 3 + s) * 100 + z.2.2 : Nat) : Int)) r3.1 hw s3 (by omega) ecode fun M4 hE4 s4 => ?_
  have e4 : eF w M3 M4 := ⟨by rw [hE4]; exact Sm.rf M3, fun b j q r s => by rw [hE4, mI_ne _ _ (by omega), mI_ne _ _ (by omega)]⟩
  have r4 : rdM c n z.2.1 M4 := rdM_mv r3 (e4.d 0).c (by rw [hE4, mI_ne _ _ (by omega), mI_ne _ _ (by omega)]; exact r3.2.2.2) hr3
  have k4 : kM w c n z.2.1 W (O ++ [(((l * 3 + s) * 100 + z.2.2 : Nat) : Int)]) M4 := by
    refine ⟨r4, s4, ⟨?_, fun i x e => ?_⟩, ?_, ?_, h7⟩
    · rw [hE4, mI_ne _ _ (by omega), mI_ne _ _ (by omega), fa.2 _ _ (by omega)]; exact h3
    · rw [hE4, mI_ne _ _ (by omega), mI_ne _ _ (by omega), fa.2 _ _ (by omega)]; exact h4 i x e
    · rw [hE4, mI_ne _ _ (by omega), mI_ne _ _ (by omega), fa.2 _ _ (by omega)]; exact h5
    · rw [List.length_append]; show O.length + 1 + W.length ≤ _; omega
  refine ⟨oM r4.1, whole_m hw k4 fun M5 f5 k5 => ?_⟩
  have q := q M5 (((fa.e w).tr e4).tr f5)
  rw [t2] at q
  exact q k5.1 (fun _ => k5)
theorem mrun_inv {c : Nat → Int} {s : Sx} {R : Rz} : ∀ {k : Nat}, mrun c k s = some R → mst c s = .inr R ∨ ∃ s' k', mst c s = .inl s' ∧ mrun c k' s' = some R
  | 0, h => by cases h
  | k + 1, h => by
    have h : (match mst c s with
      | .inl s' => mrun c k s'
      | .inr r => some r) = some R := h
    cases e : mst c s with
    | inl s' => rw [e] at h; exact Or.inr ⟨s', k, rfl, h⟩
    | inr r => rw [e] at h; injection h with h; rw [h]; exact Or.inl rfl
def wnt (b : Bool) : Int32 := if b = true then 1 else 0
theorem mst_t (c : Nat → Int) (p : Nat) (W O : List Int) : mst c (p, true, W, O) = if c p = 33 ∨ c p = 40 then (if opn W = 4 then .inr (false, p, O) else .inl (p + 1, true, c p :: W, O))
     else if (tst c p).1 = true then .inl ((tst c p).2.1, false, (wh W (O ++ (tst c p).2.2)).1, (wh W (O ++ (tst c p).2.2)).2) else .inr (false, (tst c p).2.1, O) := by
  unfold mst
  exact if_pos rfl
theorem stl_len (b : Int) : ∀ (W O : List Int), (stl b W O).1.length + (stl b W O).2.length = W.length + O.length ∧ ((∀ x ∈ W, x = 33 ∨ x = 40 ∨ x = 38 ∨ x = 124) → b ≠ 38 → ∀ y W', (stl b W O).1 = y :: W' → y = 33 ∨ y = 40)
  | [], O => ⟨rfl, fun _ _ y W' e => by cases e⟩
  | x :: W, O => by
    have hs : stl b (x :: W) O = if x = 38 ∨ x = 124 ∧ b ≠ 38 then stl b W (O ++ [opT x]) else (x :: W, O) := rfl
    rw [hs]
    by_cases h : x = 38 ∨ x = 124 ∧ b ≠ 38
    · rw [if_pos h]
      obtain ⟨i1, i2⟩ := stl_len b W (O ++ [opT x])
      rw [List.length_append] at i1
      have i1 : (stl b W (O ++ [opT x])).1.length + (stl b W (O ++ [opT x])).2.length = W.length + (O.length + 1) := i1
      exact ⟨by show _ = W.length + 1 + O.length; omega, fun hx hb => i2 (fun y hy => hx y (List.mem_cons_of_mem _ hy)) hb⟩
    · rw [if_neg h]
      refine ⟨rfl, fun hx hb y W' e => ?_⟩
      have e : x :: W = y :: W' := e
      injection e with e1 e2
      subst e1
      have := hx x (List.mem_cons_self ..)
      omega
theorem push_k {w n p : Nat} {c : Nat → Int} {x : Int} {W O : List Int} {M M1 : Mem} (h : kM w c n p W O M) (hp : p < n) (hx : x = 33 ∨ x = 40 ∨ x = 38 ∨ x = 124) (hs : Sm M M1) (e24 : mI M1 76 24 = nI (W.length + 1)) (e92 : mI M1 92 W.length = Int32.ofInt x) (e25 : mI M1 76 25 = nI (opn (x :: W))) (e12 : mI M1 76 12 = nI (p + 1)) (ef : ∀ b j, ¬ (b = 76 ∧ (j = 12 ∨ j = 24 ∨ j = 25)) → ¬ (b = 92 ∧ j = W.length) → mI M1 b j = mI M b j) : kM w c n (p + 1) (x :: W) O M1 ∧ eF w M M1 := by
  obtain ⟨hr, h2, ⟨h3, h4⟩, h5, h6, h7⟩ := h
  have f : eF w M M1 := ⟨hs, fun b j q r s => ef b j (by omega) (by omega)⟩
  refine ⟨⟨rdM_mv hr (f.d 0).c e12 (by omega), ⟨by rw [ef _ _ (by omega) (by omega)]; exact h2.1, fun k u e => by rw [ef _ _ (by omega) (by omega)]; exact h2.2 k u e⟩, ⟨e24, fun i y e => ?_⟩, e25, by show O.length + (W.length + 1) ≤ p + 1; omega, fun y hy => ?_⟩, f⟩
  · rw [List.reverse_cons] at e
    by_cases ei : i = W.length
    · subst ei
      rw [List.getElem?_append_right (by rw [List.length_reverse]; exact Nat.le_refl _), List.length_reverse, Nat.sub_self] at e
      injection e with e
      rw [e92, e]
    · have hi := (List.getElem?_eq_some_iff.mp e).1
      rw [List.length_append, List.length_reverse] at hi
      have hi : i < W.length + 1 := hi
      rw [List.getElem?_append_left (by rw [List.length_reverse]; omega)] at e
      rw [ef _ _ (by omega) (by omega)]; exact h4 i y e
  · rcases List.mem_cons.mp hy with hy | hy
    · rw [hy]; exact hx
    · exact h7 y hy
theorem takesE_m {w x n p : Nat} {c : Nat → Int} {O : List Int} {M : Mem} {Q : Bool → Mem → Prop} (hw : w < 6) (hx : x < 48) (h : rdM c n p M) (hS : sM w O M) (hO : O.length ≤ p) (q : ∀ M1, dF w x M M1 → rdM c n (ei c 4 p).2.1 M1 → ((ei c 4 p).1 = true → sM w (O ++ (ei c 4 p).2.2) M1 ∧ mI M1 89 x = nI (100 * w + O.length) ∧ mI M1 90 x = nI (100 * w + (O ++ (ei c 4 p).2.2).length)) → Q (ei c 4 p).1 M1) : f_X12_takesE 76 (nI x) M Q := by
  unfold f_X12_takesE
  have hc := h.2.1.2.2.1
  have h100 := h.2.1.1
  obtain ⟨kk, s1, s2⟩ := sim_E hc h100 h.2.2.1 O
  obtain ⟨R, hR, hR1⟩ : ∃ R : Rz, mrun c kk (p, true, [], O) = some R ∧ (R.1 = (ei c 4 p).1 ∧ R.2.1 = (ei c 4 p).2.1 ∧ (R.1 = true → R.2.2 = O ++ (ei c 4 p).2.2)) := by
    by_cases e : (ei c 4 p).1 = true
    · exact ⟨_, s1 e, e.symm, rfl, fun _ => rfl⟩
    · obtain ⟨O', h2⟩ := s2 (Bool.eq_false_iff.mpr e)
      exact ⟨_, h2, (Bool.eq_false_iff.mpr e).symm, rfl, fun e => by cases e⟩
  obtain ⟨hR1, hR2, hR3⟩ := hR1
  replace q : ∀ M1, dF w x M M1 → mI M1 89 x = nI (100 * w + O.length) → rdM c n R.2.1 M1 → (R.1 = true → sM w R.2.2 M1 ∧ mI M1 90 x = nI (100 * w + R.2.2.length)) → Q R.1 M1 := by
    intro M1 a1 a2 a3 a4
    rw [hR2] at a3
    rw [hR1]
    refine q M1 a1 a3 (fun e => ?_)
    have e1 : R.1 = true := hR1.trans e
    obtain ⟨b1, b2⟩ := a4 e1
    rw [hR3 e1] at b1 b2
    exact ⟨b1, a2, b2⟩
  clear s1 s2 hR1 hR2 hR3
  refine ⟨oM h.1, fun N1 g1 N2 g2 => ?_⟩
  have hG2 : Good N2 := by rw [g2, g1]; exact h.1
  refine ⟨89, mP_g hG2 rfl, isA_g hG2 (by decide) rfl (vpN hx (by omega)), fun N3 g3 => ?_⟩
  have a23 : mI N2 76 23 = nI (100 * w + O.length) := by rw [g2, mI_ne _ _ (by omega), g1, mI_ne _ _ (by omega)]; exact hS.1
  rw [nI_clamp (by omega), a23] at g3
  have f3 : dF w x M N3 := ⟨by rw [g3, g2, g1]; exact Sm.rf M, fun b j q r s u => by rw [g3, mI_ne _ _ (by omega), g2, mI_ne _ _ (by omega), g1, mI_ne _ _ (by omega)]⟩
  have k3 : kM w c n p [] O N3 := by
    refine ⟨rdM_mv h f3.c (by rw [g3, mI_ne _ _ (by omega), g2, mI_ne _ _ (by omega), g1, mI_ne _ _ (by omega)]; exact h.2.2.2) h.2.2.1, ⟨?_, fun k t e => ?_⟩, ⟨?_, fun i y e => by cases e⟩, ?_, by show O.length + 0 ≤ p; omega, fun y hy => by cases hy⟩
    · rw [g3, mI_ne _ _ (by omega)]; exact a23
    · rw [g3, mI_ne _ _ (by omega), g2, mI_ne _ _ (by omega), g1, mI_ne _ _ (by omega)]; exact hS.2 k t e
    · rw [g3, mI_ne _ _ (by omega), g2, mI_ne _ _ (by omega), g1, mI_sI_s]; rfl
    · rw [g3, mI_ne _ _ (by omega), g2, mI_sI_s]; rfl
  have e89 : mI N3 89 x = nI (100 * w + O.length) := by rw [g3, mI_sI_s]
  clear g1 g2 g3 a23
  unfold f_X12_takesE_L22
  refine ⟨fun z => ∃ k p' b W O' N, z = (wnt b, N) ∧ kM w c n p' W O' N ∧ mrun c k (p', b, W, O') = some R ∧ dF w x M N ∧ mI N 89 x = nI (100 * w + O.length), fun z => 101 - (mI z.2 76 12).toNatClampNeg, ⟨kk, p, true, [], O, N3, rfl, k3, hR, f3, e89⟩, ?_⟩
  clear k3 hR f3 e89 hG2
  rintro z ⟨k, p', b, W, O', N, rfl, kN, hr, fN, e89⟩
  show f_X12_takesE_B22 76 (nI x) (wnt b) N _ Q
  unfold f_X12_takesE_B22
  obtain ⟨rN, s2N, ⟨h3, h4⟩, h5, h6, h7⟩ := id kN
  have hG := rN.1
  have hpn := rN.2.2.1
  have hms : (mI N 76 12).toNatClampNeg = p' := by rw [rN.2.2.2, nI_clamp (by omega)]
  refine ⟨oM hG, next_m rN fun y hy => ?_⟩
  have ey : ∀ u : Int32, 0 ≤ u.toInt → (y = u ↔ c p' = u.toInt) := fun u hu => sn_eq hy hu
  have y33 : y = 33 ↔ c p' = 33 := ey 33 (by decide)
  have y40 : y = 40 ↔ c p' = 40 := ey 40 (by decide)
  have y38 : y = 38 ↔ c p' = 38 := ey 38 (by decide)
  have y124 : y = 124 ↔ c p' = 124 := ey 124 (by decide)
  have y41 : y = 41 ↔ c p' = 41 := ey 41 (by decide)
  have yv : c p' = 33 ∨ c p' = 40 ∨ c p' = 38 ∨ c p' = 124 → y = Int32.ofInt (c p') := by
    intro hh
    rcases hh with e | e | e | e
    · rw [e, y33.mpr e]; decide
    · rw [e, y40.mpr e]; decide
    · rw [e, y38.mpr e]; decide
    · rw [e, y124.mpr e]; decide
  cases b with
  | true =>
    rw [if_neg (show ¬ wnt true = 0 by decide)]
    rcases mrun_inv hr with hm | ⟨s', k', hm, hr'⟩
    all_goals rw [mst_t] at hm
    · -- it ends
      by_cases co : c p' = 33 ∨ c p' = 40
      · rw [if_pos co] at hm
        by_cases o4 : opn W = 4
        case neg => rw [if_neg o4] at hm; cases hm
        rw [if_pos o4] at hm
        injection hm with hm
        subst hm
        have J : f_X12_takesE_J43 76 (nI x) (wnt true) y N (fun z' => (∃ k p' b W O' N, z' = (wnt b, N) ∧ kM w c n p' W O' N ∧ mrun c k (p', b, W, O') = some (false, p', O') ∧ dF w x M N ∧ mI N 89 x = nI (100 * w + O.length)) ∧ 101 - (mI z'.2 76 12).toNatClampNeg < 101 - (mI N 76 12).toNatClampNeg) Q := by
          unfold f_X12_takesE_J43
          refine ⟨oM hG, ?_⟩
          rw [if_pos (by rw [h5, o4]; rfl)]
          exact q N fN e89 rN (fun e => by cases e)
        by_cases c33 : c p' = 33
        · rw [if_pos (y33.mpr c33)]
          unfold f_X12_takesE_J43
          refine ⟨oM hG, ?_⟩
          rw [if_pos (by rw [h5, o4]; rfl)]
          exact q N fN e89 rN (fun e => by cases e)
        · rw [if_neg (fun e => c33 (y33.mp e)), if_pos (y40.mpr (co.resolve_left c33))]
          unfold f_X12_takesE_J43
          refine ⟨oM hG, ?_⟩
          rw [if_pos (by rw [h5, o4]; rfl)]
          exact q N fN e89 rN (fun e => by cases e)
      · rw [if_neg co] at hm
        by_cases ct : (tst c p').1 = true
        · rw [if_pos ct] at hm; cases hm
        rw [if_neg ct] at hm
        injection hm with hm
        subst hm
        rw [if_neg (fun e => co (Or.inl (y33.mp e))), if_neg (fun e => co (Or.inr (y40.mp e)))]
        refine ⟨oM hG, ttest_m hw kN fun M1 f1 r1 t1 => ?_⟩
        rw [if_neg ct]
        exact q M1 (fN.tr (f1.d x)) ((f1.2 89 x (by omega) (by omega) (by omega)).trans e89) r1 (fun e => by cases e)
    · -- it goes on
      by_cases co : c p' = 33 ∨ c p' = 40
      · rw [if_pos co] at hm
        have lp := ne_lt hc (p := p') (by omega)
        by_cases o4 : opn W = 4
        · rw [if_pos o4] at hm; cases hm
        rw [if_neg o4] at hm
        injection hm with hm
        subst hm
        have hopn := opn_le W
        have J : ∀ K : Int32 × Mem → Prop, (∀ N', kM w c n (p' + 1) (c p' :: W) O' N' → eF w N N' → K (wnt true, N')) → f_X12_takesE_J43 76 (nI x) (wnt true) y N K Q := by
          intro K hK
          unfold f_X12_takesE_J43
          refine ⟨oM hG, ?_⟩
          rw [if_neg (show ¬ mI N 76 25 = 4 by rw [h5]; exact fun e => o4 ((nI_eq (b := 4) (by omega) (by omega)).mp e))]
          intro M1 hE1
          rw [h5, nI_1] at hE1
          have hG1 : Good M1 := by rw [hE1]; exact hG
          have a24 : mI M1 76 24 = nI W.length := by rw [hE1, mI_ne _ _ (by omega)]; exact h3
          refine ⟨92, mP_g hG1 rfl, isA_g hG1 (by decide) rfl (by rw [a24]; exact vpN (by omega) (by omega)), fun M2 hE2 M3 hE3 M4 hE4 => ?_⟩
          rw [a24, nI_clamp (by omega)] at hE2
          rw [show mI M2 76 24 = nI W.length by rw [hE2, mI_ne _ _ (by omega)]; exact a24, nI_1] at hE3
          rw [show mI M3 76 12 = nI p' by rw [hE3, mI_ne _ _ (by omega), hE2, mI_ne _ _ (by omega), hE1, mI_ne _ _ (by omega)]; exact rN.2.2.2, nI_1] at hE4
          obtain ⟨g1, g2⟩ := push_k (M1 := M4) kN lp (x := c p') (by omega) (by rw [hE4, hE3, hE2, hE1]; exact Sm.rf N) (by rw [hE4, mI_ne _ _ (by omega), hE3, mI_sI_s]) (by rw [hE4, mI_ne _ _ (by omega), hE3, mI_ne _ _ (by omega), hE2, mI_sI_s]; exact yv (by omega)) (by rw [hE4, mI_ne _ _ (by omega), hE3, mI_ne _ _ (by omega), hE2, mI_ne _ _ (by omega), hE1, mI_sI_s, opn_c, if_pos co]) (by rw [hE4, mI_sI_s]) (fun b j u v => by rw [hE4, mI_ne _ _ (by omega), hE3, mI_ne _ _ (by omega), hE2, mI_ne _ _ (by omega), hE1, mI_ne _ _ (by omega)])
          exact hK M4 g1 g2
        have fin2 : ∀ N', kM w c n (p' + 1) (c p' :: W) O' N' → eF w N N' → ((∃ k p' b W O' N, ((wnt true, N') : Int32 × Mem) = (wnt b, N) ∧ kM w c n p' W O' N ∧ mrun c k (p', b, W, O') = some R ∧ dF w x M N ∧ mI N 89 x = nI (100 * w + O.length)) ∧ 101 - (mI N' 76 12).toNatClampNeg < 101 - (mI N 76 12).toNatClampNeg) := by
          intro N' g1 g2
          refine ⟨⟨k', p' + 1, true, c p' :: W, O', N', rfl, g1, hr', fN.tr (g2.d x), ?_⟩, ?_⟩
          · exact (g2.2 89 x (by omega) (by omega) (by omega)).trans e89
          · rw [hms, g1.1.2.2.2, nI_clamp (by omega)]; omega
        by_cases c33 : c p' = 33
        · rw [if_pos (y33.mpr c33)]
          exact J _ fin2
        · rw [if_neg (fun e => c33 (y33.mp e)), if_pos (y40.mpr (co.resolve_left c33))]
          exact J _ fin2
      · rw [if_neg co] at hm
        by_cases ct : (tst c p').1 = true
        case neg => rw [if_neg ct] at hm; cases hm
        rw [if_pos ct] at hm
        injection hm with hm
        subst hm
        rw [if_neg (fun e => co (Or.inl (y33.mp e))), if_neg (fun e => co (Or.inr (y40.mp e)))]
        have tl := (tst_ok hc hpn).2.2 ct
        refine ⟨oM hG, ttest_m hw kN fun M1 f1 r1 t1 => ?_⟩
        rw [if_pos ct]
        have t1 := t1 ct
        refine ⟨⟨k', _, false, _, _, M1, rfl, t1, hr', fN.tr (f1.d x), ?_⟩, ?_⟩
        · exact (f1.2 89 x (by omega) (by omega) (by omega)).trans e89
        · show 101 - (mI M1 76 12).toNatClampNeg < 101 - (mI N 76 12).toNatClampNeg
          have := r1.2.2.1
          have := tl.1
          rw [hms, r1.2.2.2, nI_clamp (by omega)]; omega
  | false =>
    rw [if_pos (show wnt false = 0 by decide)]
    by_cases co : c p' = 38 ∨ c p' = 124
    · have lp := ne_lt hc (p := p') (by omega)
      rcases mrun_inv hr with hm | ⟨s', k', hm, hr'⟩
      all_goals rw [mst_f, if_pos co] at hm
      · cases hm
      injection hm with hm
      subst hm
      have J : ∀ K : Int32 × Mem → Prop, (∀ N', kM w c n (p' + 1) (c p' :: (stl (c p') W O').1) (stl (c p') W O').2 N' → eF w N N' → K (wnt true, N')) → f_X12_takesE_J122 76 (nI x) y N K Q := by
        intro K hK
        unfold f_X12_takesE_J122
        refine ⟨oM hG, settle_m (b := c p') hw y38 kN fun M1 f1 k1 => ?_⟩
        obtain ⟨l1, -⟩ := stl_len (c p') W O'
        generalize stl (c p') W O' = z at *
        have hG1 := k1.1.1
        have e24 := k1.2.2.1.1
        refine ⟨oM hG1, 92, mP_g hG1 rfl, isA_g hG1 (by decide) rfl (by rw [e24]; exact vpN (by omega) (by omega)), fun M2 hE2 M3 hE3 M4 hE4 => ?_⟩
        rw [e24, nI_clamp (by omega)] at hE2
        rw [show mI M2 76 24 = nI z.1.length by rw [hE2, mI_ne _ _ (by omega)]; exact e24, nI_1] at hE3
        rw [show mI M3 76 12 = nI p' by rw [hE3, mI_ne _ _ (by omega), hE2, mI_ne _ _ (by omega)]; exact k1.1.2.2.2, nI_1] at hE4
        obtain ⟨g1, g2⟩ := push_k (M1 := M4) k1 lp (x := c p') (by omega) (by rw [hE4, hE3, hE2]; exact Sm.rf M1) (by rw [hE4, mI_ne _ _ (by omega), hE3, mI_sI_s]) (by rw [hE4, mI_ne _ _ (by omega), hE3, mI_ne _ _ (by omega), hE2, mI_sI_s]; exact yv (by omega)) (by rw [hE4, mI_ne _ _ (by omega), hE3, mI_ne _ _ (by omega), hE2, mI_ne _ _ (by omega), opn_c, if_neg (by omega)]; exact k1.2.2.2.1) (by rw [hE4, mI_sI_s]) (fun b j u v => by rw [hE4, mI_ne _ _ (by omega), hE3, mI_ne _ _ (by omega), hE2, mI_ne _ _ (by omega)])
        exact hK M4 g1 (f1.tr g2)
      have fin2 : ∀ N', kM w c n (p' + 1) (c p' :: (stl (c p') W O').1) (stl (c p') W O').2 N' → eF w N N' → ((∃ k p' b W O' N, ((wnt true, N') : Int32 × Mem) = (wnt b, N) ∧ kM w c n p' W O' N ∧ mrun c k (p', b, W, O') = some R ∧ dF w x M N ∧ mI N 89 x = nI (100 * w + O.length)) ∧ 101 - (mI N' 76 12).toNatClampNeg < 101 - (mI N 76 12).toNatClampNeg) := by
        intro N' g1 g2
        refine ⟨⟨k', p' + 1, true, _, _, N', rfl, g1, hr', fN.tr (g2.d x), (g2.2 89 x (by omega) (by omega) (by omega)).trans e89⟩, ?_⟩
        rw [hms, g1.1.2.2.2, nI_clamp (by omega)]; omega
      by_cases c38 : c p' = 38
      · rw [if_pos (y38.mpr c38)]
        exact J _ fin2
      · rw [if_neg (fun e => c38 (y38.mp e)), if_pos (y124.mpr (co.resolve_left c38))]
        exact J _ fin2
    · rw [if_neg (fun e => co (Or.inl (y38.mp e))), if_neg (fun e => co (Or.inr (y124.mp e)))]
      refine ⟨oM hG, settle_m (y := 124) (b := 124) hw (by decide) kN fun M1 f1 k1 => ?_⟩
      obtain ⟨l1, l2⟩ := stl_len 124 W O'
      have l2 := l2 h7 (by decide)
      have hm0 := mst_f c p' W O'
      rw [if_neg co] at hm0
      generalize stl 124 W O' = z at *
      obtain ⟨zW, zO⟩ := z
      have hG1 := k1.1.1
      have l1 : zW.length + zO.length = W.length + O'.length := l1
      refine ⟨oM hG1, 90, mP_g hG1 rfl, isA_g hG1 (by decide) rfl (vpN hx (by omega)), fun M2 hE2 => ?_⟩
      have k1s : mI M1 76 23 = nI (100 * w + zO.length) := k1.2.1.1
      rw [nI_clamp (by omega), k1s] at hE2
      have fd : dF w x N M2 := (f1.d x).tr ⟨by rw [hE2]; exact Sm.rf M1, fun b j q r s u => by rw [hE2, mI_ne _ _ (by omega)]⟩
      have k2 : kM w c n p' zW zO M2 := by
        obtain ⟨b1, b2, ⟨b3, b4⟩, b5, b6, b7⟩ := k1
        refine ⟨rdM_mv rN fd.c (by rw [hE2, mI_ne _ _ (by omega)]; exact b1.2.2.2) hpn, ⟨by rw [hE2, mI_ne _ _ (by omega)]; exact b2.1, fun k t e => by rw [hE2, mI_ne _ _ (by omega)]; exact b2.2 k t e⟩, ⟨by rw [hE2, mI_ne _ _ (by omega)]; exact b3, fun i u e => by rw [hE2, mI_ne _ _ (by omega)]; exact b4 i u e⟩, by rw [hE2, mI_ne _ _ (by omega)]; exact b5, b6, b7⟩
      have e89' : mI M2 89 x = nI (100 * w + O.length) := by rw [hE2, mI_ne _ _ (by omega), f1.2 89 x (by omega) (by omega) (by omega)]; exact e89
      have e24 : mI M2 76 24 = nI zW.length := k2.2.2.1.1
      cases zW with
      | nil =>
        rw [if_pos rfl] at hm0
        rw [if_pos (by rw [e24]; rfl)]
        have hR : R = (true, p', zO) := by
          rcases mrun_inv hr with hm | ⟨s', k', hm, hr'⟩
          · rw [hm0] at hm; injection hm with hm; exact hm.symm
          · rw [hm0] at hm; cases hm
        subst hR
        exact q M2 (fN.tr fd) e89' k2.1 (fun _ => ⟨k2.2.1, by rw [hE2, mI_sI_s]⟩)
      | cons u zW =>
        rw [if_neg (show ¬ ((u :: zW, zO) : List Int × List Int).1 = [] from fun e => by cases e)] at hm0
        have hu := l2 u zW rfl
        obtain ⟨b1, b2, b3, b4⟩ := kM_top k2
        have e24 : mI M2 76 24 = nI (zW.length + 1) := b1
        rw [if_neg (show ¬ mI M2 76 24 = 0 by rw [e24]; exact nI_ne0 (by omega) (by omega))]
        by_cases c41 : c p' = 41
        · rw [if_pos c41] at hm0
          rw [if_pos (y41.mpr c41)]
          have lp := ne_lt hc (p := p') (by omega)
          obtain ⟨k', hr'⟩ : ∃ k', mrun c k' (p' + 1, false, (wh zW zO).1, (wh zW zO).2) = some R := by
            rcases mrun_inv hr with hm | ⟨s', k', hm, hr'⟩
            · rw [hm0] at hm; cases hm
            · rw [hm0] at hm; injection hm with hm; subst hm; exact ⟨k', hr'⟩
          intro M3 hE3 M4 hE4 M5 hE5
          rw [e24, nI_pred] at hE3
          have o1 : opn (u :: zW) = opn zW + 1 := by rw [opn_c, if_pos hu]
          rw [show mI M3 76 25 = nI (opn zW + 1) by rw [hE3, mI_ne _ _ (by omega), k2.2.2.2.1, o1], nI_pred] at hE4
          rw [show mI M4 76 12 = nI p' by rw [hE4, mI_ne _ _ (by omega), hE3, mI_ne _ _ (by omega)]; exact k2.1.2.2.2, nI_1] at hE5
          have f5 : eF w M2 M5 := ⟨by rw [hE5, hE4, hE3]; exact Sm.rf M2, fun b j q r s => by rw [hE5, mI_ne _ _ (by omega), hE4, mI_ne _ _ (by omega), hE3, mI_ne _ _ (by omega)]⟩
          have k5 : kM w c n (p' + 1) zW zO M5 := by
            obtain ⟨b1, b2, ⟨b3, b4⟩, b5, b6, b7⟩ := k2
            have b6 : zO.length + (zW.length + 1) ≤ p' := b6
            refine ⟨rdM_mv b1 (f5.d 0).c (by rw [hE5, mI_sI_s]) (by omega), ⟨by rw [hE5, mI_ne _ _ (by omega), hE4, mI_ne _ _ (by omega), hE3, mI_ne _ _ (by omega)]; exact b2.1, fun k t e => ?_⟩, ⟨by rw [hE5, mI_ne _ _ (by omega), hE4, mI_ne _ _ (by omega), hE3, mI_sI_s], fun i v e => ?_⟩, by rw [hE5, mI_ne _ _ (by omega), hE4, mI_sI_s], by omega, fun v hv => b7 v (List.mem_cons_of_mem _ hv)⟩
            · rw [hE5, mI_ne _ _ (by omega), hE4, mI_ne _ _ (by omega), hE3, mI_ne _ _ (by omega)]; exact b2.2 k t e
            · rw [hE5, mI_ne _ _ (by omega), hE4, mI_ne _ _ (by omega), hE3, mI_ne _ _ (by omega)]; exact b4 i v (rev_sub e)
          refine whole_m hw k5 fun M6 f6 k6 => ?_
          refine ⟨⟨k', p' + 1, false, _, _, M6, rfl, k6, hr', fN.tr (fd.tr ((f5.tr f6).d x)), ?_⟩, ?_⟩
          · exact ((f5.tr f6).2 89 x (by omega) (by omega) (by omega)).trans e89'
          · show 101 - (mI M6 76 12).toNatClampNeg < 101 - (mI N 76 12).toNatClampNeg
            rw [hms, k6.1.2.2.2, nI_clamp (by omega)]; omega
        · rw [if_neg c41] at hm0
          rw [if_neg (fun e => c41 (y41.mp e))]
          have hR : R = (false, p', zO) := by
            rcases mrun_inv hr with hm | ⟨s', k', hm, hr'⟩
            · rw [hm0] at hm; injection hm with hm; exact hm.symm
            · rw [hm0] at hm; cases hm
          subst hR
          exact q M2 (fN.tr fd) e89' k2.1 (fun e => by cases e)
