/-! ===== the hour of the model: choose ===== -/
theorem rM_fr {X : Nat → Nat → Nat} {sk : Bool} {ns now : Nat} {S : HS} {M M1 : Mem} (h : rM X sk S M) (hw : hW X ns now S) (f : ∀ a j, (a = 76 ∧ (31 ≤ j ∧ j < 35 ∨ j = 40)) ∨ (97 ≤ a ∧ a < 103 ∧ j < (hcm S).length) ∨ (103 ≤ a ∧ a < 108) → mI M1 a j = mI M a j) : rM X sk S M1 := by
  obtain ⟨⟨a1, a2, a3, a4, a5⟩, a6, a7, a8, a9⟩ := h
  obtain ⟨-, -, -, v4, -⟩ := hw
  refine ⟨⟨(f _ _ (by omega)).trans a1, (f _ _ (by omega)).trans a2, (f _ _ (by omega)).trans a3, (f _ _ (by omega)).trans a4, fun e => (f _ _ (by omega)).trans (a5 e)⟩, fun i hi => ?_, fun k e he => ?_, fun i hi hn => ?_, fun l hl => ?_⟩
  · rw [f 97 i (by omega), f 98 i (by omega), f 99 i (by omega), f 100 i (by omega)]; exact a6 i hi
  · have := (v4 e (List.mem_of_getElem? he)).1
    rw [f 106 k (by omega), f 107 k (by omega), f 101 e.1 (by omega), f 102 e.1 (by omega)]; exact a7 k e he
  · rw [f 101 i (by omega), f 102 i (by omega)]; exact a8 i hi hn
  · obtain ⟨hd, g1, g2, g3, g4⟩ := a9 l hl
    exact ⟨hd, g1, (f _ _ (by omega)).trans g2, (f _ _ (by omega)).trans g3, fun k i hi => (f _ _ (by omega)).trans (g4 k i hi)⟩
theorem choose_m {X : Nat → Nat → Nat} {ns r now s : Nat} {cl : List Cl} {sk : Bool} {S : HS} {M : Mem} {Q : Int32 → Mem → Prop} (h : mC X ns r cl M) (rm : rM X sk S M) (hw : hW X ns now S) (hn : mI M 76 39 = nI now) (hnow : now ≤ 1700) (hs : s < ns) (e97 : mI M 97 (hcm S).length = nI s) (q : ∀ M1, GF M M1 → (∀ a j, ¬ (a = 100 ∧ j = (hcm S).length) → mI M1 a j = mI M a j) → mI M1 100 (hcm S).length = nI (hpd X now s S) → Q (nI (hli X now s S)) M1) : f_X12_choose 76 (nI r) (nI (hcm S).length) M Q := by
  obtain ⟨hG, ⟨hx, ⟨mx0, mx⟩, mo, -, -⟩, h35, h36, h37⟩ := id h
  obtain ⟨b1, b2, b3, b4, b5, b6, b7⟩ := hW_len hx hw
  have hns := hx.1
  obtain ⟨x0, x1, x2, -⟩ := hx.2.1 s hs
  have hk6 := hx.2.2.1
  have hv9 := hx.2.2.2.2.1
  have hx5 := hx.2.2.2.2.2.2.2.2
  have hask' := hask_le hx (show (hq S 1).length ≤ 40 by omega)
  have hd := hdue_le (s := s) hx (show (hq S 1).length ≤ 40 by omega)
  have hr : r ≤ 10 := by rcases mo with ⟨h, -⟩ | ⟨h, -⟩ <;> omega
  have vs : vp_in (nI s) 6 := vpN (by omega) (by omega)
  have es : (nI s).toNatClampNeg = s := nI_clamp (by omega)
  have vr : vp_in (nI r) 11 := vpN (by omega) (by omega)
  have er : (nI r).toNatClampNeg = r := nI_clamp (by omega)
  have vi : vp_in (nI (hcm S).length) 41 := vpN (by omega) (by omega)
  have ei : (nI (hcm S).length).toNatClampNeg = (hcm S).length := nI_clamp (by omega)
  have rl := rm.2.2.2.2
  -- the memory behind paid[i] = 0
  have key : ∀ kd : Int32, kd = nI (X 4 0) → f_X12_choose_J23 76 (nI r) (nI (hcm S).length) (nI s) kd M Q := by
    rintro kd rfl
    have J89 : ∀ po : Int32, (po = 0 ↔ ¬ (X 4 0 = 4 ∧ X 2 s < hask X (hq S 1).length)) → f_X12_choose_J89 76 (nI r) (nI (hcm S).length) (nI s) (nI (X 4 0)) (nI (hask X (hq S 1).length)) po (nI (hdue X s (hq S 1).length)) M Q := by
      intro po hpo
      unfold f_X12_choose_J89
      refine ⟨oM hG, 100, mP_g hG rfl, isA_g hG (by decide) rfl vi, ?_⟩
      rw [ei]
      intro N hE
      have fN : GF M N := by rw [hE]; exact (GF.rf M).st _ (by omega)
      have eN : ∀ a j, ¬ (a = 100 ∧ j = (hcm S).length) → mI N a j = mI M a j := fun a j c => by rw [hE, mI_ne _ _ (by omega)]
      have zN : mI N 100 (hcm S).length = 0 := by rw [hE, mI_sI_s]
      clear hE
      have hN := mC_fr h fN
      have rN : rM X sk S N := rM_fr rm hw (fun a j c => eN a j (by omega))
      have hGN := hN.1
      have rlN := rN.2.2.2.2
      have E0 : ∀ li, hli X now s S = li → li ≠ 1 → Q (nI li) N := by
        rintro li rfl hne
        refine q N fN eN ?_
        unfold hpd; rw [if_neg hne]; exact zN
      have E1 : hli X now s S = 1 → ∀ N1, N1 = sI N 100 (hcm S).length (nI (hdue X s (hq S 1).length)) → Q (nI 1) N1 := by
        intro e1 N1 hE1
        rw [← e1]
        refine q N1 (by rw [hE1]; exact fN.st _ (by omega)) (fun a j c => by rw [hE1, mI_ne _ _ (by omega)]; exact eN a j c) ?_
        unfold hpd; rw [if_pos e1, hE1, mI_sI_s]
      unfold hli hln at E0 E1
      generalize hD : hdue X s (hq S 1).length = D at *
      generalize hP : hask X (hq S 1).length = p at *
      have hDp : (X 4 0 = 4 ∧ X 2 s < p → D = 0) ∧ (¬ (X 4 0 = 4 ∧ X 2 s < p) → D = p) := by
        constructor
        · intro c; rw [← hD]; unfold hdue; rw [hP, if_pos c]
        · intro c; rw [← hD]; unfold hdue; rw [hP, if_neg c]
      have J165 : (∀ li, hch X s (hq S 0).length (hq S 1).length (hbz S - now) (qtm X (hcm S) (hq S 0)) (qtm X (hcm S) (hq S 1)) = li → li ≠ 1 → Q (nI li) N) → (hch X s (hq S 0).length (hq S 1).length (hbz S - now) (qtm X (hcm S) (hq S 0)) (qtm X (hcm S) (hq S 1)) = 1 → ∀ N1, N1 = sI N 100 (hcm S).length (nI D) → Q (nI 1) N1) → f_X12_choose_J165 76 (nI r) (nI (hcm S).length) (nI s) (nI (X 4 0)) (nI p) po (nI D) N Q := by
        intro F0 F1
        unfold hch at F0 F1
        rw [hD] at F0 F1
        have J193 : ¬ (X 4 0 = 5 ∧ X 4 1 ≤ (hq S 0).length + (hq S 1).length) → f_X12_choose_J193 76 (nI r) (nI (hcm S).length) (nI s) (nI (X 4 0)) (nI p) po (nI D) N Q := by
          intro c5
          rw [if_neg c5] at F0 F1
          have J217 : f_X12_choose_J217 76 (nI r) (nI (hcm S).length) (nI s) (nI (X 4 0)) (nI p) po (nI D) (nI (hbz S - now)) N Q := by
            generalize hY : hbz S - now = Y at *
            unfold f_X12_choose_J217
            refine ⟨oM hGN, timesM hN rN hw (l := 0) (by omega) ⟨oM hGN, timesM hN rN hw (l := 1) (by omega) ?_⟩⟩
            have ha := hahd_le X Y (qtm X (hcm S) (hq S 0)) (qtm X (hcm S) (hq S 1))
            have J259 : f_X12_choose_J259 76 (nI r) (nI (hcm S).length) (nI s) (nI p) po (nI D) (nI (Y + qtm X (hcm S) (hq S 0) + qtm X (hcm S) (hq S 1))) (nI (hahd X Y (qtm X (hcm S) (hq S 0)) (qtm X (hcm S) (hq S 1)))) N Q := by
              generalize hahd X Y (qtm X (hcm S) (hq S 0)) (qtm X (hcm S) (hq S 1)) = A at *
              generalize hF : Y + qtm X (hcm S) (hq S 0) + qtm X (hcm S) (hq S 1) = F at *
              have w1 : X 0 s * A ≤ 9 * 4620 := Nat.mul_le_mul x0 (by omega)
              have w2 : X 0 s * F ≤ 9 * 4620 := Nat.mul_le_mul x0 (by omega)
              unfold f_X12_choose_J259
              refine ⟨oM hGN, 77, mP_g hGN rfl, isA_g hGN (by decide) rfl vs, isA_g hGN (by decide) rfl vs, ?_⟩
              have g77 : mI N 77 s = nI (X 0 s) := (eN _ _ (by omega)).trans (mx s hs 0 (by omega))
              have g78 : mI N 78 s = nI (X 1 s) := (eN _ _ (by omega)).trans (mx s hs 1 (by omega))
              have g79 : mI N 79 s = nI (X 2 s) := (eN _ _ (by omega)).trans (mx s hs 2 (by omega))
              rw [es, g77, nI_mul, nI_mul, nI_add]
              generalize hCF : X 0 s * F = CF at *
              generalize hCP : X 0 s * A + D = CP at *
              have bF : CF ≤ 50000 := by omega
              have bP : CP ≤ 50000 := by omega
              have J332 : ¬ (D ≤ X 2 s ∧ CP < CF) → f_X12_choose_J332 76 (nI r) (nI (hcm S).length) (nI s) (nI CF) N Q := by
                intro c
                rw [if_neg c] at F0
                unfold f_X12_choose_J332
                refine ⟨oM hGN, 78, mP_g hGN rfl, isA_g hGN (by decide) rfl vs, ?_⟩
                rw [es, g78]
                by_cases cc : X 1 s < CF
                · rw [if_neg (nI_ge cc (by omega))]; rw [if_pos cc] at F0; exact F0 2 rfl (by omega)
                · rw [if_pos (nI_le (by omega) (by omega))]; rw [if_neg cc] at F0; exact F0 0 rfl (by omega)
              have J302 : D ≤ X 2 s → f_X12_choose_J302 76 (nI r) (nI (hcm S).length) (nI s) (nI D) (nI CF) (nI CP) N Q := by
                intro cD
                unfold f_X12_choose_J302
                by_cases cc : CP < CF
                · rw [if_neg (nI_ge cc (by omega))]
                  rw [if_pos (show D ≤ X 2 s ∧ CP < CF from ⟨cD, cc⟩)] at F0 F1
                  refine ⟨oM hGN, 78, mP_g hGN rfl, isA_g hGN (by decide) rfl vs, ?_⟩
                  rw [es, g78]
                  by_cases c2 : X 1 s < CP
                  · rw [if_neg (nI_ge c2 (by omega))]; rw [if_pos c2] at F0; exact F0 2 rfl (by omega)
                  · rw [if_pos (nI_le (by omega) (by omega))]
                    rw [if_neg c2] at F1
                    refine ⟨100, mP_g hGN rfl, isA_g hGN (by decide) rfl vi, ?_⟩
                    rw [ei]
                    exact F1 rfl
                · rw [if_pos (nI_le (by omega) (by omega))]
                  exact J332 (fun z => cc z.2)
              by_cases cp : X 4 0 = 4 ∧ X 2 s < p
              · rw [if_neg (fun z => (hpo.mp z) cp)]
                exact J302 (by have := hDp.1 cp; omega)
              · rw [if_pos (hpo.mpr cp)]
                refine ⟨79, mP_g hGN rfl, isA_g hGN (by decide) rfl vs, ?_⟩
                rw [g79]
                have := hDp.2 cp
                by_cases c2 : X 2 s < p
                · rw [if_pos (nI_lt c2 (by omega))]; exact J332 (by omega)
                · rw [if_neg (nI_nlt (by omega) (by omega))]; exact J302 (by omega)
            unfold f_X12_choose_J246
            by_cases k0 : X 4 0 = 0
            · rw [if_pos (by rw [k0]; rfl), nI_add, nI_add]
              unfold hahd at J259
              rw [if_pos (by omega)] at J259; exact J259
            rw [if_neg (nn_0 k0 (by omega))]
            by_cases k5 : X 4 0 = 5
            · rw [if_pos (by rw [k5]; rfl), nI_add, nI_add]
              unfold hahd at J259
              rw [if_pos (by omega)] at J259; exact J259
            rw [if_neg (show ¬ nI (X 4 0) = (5 : Int32) from fun z => k5 ((nI_eq (b := 5) (by omega) (by omega)).mp z))]
            refine ⟨oM hGN, timesM hN rN hw (l := 1) (by omega) ?_⟩
            rw [nI_add, nI_add, nI_add]
            unfold hahd at J259
            rw [if_neg (by omega)] at J259; exact J259
          unfold f_X12_choose_J193
          refine ⟨oM hGN, ?_⟩
          have n39 : mI N 76 39 = nI now := (eN _ _ (by omega)).trans hn
          rw [rN.1.2.2.1, n39]
          by_cases cb : hbz S ≤ now
          · rw [if_pos (nI_le cb (by omega))]
            rw [show hbz S - now = 0 by omega] at J217; exact J217
          · rw [if_neg (nI_ge (by omega) (by omega)), pk_sub (by omega)]; exact J217
        unfold f_X12_choose_J165
        by_cases k5 : X 4 0 = 5
        · rw [if_pos (by rw [k5]; rfl)]
          refine ⟨oM hGN, stand_m hGN rlN (l := 0) (by omega) ⟨oM hGN, stand_m hGN rlN (l := 1) (by omega) ⟨oM hGN, 95, mP_g hGN rfl, isA_g hGN (by decide) rfl vr, ?_⟩⟩⟩
          rcases mo with ⟨-, z⟩ | ⟨z1, z2, z3, z4⟩
          · omega
          rw [er, eN _ _ (by omega), z3, nI_add]
          by_cases cv : X 4 1 ≤ (hq S 0).length + (hq S 1).length
          · rw [if_neg (nI_nlt cv (by omega))]
            rw [if_pos (show X 4 0 = 5 ∧ X 4 1 ≤ (hq S 0).length + (hq S 1).length from ⟨k5, cv⟩)] at F0
            exact F0 2 rfl (by omega)
          · rw [if_pos (nI_lt (by omega) (by omega))]
            exact J193 (fun z => cv z.2)
        · rw [if_neg (show ¬ nI (X 4 0) = (5 : Int32) from fun z => k5 ((nI_eq (b := 5) (by omega) (by omega)).mp z))]
          exact J193 (fun z => k5 z.1)
      have J165' : ¬ htd X (hcm S).length = 1 → ¬ htd X (hcm S).length = 3 → ¬ (htd X (hcm S).length = 2 ∧ D ≤ X 2 s) → f_X12_choose_J165 76 (nI r) (nI (hcm S).length) (nI s) (nI (X 4 0)) (nI p) po (nI D) N Q := by
        intro c1 c3 c2
        rw [if_neg c1, if_neg c3, if_neg c2] at E0 E1
        exact J165 E0 E1
      by_cases k6 : X 4 0 = 6
      · rw [if_pos (by rw [k6]; rfl)]
        by_cases c10 : (hcm S).length < 10
        · rw [if_neg (show ¬ (10 : Int32) ≤ nI (hcm S).length from nI_ge (b := 10) c10 (by omega))]
          rcases mo with ⟨-, z⟩ | ⟨z1, z2, z3, z4⟩
          · omega
          have ht : htd X (hcm S).length = X 5 (hcm S).length := by unfold htd; rw [if_pos ⟨k6, c10⟩]
          have h5 := hx5 _ c10
          have zi := z4 k6 _ c10
          rw [ht] at E0 E1 J165'
          refine ⟨96, mP_g hGN rfl, ?_⟩
          rw [show (10 : Int32) = nI 10 from rfl, nI_mul, nI_add, nI_clamp (by omega), eN 96 _ (by omega)]
          refine ⟨isA_g hGN (by decide) rfl (vpN (by omega) (by omega)), ?_⟩
          generalize mI M 96 (10 * r + (hcm S).length) = x at *
          generalize X 5 (hcm S).length = T at *
          have ex : ∀ n : Nat, n < 100 → x.toInt = (n : Int) → x = nI n := fun n hn e => nI_of_toInt e (by omega)
          by_cases d1 : T = 1
          · subst d1
            rw [if_pos rfl] at E0
            obtain rfl := ex 0 (by omega) (by omega)
            rw [if_pos nI_0]; exact E0 0 rfl (by omega)
          have hx0 : ¬ x = 0 := fun z => by rw [z] at zi; have : (0 : Int32).toInt = 0 := rfl; omega
          rw [if_neg hx0]
          by_cases d3 : T = 3
          · subst d3
            rw [if_neg (by decide), if_pos rfl] at E0
            obtain rfl := ex 2 (by omega) (by omega)
            rw [if_pos (show nI 2 = (2 : Int32) from rfl)]; exact E0 2 rfl (by omega)
          have hx2 : ¬ x = 2 := fun z => by rw [z] at zi; have : (2 : Int32).toInt = 2 := rfl; omega
          rw [if_neg hx2]
          by_cases d2 : T = 2
          · subst d2
            obtain rfl := ex 1 (by omega) (by omega)
            rw [if_pos (show nI 1 = (1 : Int32) from rfl)]
            have g79 : mI N 79 s = nI (X 2 s) := (eN _ _ (by omega)).trans (mx s hs 2 (by omega))
            refine ⟨79, mP_g hGN rfl, isA_g hGN (by decide) rfl vs, ?_⟩
            rw [es, g79]
            have hDp2 := hDp.2 (by omega)
            by_cases c2 : X 2 s < p
            · rw [if_pos (nI_lt c2 (by omega))]
              exact J165' (by omega) (by omega) (by omega)
            · rw [if_neg (nI_nlt (by omega) (by omega))]
              refine ⟨isA_g hGN (by decide) rfl vi, ?_⟩
              rw [if_neg (by decide), if_neg (by decide), if_pos ⟨rfl, by omega⟩] at E1
              rw [← hDp2]
              exact E1 rfl
          · have hx1 : ¬ x = 1 := fun z => by rw [z] at zi; have : (1 : Int32).toInt = 1 := rfl; omega
            rw [if_neg hx1]
            exact J165' d1 d3 (fun z => d2 z.1)
        · rw [if_pos (show (10 : Int32) ≤ nI (hcm S).length from nI_le (a := 10) (by omega) (by omega))]
          have ht : htd X (hcm S).length = 0 := by unfold htd; rw [if_neg (by omega)]
          exact J165' (by omega) (by omega) (by omega)
      · rw [if_neg (show ¬ nI (X 4 0) = (6 : Int32) from fun z => k6 ((nI_eq (b := 6) (by omega) (by omega)).mp z))]
        have ht : htd X (hcm S).length = 0 := by unfold htd; rw [if_neg (by omega)]
        exact J165' (by omega) (by omega) (by omega)
    have J76 : ∀ po : Int32, (po = 0 ↔ ¬ (X 4 0 = 4 ∧ X 2 s < hask X (hq S 1).length)) → f_X12_choose_J76 76 (nI r) (nI (hcm S).length) (nI s) (nI (X 4 0)) (nI (hask X (hq S 1).length)) po M Q := by
      intro po hpo
      have g := J89 po hpo
      unfold f_X12_choose_J76
      by_cases cp : X 4 0 = 4 ∧ X 2 s < hask X (hq S 1).length
      · rw [if_neg (fun z => (hpo.mp z) cp)]
        have : hdue X s (hq S 1).length = 0 := by unfold hdue; rw [if_pos cp]
        rw [this] at g; exact g
      · rw [if_pos (hpo.mpr cp)]
        have : hdue X s (hq S 1).length = hask X (hq S 1).length := by unfold hdue; rw [if_neg cp]
        rw [this] at g; exact g
    have J51 : ∀ a b : Int32, b + a = nI (hask X (hq S 1).length) → f_X12_choose_J51 76 (nI r) (nI (hcm S).length) (nI s) (nI (X 4 0)) a b M Q := by
      intro a b hab
      unfold f_X12_choose_J51 f_X12_choose_J75
      rw [hab]
      by_cases k4 : X 4 0 = 4
      · rw [if_pos (by rw [k4]; rfl)]
        refine ⟨oM hG, 79, mP_g hG rfl, isA_g hG (by decide) rfl vs, ?_⟩
        rw [es, show (79 : Nat) = 77 + 2 from rfl, mx s hs 2 (by omega)]
        by_cases c : hask X (hq S 1).length ≤ X 2 s
        · rw [if_pos (nI_le c (by omega))]
          exact J76 0 ⟨fun _ z => by omega, fun _ => rfl⟩
        · rw [if_neg (nI_ge (by omega) (by omega))]
          exact J76 1 ⟨fun z => absurd z (by decide), fun z => absurd ⟨k4, by omega⟩ z⟩
      · rw [if_neg (show ¬ nI (X 4 0) = (4 : Int32) from fun z => k4 ((nI_eq (b := 4) (by omega) (by omega)).mp z))]
        exact J76 0 ⟨fun _ z => k4 z.1, fun _ => rfl⟩
    unfold f_X12_choose_J23
    refine ⟨oM hG, ?_⟩
    rw [h35]
    by_cases k3 : X 4 0 = 3
    · rw [if_pos (by rw [k3]; rfl)]
      rcases mo with ⟨-, z⟩ | ⟨z1, z2, z3, z4⟩
      · omega
      refine ⟨95, mP_g hG rfl, isA_g hG (by decide) rfl vr, stand_m hG rl (l := 1) (by omega) (J51 _ _ ?_)⟩
      rw [er, z3, nI_mul, nI_add]
      unfold hask; rw [if_pos k3]
    · rw [if_neg (show ¬ nI (X 4 0) = (3 : Int32) from fun z => k3 ((nI_eq (b := 3) (by omega) (by omega)).mp z))]
      refine J51 _ _ ?_
      unfold hask; rw [if_neg k3]
      exact Int32.add_zero _
  unfold f_X12_choose
  refine ⟨oM hG, 97, mP_g hG rfl, isA_g hG (by decide) rfl vi, ?_⟩
  rw [ei, e97]
  rcases mo with ⟨rfl, z⟩ | ⟨z1, z2, z3, z4⟩
  · rw [if_pos (show nI 10 = (10 : Int32) from rfl)]
    exact key 0 (by rw [z]; rfl)
  · rw [if_neg (show ¬ nI r = (10 : Int32) from fun z => by have := (nI_eq (b := 10) (by omega) (by omega)).mp z; omega)]
    refine ⟨94, mP_g hG rfl, isA_g hG (by decide) rfl vr, ?_⟩
    rw [er]
    exact key _ z2
