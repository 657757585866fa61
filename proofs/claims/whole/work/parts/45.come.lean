/-! ===== who comes, by the class ===== -/
theorem tks_cms {cl : List Cl} (h : ∀ c, c ∈ cl → c.1 ≠ 0 → c.2.2 = []) : tks (cms cl) = tks cl := by
  induction cl with
  | nil => rfl
  | cons c r ih =>
    have ih := ih (fun d hd => h d (List.mem_cons_of_mem _ hd))
    unfold cms tks at *
    rw [List.filter_cons, List.flatMap_cons]
    by_cases e : c.1 = 0
    · rw [if_pos (by rw [e]; rfl), List.flatMap_cons, ih]
    · rw [if_neg (by simpa using e), ih, h c (List.mem_cons_self ..) e]; rfl
theorem tks_app (a b : List Cl) : tks (a ++ b) = tks a ++ tks b := List.flatMap_append
theorem tks_one (c : Cl) : tks [c] = c.2.2 := by unfold tks; rw [List.flatMap_cons]; exact List.append_nil _
theorem tks_at {cs : List Cl} {j i : Nat} {c : Cl} {x : Int} (h : cs[j]? = some c) (hi : c.2.2[i]? = some x) : (tks cs)[(tks (cs.take j)).length + i]? = some x := by
  have hj := (List.getElem?_eq_some_iff.mp h).1
  have e : cs = cs.take j ++ ([c] ++ cs.drop (j + 1)) := by
    rw [← List.append_assoc, ← take_one h, List.take_append_drop]
  have hi2 := (List.getElem?_eq_some_iff.mp hi).1
  have : tks cs = tks (cs.take j) ++ (c.2.2 ++ tks (cs.drop (j + 1))) := by
    rw [← tks_one c, ← tks_app, ← tks_app, ← e]
  rw [this, List.getElem?_append_right (by omega), show (tks (cs.take j)).length + i - (tks (cs.take j)).length = i by omega, List.getElem?_append_left hi2]
  exact hi
theorem tks_tk {cs : List Cl} {j : Nat} {c : Cl} (h : cs[j]? = some c) : (tks (cs.take (j + 1))).length = (tks (cs.take j)).length + c.2.2.length := by
  rw [take_one h, tks_app, tks_one, List.length_append]
theorem tks_tl (cs : List Cl) (j : Nat) : (tks (cs.take j)).length ≤ (tks cs).length := by
  have : tks cs = tks (cs.take j) ++ tks (cs.drop j) := by rw [← tks_app, List.take_append_drop]
  rw [this, List.length_append]; omega
theorem cms_in {cl : List Cl} {c : Cl} (h : c ∈ cms cl) : c ∈ cl ∧ c.1 = 0 := by
  unfold cms at h
  obtain ⟨h1, h2⟩ := List.mem_filter.mp h
  exact ⟨h1, by simpa using h2⟩
theorem cms_len (cl : List Cl) : (cms cl).length ≤ cl.length := List.length_filter_le ..
theorem calls_c {w s t l f n : Nat} {cl : List Cl} {M : Mem} {Q : Bool → Mem → Prop} (hw : wO w M) (hc : wC M w cl) (hf : WFc cl) (hs : s < 6) (h1 : t < 2 ^ 31) (h2 : l < 2 ^ 31) (h3 : f < 2 ^ 31) (h4 : n < 2 ^ 31) (q : Q (cll cl s t l f n) M) : f_X10_calls w (nI s) (nI t) (nI l) (nI f) (nI n) M Q := by
  obtain ⟨-, w1, ⟨p4, p5, p6⟩, a1, a2, a3⟩ := id hw
  obtain ⟨-, -, -, k3, k4, k5⟩ := hc
  obtain ⟨f1, f2, f3⟩ := hf
  have hcl := cms_len cl
  have hct : tks (cms cl) = tks cl := tks_cms (fun c hc e => ((f3 c hc).2.2 e).2)
  unfold cll at q
  unfold f_X10_calls f_X10_calls_L3
  refine cnt (cms cl).length (by omega) (fun k N => N = M ∧ ((cms cl).take k).any (fun c => c.2.1 == s && hld t l f n c.2.2) = false) ⟨rfl, rfl⟩ ?_
  rintro K k N hk ⟨rfl, hI⟩ hK
  show f_X10_calls_B3 w (nI s) (nI t) (nI l) (nI f) (nI n) (nI k) N K Q
  unfold f_X10_calls_B3
  refine ⟨w1, ?_⟩
  rw [k3]
  by_cases hkl : k < (cms cl).length
  · rw [if_neg (nI_ge hkl (by omega))]
    obtain ⟨c, hc⟩ : ∃ c, (cms cl)[k]? = some c := ⟨(cms cl)[k], List.getElem?_eq_getElem hkl⟩
    obtain ⟨m1, m2⟩ := k4 k c hc
    obtain ⟨i1, i2⟩ := cms_in (List.mem_of_getElem? hc)
    obtain ⟨g1, g2⟩ := (f3 c i1).2.1 i2
    have hK2 := hK hkl
    have e1 := tks_tk hc
    have e2 := tks_tl (cms cl) (k + 1)
    rw [hct] at e2
    have J30 : f_X10_calls_J30 w (nI s) (nI t) (nI l) (nI f) (nI n) (nI k) (nI (tks ((cms cl).take k)).length) N K Q := by
      unfold f_X10_calls_J30 f_X10_calls_J67
      have vk : vp_in (nI k) 8 := vpN (by omega) (by omega)
      refine ⟨w1, w + 1, p4, ⟨8, a1, vk⟩, ?_⟩
      rw [nI_clamp (by omega), m1]
      have e3 : ((cms cl).take (k + 1)).any (fun c => c.2.1 == s && hld t l f n c.2.2) = (c.2.1 == s && hld t l f n c.2.2) := by
        rw [take_one hc, List.any_append, hI]; simp
      by_cases c1 : c.2.1 = s
      · rw [if_pos (by rw [c1])]
        refine ⟨w + 2, p5, ⟨8, a2, vk⟩, ?_⟩
        rw [m2, e1]
        refine holds_c hw g2 (by omega) (fun i x hx => k5 _ x ?_) h1 h2 h3 h4 ?_
        · rw [← hct]; exact tks_at hc hx
        · by_cases cc : hld t l f n c.2.2 = true
          · rw [if_pos cc]
            have : (cms cl).any (fun c => c.2.1 == s && hld t l f n c.2.2) = true := List.any_eq_true.mpr ⟨c, List.mem_of_getElem? hc, by rw [c1, cc]; simp⟩
            rw [this] at q; exact q
          · rw [if_neg cc]
            exact hK2 N ⟨rfl, by rw [e3, Bool.eq_false_iff.mpr cc, Bool.and_false]⟩
      · rw [if_neg (by rw [nI_eq (by omega) (by omega)]; exact c1)]
        exact hK2 N ⟨rfl, by rw [e3]; simp [c1]⟩
    by_cases c0 : k = 0
    · subst c0
      rw [if_pos nI_0]; exact J30
    · rw [if_neg (nn_0 c0 (by omega))]
      obtain ⟨k', rfl⟩ : ∃ k', k = k' + 1 := ⟨k - 1, by omega⟩
      refine ⟨w + 2, p5, ?_⟩
      rw [nI_pred]
      refine ⟨⟨8, a2, vpN (by omega) (by omega)⟩, ?_⟩
      obtain ⟨c', hc'⟩ : ∃ c, (cms cl)[k']? = some c := ⟨(cms cl)[k'], List.getElem?_eq_getElem (by omega)⟩
      rw [nI_clamp (by omega), (k4 k' c' hc').2]
      exact J30
  · obtain rfl : k = (cms cl).length := by omega
    rw [if_pos (nI_le (Nat.le_refl _) (by omega))]
    rw [List.take_length] at hI
    rw [hI] at q; exact q
theorem room_c {X : Nat → Nat → Nat} {ns oa w now : Nat} {cl : List Cl} {S : HS} {M : Mem} {Q : Bool → Mem → Prop} (h : cC X ns oa w cl M) (r : rC X S M) (hw : hW X ns now S) (q : Q (decide ((hcm S).length < X 4 4)) M) : f_X3_roomForMore 29 M Q := by
  obtain ⟨hG, hx, -, -, h5, h6, -, h8, -, h10, -, -⟩ := h
  have hb := (hW_len hx hw).1
  have hmx := hx.2.2.2.2.2.2.2.1
  unfold f_X3_roomForMore
  refine ⟨oH hG, w, h10, h5.2.1, ?_⟩
  have e : mI M w 2 = nI (X 4 4) := by rw [h8]; exact h6.2.2.1
  rw [e, r.1.1]
  by_cases c : (hcm S).length < X 4 4
  · rw [decide_eq_true c] at q
    rw [if_neg (nI_ge c (by omega)), if_neg (show ¬ (40 : Int32) ≤ nI (hcm S).length from nI_ge (b := 40) (by omega) (by omega))]; exact q
  · rw [decide_eq_false c] at q
    rw [if_pos (nI_le (by omega) (by omega))]; exact q
/-- the day: those told by hand -/
def dC (H : List (Nat × Nat)) (ns d : Nat) (M : Mem) : Prop := isDay d ∧ H.length ≤ 12 ∧ mI M d 4 = nI H.length ∧ ∀ k h, H[k]? = some h → (mI M (d + 2) k = nI h.1 ∧ mI M (d + 3) k = nI h.2) ∧ h.1 < ns ∧ h.2 < 60
theorem dC_fr {H : List (Nat × Nat)} {ns d : Nat} {M M1 : Mem} (h : dC H ns d M) (f : ∀ a j, a < 29 → mI M1 a j = mI M a j) : dC H ns d M1 := by
  obtain ⟨h1, h2, h3, h4⟩ := h
  have hd : d ≤ 25 := by rcases h1 with rfl | rfl | rfl <;> omega
  refine ⟨h1, h2, by rw [f _ _ (by omega)]; exact h3, fun k x hx => ?_⟩
  rw [f _ _ (by omega), f _ _ (by omega)]; exact h4 k x hx
theorem rC_wt {X : Nat → Nat → Nat} {S : HS} {M : Mem} (r : rC X S M) : rC X (hWt S) (sI M 29 8 (nI (hcm S).length)) := by
  obtain ⟨⟨r1, r2, r3, r4, r5⟩, r6, r7, r8⟩ := r
  refine ⟨⟨?_, ?_, ?_, ?_, ?_⟩, fun i hi => ?_, fun k e he => ?_, fun l hl => ?_⟩
  · rw [mI_ne _ _ (by omega)]; exact r1
  · rw [mI_ne _ _ (by omega)]; exact r2
  · rw [mI_ne _ _ (by omega)]; exact r3
  · rw [mI_ne _ _ (by omega)]; exact r4
  · rw [mI_sI_s]; rfl
  · rw [mI_ne _ _ (by omega), mI_ne _ _ (by omega), mI_ne _ _ (by omega), mI_ne _ _ (by omega)]; exact r6 i hi
  · rw [mI_ne _ _ (by omega), mI_ne _ _ (by omega)]; exact r7 k e he
  · obtain ⟨g1, g2, g3⟩ := r8 l hl
    rw [mI_ne _ _ (by omega), mI_ne _ _ (by omega)]
    exact ⟨g1, g2, fun i hi => by rw [mI_ne _ _ (by omega)]; exact g3 i hi⟩
theorem hand_c {X : Nat → Nat → Nat} {ns oa w now d : Nat} {cl : List Cl} {H : List (Nat × Nat)} {S : HS} {M : Mem} {Q : Mem → Prop} (h : cC X ns oa w cl M) (hd : dC H ns d M) (r : rC X S M) (hw : hW X ns now S) (hn : mI M 29 15 = nI now) (hnow : now < 60) (q : ∀ M1, HF M M1 → mI M1 29 15 = nI now → rC X (hHd X now H S) M1 → hW X ns now (hHd X now H S) → Q M1) : f_X3_comeByHand 29 (some d) M Q := by
  have hHl := hd.2.1
  unfold f_X3_comeByHand f_X3_comeByHand_L2
  refine cnt H.length (by omega) (fun k N => HF M N ∧ mI N 29 15 = nI now ∧ ∃ S', hHd X now (H.drop k) S' = hHd X now H S ∧ rC X S' N ∧ hW X ns now S') ⟨HF.rf M, hn, S, rfl, r, hw⟩ ?_
  rintro K k N hk ⟨f, hnN, S', e, r', w'⟩ hK
  show f_X3_comeByHand_B2 29 (some d) (nI k) N K Q
  have hN := cC_fr h f
  have hdN := dC_fr hd (fun a j ha => f.2 a j (by omega))
  obtain ⟨d1, d2, d3, d4⟩ := hdN
  have hG := hN.1
  have hmx := hN.2.1.2.2.2.2.2.2.2.1
  have hL := hW_len hN.2.1 w'
  obtain ⟨p1, p2, p3⟩ := day_p hG d1
  obtain ⟨s0, s1, s2, s3⟩ := day_s d1
  unfold f_X3_comeByHand_B2
  refine ⟨d, rfl, day_o hG d1, ?_⟩
  rw [d3]
  by_cases hkl : k < H.length
  · rw [if_neg (nI_ge hkl (by omega))]
    obtain ⟨x, hx⟩ : ∃ x, H[k]? = some x := ⟨H[k], List.getElem?_eq_getElem hkl⟩
    obtain ⟨⟨g1, g2⟩, g3, g4⟩ := d4 k x hx
    have vk : vp_in (nI k) 12 := vpN (by omega) (by omega)
    have ek : (nI k).toNatClampNeg = k := nI_clamp (by omega)
    have hdr : H.drop k = x :: H.drop (k + 1) := by rw [List.drop_eq_getElem_cons hkl]; congr 1; rw [List.getElem?_eq_getElem hkl] at hx; exact Option.some.inj hx
    rw [hdr] at e
    have hem : (H.drop (k + 1)).isEmpty = decide (k + 1 = H.length) := by
      by_cases c : k + 1 = H.length
      · rw [decide_eq_true c, List.drop_eq_nil_of_le (by omega)]; rfl
      · rw [decide_eq_false c, List.drop_eq_getElem_cons (by omega)]; rfl
    have e' : hHd X now (H.drop (k + 1)) (if x.2 = now ∧ (hcm S').length < X 4 4 then hEn X now x.1 (if (H.drop (k + 1)).isEmpty = true then hWt S' else S') else S') = hHd X now H S := e
    rw [hem] at e'
    refine ⟨d + 3, p3, isA_g hG s0 s3 vk, oH hG, ?_⟩
    rw [ek, g2, hnN]
    have hK2 := hK hkl
    have skip : ¬ (x.2 = now ∧ (hcm S').length < X 4 4) → f_X3_comeByHand_J58 29 (some d) (nI k) N K Q := by
      intro c
      rw [if_neg c] at e'
      exact hK2 N ⟨f, hnN, S', e', r', w'⟩
    by_cases c1 : x.2 = now
    · rw [if_pos (by rw [c1])]
      refine room_c hN r' w' ?_
      by_cases c2 : (hcm S').length < X 4 4
      · rw [decide_eq_true c2, if_pos rfl]
        rw [if_pos ⟨c1, c2⟩] at e'
        refine ⟨day_o hG d1, ?_⟩
        have J48 : ∀ (S2 : HS) (N2 : Mem), HF M N2 → mI N2 29 15 = nI now → rC X S2 N2 → hW X ns now S2 → (hcm S2).length < X 4 4 → hHd X now (H.drop (k + 1)) (hEn X now x.1 S2) = hHd X now H S → f_X3_comeByHand_J48 29 (some d) (nI k) N2 K Q := by
          intro S2 N2 f2 hn2 r2 w2 l2 e2
          have h2 := cC_fr h f2
          have hG2 := h2.1
          unfold f_X3_comeByHand_J48 f_X3_comeByHand_J58
          refine ⟨d, rfl, day_o hG2 d1, d + 2, (day_p hG2 d1).2.1, isA_g hG2 (by omega) s2 vk, oH hG2, ?_⟩
          rw [ek, ((dC_fr hd (fun a j ha => f2.2 a j (by omega))).2.2.2 k x hx).1.1]
          refine enter_c h2 r2 w2 hn2 hnow g3 l2 fun N3 f3 hn3 r3 => ?_
          exact hK2 N3 ⟨f2.tr f3, hn3, _, e2, r3, hW_en w2 g3 hnow l2⟩
        by_cases c3 : k + 1 = H.length
        · rw [if_pos (by rw [d3, ← c3, nI_pred])]
          refine ⟨oH hG, ?_⟩
          intro N2 hE2
          rw [r'.1.1] at hE2
          rw [decide_eq_true c3, if_pos rfl] at e'
          exact J48 (hWt S') N2 (by rw [hE2]; exact f.st _ (by omega)) (by rw [hE2, mI_ne _ _ (by omega)]; exact hnN) (by rw [hE2]; exact rC_wt r') (hW_wt w') c2 e'
        · obtain ⟨n', hn'⟩ : ∃ n', H.length = n' + 1 := ⟨H.length - 1, by omega⟩
          rw [if_neg (by rw [d3, hn', nI_pred, nI_eq (by omega) (by omega)]; omega)]
          rw [decide_eq_false c3, if_neg (by decide)] at e'
          exact J48 S' N f hnN r' w' c2 e'
      · rw [decide_eq_false c2, if_neg (by decide)]
        exact skip (by omega)
    · rw [if_neg (by rw [nI_eq (by omega) (by omega)]; exact c1)]
      exact skip (by omega)
  · obtain rfl : k = H.length := by omega
    rw [if_pos (nI_le (Nat.le_refl _) (by omega))]
    rw [List.drop_length] at e
    have e' : S' = hHd X now H S := e
    subst e'
    exact q N f hnN r' w'
theorem text_c {X : Nat → Nat → Nat} {ns oa w now : Nat} {cl : List Cl} {S : HS} {M : Mem} {Q : Mem → Prop} (h : cC X ns oa w cl M) (r : rC X S M) (hw : hW X ns now S) (hn : mI M 29 15 = nI now) (hnow : now < 60) (q : ∀ M1, HF M M1 → mI M1 29 15 = nI now → rC X (hTx X cl now ns S) M1 → hW X ns now (hTx X cl now ns S) → Q M1) : f_X3_comeByText 29 (nI ns) M Q := by
  have hns := h.2.1.1
  unfold f_X3_comeByText f_X3_comeByText_L2
  refine cnt ns (by omega) (fun k N => HF M N ∧ mI N 29 15 = nI now ∧ rC X (hTx X cl now k S) N ∧ hW X ns now (hTx X cl now k S)) ⟨HF.rf M, hn, r, hw⟩ ?_
  rintro K k N hk ⟨f, hnN, r', w'⟩ hK
  show f_X3_comeByText_B2 29 (nI ns) (nI k) N K Q
  have hN := cC_fr h f
  have hG := hN.1
  have hL := hW_len hN.2.1 w'
  have hmx := hN.2.1.2.2.2.2.2.2.2.1
  unfold f_X3_comeByText_B2 f_X3_comeByText_J50
  by_cases hkl : k < ns
  · rw [if_neg (nI_ge hkl (by omega))]
    have hK2 := hK hkl
    have es : hTx X cl now (k + 1) S = hT1 X cl now (hTx X cl now k S) k := by
      unfold hTx; rw [List.range_succ, List.foldl_append]; rfl
    generalize hTx X cl now k S = S' at *
    have skip : ¬ ((hcm S').length < X 4 4 ∧ cll cl k now (hq S' 1).length (hq S' 0).length (hcm S').length = true) → K (nI k + 1, N) := by
      intro c
      unfold hT1 at es
      rw [if_neg c] at es
      exact hK2 N ⟨f, hnN, by rw [es]; exact r', by rw [es]; exact w'⟩
    refine ⟨oH hG, room_c hN r' w' ?_⟩
    by_cases c2 : (hcm S').length < X 4 4
    · rw [decide_eq_true c2, if_pos rfl]
      obtain ⟨-, hx, -, -, h5, h6, h7, -, -, h10, -, -⟩ := id hN
      refine ⟨oH hG, 36, mP_g hG rfl, isA_g hG (by decide) rfl (vp_of (by decide) (by decide)), isA_g hG (by decide) rfl (vp_of (by decide) (by decide)), w, h10, h5.2.1, ?_⟩
      rw [hnN, show ((1 : Int32)).toNatClampNeg = 1 from rfl, show ((0 : Int32)).toNatClampNeg = 0 from rfl, (r'.2.2.2 1 (by omega)).1, (r'.2.2.2 0 (by omega)).1, r'.1.1]
      refine calls_c h5 h6 h7 (by omega) (by omega) (by omega) (by omega) (by omega) ?_
      by_cases cc : cll cl k now (hq S' 1).length (hq S' 0).length (hcm S').length = true
      · rw [if_pos cc]
        unfold hT1 at es
        rw [if_pos ⟨c2, cc⟩] at es
        refine ⟨oH hG, enter_c hN r' w' hnN hnow hkl c2 fun N2 f2 hn2 r2 => ?_⟩
        exact hK2 N2 ⟨f.tr f2, hn2, by rw [es]; exact r2, by rw [es]; exact hW_en w' hkl hnow c2⟩
      · rw [if_neg cc]
        exact skip (fun z => cc z.2)
    · rw [decide_eq_false c2, if_neg (by decide)]
      exact skip (fun z => c2 z.1)
  · obtain rfl : k = ns := by omega
    rw [if_pos (nI_le (Nat.le_refl _) (by omega))]
    exact q N f hnN r' w'
