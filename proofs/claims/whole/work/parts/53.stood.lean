/-! ===== who comes, by the model; how many stood ===== -/
theorem cll_eq (cl : List Cl) (s t l f n : Nat) : cll cl s t l f n = cl.any (fun c => c.1 == 0 && (c.2.1 == s && hld t l f n c.2.2)) := by
  unfold cll cms; rw [List.any_filter]
theorem comes_m {X : Nat → Nat → Nat} {ns r now s t : Nat} {cl : List Cl} {sk : Bool} {S : HS} {M : Mem} {Q : Bool → Mem → Prop} (h : mC X ns r cl M) (rm : rM X sk S M) (hw : hW X ns now S) (hs : s < 6) (ht : t < 2 ^ 31) (q : ∀ M1, NF M M1 → Q (cll cl s t (hq S 1).length (hq S 0).length (hcm S).length) M1) : f_X12_comes 76 (nI s) (nI t) M Q := by
  obtain ⟨hG, ⟨hx, mx, mo, ⟨nw, cls, th, hE, hcl⟩, h44⟩, -⟩ := id h
  have hL := hW_len hx hw
  have hf := wf_lt hE
  have hWc := wcl_W hE
  rw [cll_eq] at q
  have fr : ∀ N, NF M N → iWE N nw cls th := fun N f => ⟨iW_fr hE.1 (fun a k d => by unfold cW at d; exact f.2 a k (by omega)), iD_fr hE.2 (fun a k d => by unfold cD at d; exact f.2 a k (by omega))⟩
  unfold f_X12_comes
  refine ⟨oM hG, first_m hG hE ?_⟩
  unfold f_X12_comes_L5
  refine ⟨fun z => ∃ k, k ≤ cl.length ∧ z.1 = nI (wf th + k) ∧ NF M z.2 ∧ (cl.take k).any (fun c => c.1 == 0 && (c.2.1 == s && hld t (hq S 1).length (hq S 0).length (hcm S).length c.2.2)) = false, fun z => wf th + cl.length - z.1.toNatClampNeg, ⟨0, Nat.zero_le _, rfl, NF.rf M, rfl⟩, ?_⟩
  rintro ⟨v, N⟩ ⟨k, hk, hv, fN, hI⟩
  replace hv : v = nI (wf th + k) := hv
  replace fN : NF M N := fN
  subst hv
  show f_X12_comes_B5 76 (nI s) (nI t) (nI (wf th + k)) N _ Q
  have hGN := fN.1.good hG
  have hEN := fr N fN
  have h8 : cl.length ≤ 8 := by rw [← hcl]; exact hWc.1
  unfold f_X12_comes_B5 f_X12_comes_J43
  refine ⟨oM hGN, behind_m hGN hEN ?_⟩
  rw [hcl]
  by_cases hkl : k < cl.length
  · rw [if_neg (nI_ge (by omega) (by omega))]
    obtain ⟨c, hc⟩ : ∃ c, cl[k]? = some c := ⟨cl[k], List.getElem?_eq_getElem hkl⟩
    obtain ⟨i, hi1, hi2, hi3, hi4⟩ := wM_at hEN (j := k) (c := c) (by rw [hcl]; exact hc)
    have hnw := hEN.1.1
    have hci : cls i = cl := hi3.symm.trans hcl
    rw [hci] at hi4
    obtain ⟨w1, w2, w3⟩ := hi4
    obtain ⟨m1, m2, m3⟩ := w2 k c hc
    have hm := List.mem_of_getElem? hc
    rw [hcl] at hWc
    obtain ⟨d1, d2, d3⟩ := hWc.2.2 c hm
    have vk : vp_in (nI (wf th + k)) 48 := vpN (by omega) (by omega)
    have e3 : (cl.take (k + 1)).any (fun c => c.1 == 0 && (c.2.1 == s && hld t (hq S 1).length (hq S 0).length (hcm S).length c.2.2)) = (c.1 == 0 && (c.2.1 == s && hld t (hq S 1).length (hq S 0).length (hcm S).length c.2.2)) := by
      rw [take_one hc, List.any_append, hI]; simp
    have nx : ∀ N', NF M N' → (c.1 == 0 && (c.2.1 == s && hld t (hq S 1).length (hq S 0).length (hcm S).length c.2.2)) = false → (∃ k', k' ≤ cl.length ∧ nI (wf th + k) + 1 = nI (wf th + k') ∧ NF M N' ∧ (cl.take k').any (fun c => c.1 == 0 && (c.2.1 == s && hld t (hq S 1).length (hq S 0).length (hcm S).length c.2.2)) = false) ∧ wf th + cl.length - (nI (wf th + k) + 1).toNatClampNeg < wf th + cl.length - (nI (wf th + k)).toNatClampNeg := by
      intro N' f' e
      refine ⟨⟨k + 1, hkl, by rw [nI_1]; rfl, f', by rw [e3]; exact e⟩, ?_⟩
      rw [nI_1, nI_clamp (by omega), nI_clamp (by omega)]; omega
    refine ⟨oM hGN, 86, mP_g hGN rfl, isA_g hGN (by decide) rfl vk, ?_⟩
    rw [nI_clamp (by omega), hi2, m1]
    by_cases c0 : c.1 = 0
    · rw [if_pos (by rw [c0]; rfl)]
      obtain ⟨n1, n2, n3⟩ := m2 c0
      obtain ⟨k6, kw⟩ := d2 c0
      refine ⟨87, mP_g hGN rfl, isA_g hGN (by decide) rfl (by rw [← hi2]; exact vk), ?_⟩
      rw [n1]
      by_cases c1 : c.2.1 = s
      · rw [if_pos (by rw [c1])]
        have t1 := tks_tk hc
        have t2 := tks_tl cl (k + 1)
        have t3 := hWc.2.1
        refine holds_m (fr := 100 * i + (tks (cl.take k)).length) (c := 8 * i + k) hGN (rL_fr rm.2.2.2.2 (fun a j d => fN.2 a j (by omega))) hL.1 ((fN.2 _ _ (by omega)).trans rm.1.1) (by omega) n2 (by rw [n3, t1, Nat.add_assoc]) kw (by omega) (fun i' x hx => ?_) ht (by omega) fun N2 f2 => ?_
        · rw [Nat.add_assoc]
          exact w3 _ x (tks_at hc hx)
        · by_cases cc : hld t (hq S 1).length (hq S 0).length (hcm S).length c.2.2 = true
          · rw [if_pos cc]
            have : cl.any (fun c => c.1 == 0 && (c.2.1 == s && hld t (hq S 1).length (hq S 0).length (hcm S).length c.2.2)) = true := List.any_eq_true.mpr ⟨c, hm, by rw [c0, c1, cc]; simp⟩
            rw [this] at q
            exact q N2 (fN.tr f2)
          · rw [if_neg cc]
            rw [← hi2]
            exact nx N2 (fN.tr f2) (by rw [Bool.eq_false_iff.mpr cc, Bool.and_false, Bool.and_false])
      · rw [if_neg (by rw [nI_eq (by omega) (by omega)]; exact c1)]
        rw [← hi2]
        exact nx N fN (by simp [c1])
    · rw [if_neg (nn_0 c0 (by omega))]
      rw [← hi2]
      exact nx N fN (by simp [c0])
  · obtain rfl : k = cl.length := by omega
    rw [if_pos (nI_le (Nat.le_refl _) (by omega))]
    rw [List.take_length] at hI
    rw [hI] at q; exact q N fN
/-! how many stood in a line at the end of a minute -/
def svAt (sv : List (Nat × Nat)) (i : Nat) : Option Nat := (sv.find? (fun e => e.1 == i)).map (·.2)
def stP (S : HS) (l j i : Nat) : Bool := (gC (hcm S) i).2.2.1 == l && (decide ((gC (hcm S) i).2.1 ≤ j) && (match svAt (hsv S) i with
  | none => true
  | some a => decide (j < a)))
def sCn (S : HS) (l j : Nat) : Nat := ((List.range (hcm S).length).filter (stP S l j)).length
theorem svAt_none {sv : List (Nat × Nat)} {i : Nat} (h : i ∉ sv.map (·.1)) : svAt sv i = none := by
  unfold svAt
  rw [List.find?_eq_none.mpr, Option.map_none]
  intro e he
  simp only [beq_iff_eq]
  exact fun z => h (List.mem_map.mpr ⟨e, he, z⟩)
theorem svAt_in {sv : List (Nat × Nat)} {e : Nat × Nat} (hn : (sv.map (·.1)).Nodup) (h : e ∈ sv) : svAt sv e.1 = some e.2 := by
  unfold svAt
  induction sv with
  | nil => exact absurd h List.not_mem_nil
  | cons a r ih =>
    rw [List.map_cons, List.nodup_cons] at hn
    rw [List.find?_cons]
    rcases List.mem_cons.mp h with rfl | h
    · rw [beq_self_eq_true]; rfl
    · have : (a.1 == e.1) = false := by
        rw [beq_eq_false_iff_ne]
        exact fun z => hn.1 (z ▸ List.mem_map.mpr ⟨e, h, rfl⟩)
      rw [this]
      exact ih hn.2 h
theorem svAt_app {sv : List (Nat × Nat)} {i j t : Nat} (h : i ∉ sv.map (·.1)) : svAt (sv ++ [(i, t)]) j = if j = i then some t else svAt sv j := by
  unfold svAt
  rw [List.find?_append]
  by_cases e : j = i
  · subst e
    have : sv.find? (fun e => e.1 == j) = none := by
      rw [List.find?_eq_none]
      intro e he
      simp only [beq_iff_eq]
      exact fun z => h (List.mem_map.mpr ⟨e, he, z⟩)
    rw [this, if_pos rfl, Option.none_or]
    simp
  · rw [if_neg e]
    have : [(i, t)].find? (fun e => e.1 == j) = none := by
      rw [List.find?_cons, show ((i, t).1 == j) = false from beq_eq_false_iff_ne.mpr (fun z => e z.symm)]; rfl
    rw [this, Option.or_none]
theorem srt_eq : ∀ {a b : List Nat}, a.Pairwise (· < ·) → b.Pairwise (· < ·) → (∀ x, x ∈ a ↔ x ∈ b) → a = b
  | [], [], _, _, _ => rfl
  | [], y :: b, _, _, h => absurd ((h y).mpr (List.mem_cons_self ..)) List.not_mem_nil
  | x :: a, [], _, _, h => absurd ((h x).mp (List.mem_cons_self ..)) List.not_mem_nil
  | x :: a, y :: b, ha, hb, h => by
    obtain ⟨a1, a2⟩ := List.pairwise_cons.mp ha
    obtain ⟨b1, b2⟩ := List.pairwise_cons.mp hb
    have exy : x = y := by
      rcases List.mem_cons.mp ((h x).mp (List.mem_cons_self ..)) with e | e
      · exact e
      · rcases List.mem_cons.mp ((h y).mpr (List.mem_cons_self ..)) with e2 | e2
        · exact e2.symm
        · have := b1 x e
          have := a1 y e2
          omega
    subst exy
    congr 1
    refine srt_eq a2 b2 fun z => ⟨fun hz => ?_, fun hz => ?_⟩
    · rcases List.mem_cons.mp ((h z).mp (List.mem_cons_of_mem _ hz)) with e | e
      · have := a1 z hz; omega
      · exact e
    · rcases List.mem_cons.mp ((h z).mpr (List.mem_cons_of_mem _ hz)) with e | e
      · have := b1 z hz; omega
      · exact e
theorem sCn_en {X : Nat → Nat → Nat} {now s l j : Nat} {S : HS} (hj : j < now) : sCn (hEn X now s S) l j = sCn S l j := by
  unfold sCn
  have hlen : (hcm (hEn X now s S)).length = (hcm S).length + 1 := List.length_append
  rw [hlen, List.range_succ, List.filter_append]
  have e1 : [(hcm S).length].filter (stP (hEn X now s S) l j) = [] := by
    rw [List.filter_cons_of_neg]
    · rfl
    · unfold stP
      show ¬ ((gC (hcm S ++ [(s, now, hli X now s S, hpd X now s S)]) (hcm S).length).2.2.1 == l && (decide ((gC (hcm S ++ [(s, now, hli X now s S, hpd X now s S)]) (hcm S).length).2.1 ≤ j) && _)) = true
      rw [gC_at, decide_eq_false (by show ¬ now ≤ j; omega)]
      simp
  rw [e1, List.append_nil]
  congr 1
  refine List.filter_congr fun i hi => ?_
  have := List.mem_range.mp hi
  unfold stP
  show ((gC (hcm S ++ [(s, now, hli X now s S, hpd X now s S)]) i).2.2.1 == l && (decide ((gC (hcm S ++ [(s, now, hli X now s S, hpd X now s S)]) i).2.1 ≤ j) && _)) = _
  rw [gC_lt _ this]; rfl
theorem sCn_sv {X : Nat → Nat → Nat} {ns now now' l j : Nat} {S : HS} (hw : hW X ns now' S) (hj : j < now) : sCn (hSv X now S) l j = sCn S l j := by
  unfold hSv
  by_cases c1 : now < hbz S
  · rw [if_pos c1]
  rw [if_neg c1]
  by_cases c2 : hq S (hNx X S) = []
  · rw [if_pos c2]
  rw [if_neg c2]
  have hl2 := hNx_lt X S
  generalize hNx X S = m at *
  cases hq0 : hq S m with
  | nil => exact absurd hq0 c2
  | cons i rest =>
    have hi := ((hw.2.2.1 m hl2).2 i (by rw [hq0]; exact List.mem_cons_self ..)).2.2
    unfold sCn
    congr 1
    refine List.filter_congr fun k hk => ?_
    unfold stP
    show ((gC (hcm S) k).2.2.1 == l && (decide ((gC (hcm S) k).2.1 ≤ j) && (match svAt (hsv S ++ [(i, now)]) k with
      | none => true
      | some a => decide (j < a)))) = _
    rw [svAt_app hi]
    by_cases e : k = i
    · subst e
      rw [if_pos rfl, svAt_none hi]
      show (_ && (_ && decide (j < now))) = _
      rw [decide_eq_true hj]
    · rw [if_neg e]
theorem sCn_q {X : Nat → Nat → Nat} {ns now l : Nat} {S : HS} (hw : hW X ns now S) (hl : l < 2) : sCn S l now = (hq S l).length := by
  obtain ⟨-, v2, v3, v4, v5, v6⟩ := hw
  unfold sCn
  congr 1
  refine srt_eq (List.Pairwise.filter _ List.pairwise_lt_range) (v3 l hl).1 fun i => ⟨fun h => ?_, fun h => ?_⟩
  · obtain ⟨h1, h2⟩ := List.mem_filter.mp h
    have hi := List.mem_range.mp h1
    unfold stP at h2
    rw [Bool.and_eq_true, Bool.and_eq_true, beq_iff_eq] at h2
    obtain ⟨e1, -, e2⟩ := h2
    rcases v6 i hi with z | z | z
    · omega
    · rw [e1] at z; exact z
    · obtain ⟨e, he, hee⟩ := List.mem_map.mp z
      have h3 := v4 e he
      have h4 := svAt_in v5 he
      rw [hee] at h4
      rw [h4] at e2
      have e2 : decide (now < e.2) = true := e2
      have := of_decide_eq_true e2
      omega
  · obtain ⟨h1, h2, h3⟩ := (v3 l hl).2 i h
    refine List.mem_filter.mpr ⟨List.mem_range.mpr h1, ?_⟩
    unfold stP
    rw [svAt_none h3, h2, beq_self_eq_true, decide_eq_true (v2 i h1).2.1]; rfl
theorem sCn_0 {X : Nat → Nat → Nat} {ns now l j : Nat} {S : HS} (hw : hW X ns now S) (hl : l < 2) (h0 : hLf S = 0) (hj : now ≤ j) : sCn S l j = 0 := by
  have e := sCn_q (hW_mono hw hj) hl
  rw [e]
  unfold hLf at h0
  have : l = 0 ∨ l = 1 := by omega
  rcases this with rfl | rfl <;> omega
