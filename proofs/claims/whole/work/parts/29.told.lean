/-! ===== told: the window that holds ===== -/
def wa (th : Option Nat) : Nat := match th with
  | none => 10
  | some h => 40 + 4 * h
def wcl (cls : Nat → List Cl) (th : Option Nat) : List Cl := match th with
  | none => []
  | some h => cls h
def wf (th : Option Nat) : Nat := match th with
  | none => 0
  | some h => 8 * h
def iWD (M : Mem) (nw : Nat) (cls : Nat → List Cl) (th : Option Nat) : Prop := iW M nw cls ∧ iD M nw th ∧ iZ M
def iWE (M : Mem) (nw : Nat) (cls : Nat → List Cl) (th : Option Nat) : Prop := iW M nw cls ∧ iD M nw th
theorem held_c {M : Mem} {nw : Nat} {cls : Nat → List Cl} {th : Option Nat} {Q : Option Nat → Mem → Prop} (hG : Good M) (h : iWD M nw cls th) (q : Q (some (wa th)) M) : f_X11_held 0 M Q := by
  obtain ⟨hW, hD, hZ⟩ := h
  unfold f_X11_held f_X11_held_J24
  refine ⟨oQ hG, 17, mP_g hG rfl, isO_g hG (by decide) rfl, ?_⟩
  rcases th with _ | h
  · rw [hD.2.1 rfl, if_pos (by decide)]
    refine ⟨oQ hG, ?_⟩
    rw [mP_g hG (show pvx 0 5 = some 10 from rfl)]; exact q
  · obtain ⟨h1, h2⟩ := hD.2.2 h rfl
    have := hW.1
    have e1 := nI_toInt (n := h) (by omega)
    have e2 := nI_toInt (n := nw) (by omega)
    rw [h2, hW.2.1, if_neg (by rw [i32_lt]; simp only [Int32.reduceToInt]; omega), if_pos (by rw [i32_lt]; omega)]
    refine ⟨9, mP_g hG rfl, isA_g hG (by decide) rfl (vp_of (by omega) (by omega)), ?_⟩
    rw [nI_clamp (by omega), p_win hG (by omega)]; exact q
theorem wa_o {M : Mem} {nw : Nat} {cls : Nat → List Cl} {th : Option Nat} (hG : Good M) (h : iWD M nw cls th) : isO M (wa th) [10] := by
  rcases th with _ | k
  · exact isO_g hG (by decide) rfl
  · exact o_win hG (by have := h.1.1; have := (h.2.1.2.2 k rfl).1; omega)
theorem wa_C {M : Mem} {nw : Nat} {cls : Nat → List Cl} {th : Option Nat} (h : iWD M nw cls th) : wC M (wa th) (wcl cls th) := by
  obtain ⟨hW, hD, hZ⟩ := h
  rcases th with _ | k
  · obtain ⟨z0, z1, z2, z3, z4, z5, z6⟩ := hZ
    exact ⟨z1, z2, z3, z4, fun j c hc => by simp [cms, wcl] at hc, fun k t hk => by simp [tks, wcl] at hk⟩
  · exact hW.2.2.2.2.1 k (hD.2.2 k rfl).1
theorem wcl_W {M : Mem} {nw : Nat} {cls : Nat → List Cl} {th : Option Nat} (h : iWE M nw cls th) : WFc (wcl cls th) := by
  obtain ⟨hW, hD⟩ := h
  rcases th with _ | k
  · exact ⟨by simp [wcl], by simp [tks, wcl], fun c hc => by simp [wcl] at hc⟩
  · exact hW.2.2.2.1 k (hD.2.2 k rfl).1
theorem wf_lt {M : Mem} {nw : Nat} {cls : Nat → List Cl} {th : Option Nat} (h : iWE M nw cls th) : wf th ≤ 40 := by
  obtain ⟨hW, hD⟩ := h
  rcases th with _ | k
  · show 0 ≤ 40; omega
  · have h1 := (hD.2.2 k rfl).1
    have := hW.1
    show 8 * k ≤ 40; omega
theorem first_m {M : Mem} {nw : Nat} {cls : Nat → List Cl} {th : Option Nat} {Q : Int32 → Mem → Prop} (hG : Good M) (h : iWE M nw cls th) (q : Q (nI (wf th)) M) : f_X12_first 76 M Q := by
  obtain ⟨hW, hD⟩ := h
  unfold f_X12_first
  refine ⟨oM hG, ?_⟩
  rw [hD.1]
  rcases th with _ | k
  · rw [hD.2.1 rfl, if_neg (by decide)]; exact q
  · obtain ⟨h1, h2⟩ := hD.2.2 k rfl
    have := hW.1
    have e1 := nI_toInt (n := k) (by omega)
    rw [h2, if_pos (by rw [i32_le]; simp only [Int32.reduceToInt]; omega), show (8 : Int32) = nI 8 from rfl, nI_mul]; exact q
theorem behind_m {M : Mem} {nw : Nat} {cls : Nat → List Cl} {th : Option Nat} {Q : Int32 → Mem → Prop} (hG : Good M) (h : iWE M nw cls th) (q : Q (nI (wf th + (wcl cls th).length)) M) : f_X12_behind 76 M Q := by
  obtain ⟨hW, hD⟩ := h
  unfold f_X12_behind
  refine ⟨oM hG, ?_⟩
  rw [hD.1]
  rcases th with _ | k
  · rw [hD.2.1 rfl, if_neg (by decide)]; exact q
  · obtain ⟨h1, h2⟩ := hD.2.2 k rfl
    have := hW.1
    have e1 := nI_toInt (n := k) (by omega)
    rw [h2, if_pos (by rw [i32_le]; simp only [Int32.reduceToInt]; omega)]
    refine ⟨85, mP_g hG rfl, isA_g hG (by decide) rfl (vp_of (by omega) (by omega)), ?_⟩
    rw [nI_clamp (by omega), (hW.2.2.2.2.2 k h1).1, show (8 : Int32) = nI 8 from rfl, nI_mul, nI_add]; exact q
theorem wM_at {M : Mem} {nw : Nat} {cls : Nat → List Cl} {th : Option Nat} (h : iWE M nw cls th) {j : Nat} {c : Cl} (hj : (wcl cls th)[j]? = some c) : ∃ i, i < nw ∧ wf th = 8 * i ∧ wcl cls th = cls i ∧ wM M i (cls i) := by
  obtain ⟨hW, hD⟩ := h
  rcases th with _ | k
  · simp [wcl] at hj
  · have h1 := (hD.2.2 k rfl).1
    exact ⟨k, h1, rfl, rfl, hW.2.2.2.2.2 k h1⟩
theorem lst_app (cl : List Cl) (c : Cl) (w d : Nat) : lst (cl ++ [c]) w d = if c.1 = w then c.2.1 else lst cl w d := by
  unfold lst; rw [List.foldl_append]; rfl
theorem take_one {α : Type} {l : List α} {k : Nat} {c : α} (h : l[k]? = some c) : l.take (k + 1) = l.take k ++ [c] := by
  rw [List.take_add_one, h]; rfl
theorem last_m {M : Mem} {nw w d hi : Nat} {cls : Nat → List Cl} {th : Option Nat} {Q : Int32 → Mem → Prop} (hG : Good M) (h : iWE M nw cls th) (hw : 1 ≤ w ∧ w ≤ 3) (hd : d ≤ 30) (hh : hi ≤ 40) (q : Q (nI (min (lst (wcl cls th) w d) hi)) M) : f_X12_last 76 (nI w) (nI d) (nI hi) M Q := by
  unfold f_X12_last
  refine ⟨oM hG, first_m hG h ?_⟩
  have hW := wcl_W h
  have hf := wf_lt h
  unfold f_X12_last_L9
  generalize hcl : wcl cls th = cl at *
  have lb : ∀ k, lst (cl.take k) w d ≤ 100 := by
    intro k
    induction k with
    | zero => rw [List.take_zero]; show d ≤ 100; omega
    | succ k ih =>
      cases hc : cl[k]? with
      | none => rw [List.take_add_one, hc]; simpa using ih
      | some c =>
        rw [take_one hc, lst_app]
        split
        · have hm := List.mem_of_getElem? hc
          rename_i e
          have := ((hW.2.2 c hm).2.2 (by omega)).1
          omega
        · exact ih
  refine ⟨fun z => ∃ k, k ≤ cl.length ∧ z.1 = nI (lst (cl.take k) w d) ∧ z.2.1 = nI (wf th + k) ∧ z.2.2 = M, fun z => wf th + cl.length - z.2.1.toNatClampNeg, ⟨0, Nat.zero_le _, by rw [List.take_zero]; rfl, rfl, rfl⟩, ?_⟩
  rintro ⟨v, c, N⟩ ⟨k, hk, hv, hc, hN⟩
  replace hv : v = nI (lst (cl.take k) w d) := hv
  replace hc : c = nI (wf th + k) := hc
  replace hN : N = M := hN
  subst hv; subst hc; subst hN
  show f_X12_last_B9 76 (nI w) (nI d) (nI hi) (nI (lst (cl.take k) w d)) (nI (wf th + k)) N _ Q
  unfold f_X12_last_B9 f_X12_last_J41
  refine ⟨oM hG, behind_m hG h ?_⟩
  rw [hcl]
  have h8 := hW.1
  by_cases hkl : k < cl.length
  · rw [if_neg (nI_ge (by omega) (by omega))]
    obtain ⟨c, hc⟩ : ∃ c, cl[k]? = some c := ⟨cl[k], List.getElem?_eq_getElem hkl⟩
    obtain ⟨i, hi1, hi2, hi3, hi4⟩ := wM_at h (by rw [hcl]; exact hc)
    have hi3' : cls i = cl := hi3.symm.trans hcl
    rw [hi3'] at hi4
    obtain ⟨m1, m2⟩ := hi4.2.1 k c hc
    have hm := List.mem_of_getElem? hc
    have hc3 := (hW.2.2 c hm).1
    have vpc : vp_in (nI (wf th + k)) 48 := vp_of (by rw [nI_toInt (by omega)]; omega) (by rw [nI_toInt (by omega)]; omega)
    refine ⟨oM hG, 86, mP_g hG rfl, isA_g hG (by decide) rfl vpc, ?_⟩
    rw [nI_clamp (by omega), hi2, m1]
    by_cases e : c.1 = w
    · rw [if_pos (by rw [e])]
      refine ⟨88, mP_g hG rfl, isA_g hG (by decide) rfl (by rw [← hi2]; exact vpc), ⟨k + 1, hkl, ?_, ?_, rfl⟩, ?_⟩
      · show mI N 88 _ = _
        rw [m2.2 (by omega), take_one hc, lst_app, if_pos e]
      · show nI (8 * i + k) + 1 = _
        rw [nI_1]; rfl
      · show 8 * i + cl.length - (nI (8 * i + k) + 1).toNatClampNeg < 8 * i + cl.length - (nI (8 * i + k)).toNatClampNeg
        rw [nI_1, nI_clamp (by omega), nI_clamp (by omega)]; omega
    · rw [if_neg (by rw [nI_eq (by omega) (by omega)]; exact e)]
      refine ⟨⟨k + 1, hkl, ?_, ?_, rfl⟩, ?_⟩
      · show nI (lst (cl.take k) w d) = _
        rw [take_one hc, lst_app, if_neg e]
      · show nI (8 * i + k) + 1 = _
        rw [nI_1]; rfl
      · show 8 * i + cl.length - (nI (8 * i + k) + 1).toNatClampNeg < 8 * i + cl.length - (nI (8 * i + k)).toNatClampNeg
        rw [nI_1, nI_clamp (by omega), nI_clamp (by omega)]; omega
  · obtain rfl : k = cl.length := by omega
    rw [if_pos (nI_le (Nat.le_refl _) (by omega))]
    refine ⟨oM hG, ?_⟩
    unfold f_X12_min
    rw [List.take_length]
    have := lb cl.length
    rw [List.take_length] at this
    by_cases e : hi ≤ lst cl w d
    · rw [if_pos (nI_le e (by omega))]
      rw [Nat.min_eq_right e] at q; exact q
    · rw [if_neg (nI_ge (by omega) (by omega))]
      rw [Nat.min_eq_left (by omega)] at q; exact q
/-- price, more, most of what holds -/
def wPr (cl : List Cl) : Nat := min (lst cl 1 0) 20
def wMo (cl : List Cl) : Nat := min (lst cl 2 0) 20
def wMx (cl : List Cl) : Nat := min (lst cl 3 30) 40
theorem told0 {M : Mem} {nw : Nat} {cls : Nat → List Cl} {th : Option Nat} {Q : Int32 → Mem → Prop} (hG : Good M) (h : iWE M nw cls th) (q : Q (nI (wPr (wcl cls th))) M) : f_X12_told 76 0 M Q := by
  unfold f_X12_told
  rw [if_pos rfl]
  exact ⟨oM hG, last_m (w := 1) (d := 0) (hi := 20) hG h (by omega) (by omega) (by omega) q⟩
theorem told1 {M : Mem} {nw : Nat} {cls : Nat → List Cl} {th : Option Nat} {Q : Int32 → Mem → Prop} (hG : Good M) (h : iWE M nw cls th) (q : Q (nI (wMo (wcl cls th))) M) : f_X12_told 76 1 M Q := by
  unfold f_X12_told
  rw [if_neg (by decide), if_pos rfl]
  exact ⟨oM hG, last_m (w := 2) (d := 0) (hi := 20) hG h (by omega) (by omega) (by omega) q⟩
theorem told2 {M : Mem} {nw : Nat} {cls : Nat → List Cl} {th : Option Nat} {Q : Int32 → Mem → Prop} (hG : Good M) (h : iWE M nw cls th) (q : Q (nI (wMx (wcl cls th))) M) : f_X12_told 76 2 M Q := by
  unfold f_X12_told
  rw [if_neg (by decide), if_neg (by decide), if_pos rfl]
  exact ⟨oM hG, last_m (w := 3) (d := 30) (hi := 40) hG h (by omega) (by omega) (by omega) q⟩
theorem J341 {M : Mem} (hI : Inv M) {v3 : Int32} {xs : Nat → Int32} {L : Nat} {K : Mem → Prop} (h1 : vp_in (v3 + 1) L) (hK : ∀ M', Inv M' → K M') : f_L_law_J341 0 76 v3 M xs L K := by
  obtain ⟨hG, ns, nt, nw, no, nh, cls, th, oa, kd, vv, iS0, iQ0, iN0, iH0, iZ0, iW0, iD0, iO0, iA0, iI0, iT0⟩ := id hI
  unfold f_L_law_J341
  generalize xs (v3 + 1).toNatClampNeg = x1
  refine ⟨h1, oQ hG, ?_⟩
  have hw : iWD M nw cls th := ⟨iW0, iD0, iZ0⟩
  obtain ⟨w1, w2, w3, -⟩ := wa_C hw
  unfold f_X11_told
  by_cases e0 : x1 = 0
  · subst e0
    rw [if_pos rfl]
    refine ⟨oQ hG, held_c hG hw ⟨_, rfl, wa_o hG hw, h1, oM hG, told0 hG ⟨iW0, iD0⟩ ?_⟩⟩
    exact fin_ w1 (hK _ hI)
  rw [if_neg e0]
  by_cases e1 : x1 = 1
  · subst e1
    rw [if_pos rfl]
    refine ⟨oQ hG, held_c hG hw ⟨_, rfl, wa_o hG hw, h1, oM hG, told1 hG ⟨iW0, iD0⟩ ?_⟩⟩
    exact fin_ w2 (hK _ hI)
  rw [if_neg e1]
  by_cases e2 : x1 = 2
  · subst e2
    rw [if_pos rfl]
    refine ⟨oQ hG, held_c hG hw ⟨_, rfl, wa_o hG hw, h1, oM hG, told2 hG ⟨iW0, iD0⟩ ?_⟩⟩
    exact fin_ w3 (hK _ hI)
  rw [if_neg e2]
  refine ⟨h1, oM hG, ?_⟩
  unfold f_X12_told
  rw [if_neg e0, if_neg e1, if_neg e2]
  exact fin_ rfl (hK _ hI)
