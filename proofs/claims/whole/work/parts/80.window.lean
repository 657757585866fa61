/-! ===== window ===== -/
theorem win_O {M : Mem} (hG : Good M) {k : Nat} (h6 : k < 6) : wO (40 + 4 * k) M := by
  refine ⟨Or.inr (by omega), o_win hG h6, ?_⟩
  rcases six h6 with rfl | rfl | rfl | rfl | rfl | rfl <;> exact ⟨⟨mP_g hG rfl, mP_g hG rfl, mP_g hG rfl⟩, hG.2.1 _ (by decide), hG.2.1 _ (by decide), hG.2.1 _ (by decide)⟩
theorem pv_w {k : Nat} (h6 : k < 6) : pvx (40 + 4 * k) 8 = none := by
  rcases six h6 with rfl | rfl | rfl | rfl | rfl | rfl <;> rfl
/-- the cells that a window's call changes -/
def dW (nw a j : Nat) : Prop := (a = 0 ∧ (j = 3 ∨ j = 6)) ∨ (a = 17 ∧ j = 0) ∨ (40 + 4 * nw ≤ a ∧ a < 44 + 4 * nw) ∨ (a = 76 ∧ (j = 9 ∨ j = 10 ∨ j = 11 ∨ j = 12 ∨ j = 13 ∨ j = 23 ∨ j = 24 ∨ j = 25)) ∨ (a = 85 ∧ j = nw) ∨ (86 ≤ a ∧ a < 91 ∧ 8 * nw ≤ j ∧ j < 8 * nw + 8) ∨ (a = 91 ∧ 100 * nw ≤ j) ∨ a = 92
def yF (nw : Nat) (M M1 : Mem) : Prop := (mN M1 = mN M ∧ mS M1 = mS M ∧ mL M1 = mL M) ∧ (∀ b j, ¬ (b = 40 + 4 * nw ∧ j = 8) → mP M1 b j = mP M b j) ∧ ∀ b j, ¬ dW nw b j → mI M1 b j = mI M b j
theorem yF.good {nw : Nat} {M M1 : Mem} (f : yF nw M M1) (h6 : nw < 6) (hG : Good M) : Good M1 := by
  refine ⟨by rw [f.1.1]; exact hG.1, fun b hb => by rw [f.1.2.1]; exact hG.2.1 b hb, fun b k v hv => ?_⟩
  rw [f.2.1 b k (fun e => by rw [e.1, e.2, pv_w h6] at hv; cases hv)]
  exact hG.2.2 b k v hv
theorem yF.rf (nw : Nat) (M : Mem) : yF nw M M := ⟨⟨rfl, rfl, rfl⟩, fun _ _ _ => rfl, fun _ _ _ => rfl⟩
theorem yF.tr {nw : Nat} {M M1 M2 : Mem} (h : yF nw M M1) (k : yF nw M1 M2) : yF nw M M2 := ⟨⟨k.1.1.trans h.1.1, k.1.2.1.trans h.1.2.1, k.1.2.2.trans h.1.2.2⟩, fun b j q => (k.2.1 b j q).trans (h.2.1 b j q), fun b j q => (k.2.2 b j q).trans (h.2.2 b j q)⟩
theorem wF.y {nw : Nat} {M M1 : Mem} (h : wF (40 + 4 * nw) M M1) : yF nw M M1 := ⟨h.1, h.2.1, fun b j q => h.2.2 b j (by unfold dW at q; omega)⟩
theorem tF.y {nw : Nat} {M M1 : Mem} (h : tF nw M M1) : yF nw M M1 := ⟨⟨h.1.1, h.1.2.1, h.1.2.2.2⟩, fun b j _ => by rw [h.1.2.2.1], fun b j q => h.2 b j (by unfold dW at q; omega) (by unfold dW at q; omega) (by unfold dW at q; omega) (by unfold dW at q; omega) (by unfold dW at q; omega)⟩
theorem yF.st {nw : Nat} {M M1 : Mem} {a k : Nat} {v : Int32} (hE : M1 = sI M a k v) (hd : dW nw a k) : yF nw M M1 := ⟨by rw [hE]; exact ⟨rfl, rfl, rfl⟩, fun b j _ => by rw [hE]; rfl, fun b j q => by rw [hE]; exact mI_ne _ _ (fun e => q (by rw [e.1, e.2]; exact hd))⟩
theorem win_inv {M M1 : Mem} {ns nt nw no nh nw' : Nat} {cls cls' : Nat → List Cl} {th th' : Option Nat} {oa kd vv : Nat → Nat} (hG : Good M) (iS0 : iS M ns) (iQ0 : iQ M ns) (iH0 : iH M ns nh) (iZ0 : iZ M) (iO0 : iO M no oa kd vv) (iA0 : iA M no oa) (iI0 : iI M ns nw) (iT0 : iT M) (h6 : nw < 6) (f : yF nw M M1) (n1 : mI M1 0 3 = 0) (n2 : mI M1 76 11 = 0) (hn : nw ≤ nw') (iW1 : iW M1 nw' cls') (iD1 : iD M1 nw' th') : Inv M1 := by
  have e := f.2.2
  refine ⟨f.good h6 hG, ns, 0, nw', no, nh, cls', th', oa, kd, vv, iS_fr iS0 ?_, iQ_fr iQ0 ?_, ⟨Nat.zero_le _, n1, n2, fun k hk => absurd hk (Nat.not_lt_zero _)⟩, iH_fr iH0 ?_, iZ_fr iZ0 ?_, iW1, iD1, iO_fr iO0 f.1.1 f.1.2.1 (fun b j q => f.2.1 b j (by omega)) ?_, iA_fr iA0 (fun r hr => (iO0.2.2.2.1 r hr).2.1.1) (f.2.1 _ _ (by omega)) ?_, iI_up (iI_fr iI0 ?_) (Nat.le_refl _) hn, iT_fr iT0 (fun _ _ _ => by rw [f.1.2.2]) ?_⟩
  · intro a j q; unfold cS at q; exact e a j (by unfold dW; omega)
  · intro a j q; unfold cQ at q; exact e a j (by unfold dW; omega)
  · intro a j q; unfold cH at q; exact e a j (by unfold dW; omega)
  · intro a j q; unfold cZ at q; exact e a j (by unfold dW; omega)
  · intro a j q; unfold cO at q; exact e a j (by unfold dW; omega)
  · intro a j q; unfold cA at q; exact e a j (by unfold dW; omega)
  · intro a j q; unfold cI at q; exact e a j (by unfold dW; omega)
  · intro a j q; unfold cT at q; exact e a j (by unfold dW; omega)
/-- the windows that there were -/
theorem win_old {M M1 : Mem} {nw : Nat} {cls : Nat → List Cl} (h : iW M nw cls) (f : yF nw M M1) : (∀ i, i < nw → WFc (cls i)) ∧ (∀ i, i < nw → wC M1 (40 + 4 * i) (cls i)) ∧ ∀ i, i < nw → wM M1 i (cls i) := by
  obtain ⟨h1, h2, h3, h4, h5, h6⟩ := h
  exact ⟨h4, fun i hi => wC_fr (h5 i hi) (fun b k q1 q2 => f.2.2 b k (by unfold dW; omega)), fun i hi => wM_fr (h6 i hi) (h4 i hi).1 (h4 i hi).2.1 (fun b k q => f.2.2 b k (by unfold dW; omega))⟩
theorem J328 {M : Mem} (hI : Inv M) {v3 : Int32} {xs : Nat → Int32} {L : Nat} {K : Mem → Prop} (hK : ∀ M', Inv M' → K M') : f_L_law_J328 0 76 v3 M xs L K := by
  obtain ⟨hG, ns, nt, nw, no, nh, cls, th, oa, kd, vv, iS0, iQ0, iN0, iH0, iZ0, iW0, iD0, iO0, iA0, iI0, iT0⟩ := id hI
  unfold f_L_law_J328 f_X11_window
  have nw6 := iW0.1
  refine ⟨oQ hG, oQ hG, ?_⟩
  by_cases h6 : nw < 6
  case neg =>
    obtain rfl : nw = 6 := by omega
    rw [if_neg (show ¬ mI M 0 6 < 6 by rw [iW0.2.1]; decide)]
    refine ⟨oM hG, ?_⟩
    unfold f_X12_window
    refine ⟨oM hG, ?_⟩
    rw [if_pos (show mI M 76 9 = 6 by rw [iW0.2.2.1]; rfl)]
    show if (-4 : Int32) = -4 then K M else False
    rw [if_pos rfl]
    exact hK _ hI
  rw [if_pos (show mI M 0 6 < 6 by rw [iW0.2.1]; exact nI_lt (b := 6) h6 (by omega))]
  rw [iW0.2.1, nI_clamp (by omega)]
  refine ⟨9, mP_g hG rfl, isA_g hG (by decide) rfl (vpN h6 (by omega)), 40 + 4 * nw, p_win hG h6, o_win hG h6, ?_⟩
  rw [mP_g hG (show pvx 0 2 = some 8 from rfl), iN0.2.1]
  have nt100 := iN0.1
  have hc := tX_end M nt
  refine parse_c (c := tX M nt) (by omega) (win_O hG h6) (hG.2.1 8 (by decide)) nt100 hc (fun k hk => (tX_at M hk).symm) fun M1 f1 w1 => ?_
  have y1 := f1.y
  have hG1 := y1.good h6 hG
  have gok := gtx_ok hc 8 0 [] (Nat.zero_le _) ⟨fun c hc => (by cases hc), Nat.le_refl _⟩
  refine ⟨oQ hG1, fun M2 hE2 => ?_⟩
  have y2 : yF nw M M2 := y1.tr (yF.st hE2 (by unfold dW; omega))
  have hG2 := y2.good h6 hG
  -- the model, on what the class leaves
  have md : ∀ (M3 : Mem) (Q : Int32 → Mem → Prop), yF nw M M3 → mI M3 76 9 = nI nw → mI M3 76 11 = nI nt → (∀ k, k < nt → mI M3 84 k = mI M 84 k) → ((gtx (tX M nt) nt 8 0 []).1 = true → ∀ M4, yF nw M3 M4 → (∀ b j, b < 76 → mI M4 b j = mI M3 b j) → mI M4 76 9 = nI (nw + 1) → mI M4 76 10 = nI nw → mI M4 76 11 = 0 → wM M4 nw (gtx (tX M nt) nt 8 0 []).2.2 → Q (nI nw) M4) → (¬ (gtx (tX M nt) nt 8 0 []).1 = true → ∀ M4, yF nw M3 M4 → (∀ b j, b < 76 → mI M4 b j = mI M3 b j) → mI M4 76 9 = nI nw → mI M4 76 10 = mI M3 76 10 → mI M4 76 11 = 0 → Q (-10 - nI (gtx (tX M nt) nt 8 0 []).2.1) M4) → f_X12_window 76 M3 Q := by
    intro M3 Q y3 e9 e11 e84 q1 q2
    have hG3 := y3.good h6 hG
    unfold f_X12_window
    refine ⟨oM hG3, ?_⟩
    rw [e9, if_neg (show ¬ nI nw = 6 from fun e => by have := (nI_eq (b := 6) (by omega) (by omega)).mp e; omega)]
    -- the reader's place is of no account: it begins anew
    have hr : ∀ M5, M5 = sI M3 76 12 0 → rdM (tX M nt) nt 0 M5 := fun M5 hE => ⟨by rw [hE]; exact hG3, ⟨nt100, by rw [hE, mI_ne _ _ (by omega)]; exact e11, hc, fun k hk => by rw [hE, mI_ne _ _ (by omega), e84 k hk, tX_at M hk, (iN0.2.2.2 k hk).1]⟩, Nat.zero_le _, by rw [hE, mI_sI_s]; rfl⟩
    refine text_m h6 hG3 hr fun M4 t4 a12 w4 => ?_
    have hG4 := t4.1.good hG3
    refine ⟨oM hG4, fun M6 hE6 => ?_⟩
    have y4 := t4.y
    have lo : ∀ b j, b < 76 → mI M4 b j = mI M3 b j := fun b j hb => t4.2 b j (by omega) (by omega) (by omega) (by omega) (by omega)
    have y6 : yF nw M3 M6 := y4.tr (yF.st hE6 (by unfold dW; omega))
    have e96 : mI M6 76 9 = nI nw := by rw [hE6, mI_ne _ _ (by omega), t4.2 _ _ (by omega) (by omega) (by omega) (by omega) (by omega)]; exact e9
    by_cases gz : (gtx (tX M nt) nt 8 0 []).1 = true
    · rw [if_pos gz]
      intro M7 hE7 M8 hE8
      rw [e96] at hE7
      rw [show mI M7 76 9 = nI nw by rw [hE7, mI_ne _ _ (by omega)]; exact e96, nI_1] at hE8
      have e10 : mI M8 76 10 = nI nw := by rw [hE8, mI_ne _ _ (by omega), hE7, mI_sI_s]
      rw [e10]
      obtain ⟨b1, b2, b3⟩ := w4 gz
      have fr : ∀ b j, ¬ b = 76 → mI M8 b j = mI M4 b j := fun b j hb => by rw [hE8, mI_ne _ _ (by omega), hE7, mI_ne _ _ (by omega), hE6, mI_ne _ _ (by omega)]
      refine q1 gz M8 ((y6.tr (yF.st hE7 (by unfold dW; omega))).tr (yF.st hE8 (by unfold dW; omega))) (fun b j hb => (fr b j (by omega)).trans (lo b j hb)) (by rw [hE8, mI_sI_s]) e10 (by rw [hE8, mI_ne _ _ (by omega), hE7, mI_ne _ _ (by omega), hE6, mI_sI_s]) ⟨(fr _ _ (by omega)).trans b1, fun j c e => ?_, fun k t e => (fr _ _ (by omega)).trans (b3 k t e)⟩
      rw [fr 86 _ (by omega), fr 87 _ (by omega), fr 88 _ (by omega), fr 89 _ (by omega), fr 90 _ (by omega)]
      exact b2 j c e
    · rw [if_neg gz]
      rw [show mI M6 76 12 = nI (gtx (tX M nt) nt 8 0 []).2.1 by rw [hE6, mI_ne _ _ (by omega)]; exact a12]
      exact q2 gz M6 y6 (fun b j hb => by rw [hE6, mI_ne _ _ (by omega)]; exact lo b j hb) e96 (by rw [hE6, mI_ne _ _ (by omega), t4.2 _ _ (by omega) (by omega) (by omega) (by omega) (by omega)]) (by rw [hE6, mI_sI_s])
  have f1h : ∀ b j, 64 ≤ b → mI M1 b j = mI M b j := fun b j hb => f1.2.2 b j (by omega)
  have f1l : ∀ b j, b < 40 → mI M1 b j = mI M b j := fun b j hb => f1.2.2 b j (by omega)
  by_cases gz : (gtx (tX M nt) nt 8 0 []).1 = true
  · rw [if_pos gz, if_pos (by decide)]
    refine ⟨17, mP_g hG2 rfl, isO_g hG2 (by decide) rfl, fun M3 hE3 M4 hE4 => ?_⟩
    rw [show mI M2 0 6 = nI nw by rw [hE2, mI_ne _ _ (by omega), f1l _ _ (by omega)]; exact iW0.2.1] at hE3
    rw [show mI M3 0 6 = nI nw by rw [hE3, mI_ne _ _ (by omega), hE2, mI_ne _ _ (by omega), f1l _ _ (by omega)]; exact iW0.2.1, nI_1] at hE4
    have y4 : yF nw M M4 := (y2.tr (yF.st hE3 (by unfold dW; omega))).tr (yF.st hE4 (by unfold dW; omega))
    have hG4 := y4.good h6 hG
    have h4 : ∀ b j, 40 ≤ b → mI M4 b j = mI M1 b j := fun b j hb => by rw [hE4, mI_ne _ _ (by omega), hE3, mI_ne _ _ (by omega), hE2, mI_ne _ _ (by omega)]
    rw [show mI M4 17 0 = nI nw by rw [hE4, mI_ne _ _ (by omega), hE3, mI_sI_s]]
    refine ⟨oM hG4, md M4 _ y4 (by rw [h4 _ _ (by omega), f1h _ _ (by omega)]; exact iW0.2.2.1) (by rw [h4 _ _ (by omega), f1h _ _ (by omega)]; exact iN0.2.2.1) (fun k hk => by rw [h4 _ _ (by omega), f1h _ _ (by omega)]) (fun _ M5 y5 l5 a9 a10 a11 w5 => ?_) (fun e => absurd gz e)⟩
    rw [if_pos rfl]
    have y05 := y4.tr y5
    obtain ⟨o1, o2, o3⟩ := win_old iW0 y05
    have wc5 : wC M5 (40 + 4 * nw) (gtx (tX M nt) nt 8 0 []).2.2 := wC_fr (w1 gz) (fun b k q1 q2 => (l5 b k (by omega)).trans (h4 b k (by omega)))
    obtain ⟨⟨k1, k2⟩, k3⟩ := gok.2 gz
    have wf : WFc (gtx (tX M nt) nt 8 0 []).2.2 := ⟨by show _ ≤ 8; have k3 : _ ≤ 0 + 8 := k3; omega, by omega, k1⟩
    have a06 : mI M5 0 6 = nI (nw + 1) := by rw [l5 _ _ (by omega), hE4, mI_sI_s]
    have a17 : mI M5 17 0 = nI nw := by rw [l5 _ _ (by omega), hE4, mI_ne _ _ (by omega), hE3, mI_sI_s]
    have a03 : mI M5 0 3 = 0 := by rw [l5 _ _ (by omega), hE4, mI_ne _ _ (by omega), hE3, mI_ne _ _ (by omega), hE2, mI_sI_s]
    generalize (gtx (tX M nt) nt 8 0 []).2.2 = cl at *
    refine hK _ (win_inv (nw' := nw + 1) (cls' := fun i => if i = nw then cl else cls i) (th' := some nw) (cls := cls) (th := th) (nt := nt) hG iS0 iQ0 iH0 iZ0 iO0 iA0 iI0 iT0 h6 y05 a03 a11 (by omega) ⟨by omega, a06, a9, fun i hi => ?_, fun i hi => ?_, fun i hi => ?_⟩ ⟨a10.trans a17.symm, fun e => (by cases e), fun h e => ?_⟩)
    · by_cases ei : i = nw
      · show WFc (if i = nw then cl else cls i); rw [if_pos ei]; exact wf
      · show WFc (if i = nw then cl else cls i); rw [if_neg ei]; exact o1 i (by omega)
    · by_cases ei : i = nw
      · show wC M5 _ (if i = nw then cl else cls i); rw [if_pos ei, ei]; exact wc5
      · show wC M5 _ (if i = nw then cl else cls i); rw [if_neg ei]; exact o2 i (by omega)
    · by_cases ei : i = nw
      · show wM M5 _ (if i = nw then cl else cls i); rw [if_pos ei, ei]; exact w5
      · show wM M5 _ (if i = nw then cl else cls i); rw [if_neg ei]; exact o3 i (by omega)
    · injection e with e
      rw [← e]; exact ⟨by omega, a17⟩
  · rw [if_neg gz]
    have gl := gok.1
    rw [if_neg (nI_pos (by omega))]
    have h2 : ∀ b j, 40 ≤ b → mI M2 b j = mI M1 b j := fun b j hb => by rw [hE2, mI_ne _ _ (by omega)]
    refine ⟨oM hG2, md M2 _ y2 (by rw [h2 _ _ (by omega), f1h _ _ (by omega)]; exact iW0.2.2.1) (by rw [h2 _ _ (by omega), f1h _ _ (by omega)]; exact iN0.2.2.1) (fun k hk => by rw [h2 _ _ (by omega), f1h _ _ (by omega)]) (fun e => (gz e).elim) (fun _ M5 y5 l5 a9 a10 a11 => ?_)⟩
    rw [if_pos rfl]
    have y05 := y2.tr y5
    obtain ⟨o1, o2, o3⟩ := win_old iW0 y05
    have a06 : mI M5 0 6 = nI nw := by rw [l5 _ _ (by omega), hE2, mI_ne _ _ (by omega), f1l _ _ (by omega)]; exact iW0.2.1
    have a17 : mI M5 17 0 = mI M 17 0 := by rw [l5 _ _ (by omega), hE2, mI_ne _ _ (by omega), f1l _ _ (by omega)]
    have a03 : mI M5 0 3 = 0 := by rw [l5 _ _ (by omega), hE2, mI_sI_s]
    refine hK _ (win_inv (nw' := nw) (cls' := cls) (th' := th) (cls := cls) (th := th) (nt := nt) hG iS0 iQ0 iH0 iZ0 iO0 iA0 iI0 iT0 h6 y05 a03 a11 (Nat.le_refl _) ⟨iW0.1, a06, a9, o1, o2, o3⟩ ?_)
    unfold iD
    rw [a10, h2 76 10 (by omega), f1h 76 10 (by omega), a17]
    exact iD0
