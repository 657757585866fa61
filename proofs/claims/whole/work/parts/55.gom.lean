/-! ===== the whole hour, by the model: its beginning, its end ===== -/
theorem hDr_up (X : Nat → Nat → Nat) : ∀ (k now now' : Nat) (S : HS), now ≤ now' → now' ≤ hbz S → hDr X k now' S = hDr X k now S
  | 0, _, _, _, _, _ => rfl
  | k + 1, now, now', S, h1, h2 => by
    show hDr X k (max now' (hbz S)) (hSv X (max now' (hbz S)) S) = hDr X k (max now (hbz S)) (hSv X (max now (hbz S)) S)
    rw [Nat.max_eq_right h2, Nat.max_eq_right (Nat.le_trans h1 h2)]
theorem hSv_bz {X : Nat → Nat → Nat} {ns now now' : Nat} {S : HS} (hx : hX X ns) (hw : hW X ns now' S) (hb : hbz S ≤ now) (h0 : ¬ hLf S = 0) : now + 1 ≤ hbz (hSv X now S) := by
  unfold hSv
  rw [if_neg (by omega), if_neg (hLf_pos h0 X)]
  have hp := hLf_pos h0 X
  have hl := hNx_lt X S
  generalize hNx X S = l at *
  cases hq0 : hq S l with
  | nil => exact absurd hq0 hp
  | cons i r =>
    have h1 := ((hw.2.2.1 l hl).2 i (by rw [hq0]; exact List.mem_cons_self ..)).1
    have h2 := (tmS_le hx (hw.2.1 i h1).1).1
    show now + 1 ≤ now + tmX X (gC (hcm S) i).1
    omega
/-- what the model's hour leaves: its cells have changed, no others -/
def UF (M M1 : Mem) : Prop := Sm M M1 ∧ ∀ a j, ¬ ((a = 76 ∧ 31 ≤ j ∧ j < 41 ∧ ¬ j = 38) ∨ a = 93 ∨ (97 ≤ a ∧ a < 109)) → mI M1 a j = mI M a j
theorem UF.rf (M : Mem) : UF M M := ⟨Sm.rf M, fun _ _ _ => rfl⟩
theorem UF.tr {M M1 M2 : Mem} (h : UF M M1) (k : UF M1 M2) : UF M M2 := ⟨h.1.tr k.1, fun a j q => (k.2 a j q).trans (h.2 a j q)⟩
theorem GF.uf {M M1 : Mem} (h : GF M M1) : UF M M1 := ⟨h.1, fun a j q => h.2 a j (by omega)⟩
theorem go_111 {X : Nat → Nat → Nat} {ns r nh : Nat} {cl : List Cl} {F : List (Nat × Nat)} {sk : Bool} {mk : Nat → Bool} {M0 M : Mem} {x2 x3 x4 : Int32} {Q : Mem → Prop} (g : gS X ns r nh cl F sk M0 0 h00 M) (hx4 : hMk F sk mk x4) (q : ∀ t M1, t ≤ 1640 → gS X ns r nh cl F sk M0 t (hPs X cl ns (hfl mk 0 F)) M1 → Q M1) : f_X12_go_L111 76 (nI r) x2 x3 x4 M Q := by
  have hx := g.2.1.2.1.1
  unfold f_X12_go_L111
  refine ⟨fun N => ∃ t S, gS X ns r nh cl F sk M0 t S N ∧ t ≤ max 60 (hbz S) ∧ ((t ≤ 60 ∧ S = hSx X cl ns (hfl mk 0 F) t) ∨ (60 ≤ t ∧ hDr X (hLf S) t S = hPs X cl ns (hfl mk 0 F))), fun N => 3000 - (mI N 76 39).toNatClampNeg, ⟨0, h00, g, by omega, Or.inl ⟨by omega, rfl⟩⟩, ?_⟩
  rintro N ⟨t, S, gN, hmx, hph⟩
  obtain ⟨a1, a2, a3, a4, a5, a6, a7⟩ := id gN
  have hGN := a2.1
  have hL := hW_len hx a6
  have hbz' := a6.1.2.2.1
  unfold f_X12_go_B111
  refine ⟨oM hGN, ?_⟩
  rw [a4]
  have meas : ∀ N', mI N' 76 39 = nI (t + 1) → 3000 - (mI N' 76 39).toNatClampNeg < 3000 - (mI N 76 39).toNatClampNeg := by
    intro N' e
    rw [e, a4, nI_clamp (by omega), nI_clamp (by omega)]; omega
  by_cases h60 : t < 60
  · rw [if_pos (show nI t < (60 : Int32) from nI_lt (b := 60) h60 (by omega))]
    refine go_137 gN hx4 (by omega) fun M1 g1 => ⟨⟨t + 1, _, g1, by omega, Or.inl ⟨by omega, ?_⟩⟩, meas M1 g1.2.2.2.1⟩
    rw [if_pos h60]
    have : S = hSx X cl ns (hfl mk 0 F) t := by
      rcases hph with ⟨-, e⟩ | ⟨e, -⟩
      · exact e
      · omega
    rw [this, hSx_s]; rfl
  · rw [if_neg (show ¬ nI t < (60 : Int32) from nI_nlt (b := 60) (by omega) (by omega))]
    have hdr : hDr X (hLf S) t S = hPs X cl ns (hfl mk 0 F) := by
      rcases hph with ⟨h, e⟩ | ⟨-, e⟩
      · obtain rfl : t = 60 := by omega
        rw [e]; rfl
      · exact e
    have rl := a5.2.2.2.2
    refine stand_m hGN rl (l := 0) (by omega) ⟨oM hGN, stand_m hGN rl (l := 1) (by omega) ?_⟩
    rw [nI_add]
    by_cases c0 : hLf S = 0
    · rw [if_pos (by unfold hLf at c0; rw [c0]; decide)]
      rw [c0] at hdr
      have e : S = hPs X cl ns (hfl mk 0 F) := hdr
      rw [← e] at q
      exact q t N (by omega) gN
    · rw [if_neg (nI_nle (by unfold hLf at c0; omega) (by omega))]
      refine go_137 gN hx4 (by omega) fun M1 g1 => ?_
      rw [if_neg h60] at g1
      refine ⟨⟨t + 1, _, g1, ?_, Or.inr ⟨by omega, ?_⟩⟩, meas M1 g1.2.2.2.1⟩
      · by_cases cb : hbz S ≤ t
        · have := hSv_bz hx a6 cb c0; omega
        · have : hSv X t S = S := by unfold hSv; rw [if_pos (by omega)]
          rw [this]; omega
      · obtain ⟨k, hk⟩ : ∃ k, hLf S = k + 1 := ⟨hLf S - 1, by omega⟩
        by_cases cb : hbz S ≤ t
        · have h1 := hSv_bz hx a6 cb c0
          rw [hLf_sv cb, hDr_up X _ t (t + 1) _ (by omega) h1, ← hdr, hk]
          show hDr X k t (hSv X t S) = hDr X k (max t (hbz S)) (hSv X (max t (hbz S)) S)
          rw [Nat.max_eq_left cb]
        · have : hSv X t S = S := by unfold hSv; rw [if_pos (by omega)]
          rw [this, hDr_up X _ t (t + 1) S (by omega) (by omega)]; exact hdr
theorem go_m {X : Nat → Nat → Nat} {ns r nh : Nat} {cl : List Cl} {F : List (Nat × Nat)} {sk : Bool} {mk : Nat → Bool} {M : Mem} {x3 x4 : Int32} {Q : Mem → Prop} (hG : Good M) (h : aM X ns r cl M) (h3 : nI (wMo cl) + x3 = nI (X 4 3)) (hF : hM F ns nh sk M) (hx4 : hMk F sk mk x4) (q : ∀ t M1, t ≤ 1640 → UF M M1 → mC X ns r cl M1 → rM X sk (hPs X cl ns (hfl mk 0 F)) M1 → hW X ns t (hPs X cl ns (hfl mk 0 F)) → rSt (hPs X cl ns (hfl mk 0 F)) t M1 → Q M1) : f_X12_go 76 (nI r) (nI (X 4 2)) x3 x4 M Q := by
  obtain ⟨hx, mx, mo, ⟨nw, cls, th, hE, hcl⟩, h44⟩ := id h
  unfold f_X12_go
  refine ⟨oM hG, ?_⟩
  intro M2 hE2; intro M3 hE3; intro M4 hE4; intro M5 hE5; intro M6 hE6
  have s6 : Sm M M6 := by rw [hE6, hE5, hE4, hE3, hE2]; exact Sm.rf M
  have e6 : ∀ a j, ¬ (a = 76 ∧ 31 ≤ j ∧ j < 36) → mI M6 a j = mI M a j := fun a j c => by rw [hE6, mI_ne _ _ (by omega), hE5, mI_ne _ _ (by omega), hE4, mI_ne _ _ (by omega), hE3, mI_ne _ _ (by omega), hE2, mI_ne _ _ (by omega)]
  have y31 : mI M6 76 31 = 0 := by rw [hE6, mI_ne _ _ (by omega), hE5, mI_ne _ _ (by omega), hE4, mI_ne _ _ (by omega), hE3, mI_ne _ _ (by omega), hE2, mI_sI_s]
  have y32 : mI M6 76 32 = 0 := by rw [hE6, mI_ne _ _ (by omega), hE5, mI_ne _ _ (by omega), hE4, mI_ne _ _ (by omega), hE3, mI_sI_s]
  have y33 : mI M6 76 33 = 0 := by rw [hE6, mI_ne _ _ (by omega), hE5, mI_ne _ _ (by omega), hE4, mI_sI_s]
  have y34 : mI M6 76 34 = 0 := by rw [hE6, mI_ne _ _ (by omega), hE5, mI_sI_s]
  have y35 : mI M6 76 35 = nI (X 4 2) := by rw [hE6, mI_sI_s]
  clear hE2 hE3 hE4 hE5 hE6
  have iw : ∀ N, (∀ a j, ¬ ((a = 76 ∧ 31 ≤ j ∧ j < 41) ∨ a = 93 ∨ (97 ≤ a ∧ a < 110)) → mI N a j = mI M a j) → iWE N nw cls th := fun N f => ⟨iW_fr hE.1 (fun a k d => by unfold cW at d; exact f a k (by omega)), iD_fr hE.2 (fun a k d => by unfold cD at d; exact f a k (by omega))⟩
  have hG6 := s6.good hG
  refine told1 hG6 (iw M6 (fun a j c => e6 a j (by omega))) ?_
  rw [hcl]
  refine ⟨oM hG6, ?_⟩
  intro M7 hE7
  rw [h3] at hE7
  have s7 : Sm M M7 := by rw [hE7]; exact s6
  have e7 : ∀ a j, ¬ (a = 76 ∧ j = 36) → mI M7 a j = mI M6 a j := fun a j c => by rw [hE7, mI_ne _ _ (by omega)]
  have y36 : mI M7 76 36 = nI (X 4 3) := by rw [hE7, mI_sI_s]
  clear hE7
  have hG7 := s7.good hG
  refine told2 hG7 (iw M7 (fun a j c => (e7 a j (by omega)).trans (e6 a j (by omega)))) ?_
  rw [hcl, ← h44]
  refine ⟨oM hG7, ?_⟩
  intro M8 hE8; intro M9 hE9
  have s9 : Sm M M9 := by rw [hE9, hE8]; exact s7
  have e9 : ∀ a j, ¬ (a = 76 ∧ (j = 37 ∨ j = 40)) → mI M9 a j = mI M7 a j := fun a j c => by rw [hE9, mI_ne _ _ (by omega), hE8, mI_ne _ _ (by omega)]
  have y37 : mI M9 76 37 = nI (X 4 4) := by rw [hE9, mI_ne _ _ (by omega), hE8, mI_sI_s]
  have y40 : mI M9 76 40 = -1 := by rw [hE9, mI_sI_s]
  clear hE8 hE9
  have f9 : UF M M9 := ⟨s9, fun a j c => (e9 a j (by omega)).trans ((e7 a j (by omega)).trans (e6 a j (by omega)))⟩
  have hG9 := s9.good hG
  have a9 : aM X ns r cl M9 := aM_fr h (fun a j c => f9.2 a j (by omega))
  have c9 : mC X ns r cl M9 := ⟨hG9, a9, by rw [e9 _ _ (by omega), e7 _ _ (by omega)]; exact y35, by rw [e9 _ _ (by omega)]; exact y36, y37⟩
  have r9 : mI M9 76 31 = 0 ∧ mI M9 76 32 = 0 ∧ mI M9 76 33 = 0 ∧ mI M9 76 34 = 0 := by
    rw [e9 _ _ (by omega), e7 _ _ (by omega), e9 _ _ (by omega), e7 _ _ (by omega), e9 _ _ (by omega), e7 _ _ (by omega), e9 _ _ (by omega), e7 _ _ (by omega)]
    exact ⟨y31, y32, y33, y34⟩
  -- the lines are empty
  unfold f_X12_go_L53
  refine cnt 2 (by omega) (fun k N => GF M9 N ∧ (∀ a j, ¬ (a = 104 ∨ a = 105) → mI N a j = mI M9 a j) ∧ ∀ l, l < k → mI N 104 l = 0 ∧ mI N 105 l = 0) ⟨GF.rf M9, fun _ _ _ => rfl, fun l hl => absurd hl (Nat.not_lt_zero _)⟩ ?_
  rintro K0 k N hk ⟨f, e, o⟩ hK0
  show f_X12_go_B53 76 (nI r) (nI (X 4 2)) x3 x4 (nI k) N K0 Q
  have hGN := f.1.good hG9
  unfold f_X12_go_B53
  by_cases ck : k < 2
  · rw [if_neg (show ¬ (2 : Int32) ≤ nI k from nI_ge (b := 2) ck (by omega))]
    have vk : vp_in (nI k) 2 := vpN ck (by omega)
    have ek : (nI k).toNatClampNeg = k := nI_clamp (by omega)
    refine ⟨oM hGN, 104, mP_g hGN rfl, isA_g hGN (by decide) rfl vk, ?_⟩
    rw [ek]
    intro N2 hE2
    refine ⟨105, by rw [hE2]; exact mP_g hGN rfl, by rw [hE2]; exact isA_g hGN (by decide) rfl vk, ?_⟩
    intro N3 hE3
    refine hK0 ck N3 ⟨by rw [hE3, hE2]; exact (f.st _ (by omega)).st _ (by omega), fun a j c => by rw [hE3, mI_ne _ _ (by omega), hE2, mI_ne _ _ (by omega)]; exact e a j c, fun l hl => ?_⟩
    by_cases el : l = k
    · subst el
      rw [hE3, mI_ne _ _ (by omega), hE2, mI_sI_s, mI_sI_s]; exact ⟨rfl, rfl⟩
    · rw [hE3, mI_ne _ _ (by omega), hE2, mI_ne _ _ (by omega), mI_ne _ _ (by omega), mI_ne _ _ (by omega)]; exact o l (by omega)
  obtain rfl : k = 2 := by omega
  rw [if_pos (show (2 : Int32) ≤ nI 2 by decide)]
  clear hK0
  -- nobody has stood
  unfold f_X12_go_L84
  refine cnt 200 (by omega) (fun k N' => GF M9 N' ∧ (∀ a j, ¬ (a = 108) → mI N' a j = mI N a j) ∧ ∀ j, j < k → mI N' 108 j = 0) ⟨f, fun _ _ _ => rfl, fun l hl => absurd hl (Nat.not_lt_zero _)⟩ ?_
  rintro K1 k N' hk' ⟨f', e', o'⟩ hK1
  show f_X12_go_B84 76 (nI r) (nI (X 4 2)) x3 x4 (nI k) N' K1 Q
  have hGN' := f'.1.good hG9
  unfold f_X12_go_B84
  by_cases ck : k < 200
  · rw [if_neg (show ¬ (200 : Int32) ≤ nI k from nI_ge (b := 200) ck (by omega))]
    refine ⟨oM hGN', 108, mP_g hGN' rfl, isA_g hGN' (by decide) rfl (vpN ck (by omega)), ?_⟩
    rw [nI_clamp (by omega)]
    intro N2 hE2
    refine hK1 ck N2 ⟨by rw [hE2]; exact f'.st _ (by omega), fun a j c => by rw [hE2, mI_ne _ _ (by omega)]; exact e' a j c, fun j hj => ?_⟩
    by_cases el : j = k
    · subst el; rw [hE2, mI_sI_s]
    · rw [hE2, mI_ne _ _ (by omega)]; exact o' j (by omega)
  obtain rfl : k = 200 := by omega
  rw [if_pos (show (200 : Int32) ≤ nI 200 by decide)]
  clear hK1
  refine ⟨oM hGN', ?_⟩
  intro M10 hE10
  have f10 : GF M9 M10 := by rw [hE10]; exact f'.st _ (by omega)
  have e10 : ∀ a j, ¬ (a = 76 ∧ j = 39) → mI M10 a j = mI N' a j := fun a j c => by rw [hE10, mI_ne _ _ (by omega)]
  have n10 : mI M10 76 39 = nI 0 := by rw [hE10, mI_sI_s]; rfl
  clear hE10
  have e76 : ∀ j, ¬ j = 39 → mI M10 76 j = mI M9 76 j := fun j c => by rw [e10 _ _ (by omega), e' _ _ (by omega), e _ _ (by omega)]
  have hMd : hM F ns nh sk M9 := hM_fr hF (fun a j c => f9.2 a j (by omega))
  have g0 : gS X ns r nh cl F sk M9 0 h00 M10 := by
    refine ⟨f10, mC_fr c9 f10, hM_fr hMd (fun a j c => f10.2 a j (by omega)), n10, ⟨⟨?_, ?_, ?_, ?_, fun _ => ?_⟩, fun i hi => absurd hi (Nat.not_lt_zero _), fun k e he => ?_, fun i hi => absurd hi (Nat.not_lt_zero _), fun l hl => ⟨0, Nat.zero_le _, ?_, ?_, fun k i hi => ?_⟩⟩, hW_00 X ns, fun l hl j hj => ?_⟩
    · rw [e76 _ (by omega)]; exact r9.1
    · rw [e76 _ (by omega)]; exact r9.2.1
    · rw [e76 _ (by omega)]; exact r9.2.2.1
    · rw [e76 _ (by omega)]; exact r9.2.2.2
    · rw [e76 _ (by omega)]; exact y40
    · have he : ([] : List (Nat × Nat))[k]? = some e := he
      simp at he
    · rw [e10 _ _ (by omega), e' _ _ (by omega)]; exact (o l hl).1
    · rw [e10 _ _ (by omega), e' _ _ (by omega)]; exact (o l hl).2
    · have hi : ([] : List Nat)[k]? = some i := hi
      simp at hi
    · rw [e10 _ _ (by omega), o' _ (by omega), if_neg (Nat.not_lt_zero _)]; rfl
  refine go_111 g0 hx4 fun t M11 ht g11 => ?_
  obtain ⟨b1, b2, b3, b4, b5, b6, b7⟩ := g11
  exact q t M11 ht (f9.tr b1.uf) b2 b5 b6 b7
