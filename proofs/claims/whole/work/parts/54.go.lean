/-! ===== the whole hour, by the model ===== -/
def skn (sk : Bool) : Nat := if sk = true then 1 else 0
/-- those told by hand, as the model has them: all, and which of them stay away -/
def hM (F : List (Nat × Nat)) (ns nh : Nat) (sk : Bool) (M : Mem) : Prop := F.length = nh + skn sk ∧ F.length ≤ 13 ∧ mI M 76 1 = nI nh ∧ mI M 76 38 = nI (skn sk) ∧ ∀ k h, F[k]? = some h → (mI M 82 k = nI h.1 ∧ mI M 83 k = nI h.2) ∧ h.1 < ns ∧ h.2 < 60
def hMk (F : List (Nat × Nat)) (sk : Bool) (mk : Nat → Bool) (x : Int32) : Prop := (∀ k, k < F.length → (((x >>> (nI k &&& 31)) &&& (1 : Int32)) = 1 ↔ mk k = true)) ∧ (sk = true → ∀ k, mk k = false)
def hfl (mk : Nat → Bool) : Nat → List (Nat × Nat) → List (Nat × Nat)
  | _, [] => []
  | k, h :: r => if mk k = true then hfl mk (k + 1) r else h :: hfl mk (k + 1) r
theorem hfl_0 (mk : Nat → Bool) (h : ∀ k, mk k = false) : ∀ (k : Nat) (F : List (Nat × Nat)), hfl mk k F = F
  | _, [] => rfl
  | k, a :: r => by
    show (if mk k = true then _ else _) = _
    rw [if_neg (by rw [h k]; decide), hfl_0 mk h (k + 1) r]
theorem hM_fr {F : List (Nat × Nat)} {ns nh : Nat} {sk : Bool} {M M1 : Mem} (h : hM F ns nh sk M) (f : ∀ a j, (a = 76 ∧ (j = 1 ∨ j = 38)) ∨ a = 82 ∨ a = 83 → mI M1 a j = mI M a j) : hM F ns nh sk M1 := by
  obtain ⟨h1, h2, h3, h4, h5⟩ := h
  exact ⟨h1, h2, (f _ _ (by omega)).trans h3, (f _ _ (by omega)).trans h4, fun k x hx => by rw [f _ _ (by omega), f _ _ (by omega)]; exact h5 k x hx⟩
def rSt (S : HS) (t : Nat) (M : Mem) : Prop := ∀ l, l < 2 → ∀ j, j < 100 → mI M 108 (100 * l + j) = nI (if j < t then sCn S l j else 0)
/-- one state of the model's hour -/
def gS (X : Nat → Nat → Nat) (ns r nh : Nat) (cl : List Cl) (F : List (Nat × Nat)) (sk : Bool) (M0 : Mem) (t : Nat) (S : HS) (M : Mem) : Prop := GF M0 M ∧ mC X ns r cl M ∧ hM F ns nh sk M ∧ mI M 76 39 = nI t ∧ rM X sk S M ∧ hW X ns t S ∧ rSt S t M
theorem gS_gf {X : Nat → Nat → Nat} {ns r nh t : Nat} {cl : List Cl} {F : List (Nat × Nat)} {sk : Bool} {M0 M M1 : Mem} {S S1 : HS} (g : gS X ns r nh cl F sk M0 t S M) (f : GF M M1) (hn : mI M1 76 39 = nI t) (rm : rM X sk S1 M1) (hw : hW X ns t S1) (ra : rSt S1 t M1) : gS X ns r nh cl F sk M0 t S1 M1 := by
  obtain ⟨g1, g2, g3, -, -, -, -⟩ := g
  exact ⟨g1.tr f, mC_fr g2 f, hM_fr g3 (fun a j q => f.2 a j (by omega)), hn, rm, hw, ra⟩
theorem rSt_eq {S S1 : HS} {t : Nat} {M M1 : Mem} (h : rSt S t M) (e : ∀ j, mI M1 108 j = mI M 108 j) (c : ∀ l j, j < t → sCn S1 l j = sCn S l j) : rSt S1 t M1 := by
  intro l hl j hj
  rw [e, h l hl j hj]
  by_cases q : j < t
  · rw [if_pos q, if_pos q, c l j q]
  · rw [if_neg q, if_neg q]
theorem mk_n {l m j t : Nat} (hl : l < 2) (hm : m < 2) (hj : j < 100) (ht : t < 100) : 100 * l + j = 100 * m + t ↔ l = m ∧ j = t := by omega
theorem go_300 {X : Nat → Nat → Nat} {ns r nh t : Nat} {cl : List Cl} {F : List (Nat × Nat)} {sk : Bool} {M0 M : Mem} {S : HS} {x1 x2 x3 x4 : Int32} {K Q : Mem → Prop} (g : gS X ns r nh cl F sk M0 t S M) (ht : t < 2 ^ 30) (hK : ∀ M1, gS X ns r nh cl F sk M0 (t + 1) S M1 → K M1) : f_X12_go_L300 76 x1 x2 x3 x4 0 M K Q := by
  obtain ⟨g1, g2, g3, g4, g5, g6, g7⟩ := id g
  have hG := g2.1
  have hL := hW_len g2.2.1.1 g6
  unfold f_X12_go_L300
  refine cnt 2 (by omega) (fun k N => GF M N ∧ (∀ a j, ¬ a = 108 → mI N a j = mI M a j) ∧ ∀ l, l < 2 → ∀ j, j < 100 → mI N 108 (100 * l + j) = if j = t ∧ l < k then nI (hq S l).length else mI M 108 (100 * l + j)) ⟨GF.rf M, fun _ _ _ => rfl, fun l hl j hj => by rw [if_neg (by omega)]⟩ ?_
  rintro K0 k N hk ⟨f, e, a⟩ hK0
  show f_X12_go_B300 76 x1 x2 x3 x4 (nI k) N K0 K Q
  have hGN := f.1.good hG
  have n39 : mI N 76 39 = nI t := (e _ _ (by omega)).trans g4
  have fin : (k = 2 ∨ 100 ≤ t) → f_X12_go_J342 76 x1 x2 x3 x4 N K Q := by
    intro c
    unfold f_X12_go_J342
    refine ⟨oM hGN, ?_⟩
    intro N2 hE
    rw [n39, nI_1] at hE
    have f2 : GF M N2 := by rw [hE]; exact f.st _ (by omega)
    have e2 : ∀ b j, ¬ (b = 76 ∧ j = 39) → mI N2 b j = mI N b j := fun b j q => by rw [hE, mI_ne _ _ (by omega)]
    refine hK N2 ⟨g1.tr f2, mC_fr g2 f2, hM_fr g3 (fun b j q => f2.2 b j (by omega)), by rw [hE, mI_sI_s], rM_fr g5 g6 (fun b j q => (e2 b j (by omega)).trans (e b j (by omega))), hW_mono g6 (by omega), ?_⟩
    intro l hl j hj
    rw [e2 _ _ (by omega), a l hl j hj]
    by_cases c1 : j = t ∧ l < k
    · rw [if_pos c1, if_pos (by omega), c1.1, sCn_q g6 hl]
    · rw [if_neg c1, g7 l hl j hj]
      by_cases c2 : j < t
      · rw [if_pos c2, if_pos (by omega)]
      · rw [if_neg c2, if_neg (by omega)]
  unfold f_X12_go_B300
  by_cases c1 : k = 2
  · subst c1
    rw [if_pos (show (2 : Int32) ≤ nI 2 by decide)]
    exact fin (Or.inl rfl)
  rw [if_neg (show ¬ (2 : Int32) ≤ nI k from nI_ge (b := 2) (by omega) (by omega))]
  refine ⟨oM hGN, ?_⟩
  rw [n39]
  by_cases c2 : t < 100
  · rw [if_neg (show ¬ (100 : Int32) ≤ nI t from nI_ge (b := 100) c2 (by omega))]
    have hk2 : k < 2 := by omega
    refine stand_m hGN (rL_fr g5.2.2.2.2 (fun b j q => e b j (by omega))) hk2 ?_
    refine ⟨108, mP_g hGN rfl, ?_⟩
    rw [show (100 : Int32) = nI 100 from rfl, nI_mul, nI_add, nI_clamp (by omega)]
    refine ⟨isA_g hGN (by decide) rfl (vpN (by omega) (by omega)), ?_⟩
    intro N2 hE
    refine hK0 hk2 N2 ⟨by rw [hE]; exact f.st _ (by omega), fun b j q => by rw [hE, mI_ne _ _ (by omega)]; exact e b j q, fun l hl j hj => ?_⟩
    by_cases c3 : l = k ∧ j = t
    · obtain ⟨rfl, rfl⟩ := c3
      rw [if_pos (by omega), hE, mI_sI_s]
    · have d9 : ¬ (100 * l + j = 100 * k + t) := fun z => c3 ((mk_n hl hk2 hj c2).mp z)
      rw [hE, mI_ne _ _ (by omega), a l hl j hj]
      by_cases c4 : j = t ∧ l < k
      · rw [if_pos c4, if_pos (by omega)]
      · rw [if_neg c4, if_neg (by omega)]
  · rw [if_pos (show (100 : Int32) ≤ nI t from nI_le (a := 100) (by omega) (by omega))]
    exact fin (Or.inr (by omega))
theorem go_292 {X : Nat → Nat → Nat} {ns r nh t : Nat} {cl : List Cl} {F : List (Nat × Nat)} {sk : Bool} {M0 M : Mem} {S : HS} {x2 x3 x4 : Int32} {K Q : Mem → Prop} (g : gS X ns r nh cl F sk M0 t S M) (ht : t ≤ 60 + 38 * (hsv S).length) (hK : ∀ M1, gS X ns r nh cl F sk M0 (t + 1) (hSv X t S) M1 → K M1) : f_X12_go_J292 76 (nI r) x2 x3 x4 M K Q := by
  obtain ⟨g1, g2, g3, g4, g5, g6, g7⟩ := id g
  have hL := hW_len g2.2.1.1 g6
  unfold f_X12_go_J292
  refine ⟨oM g2.1, takes_m2 g2 g5 g6 g4 (by omega) fun M1 f1 n1 e1 rm1 => ?_⟩
  exact go_300 (gS_gf g f1 n1 rm1 (hW_sv g2.2.1.1 g6 ht) (rSt_eq g7 e1 (fun l j hj => sCn_sv g6 hj))) (by omega) hK
theorem sCn_wt (S : HS) (l j : Nat) : sCn (hWt S) l j = sCn S l j := rfl
theorem go_237 {X : Nat → Nat → Nat} {ns r nh t : Nat} {cl : List Cl} {F : List (Nat × Nat)} {sk : Bool} {M0 M : Mem} {S : HS} {x2 x3 x4 : Int32} {K Q : Mem → Prop} (g : gS X ns r nh cl F sk M0 t S M) (ht : t ≤ 60 + 38 * (hsv S).length) (hK : ∀ M1, gS X ns r nh cl F sk M0 (t + 1) (hSv X t (if t < 60 then hTx X cl t ns S else S)) M1 → K M1) : f_X12_go_J234 76 (nI r) x2 x3 x4 M K Q := by
  obtain ⟨g1, g2, g3, g4, g5, g6, g7⟩ := id g
  have hx := g2.2.1.1
  have hns := hx.1
  have hL0 := hW_len hx g6
  unfold f_X12_go_J234 f_X12_go_L237
  refine cnt ns (by omega) (fun k N => (k = 0 ∨ t < 60) ∧ gS X ns r nh cl F sk M0 t (hTx X cl t k S) N ∧ hsv (hTx X cl t k S) = hsv S) ⟨Or.inl rfl, g, rfl⟩ ?_
  rintro K0 k N hk ⟨hk0, gN, hsvk⟩ hK0
  show f_X12_go_B237 76 (nI r) x2 x3 x4 (nI k) N K0 K Q
  obtain ⟨a1, a2, a3, a4, a5, a6, a7⟩ := id gN
  have hGN := a2.1
  have hL := hW_len hx a6
  have h44 := hx.2.2.2.2.2.2.2.1
  unfold f_X12_go_B237 f_X12_go_J286
  refine ⟨oM hGN, ?_⟩
  rw [a2.2.1.2.1.1, a4]
  by_cases hkl : k < ns
  · rw [if_neg (nI_ge hkl (by omega))]
    by_cases h60 : t < 60
    · rw [if_neg (show ¬ (60 : Int32) ≤ nI t from nI_ge (b := 60) h60 (by omega))]
      have es : hTx X cl t (k + 1) S = hT1 X cl t (hTx X cl t k S) k := by
        unfold hTx; rw [List.range_succ, List.foldl_append]; rfl
      generalize hTx X cl t k S = S' at *
      have hK2 := hK0 hkl
      rw [a2.2.2.2.2, a5.1.1]
      have skip : ∀ N', NF N N' → ¬ ((hcm S').length < X 4 4 ∧ cll cl k t (hq S' 1).length (hq S' 0).length (hcm S').length = true) → K0 (nI k + 1, N') := by
        intro N' fN c
        unfold hT1 at es
        rw [if_neg c] at es
        refine hK2 N' ⟨Or.inr h60, ?_, by rw [es]; exact hsvk⟩
        rw [es]
        exact gS_gf gN fN.gf ((fN.2 _ _ (by omega)).trans a4) (rM_fr a5 a6 (fun a j d => fN.2 a j (by omega))) a6 (rSt_eq a7 (fun j => fN.2 _ _ (by omega)) (fun _ _ _ => rfl))
      by_cases c2 : (hcm S').length < X 4 4
      · rw [if_neg (nI_ge c2 (by omega))]
        refine comes_m a2 a5 a6 (by omega) (by omega) fun N2 f2 => ?_
        have g2' : gS X ns r nh cl F sk M0 t S' N2 := gS_gf gN f2.gf ((f2.2 _ _ (by omega)).trans a4) (rM_fr a5 a6 (fun a j d => f2.2 a j (by omega))) a6 (rSt_eq a7 (fun j => f2.2 _ _ (by omega)) (fun _ _ _ => rfl))
        by_cases cc : cll cl k t (hq S' 1).length (hq S' 0).length (hcm S').length = true
        · rw [if_pos cc]
          obtain ⟨b1, b2, b3, b4, b5, b6, b7⟩ := id g2'
          refine ⟨oM b2.1, joins_m2 b2 b5 b6 b4 h60 hkl (fun z => by omega) fun _ N3 f3 n3 e3 r3 => ?_⟩
          unfold hT1 at es
          rw [if_pos ⟨c2, cc⟩] at es
          refine hK2 N3 ⟨Or.inr h60, ?_, by rw [es, (hEn_sv X t k S').1]; exact hsvk⟩
          rw [es]
          exact gS_gf g2' f3 n3 r3 (hW_en b6 hkl h60 c2) (rSt_eq b7 e3 (fun l j hj => sCn_en hj))
        · rw [if_neg cc]
          exact skip N2 f2 (fun z => cc z.2)
      · rw [if_pos (nI_le (by omega) (by omega))]
        exact skip N (NF.rf N) (fun z => c2 z.1)
    · rw [if_pos (show (60 : Int32) ≤ nI t from nI_le (a := 60) (by omega) (by omega))]
      rw [if_neg h60] at hK
      have : k = 0 := by omega
      subst this
      exact go_292 gN ht hK
  · obtain rfl : k = ns := by omega
    rw [if_pos (nI_le (Nat.le_refl _) (by omega))]
    by_cases h60 : t < 60
    · rw [if_pos h60] at hK
      exact go_292 gN (by rw [hsvk]; exact ht) hK
    · rw [if_neg h60] at hK
      have : k = 0 := by omega
      subst this
      exact go_292 gN ht hK
theorem hHd_sv (X : Nat → Nat → Nat) (now : Nat) : ∀ (H : List (Nat × Nat)) (S : HS), hsv (hHd X now H S) = hsv S
  | [], _ => rfl
  | h :: r, S => by
    show hsv (hHd X now r _) = _
    rw [hHd_sv X now r]
    split
    · split <;> rfl
    · rfl
theorem go_137 {X : Nat → Nat → Nat} {ns r nh t : Nat} {cl : List Cl} {F : List (Nat × Nat)} {sk : Bool} {mk : Nat → Bool} {M0 M : Mem} {S : HS} {x2 x3 x4 : Int32} {K Q : Mem → Prop} (g : gS X ns r nh cl F sk M0 t S M) (hx4 : hMk F sk mk x4) (ht : t ≤ 60 + 38 * (hsv S).length) (hK : ∀ M1, gS X ns r nh cl F sk M0 (t + 1) (hSv X t (if t < 60 then hTx X cl t ns (hHd X t (hfl mk 0 F) S) else S)) M1 → K M1) : f_X12_go_J134 76 (nI r) x2 x3 x4 M K Q := by
  obtain ⟨g1, g2, g3, g4, g5, g6, g7⟩ := id g
  have hx := g2.2.1.1
  have hF := g3.2.1
  have hL0 := hW_len hx g6
  unfold f_X12_go_J134 f_X12_go_L137
  refine cnt F.length (by omega) (fun k N => (k = 0 ∨ t < 60) ∧ ∃ S', gS X ns r nh cl F sk M0 t S' N ∧ hsv S' = hsv S ∧ (k = 0 → S' = S) ∧ hHd X t (hfl mk k (F.drop k)) S' = hHd X t (hfl mk 0 F) S) ⟨Or.inl rfl, S, g, rfl, fun _ => rfl, rfl⟩ ?_
  rintro K0 k N hk ⟨hk0, S', gN, hsvk, hS0, hrec⟩ hK0
  show f_X12_go_B137 76 (nI r) x2 x3 x4 (nI k) N K0 K Q
  obtain ⟨a1, a2, a3, a4, a5, a6, a7⟩ := id gN
  obtain ⟨l1, l2, l3, l4, l5⟩ := a3
  have hGN := a2.1
  have hL := hW_len hx a6
  have h44 := hx.2.2.2.2.2.2.2.1
  unfold f_X12_go_B137
  refine ⟨oM hGN, ?_⟩
  rw [l3, l4, nI_add, ← l1, a4]
  by_cases hkl : k < F.length
  · rw [if_neg (nI_ge hkl (by omega))]
    by_cases h60 : t < 60
    · rw [if_neg (show ¬ (60 : Int32) ≤ nI t from nI_ge (b := 60) h60 (by omega))]
      obtain ⟨x, hx'⟩ : ∃ x, F[k]? = some x := ⟨F[k], List.getElem?_eq_getElem hkl⟩
      obtain ⟨⟨y1, y2⟩, y3, y4⟩ := l5 k x hx'
      have hdr : F.drop k = x :: F.drop (k + 1) := by rw [List.drop_eq_getElem_cons hkl]; congr 1; rw [List.getElem?_eq_getElem hkl] at hx'; exact Option.some.inj hx'
      have hfe : hfl mk k (F.drop k) = if mk k = true then hfl mk (k + 1) (F.drop (k + 1)) else x :: hfl mk (k + 1) (F.drop (k + 1)) := by rw [hdr]; rfl
      rw [hfe] at hrec
      have vk : vp_in (nI k) 13 := vpN (by omega) (by omega)
      have ek : (nI k).toNatClampNeg = k := nI_clamp (by omega)
      have hK2 := hK0 hkl
      have skip : hHd X t (hfl mk (k + 1) (F.drop (k + 1))) S' = hHd X t (hfl mk 0 F) S → f_X12_go_J228 76 (nI r) x2 x3 x4 (nI k) N K K0 Q := fun e => hK2 N ⟨Or.inr h60, S', gN, hsvk, fun z => by omega, e⟩
      refine ⟨83, mP_g hGN rfl, isA_g hGN (by decide) rfl vk, ?_⟩
      rw [ek, y2]
      by_cases c1 : x.2 = t
      · rw [if_pos (by rw [c1])]
        by_cases cm : mk k = true
        · rw [if_pos ((hx4.1 k hkl).mpr cm)]
          rw [if_pos cm] at hrec
          exact skip hrec
        · rw [if_neg (fun z => cm ((hx4.1 k hkl).mp z))]
          rw [if_neg cm] at hrec
          have hrec' : hHd X t (hfl mk (k + 1) (F.drop (k + 1))) (if x.2 = t ∧ (hcm S').length < X 4 4 then hEn X t x.1 (if (hfl mk (k + 1) (F.drop (k + 1))).isEmpty = true then hWt S' else S') else S') = hHd X t (hfl mk 0 F) S := hrec
          have J216 : ∀ (S2 : HS) (N2 : Mem), gS X ns r nh cl F sk M0 t S2 N2 → hsv S2 = hsv S → (hcm S2).length = (hcm S').length → ((hcm S').length < X 4 4 → hHd X t (hfl mk (k + 1) (F.drop (k + 1))) (hEn X t x.1 S2) = hHd X t (hfl mk 0 F) S) → (¬ (hcm S').length < X 4 4 → hHd X t (hfl mk (k + 1) (F.drop (k + 1))) S2 = hHd X t (hfl mk 0 F) S) → f_X12_go_J216 76 (nI r) x2 x3 x4 (nI k) N2 K K0 Q := by
            intro S2 N2 gg es el e1 e2
            obtain ⟨b1, b2, b3, b4, b5, b6, b7⟩ := id gg
            unfold f_X12_go_J216 f_X12_go_J228
            refine ⟨oM b2.1, 82, mP_g b2.1 rfl, isA_g b2.1 (by decide) rfl vk, ?_⟩
            rw [ek, (b3.2.2.2.2 k x hx').1.1]
            refine joins_m2 b2 b5 b6 b4 h60 y3 (fun z => ?_) fun z N3 f3 n3 e3 r3 => ?_
            · exact hK2 N2 ⟨Or.inr h60, S2, gg, es, fun z => by omega, e2 (by omega)⟩
            · exact hK2 N3 ⟨Or.inr h60, _, gS_gf gg f3 n3 r3 (hW_en b6 y3 h60 z) (rSt_eq b7 e3 (fun l j hj => sCn_en hj)), es, fun z => by omega, e1 (by omega)⟩
          by_cases cl' : (hfl mk (k + 1) (F.drop (k + 1))).isEmpty = true ∧ sk = true
          · -- the one told behind all others
            have hmk := hx4.2 cl'.2
            have hk1 : k + 1 = F.length := by
              have z := cl'.1
              rw [hfl_0 mk hmk, List.isEmpty_iff, List.drop_eq_nil_iff] at z
              omega
            have hknh : k = nh := by
              rw [cl'.2] at l1
              have : skn true = 1 := rfl
              omega
            rw [if_pos (by rw [hknh])]
            rw [if_pos cl'.1] at hrec'
            rw [a2.2.2.2.2, a5.1.1]
            by_cases c2 : (hcm S').length < X 4 4
            · rw [if_neg (nI_ge c2 (by omega))]
              intro N2 hE
              have f2 : GF N N2 := by rw [hE]; exact (GF.rf N).st _ (by omega)
              have e2 : ∀ b j, ¬ (b = 76 ∧ j = 40) → mI N2 b j = mI N b j := fun b j d => by rw [hE, mI_ne _ _ (by omega)]
              have rm2 : rM X sk (hWt S') N2 := by
                obtain ⟨⟨q1, q2, q3, q4, q5⟩, q6, q7, q8, q9⟩ := a5
                refine ⟨⟨(e2 _ _ (by omega)).trans q1, (e2 _ _ (by omega)).trans q2, (e2 _ _ (by omega)).trans q3, (e2 _ _ (by omega)).trans q4, fun _ => by rw [hE, mI_sI_s]; rfl⟩, fun i hi => ?_, fun k e he => ?_, fun i hi hn => ?_, fun l hl => ?_⟩
                · rw [e2 97 i (by omega), e2 98 i (by omega), e2 99 i (by omega), e2 100 i (by omega)]; exact q6 i hi
                · rw [e2 106 k (by omega), e2 107 k (by omega), e2 101 e.1 (by omega), e2 102 e.1 (by omega)]; exact q7 k e he
                · rw [e2 101 i (by omega), e2 102 i (by omega)]; exact q8 i hi hn
                · obtain ⟨hd, p1, p2, p3, p4⟩ := q9 l hl
                  exact ⟨hd, p1, (e2 _ _ (by omega)).trans p2, (e2 _ _ (by omega)).trans p3, fun k i hi => (e2 _ _ (by omega)).trans (p4 k i hi)⟩
              refine J216 (hWt S') N2 (gS_gf gN f2 ((e2 _ _ (by omega)).trans a4) rm2 (hW_wt a6) (rSt_eq a7 (fun j => e2 _ _ (by omega)) (fun l j _ => sCn_wt S' l j))) hsvk rfl (fun z => ?_) (fun z => absurd c2 z)
              rw [if_pos ⟨c1, z⟩] at hrec'; exact hrec'
            · rw [if_pos (nI_le (by omega) (by omega))]
              refine J216 S' N gN hsvk rfl (fun z => absurd z c2) (fun z => ?_)
              rw [if_neg (fun w => z w.2)] at hrec'; exact hrec'
          · have hS2 : ∀ z : (hcm S').length < X 4 4, f_X12_go_J216 76 (nI r) x2 x3 x4 (nI k) N K K0 Q := by
              intro z
              rw [if_pos ⟨c1, z⟩] at hrec'
              by_cases ce : (hfl mk (k + 1) (F.drop (k + 1))).isEmpty = true
              · have hsk : sk = false := by cases sk <;> first | rfl | exact absurd ⟨ce, rfl⟩ cl'
                rw [if_pos ce] at hrec'
                refine J216 (hWt S') N (gS_gf gN (GF.rf N) a4 ?_ (hW_wt a6) (rSt_eq a7 (fun j => rfl) (fun l j _ => sCn_wt S' l j))) hsvk rfl (fun _ => hrec') (fun w => absurd z w)
                obtain ⟨⟨q1, q2, q3, q4, q5⟩, q6⟩ := a5
                exact ⟨⟨q1, q2, q3, q4, fun w => by rw [hsk] at w; cases w⟩, q6⟩
              · rw [if_neg ce] at hrec'
                exact J216 S' N gN hsvk rfl (fun _ => hrec') (fun w => absurd z w)
            have hJ : f_X12_go_J216 76 (nI r) x2 x3 x4 (nI k) N K K0 Q := by
              by_cases c2 : (hcm S').length < X 4 4
              · exact hS2 c2
              · refine J216 S' N gN hsvk rfl (fun z => absurd z c2) (fun z => ?_)
                rw [if_neg (fun w => z w.2)] at hrec'; exact hrec'
            have hkn : ¬ nI k = nI nh := by
              rw [nI_eq (by omega) (by omega)]
              intro e
              cases sk with
              | false => have : skn false = 0 := rfl
                         omega
              | true =>
                have : skn true = 1 := rfl
                refine cl' ⟨?_, rfl⟩
                rw [hfl_0 mk (hx4.2 rfl), List.isEmpty_iff, List.drop_eq_nil_iff]; omega
            rw [if_neg hkn]; exact hJ
      · rw [if_neg (by rw [nI_eq (by omega) (by omega)]; exact c1)]
        refine skip ?_
        by_cases cm : mk k = true
        · rw [if_pos cm] at hrec; exact hrec
        · rw [if_neg cm] at hrec
          have hrec' : hHd X t (hfl mk (k + 1) (F.drop (k + 1))) (if x.2 = t ∧ (hcm S').length < X 4 4 then hEn X t x.1 (if (hfl mk (k + 1) (F.drop (k + 1))).isEmpty = true then hWt S' else S') else S') = hHd X t (hfl mk 0 F) S := hrec
          rw [if_neg (fun w => c1 w.1)] at hrec'; exact hrec'
    · rw [if_pos (show (60 : Int32) ≤ nI t from nI_le (a := 60) (by omega) (by omega))]
      have hk00 : k = 0 := by omega
      have := hS0 hk00
      subst this
      refine go_237 gN ht fun M1 h1 => hK M1 ?_
      rw [if_neg h60] at h1
      rw [if_neg h60]; exact h1
  · obtain rfl : k = F.length := by omega
    rw [if_pos (nI_le (Nat.le_refl _) (by omega))]
    refine go_237 gN (by rw [hsvk]; exact ht) fun M1 h1 => hK M1 ?_
    by_cases h60 : t < 60
    · rw [if_pos h60] at h1
      rw [if_pos h60]
      rw [List.drop_length] at hrec
      have hrec' : S' = hHd X t (hfl mk 0 F) S := hrec
      rw [← hrec']; exact h1
    · rw [if_neg h60] at h1
      rw [if_neg h60]
      have hk00 : F.length = 0 := by omega
      rw [← hS0 hk00]; exact h1
