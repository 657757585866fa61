/-! ===== the hour of the model: its world, which line ===== -/
def mX (X : Nat → Nat → Nat) (ns : Nat) (M : Mem) : Prop := mI M 76 0 = nI ns ∧ ∀ k, k < ns → ∀ j, j < 4 → mI M (77 + j) k = nI (X j k)
def mO (X : Nat → Nat → Nat) (r : Nat) (M : Mem) : Prop := (r = 10 ∧ X 4 0 = 0) ∨ (r < 10 ∧ mI M 94 r = nI (X 4 0) ∧ mI M 95 r = nI (X 4 1) ∧ (X 4 0 = 6 → ∀ j, j < 10 → (mI M 96 (10 * r + j)).toInt = (X 5 j : Int) - 1))
/-- what an hour of the model asks of the memory -/
def aM (X : Nat → Nat → Nat) (ns r : Nat) (cl : List Cl) (M : Mem) : Prop := hX X ns ∧ mX X ns M ∧ mO X r M ∧ (∃ nw cls th, iWE M nw cls th ∧ wcl cls th = cl) ∧ X 4 4 = wMx cl
def mC (X : Nat → Nat → Nat) (ns r : Nat) (cl : List Cl) (M : Mem) : Prop := Good M ∧ aM X ns r cl M ∧ mI M 76 35 = nI (X 4 2) ∧ mI M 76 36 = nI (X 4 3) ∧ mI M 76 37 = nI (X 4 4)
def GF (M M1 : Mem) : Prop := Sm M M1 ∧ ∀ a j, ¬ ((a = 76 ∧ (j = 31 ∨ j = 32 ∨ j = 33 ∨ j = 34 ∨ j = 39 ∨ j = 40)) ∨ a = 93 ∨ (97 ≤ a ∧ a < 109)) → mI M1 a j = mI M a j
theorem GF.rf (M : Mem) : GF M M := ⟨Sm.rf M, fun _ _ _ => rfl⟩
theorem GF.tr {M M1 M2 : Mem} (h : GF M M1) (k : GF M1 M2) : GF M M2 := ⟨h.1.tr k.1, fun a j q => (k.2 a j q).trans (h.2 a j q)⟩
theorem GF.st {M M1 : Mem} (h : GF M M1) {a k : Nat} (v : Int32) (q : (a = 76 ∧ (k = 31 ∨ k = 32 ∨ k = 33 ∨ k = 34 ∨ k = 39 ∨ k = 40)) ∨ a = 93 ∨ (97 ≤ a ∧ a < 109)) : GF M (sI M1 a k v) := ⟨h.1, fun b j c => by rw [mI_ne _ _ (by omega)]; exact h.2 b j c⟩
theorem aM_fr {X : Nat → Nat → Nat} {ns r : Nat} {cl : List Cl} {M M1 : Mem} (h : aM X ns r cl M) (f : ∀ a j, ¬ ((a = 76 ∧ 31 ≤ j ∧ j < 41) ∨ a = 93 ∨ (97 ≤ a ∧ a < 110)) → mI M1 a j = mI M a j) : aM X ns r cl M1 := by
  obtain ⟨h1, ⟨h2, h3⟩, h4, ⟨nw, cls, th, ⟨h5, h6⟩, h7⟩, h8⟩ := h
  refine ⟨h1, ⟨(f _ _ (by omega)).trans h2, fun k hk j hj => (f _ _ (by omega)).trans (h3 k hk j hj)⟩, ?_, ⟨nw, cls, th, ⟨iW_fr h5 (fun a k q => by unfold cW at q; exact f a k (by omega)), iD_fr h6 (fun a k q => by unfold cD at q; exact f a k (by omega))⟩, h7⟩, h8⟩
  rcases h4 with h4 | ⟨g1, g2, g3, g4⟩
  · exact Or.inl h4
  · exact Or.inr ⟨g1, (f _ _ (by omega)).trans g2, (f _ _ (by omega)).trans g3, fun e j hj => by rw [f _ _ (by omega)]; exact g4 e j hj⟩
theorem mC_fr {X : Nat → Nat → Nat} {ns r : Nat} {cl : List Cl} {M M1 : Mem} (h : mC X ns r cl M) (f : GF M M1) : mC X ns r cl M1 :=
  ⟨f.1.good h.1, aM_fr h.2.1 (fun a j q => f.2 a j (by omega)), (f.2 _ _ (by omega)).trans h.2.2.1, (f.2 _ _ (by omega)).trans h.2.2.2.1, (f.2 _ _ (by omega)).trans h.2.2.2.2⟩
/-- the rows of the lines -/
def rL (S : HS) (M : Mem) : Prop := ∀ l, l < 2 → ∃ h, h + (hq S l).length ≤ (hcm S).length ∧ mI M 104 l = nI h ∧ mI M 105 l = nI (h + (hq S l).length) ∧ ∀ k i, (hq S l)[k]? = some i → mI M 103 (41 * l + h + k) = nI i
def rM (X : Nat → Nat → Nat) (sk : Bool) (S : HS) (M : Mem) : Prop :=
  (mI M 76 31 = nI (hcm S).length ∧ mI M 76 32 = nI (hsv S).length ∧ mI M 76 33 = nI (hbz S) ∧ mI M 76 34 = nI (htr S) ∧ (sk = true → mI M 76 40 = wtI (hwt S))) ∧
  (∀ i, i < (hcm S).length → mI M 97 i = nI (gC (hcm S) i).1 ∧ mI M 98 i = nI (gC (hcm S) i).2.1 ∧ mI M 99 i = nI (gC (hcm S) i).2.2.1 ∧ mI M 100 i = nI (gC (hcm S) i).2.2.2) ∧
  (∀ k e, (hsv S)[k]? = some e → mI M 106 k = nI e.1 ∧ mI M 107 k = nI e.2 ∧ mI M 101 e.1 = nI (e.2 - (gC (hcm S) e.1).2.1) ∧ mI M 102 e.1 = nI k) ∧
  (∀ i, i < (hcm S).length → i ∉ (hsv S).map (·.1) → mI M 101 i = -5 ∧ mI M 102 i = -5) ∧ rL S M
theorem stand_m {S : HS} {l : Nat} {M : Mem} {Q : Int32 → Mem → Prop} (hG : Good M) (r : rL S M) (hl : l < 2) (q : Q (nI (hq S l).length) M) : f_X12_standing 76 (nI l) M Q := by
  obtain ⟨h, h1, h2, h3, h4⟩ := r l hl
  unfold f_X12_standing
  have vl : vp_in (nI l) 2 := vpN hl (by omega)
  refine ⟨oM hG, 105, mP_g hG rfl, isA_g hG (by decide) rfl vl, 104, mP_g hG rfl, isA_g hG (by decide) rfl vl, ?_⟩
  rw [nI_clamp (by omega), h3, h2, pk_sub (by omega), Nat.add_sub_cancel_left]; exact q
theorem timeM {X : Nat → Nat → Nat} {ns r i s : Nat} {cl : List Cl} {M : Mem} {Q : Int32 → Mem → Prop} (h : mC X ns r cl M) (hi : i < 41) (hs : s < ns) (e : mI M 97 i = nI s) (q : Q (nI (tmX X s)) M) : f_X12_timeOf 76 (nI i) M Q := by
  obtain ⟨hG, ⟨hx, ⟨-, mx⟩, -⟩, -, h36, -⟩ := h
  have hns := hx.1
  unfold f_X12_timeOf
  refine ⟨oM hG, 97, mP_g hG rfl, isA_g hG (by decide) rfl (vpN hi (by omega)), 80, mP_g hG rfl, ?_⟩
  rw [nI_clamp (by omega), e]
  refine ⟨isA_g hG (by decide) rfl (vpN (by omega) (by omega)), ?_⟩
  rw [nI_clamp (by omega), show (80 : Nat) = 77 + 3 from rfl, mx s hs 3 (by omega), h36, nI_add]; exact q
theorem qtm_tk {X : Nat → Nat → Nat} {cm : List Cm} {l : List Nat} {k i : Nat} (h : l[k]? = some i) : qtm X cm (l.take (k + 1)) = qtm X cm (l.take k) + tmX X (gC cm i).1 := by
  rw [take_one h, qtm_cat]
theorem timesM {X : Nat → Nat → Nat} {ns r now l : Nat} {cl : List Cl} {sk : Bool} {S : HS} {M : Mem} {Q : Int32 → Mem → Prop} (h : mC X ns r cl M) (rm : rM X sk S M) (hw : hW X ns now S) (hl : l < 2) (q : Q (nI (qtm X (hcm S) (hq S l))) M) : f_X12_timesIn 76 (nI l) M Q := by
  obtain ⟨-, r6, -, -, r8⟩ := rm
  obtain ⟨hd, g1, g2, g3, g4⟩ := r8 l hl
  have hG := h.1
  have hL := (hW_len h.2.1.1 hw).1
  obtain ⟨-, v2, v3, -⟩ := hw
  have vl : vp_in (nI l) 2 := vpN hl (by omega)
  have el : (nI l).toNatClampNeg = l := nI_clamp (by omega)
  unfold f_X12_timesIn
  refine ⟨oM hG, 104, mP_g hG rfl, isA_g hG (by decide) rfl vl, ?_⟩
  rw [el, g2]
  unfold f_X12_timesIn_L9
  refine ⟨fun z => ∃ k, k ≤ (hq S l).length ∧ z.1 = nI (qtm X (hcm S) ((hq S l).take k)) ∧ z.2.1 = nI (hd + k) ∧ z.2.2 = M, fun z => hd + (hq S l).length - z.2.1.toNatClampNeg, ⟨0, Nat.zero_le _, rfl, rfl, rfl⟩, ?_⟩
  rintro ⟨v, c, N⟩ ⟨k, hk, hv, hc, hN⟩
  replace hv : v = nI (qtm X (hcm S) ((hq S l).take k)) := hv
  replace hc : c = nI (hd + k) := hc
  replace hN : N = M := hN
  subst hv; subst hc; subst hN
  show f_X12_timesIn_B9 76 (nI l) (nI (qtm X (hcm S) ((hq S l).take k))) (nI (hd + k)) N _ Q
  unfold f_X12_timesIn_B9
  refine ⟨oM hG, 105, mP_g hG rfl, isA_g hG (by decide) rfl vl, ?_⟩
  rw [el, g3]
  by_cases hkl : k < (hq S l).length
  · rw [if_neg (nI_ge (by omega) (by omega))]
    obtain ⟨i, hi⟩ : ∃ i, (hq S l)[k]? = some i := ⟨(hq S l)[k], List.getElem?_eq_getElem hkl⟩
    have hil := ((v3 l hl).2 i (List.mem_of_getElem? hi)).1
    refine ⟨103, mP_g hG rfl, ?_⟩
    rw [show (41 : Int32) = nI 41 from rfl, nI_mul, nI_add, nI_clamp (by omega), show 41 * l + (hd + k) = 41 * l + hd + k by omega, g4 k i hi]
    refine ⟨isA_g hG (by decide) rfl (vpN (by omega) (by omega)), ?_⟩
    refine timeM h (by omega) (v2 i hil).1 (r6 i hil).1 ⟨⟨k + 1, hkl, ?_, ?_, rfl⟩, ?_⟩
    · show nI (qtm X (hcm S) ((hq S l).take k)) + nI (tmX X (gC (hcm S) i).1) = _
      rw [nI_add, qtm_tk hi]
    · exact nI_1 _
    · show hd + (hq S l).length - (nI (hd + k) + 1).toNatClampNeg < hd + (hq S l).length - (nI (hd + k)).toNatClampNeg
      rw [nI_1, nI_clamp (by omega), nI_clamp (by omega)]; omega
  · obtain rfl : k = (hq S l).length := by omega
    rw [if_pos (nI_le (Nat.le_refl _) (by omega))]
    rw [List.take_length]; exact q
