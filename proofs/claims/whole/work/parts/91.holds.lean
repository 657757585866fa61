/-! ===== the start, and the law's loop ===== -/
theorem zE_s : ∀ b, b < 118 → mS zE b = shp b := by decide +kernel
set_option maxRecDepth 65536 in
theorem zE_p {b k v : Nat} (h : pvx b k = some v) : mP zE b k = some v := by
  unfold pvx at h
  split at h
  all_goals first | (injection h with h; subst h; decide +kernel) | cases h
theorem zE_t : ∀ i, i < 6 → mI zE 114 i = mI zE (64 + 2 * i) 0 ∧ mI zE (64 + 2 * i) 0 = -1 ∧ mI zE 115 i = 0 ∧ mI zE (64 + 2 * i) 1 = 0 := by decide +kernel
theorem zE_l : ∀ i, i < 6 → ∀ k, k < 60 → mL zE 116 (60 * i + k) = mL zE (65 + 2 * i) k := by decide +kernel
theorem Inv_zE : Inv zE := by
  refine ⟨⟨by decide +kernel, zE_s, fun b k v h => zE_p h⟩, 0, 0, 0, 0, 0, fun _ => [], none, fun _ => 0, fun _ => 0, fun _ => 0, ⟨by decide, by decide +kernel, by decide +kernel, fun k hk => absurd hk (Nat.not_lt_zero _)⟩, fun k hk => absurd hk (Nat.not_lt_zero _), ⟨by decide, by decide +kernel, by decide +kernel, fun k hk => absurd hk (Nat.not_lt_zero _)⟩, ⟨by decide, by decide +kernel, by decide +kernel, fun k hk => absurd hk (Nat.not_lt_zero _)⟩, ⟨by decide +kernel, by decide +kernel, by decide +kernel, by decide +kernel, by decide +kernel, by decide +kernel, by decide +kernel⟩, ⟨by decide, by decide +kernel, by decide +kernel, fun k hk => absurd hk (Nat.not_lt_zero _), fun k hk => absurd hk (Nat.not_lt_zero _), fun k hk => absurd hk (Nat.not_lt_zero _)⟩, ⟨by decide +kernel, fun _ => by decide +kernel, fun h e => (by cases e)⟩, ⟨by decide, by decide +kernel, by decide +kernel, fun k hk => absurd hk (Nat.not_lt_zero _), fun r q h hq => absurd hq (Nat.not_lt_zero _)⟩, Or.inl ⟨by decide +kernel, by decide +kernel⟩, Or.inl ⟨by decide +kernel, by decide +kernel⟩, fun i hi => ?_⟩
  obtain ⟨t1, t2, t3, t4⟩ := zE_t i hi
  refine ⟨t1, ?_, t3.trans t4.symm, ?_, fun _ => t4, fun k hk => zE_l i hi k hk⟩
  · rw [t2]; unfold rg; decide
  · rw [t4]; unfold rg; decide
theorem f_holds {xs : Nat → Int32} {L : Nat} (hL : L ≤ 3072) : f_L_law M0 xs L := by
  refine init_law ?_
  unfold f_L_loop
  refine ⟨fun z => z.1 ≤ 512 ∧ z.2.1 = nI (6 * z.1) ∧ Inv z.2.2, fun z => 513 - z.1, ⟨Nat.zero_le _, rfl, Inv_zE⟩, ?_⟩
  rintro ⟨t, v, M⟩ ⟨ht, hv, hI⟩
  replace ht : t ≤ 512 := ht
  replace hv : v = nI (6 * t) := hv
  replace hI : Inv M := hI
  show t < 513 ∧ f_L_law_J18 0 76 v M xs L _
  refine ⟨by omega, ?_⟩
  unfold f_L_law_J18
  have eL := nI_toInt (n := L) (by omega)
  have et := nI_toInt (n := 6 * t) (by omega)
  have es : (nI L - 6).toInt = (L : Int) - 6 := by rw [i32_subI] <;> rw [eL] <;> simp only [Int32.reduceToInt] <;> omega
  by_cases c : 6 * t + 6 ≤ L
  case neg => rw [if_pos (by rw [i32_lt, hv, es, et]; omega)]; trivial
  rw [if_neg (by rw [i32_lt, hv, es, et]; omega)]
  have h0 : vp_in v L := by rw [hv]; exact vpN (by omega) (by omega)
  have h1 : vp_in (v + 1) L := by rw [hv, show (1 : Int32) = nI 1 from rfl, nI_add]; exact vpN (by omega) (by omega)
  have h2 : vp_in (v + 2) L := by rw [hv, show (2 : Int32) = nI 2 from rfl, nI_add]; exact vpN (by omega) (by omega)
  have h3 : vp_in (v + 3) L := by rw [hv, show (3 : Int32) = nI 3 from rfl, nI_add]; exact vpN (by omega) (by omega)
  have h4 : vp_in (v + 4) L := by rw [hv, show (4 : Int32) = nI 4 from rfl, nI_add]; exact vpN (by omega) (by omega)
  have h5 : vp_in (v + 5) L := by rw [hv, show (5 : Int32) = nI 5 from rfl, nI_add]; exact vpN (by omega) (by omega)
  have hn : v + 6 = nI (6 * (t + 1)) := by rw [hv, show (6 : Int32) = nI 6 from rfl, nI_add]; congr 1
  generalize xs v.toNatClampNeg &&& 31 = w
  have hK : ∀ M', Inv M' → (fun (z' : Nat × Int32 × Mem) => (z'.1 ≤ 512 ∧ z'.2.1 = nI (6 * z'.1) ∧ Inv z'.2.2) ∧ 513 - z'.1 < 513 - t) (t + 1, v + 6, M') := fun M' hM => ⟨⟨by show t + 1 ≤ 512; omega, hn, hM⟩, by show 513 - (t + 1) < 513 - t; omega⟩
  refine ⟨h0, ?_⟩
  by_cases e0 : w = 0
  · rw [if_pos e0]; exact J176 hI h1 h2 h3 h4 hK
  rw [if_neg e0]
  by_cases e1 : w = 1
  · rw [if_pos e1]; exact J229 hI h1 h2 hK
  rw [if_neg e1]
  by_cases e2 : w = 2
  · rw [if_pos e2]; exact J262 hI h1 h2 hK
  rw [if_neg e2]
  by_cases e3 : w = 3
  · rw [if_pos e3]; exact J295 hI h1 h2 hK
  rw [if_neg e3]
  by_cases e4 : w = 4
  · rw [if_pos e4]; exact J328 hI hK
  rw [if_neg e4]
  by_cases e5 : w = 5
  · rw [if_pos e5]; exact J341 hI h1 hK
  rw [if_neg e5]
  by_cases e6 : w = 6
  · rw [if_pos e6]; exact J364 hI h1 h2 hK
  rw [if_neg e6]
  by_cases e7 : w = 7
  · rw [if_pos e7]; exact J397 hI hK
  rw [if_neg e7]
  by_cases e8 : w = 8
  · rw [if_pos e8]; exact J410 hI h1 h2 hK
  rw [if_neg e8]
  by_cases e9 : w = 9
  · rw [if_pos e9]; exact J443 hI h1 h2 h3 hK
  rw [if_neg e9]
  by_cases e10 : w = 10
  · rw [if_pos e10]; exact J486 hI h1 h2 h3 hK
  rw [if_neg e10]
  by_cases e11 : w = 11
  · rw [if_pos e11]; exact J529 hI h1 h2 h3 hK
  rw [if_neg e11]
  by_cases e12 : w = 12
  · rw [if_pos e12]; exact J572 hI h1 h2 hK
  rw [if_neg e12]
  by_cases e13 : w = 13
  · rw [if_pos e13]; exact J605 hI h1 h2 h3 hK
  rw [if_neg e13]
  by_cases e14 : w = 14
  · rw [if_pos e14]; exact J648 hI h1 h2 hK
  rw [if_neg e14]
  by_cases e15 : w = 15
  · rw [if_pos e15]; exact J681 hI h1 hK
  rw [if_neg e15]
  by_cases e16 : w = 16
  · rw [if_pos e16]; exact J704 hI h1 h2 hK
  rw [if_neg e16]
  by_cases e17 : w = 17
  · rw [if_pos e17]; exact J737 hI h1 h2 hK
  rw [if_neg e17]
  by_cases e18 : w = 18
  · rw [if_pos e18]; exact J770 hI h1 h2 h3 hK
  rw [if_neg e18]
  by_cases e19 : w = 19
  · rw [if_pos e19]; exact J813 hI h1 hK
  rw [if_neg e19]
  by_cases e20 : w = 20
  · rw [if_pos e20]; exact J836 hI h1 h2 hK
  rw [if_neg e20]
  by_cases e21 : w = 21
  · rw [if_pos e21]; exact J870 hI h1 h2 h3 h4 hK
  rw [if_neg e21]
  by_cases e22 : w = 22
  · rw [if_pos e22]; exact J923 hI hK
  rw [if_neg e22]
  by_cases e23 : w = 23
  · rw [if_pos e23]; exact J936 hI hK
  rw [if_neg e23]
  by_cases e24 : w = 24
  · rw [if_pos e24]; exact J949 hI h1 h2 h3 hK
  rw [if_neg e24]
  by_cases e25 : w = 25
  · rw [if_pos e25]; exact J992 hI h1 hK
  rw [if_neg e25]
  by_cases e26 : w = 26
  · rw [if_pos e26]; exact J1015 hI h1 h2 hK
  rw [if_neg e26]
  by_cases e27 : w = 27
  · rw [if_pos e27]; exact J1048 hI h1 hK
  rw [if_neg e27]
  by_cases e28 : w = 28
  · rw [if_pos e28]; exact J1071 hI h1 h2 h3 hK
  rw [if_neg e28]
  by_cases e29 : w = 29
  · rw [if_pos e29]; exact J1114 hI h1 h2 h3 h4 hK
  rw [if_neg e29]
  by_cases e30 : w = 30
  · rw [if_pos e30]; exact J1187 hI h1 h2 hK
  rw [if_neg e30]
  by_cases e31 : w = 31
  · rw [if_pos e31]; exact J1221 hI h1 h2 h3 h4 h5 hK
  rw [if_neg e31]
  exact hK M hI
