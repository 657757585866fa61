/-! ===== a text read by the window of the class: its signs, words, numbers, tests ===== -/
/-- what stands in the text of n bytes -/
def tX (M : Mem) (n : Nat) : Nat → Int := fun p => if p < n then (mI M 8 p).toInt else -1000
theorem tX_end (M : Mem) (n : Nat) : cEnd (tX M n) n := fun p h => if_neg (by omega)
theorem tX_at (M : Mem) {n p : Nat} (h : p < n) : tX M n p = (mI M 8 p).toInt := if_pos h
/-- the window at a reads the text c of n bytes, and stands at p -/
def rqC (a : Nat) (c : Nat → Int) (n p : Nat) (M : Mem) : Prop := (40 ≤ a ∧ a < 61) ∧ wO a M ∧ (mP M a 8 = some 8 ∧ mS M 8 = .inr (1, 100)) ∧ (n ≤ 100 ∧ mI M a 9 = nI n ∧ cEnd c n ∧ ∀ k, k < n → (mI M 8 k).toInt = c k) ∧ p ≤ n ∧ mI M a 10 = nI p
def pF (a : Nat) (M M1 : Mem) : Prop := Sm M M1 ∧ ∀ b j, ¬ (b = a ∧ j = 10) → mI M1 b j = mI M b j
def gF (a : Nat) (M M1 : Mem) : Prop := Sm M M1 ∧ ∀ b j, ¬ (b = a ∧ (j = 7 ∨ j = 10)) → ¬ b = a + 3 → mI M1 b j = mI M b j
theorem pF.rf (a : Nat) (M : Mem) : pF a M M := ⟨Sm.rf M, fun _ _ _ => rfl⟩
theorem pF.tr {a : Nat} {M M1 M2 : Mem} (h : pF a M M1) (k : pF a M1 M2) : pF a M M2 := ⟨h.1.tr k.1, fun b j q => (k.2 b j q).trans (h.2 b j q)⟩
theorem pF.g {a : Nat} {M M1 : Mem} (h : pF a M M1) : gF a M M1 := ⟨h.1, fun b j q _ => h.2 b j (fun e => q ⟨e.1, Or.inr e.2⟩)⟩
theorem pF.st {a : Nat} {v : Int32} {M M1 : Mem} (hE : M1 = sI M a 10 v) : pF a M M1 := ⟨by rw [hE]; exact Sm.rf M, fun b j q => by rw [hE]; exact mI_ne _ _ q⟩
theorem gF.rf (a : Nat) (M : Mem) : gF a M M := (pF.rf a M).g
theorem gF.tr {a : Nat} {M M1 M2 : Mem} (h : gF a M M1) (k : gF a M1 M2) : gF a M M2 := ⟨h.1.tr k.1, fun b j q r => (k.2 b j q r).trans (h.2 b j q r)⟩
theorem rqC_mv {a n p q : Nat} {c : Nat → Int} {M M1 : Mem} (h : rqC a c n p M) (f : gF a M M1) (e : mI M1 a 10 = nI q) (hq : q ≤ n) : rqC a c n q M1 := by
  obtain ⟨ha, hw, ⟨h8, hs⟩, ⟨hn, e9, hc, ht⟩, hp, e10⟩ := h
  refine ⟨ha, wO_fr hw f.1, ⟨by rw [f.1.2.2.1]; exact h8, by rw [f.1.2.1]; exact hs⟩, ⟨hn, by rw [f.2 a 9 (by omega) (by omega)]; exact e9, hc, fun k hk => by rw [f.2 8 k (by omega) (by omega)]; exact ht k hk⟩, hq, e⟩
/-- the steps that it has told -/
def sT (a : Nat) (ts : List Int) (M : Mem) : Prop := mI M a 7 = nI ts.length ∧ ∀ k t, ts[k]? = some t → mI M (a + 3) k = Int32.ofInt t
theorem sT_p {a : Nat} {ts : List Int} {M M1 : Mem} (h : sT a ts M) (f : pF a M M1) : sT a ts M1 := ⟨(f.2 _ _ (by omega)).trans h.1, fun k t e => (f.2 _ _ (by omega)).trans (h.2 k t e)⟩
theorem skip_c {a n p : Nat} {c : Nat → Int} {x : Int32} {M : Mem} {Q : Bool → Mem → Prop} (h : rqC a c n p M) (hx : x.toInt ≠ -1000) (q1 : c p = x.toInt → ∀ M1, pF a M M1 → rqC a c n (p + 1) M1 → Q true M1) (q2 : ¬ c p = x.toInt → Q false M) : f_X10_skip a x M Q := by
  unfold f_X10_skip
  obtain ⟨ha, hw, ⟨h8, hs⟩, ⟨hn, e9, hc, ht⟩, hp, e10⟩ := id h
  refine ⟨hw.2.1, ?_⟩
  rw [e9, e10]
  by_cases hpn : n ≤ p
  · rw [if_pos (nI_le hpn (by omega))]
    exact q2 (by rw [hc p hpn]; exact fun e => hx e.symm)
  · rw [if_neg (nI_ge (by omega) (by omega))]
    refine ⟨8, h8, ⟨100, hs, vpN (by omega) (by omega)⟩, ?_⟩
    rw [nI_clamp (by omega)]
    by_cases e : mI M 8 p = x
    · rw [if_pos e]
      intro M1 hE
      rw [nI_1] at hE
      have f : pF a M M1 := pF.st hE
      exact q1 (by rw [← ht p (by omega), e]) M1 f (rqC_mv h f.g (by rw [hE, mI_sI_s]) (by omega))
    · rw [if_neg e]
      exact q2 (fun e2 => e (Int32.toInt_inj.mp (by rw [ht p (by omega), e2])))
theorem digit_c {a n p : Nat} {c : Nat → Int} {M : Mem} {Q : Int32 → Mem → Prop} (h : rqC a c n p M) (q1 : dig (c p) = true → Q (nI (c p - 48).toNat) M) (q2 : dig (c p) = false → Q (-1) M) : f_X10_digit a M Q := by
  unfold f_X10_digit
  obtain ⟨ha, hw, ⟨h8, hs⟩, ⟨hn, e9, hc, ht⟩, hp, e10⟩ := id h
  refine ⟨hw.2.1, ?_⟩
  rw [e9, e10]
  by_cases hpn : n ≤ p
  · rw [if_pos (nI_le hpn (by omega))]
    exact q2 (by rw [hc p hpn]; rfl)
  · rw [if_neg (nI_ge (by omega) (by omega))]
    have hv : vp_in (nI p) 100 := vpN (by omega) (by omega)
    have ec := ht p (by omega)
    refine ⟨8, h8, ⟨100, hs, hv⟩, ?_⟩
    rw [nI_clamp (by omega)]
    by_cases c1 : c p < 48
    · rw [if_pos (by rw [i32_lt, ec]; simp only [Int32.reduceToInt]; omega)]
      exact q2 (decide_eq_false (by omega))
    · rw [if_neg (by rw [i32_lt, ec]; simp only [Int32.reduceToInt]; omega)]
      refine ⟨⟨100, hs, hv⟩, ?_⟩
      by_cases c2 : c p ≤ 57
      · rw [if_pos (by rw [i32_le, ec]; simp only [Int32.reduceToInt]; omega)]
        refine ⟨⟨100, hs, hv⟩, ?_⟩
        have e : mI M 8 p - 48 = nI (c p - 48).toNat := by
          apply Int32.toInt_inj.mp
          rw [nI_toInt (by omega), i32_subI] <;> rw [ec] <;> simp only [Int32.reduceToInt] <;> omega
        rw [e]; exact q1 (decide_eq_true ⟨by omega, c2⟩)
      · rw [if_neg (by rw [i32_le, ec]; simp only [Int32.reduceToInt]; omega)]
        exact q2 (decide_eq_false (by omega))
theorem number_c {a n p : Nat} {c : Nat → Int} {M : Mem} {Q : Int32 → Mem → Prop} (h : rqC a c n p M) (q : ∀ M1, pF a M M1 → rqC a c n (num c p).2.1 M1 → Q (if (num c p).1 = true then nI (num c p).2.2 else -1) M1) : f_X10_number a M Q := by
  unfold f_X10_number
  refine ⟨h.2.1.2.1, digit_c h (fun d1 => ?_) (fun d1 => ?_)⟩
  · have b1 := of_decide_eq_true d1
    rw [if_pos (nI_pos' (by omega))]
    refine ⟨h.2.1.2.1, fun M1 hE => ?_⟩
    rw [h.2.2.2.2.2, nI_1] at hE
    have lt := dig_lt h.2.2.2.1.2.2.1 d1
    have f : pF a M M1 := pF.st hE
    have h1 : rqC a c n (p + 1) M1 := rqC_mv h f.g (by rw [hE, mI_sI_s]) (by omega)
    refine digit_c h1 (fun d2 => ?_) (fun d2 => ?_)
    · have b2 := of_decide_eq_true d2
      rw [if_pos (nI_pos' (by omega))]
      refine ⟨h1.2.1.2.1, fun M2 hE2 => ?_⟩
      rw [h1.2.2.2.2.2, nI_1] at hE2
      have lt2 := dig_lt h.2.2.2.1.2.2.1 d2
      have f2 : pF a M1 M2 := pF.st hE2
      have h2 : rqC a c n (p + 2) M2 := rqC_mv h1 f2.g (by rw [hE2, mI_sI_s]) (by omega)
      have en : num c p = (true, p + 2, (c p - 48).toNat * 10 + (c (p + 1) - 48).toNat) := by unfold num; rw [if_pos d1, if_pos d2]
      rw [show (10 : Int32) = nI 10 from rfl, nI_mul, nI_add]
      have q := q M2 (f.tr f2)
      rw [en] at q
      exact q h2
    · rw [if_neg (by decide)]
      have en : num c p = (true, p + 1, (c p - 48).toNat) := by unfold num; rw [if_pos d1, if_neg (by rw [d2]; decide)]
      have q := q M1 f
      rw [en] at q; exact q h1
  · rw [if_neg (by decide)]
    have en : num c p = (false, p, 0) := by unfold num; rw [if_neg (by rw [d1]; decide)]
    have q := q M (pF.rf a M)
    rw [en] at q; exact q h
/-! the words -/
def wrd (c : Nat → Int) : List Int → Nat → Bool × Nat
  | [], p => (true, p)
  | x :: r, p => if c p = x then wrd c r (p + 1) else (false, p)
def fnd (x : Int) : List Int → Nat → Option Nat
  | [], _ => none
  | y :: r, k => if x = y then some k else fnd x r (k + 1)
def sW (s : Nat) : List Int := (strB.getD s []).map (·.toInt)
theorem sev {s : Nat} (h : s < StrN) : s = 0 ∨ s = 1 ∨ s = 2 ∨ s = 3 ∨ s = 4 ∨ s = 5 ∨ s = 6 := by
  have h : s < 7 := h
  omega
theorem sW_len {s : Nat} (h : s < StrN) : (sW s).length = strL.getD s 0 ∧ strL.getD s 0 ≤ 5 ∧ (strB.getD s []).length = strL.getD s 0 := by
  rcases sev h with rfl | rfl | rfl | rfl | rfl | rfl | rfl <;> decide
theorem sW_at {s k : Nat} (h : s < StrN) (hk : k < (sW s).length) : (sW s).drop k = ((strB.getD s []).getD k 0).toInt :: (sW s).drop (k + 1) := by
  rw [List.drop_eq_getElem_cons hk]
  congr 1
  have hb : k < (strB.getD s []).length := by have := sW_len h; omega
  have e1 : (sW s)[k] = ((strB.getD s [])[k]).toInt := List.getElem_map (fun x : Int32 => x.toInt)
  have e2 : (strB.getD s []).getD k 0 = (strB.getD s [])[k] := by
    rw [List.getD_eq_getElem?_getD, List.getElem?_eq_getElem hb]; rfl
  rw [e1, e2]
theorem chr_ok : ∀ s, s < 7 → ∀ k, k < strL.getD s 0 → ((((strB.getD s []).getD k 0 &&& (255 : Int32)).toUInt32 % 65536).toInt32 = (strB.getD s []).getD k 0) ∧ ((strB.getD s []).getD k 0).toUInt32.toUInt16.toUInt32.toInt32 = (strB.getD s []).getD k 0 ∧ 0 ≤ ((strB.getD s []).getD k 0).toInt := by decide
theorem nar_chr (x : Int32) (h : x.toUInt32.toUInt16.toUInt32.toInt32 = x) : narrow .char (.int x) = .int x := by
  show Value.int (x.toUInt32.toUInt16.toUInt32.toInt32) = _
  rw [h]
theorem len_c {s : Nat} {M : Mem} {Q : Int32 → Mem → Prop} (hs : s < StrN) (q : Q (nI (strL.getD s 0)) M) : f_J0_length_8abf5 s M Q := by
  unfold f_J0_length_8abf5 f_J0_coder_7d493
  refine ⟨hs, hs, hs, hs, rfl, ?_⟩
  have e : (nI (strL.getD s 0)) >>> ((0 : Int32) &&& 31) = nI (strL.getD s 0) := by
    rcases sev hs with rfl | rfl | rfl | rfl | rfl | rfl | rfl <;> decide
  show Q (nI (strL.getD s 0) >>> ((0 : Int32) &&& 31)) M
  rw [e]; exact q
theorem chr_c {s k : Nat} {M : Mem} {Q : Int32 → Mem → Prop} (hs : s < StrN) (hk : k < strL.getD s 0) (q : Q ((strB.getD s []).getD k 0) M) : f_J0_charAt_5068e s (nI k) M Q := by
  obtain ⟨-, l5, -⟩ := sW_len hs
  obtain ⟨e1, e2, -⟩ := chr_ok s hs k hk
  unfold f_J0_charAt_5068e f_J0_isLatin1_aae02
  refine ⟨hs, hs, ?_⟩
  show if true = true then (s < StrN ∧ f_J1_charAt_3b067 s (nI k) M fun w7 M8 => narrow .char (.int w7) = .int w7 ∧ Q w7 M8) else s < StrN ∧ False
  rw [if_pos rfl]
  unfold f_J1_charAt_3b067 f_J0_checkIndex_df160
  refine ⟨hs, hs, nI_pos (by omega), nI_lt hk (by omega), hs, vpN hk (by omega), ?_⟩
  rw [nI_clamp (by omega), e1]
  exact ⟨nar_chr _ e2, nar_chr _ e2, q⟩
theorem word_c {a n p s : Nat} {c : Nat → Int} {M : Mem} {Q : Bool → Mem → Prop} (hs : s < StrN) (h : rqC a c n p M) (q : ∀ M1, pF a M M1 → rqC a c n (wrd c (sW s) p).2 M1 → Q (wrd c (sW s) p).1 M1) : f_X10_word a s M Q := by
  unfold f_X10_word f_X10_word_L2
  obtain ⟨hl, l5, -⟩ := sW_len hs
  refine ⟨fun z => ∃ k, k ≤ (sW s).length ∧ z.1 = nI k ∧ pF a M z.2 ∧ rqC a c n (p + k) z.2 ∧ wrd c (sW s) p = wrd c ((sW s).drop k) (p + k), fun z => 10 - z.1.toNatClampNeg, ⟨0, Nat.zero_le _, rfl, pF.rf a M, h, rfl⟩, ?_⟩
  rintro ⟨v, N⟩ ⟨k, hk, hv, f, hN, hw⟩
  replace hv : v = nI k := hv
  replace f : pF a M N := f
  replace hN : rqC a c n (p + k) N := hN
  subst hv
  show f_X10_word_B2 a s (nI k) N _ Q
  unfold f_X10_word_B2
  refine ⟨hs, len_c hs ?_⟩
  by_cases hkl : k = (sW s).length
  · rw [if_pos (nI_le (by omega) (by omega))]
    rw [hkl, List.drop_length] at hw
    have q := q N f
    rw [hw] at q
    exact q (hkl ▸ hN)
  · rw [if_neg (nI_ge (by omega) (by omega))]
    refine ⟨hs, chr_c hs (by omega) ⟨hN.2.1.2.1, ?_⟩⟩
    have hd := sW_at hs (k := k) (by omega)
    have ck := (chr_ok s hs k (by omega)).2.2
    refine skip_c hN (by omega) (fun e M1 f1 h1 => ?_) (fun e => ?_)
    · rw [if_pos rfl]
      refine ⟨⟨k + 1, by omega, nI_1 k, f.tr f1, h1, ?_⟩, ?_⟩
      · rw [hw, hd]
        show (if c (p + k) = _ then _ else _) = _
        rw [if_pos e]; rfl
      · show 10 - (nI k + 1).toNatClampNeg < 10 - (nI k).toNatClampNeg
        rw [nI_1, nI_clamp (by omega), nI_clamp (by omega)]; omega
    · rw [if_neg (by decide)]
      have q := q N f
      have ew : wrd c (sW s) p = (false, p + k) := by
        rw [hw, hd]
        show (if c (p + k) = _ then _ else _) = _
        rw [if_neg e]
      rw [ew] at q
      exact q hN
theorem oneOf_c {a n p s : Nat} {c : Nat → Int} {M : Mem} {Q : Int32 → Mem → Prop} (hs : s < StrN) (h : rqC a c n p M) (q1 : ∀ k M1, fnd (c p) (sW s) 0 = some k → pF a M M1 → rqC a c n (p + 1) M1 → Q (nI k) M1) (q2 : fnd (c p) (sW s) 0 = none → Q (-1) M) : f_X10_oneOf a s M Q := by
  unfold f_X10_oneOf f_X10_oneOf_L2
  obtain ⟨hl, l5, -⟩ := sW_len hs
  refine ⟨fun z => ∃ k, k ≤ (sW s).length ∧ z = (nI k, M) ∧ fnd (c p) (sW s) 0 = fnd (c p) ((sW s).drop k) k, fun z => 10 - z.1.toNatClampNeg, ⟨0, Nat.zero_le _, rfl, rfl⟩, ?_⟩
  rintro z ⟨k, hk, rfl, hw⟩
  show f_X10_oneOf_B2 a s (nI k) M _ Q
  unfold f_X10_oneOf_B2
  refine ⟨hs, len_c hs ?_⟩
  by_cases hkl : k = (sW s).length
  · rw [if_pos (nI_le (by omega) (by omega))]
    rw [hkl, List.drop_length] at hw
    exact q2 hw
  · rw [if_neg (nI_ge (by omega) (by omega))]
    refine ⟨hs, chr_c hs (by omega) ⟨h.2.1.2.1, ?_⟩⟩
    have hd := sW_at hs (k := k) (by omega)
    have ck := (chr_ok s hs k (by omega)).2.2
    refine skip_c h (by omega) (fun e M1 f1 h1 => ?_) (fun e => ?_)
    · rw [if_pos rfl]
      refine q1 k M1 ?_ f1 h1
      rw [hw, hd]
      show (if c p = _ then _ else _) = _
      rw [if_pos e]
    · rw [if_neg (by decide)]
      refine ⟨⟨k + 1, by omega, by rw [nI_1], ?_⟩, ?_⟩
      · rw [hw, hd]
        show (if c p = _ then _ else _) = _
        rw [if_neg e]
      · show 10 - (nI k + 1).toNatClampNeg < 10 - (nI k).toNatClampNeg
        rw [nI_1, nI_clamp (by omega), nI_clamp (by omega)]; omega
theorem lix_f (x : Int) : fnd x (sW 1) 0 = lix x := by
  rw [show sW 1 = [116, 108, 102, 110] by decide]; rfl
theorem six_f (x : Int) : fnd x (sW 2) 0 = six_ x := by
  rw [show sW 2 = [60, 61, 62] by decide]; rfl
theorem step_c {a n p : Nat} {c : Nat → Int} {ts : List Int} {x : Int} {M : Mem} {Q : Mem → Prop} (h : rqC a c n p M) (hT : sT a ts M) (hl : ts.length < 100) (q : ∀ M1, gF a M M1 → rqC a c n p M1 → sT a (ts ++ [x]) M1 → Q M1) : f_X10_step a (Int32.ofInt x) M Q := by
  unfold f_X10_step
  obtain ⟨ha, hw, ⟨h8, hs⟩, ⟨hn, e9, hc, ht⟩, hp, e10⟩ := id h
  refine ⟨hw.2.1, ?_⟩
  rw [hT.1, if_neg (show ¬ (100 : Int32) ≤ nI ts.length from nI_ge (b := 100) hl (by omega))]
  refine ⟨a + 3, hw.2.2.1.2.2, ⟨100, hw.2.2.2.2.2, vpN hl (by omega)⟩, ?_⟩
  rw [nI_clamp (by omega)]
  intro M1 hE M2 hE2
  rw [show mI M1 a 7 = nI ts.length by rw [hE, mI_ne _ _ (by omega)]; exact hT.1, nI_1] at hE2
  have f : gF a M M2 := ⟨by rw [hE2, hE]; exact Sm.rf M, fun b j q r => by rw [hE2, mI_ne _ _ (by omega), hE, mI_ne _ _ (by omega)]⟩
  refine q M2 f (rqC_mv h f (by rw [hE2, mI_ne _ _ (by omega), hE, mI_ne _ _ (by omega)]; exact e10) hp) ⟨?_, fun k t e => ?_⟩
  · rw [hE2, mI_sI_s, List.length_append]; rfl
  · rw [hE2, mI_ne _ _ (by omega), hE, mI_sI]
    by_cases ek : k = ts.length
    · subst ek
      rw [if_pos ⟨rfl, rfl⟩]
      rw [List.getElem?_append_right (Nat.le_refl _), Nat.sub_self] at e
      injection e with e
      rw [e]
    · rw [if_neg (fun q => ek q.2)]
      have hk : k < (ts ++ [x]).length := (List.getElem?_eq_some_iff.mp e).1
      rw [List.length_append] at hk
      have hk : k < ts.length + 1 := hk
      rw [List.getElem?_append_left (by omega)] at e
      exact hT.2 k t e
theorem test_c {a n p : Nat} {c : Nat → Int} {ts : List Int} {M : Mem} {Q : Bool → Mem → Prop} (h : rqC a c n p M) (hT : sT a ts M) (hl : ts.length ≤ p) (q : ∀ M1, gF a M M1 → rqC a c n (tst c p).2.1 M1 → ((tst c p).1 = true → sT a (ts ++ (tst c p).2.2) M1) → Q (tst c p).1 M1) : f_X10_test a M Q := by
  unfold f_X10_test
  have hc := h.2.2.2.1.2.2.1
  refine ⟨h.2.1.2.1, oneOf_c (by decide) h (fun l M1 e1 f1 h1 => ?_) (fun e1 => ?_)⟩
  · rw [lix_f] at e1
    have bl := lix_b e1
    rw [if_pos (nI_pos' (by omega))]
    refine ⟨h1.2.1.2.1, oneOf_c (by decide) h1 (fun s M2 e2 f2 h2 => ?_) (fun e2 => ?_)⟩
    · rw [six_f] at e2
      have bs := six_b e2
      rw [if_pos (nI_pos' (by omega))]
      refine ⟨h2.2.1.2.1, number_c h2 fun M3 f3 h3 => ?_⟩
      have ht : tst c p = if (num c (p + 1 + 1)).1 = true then (true, (num c (p + 1 + 1)).2.1, [(((l * 3 + s) * 100 + (num c (p + 1 + 1)).2.2 : Nat) : Int)]) else (false, (num c (p + 1 + 1)).2.1, []) := by
        unfold tst; rw [e1]
        show (match six_ (c (p + 1)) with
          | none => (false, p + 1, [])
          | some s => if (num c (p + 2)).1 = true then (true, (num c (p + 2)).2.1, [(((l * 3 + s) * 100 + (num c (p + 2)).2.2 : Nat) : Int)]) else (false, (num c (p + 2)).2.1, [])) = _
        rw [e2]
      have no := num_ok hc (p := p + 1 + 1) h2.2.2.2.2.1
      have fa := (f1.tr f2).tr f3
      by_cases hn : (num c (p + 1 + 1)).1 = true
      · rw [if_pos hn, if_pos (nI_pos' (by have := (no.2.2 hn).2; omega))]
        rw [if_pos hn] at ht
        refine ⟨h3.2.1.2.1, ?_⟩
        rw [show (3 : Int32) = nI 3 from rfl, show (100 : Int32) = nI 100 from rfl, nI_mul, nI_add, nI_mul, nI_add]
        have h100 := h3.2.2.2.1.1
        have hq := h3.2.2.2.2.1
        have n1 := (no.2.2 hn).1
        refine step_c (x := (((l * 3 + s) * 100 + (num c (p + 1 + 1)).2.2 : Nat) : Int)) h3 (sT_p hT fa) (by omega) fun M4 f4 h4 t4 => ?_
        have q := q M4 (fa.g.tr f4)
        rw [ht] at q
        exact q h4 (fun _ => t4)
      · rw [if_neg hn, if_neg (by decide)]
        rw [if_neg hn] at ht
        have q := q M3 fa.g
        rw [ht] at q
        exact q h3 (fun e => by cases e)
    · rw [six_f] at e2
      rw [if_neg (by decide)]
      have ht : tst c p = (false, p + 1, []) := by
        unfold tst; rw [e1]
        show (match six_ (c (p + 1)) with
          | none => (false, p + 1, [])
          | some s => if (num c (p + 2)).1 = true then (true, (num c (p + 2)).2.1, [(((l * 3 + s) * 100 + (num c (p + 2)).2.2 : Nat) : Int)]) else (false, (num c (p + 2)).2.1, [])) = _
        rw [e2]
      have q := q M1 f1.g
      rw [ht] at q
      exact q h1 (fun e => by cases e)
  · rw [lix_f] at e1
    rw [if_neg (by decide)]
    have ht : tst c p = (false, p, []) := by unfold tst; rw [e1]
    have q := q M (gF.rf a M)
    rw [ht] at q
    exact q h (fun e => by cases e)
