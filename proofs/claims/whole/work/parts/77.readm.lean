/-! ===== a text read by the model ===== -/
def rdM (c : Nat → Int) (n p : Nat) (M : Mem) : Prop := Good M ∧ (n ≤ 100 ∧ mI M 76 11 = nI n ∧ cEnd c n ∧ ∀ k, k < n → (mI M 84 k).toInt = c k) ∧ p ≤ n ∧ mI M 76 12 = nI p
/-- the cells that reading changes; those of the tokens of window w; those of the x-th clause, too -/
def nF (M M1 : Mem) : Prop := Sm M M1 ∧ ∀ b j, ¬ (b = 76 ∧ (j = 12 ∨ j = 13)) → mI M1 b j = mI M b j
def eF (w : Nat) (M M1 : Mem) : Prop := Sm M M1 ∧ ∀ b j, ¬ (b = 76 ∧ (j = 12 ∨ j = 13 ∨ j = 23 ∨ j = 24 ∨ j = 25)) → ¬ (b = 91 ∧ 100 * w ≤ j) → ¬ b = 92 → mI M1 b j = mI M b j
def dF (w x : Nat) (M M1 : Mem) : Prop := Sm M M1 ∧ ∀ b j, ¬ (b = 76 ∧ (j = 12 ∨ j = 13 ∨ j = 23 ∨ j = 24 ∨ j = 25)) → ¬ (b = 91 ∧ 100 * w ≤ j) → ¬ b = 92 → ¬ ((b = 89 ∨ b = 90) ∧ j = x) → mI M1 b j = mI M b j
def cF (w x : Nat) (M M1 : Mem) : Prop := Sm M M1 ∧ ∀ b j, ¬ (b = 76 ∧ (j = 12 ∨ j = 13 ∨ j = 23 ∨ j = 24 ∨ j = 25)) → ¬ (b = 91 ∧ 100 * w ≤ j) → ¬ b = 92 → ¬ (86 ≤ b ∧ b < 91 ∧ j = x) → mI M1 b j = mI M b j
theorem nF.rf (M : Mem) : nF M M := ⟨Sm.rf M, fun _ _ _ => rfl⟩
theorem nF.tr {M M1 M2 : Mem} (h : nF M M1) (k : nF M1 M2) : nF M M2 := ⟨h.1.tr k.1, fun b j q => (k.2 b j q).trans (h.2 b j q)⟩
theorem nF.st {M M1 : Mem} {v : Int32} (hE : M1 = sI M 76 12 v) : nF M M1 := ⟨by rw [hE]; exact Sm.rf M, fun b j q => by rw [hE]; exact mI_ne _ _ (by omega)⟩
theorem nF.e {M M1 : Mem} (w : Nat) (h : nF M M1) : eF w M M1 := ⟨h.1, fun b j q _ _ => h.2 b j (by omega)⟩
theorem eF.rf (w : Nat) (M : Mem) : eF w M M := (nF.rf M).e w
theorem eF.tr {w : Nat} {M M1 M2 : Mem} (h : eF w M M1) (k : eF w M1 M2) : eF w M M2 := ⟨h.1.tr k.1, fun b j q r s => (k.2 b j q r s).trans (h.2 b j q r s)⟩
theorem eF.d {w : Nat} {M M1 : Mem} (x : Nat) (h : eF w M M1) : dF w x M M1 := ⟨h.1, fun b j q r s _ => h.2 b j q r s⟩
theorem dF.tr {w x : Nat} {M M1 M2 : Mem} (h : dF w x M M1) (k : dF w x M1 M2) : dF w x M M2 := ⟨h.1.tr k.1, fun b j q r s u => (k.2 b j q r s u).trans (h.2 b j q r s u)⟩
theorem dF.c {w x : Nat} {M M1 : Mem} (h : dF w x M M1) : cF w x M M1 := ⟨h.1, fun b j q r s u => h.2 b j q r s (by omega)⟩
theorem cF.tr {w x : Nat} {M M1 M2 : Mem} (h : cF w x M M1) (k : cF w x M1 M2) : cF w x M M2 := ⟨h.1.tr k.1, fun b j q r s u => (k.2 b j q r s u).trans (h.2 b j q r s u)⟩
theorem rdM_mv {w x n p q : Nat} {c : Nat → Int} {M M1 : Mem} (h : rdM c n p M) (f : cF w x M M1) (e : mI M1 76 12 = nI q) (hq : q ≤ n) : rdM c n q M1 := by
  obtain ⟨hG, ⟨hn, e9, hc, ht⟩, hp, e10⟩ := h
  exact ⟨f.1.good hG, ⟨hn, by rw [f.2 76 11 (by omega) (by omega) (by omega) (by omega)]; exact e9, hc, fun k hk => by rw [f.2 84 k (by omega) (by omega) (by omega) (by omega)]; exact ht k hk⟩, hq, e⟩
theorem nF.mv {n p q : Nat} {c : Nat → Int} {M M1 : Mem} (f : nF M M1) (h : rdM c n p M) (e : mI M1 76 12 = nI q) (hq : q ≤ n) : rdM c n q M1 := rdM_mv h ((f.e 0).d 0).c e hq
/-- what the model sees at a place -/
def sn (c : Nat → Int) (p : Nat) (x : Int32) : Prop := x.toInt = c p ∨ (x.toInt = -1 ∧ c p = -1000)
theorem sn_eq {c : Nat → Int} {p : Nat} {x y : Int32} (h : sn c p x) (hy : 0 ≤ y.toInt) : x = y ↔ c p = y.toInt := by
  unfold sn at h
  rw [i32_eq]; omega
theorem next_m {n p : Nat} {c : Nat → Int} {M : Mem} {Q : Int32 → Mem → Prop} (h : rdM c n p M) (q : ∀ x, sn c p x → Q x M) : f_X12_next 76 M Q := by
  unfold f_X12_next
  obtain ⟨hG, ⟨hn, e11, hc, ht⟩, hp, e12⟩ := h
  refine ⟨oM hG, ?_⟩
  rw [e11, e12]
  by_cases hpn : n ≤ p
  · rw [if_pos (nI_le hpn (by omega))]
    exact q _ (Or.inr ⟨by decide, hc p hpn⟩)
  · rw [if_neg (nI_ge (by omega) (by omega))]
    refine ⟨84, mP_g hG rfl, isA_g hG (by decide) rfl (vpN (by omega) (by omega)), ?_⟩
    rw [nI_clamp (by omega)]
    exact q _ (Or.inl (ht p (by omega)))
theorem third_m {n p : Nat} {c : Nat → Int} {M : Mem} {Q : Int32 → Mem → Prop} (h : rdM c n p M) (q : ∀ x, sn c (p + 2) x → Q x M) : f_X12_third 76 M Q := by
  unfold f_X12_third
  obtain ⟨hG, ⟨hn, e11, hc, ht⟩, hp, e12⟩ := h
  refine ⟨oM hG, ?_⟩
  rw [e11, e12, show (2 : Int32) = nI 2 from rfl, nI_add]
  by_cases hpn : n ≤ p + 2
  · rw [if_pos (nI_le hpn (by omega))]
    exact q _ (Or.inr ⟨by decide, hc (p + 2) hpn⟩)
  · rw [if_neg (nI_ge (by omega) (by omega))]
    refine ⟨84, mP_g hG rfl, isA_g hG (by decide) rfl (vpN (by omega) (by omega)), ?_⟩
    rw [nI_clamp (by omega)]
    exact q _ (Or.inl (ht (p + 2) (by omega)))
theorem sign_m {n p : Nat} {c : Nat → Int} {y : Int32} {M : Mem} {Q : Bool → Mem → Prop} (h : rdM c n p M) (hy : 0 ≤ y.toInt) (q1 : c p = y.toInt → ∀ M1, M1 = sI M 76 12 (nI (p + 1)) → rdM c n (p + 1) M1 → Q true M1) (q2 : ¬ c p = y.toInt → Q false M) : f_X12_takesSign 76 y M Q := by
  unfold f_X12_takesSign
  refine ⟨oM h.1, next_m h fun x hx => ?_⟩
  have e := sn_eq hx hy
  by_cases c1 : c p = y.toInt
  · rw [if_pos (e.mpr c1)]
    refine ⟨oM h.1, fun M1 hE => ?_⟩
    rw [h.2.2.2, nI_1] at hE
    have lp := ne_lt h.2.1.2.2.1 (p := p) (by omega)
    exact q1 c1 M1 hE ((nF.st hE).mv h (by rw [hE, mI_sI_s]) (by omega))
  · rw [if_neg (fun q => c1 (e.mp q))]
    exact q2 c1
def chW (x : Int32) (j : Nat) : Int32 := 96 + ((x >>> ((5 * nI j) &&& 31)) &&& 31)
def wOk (x : Int32) (s : Nat) (L : List Int) : Prop := s ≤ 5 ∧ L.drop s = [32] ∧ ∀ i, i < s → L.drop i = (chW x (s - 1 - i)).toInt :: L.drop (i + 1) ∧ 0 ≤ (chW x (s - 1 - i)).toInt
theorem tword_m {n p s : Nat} {c : Nat → Int} {x : Int32} {L : List Int} {M : Mem} {Q : Bool → Mem → Prop} (hL : wOk x s L) (h : rdM c n p M) (q : ∀ M1, nF M M1 → rdM c n (wrd c L p).2 M1 → Q (wrd c L p).1 M1) : f_X12_takesWord 76 x (nI s) M Q := by
  unfold f_X12_takesWord f_X12_takesWord_L4
  obtain ⟨s5, l32, lk⟩ := hL
  have es := nI_toInt (n := s) (by omega)
  refine ⟨fun z => ∃ i, i ≤ s ∧ z.1.toInt = (s : Int) - i - 1 ∧ nF M z.2 ∧ rdM c n (p + i) z.2 ∧ wrd c L p = wrd c (L.drop i) (p + i), fun z => (z.1.toInt + 1).toNat, ⟨0, Nat.zero_le _, ?_, nF.rf M, h, rfl⟩, ?_⟩
  · show (nI s - 1).toInt = _
    rw [i32_subI] <;> simp only [Int32.reduceToInt] <;> omega
  rintro ⟨v, N⟩ ⟨i, hi, hv, f, hN, hw⟩
  replace hv : v.toInt = (s : Int) - i - 1 := hv
  replace f : nF M N := f
  replace hN : rdM c n (p + i) N := hN
  show f_X12_takesWord_B4 76 x (nI s) v N _ Q
  unfold f_X12_takesWord_B4
  by_cases his : i = s
  · subst his
    rw [if_pos (by rw [i32_lt]; simp only [Int32.reduceToInt]; omega)]
    rw [l32] at hw
    refine ⟨oM hN.1, sign_m hN (by decide) (fun e M1 hE h1 => ?_) (fun e => ?_)⟩
    · have e : c (p + i) = 32 := e
      have ew : wrd c L p = (true, p + i + 1) := by
        rw [hw]
        show (if c (p + i) = 32 then _ else _) = _
        rw [if_pos e]; rfl
      have q := q M1 (f.tr (nF.st hE))
      rw [ew] at q; exact q h1
    · have e : ¬ c (p + i) = 32 := e
      have ew : wrd c L p = (false, p + i) := by
        rw [hw]
        show (if c (p + i) = 32 then _ else _) = _
        rw [if_neg e]
      have q := q N f
      rw [ew] at q; exact q hN
  · rw [if_neg (by rw [i32_lt]; simp only [Int32.reduceToInt]; omega)]
    obtain rfl : v = nI (s - 1 - i) := nI_of_toInt (by omega) (by omega)
    obtain ⟨hd, h0⟩ := lk i (by omega)
    refine ⟨oM hN.1, ?_⟩
    change f_X12_takesSign 76 (chW x (s - 1 - i)) N _
    refine sign_m hN h0 (fun e M1 hE h1 => ?_) (fun e => ?_)
    · rw [if_pos rfl]
      refine ⟨⟨i + 1, by omega, ?_, f.tr (nF.st hE), h1, ?_⟩, ?_⟩
      · show (nI (s - 1 - i) + -1).toInt = _
        rw [i32_addI] <;> simp only [Int32.reduceToInt] <;> omega
      · rw [hw, hd]
        show (if c (p + i) = _ then _ else _) = _
        rw [if_pos e]; rfl
      · show ((nI (s - 1 - i) + -1).toInt + 1).toNat < ((nI (s - 1 - i)).toInt + 1).toNat
        rw [i32_addI] <;> simp only [Int32.reduceToInt] <;> omega
    · rw [if_neg (by decide)]
      have ew : wrd c L p = (false, p + i) := by
        rw [hw, hd]
        show (if c (p + i) = _ then _ else _) = _
        rw [if_neg e]
      have q := q N f
      rw [ew] at q; exact q hN
theorem isDig_m {n p : Nat} {c : Nat → Int} {M : Mem} {Q : Bool → Mem → Prop} (h : rdM c n p M) (q : Q (dig (c p)) M) : f_X12_isDigit 76 M Q := by
  unfold f_X12_isDigit
  refine ⟨oM h.1, next_m h fun x hx => ⟨oM h.1, ?_⟩⟩
  unfold sn at hx
  by_cases d : 48 ≤ c p ∧ c p ≤ 57
  · rw [show dig (c p) = true from decide_eq_true d] at q
    exact in_t (by simp only [Int32.reduceToInt]; omega) q
  · rw [show dig (c p) = false from decide_eq_false d] at q
    exact in_f (by simp only [Int32.reduceToInt]; omega) q
def dv (c : Nat → Int) (p : Nat) : Nat → Nat
  | 0 => 0
  | k + 1 => dv c p k * 10 + (c (p + k) - 48).toNat
theorem dg_v {D : Nat} {x : Int32} {y : Int} (hx : x.toInt = y) (h : 48 ≤ y ∧ y ≤ 57) (hD : D ≤ 99) : ((10 : Int32) * nI D + x) - 48 = nI (D * 10 + (y - 48).toNat) := by
  have e1 : (10 : Int32) * nI D = nI (10 * D) := by rw [show (10 : Int32) = nI 10 from rfl, nI_mul]
  have e2 := nI_toInt (n := 10 * D) (by omega)
  have e3 := nI_toInt (n := D * 10 + (y - 48).toNat) (by omega)
  rw [e1]
  apply Int32.toInt_inj.mp
  have e4 : (nI (10 * D) + x).toInt = 10 * D + y := by rw [i32_addI] <;> rw [e2, hx] <;> omega
  rw [e3, i32_subI] <;> rw [e4] <;> simp only [Int32.reduceToInt] <;> omega
theorem tnum_m {n p : Nat} {c : Nat → Int} {M : Mem} {Q : Bool → Mem → Prop} (h : rdM c n p M) (q : ∀ M1, nF M M1 → rdM c n (num c p).2.1 M1 → ((num c p).1 = true → mI M1 76 13 = nI (num c p).2.2) → Q (num c p).1 M1) : f_X12_takesNumber 76 M Q := by
  unfold f_X12_takesNumber
  refine ⟨oM h.1, isDig_m h ?_⟩
  by_cases d : dig (c p) = true
  case neg =>
    rw [if_neg d]
    have en : num c p = (false, p, 0) := by unfold num; rw [if_neg d]
    have q := q M (nF.rf M)
    rw [en] at q; exact q h (fun e => by cases e)
  rw [if_pos d]
  refine ⟨oM h.1, fun M1 hE => ?_⟩
  have f1 : nF M M1 := ⟨by rw [hE]; exact Sm.rf M, fun b j r => by rw [hE]; exact mI_ne _ _ (by omega)⟩
  have h1 : rdM c n p M1 := f1.mv h (by rw [hE, mI_ne _ _ (by omega)]; exact h.2.2.2) h.2.2.1
  have d1 : mI M1 76 13 = nI 0 := by rw [hE, mI_sI_s]; rfl
  unfold f_X12_takesNumber_L16
  refine ⟨fun z => ∃ k N, z = (nI k, N) ∧ k ≤ 2 ∧ (∀ j, j < k → dig (c (p + j)) = true) ∧ rdM c n (p + k) N ∧ nF M N ∧ mI N 76 13 = nI (dv c p k), fun z => 2 - z.1.toNatClampNeg, ⟨0, M1, rfl, Nat.zero_le _, fun j hj => absurd hj (Nat.not_lt_zero _), h1, f1, d1⟩, ?_⟩
  rintro z ⟨k, N, rfl, hk, hd, hN, f, e13⟩
  show f_X12_takesNumber_B16 76 (nI k) N _ Q
  unfold f_X12_takesNumber_B16
  by_cases k2 : k = 2
  · subst k2
    rw [if_pos (by decide)]
    have en : num c p = (true, p + 2, dv c p 2) := by
      unfold num; rw [if_pos d, if_pos (hd 1 (by omega))]
      show _ = (true, p + 2, (0 * 10 + (c (p + 0) - 48).toNat) * 10 + (c (p + 1) - 48).toNat)
      rw [Nat.zero_mul, Nat.zero_add]; rfl
    have q := q N f
    rw [en] at q; exact q hN (fun _ => e13)
  rw [if_neg (show ¬ (2 : Int32) ≤ nI k from nI_ge (b := 2) (by omega) (by omega))]
  refine ⟨oM hN.1, isDig_m hN ?_⟩
  by_cases dk : dig (c (p + k)) = true
  · rw [if_pos dk]
    refine ⟨oM hN.1, next_m hN fun x hx => ⟨oM hN.1, fun N2 hE2 N3 hE3 => ?_⟩⟩
    have b := of_decide_eq_true dk
    have lk := dig_lt hN.2.1.2.2.1 dk
    have hx2 : x.toInt = c (p + k) := by unfold sn at hx; omega
    have b0 := of_decide_eq_true d
    have hD : dv c p k ≤ 99 := by
      have : k = 0 ∨ k = 1 := by omega
      rcases this with rfl | rfl
      · exact Nat.zero_le _
      · show 0 * 10 + (c (p + 0) - 48).toNat ≤ 99
        have : c (p + 0) = c p := rfl
        omega
    rw [e13, dg_v hx2 b hD] at hE2
    have a2 : mI N2 76 12 = nI (p + k) := by rw [hE2, mI_ne _ _ (by omega)]; exact hN.2.2.2
    rw [a2, nI_1] at hE3
    have fN : nF N N3 := ⟨by rw [hE3, hE2]; exact Sm.rf N, fun b j r => by rw [hE3, mI_ne _ _ (by omega), hE2, mI_ne _ _ (by omega)]⟩
    refine ⟨⟨k + 1, N3, by rw [nI_1], by omega, fun j hj => ?_, fN.mv hN (by rw [hE3, mI_sI_s]; rfl) (by omega), f.tr fN, ?_⟩, ?_⟩
    · by_cases ej : j = k
      · rw [ej]; exact dk
      · exact hd j (by omega)
    · rw [hE3, mI_ne _ _ (by omega), hE2, mI_sI_s]; rfl
    · show 2 - (nI k + 1).toNatClampNeg < 2 - (nI k).toNatClampNeg
      rw [nI_1, nI_clamp (by omega), nI_clamp (by omega)]; omega
  · rw [if_neg dk]
    obtain rfl : k = 1 := by
      have : k ≠ 0 := fun e => dk (by rw [e]; exact d)
      omega
    have en : num c p = (true, p + 1, dv c p 1) := by
      unfold num; rw [if_pos d, if_neg dk]
      show _ = (true, p + 1, 0 * 10 + (c (p + 0) - 48).toNat)
      rw [Nat.zero_mul, Nat.zero_add]; rfl
    have q := q N f
    rw [en] at q; exact q hN (fun _ => e13)
/-! its tokens, and its pile -/
def sM (w : Nat) (O : List Int) (M : Mem) : Prop := mI M 76 23 = nI (100 * w + O.length) ∧ ∀ k t, O[k]? = some t → mI M 91 (100 * w + k) = Int32.ofInt (mcode t)
def kM (w : Nat) (c : Nat → Int) (n p : Nat) (W O : List Int) (M : Mem) : Prop := rdM c n p M ∧ sM w O M ∧ (mI M 76 24 = nI W.length ∧ ∀ i x, W.reverse[i]? = some x → mI M 92 i = Int32.ofInt x) ∧ mI M 76 25 = nI (opn W) ∧ O.length + W.length ≤ p ∧ ∀ x, x ∈ W → x = 33 ∨ x = 40 ∨ x = 38 ∨ x = 124
theorem put_m {w : Nat} {O : List Int} {t : Int} {y : Int32} {M : Mem} {Q : Mem → Prop} (hG : Good M) (hw : w < 6) (hS : sM w O M) (hl : O.length < 100) (hy : y = Int32.ofInt (mcode t)) (q : ∀ M1, M1 = sI (sI M 91 (100 * w + O.length) y) 76 23 (nI (100 * w + O.length + 1)) → sM w (O ++ [t]) M1 → Q M1) : f_X12_put 76 y M Q := by
  unfold f_X12_put
  refine ⟨oM hG, 91, mP_g hG rfl, isA_g hG (by decide) rfl (by rw [hS.1]; exact vpN (by omega) (by omega)), fun M1 hE M2 hE2 => ?_⟩
  rw [hS.1, nI_clamp (by omega)] at hE
  have a1 : mI M1 76 23 = nI (100 * w + O.length) := by rw [hE, mI_ne _ _ (by omega)]; exact hS.1
  rw [a1, nI_1] at hE2
  refine q M2 (by rw [hE2, hE]) ⟨?_, fun k u e => ?_⟩
  · rw [hE2, mI_sI_s, List.length_append]; rfl
  · rw [hE2, mI_ne _ _ (by omega), hE, mI_sI]
    by_cases ek : k = O.length
    · subst ek
      rw [if_pos ⟨rfl, rfl⟩]
      rw [List.getElem?_append_right (Nat.le_refl _), Nat.sub_self] at e
      injection e with e
      rw [hy, e]
    · rw [if_neg (fun q => ek (by omega))]
      have hk : k < (O ++ [t]).length := (List.getElem?_eq_some_iff.mp e).1
      rw [List.length_append] at hk
      have hk : k < O.length + 1 := hk
      rw [List.getElem?_append_left (by omega)] at e
      exact hS.2 k u e
theorem opn_c (x : Int) (W : List Int) : opn (x :: W) = if x = 33 ∨ x = 40 then opn W + 1 else opn W := by
  unfold opn
  by_cases h : x = 33 ∨ x = 40
  · rw [if_pos h, List.filter_cons_of_pos (by simpa using h)]; rfl
  · rw [if_neg h, List.filter_cons_of_neg (by simpa using h)]
theorem opn_le (W : List Int) : opn W ≤ W.length := List.length_filter_le ..
theorem rev_top {W : List Int} {x : Int} : (x :: W).reverse[W.length]? = some x := by
  rw [List.reverse_cons, List.getElem?_append_right (by rw [List.length_reverse]; exact Nat.le_refl _), List.length_reverse, Nat.sub_self]; rfl
theorem rev_sub {W : List Int} {x y : Int} {i : Nat} (h : W.reverse[i]? = some y) : (x :: W).reverse[i]? = some y := by
  have hi := (List.getElem?_eq_some_iff.mp h).1
  rw [List.reverse_cons, List.getElem?_append_left hi]; exact h
/-- the top of the pile goes to the tokens -/
theorem pop_k {w n p : Nat} {c : Nat → Int} {x t : Int} {W O : List Int} {M M1 : Mem} (h : kM w c n p (x :: W) O M) (hE : M1 = sI (sI M 91 (100 * w + O.length) (Int32.ofInt (mcode t))) 76 23 (nI (100 * w + O.length + 1))) (hS : sM w (O ++ [t]) M1) (M2 : Mem) (hs : Sm M1 M2) (e24 : mI M2 76 24 = nI W.length) (e25 : mI M2 76 25 = nI (opn W)) (ef : ∀ b j, ¬ (b = 76 ∧ (j = 24 ∨ j = 25)) → mI M2 b j = mI M1 b j) : kM w c n p W (O ++ [t]) M2 ∧ eF w M M2 := by
  obtain ⟨hr, h2, ⟨h3, h4⟩, h5, h6, h7⟩ := h
  have f : eF w M M2 := ⟨by rw [hE] at hs; exact (Sm.rf M).tr hs, fun b j q r s => by rw [ef b j (by omega), hE, mI_ne _ _ (by omega), mI_ne _ _ (by omega)]⟩
  refine ⟨⟨rdM_mv hr (f.d 0).c ?_ hr.2.2.1, ⟨by rw [ef _ _ (by omega)]; exact hS.1, fun k u e => by rw [ef _ _ (by omega)]; exact hS.2 k u e⟩, ⟨e24, fun i y e => ?_⟩, e25, ?_, fun y hy => h7 y (List.mem_cons_of_mem _ hy)⟩, f⟩
  · rw [ef _ _ (by omega), hE, mI_ne _ _ (by omega), mI_ne _ _ (by omega)]; exact hr.2.2.2
  · rw [ef _ _ (by omega), hE, mI_ne _ _ (by omega), mI_ne _ _ (by omega)]; exact h4 i y (rev_sub e)
  · rw [List.length_append]
    have : (x :: W).length = W.length + 1 := rfl
    show O.length + 1 + W.length ≤ p
    omega
theorem kM_top {w n p : Nat} {c : Nat → Int} {x : Int} {W O : List Int} {M : Mem} (h : kM w c n p (x :: W) O M) : mI M 76 24 = nI (W.length + 1) ∧ mI M 92 W.length = Int32.ofInt x ∧ W.length ≤ 99 ∧ O.length ≤ 99 := by
  have := h.2.2.2.2.1
  have := h.1.2.2.1
  have := h.1.2.1.1
  have : (x :: W).length = W.length + 1 := rfl
  exact ⟨h.2.2.1.1, h.2.2.1.2 _ _ rev_top, by omega, by omega⟩
theorem ofI_33 (x : Int) (h : x = 33 ∨ x = 40 ∨ x = 38 ∨ x = 124) (y : Int32) (z : Int) (hy : y = Int32.ofInt z) (hz : z = 33 ∨ z = 38 ∨ z = 124) : Int32.ofInt x = y ↔ x = z := by
  rw [hy]
  rcases h with rfl | rfl | rfl | rfl <;> rcases hz with rfl | rfl | rfl <;> decide
theorem whole_m {w n p : Nat} {c : Nat → Int} {W O : List Int} {M : Mem} {Q : Mem → Prop} (hw : w < 6) (h : kM w c n p W O M) (q : ∀ M1, eF w M M1 → kM w c n p (wh W O).1 (wh W O).2 M1 → Q M1) : f_X12_whole 76 M Q := by
  unfold f_X12_whole f_X12_whole_L0
  refine ⟨fun N => ∃ W' O', wh W O = wh W' O' ∧ kM w c n p W' O' N ∧ eF w M N, fun N => (mI N 76 24).toNatClampNeg, ⟨W, O, rfl, h, eF.rf w M⟩, ?_⟩
  rintro N ⟨W', O', hwh, hN, fN⟩
  show f_X12_whole_B0 76 N _ Q
  unfold f_X12_whole_B0
  have hG := hN.1.1
  refine ⟨oM hG, ?_⟩
  cases W' with
  | nil =>
    rw [if_pos (show mI N 76 24 ≤ 0 by rw [hN.2.2.1.1]; decide)]
    have q := q N fN
    rw [hwh] at q; exact q hN
  | cons x W' =>
    obtain ⟨k1, k2, k3, k4⟩ := kM_top hN
    rw [k1, if_neg (nI_nle (by omega) (by omega))]
    refine ⟨92, mP_g hG rfl, ?_⟩
    rw [nI_pred, nI_clamp (by omega)]
    refine ⟨isA_g hG (by decide) rfl (vpN (by omega) (by omega)), ?_⟩
    rw [k2]
    have hx := hN.2.2.2.2.2 x (List.mem_cons_self ..)
    have ex := ofI_33 x hx 33 33 (by decide) (Or.inl rfl)
    by_cases e : x = 33
    · rw [if_pos (ex.mpr e)]
      have ew : wh (x :: W') O' = wh W' (O' ++ [-3]) := by
        show (if x = 33 then _ else _) = _
        rw [if_pos e]
      refine put_m (t := -3) hG hw hN.2.1 (by omega) (by decide) fun M1 hE hS => ?_
      have hG1 : Good M1 := by rw [hE]; exact hG
      refine ⟨oM hG1, fun M2 hE2 M3 hE3 => ?_⟩
      have a1 : mI M1 76 24 = nI (W'.length + 1) := by rw [hE, mI_ne _ _ (by omega), mI_ne _ _ (by omega)]; exact k1
      have o1 : mI M1 76 25 = nI (opn W' + 1) := by
        rw [hE, mI_ne _ _ (by omega), mI_ne _ _ (by omega), hN.2.2.2.1, opn_c, if_pos (Or.inl e)]
      rw [a1, nI_pred] at hE2
      rw [show mI M2 76 25 = nI (opn W' + 1) by rw [hE2, mI_ne _ _ (by omega)]; exact o1, nI_pred] at hE3
      obtain ⟨g1, g2⟩ := pop_k hN (t := -3) (by rw [hE]; rfl) hS M3 (by rw [hE3, hE2]; exact Sm.rf M1) (by rw [hE3, mI_ne _ _ (by omega), hE2, mI_sI_s]) (by rw [hE3, mI_sI_s]) (fun b j r => by rw [hE3, mI_ne _ _ (by omega), hE2, mI_ne _ _ (by omega)])
      refine ⟨⟨W', O' ++ [-3], by rw [hwh, ew], g1, fN.tr g2⟩, ?_⟩
      show (mI M3 76 24).toNatClampNeg < (mI N 76 24).toNatClampNeg
      rw [g1.2.2.1.1, k1, nI_clamp (by omega), nI_clamp (by omega)]; omega
    · rw [if_neg (fun q => e (ex.mp q))]
      have q := q N fN
      have ew : wh (x :: W') O' = (x :: W', O') := by
        show (if x = 33 then _ else _) = _
        rw [if_neg e]
      rw [hwh, ew] at q; exact q hN
theorem settle_m {w n p : Nat} {c : Nat → Int} {y : Int32} {b : Int} {W O : List Int} {M : Mem} {Q : Mem → Prop} (hw : w < 6) (hb : y = 38 ↔ b = 38) (h : kM w c n p W O M) (q : ∀ M1, eF w M M1 → kM w c n p (stl b W O).1 (stl b W O).2 M1 → Q M1) : f_X12_settle 76 y M Q := by
  unfold f_X12_settle f_X12_settle_L0
  refine ⟨fun N => ∃ W' O', stl b W O = stl b W' O' ∧ kM w c n p W' O' N ∧ eF w M N, fun N => (mI N 76 24).toNatClampNeg, ⟨W, O, rfl, h, eF.rf w M⟩, ?_⟩
  rintro N ⟨W', O', hst, hN, fN⟩
  show f_X12_settle_B0 76 y N _ Q
  unfold f_X12_settle_B0
  have hG := hN.1.1
  refine ⟨oM hG, ?_⟩
  cases W' with
  | nil =>
    rw [if_pos (show mI N 76 24 ≤ 0 by rw [hN.2.2.1.1]; decide)]
    have q := q N fN
    rw [hst] at q; exact q hN
  | cons x W' =>
    obtain ⟨k1, k2, k3, k4⟩ := kM_top hN
    have hx := hN.2.2.2.2.2 x (List.mem_cons_self ..)
    have e38 := ofI_33 x hx 38 38 (by decide) (Or.inr (Or.inl rfl))
    have e124 := ofI_33 x hx 124 124 (by decide) (Or.inr (Or.inr rfl))
    have v92 : vp_in (nI W'.length) 101 := vpN (by omega) (by omega)
    -- one is taken off
    have pp : (x = 38 ∨ x = 124 ∧ b ≠ 38) → f_X12_settle_J45 76 y N (fun N' => (∃ W' O', stl b W O = stl b W' O' ∧ kM w c n p W' O' N' ∧ eF w M N') ∧ (mI N' 76 24).toNatClampNeg < (mI N 76 24).toNatClampNeg) Q := by
      intro hc
      have ew : stl b (x :: W') O' = stl b W' (O' ++ [opT x]) := by
        show (if x = 38 ∨ x = 124 ∧ b ≠ 38 then _ else _) = _
        rw [if_pos hc]
      have hx2 : x = 38 ∨ x = 124 := hc.imp id (fun h => h.1)
      unfold f_X12_settle_J45
      refine ⟨oM hG, fun M1 hE => ?_⟩
      rw [k1, nI_pred] at hE
      have hG1 : Good M1 := by rw [hE]; exact hG
      have a1 : mI M1 76 24 = nI W'.length := by rw [hE, mI_sI_s]
      refine ⟨92, mP_g hG1 rfl, ?_⟩
      rw [a1, nI_clamp (by omega)]
      refine ⟨isA_g hG1 (by decide) rfl v92, ?_⟩
      rw [show mI M1 92 W'.length = Int32.ofInt x by rw [hE, mI_ne _ _ (by omega)]; exact k2]
      have hS1 : sM w O' M1 := ⟨by rw [hE, mI_ne _ _ (by omega)]; exact hN.2.1.1, fun k t e => by rw [hE, mI_ne _ _ (by omega)]; exact hN.2.1.2 k t e⟩
      have hy : -(Int32.ofInt x) = Int32.ofInt (mcode (opT x)) := by
        rcases hx2 with rfl | rfl <;> decide
      refine put_m (t := opT x) hG1 hw hS1 (by omega) hy fun M2 hE2 hS2 => ?_
      have o1 : opn (x :: W') = opn W' := by rw [opn_c, if_neg (by omega)]
      have e25 : mI M2 76 25 = nI (opn W') := by
        rw [hE2, mI_ne _ _ (by omega), mI_ne _ _ (by omega), hE, mI_ne _ _ (by omega), hN.2.2.2.1, o1]
      have g : kM w c n p W' (O' ++ [opT x]) M2 ∧ eF w N M2 := by
        obtain ⟨hr, h2, ⟨h3, h4⟩, h5, h6, h7⟩ := hN
        have f : eF w N M2 := ⟨by rw [hE2, hE]; exact Sm.rf N, fun b j q r s => by rw [hE2, mI_ne _ _ (by omega), mI_ne _ _ (by omega), hE, mI_ne _ _ (by omega)]⟩
        refine ⟨⟨rdM_mv hr (f.d 0).c ?_ hr.2.2.1, hS2, ⟨?_, fun i y e => ?_⟩, e25, ?_, fun y hy => h7 y (List.mem_cons_of_mem _ hy)⟩, f⟩
        · rw [hE2, mI_ne _ _ (by omega), mI_ne _ _ (by omega), hE, mI_ne _ _ (by omega)]; exact hr.2.2.2
        · rw [hE2, mI_ne _ _ (by omega), mI_ne _ _ (by omega)]; exact a1
        · rw [hE2, mI_ne _ _ (by omega), mI_ne _ _ (by omega), hE, mI_ne _ _ (by omega)]; exact h4 i y (rev_sub e)
        · rw [List.length_append]
          have : (x :: W').length = W'.length + 1 := rfl
          show O'.length + 1 + W'.length ≤ p
          omega
      refine ⟨⟨W', O' ++ [opT x], by rw [hst, ew], g.1, fN.tr g.2⟩, ?_⟩
      rw [g.1.2.2.1.1, k1, nI_clamp (by omega), nI_clamp (by omega)]; omega
    have st : ¬ (x = 38 ∨ x = 124 ∧ b ≠ 38) → Q N := by
      intro hc
      have q := q N fN
      have ew : stl b (x :: W') O' = (x :: W', O') := by
        show (if x = 38 ∨ x = 124 ∧ b ≠ 38 then _ else _) = _
        rw [if_neg hc]
      rw [hst, ew] at q; exact q hN
    rw [if_neg (show ¬ mI N 76 24 ≤ 0 by rw [k1]; exact nI_nle (by omega) (by omega))]
    refine ⟨92, mP_g hG rfl, ?_⟩
    have ek : mI N 76 24 - 1 = nI W'.length := by rw [k1, nI_pred]
    rw [ek, nI_clamp (by omega)]
    refine ⟨isA_g hG (by decide) rfl v92, ?_⟩
    rw [k2]
    by_cases c38 : x = 38
    · rw [if_pos (e38.mpr c38)]; exact pp (Or.inl c38)
    rw [if_neg (fun q => c38 (e38.mp q))]
    refine ⟨isA_g hG (by decide) rfl v92, ?_⟩
    by_cases c124 : x = 124
    · rw [if_pos (e124.mpr c124)]
      by_cases cy : y = 38
      · rw [if_pos cy]; exact st (by have := hb.mp cy; omega)
      · rw [if_neg cy]; exact pp (Or.inr ⟨c124, fun e => cy (hb.mpr e)⟩)
    · rw [if_neg (fun q => c124 (e124.mp q))]; exact st (by omega)
