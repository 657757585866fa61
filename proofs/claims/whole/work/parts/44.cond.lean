/-! ===== a condition, by the class: its answers as bits ===== -/
def bnum : List Bool → Nat
  | [] => 0
  | b :: r => (if b = true then 1 else 0) + 2 * bnum r
theorem bnum_lt (p : List Bool) : bnum p < 2 ^ p.length := by
  induction p with
  | nil => show 0 < 1; omega
  | cons b r ih =>
    show (if b = true then 1 else 0) + 2 * bnum r < 2 ^ (r.length + 1)
    rw [Nat.pow_succ]; split <;> omega
theorem bnum_le {p : List Bool} (h : p.length ≤ 30) : bnum p < 2 ^ 30 := Nat.lt_of_lt_of_le (bnum_lt p) (Nat.pow_le_pow_right (by omega) h)
theorem tb_0 (b : Bool) (y : Nat) : ((if b = true then 1 else 0) + 2 * y).testBit 0 = b := by
  rw [Nat.testBit_zero]; cases b <;> simp <;> omega
theorem tb_s (b : Bool) (y i : Nat) : ((if b = true then 1 else 0) + 2 * y).testBit (i + 1) = y.testBit i := by
  rw [Nat.testBit_succ]; congr 1; cases b <;> simp <;> omega
def btn (x : Int32) (i : Nat) : Bool := x.toBitVec.getLsbD i
theorem btn_ext {x y : Int32} (h : ∀ i, i < 32 → btn x i = btn y i) : x = y := Int32.toBitVec_inj.1 (BitVec.eq_of_getLsbD_eq h)
theorem btn_n (n : Nat) {i : Nat} (hi : i < 32) : btn (nI n) i = n.testBit i := by
  show (BitVec.ofNat 32 n).getLsbD i = _
  rw [BitVec.getLsbD_ofNat]; simp [hi]
theorem btn_or (x y : Int32) (i : Nat) : btn (x ||| y) i = (btn x i || btn y i) := by unfold btn; rw [Int32.toBitVec_or, BitVec.getLsbD_or]
theorem btn_and (x y : Int32) (i : Nat) : btn (x &&& y) i = (btn x i && btn y i) := by unfold btn; rw [Int32.toBitVec_and, BitVec.getLsbD_and]
theorem btn_xor (x y : Int32) (i : Nat) : btn (x ^^^ y) i = (btn x i ^^ btn y i) := by unfold btn; rw [Int32.toBitVec_xor, BitVec.getLsbD_xor]
theorem btn_1 : ∀ i, i < 32 → btn 1 i = decide (i = 0) := by decide
theorem btn_m2 : ∀ i, i < 32 → btn (-2) i = decide (1 ≤ i) := by decide
theorem shr1 {n : Nat} (h : n < 2 ^ 31) : nI n >>> ((1 : Int32) &&& 31) = nI (n / 2) := pk_shrN h _ 1 (by decide)
theorem shl1 {n : Nat} (h : n < 2 ^ 31) : nI n <<< ((1 : Int32) &&& 31) = nI (n * 2) := pk_shlN _ 1 (by decide) (by omega)
theorem bn_d (b : Bool) (r : List Bool) : bnum (b :: r) / 2 = bnum r := by
  show ((if b = true then 1 else 0) + 2 * bnum r) / 2 = _
  cases b <;> simp <;> omega
theorem bn_not (b : Bool) (r : List Bool) : nI (bnum (b :: r)) ^^^ 1 = nI (bnum ((!b) :: r)) := by
  apply btn_ext
  intro i hi
  rw [btn_xor, btn_n _ hi, btn_n _ hi, btn_1 i hi]
  cases i with
  | zero => show (((if b = true then 1 else 0) + 2 * bnum r).testBit 0 ^^ decide (0 = 0)) = ((if (!b) = true then 1 else 0) + 2 * bnum r).testBit 0; rw [tb_0, tb_0]; cases b <;> rfl
  | succ i => show (((if b = true then 1 else 0) + 2 * bnum r).testBit (i + 1) ^^ decide (i + 1 = 0)) = ((if (!b) = true then 1 else 0) + 2 * bnum r).testBit (i + 1); rw [tb_s, tb_s, decide_eq_false (by omega), Bool.xor_false]
theorem bn_and (b a : Bool) (r : List Bool) (h : bnum (b :: a :: r) < 2 ^ 31) : (nI (bnum (b :: a :: r)) >>> ((1 : Int32) &&& 31)) &&& (nI (bnum (b :: a :: r)) ||| (-2 : Int32)) = nI (bnum ((a && b) :: r)) := by
  rw [shr1 h, bn_d]
  apply btn_ext
  intro i hi
  rw [btn_and, btn_or, btn_n _ hi, btn_n _ hi, btn_n _ hi, btn_m2 i hi]
  cases i with
  | zero => show (((if a = true then 1 else 0) + 2 * bnum r).testBit 0 && (((if b = true then 1 else 0) + 2 * bnum (a :: r)).testBit 0 || decide (1 ≤ 0))) = ((if (a && b) = true then 1 else 0) + 2 * bnum r).testBit 0; rw [tb_0, tb_0, tb_0]; cases a <;> cases b <;> rfl
  | succ i => show (((if a = true then 1 else 0) + 2 * bnum r).testBit (i + 1) && (((if b = true then 1 else 0) + 2 * bnum (a :: r)).testBit (i + 1) || decide (1 ≤ i + 1))) = ((if (a && b) = true then 1 else 0) + 2 * bnum r).testBit (i + 1); rw [tb_s, tb_s, tb_s, decide_eq_true (by omega), Bool.or_true, Bool.and_true]
theorem bn_or (b a : Bool) (r : List Bool) (h : bnum (b :: a :: r) < 2 ^ 31) : (nI (bnum (b :: a :: r)) >>> ((1 : Int32) &&& 31)) ||| (nI (bnum (b :: a :: r)) &&& (1 : Int32)) = nI (bnum ((a || b) :: r)) := by
  rw [shr1 h, bn_d]
  apply btn_ext
  intro i hi
  rw [btn_or, btn_and, btn_n _ hi, btn_n _ hi, btn_n _ hi, btn_1 i hi]
  cases i with
  | zero => show (((if a = true then 1 else 0) + 2 * bnum r).testBit 0 || (((if b = true then 1 else 0) + 2 * bnum (a :: r)).testBit 0 && decide (0 = 0))) = ((if (a || b) = true then 1 else 0) + 2 * bnum r).testBit 0; rw [tb_0, tb_0, tb_0]; cases a <;> cases b <;> rfl
  | succ i => show (((if a = true then 1 else 0) + 2 * bnum r).testBit (i + 1) || (((if b = true then 1 else 0) + 2 * bnum (a :: r)).testBit (i + 1) && decide (i + 1 = 0))) = ((if (a || b) = true then 1 else 0) + 2 * bnum r).testBit (i + 1); rw [tb_s, tb_s, tb_s, decide_eq_false (by omega), Bool.and_false, Bool.or_false]
theorem bn_put (b : Bool) (p : List Bool) (h : bnum p < 2 ^ 30) : (nI (bnum p) <<< ((1 : Int32) &&& 31)) ||| (if b = true then (1 : Int32) else 0) = nI (bnum (b :: p)) := by
  rw [shl1 (by omega)]
  apply btn_ext
  intro i hi
  have e : bnum p * 2 = (if false = true then 1 else 0) + 2 * bnum p := by rw [if_neg (by decide)]; omega
  have e1 : btn (if b = true then (1 : Int32) else 0) i = (b && decide (i = 0)) := by
    cases b
    · rw [if_neg (by decide)]; show (0#32).getLsbD i = _; simp
    · rw [if_pos rfl, btn_1 i hi]; rfl
  rw [btn_or, btn_n _ hi, btn_n _ hi, e1, e]
  cases i with
  | zero => rw [tb_0]; show (false || _) = ((if b = true then 1 else 0) + 2 * bnum p).testBit 0; rw [tb_0]; cases b <;> rfl
  | succ i => rw [tb_s]; show (_ || (b && decide (i + 1 = 0))) = ((if b = true then 1 else 0) + 2 * bnum p).testBit (i + 1); rw [tb_s, decide_eq_false (by omega), Bool.and_false, Bool.or_false]
theorem bn_top (p : List Bool) : ((nI (bnum p) &&& (1 : Int32)) = 1) ↔ p.headD false = true := by
  have e : nI (bnum p) &&& (1 : Int32) = if p.headD false = true then (1 : Int32) else 0 := by
    apply btn_ext
    intro i hi
    rw [btn_and, btn_n _ hi, btn_1 i hi]
    cases p with
    | nil => show ((0 : Nat).testBit i && _) = (0#32).getLsbD i; simp
    | cons b r =>
      have e1 : btn (if b = true then (1 : Int32) else 0) i = (b && decide (i = 0)) := by
        cases b
        · rw [if_neg (by decide)]; show (0#32).getLsbD i = _; simp
        · rw [if_pos rfl, btn_1 i hi]; rfl
      show _ = btn (if b = true then (1 : Int32) else 0) i
      rw [e1]
      cases i with
      | zero => show (((if b = true then 1 else 0) + 2 * bnum r).testBit 0 && _) = _; rw [tb_0]
      | succ i => rw [decide_eq_false (by omega), Bool.and_false, Bool.and_false]
  rw [e]
  cases p.headD false <;> decide
/-- the pile never runs dry, nor over -/
theorem hgt_3 {ts : List Int} {n : Nat} {z : Option Nat} (h : hgt (-3 :: ts) n = z) (hz : z ≠ none) : 1 ≤ n ∧ hgt ts n = z := by
  unfold hgt at h
  rw [if_pos rfl] at h
  by_cases c : 1 ≤ n
  · rw [if_pos c] at h; exact ⟨c, h⟩
  · rw [if_neg c] at h; exact absurd h.symm hz
theorem hgt_b {w : Int} {ts : List Int} {n : Nat} {z : Option Nat} (h : hgt (w :: ts) n = z) (hz : z ≠ none) (hw : w = -1 ∨ w = -2) : 2 ≤ n ∧ hgt ts (n - 1) = z := by
  unfold hgt at h
  rw [if_neg (by omega), if_pos (by omega)] at h
  by_cases c : 2 ≤ n
  · rw [if_pos c] at h; exact ⟨c, h⟩
  · rw [if_neg c] at h; exact absurd h.symm hz
theorem hgt_p {w : Int} {ts : List Int} {n : Nat} {z : Option Nat} (h : hgt (w :: ts) n = z) (hz : z ≠ none) (hw : 0 ≤ w) : n < 30 ∧ hgt ts (n + 1) = z := by
  unfold hgt at h
  rw [if_neg (by omega), if_neg (by omega)] at h
  by_cases c : n < 30
  · rw [if_pos c] at h; exact ⟨c, h⟩
  · rw [if_neg c] at h; exact absurd h.symm hz
theorem tst_c {a w : Nat} {M : Mem} {Q : Bool → Mem → Prop} (ha : a < 2 ^ 31) (q : Q (tsv a w) M) : f_X10_tested (nI a) (nI (w / 100 % 3)) (nI (w % 100)) M Q := by
  unfold f_X10_tested
  unfold tsv at q
  have h3 : w / 100 % 3 < 3 := Nat.mod_lt _ (by omega)
  have h4 : w % 100 < 100 := Nat.mod_lt _ (by omega)
  by_cases c0 : w / 100 % 3 = 0
  · rw [if_pos c0] at q
    rw [if_pos (by rw [c0]; rfl)]
    by_cases c : a < w % 100
    · rw [decide_eq_true c] at q; rw [if_neg (nI_ge c (by omega))]; exact q
    · rw [decide_eq_false c] at q; rw [if_pos (nI_le (by omega) ha)]; exact q
  rw [if_neg c0] at q
  rw [if_neg (nn_0 c0 (by omega))]
  by_cases c1 : w / 100 % 3 = 1
  · rw [if_pos c1] at q
    rw [if_pos (by rw [c1]; rfl)]
    by_cases c : a = w % 100
    · rw [decide_eq_true c] at q; rw [if_pos (by rw [c])]; exact q
    · rw [decide_eq_false c] at q; rw [if_neg (by rw [nI_eq ha (by omega)]; exact c)]; exact q
  rw [if_neg c1] at q
  rw [if_neg (nn_1 c1 (by omega))]
  by_cases c : w % 100 < a
  · rw [decide_eq_true c] at q; rw [if_neg (nI_ge c ha)]; exact q
  · rw [decide_eq_false c] at q; rw [if_pos (nI_le (by omega) (by omega))]; exact q
theorem ev_s (t l f n : Nat) (ws : List Int) (w : Int) (p : List Bool) : ev t l f n (ws ++ [w]) p = ev1 t l f n w (ev t l f n ws p) := by
  unfold ev; rw [List.foldl_append]; rfl
theorem holds_c {w from_ t l f n : Nat} {ts : List Int} {M : Mem} {Q : Bool → Mem → Prop} (hw : wO w M) (hts : WFp ts) (hle : from_ + ts.length ≤ 100) (hm : ∀ k x, ts[k]? = some x → mI M (w + 3) (from_ + k) = Int32.ofInt x) (h1 : t < 2 ^ 31) (h2 : l < 2 ^ 31) (h3 : f < 2 ^ 31) (h4 : n < 2 ^ 31) (q : Q (hld t l f n ts) M) : f_X10_holds w (nI from_) (nI (from_ + ts.length)) (nI t) (nI l) (nI f) (nI n) M Q := by
  obtain ⟨-, w1, ⟨-, -, w2⟩, -, -, w3⟩ := hw
  obtain ⟨hg, hr⟩ := hts
  unfold f_X10_holds f_X10_holds_L6
  refine ⟨fun z => ∃ k, k ≤ ts.length ∧ z.1 = nI (bnum (ev t l f n (ts.take k) [])) ∧ (ev t l f n (ts.take k) []).length ≤ 30 ∧ hgt (ts.drop k) (ev t l f n (ts.take k) []).length = some 1 ∧ z.2.1 = nI (from_ + k) ∧ z.2.2 = M, fun z => from_ + ts.length - z.2.1.toNatClampNeg, ⟨0, Nat.zero_le _, rfl, Nat.zero_le _, hg, rfl, rfl⟩, ?_⟩
  rintro ⟨v, c, N⟩ ⟨k, hk, hv, hl, hh, hc, hN⟩
  replace hv : v = nI (bnum (ev t l f n (ts.take k) [])) := hv
  replace hc : c = nI (from_ + k) := hc
  replace hN : N = M := hN
  subst hv; subst hc; subst hN
  show f_X10_holds_B6 w (nI from_) (nI (from_ + ts.length)) (nI t) (nI l) (nI f) (nI n) (nI (bnum (ev t l f n (ts.take k) []))) (nI (from_ + k)) N _ Q
  unfold f_X10_holds_B6 f_X10_holds_J158
  have hb := bnum_le hl
  by_cases hkl : k < ts.length
  · rw [if_neg (nI_ge (by omega) (by omega))]
    obtain ⟨x, hx⟩ : ∃ x, ts[k]? = some x := ⟨ts[k], List.getElem?_eq_getElem hkl⟩
    have hxm := hm k x hx
    have hxr := hr x (List.mem_of_getElem? hx)
    have hd : ts.drop k = x :: ts.drop (k + 1) := by rw [List.drop_eq_getElem_cons hkl]; congr 1; rw [List.getElem?_eq_getElem hkl] at hx; exact Option.some.inj hx
    rw [hd] at hh
    have ht : ev t l f n (ts.take (k + 1)) [] = ev1 t l f n x (ev t l f n (ts.take k) []) := by rw [take_one hx, ev_s]
    refine ⟨w1, w + 3, w2, ⟨100, w3, vpN (by omega) (by omega)⟩, ?_⟩
    rw [nI_clamp (by omega), hxm]
    generalize hp : ev t l f n (ts.take k) [] = p at *
    have up : ∀ (b : Int32) (p' : List Bool), ev1 t l f n x p = p' → b = nI (bnum p') → p'.length ≤ 30 → hgt (ts.drop (k + 1)) p'.length = some 1 → (∃ k', k' ≤ ts.length ∧ b = nI (bnum (ev t l f n (ts.take k') [])) ∧ (ev t l f n (ts.take k') []).length ≤ 30 ∧ hgt (ts.drop k') (ev t l f n (ts.take k') []).length = some 1 ∧ nI (from_ + k) + 1 = nI (from_ + k') ∧ N = N) ∧ from_ + ts.length - (nI (from_ + k) + 1).toNatClampNeg < from_ + ts.length - (nI (from_ + k)).toNatClampNeg := by
      intro b p' e1 e2 e3 e4
      refine ⟨⟨k + 1, hkl, by rw [ht, e1]; exact e2, by rw [ht, e1]; exact e3, by rw [ht, e1]; exact e4, by rw [nI_1]; rfl, rfl⟩, ?_⟩
      rw [nI_1, nI_clamp (by omega), nI_clamp (by omega)]; omega
    by_cases c3 : x = -3
    · subst c3
      obtain ⟨g1, g2⟩ := hgt_3 hh (by decide)
      rw [if_pos (by decide)]
      cases p with
      | nil => exact absurd g1 (by show ¬ 1 ≤ 0; omega)
      | cons b r => exact up _ ((!b) :: r) (by unfold ev1; rw [if_pos rfl]; rfl) (bn_not b r) hl g2
    by_cases c1 : x = -1
    · subst c1
      obtain ⟨g1, g2⟩ := hgt_b hh (by decide) (by omega)
      rw [if_neg (by decide), if_pos (by decide)]
      cases p with
      | nil => exact absurd g1 (by show ¬ 2 ≤ 0; omega)
      | cons b r =>
        cases r with
        | nil => exact absurd g1 (by show ¬ 2 ≤ 1; omega)
        | cons a r => exact up _ ((a && b) :: r) (by unfold ev1; rw [if_neg (by decide), if_pos rfl]; rfl) (bn_and b a r (by omega)) (by simp only [List.length_cons] at *; omega) g2
    by_cases c2 : x = -2
    · subst c2
      obtain ⟨g1, g2⟩ := hgt_b hh (by decide) (by omega)
      rw [if_neg (by decide), if_neg (by decide), if_pos (by decide)]
      cases p with
      | nil => exact absurd g1 (by show ¬ 2 ≤ 0; omega)
      | cons b r =>
        cases r with
        | nil => exact absurd g1 (by show ¬ 2 ≤ 1; omega)
        | cons a r => exact up _ ((a || b) :: r) (by unfold ev1; rw [if_neg (by decide), if_neg (by decide), if_pos rfl]; rfl) (bn_or b a r (by omega)) (by simp only [List.length_cons] at *; omega) g2
    obtain ⟨g1, g2⟩ := hgt_p hh (by decide) (by omega)
    obtain ⟨y, rfl⟩ : ∃ y : Nat, x = (y : Int) := ⟨x.toNat, by omega⟩
    have ey : Int32.ofInt (y : Int) = nI y := rfl
    have hy : y < 1200 := by omega
    have ne : ∀ z : Int32, z.toInt < 0 → ¬ nI y = z := fun z hz e => by
      have := nI_toInt (n := y) (by omega)
      rw [e] at this; omega
    rw [ey, if_neg (ne _ (by decide)), if_neg (ne _ (by decide)), if_neg (ne _ (by decide))]
    refine ⟨by decide, by decide, by decide, ?_⟩
    rw [show (300 : Int32) = nI 300 from rfl, show (100 : Int32) = nI 100 from rfl, show (3 : Int32) = nI 3 from rfl, pk_div (by omega) (by omega) (by omega), pk_div (by omega) (by omega) (by omega), pk_rem (by omega) (by omega) (by omega)]
    have J129 : ∀ a : Nat, a < 2 ^ 31 → a = tva t l f n y → f_X10_holds_J129 w (nI from_) (nI (from_ + ts.length)) (nI t) (nI l) (nI f) (nI n) (nI (bnum p)) (nI (from_ + k)) (nI y) (nI (y / 100 % 3)) (nI a) N (fun z' => (∃ k', k' ≤ ts.length ∧ z'.1 = nI (bnum (ev t l f n (ts.take k') [])) ∧ (ev t l f n (ts.take k') []).length ≤ 30 ∧ hgt (ts.drop k') (ev t l f n (ts.take k') []).length = some 1 ∧ z'.2.1 = nI (from_ + k') ∧ z'.2.2 = N) ∧ from_ + ts.length - z'.2.1.toNatClampNeg < from_ + ts.length - (nI (from_ + k)).toNatClampNeg) Q := by
      intro a ha ea
      unfold f_X10_holds_J129 f_X10_holds_J155 f_X10_holds_J158
      refine ⟨by decide, ?_⟩
      rw [show (100 : Int32) = nI 100 from rfl, pk_rem (by omega) (by omega) (by omega)]
      refine tst_c ha ?_
      have e1 : ev1 t l f n (y : Int) p = tsv a y :: p := by
        unfold ev1
        rw [if_neg (by omega), if_neg (by omega), if_neg (by omega), ea]; rfl
      have bp := bn_put (tsv a y) p hb
      have fin := up _ (tsv a y :: p) e1 bp (by simp only [List.length_cons]; omega) g2
      by_cases cc : tsv a y = true
      · rw [if_pos cc]; rw [if_pos cc] at fin; exact fin
      · rw [if_neg cc]; rw [if_neg cc] at fin; exact fin
    have tv0 := J129 (tva t l f n y)
    unfold tva at tv0
    by_cases d0 : y / 300 = 0
    · rw [if_pos (by rw [d0]; rfl)]
      exact J129 t h1 (by unfold tva; rw [if_pos d0])
    rw [if_neg (nn_0 d0 (by omega))]
    by_cases d1 : y / 300 = 1
    · rw [if_pos (by rw [d1]; rfl)]
      exact J129 l h2 (by unfold tva; rw [if_neg d0, if_pos d1])
    rw [if_neg (nn_1 d1 (by omega))]
    by_cases d2 : y / 300 = 2
    · rw [if_pos (by rw [d2]; rfl)]
      exact J129 f h3 (by unfold tva; rw [if_neg d0, if_neg d1, if_pos d2])
    rw [if_neg (nn_2 d2 (by omega))]
    exact J129 n h4 (by unfold tva; rw [if_neg d0, if_neg d1, if_neg d2])
  · obtain rfl : k = ts.length := by omega
    rw [if_pos (nI_le (Nat.le_refl _) (by omega))]
    rw [List.take_length] at *
    unfold hld at q
    by_cases c : (ev t l f n ts []).headD false = true
    · rw [if_pos ((bn_top _).mpr c)]; rw [c] at q; exact q
    · rw [if_neg (fun e => c ((bn_top _).mp e))]
      rw [Bool.eq_false_iff.mpr c] at q; exact q
