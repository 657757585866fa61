/-! ===== longs that are numbers; the lowest terms ===== -/
def lL (n : Nat) : Int64 := Int64.ofNat n
theorem lL_add (a b : Nat) : lL a + lL b = lL (a + b) := (Int64.ofNat_add a b).symm
theorem lL_mul (a b : Nat) : lL a * lL b = lL (a * b) := (Int64.ofNat_mul a b).symm
theorem lL_sub {a b : Nat} (h : b ≤ a) : lL a - lL b = lL (a - b) := (Int64.ofNat_sub a b h).symm
theorem lL_toInt {n : Nat} (h : n < 2 ^ 63) : (lL n).toInt = (n : Int) := Int64.toInt_ofNat_of_lt h
theorem lL_div {a b : Nat} (ha : a < 2 ^ 63) (hb : b < 2 ^ 63) : lL a / lL b = lL (a / b) := (Int64.ofNat_div ha hb).symm
theorem lL_inj {a b : Nat} (ha : a < 2 ^ 63) (hb : b < 2 ^ 63) : lL a = lL b ↔ a = b := by
  constructor
  · intro h
    have := congrArg Int64.toInt h
    rw [lL_toInt ha, lL_toInt hb] at this; omega
  · intro h; rw [h]
theorem lL_0 {a : Nat} (ha : a < 2 ^ 63) : lg_cmp (lL a) 0 = 0 ↔ a = 0 := by
  rw [lgc_eq]; exact lL_inj (b := 0) ha (by omega)
theorem lL_of {a : Nat} (h : a < 2 ^ 31) : (nI a).toInt64 = lL a := by
  apply Int64.toInt_inj.mp
  rw [Int32.toInt_toInt64, nI_toInt h, lL_toInt (by omega)]
theorem lL_mod {a b : Nat} (ha : a < 2 ^ 63) (hb : b < 2 ^ 63) : lL a - lL a / lL b * lL b = lL (a % b) := by
  have h : a / b * b ≤ a := Nat.div_mul_le_self a b
  rw [lL_div ha hb, lL_mul, lL_sub h]
  congr 1
  have := Nat.div_add_mod a b
  rw [Nat.mul_comm] at this
  omega
/-- a part of the fraction: halved, and cut to fifths, six times -/
def r2_ (z : Nat × Nat) : Nat × Nat := if z.1 % 2 = 0 ∧ z.2 % 2 = 0 then (z.1 / 2, z.2 / 2) else z
def r5_ (z : Nat × Nat) : Nat × Nat := if z.1 % 5 = 0 ∧ z.2 % 5 = 0 then (z.1 / 5, z.2 / 5) else z
def rdN : Nat → Nat × Nat → Nat × Nat
  | 0, z => z
  | k + 1, z => r5_ (r2_ (rdN k z))
theorem r2_le (z : Nat × Nat) : (r2_ z).1 ≤ z.1 ∧ (r2_ z).2 ≤ z.2 := by
  unfold r2_; split
  · exact ⟨Nat.div_le_self .., Nat.div_le_self ..⟩
  · exact ⟨Nat.le_refl _, Nat.le_refl _⟩
theorem r5_le (z : Nat × Nat) : (r5_ z).1 ≤ z.1 ∧ (r5_ z).2 ≤ z.2 := by
  unfold r5_; split
  · exact ⟨Nat.div_le_self .., Nat.div_le_self ..⟩
  · exact ⟨Nat.le_refl _, Nat.le_refl _⟩
theorem rdN_le : ∀ (k : Nat) (z : Nat × Nat), (rdN k z).1 ≤ z.1 ∧ (rdN k z).2 ≤ z.2
  | 0, z => ⟨Nat.le_refl _, Nat.le_refl _⟩
  | k + 1, z => by
    have h := rdN_le k z
    have h2 := r2_le (rdN k z)
    have h5 := r5_le (r2_ (rdN k z))
    exact ⟨Nat.le_trans h5.1 (Nat.le_trans h2.1 h.1), Nat.le_trans h5.2 (Nat.le_trans h2.2 h.2)⟩
theorem p5_odd : ∀ j, 5 ^ j % 2 = 1
  | 0 => rfl
  | j + 1 => by rw [Nat.pow_succ, Nat.mul_mod, p5_odd j]
theorem p2_five : ∀ i, 2 ^ i % 5 ≠ 0
  | 0 => by decide
  | i + 1 => by
    have h := p2_five i
    rw [Nat.pow_succ]; omega
def rdI (A B s : Nat) (z : Nat × Nat) : Prop := ∃ c i j, 0 < c ∧ A = c * z.1 ∧ B = c * z.2 ∧ z.2 = 2 ^ i * 5 ^ j ∧ (i + s ≤ 6 ∨ z.1 % 2 ≠ 0) ∧ (j + s ≤ 6 ∨ z.1 % 5 ≠ 0)
theorem rd_s {A B s : Nat} {z : Nat × Nat} (hs : s < 6) (h : rdI A B s z) : rdI A B (s + 1) (r5_ (r2_ z)) := by
  obtain ⟨a, b⟩ := z
  obtain ⟨c, i, j, hc, hA, hB, hb, h2, h5⟩ := h
  have hA : A = c * a := hA
  have hB : B = c * b := hB
  have hb : b = 2 ^ i * 5 ^ j := hb
  have h2 : i + s ≤ 6 ∨ a % 2 ≠ 0 := h2
  have h5 : j + s ≤ 6 ∨ a % 5 ≠ 0 := h5
  have st2 : ∃ c i a' b', r2_ (a, b) = (a', b') ∧ 0 < c ∧ A = c * a' ∧ B = c * b' ∧ b' = 2 ^ i * 5 ^ j ∧ (i + (s + 1) ≤ 6 ∨ a' % 2 ≠ 0) ∧ (j + s ≤ 6 ∨ a' % 5 ≠ 0) := by
    unfold r2_
    by_cases c2 : a % 2 = 0 ∧ b % 2 = 0
    · rw [if_pos c2]
      cases i with
      | zero =>
        rw [hb, Nat.pow_zero, Nat.one_mul, p5_odd] at c2
        exact absurd c2.2 (by decide)
      | succ i =>
        obtain ⟨a', ha'⟩ : ∃ a', a = 2 * a' := ⟨a / 2, by omega⟩
        have hb' : b = 2 * (2 ^ i * 5 ^ j) := by rw [hb, Nat.pow_succ, Nat.mul_comm (2 ^ i) 2, Nat.mul_assoc]
        refine ⟨c * 2, i, a', 2 ^ i * 5 ^ j, ?_, by omega, by rw [hA, ha', Nat.mul_assoc], by rw [hB, hb', Nat.mul_assoc], rfl, ?_, ?_⟩
        · show (a / 2, b / 2) = _
          rw [ha', hb', Nat.mul_div_cancel_left _ (by decide), Nat.mul_div_cancel_left _ (by decide)]
        · omega
        · omega
    · rw [if_neg c2]
      refine ⟨c, i, a, b, rfl, hc, hA, hB, hb, ?_, h5⟩
      by_cases ca : a % 2 = 0
      · left
        have cb : b % 2 ≠ 0 := fun e => c2 ⟨ca, e⟩
        cases i with
        | zero => omega
        | succ i =>
          exfalso
          rw [hb, Nat.pow_succ, Nat.mul_comm (2 ^ i) 2, Nat.mul_assoc] at cb
          omega
      · exact Or.inr ca
  obtain ⟨c, i, a1, b1, e1, hc, hA, hB, hb, h2, h5⟩ := st2
  rw [e1]
  unfold r5_
  by_cases c5 : a1 % 5 = 0 ∧ b1 % 5 = 0
  · have c5' : (a1, b1).1 % 5 = 0 ∧ (a1, b1).2 % 5 = 0 := c5
    rw [if_pos c5']
    cases j with
    | zero =>
      rw [hb, Nat.pow_zero, Nat.mul_one] at c5
      exact absurd c5.2 (p2_five i)
    | succ j =>
      obtain ⟨a', ha'⟩ : ∃ a', a1 = 5 * a' := ⟨a1 / 5, by omega⟩
      have hb' : b1 = 5 * (2 ^ i * 5 ^ j) := by rw [hb, Nat.pow_succ, ← Nat.mul_assoc, Nat.mul_comm]
      have e2 : ((a1, b1).1 / 5, (a1, b1).2 / 5) = (a', 2 ^ i * 5 ^ j) := by
        show (a1 / 5, b1 / 5) = _
        rw [ha', hb', Nat.mul_div_cancel_left _ (by decide), Nat.mul_div_cancel_left _ (by decide)]
      rw [e2]
      refine ⟨c * 5, i, j, by omega, ?_, ?_, rfl, ?_, ?_⟩
      · show A = c * 5 * a'
        rw [hA, ha', Nat.mul_assoc]
      · show B = c * 5 * (2 ^ i * 5 ^ j)
        rw [hB, hb', Nat.mul_assoc]
      · show i + (s + 1) ≤ 6 ∨ a' % 2 ≠ 0
        omega
      · show j + (s + 1) ≤ 6 ∨ a' % 5 ≠ 0
        omega
  · have c5' : ¬ ((a1, b1).1 % 5 = 0 ∧ (a1, b1).2 % 5 = 0) := c5
    rw [if_neg c5']
    refine ⟨c, i, j, hc, hA, hB, hb, h2, ?_⟩
    show j + (s + 1) ≤ 6 ∨ a1 % 5 ≠ 0
    by_cases ca : a1 % 5 = 0
    · left
      have cb : b1 % 5 ≠ 0 := fun e => c5 ⟨ca, e⟩
      cases j with
      | zero => omega
      | succ j =>
        exfalso
        rw [hb, Nat.pow_succ, ← Nat.mul_assoc, Nat.mul_comm] at cb
        omega
    · exact Or.inr ca
theorem rdN_I {A h : Nat} (hh : h ≤ 6) : ∀ s, s ≤ 6 → rdI A (10 ^ h) s (rdN s (A, 10 ^ h))
  | 0, _ => by
    refine ⟨1, h, h, by decide, ?_, ?_, ?_, Or.inl (by omega), Or.inl (by omega)⟩
    · show A = 1 * A; omega
    · show 10 ^ h = 1 * 10 ^ h; omega
    · show 10 ^ h = 2 ^ h * 5 ^ h
      rw [← Nat.mul_pow]
  | s + 1, hs => rd_s (by omega) (rdN_I hh s (by omega))
theorem cop2 {a : Nat} (h : a % 2 ≠ 0) : Nat.Coprime a 2 := by
  unfold Nat.Coprime
  have e : a % 2 = 1 := by omega
  rw [Nat.gcd_comm, Nat.gcd_rec, e]
  first | rfl | decide
theorem cop5 {a : Nat} (h : a % 5 ≠ 0) : Nat.Coprime a 5 := by
  unfold Nat.Coprime
  have e : a % 5 = 1 ∨ a % 5 = 2 ∨ a % 5 = 3 ∨ a % 5 = 4 := by omega
  rw [Nat.gcd_comm, Nat.gcd_rec]
  rcases e with e | e | e | e <;> (rw [e]; first | rfl | decide)
theorem rd_end {A h : Nat} (hh : h ≤ 6) : rdN 6 (A, 10 ^ h) = (A / Nat.gcd A (10 ^ h), 10 ^ h / Nat.gcd A (10 ^ h)) := by
  obtain ⟨c, i, j, hc, hA, hB, hb, h2, h5⟩ := rdN_I (A := A) hh 6 (Nat.le_refl _)
  generalize rdN 6 (A, 10 ^ h) = z at *
  obtain ⟨a, b⟩ := z
  have hA : A = c * a := hA
  have hB : 10 ^ h = c * b := hB
  have hb : b = 2 ^ i * 5 ^ j := hb
  have h2 : i + 6 ≤ 6 ∨ a % 2 ≠ 0 := h2
  have h5 : j + 6 ≤ 6 ∨ a % 5 ≠ 0 := h5
  have k2 : Nat.Coprime a (2 ^ i) := by
    rcases h2 with h2 | h2
    · have : i = 0 := by omega
      rw [this, Nat.pow_zero]; exact Nat.gcd_one_right a
    · exact Nat.Coprime.pow_right i (cop2 h2)
  have k5 : Nat.Coprime a (5 ^ j) := by
    rcases h5 with h5 | h5
    · have : j = 0 := by omega
      rw [this, Nat.pow_zero]; exact Nat.gcd_one_right a
    · exact Nat.Coprime.pow_right j (cop5 h5)
  have k : Nat.gcd a b = 1 := by rw [hb]; exact Nat.Coprime.mul_right k2 k5
  have g : Nat.gcd A (10 ^ h) = c := by rw [hA, hB, Nat.gcd_mul_left, k, Nat.mul_one]
  rw [g, hA, hB, Nat.mul_div_cancel_left _ hc, Nat.mul_div_cancel_left _ hc]
theorem reduced_c {a b h : Nat} {x4 : Int32} {M : Mem} {Q : Int64 → Mem → Prop} (ha : a < 2 ^ 63) (hb : b < 2 ^ 63) (q : Q (if x4 = 0 then lL (rdN 6 (a, b)).1 else lL (rdN 6 (a, b)).2) M) : f_X11_reduced (lL a) (lL b) x4 M Q := by
  unfold f_X11_reduced f_X11_reduced_L3
  refine ⟨fun z => ∃ k, k ≤ 6 ∧ z = (lL (rdN k (a, b)).1, lL (rdN k (a, b)).2, nI k, M), fun z => 6 - z.2.2.1.toNatClampNeg, ⟨0, by omega, rfl⟩, ?_⟩
  rintro z ⟨k, hk, rfl⟩
  have hle := rdN_le k (a, b)
  have hs : rdN (k + 1) (a, b) = r5_ (r2_ (rdN k (a, b))) := rfl
  have r5l := r2_le (rdN k (a, b))
  generalize hz : rdN k (a, b) = z at *
  obtain ⟨u, v⟩ := z
  have hu : u ≤ a := hle.1
  have hv : v ≤ b := hle.2
  show f_X11_reduced_B3 x4 (lL u) (lL v) (nI k) M _ Q
  unfold f_X11_reduced_B3 f_X11_reduced_J42 f_X11_reduced_J74
  by_cases h6 : k < 6
  case neg =>
    obtain rfl : k = 6 := by omega
    rw [if_pos (show (6 : Int32) ≤ nI 6 by decide)]
    rw [hz] at q
    by_cases c : x4 = 0
    · rw [if_pos c] at q ⊢; exact q
    · rw [if_neg c] at q ⊢; exact q
  rw [if_neg (show ¬ (6 : Int32) ≤ nI k from nI_ge (b := 6) h6 (by omega))]
  have n2 : ¬ (2 : Int64) = 0 := by decide
  have n5 : ¬ (5 : Int64) = 0 := by decide
  have m2 : ∀ y : Nat, y < 2 ^ 63 → lL y - lL y / (2 : Int64) * (2 : Int64) = lL (y % 2) := fun y hy => lL_mod (b := 2) hy (by omega)
  have m5 : ∀ y : Nat, y < 2 ^ 63 → lL y - lL y / (5 : Int64) * (5 : Int64) = lL (y % 5) := fun y hy => lL_mod (b := 5) hy (by omega)
  have d2 : ∀ y : Nat, y < 2 ^ 63 → lL y / (2 : Int64) = lL (y / 2) := fun y hy => lL_div (b := 2) hy (by omega)
  have d5 : ∀ y : Nat, y < 2 ^ 63 → lL y / (5 : Int64) = lL (y / 5) := fun y hy => lL_div (b := 5) hy (by omega)
  have nx : ∀ p, p = rdN (k + 1) (a, b) → (∃ k', k' ≤ 6 ∧ ((lL p.1, lL p.2, nI k + 1, M) : Int64 × Int64 × Int32 × Mem) = (lL (rdN k' (a, b)).1, lL (rdN k' (a, b)).2, nI k', M)) ∧ 6 - (nI k + 1).toNatClampNeg < 6 - (nI k).toNatClampNeg := by
    rintro p rfl
    refine ⟨⟨k + 1, h6, by rw [nI_1]⟩, ?_⟩
    rw [nI_1, nI_clamp (by omega), nI_clamp (by omega)]; omega
  have J42 : ∀ u' v' : Nat, u' < 2 ^ 63 → v' < 2 ^ 63 → r2_ (u, v) = (u', v') → (¬ (5 : Int64) = 0 ∧ (if (lg_cmp (lL u' - lL u' / (5 : Int64) * (5 : Int64)) (0 : Int64)) = 0 then (¬ (5 : Int64) = 0 ∧ (if (lg_cmp (lL v' - lL v' / (5 : Int64) * (5 : Int64)) (0 : Int64)) = 0 then (¬ (5 : Int64) = 0 ∧ (¬ (5 : Int64) = 0 ∧ (fun z' : Int64 × Int64 × Int32 × Mem => (∃ k', k' ≤ 6 ∧ z' = (lL (rdN k' (a, b)).1, lL (rdN k' (a, b)).2, nI k', M)) ∧ 6 - z'.2.2.1.toNatClampNeg < 6 - (nI k).toNatClampNeg) (lL u' / (5 : Int64), lL v' / (5 : Int64), nI k + 1, M))) else (fun z' : Int64 × Int64 × Int32 × Mem => (∃ k', k' ≤ 6 ∧ z' = (lL (rdN k' (a, b)).1, lL (rdN k' (a, b)).2, nI k', M)) ∧ 6 - z'.2.2.1.toNatClampNeg < 6 - (nI k).toNatClampNeg) (lL u', lL v', nI k + 1, M))) else (fun z' : Int64 × Int64 × Int32 × Mem => (∃ k', k' ≤ 6 ∧ z' = (lL (rdN k' (a, b)).1, lL (rdN k' (a, b)).2, nI k', M)) ∧ 6 - z'.2.2.1.toNatClampNeg < 6 - (nI k).toNatClampNeg) (lL u', lL v', nI k + 1, M))) := by
    intro u' v' hu' hv' e
    have hp : rdN (k + 1) (a, b) = r5_ (u', v') := by rw [hs, e]
    unfold r5_ at hp
    rw [m5 _ hu', m5 _ hv', d5 _ hu', d5 _ hv']
    refine ⟨n5, ?_⟩
    by_cases c1 : u' % 5 = 0
    · rw [if_pos ((lL_0 (by omega)).mpr c1)]
      refine ⟨n5, ?_⟩
      by_cases c2 : v' % 5 = 0
      · rw [if_pos ((lL_0 (by omega)).mpr c2)]
        refine ⟨n5, n5, ?_⟩
        exact nx (u' / 5, v' / 5) (by rw [hp, if_pos (show (u', v').1 % 5 = 0 ∧ (u', v').2 % 5 = 0 from ⟨c1, c2⟩)])
      · rw [if_neg (fun z => c2 ((lL_0 (by omega)).mp z))]
        exact nx (u', v') (by rw [hp, if_neg (show ¬ ((u', v').1 % 5 = 0 ∧ (u', v').2 % 5 = 0) from fun z => c2 z.2)])
    · rw [if_neg (fun z => c1 ((lL_0 (by omega)).mp z))]
      exact nx (u', v') (by rw [hp, if_neg (show ¬ ((u', v').1 % 5 = 0 ∧ (u', v').2 % 5 = 0) from fun z => c1 z.1)])
  rw [m2 u (by omega), m2 v (by omega), d2 u (by omega), d2 v (by omega)]
  refine ⟨n2, ?_⟩
  by_cases c1 : u % 2 = 0
  · rw [if_pos ((lL_0 (by omega)).mpr c1)]
    refine ⟨n2, ?_⟩
    by_cases c2 : v % 2 = 0
    · rw [if_pos ((lL_0 (by omega)).mpr c2)]
      refine ⟨n2, n2, ?_⟩
      exact J42 (u / 2) (v / 2) (by omega) (by omega) (if_pos ⟨c1, c2⟩)
    · rw [if_neg (fun z => c2 ((lL_0 (by omega)).mp z))]
      exact J42 u v (by omega) (by omega) (if_neg (fun z => c2 z.2))
  · rw [if_neg (fun z => c1 ((lL_0 (by omega)).mp z))]
    exact J42 u v (by omega) (by omega) (if_neg (fun z => c1 z.1))
theorem divisor_m {a b : Nat} {M : Mem} {Q : Int64 → Mem → Prop} (ha : a < 2 ^ 63) (hb : b < 2 ^ 63) (q : Q (lL (Nat.gcd a b)) M) : f_X12_divisor 76 (lL a) (lL b) M Q := by
  unfold f_X12_divisor f_X12_divisor_L6
  refine ⟨fun z => ∃ u v, u < 2 ^ 63 ∧ v < 2 ^ 63 ∧ z = (lL u, lL v, M) ∧ Nat.gcd u v = Nat.gcd a b, fun z => z.2.1.toInt.toNat, ⟨a, b, ha, hb, rfl, rfl⟩, ?_⟩
  rintro z ⟨u, v, hu, hv, rfl, hg⟩
  show f_X12_divisor_B6 76 (lL a) (lL b) (lL u) (lL v) M _ Q
  unfold f_X12_divisor_B6
  by_cases c : v = 0
  · rw [if_pos ((lL_0 hv).mpr c)]
    rw [c, Nat.gcd_zero_right] at hg
    rw [hg]; exact q
  · rw [if_neg (fun z => c ((lL_0 hv).mp z))]
    refine ⟨fun e => c ((lL_inj (b := 0) hv (by omega)).mp e), ?_⟩
    rw [lL_mod hu hv]
    have hlt : u % v < v := Nat.mod_lt _ (by omega)
    refine ⟨⟨v, u % v, hv, by omega, rfl, ?_⟩, ?_⟩
    · rw [← hg, Nat.gcd_comm v, ← Nat.gcd_rec, Nat.gcd_comm]
    · show (lL (u % v)).toInt.toNat < (lL v).toInt.toNat
      rw [lL_toInt (by omega), lL_toInt hv]; omega
theorem bit6 : ∀ n, n < 64 → ∀ k, k < 6 → ((((nI n >>> (nI k &&& 31)) &&& (1 : Int32)) = 1) ↔ n.testBit k = true) := by decide +kernel
theorem shl6 : ∀ k, k < 7 → (1 : Int32) <<< (nI k &&& 31) = nI (2 ^ k) := by decide +kernel
