/-! ===== mean ===== -/
theorem hfl_app (mk : Nat → Bool) : ∀ (j : Nat) (l : List (Nat × Nat)) (x : Nat × Nat), hfl mk j (l ++ [x]) = if mk (j + l.length) = true then hfl mk j l else hfl mk j l ++ [x]
  | j, [], x => by
    show (if mk j = true then hfl mk (j + 1) [] else x :: hfl mk (j + 1) []) = _
    rfl
  | j, a :: r, x => by
    have h := hfl_app mk (j + 1) r x
    show (if mk j = true then hfl mk (j + 1) (r ++ [x]) else a :: hfl mk (j + 1) (r ++ [x])) = if mk (j + (r.length + 1)) = true then (if mk j = true then hfl mk (j + 1) r else a :: hfl mk (j + 1) r) else (if mk j = true then hfl mk (j + 1) r else a :: hfl mk (j + 1) r) ++ [x]
    rw [h, show j + 1 + r.length = j + (r.length + 1) by omega]
    by_cases c : mk (j + (r.length + 1)) = true
    · rw [if_pos c, if_pos c]
    · rw [if_neg c, if_neg c]
      by_cases d : mk j = true
      · rw [if_pos d, if_pos d]
      · rw [if_neg d, if_neg d]; rfl
theorem hfl_sub (mk : Nat → Bool) : ∀ (j : Nat) (l : List (Nat × Nat)), (hfl mk j l).length ≤ l.length ∧ ∀ x, x ∈ hfl mk j l → x ∈ l
  | _, [] => ⟨Nat.le_refl _, fun x h => h⟩
  | j, a :: r => by
    have h := hfl_sub mk (j + 1) r
    show (if mk j = true then hfl mk (j + 1) r else a :: hfl mk (j + 1) r).length ≤ r.length + 1 ∧ ∀ x, x ∈ (if mk j = true then hfl mk (j + 1) r else a :: hfl mk (j + 1) r) → x ∈ a :: r
    by_cases d : mk j = true
    · rw [if_pos d]; exact ⟨by omega, fun x hx => List.mem_cons_of_mem _ (h.2 x hx)⟩
    · rw [if_neg d]
      refine ⟨by show (hfl mk (j + 1) r).length + 1 ≤ _; omega, fun x hx => ?_⟩
      rcases List.mem_cons.mp hx with hx | hx
      · rw [hx]; exact List.mem_cons_self ..
      · exact List.mem_cons_of_mem _ (h.2 x hx)
theorem hfl_ext {m1 m2 : Nat → Bool} : ∀ (j : Nat) (l : List (Nat × Nat)), (∀ k, j ≤ k → k < j + l.length → m1 k = m2 k) → hfl m1 j l = hfl m2 j l
  | _, [], _ => rfl
  | j, a :: r, h => by
    show (if m1 j = true then hfl m1 (j + 1) r else a :: hfl m1 (j + 1) r) = (if m2 j = true then hfl m2 (j + 1) r else a :: hfl m2 (j + 1) r)
    have hl : (a :: r).length = r.length + 1 := rfl
    rw [h j (Nat.le_refl _) (by omega), hfl_ext (j + 1) r (fun k h1 h2 => h k (by omega) (by omega))]
theorem hnd_s (M : Mem) (k : Nat) : hnd M (k + 1) = hnd M k ++ [((mI M 19 k).toNatClampNeg, (mI M 20 k).toNatClampNeg)] := by
  unfold hnd; rw [List.range_succ, List.map_append]; rfl
/-- the odds of the k-th one told by hand; the weight of those who come by b; the weighed loss -/
def odN (M : Mem) (k : Nat) : Nat := (mI M 18 (mI M 19 k).toNatClampNeg).toNatClampNeg
def wgN (M : Mem) (b : Nat → Bool) : Nat → Nat
  | 0 => 1
  | k + 1 => wgN M b k * (if b k = true then odN M k else 10 - odN M k)
def mnS (M : Mem) (X : Nat → Nat → Nat) (cl : List Cl) (ns nh : Nat) (b : Nat → Bool) : HS := hPs X cl ns (hfl (fun k => !(b k)) 0 (hnd M nh))
def mnT (M : Mem) (X : Nat → Nat → Nat) (cl : List Cl) (ns nh : Nat) (b : Nat → Bool) : Nat := wgN M b nh * aLo X (mnS M X cl ns nh b)
theorem wgN_ext {M : Mem} {b c : Nat → Bool} : ∀ {n : Nat}, (∀ k, k < n → b k = c k) → wgN M b n = wgN M c n
  | 0, _ => rfl
  | n + 1, h => by
    show wgN M b n * _ = wgN M c n * _
    rw [wgN_ext (fun k hk => h k (by omega)), h n (by omega)]
theorem mnT_ext {M : Mem} {X : Nat → Nat → Nat} {cl : List Cl} {ns nh : Nat} {b c : Nat → Bool} (h : ∀ k, k < nh → b k = c k) : mnT M X cl ns nh b = mnT M X cl ns nh c := by
  unfold mnT mnS
  rw [wgN_ext h, hfl_ext (m1 := fun k => !(b k)) (m2 := fun k => !(c k)) 0 (hnd M nh) (fun k _ hk => by rw [hnd_len] at hk; show (!(b k)) = !(c k); rw [h k (by omega)])]
theorem sm_front (g : Nat → Nat) : ∀ n, sm g (n + 1) = g 0 + sm (fun k => g (k + 1)) n
  | 0 => by show 0 + g 0 = g 0 + 0; omega
  | n + 1 => by
    show sm g (n + 1) + g (n + 1) = g 0 + (sm (fun k => g (k + 1)) n + g (n + 1))
    rw [sm_front g n]; omega
theorem sm_rev (g : Nat → Nat) : ∀ n, sm (fun k => g (n - (k + 1))) n = sm g n
  | 0 => rfl
  | n + 1 => by
    rw [sm_front]
    show g (n + 1 - (0 + 1)) + sm (fun k => g (n + 1 - (k + 1 + 1))) n = sm g n + g n
    have e : sm (fun k => g (n + 1 - (k + 1 + 1))) n = sm (fun k => g (n - (k + 1))) n := sm_ext fun k _ => by rw [show n + 1 - (k + 1 + 1) = n - (k + 1) by omega]
    rw [e, sm_rev g n, show n + 1 - (0 + 1) = n by omega]; omega
theorem mn_eq (M : Mem) (X : Nat → Nat → Nat) (cl : List Cl) (ns nh : Nat) : sm (fun n => mnT M X cl ns nh (fun k => !(n.testBit k))) (2 ^ nh) = sm (fun n => mnT M X cl ns nh (fun k => n.testBit k)) (2 ^ nh) := by
  rw [← sm_rev (fun n => mnT M X cl ns nh (fun k => n.testBit k)) (2 ^ nh)]
  refine sm_ext fun n hn => mnT_ext fun k hk => ?_
  rw [Nat.testBit_two_pow_sub_succ hn]
  rw [decide_eq_true hk, Bool.true_and]
/-- what the mean asks of the memory -/
def mnC (M : Mem) (ns nh : Nat) : Prop := nh ≤ 6 ∧ iH M ns nh ∧ iQ M ns ∧ ns ≤ 6
theorem odN_b {M : Mem} {ns nh k : Nat} (h : mnC M ns nh) (hk : k < nh) : odN M k ≤ 10 ∧ mI M 18 (mI M 19 k).toNatClampNeg = nI (odN M k) := by
  obtain ⟨n1, n2, n3, n4⟩ := hnd_n h.2.1 hk
  have h2 := (h.2.2.1 _ n3).2
  have h3 := rg_n h2 (by omega)
  unfold rg at h2
  unfold odN
  exact ⟨by omega, h3.1⟩
theorem wgN_le {M : Mem} {ns nh : Nat} (h : mnC M ns nh) (b : Nat → Bool) : ∀ k, k ≤ nh → wgN M b k ≤ 10 ^ k
  | 0, _ => Nat.le_refl _
  | k + 1, hk => by
    have h1 := wgN_le h b k (by omega)
    have h2 := (odN_b h (k := k) (by omega)).1
    show wgN M b k * _ ≤ 10 ^ k * 10
    exact Nat.mul_le_mul h1 (by split <;> omega)
theorem wgN_6 {M : Mem} {ns nh k : Nat} (h : mnC M ns nh) (b : Nat → Bool) (hk : k ≤ nh) : wgN M b k ≤ 1000000 := by
  have h1 := wgN_le h b k hk
  have h2 : 10 ^ k ≤ 10 ^ 6 := Nat.pow_le_pow_right (by decide) (by have := h.1; omega)
  have h3 : 10 ^ 6 = 1000000 := by decide
  omega
theorem sub_d {M0 M : Mem} {ns nh d k : Nat} {mk : Nat → Bool} (hd : isDay d) (h : mnC M0 ns nh) (hk : k ≤ nh) (e4 : mI M d 4 = nI (hfl mk 0 (hnd M0 k)).length) (e : ∀ j x, (hfl mk 0 (hnd M0 k))[j]? = some x → mI M (d + 2) j = nI x.1 ∧ mI M (d + 3) j = nI x.2) : dC (hfl mk 0 (hnd M0 k)) ns d M := by
  have hs := hfl_sub mk 0 (hnd M0 k)
  rw [hnd_len] at hs
  have := h.1
  refine ⟨hd, by omega, e4, fun j x hx => ⟨e j x hx, ?_⟩⟩
  obtain ⟨i, hi⟩ := List.mem_iff_getElem?.mp (hs.2 x (List.mem_of_getElem? hx))
  obtain ⟨i1, rfl⟩ := hnd_at hi
  obtain ⟨n1, n2, n3, n4⟩ := hnd_n h.2.1 (by omega : i < nh)
  exact ⟨n3, n4⟩
theorem chance_c {M0 M : Mem} {ns nt nw no nh n : Nat} {cls : Nat → List Cl} {th : Option Nat} {oa kd vv : Nat → Nat} {Q : Int64 → Mem → Prop} (J : Jn M0 ns nt nw no nh cls th oa kd vv) (f : AF nh M0 M) (h6 : nh ≤ 6) (hn : n < 2 ^ nh) (q : ∀ M1, AF nh M0 M1 → dC (hfl (fun k => !(n.testBit k)) 0 (hnd M0 nh)) ns 25 M1 → Q (lL (wgN M0 (fun k => n.testBit k) nh)) M1) : f_X11_chance 0 (nI n) M Q := by
  have hC : mnC M0 ns nh := ⟨h6, J.2.2.2.2.1, J.2.2.1, J.2.1.1⟩
  have hH := J.2.2.2.2.1
  have J1 := J.af f
  have hG := J1.1
  have n64 : n < 64 := by
    have : 2 ^ nh ≤ 2 ^ 6 := Nat.pow_le_pow_right (by decide) h6
    have : 2 ^ 6 = 64 := by decide
    omega
  unfold f_X11_chance
  refine ⟨oQ hG, 25, mP_g hG rfl, day_o hG (Or.inr (Or.inr rfl)), ?_⟩
  intro M2 hE
  have f2 : AF nh M0 M2 := f.day (by rw [hE]; exact Sm.rf M) (fun a j c => by rw [hE, mI_ne _ _ (by omega)])
  have z2 : mI M2 25 4 = nI 0 := by rw [hE, mI_sI_s]; rfl
  clear hE
  unfold f_X11_chance_L13
  refine ⟨fun z => ∃ k N, k ≤ nh ∧ z = (lL (wgN M0 (fun k => n.testBit k) k), nI k, N) ∧ AF nh M0 N ∧ mI N 25 4 = nI (hfl (fun k => !(n.testBit k)) 0 (hnd M0 k)).length ∧ ∀ j x, (hfl (fun k => !(n.testBit k)) 0 (hnd M0 k))[j]? = some x → mI N (25 + 2) j = nI x.1 ∧ mI N (25 + 3) j = nI x.2, fun z => nh - z.2.1.toNatClampNeg, ⟨0, M2, by omega, rfl, f2, z2, fun j x hx => ?_⟩, ?_⟩
  · have hx : ([] : List (Nat × Nat))[j]? = some x := hx
    simp at hx
  rintro z ⟨k, N, hk, rfl, fN, e4, eI⟩
  have J3 := J.af fN
  have hG3 := J3.1
  have iH3 : iH N ns nh := J3.2.2.2.2.1
  show f_X11_chance_B13 0 (nI n) (lL (wgN M0 (fun k => n.testBit k) k)) (nI k) N _ Q
  unfold f_X11_chance_B13 f_X11_chance_J100
  refine ⟨oQ hG3, 17, mP_g hG3 rfl, day_o hG3 (Or.inl rfl), ?_⟩
  rw [iH3.2.1]
  by_cases hkn : k < nh
  case neg =>
    obtain rfl : k = nh := by omega
    rw [if_pos (nI_le (Nat.le_refl _) (by omega))]
    exact q N fN (sub_d (Or.inr (Or.inr rfl)) hC (Nat.le_refl _) e4 eI)
  rw [if_neg (nI_ge hkn (by omega))]
  obtain ⟨n1, n2, n3, n4⟩ := hnd_n hH hkn
  obtain ⟨o1, o2⟩ := odN_b hC hkn
  have ns6 := J.2.1.1
  have vk : vp_in (nI k) 12 := vpN (by omega) (by omega)
  have ek : (nI k).toNatClampNeg = k := nI_clamp (by omega)
  have e19 : mI N 19 k = mI M0 19 k := fN.2.2.2.2 _ _ (by omega)
  have e20 : mI N 20 k = mI M0 20 k := fN.2.2.2.2 _ _ (by omega)
  have e18 : mI N 18 (mI M0 19 k).toNatClampNeg = nI (odN M0 k) := (fN.2.2.2.2 _ _ (by omega)).trans o2
  have v19 : vp_in (mI M0 19 k) 6 := by rw [n1]; exact vpN (by omega) (by omega)
  have wl := wgN_6 hC (fun k => n.testBit k) hk
  refine ⟨19, mP_g hG3 rfl, isA_g hG3 (by decide) rfl vk, 18, mP_g hG3 rfl, ?_⟩
  rw [ek, e19, e18]
  refine ⟨isA_g hG3 (by decide) rfl v19, ?_⟩
  have ms : nh - (nI k + 1).toNatClampNeg < nh - (nI k).toNatClampNeg := by rw [nI_1, nI_clamp (by omega), nI_clamp (by omega)]; omega
  have hb := bit6 n n64 k (by omega)
  by_cases c : n.testBit k = true
  · rw [if_pos (hb.mpr c)]
    refine ⟨isA_g hG3 (by decide) rfl vk, 20, mP_g hG3 rfl, isA_g hG3 (by decide) rfl vk, 25, mP_g hG3 rfl, day_o hG3 (Or.inr (Or.inr rfl)), ?_⟩
    have hsl := (hfl_sub (fun k => !(n.testBit k)) 0 (hnd M0 k)).1
    rw [hnd_len] at hsl
    have es : hfl (fun k => !(n.testBit k)) 0 (hnd M0 (k + 1)) = hfl (fun k => !(n.testBit k)) 0 (hnd M0 k) ++ [((mI M0 19 k).toNatClampNeg, (mI M0 20 k).toNatClampNeg)] := by
      rw [hnd_s, hfl_app, hnd_len, if_neg (by rw [Nat.zero_add, c]; decide)]
    refine tell_c hG3 (Or.inr (Or.inr rfl)) e4 (by omega) fun N2 s2 c4 c2 c3 e2 => ⟨⟨k + 1, N2, hkn, ?_, fN.day s2 (fun a j c => e2 a j (by omega)), ?_, fun j x hx => ?_⟩, ms⟩
    · rw [lL_of (by omega), lL_mul, nI_1]
      have : wgN M0 (fun k => n.testBit k) (k + 1) = wgN M0 (fun k => n.testBit k) k * odN M0 k := by
        show _ * (if n.testBit k = true then _ else _) = _
        rw [if_pos c]
      rw [this]
    · rw [c4, es, List.length_append]; rfl
    · rw [es] at hx
      by_cases cj : j = (hfl (fun k => !(n.testBit k)) 0 (hnd M0 k)).length
      · subst cj
        rw [List.getElem?_append_right (Nat.le_refl _), Nat.sub_self] at hx
        injection hx with hx
        subst hx
        first | exact ⟨c2.trans n1, c3.trans n2⟩ | exact ⟨c2.trans n1, c3.trans (e20.trans n2)⟩
      · have hj := (List.getElem?_eq_some_iff.mp hx).1
        rw [List.length_append] at hj
        have hj : j < (hfl (fun k => !(n.testBit k)) 0 (hnd M0 k)).length + 1 := hj
        rw [List.getElem?_append_left (by omega)] at hx
        rw [e2 _ _ (by omega), e2 _ _ (by omega)]
        exact eI j x hx
  · rw [if_neg (fun z => c (hb.mp z))]
    have es : hfl (fun k => !(n.testBit k)) 0 (hnd M0 (k + 1)) = hfl (fun k => !(n.testBit k)) 0 (hnd M0 k) := by
      rw [hnd_s, hfl_app, hnd_len, if_pos (by rw [Nat.zero_add, Bool.eq_false_iff.mpr c]; decide)]
    refine ⟨⟨k + 1, N, hkn, ?_, fN, by rw [es]; exact e4, by rw [es]; exact eI⟩, ms⟩
    have t10 : (10 : Int32) - nI (odN M0 k) = nI (10 - odN M0 k) := pk_sub (a := 10) o1
    rw [t10, lL_of (by omega), lL_mul, nI_1]
    have : wgN M0 (fun k => n.testBit k) (k + 1) = wgN M0 (fun k => n.testBit k) k * (10 - odN M0 k) := by
      show _ * (if n.testBit k = true then _ else _) = _
      rw [if_neg c]
    rw [this]
def mnA (M : Mem) (X : Nat → Nat → Nat) (cl : List Cl) (ns nh : Nat) : Nat := sm (fun n => mnT M X cl ns nh (fun k => n.testBit k)) (2 ^ nh)
def mnV (a h : Nat) (x2 : Int32) : Int64 := if x2 = 0 then lL (a / Nat.gcd a (10 ^ h)) else lL (10 ^ h / Nat.gcd a (10 ^ h))
theorem p10_le {k h : Nat} (hk : k ≤ h) (h6 : h ≤ 6) : 10 ^ k ≤ 1000000 := by
  have h2 : 10 ^ k ≤ 10 ^ 6 := Nat.pow_le_pow_right (by decide) (by omega)
  have h3 : 10 ^ 6 = 1000000 := by decide
  omega
theorem mean_c {M0 M : Mem} {ns nt nw no nh r : Nat} {cls : Nat → List Cl} {th : Option Nat} {oa kd vv : Nat → Nat} {X : Nat → Nat → Nat} {S : HS} (A : AK M0 M ns nt nw no nh r cls th oa kd vv X S) {x2 : Int32} {Q : Int64 → Mem → Prop} (h6 : nh ≤ 6) (q : ∀ M1, AF nh M0 M1 → Q (mnV (mnA M0 X (wcl cls th) ns nh) nh x2) M1) : f_X11_mean_L44 0 (nI r) x2 (some (oa r)) 0 1 0 M Q := by
  obtain ⟨J, f, hr, hX', hS'⟩ := id A
  have hC : mnC M0 ns nh := ⟨h6, J.2.2.2.2.1, J.2.2.1, J.2.1.1⟩
  have n64 : 2 ^ nh ≤ 64 := by
    have : 2 ^ nh ≤ 2 ^ 6 := Nat.pow_le_pow_right (by decide) h6
    have : 2 ^ 6 = 64 := by decide
    omega
  subst hX'
  unfold f_X11_mean_L44
  refine ⟨fun z => ∃ n N, n ≤ 2 ^ nh ∧ z = (some (oa r), lL (sm (fun n => mnT M0 (aX M0 cls th oa kd vv r) (wcl cls th) ns nh (fun k => n.testBit k)) n), lL 1, nI n, N) ∧ AF nh M0 N ∧ sm (fun n => mnT M0 (aX M0 cls th oa kd vv r) (wcl cls th) ns nh (fun k => n.testBit k)) n ≤ 612000000000 * n, fun z => 64 - z.2.2.2.1.toNatClampNeg, ⟨0, M, Nat.zero_le _, rfl, f, Nat.zero_le _⟩, ?_⟩
  rintro z ⟨n, N, hn, rfl, fN, hle⟩
  have J1 := J.af fN
  have hG := J1.1
  have iH1 : iH N ns nh := J1.2.2.2.2.1
  show f_X11_mean_B44 0 (nI r) x2 (some (oa r)) (lL (sm (fun n => mnT M0 (aX M0 cls th oa kd vv r) (wcl cls th) ns nh (fun k => n.testBit k)) n)) (lL 1) (nI n) N _ Q
  unfold f_X11_mean_B44 f_X11_mean_J112
  refine ⟨oQ hG, 17, mP_g hG rfl, day_o hG (Or.inl rfl), ?_⟩
  rw [iH1.2.1, shl6 nh (by omega)]
  by_cases c : n < 2 ^ nh
  case neg =>
    obtain rfl : n = 2 ^ nh := by omega
    rw [if_pos (nI_le (Nat.le_refl _) (by omega))]
    unfold f_X11_mean_L121
    refine ⟨fun z => ∃ k, k ≤ nh ∧ z = (lL (mnA M0 (aX M0 cls th oa kd vv r) (wcl cls th) ns nh), lL (10 ^ k), nI k, N), fun z => nh - z.2.2.1.toNatClampNeg, ⟨0, by omega, rfl⟩, ?_⟩
    rintro z ⟨k, hk, rfl⟩
    show f_X11_mean_B121 0 (nI r) x2 (lL (mnA M0 (aX M0 cls th oa kd vv r) (wcl cls th) ns nh)) (lL (10 ^ k)) (nI k) N _ Q
    unfold f_X11_mean_B121
    refine ⟨oQ hG, 17, mP_g hG rfl, day_o hG (Or.inl rfl), ?_⟩
    rw [iH1.2.1]
    have p10 := p10_le hk h6
    have hle : mnA M0 (aX M0 cls th oa kd vv r) (wcl cls th) ns nh ≤ 612000000000 * 2 ^ nh := hle
    by_cases ck : k < nh
    · rw [if_neg (nI_ge ck (by omega))]
      refine ⟨⟨k + 1, ck, ?_⟩, ?_⟩
      · rw [show (10 : Int64) = lL 10 from rfl, lL_mul, nI_1]; rfl
      · show nh - (nI k + 1).toNatClampNeg < nh - (nI k).toNatClampNeg
        rw [nI_1, nI_clamp (by omega), nI_clamp (by omega)]; omega
    · obtain rfl : k = nh := by omega
      rw [if_pos (nI_le (Nat.le_refl _) (by omega))]
      refine reduced_c (h := 0) (by omega) (by omega) ?_
      rw [rd_end h6]
      exact q N fN
  rw [if_neg (nI_ge c (by omega))]
  refine chance_c J fN h6 c fun M2 f2 d2 => ?_
  have wl := wgN_6 hC (fun k => n.testBit k) (Nat.le_refl nh)
  have hs : sm (fun n => mnT M0 (aX M0 cls th oa kd vv r) (wcl cls th) ns nh (fun k => n.testBit k)) (n + 1) = sm (fun n => mnT M0 (aX M0 cls th oa kd vv r) (wcl cls th) ns nh (fun k => n.testBit k)) n + wgN M0 (fun k => n.testBit k) nh * aLo (aX M0 cls th oa kd vv r) (hPs (aX M0 cls th oa kd vv r) (wcl cls th) ns (hfl (fun k => !(n.testBit k)) 0 (hnd M0 nh))) := rfl
  have ms : 64 - (nI n + 1).toNatClampNeg < 64 - (nI n).toNatClampNeg := by rw [nI_1, nI_clamp (by omega), nI_clamp (by omega)]; omega
  by_cases cw : wgN M0 (fun k => n.testBit k) nh = 0
  · rw [if_pos (by rw [lgc_le, lL_toInt (by omega), cw]; decide)]
    rw [cw, Nat.zero_mul] at hs
    have hs := hs.trans (Nat.add_zero _)
    refine ⟨⟨n + 1, M2, c, by rw [hs, nI_1], f2, by rw [hs]; omega⟩, ms⟩
  rw [if_neg (by rw [lgc_le, lL_toInt (by omega)]; show ¬ ((wgN M0 (fun k => n.testBit k) nh : Nat) : Int) ≤ 0; omega)]
  have J2 := J.af f2
  have hG2 := J2.1
  have hw : iWD M2 nw cls th := ⟨J2.2.2.2.2.2.2.1, J2.2.2.2.2.2.2.2.1, J2.2.2.2.2.2.1⟩
  obtain ⟨w1, w2, w3, -⟩ := wa_C hw
  refine ⟨oQ hG2, held_c hG2 hw ⟨_, rfl, wa_o hG2 hw, oQ hG2, held_c hG2 hw ⟨_, rfl, wa_o hG2 hw, oQ hG2, ?_⟩⟩⟩
  rw [mP_g hG2 (show pvx 0 13 = some 25 from rfl), w1, w2]
  refine goW_c (X := aX M0 cls th oa kd vv r) hG2 hw J2.2.1.2.1 (wd_c J f2 hr (wPr_le _) (Nat.le_trans (wMo_le _) (by omega))) d2 fun M4 p4 e4 => ?_
  have f4 := f2.tr (p4.af nh)
  have hG4 := e4.1.1
  have hlo := lost_le e4.2.2
  refine ⟨oQ hG4, 29, mP_g hG4 rfl, oH hG4, lost_c e4 ?_⟩
  have hprod : wgN M0 (fun k => n.testBit k) nh * aLo (aX M0 cls th oa kd vv r) (hPs (aX M0 cls th oa kd vv r) (wcl cls th) ns (hfl (fun k => !(n.testBit k)) 0 (hnd M0 nh))) ≤ 1000000 * 612000 := Nat.mul_le_mul wl hlo
  rw [lL_of (by omega), lL_mul, lL_add, ← hs]
  exact ⟨⟨n + 1, M4, c, by rw [nI_1], f4, by rw [hs]; omega⟩, ms⟩
