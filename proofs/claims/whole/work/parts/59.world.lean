/-! ===== what lies between two calls, whole; the world of an order; the hour asked ===== -/
def Jn (M : Mem) (ns nt nw no nh : Nat) (cls : Nat → List Cl) (th : Option Nat) (oa kd vv : Nat → Nat) : Prop := Good M ∧ iS M ns ∧ iQ M ns ∧ iN M nt ∧ iH M ns nh ∧ iZ M ∧ iW M nw cls ∧ iD M nw th ∧ iO M no oa kd vv ∧ iA M no oa ∧ iI M ns nw ∧ iT M
theorem Jn.inv {M : Mem} {ns nt nw no nh : Nat} {cls : Nat → List Cl} {th : Option Nat} {oa kd vv : Nat → Nat} (J : Jn M ns nt nw no nh cls th oa kd vv) : Inv M := ⟨J.1, ns, nt, nw, no, nh, cls, th, oa, kd, vv, J.2⟩
/-- the cells that an hour, and what asks of it, may change -/
def AF (nh : Nat) (M M1 : Mem) : Prop := mN M1 = mN M ∧ mS M1 = mS M ∧ mL M1 = mL M ∧ (∀ b j, ¬ (b = 29 ∧ (j = 11 ∨ j = 12)) → mP M1 b j = mP M b j) ∧ ∀ a j, ¬ ((25 ≤ a ∧ a < 39) ∨ (a = 76 ∧ 31 ≤ j ∧ j < 41 ∧ ¬ j = 38) ∨ a = 93 ∨ (97 ≤ a ∧ a < 110) ∨ ((a = 82 ∨ a = 83) ∧ nh ≤ j)) → mI M1 a j = mI M a j
theorem AF.rf (nh : Nat) (M : Mem) : AF nh M M := ⟨rfl, rfl, rfl, fun _ _ _ => rfl, fun _ _ _ => rfl⟩
theorem AF.tr {nh : Nat} {M M1 M2 : Mem} (h : AF nh M M1) (k : AF nh M1 M2) : AF nh M M2 := ⟨k.1.trans h.1, k.2.1.trans h.2.1, k.2.2.1.trans h.2.2.1, fun b j q => (k.2.2.2.1 b j q).trans (h.2.2.2.1 b j q), fun a j q => (k.2.2.2.2 a j q).trans (h.2.2.2.2 a j q)⟩
theorem PF.af {M M1 : Mem} (nh : Nat) (h : PF M M1) : AF nh M M1 := ⟨h.1, h.2.1, h.2.2.1, h.2.2.2.1, fun a j q => h.2.2.2.2 a j (by omega)⟩
theorem UF.af {M M1 : Mem} (nh : Nat) (h : UF M M1) : AF nh M M1 := ⟨h.1.1, h.1.2.1, h.1.2.2.2, fun b j _ => by rw [h.1.2.2.1], fun a j q => h.2 a j (by omega)⟩
theorem AF.good {nh : Nat} {M M1 : Mem} (h : AF nh M M1) (hG : Good M) : Good M1 := by
  refine ⟨by rw [h.1]; exact hG.1, fun b hb => by rw [h.2.1]; exact hG.2.1 b hb, fun b k v hv => ?_⟩
  by_cases c : b = 29 ∧ (k = 11 ∨ k = 12)
  · obtain ⟨rfl, rfl | rfl⟩ := c
    · cases hv
    · cases hv
  · rw [h.2.2.2.1 b k c]; exact hG.2.2 b k v hv
theorem Jn.af {M M1 : Mem} {ns nt nw no nh : Nat} {cls : Nat → List Cl} {th : Option Nat} {oa kd vv : Nat → Nat} (J : Jn M ns nt nw no nh cls th oa kd vv) (h : AF nh M M1) : Jn M1 ns nt nw no nh cls th oa kd vv := by
  obtain ⟨hG, iS0, iQ0, iN0, iH0, iZ0, iW0, iD0, iO0, iA0, iI0, iT0⟩ := J
  have e := h.2.2.2.2
  refine ⟨h.good hG, iS_fr iS0 ?_, iQ_fr iQ0 ?_, iN_fr iN0 ?_, iH_fr iH0 ?_, iZ_fr iZ0 ?_, iW_fr iW0 ?_, iD_fr iD0 ?_, iO_fr iO0 h.1 h.2.1 (fun b j q => h.2.2.2.1 b j (by omega)) ?_, iA_fr iA0 (fun r hr => (iO0.2.2.2.1 r hr).2.1.1) (h.2.2.2.1 _ _ (by omega)) ?_, iI_fr iI0 ?_, iT_fr iT0 (fun _ _ _ => by rw [h.2.2.1]) ?_⟩
  · intro a j q; unfold cS at q; exact e a j (by omega)
  · intro a j q; unfold cQ at q; exact e a j (by omega)
  · intro a j q; unfold cN at q; exact e a j (by omega)
  · intro a j q; unfold cH at q; exact e a j (by omega)
  · intro a j q; unfold cZ at q; exact e a j (by omega)
  · intro a j q; unfold cW at q; exact e a j (by omega)
  · intro a j q; unfold cD at q; exact e a j (by omega)
  · intro a j q; unfold cO at q; exact e a j (by omega)
  · intro a j q; unfold cA at q; exact e a j (by omega)
  · intro a j q; unfold cI at q; exact e a j (by omega)
  · intro a j q; unfold cT at q; exact e a j (by omega)
/-- the world of an order at a with the kind k and the number v -/
def oX (M : Mem) (a k v p m : Nat) (cl : List Cl) : Nat → Nat → Nat := fun j i =>
  if j < 4 then (mI M (2 + i) j).toNatClampNeg else if j = 4 then (if i = 0 then k else if i = 1 then v else if i = 2 then p else if i = 3 then m else wMx cl) else if k = 6 then ((mI M (a + 2) i).toInt + 1).toNat else 0
theorem oX_s (M : Mem) (a k v p m : Nat) (cl : List Cl) {j : Nat} (i : Nat) (h : j < 4) : oX M a k v p m cl j i = (mI M (2 + i) j).toNatClampNeg := if_pos h
theorem oX_40 (M : Mem) (a k v p m : Nat) (cl : List Cl) : oX M a k v p m cl 4 0 = k := rfl
theorem oX_41 (M : Mem) (a k v p m : Nat) (cl : List Cl) : oX M a k v p m cl 4 1 = v := rfl
theorem oX_42 (M : Mem) (a k v p m : Nat) (cl : List Cl) : oX M a k v p m cl 4 2 = p := rfl
theorem oX_43 (M : Mem) (a k v p m : Nat) (cl : List Cl) : oX M a k v p m cl 4 3 = m := rfl
theorem oX_44 (M : Mem) (a k v p m : Nat) (cl : List Cl) : oX M a k v p m cl 4 4 = wMx cl := rfl
theorem oX_5 (M : Mem) (a k v p m : Nat) (cl : List Cl) (i : Nat) : oX M a k v p m cl 5 i = if k = 6 then ((mI M (a + 2) i).toInt + 1).toNat else 0 := rfl
theorem rg_n {x : Int32} {l h : Int} (r : rg x l h) (h0 : 0 ≤ l) : x = nI x.toNatClampNeg ∧ (x.toNatClampNeg : Int) = x.toInt := by
  have r1 : l ≤ x.toInt := r.1
  obtain ⟨j, -, e1, e2, e3⟩ := nI_ex (x := x) (by omega)
  rw [e3]; exact ⟨e1, e2.symm⟩
theorem oX_h {M : Mem} {ns a k v p m : Nat} {cl : List Cl} (iS0 : iS M ns) (hk : k ≤ 6 ∧ 1 ≤ v ∧ v ≤ 9) (hp : p ≤ 20) (hm : m ≤ 29) (hr : k = 6 → ∀ j, j < 10 → rg (mI M (a + 2) j) (-1) 2) : hX (oX M a k v p m cl) ns := by
  obtain ⟨g1, g2, g3, g4⟩ := iS0
  refine ⟨g1, fun s hs => ?_, hk.1, hk.2.1, hk.2.2, hp, hm, by show min _ 40 ≤ 40; omega, fun i hi => ?_⟩
  · obtain ⟨-, q1, q2, q3, q4⟩ := g4 s hs
    rw [oX_s _ _ _ _ _ _ _ _ (by omega), oX_s _ _ _ _ _ _ _ _ (by omega), oX_s _ _ _ _ _ _ _ _ (by omega), oX_s _ _ _ _ _ _ _ _ (by omega)]
    have e1 := (rg_n q1 (by omega)).2
    have e2 := (rg_n q2 (by omega)).2
    have e3 := (rg_n q3 (by omega)).2
    have e4 := (rg_n q4 (by omega)).2
    unfold rg at q1 q2 q3 q4
    omega
  · rw [oX_5]
    by_cases e : k = 6
    · rw [if_pos e]
      have := hr e i hi
      unfold rg at this
      omega
    · rw [if_neg e]; omega
theorem oX_c {M0 M : Mem} {ns a k v p m : Nat} {cl : List Cl} (iS0 : iS M0 ns) (e : ∀ i j, i < 6 → mI M (2 + i) j = mI M0 (2 + i) j) : cX (oX M0 a k v p m cl) ns M := by
  obtain ⟨g1, g2, g3, g4⟩ := iS0
  intro s hs j hj
  obtain ⟨-, q1, q2, q3, q4⟩ := g4 s hs
  rw [e s j (by omega), oX_s _ _ _ _ _ _ _ _ hj]
  have h4 : j = 0 ∨ j = 1 ∨ j = 2 ∨ j = 3 := by omega
  rcases h4 with rfl | rfl | rfl | rfl
  · exact (rg_n q1 (by omega)).1
  · exact (rg_n q2 (by omega)).1
  · exact (rg_n q3 (by omega)).1
  · exact (rg_n q4 (by omega)).1
theorem wa_O {M : Mem} {nw : Nat} {cls : Nat → List Cl} {th : Option Nat} (hG : Good M) (h : iWD M nw cls th) : wO (wa th) M := by
  rcases th with _ | k
  · exact ⟨Or.inl (by decide), isO_g hG (by decide) rfl, ⟨mP_g hG rfl, mP_g hG rfl, mP_g hG rfl⟩, hG.2.1 11 (by decide), hG.2.1 12 (by decide), hG.2.1 13 (by decide)⟩
  · have h6 : k < 6 := by have := h.1.1; have := (h.2.1.2.2 k rfl).1; omega
    refine ⟨Or.inr (by show 38 ≤ 40 + 4 * k; omega), o_win hG h6, ?_⟩
    rcases six h6 with rfl | rfl | rfl | rfl | rfl | rfl <;> exact ⟨⟨mP_g hG rfl, mP_g hG rfl, mP_g hG rfl⟩, hG.2.1 _ (by decide), hG.2.1 _ (by decide), hG.2.1 _ (by decide)⟩
/-- those told by hand -/
def hnd (M : Mem) (nh : Nat) : List (Nat × Nat) := (List.range nh).map (fun k => ((mI M 19 k).toNatClampNeg, (mI M 20 k).toNatClampNeg))
theorem hnd_len (M : Mem) (nh : Nat) : (hnd M nh).length = nh := by unfold hnd; rw [List.length_map, List.length_range]
theorem hnd_at {M : Mem} {nh k : Nat} {h : Nat × Nat} (e : (hnd M nh)[k]? = some h) : k < nh ∧ h = ((mI M 19 k).toNatClampNeg, (mI M 20 k).toNatClampNeg) := by
  have hk : k < nh := by have := (List.getElem?_eq_some_iff.mp e).1; rw [hnd_len] at this; exact this
  refine ⟨hk, ?_⟩
  unfold hnd at e
  rw [List.getElem?_map, List.getElem?_range hk] at e
  injection e with e
  exact e.symm
theorem hnd_n {M : Mem} {ns nh k : Nat} (hH : iH M ns nh) (hk : k < nh) : mI M 19 k = nI (mI M 19 k).toNatClampNeg ∧ mI M 20 k = nI (mI M 20 k).toNatClampNeg ∧ (mI M 19 k).toNatClampNeg < ns ∧ (mI M 20 k).toNatClampNeg < 60 := by
  obtain ⟨⟨q1, q2⟩, q3, q4⟩ := hH.2.2.2 k hk
  have e2 := rg_n q2 (by omega)
  have e4 := rg_n q4 (by omega)
  unfold rg at q2 q4
  exact ⟨e2.1, e4.1, by omega, by omega⟩
theorem hnd_d {M0 M : Mem} {ns nh : Nat} (hH : iH M0 ns nh) (e : ∀ a j, 17 ≤ a ∧ a < 21 → mI M a j = mI M0 a j) : dC (hnd M0 nh) ns 17 M := by
  refine ⟨Or.inl rfl, by rw [hnd_len]; exact hH.1, by rw [hnd_len, e _ _ (by omega)]; exact hH.2.1, fun k h hk => ?_⟩
  obtain ⟨h1, rfl⟩ := hnd_at hk
  obtain ⟨n1, n2, n3, n4⟩ := hnd_n hH h1
  refine ⟨⟨?_, ?_⟩, n3, n4⟩
  · exact (e 19 k (by omega)).trans n1
  · exact (e 20 k (by omega)).trans n2
theorem hnd_m {M0 M : Mem} {ns nh : Nat} (hH : iH M0 ns nh) (h38 : mI M 76 38 = 0) (e : ∀ a j, (a = 76 ∧ j = 1) ∨ ((a = 82 ∨ a = 83) ∧ j < nh) → mI M a j = mI M0 a j) : hM (hnd M0 nh) ns nh false M := by
  have h12 := hH.1
  refine ⟨by rw [hnd_len]; rfl, by rw [hnd_len]; omega, by rw [e _ _ (by omega)]; exact hH.2.2.1, h38, fun k h hk => ?_⟩
  obtain ⟨h1, rfl⟩ := hnd_at hk
  obtain ⟨n1, n2, n3, n4⟩ := hnd_n hH h1
  obtain ⟨⟨q1, -⟩, q2, -⟩ := hH.2.2.2 k h1
  exact ⟨⟨by rw [e 82 k (by omega), q1]; exact n1, by rw [e 83 k (by omega), q2]; exact n2⟩, n3, n4⟩
/-- the hour by the class, by the model -/
theorem goW_c {X : Nat → Nat → Nat} {ns nw oa d : Nat} {cls : Nat → List Cl} {th : Option Nat} {H : List (Nat × Nat)} {M : Mem} {Q : Mem → Prop} (hG : Good M) (hw : iWD M nw cls th) (hns : mI M 0 1 = nI ns) (h : aC X ns oa (wa th) (wcl cls th) M) (hd : dC H ns d M) (q : ∀ M1, PF M M1 → eC X ns oa (wa th) (wcl cls th) (hPs X (wcl cls th) ns H) M1 → Q M1) : f_X11_goThroughWith 0 (some oa) (some d) (nI (X 4 2)) (nI (X 4 3)) M Q := by
  unfold f_X11_goThroughWith
  refine ⟨oQ hG, held_c hG hw ⟨oQ hG, 29, mP_g hG rfl, oH hG, ?_⟩⟩
  rw [hns]
  exact pass_c hG h hd fun M1 g1 f1 c1 r1 w1 => q M1 f1 ⟨c1, r1, h.1, w1, hPs_lf _ _ _ _⟩
theorem goT_c {X : Nat → Nat → Nat} {ns nw oa : Nat} {cls : Nat → List Cl} {th : Option Nat} {H : List (Nat × Nat)} {M : Mem} {Q : Mem → Prop} (hG : Good M) (hw : iWD M nw cls th) (hns : mI M 0 1 = nI ns) (h : aC X ns oa (wa th) (wcl cls th) M) (e2 : X 4 2 = wPr (wcl cls th)) (e3 : X 4 3 = wMo (wcl cls th)) (hd : dC H ns 17 M) (q : ∀ M1, PF M M1 → eC X ns oa (wa th) (wcl cls th) (hPs X (wcl cls th) ns H) M1 → Q M1) : f_X11_goThrough 0 (some oa) M Q := by
  unfold f_X11_goThrough
  obtain ⟨w1, w2, w3, -⟩ := wa_C hw
  refine ⟨oQ hG, held_c hG hw ⟨_, rfl, wa_o hG hw, oQ hG, held_c hG hw ⟨_, rfl, wa_o hG hw, oQ hG, ?_⟩⟩⟩
  rw [mP_g hG (show pvx 0 11 = some 17 from rfl), w1, w2]
  have := goW_c hG hw hns h hd q
  rw [e2, e3] at this; exact this
theorem goW_m {X : Nat → Nat → Nat} {ns r nh : Nat} {cl : List Cl} {F : List (Nat × Nat)} {sk : Bool} {mk : Nat → Bool} {M : Mem} {x3 x4 : Int32} {Q : Mem → Prop} (hG : Good M) (h : aM X ns r cl M) (h3 : nI (wMo cl) + x3 = nI (X 4 3)) (hF : hM F ns nh sk M) (hx4 : hMk F sk mk x4) (q : ∀ t M1, t ≤ 1640 → UF M M1 → eM X ns r cl sk (hPs X cl ns (hfl mk 0 F)) M1 → hW X ns t (hPs X cl ns (hfl mk 0 F)) → rSt (hPs X cl ns (hfl mk 0 F)) t M1 → Q M1) : f_X12_go 76 (nI r) (nI (X 4 2)) x3 x4 M Q :=
  go_m hG h h3 hF hx4 fun t M1 ht f c r w s => q t M1 ht f ⟨c, r, h.1, hW_mono w (by omega), hPs_lf _ _ _ _⟩ w s
theorem mk_0 (F : List (Nat × Nat)) (sk : Bool) : hMk F sk (fun _ => false) 0 := by
  refine ⟨fun k _ => ?_, fun _ _ => rfl⟩
  constructor
  · intro e
    rw [Int32.zero_shiftRight] at e
    exact absurd e (by decide)
  · intro e; cases e
theorem goZ_m {X : Nat → Nat → Nat} {ns r nh : Nat} {cl : List Cl} {F : List (Nat × Nat)} {sk : Bool} {M : Mem} {x3 : Int32} {Q : Mem → Prop} (hG : Good M) (h : aM X ns r cl M) (h3 : nI (wMo cl) + x3 = nI (X 4 3)) (hF : hM F ns nh sk M) (q : ∀ t M1, t ≤ 1640 → UF M M1 → eM X ns r cl sk (hPs X cl ns F) M1 → hW X ns t (hPs X cl ns F) → rSt (hPs X cl ns F) t M1 → Q M1) : f_X12_go 76 (nI r) (nI (X 4 2)) x3 0 M Q := by
  refine goW_m hG h h3 hF (mk_0 F sk) ?_
  rw [hfl_0 _ (fun _ => rfl)]; exact q
theorem goP_m {X : Nat → Nat → Nat} {ns r nh nw : Nat} {cls : Nat → List Cl} {th : Option Nat} {F : List (Nat × Nat)} {sk : Bool} {M : Mem} {Q : Mem → Prop} (hG : Good M) (hE : iWE M nw cls th) (h : aM X ns r (wcl cls th) M) (e2 : X 4 2 = wPr (wcl cls th)) (e3 : X 4 3 = wMo (wcl cls th)) (hF : hM F ns nh sk M) (q : ∀ t M1, t ≤ 1640 → UF M M1 → eM X ns r (wcl cls th) sk (hPs X (wcl cls th) ns F) M1 → hW X ns t (hPs X (wcl cls th) ns F) → rSt (hPs X (wcl cls th) ns F) t M1 → Q M1) : f_X12_goPlainly 76 (nI r) M Q := by
  unfold f_X12_goPlainly
  refine ⟨oM hG, told0 hG hE ⟨oM hG, ?_⟩⟩
  rw [← e2]
  exact goZ_m hG h (by rw [e3]; exact nI_add _ 0) hF q
/-- the worlds of the orders that there are, and of the plain one -/
theorem wd_c {M0 M : Mem} {ns nt nw no nh r p m : Nat} {cls : Nat → List Cl} {th : Option Nat} {oa kd vv : Nat → Nat} (J : Jn M0 ns nt nw no nh cls th oa kd vv) (f : AF nh M0 M) (hr : r < no) (hp : p ≤ 20) (hm : m ≤ 29) : aC (oX M0 (oa r) (kd r) (vv r) p m (wcl cls th)) ns (oa r) (wa th) (wcl cls th) M := by
  have J1 := J.af f
  obtain ⟨hG, iS0, iQ0, iN0, iH0, iZ0, iW0, iD0, iO0, iA0, iI0, iT0⟩ := J
  obtain ⟨hG1, jS0, jQ0, jN0, jH0, jZ0, jW0, jD0, jO0, jA0, jI0, jT0⟩ := J1
  obtain ⟨k1, k2, k3, k4, k5⟩ := iO0.2.2.2.1 r hr
  obtain ⟨l1, l2, l3, l4, l5⟩ := jO0.2.2.2.1 r hr
  have hw : iWD M nw cls th := ⟨jW0, jD0, jZ0⟩
  refine ⟨oX_h iS0 k1 hp hm (fun e j hj => ((k5 e).2.2 j hj).2), oX_c iS0 (fun i j hi => f.2.2.2.2 _ _ (by omega)), ⟨⟨l1.1, Or.inr l2.1, l3.1, l4.2.1⟩, fun e => ?_⟩, wa_O hG1 hw, wa_C hw, wcl_W ⟨jW0, jD0⟩, rfl⟩
  have e : kd r = 6 := e
  obtain ⟨g1, g2, g3⟩ := l5 e
  refine ⟨g2, l2.1, g1, fun j hj => ?_⟩
  rw [oX_5, if_pos e, f.2.2.2.2 _ _ (by omega)]
  have := ((k5 e).2.2 j hj).2
  unfold rg at this
  omega
theorem wd_m {M0 M : Mem} {ns nt nw no nh r p m : Nat} {cls : Nat → List Cl} {th : Option Nat} {oa kd vv : Nat → Nat} (J : Jn M0 ns nt nw no nh cls th oa kd vv) (f : AF nh M0 M) (hr : r < no) (hp : p ≤ 20) (hm : m ≤ 29) : aM (oX M0 (oa r) (kd r) (vv r) p m (wcl cls th)) ns r (wcl cls th) M := by
  have J1 := J.af f
  obtain ⟨hG, iS0, iQ0, iN0, iH0, iZ0, iW0, iD0, iO0, iA0, iI0, iT0⟩ := J
  obtain ⟨hG1, jS0, jQ0, jN0, jH0, jZ0, jW0, jD0, jO0, jA0, jI0, jT0⟩ := J1
  obtain ⟨k1, k2, k3, k4, k5⟩ := iO0.2.2.2.1 r hr
  obtain ⟨l1, l2, l3, l4, l5⟩ := jO0.2.2.2.1 r hr
  have h10 := iO0.1
  have hc := oX_c (a := oa r) (k := kd r) (v := vv r) (p := p) (m := m) (cl := wcl cls th) iS0 (M := M) (fun i j hi => f.2.2.2.2 _ _ (by omega))
  refine ⟨oX_h iS0 k1 hp hm (fun e j hj => ((k5 e).2.2 j hj).2), ⟨jS0.2.2.1, fun s hs j hj => ?_⟩, Or.inr ⟨by omega, l4.2.2.1, l4.2.2.2, fun e j hj => ?_⟩, ⟨nw, cls, th, ⟨jW0, jD0⟩, rfl⟩, rfl⟩
  · obtain ⟨⟨q1, q2, q3, q4⟩, -⟩ := jS0.2.2.2 s hs
    have h := hc s hs j hj
    have h4 : j = 0 ∨ j = 1 ∨ j = 2 ∨ j = 3 := by omega
    rcases h4 with rfl | rfl | rfl | rfl
    · exact q1.trans h
    · exact q2.trans h
    · exact q3.trans h
    · exact q4.trans h
  · have e : kd r = 6 := e
    obtain ⟨g1, g2, g3⟩ := l5 e
    rw [(g3 j hj).1, oX_5, if_pos e, f.2.2.2.2 _ _ (by omega)]
    have := ((k5 e).2.2 j hj).2
    unfold rg at this
    omega
theorem wp_c {M0 M : Mem} {ns nt nw no nh p m : Nat} {cls : Nat → List Cl} {th : Option Nat} {oa kd vv : Nat → Nat} (J : Jn M0 ns nt nw no nh cls th oa kd vv) (f : AF nh M0 M) (hp : p ≤ 20) (hm : m ≤ 29) : aC (oX M0 15 0 1 p m (wcl cls th)) ns 15 (wa th) (wcl cls th) M := by
  have J1 := J.af f
  obtain ⟨hG, iS0, iQ0, iN0, iH0, iZ0, iW0, iD0, iO0, iA0, iI0, iT0⟩ := J
  obtain ⟨hG1, jS0, jQ0, jN0, jH0, jZ0, jW0, jD0, jO0, jA0, jI0, jT0⟩ := J1
  have hw : iWD M nw cls th := ⟨jW0, jD0, jZ0⟩
  refine ⟨oX_h iS0 (by omega) hp hm (fun e => by cases e), oX_c iS0 (fun i j hi => f.2.2.2.2 _ _ (by omega)), ⟨⟨Nat.zero_le 6, Or.inl rfl, hG1.2.1 15 (by decide), jZ0.2.2.2.2.2.2⟩, fun e => by cases e⟩, wa_O hG1 hw, wa_C hw, wcl_W ⟨jW0, jD0⟩, rfl⟩
theorem wp_m {M0 M : Mem} {ns nt nw no nh p m : Nat} {cls : Nat → List Cl} {th : Option Nat} {oa kd vv : Nat → Nat} (J : Jn M0 ns nt nw no nh cls th oa kd vv) (f : AF nh M0 M) (hp : p ≤ 20) (hm : m ≤ 29) : aM (oX M0 15 0 1 p m (wcl cls th)) ns 10 (wcl cls th) M := by
  have J1 := J.af f
  obtain ⟨hG, iS0, iQ0, iN0, iH0, iZ0, iW0, iD0, iO0, iA0, iI0, iT0⟩ := J
  obtain ⟨hG1, jS0, jQ0, jN0, jH0, jZ0, jW0, jD0, jO0, jA0, jI0, jT0⟩ := J1
  have hc := oX_c (a := 15) (k := 0) (v := 1) (p := p) (m := m) (cl := wcl cls th) iS0 (M := M) (fun i j hi => f.2.2.2.2 _ _ (by omega))
  refine ⟨oX_h iS0 (by omega) hp hm (fun e => by cases e), ⟨jS0.2.2.1, fun s hs j hj => ?_⟩, Or.inl ⟨rfl, rfl⟩, ⟨nw, cls, th, ⟨jW0, jD0⟩, rfl⟩, rfl⟩
  obtain ⟨⟨q1, q2, q3, q4⟩, -⟩ := jS0.2.2.2 s hs
  have h := hc s hs j hj
  have h4 : j = 0 ∨ j = 1 ∨ j = 2 ∨ j = 3 := by omega
  rcases h4 with rfl | rfl | rfl | rfl
  · exact q1.trans h
  · exact q2.trans h
  · exact q3.trans h
  · exact q4.trans h
theorem wPr_le (cl : List Cl) : wPr cl ≤ 20 := by unfold wPr; omega
theorem wMo_le (cl : List Cl) : wMo cl ≤ 20 := by unfold wMo; omega
/-- a call that asks for the hour of an order as things stand -/
def aX (M0 : Mem) (cls : Nat → List Cl) (th : Option Nat) (oa kd vv : Nat → Nat) (r : Nat) : Nat → Nat → Nat := oX M0 (oa r) (kd r) (vv r) (wPr (wcl cls th)) (wMo (wcl cls th)) (wcl cls th)
def aS (M0 : Mem) (ns nh : Nat) (cls : Nat → List Cl) (th : Option Nat) (oa kd vv : Nat → Nat) (r : Nat) : HS := hPs (aX M0 cls th oa kd vv r) (wcl cls th) ns (hnd M0 nh)
theorem ask_c {M0 M : Mem} {ns nt nw no nh r : Nat} {cls : Nat → List Cl} {th : Option Nat} {oa kd vv : Nat → Nat} {Q : Mem → Prop} (J : Jn M0 ns nt nw no nh cls th oa kd vv) (f : AF nh M0 M) (hr : r < no) (q : ∀ M1, AF nh M0 M1 → PF M M1 → eC (aX M0 cls th oa kd vv r) ns (oa r) (wa th) (wcl cls th) (aS M0 ns nh cls th oa kd vv r) M1 → Q M1) : f_X11_goThrough 0 (some (oa r)) M Q := by
  have J1 := J.af f
  exact goT_c (X := aX M0 cls th oa kd vv r) J1.1 ⟨J1.2.2.2.2.2.2.1, J1.2.2.2.2.2.2.2.1, J1.2.2.2.2.2.1⟩ J1.2.1.2.1 (wd_c J f hr (wPr_le _) (Nat.le_trans (wMo_le _) (by omega))) rfl rfl (hnd_d J.2.2.2.2.1 (fun a j q => f.2.2.2.2 _ _ (by omega))) fun M1 p1 e1 => q M1 (f.tr (p1.af nh)) p1 e1
theorem ask_m {M0 M : Mem} {ns nt nw no nh r : Nat} {cls : Nat → List Cl} {th : Option Nat} {oa kd vv : Nat → Nat} {Q : Mem → Prop} (J : Jn M0 ns nt nw no nh cls th oa kd vv) (f : AF nh M0 M) (hr : r < no) (q : ∀ t M1, t ≤ 1640 → AF nh M0 M1 → UF M M1 → eM (aX M0 cls th oa kd vv r) ns r (wcl cls th) false (aS M0 ns nh cls th oa kd vv r) M1 → hW (aX M0 cls th oa kd vv r) ns t (aS M0 ns nh cls th oa kd vv r) → rSt (aS M0 ns nh cls th oa kd vv r) t M1 → Q M1) : f_X12_goPlainly 76 (nI r) M Q := by
  have J1 := J.af f
  exact goP_m (X := aX M0 cls th oa kd vv r) J1.1 ⟨J1.2.2.2.2.2.2.1, J1.2.2.2.2.2.2.2.1⟩ (wd_m J f hr (wPr_le _) (Nat.le_trans (wMo_le _) (by omega))) rfl rfl (hnd_m J.2.2.2.2.1 J1.2.2.2.2.2.1.1 (fun a j q => f.2.2.2.2 _ _ (by omega))) fun t M1 ht u1 e1 w1 s1 => q t M1 ht (f.tr (u1.af nh)) u1 e1 w1 s1
