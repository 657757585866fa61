/-! ===== early ===== -/
def hV (S : HS) : Prop := ∀ i, hwt S = some i → i < (hcm S).length
theorem hV_en {X : Nat → Nat → Nat} {now s : Nat} {S : HS} (h : hV S) : hV (hEn X now s S) := by
  intro i hi
  have := h i hi
  show i < (hcm S ++ [_]).length
  rw [List.length_append]; omega
theorem hV_enw {X : Nat → Nat → Nat} {now s : Nat} {S : HS} : hV (hEn X now s (hWt S)) := by
  intro i hi
  have hi : some (hcm S).length = some i := hi
  injection hi with hi
  show i < (hcm S ++ [_]).length
  rw [List.length_append, ← hi]
  show (hcm S).length < (hcm S).length + 1
  omega
theorem hV_hd (X : Nat → Nat → Nat) (now : Nat) : ∀ (H : List (Nat × Nat)) (S : HS), hV S → hV (hHd X now H S)
  | [], _, h => h
  | x :: r, S, h => by
    refine hV_hd X now r _ ?_
    by_cases c : x.2 = now ∧ (hcm S).length < X 4 4
    · rw [if_pos c]
      by_cases e : r.isEmpty = true
      · rw [if_pos e]; exact hV_enw
      · rw [if_neg e]; exact hV_en h
    · rw [if_neg c]; exact h
theorem hV_tx (X : Nat → Nat → Nat) (cl : List Cl) (now : Nat) : ∀ (l : List Nat) (S : HS), hV S → hV (l.foldl (hT1 X cl now) S)
  | [], _, h => h
  | s :: r, S, h => by
    rw [List.foldl_cons]
    refine hV_tx X cl now r _ ?_
    unfold hT1
    split
    · exact hV_en h
    · exact h
theorem hV_sv {X : Nat → Nat → Nat} {now : Nat} {S : HS} (h : hV S) : hV (hSv X now S) := by
  unfold hSv
  split
  · exact h
  · split
    · exact h
    · exact h
theorem hV_sx (X : Nat → Nat → Nat) (cl : List Cl) (n : Nat) (H : List (Nat × Nat)) : ∀ m, hV (hSx X cl n H m)
  | 0 => fun i e => by cases e
  | m + 1 => by
    rw [hSx_s]
    exact hV_sv (hV_tx X cl m _ _ (hV_hd X m H _ (hV_sx X cl n H m)))
theorem hV_dr (X : Nat → Nat → Nat) : ∀ (k now : Nat) (S : HS), hV S → hV (hDr X k now S)
  | 0, _, _, h => h
  | k + 1, _, _, h => hV_dr X k _ _ (hV_sv h)
theorem hV_ps (X : Nat → Nat → Nat) (cl : List Cl) (n : Nat) (H : List (Nat × Nat)) : hV (hPs X cl n H) := hV_dr X _ _ _ (hV_sx X cl n H 60)
/-- how long the last one waits; and the minutes gone through -/
def erW (S : HS) : Int32 := match hwt S with
  | none => -5
  | some i => aWt S i
def erG (w : Nat → Int32) : Nat → Int32 × Int32
  | 0 => (-5, -5)
  | m + 1 => if w m < 0 then erG w m else if (erG w m).2 < 0 then (nI m, w m) else if (erG w m).2 ≤ w m then erG w m else (nI m, w m)
def erS (M0 : Mem) (ns nh : Nat) (cls : Nat → List Cl) (th : Option Nat) (X : Nat → Nat → Nat) (s m : Nat) : HS := hPs X (wcl cls th) ns (hnd M0 nh ++ [(s, m)])
def erV (z : Int32 × Int32) (x3 : Int32) : Int32 := if x3 = 0 then z.1 else z.2
theorem hnd1_at {M : Mem} {nh k s m : Nat} {h : Nat × Nat} (e : (hnd M nh ++ [(s, m)])[k]? = some h) : ((hnd M nh)[k]? = some h ∧ k < nh) ∨ (k = nh ∧ h = (s, m)) := by
  have hl := hnd_len M nh
  by_cases c : k < nh
  · rw [List.getElem?_append_left (by omega)] at e
    exact Or.inl ⟨e, c⟩
  · have hk := (List.getElem?_eq_some_iff.mp e).1
    rw [List.length_append] at hk
    have hk : k < (hnd M nh).length + 1 := hk
    have : k = (hnd M nh).length := by omega
    subst this
    rw [List.getElem?_append_right (Nat.le_refl _), Nat.sub_self] at e
    injection e with e
    exact Or.inr ⟨hl, e.symm⟩
theorem hnd1_len (M : Mem) (nh s m : Nat) : (hnd M nh ++ [(s, m)]).length = nh + 1 := by rw [List.length_append, hnd_len]; rfl
theorem AF.day {nh : Nat} {M0 M M1 : Mem} (f : AF nh M0 M) (s : Sm M M1) (e : ∀ a j, ¬ (25 ≤ a ∧ a < 29) → mI M1 a j = mI M a j) : AF nh M0 M1 := ⟨s.1.trans f.1, s.2.1.trans f.2.1, s.2.2.2.trans f.2.2.1, fun b j q => by rw [s.2.2.1]; exact f.2.2.2.1 b j q, fun a j q => (e a j (by omega)).trans (f.2.2.2.2 a j q)⟩
theorem tell_c {M : Mem} {a nh : Nat} {x1 x2 : Int32} {Q : Mem → Prop} (hG : Good M) (ha : isDay a) (h4 : mI M a 4 = nI nh) (hh : nh < 12) (q : ∀ M1, Sm M M1 → mI M1 a 4 = nI (nh + 1) → mI M1 (a + 2) nh = x1 → mI M1 (a + 3) nh = x2 → (∀ x j, ¬ (x = a ∧ j = 4 ∨ (x = a + 2 ∨ x = a + 3) ∧ j = nh) → mI M1 x j = mI M x j) → Q M1) : f_X0_tell a x1 x2 M Q := by
  obtain ⟨p1, p2, p3⟩ := day_p hG ha
  have v : vp_in (nI nh) 12 := vpN hh (by omega)
  have en : (nI nh).toNatClampNeg = nh := nI_clamp (by omega)
  have a2 : isA M (a + 2) 0 (nI nh) ∧ isA M (a + 3) 0 (nI nh) := by
    rcases ha with rfl | rfl | rfl <;> exact ⟨isA_g hG (by decide) rfl v, isA_g hG (by decide) rfl v⟩
  unfold f_X0_tell
  refine ⟨day_o hG ha, ?_⟩
  rw [h4, if_neg (show ¬ (12 : Int32) ≤ nI nh from nI_ge (b := 12) hh (by omega))]
  refine ⟨a + 2, p2, a2.1, ?_⟩
  rw [en]
  intro M2 h2
  have z2 : mI M2 a 4 = nI nh := by rw [h2, mI_ne _ _ (by omega)]; exact h4
  refine ⟨a + 3, by rw [h2]; exact p3, ?_⟩
  rw [z2, en]
  refine ⟨by rw [h2]; exact a2.2, ?_⟩
  intro M3 h3; intro M4 h4'
  have z3 : mI M3 a 4 = nI nh := by rw [h3, mI_ne _ _ (by omega)]; exact z2
  refine q M4 (by rw [h4', h3, h2]; exact Sm.rf M) ?_ ?_ ?_ (fun x j c => ?_)
  · rw [h4', mI_sI_s, z3, nI_1]
  · rw [h4', mI_ne _ _ (by omega), h3, mI_ne _ _ (by omega), h2, mI_sI_s]
  · rw [h4', mI_ne _ _ (by omega), h3, mI_sI_s]
  · rw [h4', mI_ne _ _ (by omega), h3, mI_ne _ _ (by omega), h2, mI_ne _ _ (by omega)]
theorem erG_st {K : Int32 × Int32 → Prop} (w : Nat → Int32) (m : Nat) (h : K (erG w (m + 1))) : if w m < 0 then K (erG w m) else if (erG w m).2 < 0 then K (nI m, w m) else if (erG w m).2 ≤ w m then K (erG w m) else K (nI m, w m) := by
  have e : erG w (m + 1) = if w m < 0 then erG w m else if (erG w m).2 < 0 then (nI m, w m) else if (erG w m).2 ≤ w m then erG w m else (nI m, w m) := rfl
  rw [e] at h
  by_cases c1 : w m < 0
  · rw [if_pos c1] at h ⊢; exact h
  rw [if_neg c1] at h ⊢
  by_cases c2 : (erG w m).2 < 0
  · rw [if_pos c2] at h ⊢; exact h
  rw [if_neg c2] at h ⊢
  by_cases c3 : (erG w m).2 ≤ w m
  · rw [if_pos c3] at h ⊢; exact h
  · rw [if_neg c3] at h ⊢; exact h
theorem waits_mono {a : Nat} {x : Int32} {M : Mem} {Q R : Int32 → Mem → Prop} (h : f_X3_waits a x M Q) (k : ∀ w N, Q w N → R w N) : f_X3_waits a x M R := by
  unfold f_X3_waits at h ⊢
  by_cases c1 : x < 0
  · rw [if_pos c1] at h ⊢; exact k _ _ h
  · rw [if_neg c1] at h ⊢
    obtain ⟨h0, h⟩ := h
    refine ⟨h0, ?_⟩
    by_cases c2 : mI M a 6 ≤ x
    · rw [if_pos c2] at h ⊢; exact k _ _ h
    · rw [if_neg c2] at h ⊢
      obtain ⟨b, h1, h2, h⟩ := h
      refine ⟨b, h1, h2, ?_⟩
      by_cases c3 : mI M b x.toNatClampNeg = (2 : Int32)
      · rw [if_pos c3] at h ⊢; exact k _ _ h
      · rw [if_neg c3] at h ⊢
        obtain ⟨b2, h3, h4, b3, h5, h6, h⟩ := h
        exact ⟨b2, h3, h4, b3, h5, h6, k _ _ h⟩
theorem early_cs {M0 M : Mem} {ns nt nw no nh r : Nat} {cls : Nat → List Cl} {th : Option Nat} {oa kd vv : Nat → Nat} {X : Nat → Nat → Nat} {S : HS} (A : AK M0 M ns nt nw no nh r cls th oa kd vv X S) {W : Nat → Int32} {s m : Nat} {x3 : Int32} {N : Mem} {K : (Option Nat) × Int32 × Int32 × Int32 × Mem → Prop} {Q : Int32 → Mem → Prop} (hW' : ∀ m, W m = erW (erS M0 ns nh cls th X s m)) (hs : s < ns) (h12 : nh < 12) (hm : m ≤ 60) (fN : AF nh M0 N) (hK : m < 60 → ∀ z N', z = erG W (m + 1) → AF nh M0 N' → K (some (oa r), z.1, z.2, nI m + 1, N')) (q : m = 60 → Q (erV (erG W m) x3) N) : f_X11_early_B57 0 (nI r) (nI s) x3 (some (oa r)) (erG W m).1 (erG W m).2 (nI m) N K Q := by
  obtain ⟨J, f, hr, hX', hS'⟩ := id A
  have hH := J.2.2.2.2.1
  have J1 := J.af fN
  have hG := J1.1
  have iS0 : iS N ns := J1.2.1
  unfold f_X11_early_B57 f_X11_early_J146 f_X11_early_J154
  by_cases h60 : m < 60
  case neg =>
    have hm60 : m = 60 := by omega
    rw [if_pos (show (60 : Int32) ≤ nI m by rw [hm60]; decide)]
    have q := q hm60
    unfold erV at q
    by_cases c : x3 = 0
    · rw [if_pos c] at q ⊢; exact q
    · rw [if_neg c] at q ⊢; exact q
  rw [if_neg (show ¬ (60 : Int32) ≤ nI m from nI_ge (b := 60) h60 (by omega))]
  replace hK := hK h60
  refine ⟨oQ hG, 25, mP_g hG rfl, day_o hG (Or.inr (Or.inr rfl)), ?_⟩
  rw [mP_g hG (show pvx 0 11 = some 17 from rfl), iS0.2.1]
  refine become_c (b := 17) hG (Or.inr (Or.inr rfl)) (Or.inl rfl) (by decide) iS0.1 hH.1 ((fN.2.2.2.2 _ _ (by omega)).trans hH.2.1) fun M2 s2 b0 b4 b1 b2 e2 => ?_
  have f2 := fN.day s2 (fun a j c => e2 a j (by omega))
  have hG2 := f2.good J.1
  refine ⟨oQ hG2, 25, mP_g hG2 rfl, day_o hG2 (Or.inr (Or.inr rfl)), ?_⟩
  refine tell_c hG2 (Or.inr (Or.inr rfl)) b4 h12 fun M3 s3 c4 c2 c3 e3 => ?_
  have f3 := f2.day s3 (fun a j c => e3 a j (by omega))
  have J3 := J.af f3
  have hG3 := J3.1
  have hd : dC (hnd M0 nh ++ [(s, m)]) ns 25 M3 := by
    refine ⟨Or.inr (Or.inr rfl), by rw [hnd1_len]; omega, by rw [hnd1_len]; exact c4, fun k h hk => ?_⟩
    rcases hnd1_at hk with ⟨hk, hk2⟩ | ⟨rfl, rfl⟩
    · obtain ⟨-, rfl⟩ := hnd_at hk
      obtain ⟨n1, n2, n3, n4⟩ := hnd_n hH hk2
      obtain ⟨d1, d2⟩ := b2 k hk2
      refine ⟨⟨?_, ?_⟩, n3, n4⟩
      · rw [e3 _ _ (by omega), d1, fN.2.2.2.2 _ _ (by omega)]; exact n1
      · rw [e3 _ _ (by omega), d2, fN.2.2.2.2 _ _ (by omega)]; exact n2
    · exact ⟨⟨c2, c3⟩, hs, h60⟩
  have hw : iWD M3 nw cls th := ⟨J3.2.2.2.2.2.2.1, J3.2.2.2.2.2.2.2.1, J3.2.2.2.2.2.1⟩
  obtain ⟨w1, w2, w3, -⟩ := wa_C hw
  refine ⟨oQ hG3, held_c hG3 hw ⟨_, rfl, wa_o hG3 hw, oQ hG3, held_c hG3 hw ⟨_, rfl, wa_o hG3 hw, oQ hG3, ?_⟩⟩⟩
  rw [mP_g hG3 (show pvx 0 13 = some 25 from rfl), w1, w2]
  subst hX'
  refine goW_c (X := aX M0 cls th oa kd vv r) hG3 hw J3.2.1.2.1 (wd_c J f3 hr (wPr_le _) (Nat.le_trans (wMo_le _) (by omega))) hd fun M4 p4 e4 => ?_
  have f4 := f3.tr (p4.af nh)
  have hG4 := e4.1.1
  refine ⟨oQ hG4, 29, mP_g hG4 rfl, oH hG4, ?_⟩
  rw [e4.2.1.1.2.2.2.2]
  have fin := erG_st (K := fun z => z = erG W (m + 1)) W m rfl
  have go : f_X3_waits 29 (wtI (hwt (hPs (aX M0 cls th oa kd vv r) (wcl cls th) ns (hnd M0 nh ++ [(s, m)])))) M4 (fun w M5 => w = W m ∧ M5 = M4) := by
    rw [hW' m]
    have hv := hV_ps (aX M0 cls th oa kd vv r) (wcl cls th) ns (hnd M0 nh ++ [(s, m)])
    unfold hV at hv
    unfold erW erS
    cases hwt' : hwt (hPs (aX M0 cls th oa kd vv r) (wcl cls th) ns (hnd M0 nh ++ [(s, m)])) with
    | none =>
      unfold f_X3_waits
      rw [if_pos (show wtI none < 0 by decide)]
      exact ⟨rfl, rfl⟩
    | some i => exact waits_c e4 (hv i hwt') ⟨rfl, rfl⟩
  refine waits_mono go ?_
  rintro w M5 ⟨rfl, rfl⟩
  by_cases k1 : W m < 0
  · rw [if_pos k1] at fin ⊢; exact hK _ _ fin f4
  rw [if_neg k1] at fin ⊢
  by_cases k2 : (erG W m).2 < 0
  · rw [if_pos k2] at fin ⊢; exact hK _ _ fin f4
  rw [if_neg k2] at fin ⊢
  by_cases k3 : (erG W m).2 ≤ W m
  · rw [if_pos k3] at fin ⊢; exact hK _ _ fin f4
  · rw [if_neg k3] at fin ⊢; exact hK _ _ fin f4
theorem early_c {M0 M : Mem} {ns nt nw no nh r : Nat} {cls : Nat → List Cl} {th : Option Nat} {oa kd vv : Nat → Nat} {X : Nat → Nat → Nat} {S : HS} (A : AK M0 M ns nt nw no nh r cls th oa kd vv X S) {s : Nat} {x3 : Int32} {Q : Int32 → Mem → Prop} (hs : s < ns) (h12 : nh < 12) (q : ∀ M1, AF nh M0 M1 → Q (erV (erG (fun m => erW (erS M0 ns nh cls th X s m)) 60) x3) M1) : f_X11_early_L57 0 (nI r) (nI s) x3 (some (oa r)) (-5) (-5) 0 M Q := by
  have hW' : ∀ m, (fun m => erW (erS M0 ns nh cls th X s m)) m = erW (erS M0 ns nh cls th X s m) := fun m => rfl
  generalize (fun m => erW (erS M0 ns nh cls th X s m)) = W at *
  unfold f_X11_early_L57
  refine ⟨fun z => ∃ m N, m ≤ 60 ∧ z = (some (oa r), (erG W m).1, (erG W m).2, nI m, N) ∧ AF nh M0 N, fun z => 60 - z.2.2.2.1.toNatClampNeg, ⟨0, M, by omega, rfl, A.2.1⟩, ?_⟩
  rintro z ⟨m, N, hm, rfl, fN⟩
  refine early_cs A hW' hs h12 hm fN (fun h60 z N' hz f' => ⟨⟨m + 1, N', h60, by rw [hz, nI_1], f'⟩, ?_⟩) (fun e => by subst e; exact q N fN)
  show 60 - (nI m + 1).toNatClampNeg < 60 - (nI m).toNatClampNeg
  rw [nI_1, nI_clamp (by omega), nI_clamp (by omega)]; omega
