/-! ===== a condition, by the model: its answers in a pile ===== -/
def PR (p : List Bool) (M : Mem) : Prop := ∀ i b, p.reverse[i]? = some b → mI M 93 i = bi b
theorem nar_b (b : Bool) : vp_nar .boolean (bi b) = bi b := by cases b <;> rfl
theorem PR_top {b : Bool} {r : List Bool} {M : Mem} (h : PR (b :: r) M) : mI M 93 r.length = bi b := by
  refine h _ _ ?_
  rw [List.reverse_cons, List.getElem?_append_right (by rw [List.length_reverse]; exact Nat.le_refl _), List.length_reverse, Nat.sub_self]; rfl
theorem PR_tl {b : Bool} {r : List Bool} {M : Mem} (h : PR (b :: r) M) : PR r M := by
  intro i c hc
  refine h i c ?_
  have := (List.getElem?_eq_some_iff.mp hc).1
  rw [List.reverse_cons, List.getElem?_append_left this]; exact hc
theorem PR_put {b : Bool} {r : List Bool} {M : Mem} (h : PR r M) : PR (b :: r) (sI M 93 r.length (bi b)) := by
  intro i c hc
  rw [List.reverse_cons] at hc
  by_cases e : i = r.length
  · subst e
    rw [List.getElem?_append_right (by rw [List.length_reverse]; exact Nat.le_refl _), List.length_reverse, Nat.sub_self] at hc
    injection hc with hc
    rw [mI_sI_s, hc]
  · have := (List.getElem?_eq_some_iff.mp hc).1
    rw [List.length_append, List.length_reverse] at this
    have h1 : i < r.length + 1 := this
    rw [List.getElem?_append_left (by rw [List.length_reverse]; omega)] at hc
    rw [mI_ne _ _ (by omega)]; exact h i c hc
def NF (M M1 : Mem) : Prop := Sm M M1 ∧ ∀ a j, ¬ a = 93 → mI M1 a j = mI M a j
theorem NF.rf (M : Mem) : NF M M := ⟨Sm.rf M, fun _ _ _ => rfl⟩
theorem NF.tr {M M1 M2 : Mem} (h : NF M M1) (k : NF M1 M2) : NF M M2 := ⟨h.1.tr k.1, fun a j q => (k.2 a j q).trans (h.2 a j q)⟩
theorem NF.gf {M M1 : Mem} (h : NF M M1) : GF M M1 := ⟨h.1, fun a j q => h.2 a j (by omega)⟩
theorem NF.st {M M1 : Mem} (h : NF M M1) (k : Nat) (v : Int32) : NF M (sI M1 93 k v) := ⟨h.1, fun b j c => by rw [mI_ne _ _ (by omega)]; exact h.2 b j c⟩
theorem rL_fr {S : HS} {M M1 : Mem} (h : rL S M) (f : ∀ a j, 103 ≤ a ∧ a < 106 → mI M1 a j = mI M a j) : rL S M1 := by
  intro l hl
  obtain ⟨hd, g1, g2, g3, g4⟩ := h l hl
  exact ⟨hd, g1, (f _ _ (by omega)).trans g2, (f _ _ (by omega)).trans g3, fun k i hi => (f _ _ (by omega)).trans (g4 k i hi)⟩
def mcn (y : Nat) : Nat := 1000 * (y / 300) + 100 * (y / 100 % 3) + y % 100
theorem mcode_n (y : Nat) : mcode (y : Int) = ((mcn y : Nat) : Int) := by
  unfold mcode mcn
  rw [if_neg (by omega), if_neg (by omega), if_neg (by omega)]; omega
theorem holds_m {S : HS} {c fr t n : Nat} {ts : List Int} {M : Mem} {Q : Bool → Mem → Prop} (hG : Good M) (rl : rL S M) (h40 : (hcm S).length ≤ 40) (h31 : mI M 76 31 = nI n) (hc : c < 48) (h89 : mI M 89 c = nI fr) (h90 : mI M 90 c = nI (fr + ts.length)) (hts : WFp ts) (hle : fr + ts.length ≤ 600) (hm : ∀ k x, ts[k]? = some x → mI M 91 (fr + k) = Int32.ofInt (mcode x)) (h1 : t < 2 ^ 31) (h4 : n < 2 ^ 31) (q : ∀ M1, NF M M1 → Q (hld t (hq S 1).length (hq S 0).length n ts) M1) : f_X12_holds 76 (nI c) (nI t) M Q := by
  obtain ⟨hg, hr⟩ := hts
  have ec : (nI c).toNatClampNeg = c := nI_clamp (by omega)
  have vc : vp_in (nI c) 48 := vpN hc (by omega)
  have hq0 : (hq S 0).length ≤ 40 := by obtain ⟨hd, g1, -⟩ := rl 0 (by omega); omega
  have hq1 : (hq S 1).length ≤ 40 := by obtain ⟨hd, g1, -⟩ := rl 1 (by omega); omega
  unfold f_X12_holds
  refine ⟨oM hG, 89, mP_g hG rfl, isA_g hG (by decide) rfl vc, ?_⟩
  rw [ec, h89]
  generalize hl' : (hq S 1).length = l at *
  generalize hf' : (hq S 0).length = f at *
  unfold f_X12_holds_L10
  refine ⟨fun z => ∃ k, k ≤ ts.length ∧ z.1 = nI (ev t l f n (ts.take k) []).length ∧ (ev t l f n (ts.take k) []).length ≤ 30 ∧ hgt (ts.drop k) (ev t l f n (ts.take k) []).length = some 1 ∧ z.2.1 = nI (fr + k) ∧ NF M z.2.2 ∧ PR (ev t l f n (ts.take k) []) z.2.2, fun z => fr + ts.length - z.2.1.toNatClampNeg, ⟨0, Nat.zero_le _, rfl, Nat.zero_le _, hg, rfl, NF.rf M, fun i b hb => by have hb : ([] : List Bool)[i]? = some b := hb; simp at hb⟩, ?_⟩
  rintro ⟨v, c', N⟩ ⟨k, hk, hv, hl, hh, hc', fN, pN⟩
  replace hv : v = nI (ev t l f n (ts.take k) []).length := hv
  replace hc' : c' = nI (fr + k) := hc'
  subst hv; subst hc'
  show f_X12_holds_B10 76 (nI c) (nI t) (nI (ev t l f n (ts.take k) []).length) (nI (fr + k)) N _ Q
  replace fN : NF M N := fN
  replace pN : PR (ev t l f n (ts.take k) []) N := pN
  have hGN := fN.1.good hG
  unfold f_X12_holds_B10
  refine ⟨oM hGN, 90, mP_g hGN rfl, isA_g hGN (by decide) rfl vc, ?_⟩
  rw [ec, fN.2 90 c (by omega), h90]
  by_cases hkl : k < ts.length
  · rw [if_neg (nI_ge (by omega) (by omega))]
    obtain ⟨x, hx⟩ : ∃ x, ts[k]? = some x := ⟨ts[k], List.getElem?_eq_getElem hkl⟩
    have hxm := hm k x hx
    have hxr := hr x (List.mem_of_getElem? hx)
    have hd : ts.drop k = x :: ts.drop (k + 1) := by rw [List.drop_eq_getElem_cons hkl]; congr 1; rw [List.getElem?_eq_getElem hkl] at hx; exact Option.some.inj hx
    rw [hd] at hh
    have ht : ev t l f n (ts.take (k + 1)) [] = ev1 t l f n x (ev t l f n (ts.take k) []) := by rw [take_one hx, ev_s]
    refine ⟨91, mP_g hGN rfl, isA_g hGN (by decide) rfl (vpN (by omega) (by omega)), ?_⟩
    rw [nI_clamp (by omega), fN.2 91 _ (by omega), hxm]
    generalize hp : ev t l f n (ts.take k) [] = p at *
    have up : ∀ (b : Int32) (p' : List Bool) (N' : Mem), ev1 t l f n x p = p' → b = nI p'.length → p'.length ≤ 30 → hgt (ts.drop (k + 1)) p'.length = some 1 → NF M N' → PR p' N' → (∃ k', k' ≤ ts.length ∧ b = nI (ev t l f n (ts.take k') []).length ∧ (ev t l f n (ts.take k') []).length ≤ 30 ∧ hgt (ts.drop k') (ev t l f n (ts.take k') []).length = some 1 ∧ nI (fr + k) + 1 = nI (fr + k') ∧ NF M N' ∧ PR (ev t l f n (ts.take k') []) N') ∧ fr + ts.length - (nI (fr + k) + 1).toNatClampNeg < fr + ts.length - (nI (fr + k)).toNatClampNeg := by
      intro b p' N' e1 e2 e3 e4 e5 e6
      refine ⟨⟨k + 1, hkl, by rw [ht, e1]; exact e2, by rw [ht, e1]; exact e3, by rw [ht, e1]; exact e4, by rw [nI_1]; rfl, e5, by rw [ht, e1]; exact e6⟩, ?_⟩
      rw [nI_1, nI_clamp (by omega), nI_clamp (by omega)]; omega
    by_cases c3 : x = -3
    · subst c3
      obtain ⟨g1, g2⟩ := hgt_3 hh (by decide)
      rw [if_pos (by decide)]
      cases p with
      | nil => exact absurd g1 (by show ¬ 1 ≤ 0; omega)
      | cons b r =>
        have hlr : (b :: r).length = r.length + 1 := rfl
        refine ⟨93, mP_g hGN rfl, ?_⟩
        rw [hlr, nI_pred, nI_clamp (by omega), PR_top pN]
        refine ⟨isA_g hGN (by decide) rfl (vpN (by omega) (by omega)), ?_⟩
        have J : ∀ b0 : Int32, b0 = bi (!b) → f_X12_holds_J60 76 (nI c) (nI t) (nI (r.length + 1)) (nI (fr + k)) b0 (nI r.length) (some 93) N (fun z' => (∃ k', k' ≤ ts.length ∧ z'.1 = nI (ev t l f n (ts.take k') []).length ∧ (ev t l f n (ts.take k') []).length ≤ 30 ∧ hgt (ts.drop k') (ev t l f n (ts.take k') []).length = some 1 ∧ z'.2.1 = nI (fr + k') ∧ NF M z'.2.2 ∧ PR (ev t l f n (ts.take k') []) z'.2.2) ∧ fr + ts.length - z'.2.1.toNatClampNeg < fr + ts.length - (nI (fr + k)).toNatClampNeg) Q := by
          rintro b0 rfl
          unfold f_X12_holds_J60 f_X12_holds_J274
          refine ⟨93, rfl, isA_g hGN (by decide) rfl (vpN (by omega) (by omega)), ?_⟩
          intro N2 hE
          rw [nar_b, nI_clamp (by omega)] at hE
          exact up _ ((!b) :: r) N2 (by unfold ev1; rw [if_pos rfl]; rfl) rfl hl g2 (by rw [hE]; exact fN.st _ _) (by rw [hE]; exact PR_put (PR_tl pN))
        cases b
        · rw [if_pos (show bi false = 0 from rfl)]; exact J 1 rfl
        · rw [if_neg (show ¬ bi true = 0 by decide)]; exact J 0 rfl
    have J139 : ∀ (b a : Bool) (r : List Bool) (b0 : Int32), p = b :: a :: r → (x = -1 ∧ b0 = bi (a && b) ∨ x = -2 ∧ b0 = bi (a || b)) → hgt (ts.drop (k + 1)) (r.length + 1) = some 1 → f_X12_holds_J139 76 (nI c) (nI t) (nI (r.length + 1)) (nI (fr + k)) b0 (nI r.length) (some 93) N (fun z' => (∃ k', k' ≤ ts.length ∧ z'.1 = nI (ev t l f n (ts.take k') []).length ∧ (ev t l f n (ts.take k') []).length ≤ 30 ∧ hgt (ts.drop k') (ev t l f n (ts.take k') []).length = some 1 ∧ z'.2.1 = nI (fr + k') ∧ NF M z'.2.2 ∧ PR (ev t l f n (ts.take k') []) z'.2.2) ∧ fr + ts.length - z'.2.1.toNatClampNeg < fr + ts.length - (nI (fr + k)).toNatClampNeg) Q := by
      rintro b a r b0 rfl hb g2
      simp only [List.length_cons] at hl
      unfold f_X12_holds_J139 f_X12_holds_J274
      refine ⟨93, rfl, isA_g hGN (by decide) rfl (vpN (by omega) (by omega)), ?_⟩
      intro N2 hE
      rcases hb with ⟨rfl, rfl⟩ | ⟨rfl, rfl⟩
      · rw [nar_b, nI_clamp (by omega)] at hE
        exact up _ ((a && b) :: r) N2 (by unfold ev1; rw [if_neg (by decide), if_pos rfl]; rfl) rfl (by simp only [List.length_cons]; omega) g2 (by rw [hE]; exact fN.st _ _) (by rw [hE]; exact PR_put (PR_tl (PR_tl pN)))
      · rw [nar_b, nI_clamp (by omega)] at hE
        exact up _ ((a || b) :: r) N2 (by unfold ev1; rw [if_neg (by decide), if_neg (by decide), if_pos rfl]; rfl) rfl (by simp only [List.length_cons]; omega) g2 (by rw [hE]; exact fN.st _ _) (by rw [hE]; exact PR_put (PR_tl (PR_tl pN)))
    by_cases c1 : x = -1
    · obtain ⟨g1, g2⟩ := hgt_b hh (by decide) (Or.inl c1)
      rw [c1, if_neg (by decide), if_neg (by decide), if_pos (by decide)]
      cases hp' : p with
      | nil => rw [hp'] at g1; exact absurd g1 (by show ¬ 2 ≤ 0; omega)
      | cons b r0 =>
        cases r0 with
        | nil => rw [hp'] at g1; exact absurd g1 (by show ¬ 2 ≤ 1; omega)
        | cons a r =>
          rw [hp'] at pN hl g2
          have hlr : (b :: a :: r).length = r.length + 1 + 1 := rfl
          refine ⟨93, mP_g hGN rfl, ?_⟩
          rw [hlr, pk_m1, nI_pred, nI_clamp (by omega), nI_clamp (by omega), PR_top (PR_tl pN), show mI N 93 (r.length + 1) = bi b from PR_top pN]
          have va : ∀ z, z ≤ r.length + 1 → isA N 93 2 (nI z) := fun z hz => isA_g hGN (by decide) rfl (vpN (by simp only [List.length_cons] at hl; omega) (by omega))
          refine ⟨va _ (by omega), ?_⟩
          have J := fun b0 e => J139 b a r b0 hp' (Or.inl ⟨c1, e⟩) g2
          unfold f_X12_holds_J110
          cases a
          · rw [if_pos (show bi false = 0 from rfl)]; exact J 0 rfl
          · rw [if_neg (show ¬ bi true = 0 by decide)]
            refine ⟨va _ (by omega), ?_⟩
            cases b
            · rw [if_pos (show bi false = 0 from rfl)]; exact J 0 rfl
            · rw [if_neg (show ¬ bi true = 0 by decide)]; exact J 1 rfl
    by_cases c2 : x = -2
    · obtain ⟨g1, g2⟩ := hgt_b hh (by decide) (Or.inr c2)
      rw [c2, if_neg (by decide), if_neg (by decide), if_neg (by decide)]
      cases hp' : p with
      | nil => rw [hp'] at g1; exact absurd g1 (by show ¬ 2 ≤ 0; omega)
      | cons b r0 =>
        cases r0 with
        | nil => rw [hp'] at g1; exact absurd g1 (by show ¬ 2 ≤ 1; omega)
        | cons a r =>
          rw [hp'] at pN hl g2
          have hlr : (b :: a :: r).length = r.length + 1 + 1 := rfl
          refine ⟨93, mP_g hGN rfl, ?_⟩
          rw [hlr, pk_m1, nI_pred, nI_clamp (by omega), nI_clamp (by omega), PR_top (PR_tl pN), show mI N 93 (r.length + 1) = bi b from PR_top pN]
          have va : ∀ z, z ≤ r.length + 1 → isA N 93 2 (nI z) := fun z hz => isA_g hGN (by decide) rfl (vpN (by simp only [List.length_cons] at hl; omega) (by omega))
          refine ⟨va _ (by omega), ?_⟩
          have J := fun b0 e => J139 b a r b0 hp' (Or.inr ⟨c2, e⟩) g2
          unfold f_X12_holds_J134
          cases a
          · rw [if_pos (show bi false = 0 from rfl)]
            refine ⟨va _ (by omega), ?_⟩
            cases b
            · rw [if_pos (show bi false = 0 from rfl)]; exact J 0 rfl
            · rw [if_neg (show ¬ bi true = 0 by decide)]; exact J 1 rfl
          · rw [if_neg (show ¬ bi true = 0 by decide)]; exact J 1 rfl
    obtain ⟨g1, g2⟩ := hgt_p hh (by decide) (by omega)
    obtain ⟨y, rfl⟩ : ∃ y : Nat, x = (y : Int) := ⟨x.toNat, by omega⟩
    have hy : y < 1200 := by omega
    rw [mcode_n]
    have ey : Int32.ofInt ((mcn y : Nat) : Int) = nI (mcn y) := rfl
    have hmy : mcn y < 5000 := by unfold mcn; omega
    have ne : ∀ z : Int32, z.toInt < 0 → ¬ nI (mcn y) = z := fun z hz e => by
      have := nI_toInt (n := mcn y) (by omega)
      rw [e] at this; omega
    rw [ey, if_neg (ne _ (by decide)), if_pos (nI_pos' (by omega))]
    have J191 : ∀ (a : Nat), a < 2 ^ 31 → a = tva t l f n y → f_X12_holds_J191 76 (nI c) (nI t) (nI p.length) (nI (fr + k)) (nI (mcn y)) (nI a) N (fun z' => (∃ k', k' ≤ ts.length ∧ z'.1 = nI (ev t l f n (ts.take k') []).length ∧ (ev t l f n (ts.take k') []).length ≤ 30 ∧ hgt (ts.drop k') (ev t l f n (ts.take k') []).length = some 1 ∧ z'.2.1 = nI (fr + k') ∧ NF M z'.2.2 ∧ PR (ev t l f n (ts.take k') []) z'.2.2) ∧ fr + ts.length - z'.2.1.toNatClampNeg < fr + ts.length - (nI (fr + k)).toNatClampNeg) Q := by
      intro a ha ea
      have e1 : ev1 t l f n (y : Int) p = tsv a y :: p := by
        unfold ev1
        rw [if_neg (by omega), if_neg (by omega), if_neg (by omega), ea]; rfl
      have J270 : ∀ b0 : Int32, b0 = bi (tsv a y) → f_X12_holds_J270 76 (nI c) (nI t) (nI p.length) (nI (fr + k)) b0 (nI p.length) (mP N 76 26) N (fun z' => (∃ k', k' ≤ ts.length ∧ z'.1 = nI (ev t l f n (ts.take k') []).length ∧ (ev t l f n (ts.take k') []).length ≤ 30 ∧ hgt (ts.drop k') (ev t l f n (ts.take k') []).length = some 1 ∧ z'.2.1 = nI (fr + k') ∧ NF M z'.2.2 ∧ PR (ev t l f n (ts.take k') []) z'.2.2) ∧ fr + ts.length - z'.2.1.toNatClampNeg < fr + ts.length - (nI (fr + k)).toNatClampNeg) Q := by
        rintro b0 rfl
        unfold f_X12_holds_J270 f_X12_holds_J274
        refine ⟨93, mP_g hGN rfl, isA_g hGN (by decide) rfl (vpN (by omega) (by omega)), ?_⟩
        intro N2 hE
        rw [nar_b, nI_clamp (by omega)] at hE
        exact up _ (tsv a y :: p) N2 e1 (nI_1 _) (by simp only [List.length_cons]; omega) g2 (by rw [hE]; exact fN.st _ _) (by rw [hE]; exact PR_put pN)
      have o1 : mcn y / 100 % 10 = y / 100 % 3 := by unfold mcn; omega
      have o2 : mcn y % 100 = y % 100 := by unfold mcn; omega
      unfold f_X12_holds_J191
      refine ⟨by decide, by decide, oM hGN, ?_⟩
      rw [show (100 : Int32) = nI 100 from rfl, show (10 : Int32) = nI 10 from rfl, pk_rem (a := mcn y) (d := 100) (by omega) (by omega) (by omega), pk_div (by omega) (by omega) (by omega), pk_rem (by omega) (by omega) (by omega), o1, o2]
      have h3 : y / 100 % 3 < 3 := Nat.mod_lt _ (by omega)
      have h5 : y % 100 < 100 := Nat.mod_lt _ (by omega)
      unfold tsv at J270
      by_cases c0 : y / 100 % 3 = 0
      · rw [if_pos c0] at J270
        rw [if_pos (by rw [c0]; rfl)]
        refine ⟨by decide, ?_⟩
        by_cases cc : a < y % 100
        · rw [if_neg (nI_ge cc (by omega))]; exact J270 1 (by rw [decide_eq_true cc]; rfl)
        · rw [if_pos (nI_le (by omega) ha)]; exact J270 0 (by rw [decide_eq_false cc]; rfl)
      rw [if_neg c0] at J270
      rw [if_neg (nn_0 c0 (by omega))]
      by_cases c1 : y / 100 % 3 = 1
      · rw [if_pos c1] at J270
        rw [if_pos (by rw [c1]; rfl)]
        refine ⟨by decide, ?_⟩
        by_cases cc : a = y % 100
        · rw [if_pos (by rw [cc])]; exact J270 1 (by rw [decide_eq_true cc]; rfl)
        · rw [if_neg (by rw [nI_eq ha (by omega)]; exact cc)]; exact J270 0 (by rw [decide_eq_false cc]; rfl)
      rw [if_neg c1] at J270
      rw [if_neg (nn_1 c1 (by omega))]
      refine ⟨by decide, ?_⟩
      by_cases cc : y % 100 < a
      · rw [if_neg (nI_ge cc ha)]; exact J270 1 (by rw [decide_eq_true cc]; rfl)
      · rw [if_pos (nI_le (by omega) (by omega))]; exact J270 0 (by rw [decide_eq_false cc]; rfl)
    have rlN : rL S N := rL_fr rl (fun a j d => fN.2 a j (by omega))
    have q3 : y / 300 ≤ 3 := by omega
    by_cases d0 : y / 300 = 0
    · rw [if_neg (show ¬ (1000 : Int32) ≤ nI (mcn y) from nI_ge (b := 1000) (by unfold mcn; omega) (by omega))]
      exact J191 t h1 (by unfold tva; rw [if_pos d0])
    rw [if_pos (show (1000 : Int32) ≤ nI (mcn y) from nI_le (a := 1000) (by unfold mcn; omega) (by omega))]
    by_cases d1 : y / 300 = 1
    · rw [if_neg (show ¬ (2000 : Int32) ≤ nI (mcn y) from nI_ge (b := 2000) (by unfold mcn; omega) (by omega))]
      refine stand_m hGN rlN (l := 1) (by omega) ?_
      rw [hl']
      exact J191 l (by omega) (by unfold tva; rw [if_neg d0, if_pos d1])
    rw [if_pos (show (2000 : Int32) ≤ nI (mcn y) from nI_le (a := 2000) (by unfold mcn; omega) (by omega))]
    by_cases d2 : y / 300 = 2
    · rw [if_neg (show ¬ (3000 : Int32) ≤ nI (mcn y) from nI_ge (b := 3000) (by unfold mcn; omega) (by omega))]
      refine stand_m hGN rlN (l := 0) (by omega) ?_
      rw [hf']
      exact J191 f (by omega) (by unfold tva; rw [if_neg d0, if_neg d1, if_pos d2])
    rw [if_pos (show (3000 : Int32) ≤ nI (mcn y) from nI_le (a := 3000) (by unfold mcn; omega) (by omega)), fN.2 76 31 (by omega), h31]
    exact J191 n h4 (by unfold tva; rw [if_neg d0, if_neg d1, if_neg d2])
  · obtain rfl : k = ts.length := by omega
    rw [if_pos (nI_le (Nat.le_refl _) (by omega))]
    rw [List.take_length] at pN hh
    rw [List.drop_length] at hh
    unfold hld at q
    generalize ev t l f n ts [] = p at *
    have hp1 : p.length = 1 := by unfold hgt at hh; exact Option.some.inj hh
    match p, hp1 with
    | [b], _ =>
      refine ⟨93, mP_g hGN rfl, isA_g hGN (by decide) rfl (vp_of (by decide) (by decide)), b, ?_, q N fN⟩
      exact PR_top pN
