/-! ===== the clauses by the class: parse ===== -/
def kF (a : Nat) (M M1 : Mem) : Prop := Sm M M1 ∧ ∀ b j, ¬ (b = a ∧ ¬ j = 9) → ¬ (b = a + 1 ∨ b = a + 2 ∨ b = a + 3) → mI M1 b j = mI M b j
theorem kF.rf (a : Nat) (M : Mem) : kF a M M := ⟨Sm.rf M, fun _ _ _ _ => rfl⟩
theorem kF.tr {a : Nat} {M M1 M2 : Mem} (h : kF a M M1) (k : kF a M1 M2) : kF a M M2 := ⟨h.1.tr k.1, fun b j q r => (k.2 b j q r).trans (h.2 b j q r)⟩
theorem gF.k {a : Nat} {M M1 : Mem} (h : gF a M M1) : kF a M M1 := ⟨h.1, fun b j q r => h.2 b j (by omega) (by omega)⟩
theorem pF.k {a : Nat} {M M1 : Mem} (h : pF a M M1) : kF a M M1 := h.g.k
theorem rqC_mk {a n p q : Nat} {c : Nat → Int} {M M1 : Mem} (h : rqC a c n p M) (f : kF a M M1) (e : mI M1 a 10 = nI q) (hq : q ≤ n) : rqC a c n q M1 := by
  obtain ⟨ha, hw, ⟨h8, hs⟩, ⟨hn, e9, hc, ht⟩, hp, e10⟩ := h
  refine ⟨ha, wO_fr hw f.1, ⟨by rw [f.1.2.2.1]; exact h8, by rw [f.1.2.1]; exact hs⟩, ⟨hn, by rw [f.2 a 9 (by omega) (by omega)]; exact e9, hc, fun k hk => by rw [f.2 8 k (by omega) (by omega)]; exact ht k hk⟩, hq, e⟩
def wI (a : Nat) (acc : List Cl) (M : Mem) : Prop := wC M a acc ∧ mI M a 7 = nI (tks acc).length
theorem wI_p {a : Nat} {acc : List Cl} {M M1 : Mem} (h : wI a acc M) (f : pF a M M1) : wI a acc M1 := by
  obtain ⟨⟨h1, h2, h3, h4, h5, h6⟩, h7⟩ := h
  refine ⟨⟨(f.2 _ _ (by omega)).trans h1, (f.2 _ _ (by omega)).trans h2, (f.2 _ _ (by omega)).trans h3, (f.2 _ _ (by omega)).trans h4, fun j c e => ?_, fun k t e => (f.2 _ _ (by omega)).trans (h6 k t e)⟩, (f.2 _ _ (by omega)).trans h7⟩
  exact ⟨(f.2 _ _ (by omega)).trans (h5 j c e).1, (f.2 _ _ (by omega)).trans (h5 j c e).2⟩
theorem lst_aq (acc : List Cl) (z : Cl) (w d : Nat) : lst (acc ++ [z]) w d = if z.1 = w then z.2.1 else lst acc w d := by
  unfold lst; rw [List.foldl_append]; rfl
theorem cms_0 (acc : List Cl) {z : Cl} (h : z.1 = 0) : cms (acc ++ [z]) = cms acc ++ [z] := by
  unfold cms; rw [List.filter_append]; congr 1
  rw [List.filter_cons_of_pos (by rw [h]; rfl)]; rfl
theorem cms_n (acc : List Cl) {z : Cl} (h : z.1 ≠ 0) : cms (acc ++ [z]) = cms acc := by
  unfold cms; rw [List.filter_append, List.filter_cons_of_neg (by simpa using h)]
  exact List.append_nil _
theorem tks_cq : ∀ (acc : List Cl), (∀ c ∈ acc, cOk c) → tks (cms acc) = tks acc
  | [], _ => rfl
  | z :: r, h => by
    have ih := tks_cq r (fun c hc => h c (List.mem_cons_of_mem _ hc))
    have e2 : tks (z :: r) = z.2.2 ++ tks r := List.flatMap_cons
    by_cases e : z.1 = 0
    · have e1 : cms (z :: r) = z :: cms r := List.filter_cons_of_pos (by rw [e]; rfl)
      have e3 : tks (z :: cms r) = z.2.2 ++ tks (cms r) := List.flatMap_cons
      rw [e1, e2, e3, ih]
    · have e1 : cms (z :: r) = cms r := List.filter_cons_of_neg (by simpa using e)
      rw [e1, ih, e2, ((h z (List.mem_cons_self ..)).2.2 e).2]; rfl
theorem cms_lq (acc : List Cl) : (cms acc).length ≤ acc.length := List.length_filter_le ..
theorem wI_come {a d : Nat} {acc : List Cl} {tk : List Int} {M E N : Mem} (hM : wI a acc M) (hk : ∀ c ∈ acc, cOk c) (tE : sT a (tks acc ++ tk) E) (fE : ∀ b j, (b = a ∧ j < 4) ∨ b = a + 1 ∨ b = a + 2 → mI E b j = mI M b j) (n1 : mI N a 3 = nI ((cms acc).length + 1)) (n2 : mI N (a + 1) (cms acc).length = nI d) (n3 : mI N (a + 2) (cms acc).length = nI (tks acc ++ tk).length) (nf : ∀ b j, ¬ (b = a ∧ j = 3) → ¬ ((b = a + 1 ∨ b = a + 2) ∧ j = (cms acc).length) → mI N b j = mI E b j) : wI a (acc ++ [(0, d, tk)]) N := by
  obtain ⟨⟨h1, h2, h3, h4, h5, h6⟩, h7⟩ := hM
  have et : tks (acc ++ [((0, d, tk) : Cl)]) = tks acc ++ tk := by rw [tks_aq, tks_1]
  have ec : cms (acc ++ [((0, d, tk) : Cl)]) = cms acc ++ [((0, d, tk) : Cl)] := cms_0 acc rfl
  unfold wI wC
  rw [lst_aq, lst_aq, lst_aq, et, ec, if_neg (show ¬ (0 : Nat) = 1 by decide), if_neg (show ¬ (0 : Nat) = 2 by decide), if_neg (show ¬ (0 : Nat) = 3 by decide)]
  refine ⟨⟨?_, ?_, ?_, ?_, fun j c e => ?_, fun k t e => ?_⟩, ?_⟩
  · rw [nf _ _ (by omega) (by omega), fE _ _ (by omega)]; exact h1
  · rw [nf _ _ (by omega) (by omega), fE _ _ (by omega)]; exact h2
  · rw [nf _ _ (by omega) (by omega), fE _ _ (by omega)]; exact h3
  · rw [n1, List.length_append]; rfl
  · by_cases ej : j = (cms acc).length
    · subst ej
      rw [List.getElem?_append_right (Nat.le_refl _), Nat.sub_self] at e
      injection e with e
      subst e
      refine ⟨n2, ?_⟩
      rw [n3, List.take_of_length_le (by rw [List.length_append]; exact Nat.le_refl _), tks_aq, tks_1, tks_cq acc hk]
    · have hj := (List.getElem?_eq_some_iff.mp e).1
      rw [List.length_append] at hj
      have hj : j < (cms acc).length + 1 := hj
      rw [List.getElem?_append_left (by omega)] at e
      rw [nf _ _ (by omega) (by omega), nf _ _ (by omega) (by omega), fE _ _ (by omega), fE _ _ (by omega), List.take_append_of_le_length (by omega)]
      exact h5 j c e
  · rw [nf _ _ (by omega) (by omega)]; exact tE.2 k t e
  · rw [nf _ _ (by omega) (by omega)]; exact tE.1
theorem wI_num {a k m : Nat} {acc : List Cl} {M N : Mem} {x : Int32} (hM : wI a acc M) (hk : k = 1 ∨ k = 2 ∨ k = 3) (hx : x = nI (min m (if k = 3 then 40 else 20))) (hN : N = sI M a (k - 1) x) : wI a (acc ++ [(k, m, [])]) N := by
  obtain ⟨⟨h1, h2, h3, h4, h5, h6⟩, h7⟩ := hM
  have et : tks (acc ++ [((k, m, []) : Cl)]) = tks acc := by rw [tks_aq, tks_1]; exact List.append_nil _
  have ec : cms (acc ++ [((k, m, []) : Cl)]) = cms acc := cms_n acc (by show k ≠ 0; omega)
  unfold wI wC
  rw [lst_aq, lst_aq, lst_aq, et, ec]
  refine ⟨⟨?_, ?_, ?_, ?_, fun j c e => ?_, fun k t e => ?_⟩, ?_⟩
  · rw [hN, mI_sI]
    by_cases e : k = 1
    · subst e; rw [if_pos ⟨rfl, rfl⟩, if_pos rfl, hx, if_neg (by decide)]
    · rw [if_neg (by omega), if_neg e]; exact h1
  · rw [hN, mI_sI]
    by_cases e : k = 2
    · subst e; rw [if_pos ⟨rfl, rfl⟩, if_pos rfl, hx, if_neg (by decide)]
    · rw [if_neg (by omega), if_neg e]; exact h2
  · rw [hN, mI_sI]
    by_cases e : k = 3
    · subst e; rw [if_pos ⟨rfl, rfl⟩, if_pos rfl, hx, if_pos rfl]
    · rw [if_neg (by omega), if_neg e]; exact h3
  · rw [hN, mI_ne _ _ (by omega)]; exact h4
  · rw [hN, mI_ne _ _ (by omega), mI_ne _ _ (by omega)]; exact h5 j c e
  · rw [hN, mI_ne _ _ (by omega)]; exact h6 k t e
  · rw [hN, mI_ne _ _ (by omega)]; exact h7
theorem comeC_c {a n p : Nat} {c : Nat → Int} {acc : List Cl} {M : Mem} {Q : Bool → Mem → Prop} (h : rqC a c n p M) (hI : wI a acc M) (ha : aOk acc p) (h8 : acc.length < 8) (q : ∀ M1, kF a M M1 → rqC a c n (comz c p).2.1 M1 → ((comz c p).1 = true → wI a (acc ++ [(comz c p).2.2]) M1) → Q (comz c p).1 M1) : f_X10_comeClause a M Q := by
  unfold f_X10_comeClause
  have hc := h.2.2.2.1.2.2.1
  have hl := cms_lq acc
  refine ⟨h.2.1.2.1, ?_⟩
  rw [hI.1.2.2.2.1, if_neg (show ¬ (8 : Int32) ≤ nI (cms acc).length from nI_ge (b := 8) (by omega) (by omega))]
  have wo := wrd_ok hc (sW 0) p (sW_ne 0 (by decide)) h.2.2.2.2.1
  refine word_c (by decide) h fun M1 f1 h1 => ?_
  unfold comz at q
  by_cases e1 : (wrd c (sW 0) p).1 = true
  case neg =>
    rw [if_neg e1]
    rw [if_neg e1] at q
    exact q M1 f1.k h1 (fun e => by cases e)
  rw [if_pos e1]
  rw [if_pos e1] at q
  have wo1 := wo.1
  generalize (wrd c (sW 0) p).2 = r at *
  refine ⟨h1.2.1.2.1, digit_c h1 (fun d => ?_) (fun d => ?_)⟩
  case refine_2 =>
    rw [if_pos (by decide)]
    have d := of_decide_eq_false d
    rw [if_neg (by omega)] at q
    exact q M1 f1.k h1 (fun e => by cases e)
  have d := of_decide_eq_true d
  rw [if_neg (nI_pos (by omega))]
  by_cases e2 : 48 ≤ c r ∧ c r < 54
  case neg =>
    rw [if_neg (show ¬ nI (c r - 48).toNat < (6 : Int32) from nI_nlt (b := 6) (by omega) (by omega))]
    rw [if_neg e2] at q
    exact q M1 f1.k h1 (fun e => by cases e)
  rw [if_pos (show nI (c r - 48).toNat < (6 : Int32) from nI_lt (b := 6) (by omega) (by omega))]
  rw [if_pos e2] at q
  refine ⟨h1.2.1.2.1, fun M2 hE2 => ?_⟩
  rw [h1.2.2.2.2.2, nI_1] at hE2
  have l2 := ne_lt hc (p := r) (by omega)
  have f2 : pF a M1 M2 := pF.st hE2
  have h2 : rqC a c n (r + 1) M2 := rqC_mv h1 f2.g (by rw [hE2, mI_sI_s]) (by omega)
  refine skip_c h2 (by decide) (fun e3 M3 f3 h3 => ?_) (fun e3 => ?_)
  case refine_2 =>
    have e3 : ¬ c (r + 1) = 32 := e3
    rw [if_neg (by decide)]
    rw [if_neg e3] at q
    exact q M2 (f1.tr f2).k h2 (fun e => by cases e)
  have e3 : c (r + 1) = 32 := e3
  rw [if_pos rfl]
  rw [if_pos e3] at q
  have fa := (f1.tr f2).tr f3
  have t3 : sT a (tks acc) M3 := sT_p ⟨hI.2, hI.1.2.2.2.2.2⟩ fa
  refine ⟨h3.2.1.2.1, cond_c hc (r + 1 + 1) (tks acc) M3 _ h3 t3 (by have := ha.2; omega) fun E fE hE tE => ?_⟩
  by_cases e4 : (ei c 4 (r + 2)).1 = true
  case neg =>
    have e4' : ¬ (ei c 4 (r + 1 + 1)).1 = true := e4
    rw [if_neg e4']
    rw [if_neg e4] at q
    exact q E (fa.g.tr fE).k hE (fun e => by cases e)
  rw [show (ei c 4 (r + 1 + 1)).1 = true from e4, if_pos rfl]
  rw [if_pos e4] at q
  have tE : sT a (tks acc ++ (ei c 4 (r + 2)).2.2) E := tE e4
  have hE : rqC a c n (ei c 4 (r + 2)).2.1 E := hE
  generalize (ei c 4 (r + 2)).2.2 = tk at *
  have g := fa.g.tr fE
  have e3c : mI E a 3 = nI (cms acc).length := (g.2 _ _ (by omega) (by omega)).trans hI.1.2.2.2.1
  have vc : vp_in (nI (cms acc).length) 8 := vpN (by omega) (by omega)
  refine ⟨hE.2.1.2.1, a + 1, hE.2.1.2.2.1.1, ⟨8, hE.2.1.2.2.2.1, by rw [e3c]; exact vc⟩, fun N1 g1 => ⟨a + 2, by rw [g1]; exact hE.2.1.2.2.1.2.1, ⟨8, by rw [g1]; exact hE.2.1.2.2.2.2.1, ?_⟩, fun N2 g2 N3 g3 => ?_⟩⟩
  · rw [g1, mI_ne _ _ (by omega), e3c]; exact vc
  rw [e3c, nI_clamp (by omega)] at g1
  have e31 : mI N1 a 3 = nI (cms acc).length := by rw [g1, mI_ne _ _ (by omega)]; exact e3c
  have e71 : mI N1 a 7 = nI (tks acc ++ tk).length := by rw [g1, mI_ne _ _ (by omega)]; exact tE.1
  rw [e31, nI_clamp (by omega), e71] at g2
  have e32 : mI N2 a 3 = nI (cms acc).length := by rw [g2, mI_ne _ _ (by omega)]; exact e31
  rw [e32, nI_1] at g3
  have fk : kF a E N3 := ⟨by rw [g3, g2, g1]; exact Sm.rf E, fun b j q1 q2 => by rw [g3, mI_ne _ _ (by omega), g2, mI_ne _ _ (by omega), g1, mI_ne _ _ (by omega)]⟩
  refine q N3 (g.k.tr fk) (rqC_mk hE fk ?_ hE.2.2.2.2.1) (fun _ => wI_come hI ha.1 tE (fun b j q1 => g.2 _ _ (by omega) (by omega)) ?_ ?_ ?_ (fun b j q1 q2 => ?_))
  · rw [g3, mI_ne _ _ (by omega), g2, mI_ne _ _ (by omega), g1, mI_ne _ _ (by omega)]; exact hE.2.2.2.2.2
  · rw [g3, mI_sI_s]
  · rw [g3, mI_ne _ _ (by omega), g2, mI_ne _ _ (by omega), g1, mI_sI_s]
  · rw [g3, mI_ne _ _ (by omega), g2, mI_sI_s]
  · rw [g3, mI_ne _ _ (by omega), g2, mI_ne _ _ (by omega), g1, mI_ne _ _ (by omega)]
theorem nword_c {a n p : Nat} {c : Nat → Int} {M : Mem} {Q : Int32 → Mem → Prop} (h : rqC a c n p M) (q : ∀ M1, pF a M M1 → rqC a c n (nwd c p).2 M1 → Q (nI (nwd c p).1 - 1) M1) : f_X10_numberWord a M Q := by
  unfold f_X10_numberWord
  unfold nwd at q
  refine ⟨h.2.1.2.1, skip_c h (by decide) (fun e M1 f1 h1 => ?_) (fun e => ?_)⟩
  · have e : c p = 112 := e
    rw [if_pos rfl]
    rw [if_pos e] at q
    refine ⟨h1.2.1.2.1, word_c (by decide) h1 fun M2 f2 h2 => ?_⟩
    by_cases e1 : (wrd c (sW 3) (p + 1)).1 = true
    · rw [if_pos e1]; rw [if_pos e1] at q
      have q : Q (nI 1 - 1) M2 := q M2 (f1.tr f2) h2
      rw [show nI 1 - 1 = (0 : Int32) by decide] at q; exact q
    · rw [if_neg e1]; rw [if_neg e1] at q
      have q : Q (nI 0 - 1) M2 := q M2 (f1.tr f2) h2
      rw [show nI 0 - 1 = (-1 : Int32) by decide] at q; exact q
  · have e : ¬ c p = 112 := e
    rw [if_neg (by decide)]
    rw [if_neg e] at q
    refine ⟨h.2.1.2.1, word_c (by decide) h fun M1 f1 h1 => ?_⟩
    by_cases e1 : (wrd c (sW 4) p).1 = true
    case neg =>
      rw [if_neg e1]; rw [if_neg e1] at q
      have q : Q (nI 0 - 1) M1 := q M1 f1 h1
      rw [show nI 0 - 1 = (-1 : Int32) by decide] at q; exact q
    rw [if_pos e1]
    rw [if_pos e1] at q
    generalize (wrd c (sW 4) p).2 = r at *
    refine ⟨h1.2.1.2.1, skip_c h1 (by decide) (fun e M2 f2 h2 => ?_) (fun e => ?_)⟩
    · have e : c r = 114 := e
      rw [if_pos rfl]
      rw [if_pos e] at q
      refine ⟨h2.2.1.2.1, word_c (by decide) h2 fun M3 f3 h3 => ?_⟩
      by_cases e2 : (wrd c (sW 5) (r + 1)).1 = true
      · rw [if_pos e2]; rw [if_pos e2] at q
        have q : Q (nI 2 - 1) M3 := q M3 ((f1.tr f2).tr f3) h3
        rw [show nI 2 - 1 = (1 : Int32) by decide] at q; exact q
      · rw [if_neg e2]; rw [if_neg e2] at q
        have q : Q (nI 0 - 1) M3 := q M3 ((f1.tr f2).tr f3) h3
        rw [show nI 0 - 1 = (-1 : Int32) by decide] at q; exact q
    · have e : ¬ c r = 114 := e
      rw [if_neg (by decide)]
      rw [if_neg e] at q
      refine ⟨h1.2.1.2.1, word_c (by decide) h1 fun M3 f3 h3 => ?_⟩
      by_cases e2 : (wrd c (sW 6) r).1 = true
      · rw [if_pos e2]; rw [if_pos e2] at q
        have q : Q (nI 3 - 1) M3 := q M3 (f1.tr f3) h3
        rw [show nI 3 - 1 = (2 : Int32) by decide] at q; exact q
      · rw [if_neg e2]; rw [if_neg e2] at q
        have q : Q (nI 0 - 1) M3 := q M3 (f1.tr f3) h3
        rw [show nI 0 - 1 = (-1 : Int32) by decide] at q; exact q
theorem min_c {m t : Nat} (hm : m < 100) (ht : t < 100) : (if nI t < nI m then nI t else nI m) = nI (min m t) := by
  by_cases e : t < m
  · rw [if_pos (nI_lt e (by omega)), Nat.min_eq_right (by omega)]
  · rw [if_neg (nI_nlt (by omega) (by omega)), Nat.min_eq_left (by omega)]
theorem numC_c {a n p : Nat} {c : Nat → Int} {acc : List Cl} {M : Mem} {Q : Bool → Mem → Prop} (h : rqC a c n p M) (hI : wI a acc M) (q : ∀ M1, kF a M M1 → rqC a c n (numz c p).2.1 M1 → ((numz c p).1 = true → wI a (acc ++ [(numz c p).2.2]) M1) → Q (numz c p).1 M1) : f_X10_numberClause a M Q := by
  unfold f_X10_numberClause
  have hc := h.2.2.2.1.2.2.1
  have no := nwd_ok hc h.2.2.2.2.1
  unfold numz at q
  refine ⟨h.2.1.2.1, nword_c h fun M1 f1 h1 => ?_⟩
  generalize nwd c p = w at *
  obtain ⟨k, r⟩ := w
  have hk : k ≤ 3 := no.2.2
  have h1 : rqC a c n r M1 := h1
  show if 0 ≤ nI k - 1 then _ else _
  by_cases e1 : k = 0
  · subst e1
    rw [if_neg (by decide)]
    unfold f_X10_numberClause_J17
    rw [if_neg (by decide)]
    rw [if_pos rfl] at q
    exact q M1 f1.k h1 (fun e => by cases e)
  obtain ⟨k, rfl⟩ : ∃ k', k = k' + 1 := ⟨k - 1, by omega⟩
  rw [nI_pred, if_pos (nI_pos' (by omega))]
  rw [if_neg e1] at q
  have nu := num_ok hc h1.2.2.2.2.1
  refine ⟨h1.2.1.2.1, number_c h1 fun M2 f2 h2 => ?_⟩
  unfold f_X10_numberClause_J17
  have q : ∀ M1, kF a M M1 → rqC a c n (num c r).2.1 M1 → ((num c r).1 = true → wI a (acc ++ [(k + 1, (num c r).2.2, [])]) M1) → Q (num c r).1 M1 := by
    by_cases e2 : (num c r).1 = true
    · rw [if_pos e2] at q
      intro M1 g1 g2 g3
      rw [e2]; exact q M1 g1 g2 (fun _ => g3 e2)
    · rw [if_neg e2] at q
      intro M1 g1 g2 g3
      rw [Bool.eq_false_iff.mpr e2]
      exact q M1 g1 g2 (fun e => by cases e)
  by_cases e2 : (num c r).1 = true
  case neg =>
    rw [if_neg e2, if_neg (by decide)]
    have q := q M2 (f1.tr f2).k h2 (fun e => absurd e e2)
    rw [Bool.eq_false_iff.mpr e2] at q; exact q
  obtain ⟨-, n5⟩ := nu.2.2 e2
  rw [if_pos e2, if_pos (nI_pos' (by omega))]
  have q := fun M1 g1 g2 g3 => q M1 g1 g2 (fun _ => g3)
  rw [e2] at q
  have wI2 := wI_p hI (f1.tr f2)
  have fin_ : ∀ N x, N = sI M2 a k x → x = nI (min (num c r).2.2 (if k + 1 = 3 then 40 else 20)) → Q true N := by
    intro N x hN hx
    have fN : kF a M2 N := ⟨by rw [hN]; exact Sm.rf M2, fun b j q1 q2 => by rw [hN]; exact mI_ne _ _ (by omega)⟩
    exact q N ((f1.tr f2).k.tr fN) (rqC_mk h2 fN (by rw [hN, mI_ne _ _ (by omega)]; exact h2.2.2.2.2.2) h2.2.2.2.2.1) (wI_num (k := k + 1) wI2 (by omega) hx hN)
  by_cases k0 : k = 0
  · subst k0
    rw [if_pos (by decide)]
    exact ⟨h2.2.1.2.1, fun N hN => fin_ N _ hN (min_c (t := 20) n5 (by omega))⟩
  rw [if_neg (show ¬ nI k = (0 : Int32) from fun e => k0 ((nI_eq (b := 0) (by omega) (by omega)).mp e))]
  by_cases k1 : k = 1
  · subst k1
    rw [if_pos (by decide)]
    exact ⟨h2.2.1.2.1, fun N hN => fin_ N _ hN (min_c (t := 20) n5 (by omega))⟩
  rw [if_neg (show ¬ nI k = (1 : Int32) from fun e => k1 ((nI_eq (b := 1) (by omega) (by omega)).mp e))]
  obtain rfl : k = 2 := by omega
  exact ⟨h2.2.1.2.1, fun N hN => fin_ N _ hN (min_c (t := 40) n5 (by omega))⟩
/-- the window parses the text -/
def wF (a : Nat) (M M1 : Mem) : Prop := (mN M1 = mN M ∧ mS M1 = mS M ∧ mL M1 = mL M) ∧ (∀ b j, ¬ (b = a ∧ j = 8) → mP M1 b j = mP M b j) ∧ ∀ b j, ¬ (a ≤ b ∧ b < a + 4) → mI M1 b j = mI M b j
theorem bi_tq : ¬ bi true = 0 := by decide
theorem parseL_c {a n : Nat} {c : Nat → Int} {r1 : Option Nat} {x2 : Int32} {M : Mem} {Q : Int32 → Mem → Prop} (h : rqC a c n 0 M) (hI : wI a [] M) (q : ∀ M1, kF a M M1 → ((gtx c n 8 0 []).1 = true → wI a (gtx c n 8 0 []).2.2 M1) → Q (if (gtx c n 8 0 []).1 = true then -1 else nI (gtx c n 8 0 []).2.1) M1) : f_X10_parse_L43 a r1 x2 1 M Q := by
  unfold f_X10_parse_L43
  have hc := h.2.2.2.1.2.2.1
  have h100 := h.2.2.2.1.1
  refine ⟨fun z => ∃ k p acc N, z = (nI (8 - k), N) ∧ k ≤ 7 ∧ rqC a c n p N ∧ wI a acc N ∧ aOk acc p ∧ acc.length + k = 7 ∧ kF a M N ∧ gtx c n 8 0 [] = gtx c n (k + 1) p acc, fun z => 9 - z.1.toNatClampNeg, ⟨7, 0, [], M, rfl, Nat.le_refl _, h, hI, ⟨fun c hc => (by cases hc), Nat.le_refl _⟩, rfl, kF.rf a M, rfl⟩, ?_⟩
  rintro z ⟨k, p, acc, N, rfl, hk, hN, iN, ok, hl, fN, hg⟩
  show f_X10_parse_B43 a r1 x2 (nI (8 - k)) N _ Q
  unfold f_X10_parse_B43
  rw [if_neg (show ¬ (8 : Int32) < nI (8 - k) from nI_nlt (a := 8) (by omega) (by omega))]
  have hp := hN.2.2.2.2.1
  have zo := clz_ok hc hp
  -- behind the clause
  have nx : ∀ M1, kF a N M1 → rqC a c n (clz c p).2.1 M1 → ((clz c p).1 = true → wI a (acc ++ [(clz c p).2.2]) M1) → f_X10_parse_J69 a r1 x2 (nI (8 - k)) (bi (clz c p).1) M1 (fun z' => (∃ k p acc N, z' = (nI (8 - k), N) ∧ k ≤ 7 ∧ rqC a c n p N ∧ wI a acc N ∧ aOk acc p ∧ acc.length + k = 7 ∧ kF a M N ∧ gtx c n 8 0 [] = gtx c n (k + 1) p acc) ∧ 9 - z'.1.toNatClampNeg < 9 - (nI (8 - k)).toNatClampNeg) Q := by
    intro M1 f1 h1 i1
    have q := q M1 (fN.tr f1)
    rw [hg] at q
    unfold gtx at q
    unfold f_X10_parse_J69
    by_cases e1 : (clz c p).1 = true
    case neg =>
      rw [if_neg e1] at q
      rw [Bool.eq_false_iff.mpr e1, if_pos (show bi false = 0 by decide)]
      unfold f_X10_parse_J89 f_X10_parse_J109
      rw [if_pos (show bi false = 0 by decide)]
      refine ⟨h1.2.1.2.1, ?_⟩
      rw [h1.2.2.2.2.2]
      exact q (fun e => by cases e)
    rw [if_pos e1] at q
    have i1 := i1 e1
    have a1 := aOk_s hc hp ok e1
    rw [e1, if_neg bi_tq]
    refine ⟨h1.2.1.2.1, ?_⟩
    have hr := h1.2.2.2.2.1
    rw [h1.2.2.2.2.2, h1.2.2.2.1.2.1]
    by_cases e2 : (clz c p).2.1 = n
    · rw [e2, if_pos rfl]
      rw [if_pos e2] at q
      exact q (fun _ => i1)
    rw [if_neg (fun e => e2 ((nI_eq (by omega) (by omega)).mp e))]
    rw [if_neg e2] at q
    unfold f_X10_parse_J89 f_X10_parse_J109
    rw [if_neg bi_tq]
    by_cases e3 : k = 0
    · rw [if_pos (show nI (8 - k) = (8 : Int32) by rw [e3]; rfl)]
      rw [if_pos e3] at q
      refine ⟨h1.2.1.2.1, ?_⟩
      rw [h1.2.2.2.2.2]
      exact q (fun e => by cases e)
    rw [if_neg (show ¬ nI (8 - k) = (8 : Int32) from fun e => e3 (by have := (nI_eq (b := 8) (by omega) (by omega)).mp e; omega))]
    rw [if_neg e3] at q
    refine ⟨h1.2.1.2.1, skip_c h1 (by decide) (fun e M2 f2 h2 => ?_) (fun e => ?_)⟩
    · have e : c (clz c p).2.1 = 59 := e
      rw [if_pos rfl]
      refine ⟨⟨k - 1, (clz c p).2.1 + 1, acc ++ [(clz c p).2.2], M2, ?_, by omega, h2, wI_p i1 f2, ⟨a1.1, by have := a1.2; omega⟩, ?_, (fN.tr f1).tr f2.k, ?_⟩, ?_⟩
      · rw [nI_1, show 8 - k + 1 = 8 - (k - 1) by omega]
      · rw [List.length_append]; show acc.length + 1 + (k - 1) = 7; omega
      · rw [hg]
        show gtx c n (k + 1) p acc = _
        rw [show k - 1 + 1 = k by omega]
        show (if (clz c p).1 = true then (if (clz c p).2.1 = n then _ else if k = 0 then _ else if c (clz c p).2.1 = 59 then _ else _) else _) = _
        rw [if_pos e1, if_neg e2, if_neg e3, if_pos e]
      · show 9 - (nI (8 - k) + 1).toNatClampNeg < _
        rw [nI_1, nI_clamp (by omega), nI_clamp (by omega)]; omega
    · have e : ¬ c (clz c p).2.1 = 59 := e
      rw [if_neg (by decide)]
      rw [if_neg e] at q
      refine ⟨h1.2.1.2.1, ?_⟩
      rw [h1.2.2.2.2.2]
      exact q (fun e => by cases e)
  refine ⟨hN.2.1.2.1, skip_c hN (by decide) (fun e M1 f1 h1 => ?_) (fun e => ?_)⟩
  · have e : c p = 99 := e
    rw [if_pos rfl]
    have ez : clz c p = comz c (p + 1) := if_pos e
    rw [ez] at nx
    exact ⟨h1.2.1.2.1, comeC_c h1 (wI_p iN f1) ⟨ok.1, by have := ok.2; omega⟩ (by omega) fun M2 f2 h2 i2 => nx M2 (f1.k.tr f2) h2 i2⟩
  · have e : ¬ c p = 99 := e
    rw [if_neg (by decide)]
    have ez : clz c p = numz c p := if_neg e
    rw [ez] at nx
    exact ⟨hN.2.1.2.1, numC_c hN iN fun M2 f2 h2 i2 => nx M2 f2 h2 i2⟩
theorem parse_c {a n : Nat} {c : Nat → Int} {M : Mem} {Q : Int32 → Mem → Prop} (ha : 40 ≤ a ∧ a < 61) (hw : wO a M) (hs : mS M 8 = .inr (1, 100)) (hn : n ≤ 100) (hc : cEnd c n) (ht : ∀ k, k < n → (mI M 8 k).toInt = c k) (q : ∀ M1, wF a M M1 → ((gtx c n 8 0 []).1 = true → wC M1 a (gtx c n 8 0 []).2.2) → Q (if (gtx c n 8 0 []).1 = true then -1 else nI (gtx c n 8 0 []).2.1) M1) : f_X10_parse a (some 8) (nI n) M Q := by
  unfold f_X10_parse
  refine ⟨hw.2.1, fun N1 g1 N2 g2 N3 g3 N4 g4 N5 g5 N6 g6 N7 g7 N8 g8 => ?_⟩
  subst g1; subst g2; subst g3; subst g4; subst g5; subst g6; subst g7; subst g8
  generalize hN : sI (sI (sP (sI (sI (sI (sI (sI M a 0 0) a 1 0) a 2 30) a 3 0) a 7 0) a 8 (some 8)) a 9 (nI n)) a 10 0 = N
  have nS : mS N = mS M := by rw [← hN]; rfl
  have nP : ∀ b j, ¬ (b = a ∧ j = 8) → mP N b j = mP M b j := fun b j q => by rw [← hN]; exact if_neg q
  have n8 : mP N a 8 = some 8 := by rw [← hN]; exact if_pos ⟨rfl, rfl⟩
  have nI_ : ∀ b j, mI N b j = mI (sI (sI (sI (sI (sI (sI (sI M a 0 0) a 1 0) a 2 30) a 3 0) a 7 0) a 9 (nI n)) a 10 0) b j := fun b j => by rw [← hN]; rfl
  have nO : ∀ b j, ¬ b = a → mI N b j = mI M b j := fun b j q => by
    rw [nI_, mI_ne _ _ (by omega), mI_ne _ _ (by omega), mI_ne _ _ (by omega), mI_ne _ _ (by omega), mI_ne _ _ (by omega), mI_ne _ _ (by omega), mI_ne _ _ (by omega)]
  have hwN : wO a N := by
    obtain ⟨w1, ⟨ci, w2, w3⟩, ⟨w4, w5, w6⟩, w7, w8, w9⟩ := hw
    exact ⟨w1, ⟨ci, w2, by rw [nS]; exact w3⟩, ⟨by rw [nP _ _ (by omega)]; exact w4, by rw [nP _ _ (by omega)]; exact w5, by rw [nP _ _ (by omega)]; exact w6⟩, by rw [nS]; exact w7, by rw [nS]; exact w8, by rw [nS]; exact w9⟩
  have a10 : mI N a 10 = 0 := by rw [nI_, mI_sI_s]
  have a9 : mI N a 9 = nI n := by rw [nI_, mI_ne _ _ (by omega), mI_sI_s]
  have a7 : mI N a 7 = 0 := by rw [nI_, mI_ne _ _ (by omega), mI_ne _ _ (by omega), mI_sI_s]
  have a3 : mI N a 3 = 0 := by rw [nI_, mI_ne _ _ (by omega), mI_ne _ _ (by omega), mI_ne _ _ (by omega), mI_sI_s]
  have a2 : mI N a 2 = 30 := by rw [nI_, mI_ne _ _ (by omega), mI_ne _ _ (by omega), mI_ne _ _ (by omega), mI_ne _ _ (by omega), mI_sI_s]
  have a1 : mI N a 1 = 0 := by rw [nI_, mI_ne _ _ (by omega), mI_ne _ _ (by omega), mI_ne _ _ (by omega), mI_ne _ _ (by omega), mI_ne _ _ (by omega), mI_sI_s]
  have a0 : mI N a 0 = 0 := by rw [nI_, mI_ne _ _ (by omega), mI_ne _ _ (by omega), mI_ne _ _ (by omega), mI_ne _ _ (by omega), mI_ne _ _ (by omega), mI_ne _ _ (by omega), mI_sI_s]
  have hr : rqC a c n 0 N := ⟨ha, hwN, ⟨n8, by rw [nS]; exact hs⟩, ⟨hn, a9, hc, fun k hk => by rw [nO _ _ (by omega)]; exact ht k hk⟩, Nat.zero_le _, a10⟩
  have hI : wI a [] N := ⟨⟨a0, a1, a2, a3, fun j c e => (by cases e), fun k t e => (by cases e)⟩, a7⟩
  have w0 : mN N = mN M ∧ mL N = mL M := by rw [← hN]; exact ⟨rfl, rfl⟩
  refine parseL_c hr hI fun M1 f1 i1 => q M1 ⟨⟨f1.1.1.trans w0.1, f1.1.2.1.trans nS, f1.1.2.2.2.trans w0.2⟩, fun b j e => by rw [f1.1.2.2.1]; exact nP b j e, fun b j e => (f1.2 b j (by omega) (by omega)).trans (nO b j (by omega))⟩ (fun e => (i1 e).1)
