/-! ===== the conditions by the class: both, either, factor ===== -/
def fC (a : Nat) (c : Nat → Int) (n : Nat) (g : Nat → Rz) (F : Mem → (Bool → Mem → Prop) → Prop) : Prop := ∀ (p : Nat) (ts : List Int) (M : Mem) (Q : Bool → Mem → Prop), rqC a c n p M → sT a ts M → ts.length ≤ p → (∀ M1, gF a M M1 → rqC a c n (g p).2.1 M1 → ((g p).1 = true → sT a (ts ++ (g p).2.2) M1) → Q (g p).1 M1) → F M Q
def gJ (a : Nat) (sep : Int32) (v : Int32) (M : Mem) (K : Int32 × Mem → Prop) (Q : Bool → Mem → Prop) : Prop := isO M a [10] ∧ f_X10_skip a sep M (fun w1 M2 => if w1 = true then K (v + 1, M2) else Q true M2)
def gB (a : Nat) (sep op : Int32) (F : Mem → (Bool → Mem → Prop) → Prop) (v : Int32) (M : Mem) (K : Int32 × Mem → Prop) (Q : Bool → Mem → Prop) : Prop := if (100 : Int32) ≤ v then Q false M else (isO M a [10] ∧ F M (fun w2 M3 => if w2 = true then (if v ≤ 0 then gJ a sep v M3 K Q else (isO M3 a [10] ∧ f_X10_step a op M3 (fun M8 => gJ a sep v M8 K Q))) else Q false M3))
def gL (a : Nat) (sep op : Int32) (F : Mem → (Bool → Mem → Prop) → Prop) (M : Mem) (Q : Bool → Mem → Prop) : Prop := loopP (fun K z => gB a sep op F z.1 z.2 K Q) ((0 : Int32), M)
/-- what a row of parts comes to, from its k-th part on, which begins at q -/
def cnt_ (c : Nat → Int) (g : Nat → Rz) (sep op : Int) (k q : Nat) (acc : List Int) : Rz := if (g q).1 = true then rch c g sep op (101 - k) (g q).2.1 (if k = 0 then (g q).2.2 else acc ++ (g q).2.2 ++ [op]) else (false, (g q).2.1, [])
theorem gL_c {a n b : Nat} {c : Nat → Int} {g : Nat → Rz} {sep op : Int32} {F : Mem → (Bool → Mem → Prop) → Prop} {opI : Int} (hs : sep.toInt ≠ -1000) (hop : op = Int32.ofInt opI) (hg : ∀ q, q ≤ n → okR c n q b (g q)) (hF : fC a c n g F) : fC a c n (chn c g sep.toInt opI) (fun M Q => gL a sep op F M Q) := by
  intro p ts M Q h hT hl q
  show gL a sep op F M Q
  unfold gL
  have h100 := h.2.2.2.1.1
  refine ⟨fun z => ∃ k q acc N, z = (nI k, N) ∧ chn c g sep.toInt opI p = cnt_ c g sep.toInt opI k q acc ∧ rqC a c n q N ∧ sT a (ts ++ acc) N ∧ (k = 0 → acc = []) ∧ p + 2 * k ≤ q ∧ ts.length + acc.length + min k 1 ≤ q ∧ gF a M N, fun z => 101 - z.1.toNatClampNeg, ⟨0, p, [], M, rfl, ?_, h, by rw [List.append_nil]; exact hT, fun _ => rfl, Nat.le_refl _, by show ts.length + 0 + 0 ≤ p; omega, gF.rf a M⟩, ?_⟩
  · unfold chn cnt_
    rw [if_pos (rfl : (0 : Nat) = 0)]
  rintro z ⟨k, r, acc, N, rfl, hch, hN, tN, hk0, hr, hacc, fN⟩
  show gB a sep op F (nI k) N _ Q
  unfold gB
  have hrn := hN.2.2.2.2.1
  rw [if_neg (show ¬ (100 : Int32) ≤ nI k from nI_ge (b := 100) (by omega) (by omega))]
  refine ⟨hN.2.1.2.1, hF r (ts ++ acc) N _ hN tN (by rw [List.length_append]; omega) fun M1 f1 h1 t1 => ?_⟩
  obtain ⟨g1, g2, g3⟩ := hg r hrn
  by_cases gz : (g r).1 = true
  case neg =>
    rw [if_neg gz]
    have ez : cnt_ c g sep.toInt opI k r acc = (false, (g r).2.1, []) := by unfold cnt_; rw [if_neg gz]
    have q := q M1 (fN.tr f1)
    rw [hch, ez] at q
    exact q h1 (fun e => by cases e)
  rw [if_pos gz]
  have t1 := t1 gz
  obtain ⟨g4, g5, -, -⟩ := g3 gz
  -- behind the part, and its sign
  have nx : ∀ M2 tk, tk = (if k = 0 then (g r).2.2 else acc ++ (g r).2.2 ++ [opI]) → gF a M M2 → rqC a c n (g r).2.1 M2 → sT a (ts ++ tk) M2 → gJ a sep (nI k) M2 (fun z' => (∃ k q acc N, z' = (nI k, N) ∧ chn c g sep.toInt opI p = cnt_ c g sep.toInt opI k q acc ∧ rqC a c n q N ∧ sT a (ts ++ acc) N ∧ (k = 0 → acc = []) ∧ p + 2 * k ≤ q ∧ ts.length + acc.length + min k 1 ≤ q ∧ gF a M N) ∧ 101 - z'.1.toNatClampNeg < 101 - (nI k).toNatClampNeg) Q := by
    intro M2 tk htk f2 h2 t2
    have ez : cnt_ c g sep.toInt opI k r acc = rch c g sep.toInt opI (100 - k + 1) (g r).2.1 tk := by
      unfold cnt_; rw [if_pos gz, htk, show 101 - k = 100 - k + 1 by omega]
    have htl : ts.length + tk.length ≤ (g r).2.1 := by
      rw [htk]
      by_cases e : k = 0
      · rw [if_pos e]; omega
      · rw [if_neg e, List.length_append, List.length_append]
        show ts.length + (acc.length + (g r).2.2.length + 1) ≤ _
        omega
    unfold gJ
    refine ⟨h2.2.1.2.1, skip_c h2 hs (fun e M3 f3 h3 => ?_) (fun e => ?_)⟩
    · rw [if_pos rfl]
      refine ⟨⟨k + 1, (g r).2.1 + 1, tk, M3, by rw [nI_1], ?_, h3, sT_p t2 f3, fun e => by omega, by omega, by omega, f2.tr f3.g⟩, ?_⟩
      · rw [hch, ez]
        unfold cnt_
        show (if c (g r).2.1 = sep.toInt then _ else _) = _
        rw [if_pos e, if_neg (show ¬ k + 1 = 0 by omega), show 101 - (k + 1) = 100 - k by omega]
      · show 101 - (nI k + 1).toNatClampNeg < _
        rw [nI_1, nI_clamp (by omega), nI_clamp (by omega)]; omega
    · rw [if_neg (by decide)]
      have er : chn c g sep.toInt opI p = (true, (g r).2.1, tk) := by
        rw [hch, ez]
        show (if c (g r).2.1 = sep.toInt then _ else _) = _
        rw [if_neg e]
      have q := q M2 f2
      rw [er] at q
      exact q h2 (fun _ => t2)
  by_cases e : k = 0
  · rw [if_pos (show nI k ≤ 0 by rw [e]; decide)]
    refine nx M1 _ rfl (fN.tr f1) h1 ?_
    rw [if_pos e]
    rw [hk0 e, List.append_nil] at t1
    exact t1
  · rw [if_neg (nI_nle (by omega) (by omega))]
    rw [hop]
    refine ⟨h1.2.1.2.1, step_c (x := opI) h1 t1 ?_ fun M2 f2 h2 t2 => nx M2 _ rfl ((fN.tr f1).tr f2) h2 ?_⟩
    · rw [List.length_append, List.length_append]
      have hb : (g r).2.1 ≤ n := g2
      omega
    · rw [if_neg e]
      rw [List.append_assoc, List.append_assoc] at t2
      rw [List.append_assoc]; exact t2
theorem both_c {a n t : Nat} {c : Nat → Int} {x : Int32} {fF : Nat → Int32 → Mem → (Bool → Mem → Prop) → Prop} (hc : cEnd c n) (hF : fC a c n (fac c t) (fun M Q => fF a x M Q)) : fC a c n (bo c t) (fun M Q => f_X10_both a x M fF Q) :=
  gL_c (sep := 38) (op := -1) (opI := -1) (by decide) (by decide) (fun q hq => fac_ok hc t q hq) hF
theorem either_c {a n t : Nat} {c : Nat → Int} {x : Int32} {fF : Nat → Int32 → Mem → (Bool → Mem → Prop) → Prop} (hc : cEnd c n) (hF : fC a c n (bo c t) (fun M Q => fF a x M Q)) : fC a c n (ei c t) (fun M Q => f_X10_either a x M fF Q) :=
  gL_c (sep := 124) (op := -2) (opI := -2) (by decide) (by decide) (fun q hq => (bo_ok hc hq).1) hF
theorem fac_c {a n : Nat} {c : Nat → Int} (hc : cEnd c n) : ∀ (t s : Nat), t ≤ 4 → t + 1 ≤ s → fC a c n (fac c t) (fun M Q => fFac s a (nI (4 - t)) M Q)
  | _, 0, _, h2 => by omega
  | 0, s + 1, _, _ => by
    intro p ts M Q h hT hl q
    show f_X10_factor a (nI 4) M (fun a x M Q => f_X10_either a x M (fun a x M Q => f_X10_both a x M (fFac s) Q) Q) (fFac s) Q
    unfold f_X10_factor f_X10_factor_J34
    rw [if_pos (by decide), if_pos (by decide)]
    unfold f_X10_factor_J73
    exact ⟨h.2.1.2.1, test_c h hT hl q⟩
  | t + 1, s + 1, h1, h2 => by
    have ih := fac_c (a := a) hc t s (by omega) (by omega)
    intro p ts M Q h hT hl q
    have hp := h.2.2.2.2.1
    have h100 := h.2.2.2.1.1
    show f_X10_factor a (nI (4 - (t + 1))) M (fun a x M Q => f_X10_either a x M (fun a x M Q => f_X10_both a x M (fFac s) Q) Q) (fFac s) Q
    have hx : ¬ (4 : Int32) ≤ nI (4 - (t + 1)) := nI_ge (b := 4) (by omega) (by omega)
    have hx1 : nI (4 - (t + 1)) + (1 : Int32) = nI (4 - t) := by rw [nI_1]; congr 1; omega
    unfold f_X10_factor
    rw [if_neg hx]
    rw [fac_s] at q
    refine ⟨h.2.1.2.1, skip_c h (by decide) (fun e M1 f1 h1 => ?_) (fun e => ?_)⟩
    · have e : c p = 33 := e
      rw [if_pos rfl, hx1]
      rw [if_pos e] at q
      have ok := fac_ok hc t (p + 1) h1.2.2.2.2.1
      refine ⟨h1.2.1.2.1, ih (p + 1) ts M1 _ h1 (sT_p hT f1) (by omega) fun M2 f2 h2 t2 => ?_⟩
      by_cases gz : (fac c t (p + 1)).1 = true
      · rw [if_pos gz]
        unfold nt at q
        rw [if_pos gz] at q
        have o2 := ok.2.2 gz
        have t2 := t2 gz
        rw [show (-3 : Int32) = Int32.ofInt (-3) by decide]
        refine ⟨h2.2.1.2.1, step_c (x := -3) h2 t2 ?_ fun M3 f3 h3 t3 => ?_⟩
        · rw [List.length_append]
          have := ok.2.1
          omega
        · refine q M3 ((f1.g.tr f2).tr f3) h3 (fun _ => ?_)
          rw [List.append_assoc] at t3; exact t3
      · rw [if_neg gz]
        unfold nt at q
        rw [if_neg gz] at q
        exact q M2 (f1.g.tr f2) h2 (fun e => by cases e)
    · have e : ¬ c p = 33 := e
      rw [if_neg (by decide)]
      rw [if_neg e] at q
      unfold f_X10_factor_J34
      rw [if_neg hx]
      refine ⟨h.2.1.2.1, skip_c h (by decide) (fun e M1 f1 h1 => ?_) (fun e => ?_)⟩
      · have e : c p = 40 := e
        rw [if_pos rfl, hx1]
        rw [if_pos e] at q
        refine ⟨h1.2.1.2.1, either_c (fF := fun a x M Q => f_X10_both a x M (fFac s) Q) hc (both_c hc ih) (p + 1) ts M1 _ h1 (sT_p hT f1) (by omega) fun M2 f2 h2 t2 => ?_⟩
        unfold par at q
        by_cases gz : (ei c t (p + 1)).1 = true
        · rw [if_pos gz]
          rw [if_pos gz] at q
          have t2 := t2 gz
          refine ⟨h2.2.1.2.1, skip_c h2 (by decide) (fun e M3 f3 h3 => ?_) (fun e => ?_)⟩
          · have e : c (ei c t (p + 1)).2.1 = 41 := e
            rw [if_pos rfl]
            rw [if_pos e] at q
            exact q M3 ((f1.g.tr f2).tr f3.g) h3 (fun _ => sT_p t2 f3)
          · have e : ¬ c (ei c t (p + 1)).2.1 = 41 := e
            rw [if_neg (by decide)]
            rw [if_neg e] at q
            exact q M2 (f1.g.tr f2) h2 (fun e => by cases e)
        · rw [if_neg gz]
          rw [if_neg gz] at q
          exact q M2 (f1.g.tr f2) h2 (fun e => by cases e)
      · have e : ¬ c p = 40 := e
        rw [if_neg (by decide)]
        rw [if_neg e] at q
        unfold f_X10_factor_J73
        exact ⟨h.2.1.2.1, test_c h hT hl q⟩
theorem cond_c {a n : Nat} {c : Nat → Int} (hc : cEnd c n) : fC a c n (ei c 4) (fun M Q => fEi a 0 M Q) :=
  either_c (fF := fBo 6) hc (both_c (fF := fFac 6) hc (fac_c hc 4 6 (by omega) (by omega)))
/-! ===== clauses ===== -/
abbrev Cz : Type := Bool × Nat × Cl
def cl0 : Cl := (9, 0, [])
def comz (c : Nat → Int) (p : Nat) : Cz :=
  if (wrd c (sW 0) p).1 = true then
    (if 48 ≤ c (wrd c (sW 0) p).2 ∧ c (wrd c (sW 0) p).2 < 54 then
      (if c ((wrd c (sW 0) p).2 + 1) = 32 then
        (if (ei c 4 ((wrd c (sW 0) p).2 + 2)).1 = true then (true, (ei c 4 ((wrd c (sW 0) p).2 + 2)).2.1, (0, (c (wrd c (sW 0) p).2 - 48).toNat, (ei c 4 ((wrd c (sW 0) p).2 + 2)).2.2)) else (false, (ei c 4 ((wrd c (sW 0) p).2 + 2)).2.1, cl0))
      else (false, (wrd c (sW 0) p).2 + 1, cl0))
    else (false, (wrd c (sW 0) p).2, cl0))
  else (false, (wrd c (sW 0) p).2, cl0)
/-- which word stands there, with its blank: 1 price, 2 more, 3 most -/
def nwd (c : Nat → Int) (p : Nat) : Nat × Nat :=
  if c p = 112 then (if (wrd c (sW 3) (p + 1)).1 = true then (1, (wrd c (sW 3) (p + 1)).2) else (0, (wrd c (sW 3) (p + 1)).2))
  else if (wrd c (sW 4) p).1 = true then
    (if c (wrd c (sW 4) p).2 = 114 then (if (wrd c (sW 5) ((wrd c (sW 4) p).2 + 1)).1 = true then (2, (wrd c (sW 5) ((wrd c (sW 4) p).2 + 1)).2) else (0, (wrd c (sW 5) ((wrd c (sW 4) p).2 + 1)).2))
    else (if (wrd c (sW 6) (wrd c (sW 4) p).2).1 = true then (3, (wrd c (sW 6) (wrd c (sW 4) p).2).2) else (0, (wrd c (sW 6) (wrd c (sW 4) p).2).2)))
  else (0, (wrd c (sW 4) p).2)
def numz (c : Nat → Int) (p : Nat) : Cz :=
  if (nwd c p).1 = 0 then (false, (nwd c p).2, cl0)
  else if (num c (nwd c p).2).1 = true then (true, (num c (nwd c p).2).2.1, ((nwd c p).1, (num c (nwd c p).2).2.2, [])) else (false, (num c (nwd c p).2).2.1, cl0)
def clz (c : Nat → Int) (p : Nat) : Cz := if c p = 99 then comz c (p + 1) else numz c p
/-- the clauses from p on, k at most -/
def gtx (c : Nat → Int) (n : Nat) : Nat → Nat → List Cl → Bool × Nat × List Cl
  | 0, p, _ => (false, p, [])
  | k + 1, p, acc => if (clz c p).1 = true then (if (clz c p).2.1 = n then (true, n, acc ++ [(clz c p).2.2]) else if k = 0 then (false, (clz c p).2.1, []) else if c (clz c p).2.1 = 59 then gtx c n k ((clz c p).2.1 + 1) (acc ++ [(clz c p).2.2]) else (false, (clz c p).2.1, [])) else (false, (clz c p).2.1, [])
theorem wrd_ok {c : Nat → Int} {n : Nat} (hc : cEnd c n) : ∀ (l : List Int) (p : Nat), (∀ x, x ∈ l → x ≠ -1000) → p ≤ n → p ≤ (wrd c l p).2 ∧ (wrd c l p).2 ≤ n ∧ ((wrd c l p).1 = true → (wrd c l p).2 = p + l.length)
  | [], p, _, hp => ⟨Nat.le_refl _, hp, fun _ => rfl⟩
  | x :: r, p, hx, hp => by
    unfold wrd
    by_cases e : c p = x
    · rw [if_pos e]
      have lp := ne_lt hc (p := p) (by rw [e]; exact hx x (List.mem_cons_self ..))
      obtain ⟨i1, i2, i3⟩ := wrd_ok hc r (p + 1) (fun y hy => hx y (List.mem_cons_of_mem _ hy)) (by omega)
      exact ⟨by omega, i2, fun h => by have := i3 h; show _ = p + (r.length + 1); omega⟩
    · rw [if_neg e]; exact ⟨Nat.le_refl _, hp, fun h => by cases h⟩
theorem sW_ne : ∀ s, s < 7 → ∀ x, x ∈ sW s → x ≠ -1000 := by decide
def cOk (c : Cl) : Prop := c.1 ≤ 3 ∧ (c.1 = 0 → c.2.1 < 6 ∧ WFp c.2.2) ∧ (c.1 ≠ 0 → c.2.1 < 100 ∧ c.2.2 = [])
theorem ei_wf {c : Nat → Int} {n p : Nat} (hc : cEnd c n) (hp : p ≤ n) (h : (ei c 4 p).1 = true) : WFp (ei c 4 p).2.2 ∧ (ei c 4 p).2.2.length ≤ (ei c 4 p).2.1 - p ∧ p + 1 ≤ (ei c 4 p).2.1 := by
  obtain ⟨-, -, h3⟩ := (ei_ok (t := 4) hc hp).1
  obtain ⟨h4, h5, h6, h7⟩ := h3 h
  have := h7 0 [] (by omega)
  rw [List.append_nil] at this
  exact ⟨⟨this, h6⟩, h5, h4⟩
theorem comz_ok {c : Nat → Int} {n p : Nat} (hc : cEnd c n) (hp : p ≤ n) : p ≤ (comz c p).2.1 ∧ (comz c p).2.1 ≤ n ∧ ((comz c p).1 = true → cOk (comz c p).2.2 ∧ (comz c p).2.2.2.2.length + p ≤ (comz c p).2.1 ∧ (comz c p).2.2.1 = 0) := by
  unfold comz
  obtain ⟨w1, w2, w3⟩ := wrd_ok hc (sW 0) p (sW_ne 0 (by decide)) hp
  by_cases e1 : (wrd c (sW 0) p).1 = true
  case neg => rw [if_neg e1]; exact ⟨w1, w2, fun h => by cases h⟩
  rw [if_pos e1]
  have w3 := w3 e1
  generalize (wrd c (sW 0) p).2 = r at *
  by_cases e2 : 48 ≤ c r ∧ c r < 54
  case neg => rw [if_neg e2]; exact ⟨w1, w2, fun h => by cases h⟩
  rw [if_pos e2]
  have l2 := ne_lt hc (p := r) (by omega)
  by_cases e3 : c (r + 1) = 32
  case neg => rw [if_neg e3]; exact ⟨by show p ≤ r + 1; omega, by show r + 1 ≤ n; omega, fun h => by cases h⟩
  rw [if_pos e3]
  have l3 := ne_lt hc (p := r + 1) (by omega)
  have ok := (ei_ok (t := 4) hc (p := r + 2) (by omega)).1
  by_cases e4 : (ei c 4 (r + 2)).1 = true
  case neg => rw [if_neg e4]; exact ⟨by have := ok.1; show p ≤ (ei c 4 (r + 2)).2.1; omega, ok.2.1, fun h => by cases h⟩
  rw [if_pos e4]
  obtain ⟨f1, f2, f3⟩ := ei_wf hc (p := r + 2) (by omega) e4
  refine ⟨by show p ≤ (ei c 4 (r + 2)).2.1; omega, ok.2.1, fun _ => ⟨⟨Nat.zero_le _, fun _ => ⟨?_, f1⟩, fun h => absurd rfl h⟩, ?_, rfl⟩⟩
  · show (c r - 48).toNat < 6; omega
  · show (ei c 4 (r + 2)).2.2.length + p ≤ (ei c 4 (r + 2)).2.1; omega
theorem nwd_ok {c : Nat → Int} {n p : Nat} (hc : cEnd c n) (hp : p ≤ n) : p ≤ (nwd c p).2 ∧ (nwd c p).2 ≤ n ∧ (nwd c p).1 ≤ 3 := by
  unfold nwd
  by_cases e1 : c p = 112
  · rw [if_pos e1]
    have lp := ne_lt hc (p := p) (by omega)
    obtain ⟨w1, w2, w3⟩ := wrd_ok hc (sW 3) (p + 1) (sW_ne 3 (by decide)) (by omega)
    split
    · exact ⟨by show p ≤ (wrd c (sW 3) (p + 1)).2; omega, w2, by show 1 ≤ 3; omega⟩
    · exact ⟨by show p ≤ (wrd c (sW 3) (p + 1)).2; omega, w2, by show 0 ≤ 3; omega⟩
  · rw [if_neg e1]
    obtain ⟨w1, w2, w3⟩ := wrd_ok hc (sW 4) p (sW_ne 4 (by decide)) hp
    generalize wrd c (sW 4) p = w at *
    by_cases e2 : w.1 = true
    · rw [if_pos e2]
      by_cases e3 : c w.2 = 114
      · rw [if_pos e3]
        have lp := ne_lt hc (p := w.2) (by omega)
        obtain ⟨u1, u2, u3⟩ := wrd_ok hc (sW 5) (w.2 + 1) (sW_ne 5 (by decide)) (by omega)
        generalize wrd c (sW 5) (w.2 + 1) = u at *
        split
        · exact ⟨by show p ≤ u.2; omega, u2, by show 2 ≤ 3; omega⟩
        · exact ⟨by show p ≤ u.2; omega, u2, by show 0 ≤ 3; omega⟩
      · rw [if_neg e3]
        obtain ⟨u1, u2, u3⟩ := wrd_ok hc (sW 6) w.2 (sW_ne 6 (by decide)) (by omega)
        generalize wrd c (sW 6) w.2 = u at *
        split
        · exact ⟨by show p ≤ u.2; omega, u2, by show 3 ≤ 3; omega⟩
        · exact ⟨by show p ≤ u.2; omega, u2, by show 0 ≤ 3; omega⟩
    · rw [if_neg e2]; exact ⟨w1, w2, by show 0 ≤ 3; omega⟩
theorem numz_ok {c : Nat → Int} {n p : Nat} (hc : cEnd c n) (hp : p ≤ n) : p ≤ (numz c p).2.1 ∧ (numz c p).2.1 ≤ n ∧ ((numz c p).1 = true → cOk (numz c p).2.2 ∧ (numz c p).2.2.2.2.length + p ≤ (numz c p).2.1 ∧ (numz c p).2.2.1 ≠ 0) := by
  unfold numz
  obtain ⟨w1, w2, w3⟩ := nwd_ok hc hp
  generalize nwd c p = w at *
  by_cases e1 : w.1 = 0
  · rw [if_pos e1]; exact ⟨w1, w2, fun h => by cases h⟩
  rw [if_neg e1]
  obtain ⟨u1, u2, u3⟩ := num_ok hc w2
  by_cases e2 : (num c w.2).1 = true
  · rw [if_pos e2]
    obtain ⟨u4, u5⟩ := u3 e2
    generalize num c w.2 = u at *
    exact ⟨by show p ≤ u.2.1; omega, u2, fun _ => ⟨⟨w3, fun h => absurd h e1, fun _ => ⟨u5, rfl⟩⟩, by show 0 + p ≤ u.2.1; omega, e1⟩⟩
  · rw [if_neg e2]
    exact ⟨by show p ≤ (num c w.2).2.1; omega, u2, fun h => by cases h⟩
theorem clz_ok {c : Nat → Int} {n p : Nat} (hc : cEnd c n) (hp : p ≤ n) : p ≤ (clz c p).2.1 ∧ (clz c p).2.1 ≤ n ∧ ((clz c p).1 = true → cOk (clz c p).2.2 ∧ (clz c p).2.2.2.2.length + p ≤ (clz c p).2.1) := by
  unfold clz
  by_cases e : c p = 99
  · rw [if_pos e]
    have lp := ne_lt hc (p := p) (by omega)
    obtain ⟨h1, h2, h3⟩ := comz_ok hc (p := p + 1) (by omega)
    exact ⟨by omega, h2, fun h => ⟨(h3 h).1, by have := (h3 h).2.1; omega⟩⟩
  · rw [if_neg e]
    obtain ⟨h1, h2, h3⟩ := numz_ok hc hp
    exact ⟨h1, h2, fun h => ⟨(h3 h).1, (h3 h).2.1⟩⟩
theorem tks_aq (a b : List Cl) : tks (a ++ b) = tks a ++ tks b := List.flatMap_append
theorem tks_1 (z : Cl) : tks [z] = z.2.2 := by
  show List.flatMap _ [z] = _
  rw [List.flatMap_singleton]
def aOk (acc : List Cl) (p : Nat) : Prop := (∀ c ∈ acc, cOk c) ∧ (tks acc).length ≤ p
theorem aOk_s {c : Nat → Int} {n p : Nat} {acc : List Cl} (hc : cEnd c n) (hp : p ≤ n) (h : aOk acc p) (hz : (clz c p).1 = true) : aOk (acc ++ [(clz c p).2.2]) (clz c p).2.1 := by
  obtain ⟨-, -, k3⟩ := clz_ok hc hp
  obtain ⟨k4, k5⟩ := k3 hz
  refine ⟨fun x hx => ?_, ?_⟩
  · rcases List.mem_append.mp hx with hx | hx
    · exact h.1 x hx
    · rw [List.mem_singleton.mp hx]; exact k4
  · have := h.2
    rw [tks_aq, tks_1, List.length_append]; omega
theorem gtx_ok {c : Nat → Int} {n : Nat} (hc : cEnd c n) : ∀ (k p : Nat) (acc : List Cl), p ≤ n → aOk acc p → (gtx c n k p acc).2.1 ≤ n ∧ ((gtx c n k p acc).1 = true → aOk (gtx c n k p acc).2.2 n ∧ (gtx c n k p acc).2.2.length ≤ acc.length + k)
  | 0, p, acc, hp, _ => ⟨hp, fun h => by cases h⟩
  | k + 1, p, acc, hp, ha => by
    unfold gtx
    obtain ⟨h1, h2, h3⟩ := clz_ok hc hp
    by_cases e1 : (clz c p).1 = true
    case neg => rw [if_neg e1]; exact ⟨h2, fun h => by cases h⟩
    rw [if_pos e1]
    have ha2 := aOk_s hc hp ha e1
    have ll : (acc ++ [(clz c p).2.2]).length = acc.length + 1 := List.length_append
    by_cases e2 : (clz c p).2.1 = n
    · rw [if_pos e2]
      exact ⟨Nat.le_refl _, fun _ => ⟨e2 ▸ ha2, by show (acc ++ [(clz c p).2.2]).length ≤ _; omega⟩⟩
    rw [if_neg e2]
    by_cases e3 : k = 0
    · rw [if_pos e3]; exact ⟨h2, fun h => by cases h⟩
    rw [if_neg e3]
    by_cases e4 : c (clz c p).2.1 = 59
    · rw [if_pos e4]
      have lp := ne_lt hc (p := (clz c p).2.1) (by omega)
      obtain ⟨i1, i2⟩ := gtx_ok hc k ((clz c p).2.1 + 1) (acc ++ [(clz c p).2.2]) (by omega) ⟨ha2.1, by have := ha2.2; omega⟩
      exact ⟨i1, fun h => ⟨(i2 h).1, by have := (i2 h).2; omega⟩⟩
    · rw [if_neg e4]; exact ⟨h2, fun h => by cases h⟩
