/-! ===== the grammar of conditions, told twice: by descent, and by a machine with a pile ===== -/
abbrev Rz : Type := Bool × Nat × List Int
def dig (x : Int) : Bool := decide (48 ≤ x ∧ x ≤ 57)
def lix (x : Int) : Option Nat := if x = 116 then some 0 else if x = 108 then some 1 else if x = 102 then some 2 else if x = 110 then some 3 else none
def six_ (x : Int) : Option Nat := if x = 60 then some 0 else if x = 61 then some 1 else if x = 62 then some 2 else none
/-- a number of one or two digits: whether, where it ends, what it is -/
def num (c : Nat → Int) (p : Nat) : Bool × Nat × Nat := if dig (c p) = true then (if dig (c (p + 1)) = true then (true, p + 2, (c p - 48).toNat * 10 + (c (p + 1) - 48).toNat) else (true, p + 1, (c p - 48).toNat)) else (false, p, 0)
def tst (c : Nat → Int) (p : Nat) : Rz := match lix (c p) with
  | none => (false, p, [])
  | some l => match six_ (c (p + 1)) with
    | none => (false, p + 1, [])
    | some s => if (num c (p + 2)).1 = true then (true, (num c (p + 2)).2.1, [(((l * 3 + s) * 100 + (num c (p + 2)).2.2 : Nat) : Int)]) else (false, (num c (p + 2)).2.1, [])
/-- what follows the first of a row of parts -/
def rch (c : Nat → Int) (g : Nat → Rz) (sep op : Int) : Nat → Nat → List Int → Rz
  | 0, q, _ => (false, q, [])
  | k + 1, q, acc => if c q = sep then (if (g (q + 1)).1 = true then rch c g sep op k (g (q + 1)).2.1 (acc ++ (g (q + 1)).2.2 ++ [op]) else (false, (g (q + 1)).2.1, [])) else (true, q, acc)
theorem rch_s (c : Nat → Int) (g : Nat → Rz) (sep op : Int) (k q : Nat) (acc : List Int) : rch c g sep op (k + 1) q acc = if c q = sep then (if (g (q + 1)).1 = true then rch c g sep op k (g (q + 1)).2.1 (acc ++ (g (q + 1)).2.2 ++ [op]) else (false, (g (q + 1)).2.1, [])) else (true, q, acc) := rfl
def chn (c : Nat → Int) (g : Nat → Rz) (sep op : Int) (p : Nat) : Rz := if (g p).1 = true then rch c g sep op 101 (g p).2.1 (g p).2.2 else (false, (g p).2.1, [])
def par (c : Nat → Int) (z : Rz) : Rz := if z.1 = true then (if c z.2.1 = 41 then (true, z.2.1 + 1, z.2.2) else (false, z.2.1, [])) else (false, z.2.1, [])
def nt (z : Rz) : Rz := if z.1 = true then (true, z.2.1, z.2.2 ++ [-3]) else (false, z.2.1, [])
def fac (c : Nat → Int) : Nat → Nat → Rz
  | 0, p => tst c p
  | t + 1, p => if c p = 33 then nt (fac c t (p + 1)) else if c p = 40 then par c (chn c (chn c (fac c t) 38 (-1)) 124 (-2) (p + 1)) else tst c p
def bo (c : Nat → Int) (t : Nat) : Nat → Rz := chn c (fac c t) 38 (-1)
def ei (c : Nat → Int) (t : Nat) : Nat → Rz := chn c (bo c t) 124 (-2)
theorem fac_s (c : Nat → Int) (t p : Nat) : fac c (t + 1) p = if c p = 33 then nt (fac c t (p + 1)) else if c p = 40 then par c (ei c t (p + 1)) else tst c p := rfl
/-- the text ends at n -/
def cEnd (c : Nat → Int) (n : Nat) : Prop := ∀ p, n ≤ p → c p = -1000
/-- where a part ends, how many tokens it has, how high they pile -/
def okR (c : Nat → Int) (n p b : Nat) (z : Rz) : Prop := p ≤ z.2.1 ∧ z.2.1 ≤ n ∧ (z.1 = true → p + 1 ≤ z.2.1 ∧ z.2.2.length ≤ z.2.1 - p ∧ (∀ x, x ∈ z.2.2 → -3 ≤ x ∧ x < 1200) ∧ ∀ (m : Nat) (r : List Int), m + b ≤ 30 → hgt (z.2.2 ++ r) m = hgt r (m + 1))
theorem dig_lt {c : Nat → Int} {n p : Nat} (hc : cEnd c n) (h : dig (c p) = true) : p < n := by
  rcases Nat.lt_or_ge p n with q | q
  · exact q
  · rw [hc p q] at h; exact absurd h (by decide)
theorem num_ok {c : Nat → Int} {n p : Nat} (hc : cEnd c n) (hp : p ≤ n) : p ≤ (num c p).2.1 ∧ (num c p).2.1 ≤ n ∧ ((num c p).1 = true → p + 1 ≤ (num c p).2.1 ∧ (num c p).2.2 < 100) := by
  unfold num
  by_cases d1 : dig (c p) = true
  · rw [if_pos d1]
    have l1 := dig_lt hc d1
    have b1 := of_decide_eq_true d1
    by_cases d2 : dig (c (p + 1)) = true
    · rw [if_pos d2]
      have l2 := dig_lt hc d2
      have b2 := of_decide_eq_true d2
      exact ⟨by show p ≤ p + 2; omega, by show p + 2 ≤ n; omega, fun _ => ⟨by show p + 1 ≤ p + 2; omega, by show (c p - 48).toNat * 10 + (c (p + 1) - 48).toNat < 100; omega⟩⟩
    · rw [if_neg d2]
      exact ⟨by show p ≤ p + 1; omega, by show p + 1 ≤ n; omega, fun _ => ⟨Nat.le_refl _, by show (c p - 48).toNat < 100; omega⟩⟩
  · rw [if_neg d1]
    exact ⟨Nat.le_refl _, hp, fun h => by cases h⟩
theorem lix_b {x : Int} {l : Nat} (h : lix x = some l) : l ≤ 3 ∧ x ≠ -1000 := by
  unfold lix at h
  repeat' split at h
  all_goals first | (injection h with h; omega) | cases h
theorem six_b {x : Int} {l : Nat} (h : six_ x = some l) : l ≤ 2 ∧ x ≠ -1000 := by
  unfold six_ at h
  repeat' split at h
  all_goals first | (injection h with h; omega) | cases h
theorem ne_lt {c : Nat → Int} {n p : Nat} (hc : cEnd c n) (h : c p ≠ -1000) : p < n := by
  rcases Nat.lt_or_ge p n with q | q
  · exact q
  · exact absurd (hc p q) h
theorem hgt_consn {w : Int} {r : List Int} {m : Nat} (hw : 0 ≤ w) (h : m < 30) : hgt (w :: r) m = hgt r (m + 1) := by
  show (if w = -3 then (if 1 ≤ m then hgt r m else none) else if w < 0 then (if 2 ≤ m then hgt r (m - 1) else none) else (if m < 30 then hgt r (m + 1) else none)) = _
  rw [if_neg (by omega), if_neg (by omega), if_pos h]
theorem tst_ok {c : Nat → Int} {n p : Nat} (hc : cEnd c n) (hp : p ≤ n) : okR c n p 1 (tst c p) := by
  unfold tst
  cases h1 : lix (c p) with
  | none => exact ⟨Nat.le_refl _, hp, fun h => by cases h⟩
  | some l =>
    obtain ⟨b1, b2⟩ := lix_b h1
    have l1 := ne_lt hc b2
    show okR c n p 1 (match six_ (c (p + 1)) with
      | none => (false, p + 1, [])
      | some s => if (num c (p + 2)).1 = true then (true, (num c (p + 2)).2.1, [(((l * 3 + s) * 100 + (num c (p + 2)).2.2 : Nat) : Int)]) else (false, (num c (p + 2)).2.1, []))
    cases h2 : six_ (c (p + 1)) with
    | none => exact ⟨by show p ≤ p + 1; omega, by show p + 1 ≤ n; omega, fun h => by cases h⟩
    | some s =>
      obtain ⟨b3, b4⟩ := six_b h2
      have l2 := ne_lt hc b4
      obtain ⟨n1, n2, n3⟩ := num_ok hc (p := p + 2) (by omega)
      show okR c n p 1 (if (num c (p + 2)).1 = true then (true, (num c (p + 2)).2.1, [(((l * 3 + s) * 100 + (num c (p + 2)).2.2 : Nat) : Int)]) else (false, (num c (p + 2)).2.1, []))
      by_cases hn : (num c (p + 2)).1 = true
      · rw [if_pos hn]
        obtain ⟨n4, n5⟩ := n3 hn
        generalize num c (p + 2) = z at *
        refine ⟨by show p ≤ z.2.1; omega, n2, fun _ => ⟨by show p + 1 ≤ z.2.1; omega, by show 1 ≤ z.2.1 - p; omega, fun x hx => ?_, fun m r hm => ?_⟩⟩
        · rw [List.mem_singleton.mp hx]; omega
        · show hgt ((((l * 3 + s) * 100 + z.2.2 : Nat) : Int) :: r) m = _
          exact hgt_consn (by omega) (by omega)
      · rw [if_neg hn]
        exact ⟨by show p ≤ (num c (p + 2)).2.1; omega, n2, fun h => by cases h⟩
theorem hgt_cons3 {r : List Int} {m : Nat} (h : 1 ≤ m) : hgt (-3 :: r) m = hgt r m := by
  show (if (-3 : Int) = -3 then (if 1 ≤ m then hgt r m else none) else _) = _
  rw [if_pos rfl, if_pos h]
theorem hgt_consb {w : Int} {r : List Int} {m : Nat} (hw : w = -1 ∨ w = -2) (h : 2 ≤ m) : hgt (w :: r) m = hgt r (m - 1) := by
  show (if w = -3 then (if 1 ≤ m then hgt r m else none) else if w < 0 then (if 2 ≤ m then hgt r (m - 1) else none) else _) = _
  rw [if_neg (by omega), if_pos (by omega), if_pos h]
theorem nt_ok {c : Nat → Int} {n p b : Nat} {z : Rz} (h : okR c n (p + 1) b z) : okR c n p b (nt z) := by
  obtain ⟨h1, h2, h3⟩ := h
  unfold nt
  by_cases hz : z.1 = true
  · rw [if_pos hz]
    obtain ⟨h4, h5, h6, h7⟩ := h3 hz
    refine ⟨by show p ≤ z.2.1; omega, h2, fun _ => ⟨by show p + 1 ≤ z.2.1; omega, ?_, fun x hx => ?_, fun m r hm => ?_⟩⟩
    · show (z.2.2 ++ [-3]).length ≤ z.2.1 - p
      rw [List.length_append]; show z.2.2.length + 1 ≤ _; omega
    · rcases List.mem_append.mp hx with hx | hx
      · exact h6 x hx
      · rw [List.mem_singleton.mp hx]; omega
    · show hgt ((z.2.2 ++ [-3]) ++ r) m = _
      rw [List.append_assoc, h7 m _ hm]
      exact hgt_cons3 (by omega)
  · rw [if_neg hz]
    exact ⟨by show p ≤ z.2.1; omega, h2, fun h => by cases h⟩
theorem par_ok {c : Nat → Int} {n p b : Nat} {z : Rz} (hc : cEnd c n) (h : okR c n (p + 1) b z) : okR c n p b (par c z) := by
  obtain ⟨h1, h2, h3⟩ := h
  unfold par
  by_cases hz : z.1 = true
  · rw [if_pos hz]
    obtain ⟨h4, h5, h6, h7⟩ := h3 hz
    by_cases hq : c z.2.1 = 41
    · rw [if_pos hq]
      have := ne_lt hc (p := z.2.1) (by rw [hq]; decide)
      exact ⟨by show p ≤ z.2.1 + 1; omega, by show z.2.1 + 1 ≤ n; omega, fun _ => ⟨by show p + 1 ≤ z.2.1 + 1; omega, by show z.2.2.length ≤ z.2.1 + 1 - p; omega, h6, h7⟩⟩
    · rw [if_neg hq]
      exact ⟨by show p ≤ z.2.1; omega, h2, fun h => by cases h⟩
  · rw [if_neg hz]
    exact ⟨by show p ≤ z.2.1; omega, h2, fun h => by cases h⟩
theorem rch_ok {c : Nat → Int} {g : Nat → Rz} {sep op : Int} {n p b : Nat} (hc : cEnd c n) (hs : sep ≠ -1000) (ho : op = -1 ∨ op = -2) (hg : ∀ q, q ≤ n → okR c n q b (g q)) : ∀ (k q : Nat) (acc : List Int), okR c n p (b + 1) (true, q, acc) → okR c n p (b + 1) (rch c g sep op k q acc) ∧ ((rch c g sep op k q acc).1 = true → c (rch c g sep op k q acc).2.1 ≠ sep)
  | 0, q, acc, h => ⟨⟨h.1, h.2.1, fun h => by cases h⟩, fun h => by cases h⟩
  | k + 1, q, acc, h => by
    obtain ⟨h1, h2, h3⟩ := h
    have h1 : p ≤ q := h1
    have h2 : q ≤ n := h2
    obtain ⟨h4, h5, h6, h7⟩ := h3 rfl
    have h4 : p + 1 ≤ q := h4
    have h5 : acc.length ≤ q - p := h5
    rw [rch_s]
    by_cases cs : c q = sep
    · rw [if_pos cs]
      have lq := ne_lt hc (p := q) (by rw [cs]; exact hs)
      obtain ⟨g1, g2, g3⟩ := hg (q + 1) (by omega)
      by_cases gz : (g (q + 1)).1 = true
      · rw [if_pos gz]
        obtain ⟨g4, g5, g6, g7⟩ := g3 gz
        refine rch_ok hc hs ho hg k _ _ ⟨by show p ≤ (g (q + 1)).2.1; omega, g2, fun _ => ⟨by show p + 1 ≤ (g (q + 1)).2.1; omega, ?_, fun x hx => ?_, fun m r hm => ?_⟩⟩
        · show (acc ++ (g (q + 1)).2.2 ++ [op]).length ≤ (g (q + 1)).2.1 - p
          rw [List.length_append, List.length_append]; show acc.length + (g (q + 1)).2.2.length + 1 ≤ _; omega
        · rcases List.mem_append.mp hx with hx | hx
          · rcases List.mem_append.mp hx with hx | hx
            · exact h6 x hx
            · exact g6 x hx
          · rw [List.mem_singleton.mp hx]; omega
        · show hgt (acc ++ (g (q + 1)).2.2 ++ [op] ++ r) m = _
          rw [List.append_assoc, List.append_assoc, h7 m _ hm, g7 (m + 1) _ (by omega)]
          show hgt (op :: r) (m + 1 + 1) = _
          rw [hgt_consb ho (by omega), Nat.add_sub_cancel]
      · rw [if_neg gz]
        exact ⟨⟨by show p ≤ (g (q + 1)).2.1; omega, g2, fun h => by cases h⟩, fun h => by cases h⟩
    · rw [if_neg cs]
      exact ⟨⟨h1, h2, h3⟩, fun _ => cs⟩
theorem chn_ok {c : Nat → Int} {g : Nat → Rz} {sep op : Int} {n p b : Nat} (hc : cEnd c n) (hs : sep ≠ -1000) (ho : op = -1 ∨ op = -2) (hg : ∀ q, q ≤ n → okR c n q b (g q)) (hp : p ≤ n) : okR c n p (b + 1) (chn c g sep op p) ∧ ((chn c g sep op p).1 = true → c (chn c g sep op p).2.1 ≠ sep) := by
  obtain ⟨g1, g2, g3⟩ := hg p hp
  unfold chn
  by_cases gz : (g p).1 = true
  · rw [if_pos gz]
    obtain ⟨g4, g5, g6, g7⟩ := g3 gz
    exact rch_ok hc hs ho hg 101 _ _ ⟨g1, g2, fun _ => ⟨g4, g5, g6, fun m r hm => g7 m r (by omega)⟩⟩
  · rw [if_neg gz]
    exact ⟨⟨g1, g2, fun h => by cases h⟩, fun h => by cases h⟩
theorem fac_ok {c : Nat → Int} {n : Nat} (hc : cEnd c n) : ∀ (t p : Nat), p ≤ n → okR c n p (1 + 2 * t) (fac c t p)
  | 0, p, hp => tst_ok hc hp
  | t + 1, p, hp => by
    rw [fac_s]
    by_cases c1 : c p = 33
    · rw [if_pos c1]
      have lp := ne_lt hc (p := p) (by rw [c1]; decide)
      obtain ⟨h1, h2, h3⟩ := nt_ok (fac_ok hc t (p + 1) (by omega))
      exact ⟨h1, h2, fun h => ⟨(h3 h).1, (h3 h).2.1, (h3 h).2.2.1, fun m r hm => (h3 h).2.2.2 m r (by omega)⟩⟩
    rw [if_neg c1]
    by_cases c2 : c p = 40
    · rw [if_pos c2]
      have lp := ne_lt hc (p := p) (by rw [c2]; decide)
      exact par_ok hc (chn_ok hc (by decide) (Or.inr rfl) (fun q hq => (chn_ok hc (by decide) (Or.inl rfl) (fun q hq => fac_ok hc t q hq) hq).1) (by omega)).1
    · rw [if_neg c2]
      obtain ⟨h1, h2, h3⟩ := tst_ok hc hp
      exact ⟨h1, h2, fun h => ⟨(h3 h).1, (h3 h).2.1, (h3 h).2.2.1, fun m r hm => (h3 h).2.2.2 m r (by omega)⟩⟩
theorem bo_ok {c : Nat → Int} {n t p : Nat} (hc : cEnd c n) (hp : p ≤ n) : okR c n p (2 + 2 * t) (bo c t p) ∧ ((bo c t p).1 = true → c (bo c t p).2.1 ≠ 38) := by
  have h := chn_ok (op := -1) (sep := 38) hc (by decide) (Or.inl rfl) (fun q hq => fac_ok hc t q hq) hp
  rw [show 1 + 2 * t + 1 = 2 + 2 * t by omega] at h
  exact h
theorem ei_ok {c : Nat → Int} {n t p : Nat} (hc : cEnd c n) (hp : p ≤ n) : okR c n p (3 + 2 * t) (ei c t p) ∧ ((ei c t p).1 = true → c (ei c t p).2.1 ≠ 124) := by
  have h := chn_ok (op := -2) (sep := 124) hc (by decide) (Or.inr rfl) (fun q hq => (bo_ok (t := t) hc hq).1) hp
  rw [show 2 + 2 * t + 1 = 3 + 2 * t by omega] at h
  exact h
theorem rch_38 {c : Nat → Int} {g : Nat → Rz} {op : Int} (hg : ∀ q, (g q).1 = true → c (g q).2.1 ≠ 38) : ∀ (k q : Nat) (acc : List Int), c q ≠ 38 → (rch c g 124 op k q acc).1 = true → c (rch c g 124 op k q acc).2.1 ≠ 38
  | 0, _, _, _, h => by cases h
  | k + 1, q, acc, h, hr => by
    rw [rch_s] at hr ⊢
    by_cases cs : c q = 124
    · rw [if_pos cs] at hr ⊢
      by_cases gz : (g (q + 1)).1 = true
      · rw [if_pos gz] at hr ⊢; exact rch_38 hg k _ _ (hg _ gz) hr
      · rw [if_neg gz] at hr; cases hr
    · rw [if_neg cs]; exact h
theorem ei_38 {c : Nat → Int} {n t p : Nat} (hc : cEnd c n) (hp : p ≤ n) (h : (ei c t p).1 = true) : c (ei c t p).2.1 ≠ 38 := by
  unfold ei chn at h ⊢
  have h38 : ∀ q, (bo c t q).1 = true → c (bo c t q).2.1 ≠ 38 := by
    intro q hq
    rcases Nat.lt_or_ge n q with l | l
    · exfalso
      have e : c q = -1000 := hc q (by omega)
      have f : ∀ t, (fac c t q).1 = false := by
        intro t
        have ts : (tst c q).1 = false := by unfold tst; rw [e]; rfl
        cases t with
        | zero => exact ts
        | succ t => rw [fac_s, e, if_neg (by decide), if_neg (by decide)]; exact ts
      unfold bo chn at hq
      rw [if_neg (by rw [f t]; decide)] at hq
      cases hq
    · exact (bo_ok hc l).2 hq
  by_cases gz : (bo c t p).1 = true
  · rw [if_pos gz] at h ⊢
    exact rch_38 h38 101 _ _ (h38 p gz) h
  · rw [if_neg gz] at h; cases h
/-! the machine: place, whether it wants a part, the pile (its top first), what it has told -/
abbrev Sx : Type := Nat × Bool × List Int × List Int
def opn (W : List Int) : Nat := (W.filter (fun x => x == 33 || x == 40)).length
def wh : List Int → List Int → List Int × List Int
  | [], O => ([], O)
  | x :: W, O => if x = 33 then wh W (O ++ [-3]) else (x :: W, O)
def opT (x : Int) : Int := if x = 38 then -1 else -2
def stl (b : Int) : List Int → List Int → List Int × List Int
  | [], O => ([], O)
  | x :: W, O => if x = 38 ∨ x = 124 ∧ b ≠ 38 then stl b W (O ++ [opT x]) else (x :: W, O)
def mst (c : Nat → Int) (s : Sx) : Sx ⊕ Rz :=
  if s.2.1 = true then
    (if c s.1 = 33 ∨ c s.1 = 40 then (if opn s.2.2.1 = 4 then .inr (false, s.1, s.2.2.2) else .inl (s.1 + 1, true, c s.1 :: s.2.2.1, s.2.2.2))
     else if (tst c s.1).1 = true then .inl ((tst c s.1).2.1, false, (wh s.2.2.1 (s.2.2.2 ++ (tst c s.1).2.2)).1, (wh s.2.2.1 (s.2.2.2 ++ (tst c s.1).2.2)).2) else .inr (false, (tst c s.1).2.1, s.2.2.2))
  else if c s.1 = 38 ∨ c s.1 = 124 then .inl (s.1 + 1, true, c s.1 :: (stl (c s.1) s.2.2.1 s.2.2.2).1, (stl (c s.1) s.2.2.1 s.2.2.2).2)
  else if (stl 124 s.2.2.1 s.2.2.2).1 = [] then .inr (true, s.1, (stl 124 s.2.2.1 s.2.2.2).2)
  else if c s.1 = 41 then .inl (s.1 + 1, false, (wh (stl 124 s.2.2.1 s.2.2.2).1.tail (stl 124 s.2.2.1 s.2.2.2).2).1, (wh (stl 124 s.2.2.1 s.2.2.2).1.tail (stl 124 s.2.2.1 s.2.2.2).2).2)
  else .inr (false, s.1, (stl 124 s.2.2.1 s.2.2.2).2)
def mrun (c : Nat → Int) : Nat → Sx → Option Rz
  | 0, _ => none
  | k + 1, s => match mst c s with
    | .inl s' => mrun c k s'
    | .inr r => some r
theorem mrun_l {c : Nat → Int} {k : Nat} {s s' : Sx} (h : mst c s = .inl s') : mrun c (k + 1) s = mrun c k s' := by
  show (match mst c s with
    | .inl s' => mrun c k s'
    | .inr r => some r) = _
  rw [h]
theorem mrun_r {c : Nat → Int} {k : Nat} {s : Sx} {r : Rz} (h : mst c s = .inr r) : mrun c (k + 1) s = some r := by
  show (match mst c s with
    | .inl s' => mrun c k s'
    | .inr r => some r) = _
  rw [h]
theorem mst_f (c : Nat → Int) (p : Nat) (W O : List Int) : mst c (p, false, W, O) = if c p = 38 ∨ c p = 124 then .inl (p + 1, true, c p :: (stl (c p) W O).1, (stl (c p) W O).2)
  else if (stl 124 W O).1 = [] then .inr (true, p, (stl 124 W O).2)
  else if c p = 41 then .inl (p + 1, false, (wh (stl 124 W O).1.tail (stl 124 W O).2).1, (wh (stl 124 W O).1.tail (stl 124 W O).2).2)
  else .inr (false, p, (stl 124 W O).2) := by
  unfold mst
  exact if_neg Bool.false_ne_true
def top (W : List Int) (x : Int) : Prop := W.head? = some x
/-- the machine goes from s to s' -/
def goes (c : Nat → Int) (s s' : Sx) : Prop := ∃ k, ∀ j, mrun c (k + (j + 1)) s = mrun c (j + 1) s'
def ends (c : Nat → Int) (s : Sx) (q : Nat) : Prop := ∃ k O, ∀ j, mrun c (k + (j + 1)) s = some (false, q, O)
theorem goes_tr {c : Nat → Int} {s1 s2 s3 : Sx} (h : goes c s1 s2) (k : goes c s2 s3) : goes c s1 s3 := by
  obtain ⟨a, h⟩ := h
  obtain ⟨b, k⟩ := k
  exact ⟨a + b, fun j => by rw [show a + b + (j + 1) = a + ((b + j) + 1) by omega, h, show b + j + 1 = b + (j + 1) by omega, k]⟩
theorem goes_en {c : Nat → Int} {s1 s2 : Sx} {q : Nat} (h : goes c s1 s2) (k : ends c s2 q) : ends c s1 q := by
  obtain ⟨a, h⟩ := h
  obtain ⟨b, O, k⟩ := k
  exact ⟨a + b, O, fun j => by rw [show a + b + (j + 1) = a + ((b + j) + 1) by omega, h, show b + j + 1 = b + (j + 1) by omega, k]⟩
theorem goes_1 {c : Nat → Int} {s1 s2 : Sx} (h : mst c s1 = .inl s2) : goes c s1 s2 := ⟨1, fun j => by rw [Nat.add_comm 1]; exact mrun_l h⟩
theorem ends_1 {c : Nat → Int} {s1 : Sx} {q : Nat} {O : List Int} (h : mst c s1 = .inr (false, q, O)) : ends c s1 q := ⟨0, O, fun j => by rw [Nat.zero_add]; exact mrun_r h⟩
theorem goes_eq {c : Nat → Int} {s1 s2 : Sx} (h : mst c s1 = mst c s2) : goes c s1 s2 := ⟨0, fun j => by rw [Nat.zero_add]; unfold mrun; rw [h]⟩
theorem goes_rf (c : Nat → Int) (s : Sx) : goes c s s := goes_eq rfl
theorem wh_n {W : List Int} (h : ¬ top W 33) (O : List Int) : wh W O = (W, O) := by
  cases W with
  | nil => rfl
  | cons x W => exact if_neg (fun e => h (by rw [e]; rfl))
theorem stl_n {b : Int} {W : List Int} (h : ¬ top W 38) (h2 : ¬ top W 124 ∨ b = 38) (O : List Int) : stl b W O = (W, O) := by
  cases W with
  | nil => rfl
  | cons x W =>
    refine if_neg ?_
    rintro (e | ⟨e, e2⟩)
    · exact h (by rw [e]; rfl)
    · rcases h2 with h2 | h2
      · exact h2 (by rw [e]; rfl)
      · exact e2 h2
theorem top_c {x y : Int} {W : List Int} (h : x ≠ y) : ¬ top (x :: W) y := fun e => by
  have e : some x = some y := e
  injection e with e; exact h e
/-- one part of a row: as it is told by descent, so by the machine -/
def simG (c : Nat → Int) (g : Nat → Rz) (p : Nat) (W O : List Int) (W' O' : List Int) : Prop := ((g p).1 = true → goes c (p, true, W, O) ((g p).2.1, false, W', O')) ∧ ((g p).1 = false → ends c (p, true, W, O) (g p).2.1)
theorem sim_t {c : Nat → Int} {p : Nat} {W O : List Int} (h : ¬ (c p = 33 ∨ c p = 40)) : simG c (tst c) p W O (wh W (O ++ (tst c p).2.2)).1 (wh W (O ++ (tst c p).2.2)).2 := by
  refine ⟨fun e => goes_1 ?_, fun e => ends_1 (O := O) ?_⟩
  · unfold mst; rw [if_pos rfl, if_neg h, if_pos e]
  · unfold mst; rw [if_pos rfl, if_neg h, if_neg (by rw [e]; decide)]
theorem sim_and {c : Nat → Int} {g : Nat → Rz} {n b o : Nat} (hc : cEnd c n) (hgo : ∀ q, q ≤ n → okR c n q b (g q)) (hg : ∀ p W O, p ≤ n → opn W = o → simG c g p W O (wh W (O ++ (g p).2.2)).1 (wh W (O ++ (g p).2.2)).2) : ∀ (k q : Nat) (W O acc : List Int), q ≤ n → n + 1 ≤ q + k → opn W = o → ¬ top W 33 → ¬ top W 38 → ((rch c g 38 (-1) k q acc).1 = true → goes c (q, false, W, O ++ acc) ((rch c g 38 (-1) k q acc).2.1, false, W, O ++ (rch c g 38 (-1) k q acc).2.2)) ∧ ((rch c g 38 (-1) k q acc).1 = false → ends c (q, false, W, O ++ acc) (rch c g 38 (-1) k q acc).2.1)
  | 0, q, _, _, _, h1, h2, _, _, _ => by omega
  | k + 1, q, W, O, acc, h1, h2, ho, h33, h38 => by
    rw [rch_s]
    by_cases cs : c q = 38
    · rw [if_pos cs]
      have lq := ne_lt hc (p := q) (by rw [cs]; decide)
      have st : goes c (q, false, W, O ++ acc) (q + 1, true, 38 :: W, O ++ acc) := by
        refine goes_1 ?_
        rw [mst_f, if_pos (Or.inl cs), cs, stl_n h38 (Or.inr rfl)]
      have ho' : opn (38 :: W) = o := ho
      obtain ⟨s1, s2⟩ := hg (q + 1) (38 :: W) (O ++ acc) (by omega) ho'
      rw [wh_n (top_c (by decide))] at s1
      have gk := hgo (q + 1) (by omega)
      by_cases gz : (g (q + 1)).1 = true
      · rw [if_pos gz]
        have e1 : mst c ((g (q + 1)).2.1, false, 38 :: W, O ++ acc ++ (g (q + 1)).2.2) = mst c ((g (q + 1)).2.1, false, W, O ++ (acc ++ (g (q + 1)).2.2 ++ [-1])) := by
          have es : ∀ b : Int, stl b (38 :: W) (O ++ acc ++ (g (q + 1)).2.2) = stl b W (O ++ (acc ++ (g (q + 1)).2.2 ++ [-1])) := by
            intro b
            show (if (38 : Int) = 38 ∨ (38 : Int) = 124 ∧ b ≠ 38 then stl b W (O ++ acc ++ (g (q + 1)).2.2 ++ [opT 38]) else _) = _
            rw [if_pos (Or.inl rfl), List.append_assoc, List.append_assoc, List.append_assoc]; rfl
          rw [mst_f, mst_f]
          simp only [es]
        have a2 := goes_tr st (goes_tr (s1 gz) (goes_eq e1))
        obtain ⟨i1, i2⟩ := sim_and hc hgo hg k (g (q + 1)).2.1 W O (acc ++ (g (q + 1)).2.2 ++ [-1]) gk.2.1 (by have := (gk.2.2 gz).1; omega) ho h33 h38
        exact ⟨fun e => goes_tr a2 (i1 e), fun e => goes_en a2 (i2 e)⟩
      · rw [if_neg gz]
        exact ⟨fun e => by (cases e), fun _ => goes_en st (s2 (Bool.eq_false_iff.mpr gz))⟩
    · rw [if_neg cs]
      exact ⟨fun _ => goes_rf _ _, fun e => by cases e⟩
theorem sim_bo {c : Nat → Int} {n t o : Nat} (hc : cEnd c n) (hn : n ≤ 100) (hg : ∀ p W O, p ≤ n → opn W = o → simG c (fac c t) p W O (wh W (O ++ (fac c t p).2.2)).1 (wh W (O ++ (fac c t p).2.2)).2) {p : Nat} {W O : List Int} (hp : p ≤ n) (ho : opn W = o) (h33 : ¬ top W 33) (h38 : ¬ top W 38) : simG c (bo c t) p W O W (O ++ (bo c t p).2.2) := by
  obtain ⟨s1, s2⟩ := hg p W O hp ho
  rw [wh_n h33] at s1
  have gk := fac_ok hc t p hp
  unfold simG bo chn
  by_cases gz : (fac c t p).1 = true
  · rw [if_pos gz]
    obtain ⟨i1, i2⟩ := sim_and hc (fun q hq => fac_ok hc t q hq) hg 101 (fac c t p).2.1 W O (fac c t p).2.2 gk.2.1 (by omega) ho h33 h38
    exact ⟨fun e => goes_tr (s1 gz) (i1 e), fun e => goes_en (s1 gz) (i2 e)⟩
  · rw [if_neg gz]
    exact ⟨fun e => by (cases e), fun _ => s2 (Bool.eq_false_iff.mpr gz)⟩
theorem sim_or {c : Nat → Int} {n t o : Nat} (hc : cEnd c n) (hg : ∀ p W O, p ≤ n → opn W = o → ¬ top W 33 → ¬ top W 38 → simG c (bo c t) p W O W (O ++ (bo c t p).2.2)) : ∀ (k q : Nat) (W O acc : List Int), q ≤ n → n + 1 ≤ q + k → opn W = o → ¬ top W 33 → ¬ top W 38 → ¬ top W 124 → c q ≠ 38 → ((rch c (bo c t) 124 (-2) k q acc).1 = true → goes c (q, false, W, O ++ acc) ((rch c (bo c t) 124 (-2) k q acc).2.1, false, W, O ++ (rch c (bo c t) 124 (-2) k q acc).2.2)) ∧ ((rch c (bo c t) 124 (-2) k q acc).1 = false → ends c (q, false, W, O ++ acc) (rch c (bo c t) 124 (-2) k q acc).2.1)
  | 0, q, _, _, _, h1, h2, _, _, _, _, _ => by omega
  | k + 1, q, W, O, acc, h1, h2, ho, h33, h38, h124, hq => by
    rw [rch_s]
    by_cases cs : c q = 124
    · rw [if_pos cs]
      have lq := ne_lt hc (p := q) (by rw [cs]; decide)
      have st : goes c (q, false, W, O ++ acc) (q + 1, true, 124 :: W, O ++ acc) := by
        refine goes_1 ?_
        rw [mst_f, if_pos (Or.inr cs), cs, stl_n h38 (Or.inl h124)]
      have ho' : opn (124 :: W) = o := ho
      obtain ⟨s1, s2⟩ := hg (q + 1) (124 :: W) (O ++ acc) (by omega) ho' (top_c (by decide)) (top_c (by decide))
      have gk := bo_ok (t := t) hc (p := q + 1) (by omega)
      by_cases gz : (bo c t (q + 1)).1 = true
      · rw [if_pos gz]
        have n38 := gk.2 gz
        have e1 : mst c ((bo c t (q + 1)).2.1, false, 124 :: W, O ++ acc ++ (bo c t (q + 1)).2.2) = mst c ((bo c t (q + 1)).2.1, false, W, O ++ (acc ++ (bo c t (q + 1)).2.2 ++ [-2])) := by
          have es : ∀ b : Int, b ≠ 38 → stl b (124 :: W) (O ++ acc ++ (bo c t (q + 1)).2.2) = stl b W (O ++ (acc ++ (bo c t (q + 1)).2.2 ++ [-2])) := by
            intro b hb
            show (if (124 : Int) = 38 ∨ (124 : Int) = 124 ∧ b ≠ 38 then stl b W (O ++ acc ++ (bo c t (q + 1)).2.2 ++ [opT 124]) else _) = _
            rw [if_pos (Or.inr ⟨rfl, hb⟩), List.append_assoc, List.append_assoc, List.append_assoc]; rfl
          rw [mst_f, mst_f]
          simp only [es _ n38, es 124 (by decide)]
        have a2 := goes_tr st (goes_tr (s1 gz) (goes_eq e1))
        obtain ⟨i1, i2⟩ := sim_or hc hg k (bo c t (q + 1)).2.1 W O (acc ++ (bo c t (q + 1)).2.2 ++ [-2]) gk.1.2.1 (by have := (gk.1.2.2 gz).1; omega) ho h33 h38 h124 n38
        exact ⟨fun e => goes_tr a2 (i1 e), fun e => goes_en a2 (i2 e)⟩
      · rw [if_neg gz]
        exact ⟨fun e => by (cases e), fun _ => goes_en st (s2 (Bool.eq_false_iff.mpr gz))⟩
    · rw [if_neg cs]
      exact ⟨fun _ => goes_rf _ _, fun e => by cases e⟩
theorem sim_ei {c : Nat → Int} {n t o : Nat} (hc : cEnd c n) (hn : n ≤ 100) (hg : ∀ p W O, p ≤ n → opn W = o → simG c (fac c t) p W O (wh W (O ++ (fac c t p).2.2)).1 (wh W (O ++ (fac c t p).2.2)).2) {p : Nat} {W O : List Int} (hp : p ≤ n) (ho : opn W = o) (h33 : ¬ top W 33) (h38 : ¬ top W 38) (h124 : ¬ top W 124) : simG c (ei c t) p W O W (O ++ (ei c t p).2.2) := by
  have hb : ∀ p W O, p ≤ n → opn W = o → ¬ top W 33 → ¬ top W 38 → simG c (bo c t) p W O W (O ++ (bo c t p).2.2) := fun p W O h1 h2 h3 h4 => sim_bo hc hn hg h1 h2 h3 h4
  obtain ⟨s1, s2⟩ := hb p W O hp ho h33 h38
  have gk := bo_ok (t := t) hc hp
  unfold simG ei chn
  by_cases gz : (bo c t p).1 = true
  · rw [if_pos gz]
    obtain ⟨i1, i2⟩ := sim_or hc hb 101 (bo c t p).2.1 W O (bo c t p).2.2 gk.1.2.1 (by omega) ho h33 h38 h124 (gk.2 gz)
    exact ⟨fun e => goes_tr (s1 gz) (i1 e), fun e => goes_en (s1 gz) (i2 e)⟩
  · rw [if_neg gz]
    exact ⟨fun e => by (cases e), fun _ => s2 (Bool.eq_false_iff.mpr gz)⟩
theorem sim_fac {c : Nat → Int} {n : Nat} (hc : cEnd c n) (hn : n ≤ 100) : ∀ (t p : Nat) (W O : List Int), p ≤ n → opn W + t = 4 → simG c (fac c t) p W O (wh W (O ++ (fac c t p).2.2)).1 (wh W (O ++ (fac c t p).2.2)).2
  | 0, p, W, O, hp, ho => by
    by_cases h : c p = 33 ∨ c p = 40
    · have e : tst c p = (false, p, []) := by
        unfold tst
        rcases h with h | h <;> rw [h] <;> rfl
      have e' : fac c 0 p = (false, p, []) := e
      unfold simG
      rw [e']
      refine ⟨fun e => by (cases e), fun _ => ends_1 (O := O) ?_⟩
      unfold mst
      rw [if_pos rfl, if_pos h, if_pos (show opn W = 4 by omega)]
    · exact sim_t h
  | t + 1, p, W, O, hp, ho => by
    have go4 : ¬ opn W = 4 := by omega
    unfold simG
    rw [fac_s]
    by_cases c1 : c p = 33
    · rw [if_pos c1]
      have lp := ne_lt hc (p := p) (by rw [c1]; decide)
      have st : goes c (p, true, W, O) (p + 1, true, 33 :: W, O) := by
        refine goes_1 ?_
        unfold mst
        rw [if_pos rfl, if_pos (Or.inl c1), if_neg go4]
        show Sum.inl (p + 1, true, c p :: W, O) = _
        rw [c1]
      have ho' : opn (33 :: W) + t = 4 := by
        have : opn (33 :: W) = opn W + 1 := rfl
        omega
      obtain ⟨s1, s2⟩ := sim_fac hc hn t (p + 1) (33 :: W) O (by omega) ho'
      unfold nt
      by_cases gz : (fac c t (p + 1)).1 = true
      · rw [if_pos gz]
        have s1 := s1 gz
        have ew : wh (33 :: W) (O ++ (fac c t (p + 1)).2.2) = wh W (O ++ ((fac c t (p + 1)).2.2 ++ [-3])) := by
          show (if (33 : Int) = 33 then wh W (O ++ (fac c t (p + 1)).2.2 ++ [-3]) else _) = _
          rw [if_pos rfl, List.append_assoc]
        rw [ew] at s1
        exact ⟨fun _ => goes_tr st s1, fun e => by cases e⟩
      · rw [if_neg gz]
        exact ⟨fun e => by (cases e), fun _ => goes_en st (s2 (Bool.eq_false_iff.mpr gz))⟩
    rw [if_neg c1]
    by_cases c2 : c p = 40
    · rw [if_pos c2]
      have lp := ne_lt hc (p := p) (by rw [c2]; decide)
      have st : goes c (p, true, W, O) (p + 1, true, 40 :: W, O) := by
        refine goes_1 ?_
        unfold mst
        rw [if_pos rfl, if_pos (Or.inr c2), if_neg go4]
        show Sum.inl (p + 1, true, c p :: W, O) = _
        rw [c2]
      have ho' : opn (40 :: W) + t = 4 := by
        have : opn (40 :: W) = opn W + 1 := rfl
        omega
      obtain ⟨s1, s2⟩ := sim_ei (o := 4 - t) (W := 40 :: W) (O := O) hc hn (fun q V U h1 h2 => sim_fac hc hn t q V U h1 (by omega)) (p := p + 1) (by omega) (by omega) (top_c (by decide)) (top_c (by decide)) (top_c (by decide))
      have ek := ei_ok (t := t) hc (p := p + 1) (by omega)
      unfold par
      by_cases gz : (ei c t (p + 1)).1 = true
      · rw [if_pos gz]
        have s1 := s1 gz
        have e38 := ei_38 (t := t) hc (p := p + 1) (by omega) gz
        have e124 := ek.2 gz
        generalize ei c t (p + 1) = z at *
        have es : stl 124 (40 :: W) (O ++ z.2.2) = (40 :: W, O ++ z.2.2) := stl_n (top_c (by decide)) (Or.inl (top_c (by decide))) _
        by_cases cq : c z.2.1 = 41
        · rw [if_pos cq]
          refine ⟨fun _ => goes_tr st (goes_tr s1 (goes_1 ?_)), fun e => by cases e⟩
          rw [mst_f, if_neg (by rintro (h | h) <;> simp_all), es, if_neg (by simp), if_pos cq]; rfl
        · rw [if_neg cq]
          refine ⟨fun e => by (cases e), fun _ => goes_en st (goes_en s1 (ends_1 (O := O ++ z.2.2) ?_))⟩
          rw [mst_f, if_neg (by rintro (h | h) <;> simp_all), es, if_neg (by simp), if_neg cq]
      · rw [if_neg gz]
        exact ⟨fun e => by (cases e), fun _ => goes_en st (s2 (Bool.eq_false_iff.mpr gz))⟩
    · rw [if_neg c2]
      exact sim_t (fun h => h.elim c1 c2)
/-- the whole condition -/
theorem sim_E {c : Nat → Int} {n p : Nat} (hc : cEnd c n) (hn : n ≤ 100) (hp : p ≤ n) (O : List Int) : ∃ k, ((ei c 4 p).1 = true → mrun c k (p, true, [], O) = some (true, (ei c 4 p).2.1, O ++ (ei c 4 p).2.2)) ∧ ((ei c 4 p).1 = false → ∃ O', mrun c k (p, true, [], O) = some (false, (ei c 4 p).2.1, O')) := by
  have tn : ∀ x, ¬ top ([] : List Int) x := fun x e => by cases e
  obtain ⟨s1, s2⟩ := sim_ei (o := 0) (W := []) (O := O) hc hn (fun q V U h1 h2 => sim_fac hc hn 4 q V U h1 (by omega)) hp rfl (tn _) (tn _) (tn _)
  have ek := ei_ok (t := 4) hc hp
  by_cases gz : (ei c 4 p).1 = true
  · obtain ⟨k, hk⟩ := s1 gz
    have e38 := ei_38 (t := 4) hc hp gz
    have e124 := ek.2 gz
    refine ⟨k + (0 + 1), fun _ => ?_, fun e => by rw [gz] at e; cases e⟩
    rw [hk 0]
    refine mrun_r ?_
    rw [mst_f, if_neg (by rintro (h | h) <;> simp_all), if_pos (show (stl 124 [] (O ++ (ei c 4 p).2.2)).1 = [] from rfl)]; rfl
  · obtain ⟨k, O', hk⟩ := s2 (Bool.eq_false_iff.mpr gz)
    exact ⟨k + (0 + 1), fun e => absurd e gz, fun _ => ⟨O', hk 0⟩⟩
