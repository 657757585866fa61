/-! ===== the hour, told by itself ===== -/
abbrev Cm : Type := Nat × Nat × Nat × Nat
abbrev HS : Type := List Cm × List (Nat × Nat) × (Nat → List Nat) × Nat × Nat × Option Nat
def hsv (S : HS) : List (Nat × Nat) := S.2.1
def hq (S : HS) : Nat → List Nat := S.2.2.1
def hbz (S : HS) : Nat := S.2.2.2.1
def htr (S : HS) : Nat := S.2.2.2.2.1
def hwt (S : HS) : Option Nat := S.2.2.2.2.2
def hcm (S : HS) : List Cm := S.1
def gC (cm : List Cm) (i : Nat) : Cm := cm.getD i (0, 0, 0, 0)
def tmX (X : Nat → Nat → Nat) (s : Nat) : Nat := X 3 s + X 4 3
def qtm (X : Nat → Nat → Nat) (cm : List Cm) : List Nat → Nat
  | [] => 0
  | i :: r => tmX X (gC cm i).1 + qtm X cm r
def hask (X : Nat → Nat → Nat) (n1 : Nat) : Nat := if X 4 0 = 3 then X 4 2 + X 4 1 * n1 else X 4 2
def hdue (X : Nat → Nat → Nat) (s n1 : Nat) : Nat := if X 4 0 = 4 ∧ X 2 s < hask X n1 then 0 else hask X n1
def hahd (X : Nat → Nat → Nat) (yet t0 t1 : Nat) : Nat := if X 4 0 = 0 ∨ X 4 0 = 5 then yet + t0 + t1 else yet + t1
def hch (X : Nat → Nat → Nat) (s n0 n1 yet t0 t1 : Nat) : Nat :=
  if X 4 0 = 5 ∧ X 4 1 ≤ n0 + n1 then 2
  else if hdue X s n1 ≤ X 2 s ∧ X 0 s * hahd X yet t0 t1 + hdue X s n1 < X 0 s * (yet + t0 + t1) then (if X 1 s < X 0 s * hahd X yet t0 t1 + hdue X s n1 then 2 else 1)
  else if X 1 s < X 0 s * (yet + t0 + t1) then 2 else 0
def htd (X : Nat → Nat → Nat) (i : Nat) : Nat := if X 4 0 = 6 ∧ i < 10 then X 5 i else 0
def hln (X : Nat → Nat → Nat) (s i n0 n1 yet t0 t1 : Nat) : Nat :=
  if htd X i = 1 then 0 else if htd X i = 3 then 2 else if htd X i = 2 ∧ hdue X s n1 ≤ X 2 s then 1 else hch X s n0 n1 yet t0 t1
/-- the line that one joins -/
def hli (X : Nat → Nat → Nat) (now s : Nat) (S : HS) : Nat := hln X s (hcm S).length (hq S 0).length (hq S 1).length (hbz S - now) (qtm X (hcm S) (hq S 0)) (qtm X (hcm S) (hq S 1))
def hpd (X : Nat → Nat → Nat) (now s : Nat) (S : HS) : Nat := if hli X now s S = 1 then hdue X s (hq S 1).length else 0
def hEn (X : Nat → Nat → Nat) (now s : Nat) (S : HS) : HS :=
  (hcm S ++ [(s, now, hli X now s S, hpd X now s S)], hsv S, (if hli X now s S = 2 then hq S else u1 (hq S) (hli X now s S) (hq S (hli X now s S) ++ [(hcm S).length])), hbz S, htr S, hwt S)
def hWt (S : HS) : HS := (hcm S, hsv S, hq S, hbz S, htr S, some (hcm S).length)
def hHd (X : Nat → Nat → Nat) (now : Nat) : List (Nat × Nat) → HS → HS
  | [], S => S
  | h :: r, S => hHd X now r (if h.2 = now ∧ (hcm S).length < X 4 4 then hEn X now h.1 (if r.isEmpty = true then hWt S else S) else S)
/-- a condition: its tokens from the left on, over a pile -/
def tva (t l f n w : Nat) : Nat := if w / 300 = 0 then t else if w / 300 = 1 then l else if w / 300 = 2 then f else n
def tsv (a w : Nat) : Bool := if w / 100 % 3 = 0 then decide (a < w % 100) else if w / 100 % 3 = 1 then decide (a = w % 100) else decide (w % 100 < a)
def ev1 (t l f n : Nat) (w : Int) (p : List Bool) : List Bool :=
  if w = -3 then (!(p.headD false)) :: p.tail else if w = -1 then (p.tail.headD false && p.headD false) :: p.tail.tail else if w = -2 then (p.tail.headD false || p.headD false) :: p.tail.tail else tsv (tva t l f n w.toNat) w.toNat :: p
def ev (t l f n : Nat) (ws : List Int) (p : List Bool) : List Bool := ws.foldl (fun p w => ev1 t l f n w p) p
def hld (t l f n : Nat) (ws : List Int) : Bool := (ev t l f n ws []).headD false
def cll (cl : List Cl) (s t l f n : Nat) : Bool := (cms cl).any (fun c => c.2.1 == s && hld t l f n c.2.2)
def hT1 (X : Nat → Nat → Nat) (cl : List Cl) (now : Nat) (S : HS) (s : Nat) : HS := if (hcm S).length < X 4 4 ∧ cll cl s now (hq S 1).length (hq S 0).length (hcm S).length = true then hEn X now s S else S
def hTx (X : Nat → Nat → Nat) (cl : List Cl) (now n : Nat) (S : HS) : HS := (List.range n).foldl (hT1 X cl now) S
/-- the line of the next one, and that one served -/
def hNx (X : Nat → Nat → Nat) (S : HS) : Nat :=
  if hq S 1 = [] then 0 else if hq S 0 = [] then 1 else if X 4 0 = 1 ∨ X 4 0 = 3 ∨ X 4 0 = 6 then 1 else if X 4 0 = 2 ∨ X 4 0 = 4 then (if htr S < X 4 1 then 1 else 0) else if (hq S 1).headD 0 < (hq S 0).headD 0 then 1 else 0
def hS1 (X : Nat → Nat → Nat) (now l i : Nat) (S : HS) : HS := (hcm S, hsv S ++ [(i, now)], u1 (hq S) l (hq S l).tail, now + tmX X (gC (hcm S) i).1, (if l = 1 then htr S + 1 else 0), hwt S)
def hSv (X : Nat → Nat → Nat) (now : Nat) (S : HS) : HS := if now < hbz S then S else if hq S (hNx X S) = [] then S else hS1 X now (hNx X S) ((hq S (hNx X S)).headD 0) S
def hMn (X : Nat → Nat → Nat) (cl : List Cl) (n : Nat) (H : List (Nat × Nat)) (S : HS) (now : Nat) : HS := hSv X now (hTx X cl now n (hHd X now H S))
def h00 : HS := ([], [], fun _ => [], 0, 0, none)
def hSx (X : Nat → Nat → Nat) (cl : List Cl) (n : Nat) (H : List (Nat × Nat)) (m : Nat) : HS := (List.range m).foldl (hMn X cl n H) h00
def hDr (X : Nat → Nat → Nat) : Nat → Nat → HS → HS
  | 0, _, S => S
  | k + 1, now, S => hDr X k (max now (hbz S)) (hSv X (max now (hbz S)) S)
def hLf (S : HS) : Nat := (hq S 0).length + (hq S 1).length
def hPs (X : Nat → Nat → Nat) (cl : List Cl) (n : Nat) (H : List (Nat × Nat)) : HS := hDr X (hLf (hSx X cl n H 60)) 60 (hSx X cl n H 60)
/-! the world of an hour, and what holds of its state -/
def hX (X : Nat → Nat → Nat) (ns : Nat) : Prop := ns ≤ 6 ∧ (∀ s, s < ns → X 0 s ≤ 9 ∧ X 1 s ≤ 99 ∧ X 2 s ≤ 20 ∧ 1 ≤ X 3 s ∧ X 3 s ≤ 9) ∧ X 4 0 ≤ 6 ∧ 1 ≤ X 4 1 ∧ X 4 1 ≤ 9 ∧ X 4 2 ≤ 20 ∧ X 4 3 ≤ 29 ∧ X 4 4 ≤ 40 ∧ ∀ i, i < 10 → X 5 i ≤ 3
def hW (X : Nat → Nat → Nat) (ns now : Nat) (S : HS) : Prop :=
  ((hcm S).length ≤ X 4 4 ∧ (hq S 0).length + (hq S 1).length + (hsv S).length ≤ (hcm S).length ∧ hbz S ≤ 60 + 38 * (hsv S).length ∧ htr S ≤ (hsv S).length) ∧
  (∀ i, i < (hcm S).length → (gC (hcm S) i).1 < ns ∧ (gC (hcm S) i).2.1 ≤ now ∧ (gC (hcm S) i).2.1 < 60 ∧ (gC (hcm S) i).2.2.1 ≤ 2) ∧
  (∀ l, l < 2 → (hq S l).Pairwise (· < ·) ∧ ∀ i, i ∈ hq S l → i < (hcm S).length ∧ (gC (hcm S) i).2.2.1 = l ∧ i ∉ (hsv S).map (·.1)) ∧
  (∀ e, e ∈ hsv S → e.1 < (hcm S).length ∧ (gC (hcm S) e.1).2.2.1 < 2 ∧ (gC (hcm S) e.1).2.1 ≤ e.2 ∧ e.2 ≤ now) ∧
  ((hsv S).map (·.1)).Nodup ∧
  ∀ i, i < (hcm S).length → (gC (hcm S) i).2.2.1 = 2 ∨ i ∈ hq S (gC (hcm S) i).2.2.1 ∨ i ∈ (hsv S).map (·.1)
theorem gC_lt {cm : List Cm} {i : Nat} (c : Cm) (h : i < cm.length) : gC (cm ++ [c]) i = gC cm i := by
  unfold gC; rw [List.getD_eq_getElem?_getD, List.getD_eq_getElem?_getD, List.getElem?_append_left h]
theorem gC_at (cm : List Cm) (c : Cm) : gC (cm ++ [c]) cm.length = c := by
  unfold gC; rw [List.getD_eq_getElem?_getD, List.getElem?_append_right (Nat.le_refl _), Nat.sub_self]; rfl
theorem qtm_app {X : Nat → Nat → Nat} {cm : List Cm} (c : Cm) {l : List Nat} (h : ∀ i, i ∈ l → i < cm.length) : qtm X (cm ++ [c]) l = qtm X cm l := by
  induction l with
  | nil => rfl
  | cons i r ih =>
    show tmX X (gC (cm ++ [c]) i).1 + _ = tmX X (gC cm i).1 + _
    rw [gC_lt c (h i (List.mem_cons_self ..)), ih (fun j hj => h j (List.mem_cons_of_mem _ hj))]
theorem qtm_cat (X : Nat → Nat → Nat) (cm : List Cm) (l : List Nat) (i : Nat) : qtm X cm (l ++ [i]) = qtm X cm l + tmX X (gC cm i).1 := by
  induction l with
  | nil => show tmX X _ + 0 = 0 + tmX X _; omega
  | cons j r ih => show tmX X _ + qtm X cm (r ++ [i]) = tmX X _ + qtm X cm r + _; rw [ih]; omega
theorem tmS_le {X : Nat → Nat → Nat} {ns s : Nat} (h : hX X ns) (hs : s < ns) : 1 ≤ tmX X s ∧ tmX X s ≤ 38 := by
  have := h.2.1 s hs
  have := h.2.2.2.2.2.2.1
  unfold tmX; omega
theorem qtm_le {X : Nat → Nat → Nat} {ns : Nat} {cm : List Cm} {l : List Nat} (h : hX X ns) (hl : ∀ i, i ∈ l → (gC cm i).1 < ns) : qtm X cm l ≤ 38 * l.length := by
  induction l with
  | nil => exact Nat.zero_le _
  | cons i r ih =>
    have h1 := (tmS_le h (hl i (List.mem_cons_self ..))).2
    have h2 := ih (fun j hj => hl j (List.mem_cons_of_mem _ hj))
    show tmX X _ + qtm X cm r ≤ 38 * (r.length + 1)
    omega
theorem hch_le (X : Nat → Nat → Nat) (s n0 n1 yet t0 t1 : Nat) : hch X s n0 n1 yet t0 t1 ≤ 2 := by
  unfold hch; repeat' split
  all_goals omega
theorem hli_le (X : Nat → Nat → Nat) (now s : Nat) (S : HS) : hli X now s S ≤ 2 := by
  unfold hli hln; repeat' split
  all_goals first | omega | exact hch_le ..
theorem hW_mono {X : Nat → Nat → Nat} {ns now now' : Nat} {S : HS} (h : hW X ns now S) (hn : now ≤ now') : hW X ns now' S := by
  obtain ⟨h1, h2, h3, h4, h5, h6⟩ := h
  exact ⟨h1, fun i hi => by have := h2 i hi; omega, h3, fun e he => by have := h4 e he; omega, h5, h6⟩
theorem hW_wt {X : Nat → Nat → Nat} {ns now : Nat} {S : HS} (h : hW X ns now S) : hW X ns now (hWt S) := h
theorem hW_00 (X : Nat → Nat → Nat) (ns : Nat) : hW X ns 0 h00 := by
  refine ⟨⟨Nat.zero_le _, Nat.le_refl _, Nat.zero_le _, Nat.le_refl _⟩, fun i hi => absurd hi (Nat.not_lt_zero _), fun l hl => ⟨List.Pairwise.nil, fun i hi => ?_⟩, fun e he => ?_, List.nodup_nil, fun i hi => absurd hi (Nat.not_lt_zero _)⟩
  · exact absurd hi List.not_mem_nil
  · exact absurd he List.not_mem_nil
theorem hW_en {X : Nat → Nat → Nat} {ns now s : Nat} {S : HS} (h : hW X ns now S) (hs : s < ns) (hn : now < 60) (hc : (hcm S).length < X 4 4) : hW X ns now (hEn X now s S) := by
  obtain ⟨⟨a1, a2, a3, a4⟩, h2, h3, h4, h5, h6⟩ := h
  have hl := hli_le X now s S
  obtain ⟨cm, sv, q, bz, tr, wt⟩ := S
  simp only [hcm, hsv, hq, hbz, htr, hwt] at *
  unfold hEn hW
  generalize hli X now s (cm, sv, q, bz, tr, wt) = li at *
  generalize hpd X now s (cm, sv, q, bz, tr, wt) = pd at *
  simp only [hcm, hsv, hq, hbz, htr, hwt]
  have hlen : (cm ++ [((s, now, li, pd) : Cm)]).length = cm.length + 1 := List.length_append
  have hsvn : cm.length ∉ sv.map (·.1) := by
    intro q
    obtain ⟨e, he, hee⟩ := List.mem_map.mp q
    have := (h4 e he).1
    omega
  have hqq : ∀ l, l < 2 → (if li = 2 then q else u1 q li (q li ++ [cm.length])) l = if l = li then q li ++ [cm.length] else q l := by
    intro l hl2
    by_cases e : li = 2
    · rw [if_pos e, if_neg (by omega)]
    · rw [if_neg e]; rfl
  refine ⟨⟨by rw [hlen]; omega, ?_, a3, a4⟩, fun i hi => ?_, fun l hl2 => ?_, fun e he => ?_, h5, fun i hi => ?_⟩
  · rw [hlen, hqq 0 (by omega), hqq 1 (by omega)]
    by_cases e0 : 0 = li
    · rw [if_pos e0, if_neg (by omega), ← e0, List.length_append]
      show (q 0).length + 1 + (q 1).length + sv.length ≤ _
      omega
    · rw [if_neg e0]
      by_cases e1 : 1 = li
      · rw [if_pos e1, ← e1, List.length_append]
        show (q 0).length + ((q 1).length + 1) + sv.length ≤ _
        omega
      · rw [if_neg e1]; omega
  · rw [hlen] at hi
    by_cases e : i = cm.length
    · subst e; rw [gC_at]; exact ⟨hs, Nat.le_refl _, hn, hl⟩
    · rw [gC_lt _ (by omega)]; exact h2 i (by omega)
  · rw [hqq l hl2, hlen]
    by_cases e : l = li
    · subst e
      rw [if_pos rfl]
      obtain ⟨b1, b2⟩ := h3 l hl2
      refine ⟨List.pairwise_append.mpr ⟨b1, List.pairwise_singleton .., fun a ha b hb => ?_⟩, fun i hi => ?_⟩
      · rw [List.mem_singleton.mp hb]; exact (b2 a ha).1
      · rcases List.mem_append.mp hi with hi | hi
        · obtain ⟨c1, c2, c3⟩ := b2 i hi
          rw [gC_lt _ c1]; exact ⟨by omega, c2, c3⟩
        · rw [List.mem_singleton.mp hi, gC_at]; exact ⟨by omega, rfl, hsvn⟩
    · rw [if_neg e]
      obtain ⟨b1, b2⟩ := h3 l hl2
      refine ⟨b1, fun i hi => ?_⟩
      obtain ⟨c1, c2, c3⟩ := b2 i hi
      rw [gC_lt _ c1]; exact ⟨by omega, c2, c3⟩
  · obtain ⟨c1, c2, c3, c4⟩ := h4 e he
    rw [gC_lt _ c1, hlen]; exact ⟨by omega, c2, c3, c4⟩
  · rw [hlen] at hi
    by_cases e : i = cm.length
    · subst e
      rw [gC_at]
      show li = 2 ∨ cm.length ∈ (if li = 2 then q else u1 q li (q li ++ [cm.length])) li ∨ _
      by_cases e2 : li = 2
      · exact Or.inl e2
      · refine Or.inr (Or.inl ?_)
        rw [hqq li (by omega), if_pos rfl]
        exact List.mem_append.mpr (Or.inr (List.mem_singleton.mpr rfl))
    · rw [gC_lt _ (by omega)]
      rcases h6 i (by omega) with g | g | g
      · exact Or.inl g
      · by_cases e2 : (gC cm i).2.2.1 = 2
        · exact Or.inl e2
        · refine Or.inr (Or.inl ?_)
          have := (h2 i (by omega)).2.2.2
          rw [hqq _ (by omega)]
          by_cases e3 : (gC cm i).2.2.1 = li
          · rw [if_pos e3, ← e3]; exact List.mem_append.mpr (Or.inl g)
          · rw [if_neg e3]; exact g
      · exact Or.inr (Or.inr g)
theorem hNx_lt (X : Nat → Nat → Nat) (S : HS) : hNx X S < 2 := by
  unfold hNx; repeat' split
  all_goals omega
theorem u1_if {α : Type} (f : Nat → α) (a : Nat) (v : α) (b : Nat) : u1 f a v b = if b = a then v else f b := rfl
theorem hW_s1 {X : Nat → Nat → Nat} {ns now l i : Nat} {r : List Nat} {S : HS} (hx : hX X ns) (h : hW X ns now S) (hn : now ≤ 60 + 38 * (hsv S).length) (hl : l < 2) (hq0 : hq S l = i :: r) : hW X ns now (hS1 X now l i S) := by
  obtain ⟨⟨a1, a2, a3, a4⟩, h2, h3, h4, h5, h6⟩ := h
  obtain ⟨cm, sv, q, bz, tr, wt⟩ := S
  simp only [hcm, hsv, hq, hbz, htr, hwt] at *
  unfold hS1 hW
  simp only [hcm, hsv, hq, hbz, htr, hwt]
  obtain ⟨b1, b2⟩ := h3 l hl
  rw [hq0] at b1 b2
  obtain ⟨p1, p2⟩ := List.pairwise_cons.mp b1
  obtain ⟨d1, d2, d3⟩ := b2 i (List.mem_cons_self ..)
  have ht := tmS_le hx (h2 i d1).1
  have hsl : (sv ++ [((i, now) : Nat × Nat)]).length = sv.length + 1 := List.length_append
  have hm : (sv ++ [((i, now) : Nat × Nat)]).map (·.1) = sv.map (·.1) ++ [i] := List.map_append
  rw [hq0]
  refine ⟨⟨a1, ?_, by rw [hsl]; omega, ?_⟩, h2, fun k hk => ?_, fun e he => ?_, ?_, fun j hj => ?_⟩
  · rw [hsl, u1_if, u1_if]
    by_cases e0 : 0 = l
    · subst e0
      rw [if_pos rfl, if_neg (by omega)]
      rw [hq0] at a2
      have : (i :: r).length = r.length + 1 := rfl
      show r.length + _ + _ ≤ _
      omega
    · obtain rfl : l = 1 := by omega
      rw [if_pos rfl, if_neg (by omega)]
      rw [hq0] at a2
      have : (i :: r).length = r.length + 1 := rfl
      show _ + r.length + _ ≤ _
      omega
  · rw [hsl]; split <;> omega
  · rw [u1_if, hm]
    by_cases e : k = l
    · subst e
      rw [if_pos rfl]
      refine ⟨p2, fun j hj => ?_⟩
      obtain ⟨c1, c2, c3⟩ := b2 j (List.mem_cons_of_mem _ hj)
      refine ⟨c1, c2, fun hh => ?_⟩
      rcases List.mem_append.mp hh with hh | hh
      · exact c3 hh
      · have := p1 j hj
        rw [List.mem_singleton.mp hh] at this
        omega
    · rw [if_neg e]
      obtain ⟨c1, c2⟩ := h3 k hk
      refine ⟨c1, fun j hj => ?_⟩
      obtain ⟨g1, g2, g3⟩ := c2 j hj
      refine ⟨g1, g2, fun hh => ?_⟩
      rcases List.mem_append.mp hh with hh | hh
      · exact g3 hh
      · rw [List.mem_singleton.mp hh, d2] at g2
        omega
  · rcases List.mem_append.mp he with he | he
    · exact h4 e he
    · rw [List.mem_singleton.mp he]
      exact ⟨d1, by rw [d2]; exact hl, (h2 i d1).2.1, Nat.le_refl _⟩
  · rw [hm]
    refine List.nodup_append.mpr ⟨h5, List.nodup_cons.mpr ⟨List.not_mem_nil, List.nodup_nil⟩, fun a ha b hb => ?_⟩
    rw [List.mem_singleton.mp hb]
    exact fun q => d3 (q ▸ ha)
  · rw [hm, u1_if]
    rcases h6 j hj with g | g | g
    · exact Or.inl g
    · refine Or.inr ?_
      by_cases e : (gC cm j).2.2.1 = l
      · rw [e, hq0] at g
        rw [if_pos e]
        rcases List.mem_cons.mp g with g | g
        · exact Or.inr (List.mem_append.mpr (Or.inr (List.mem_singleton.mpr g)))
        · exact Or.inl g
      · rw [if_neg e]; exact Or.inl g
    · exact Or.inr (Or.inr (List.mem_append.mpr (Or.inl g)))
theorem hW_sv {X : Nat → Nat → Nat} {ns now : Nat} {S : HS} (hx : hX X ns) (h : hW X ns now S) (hn : now ≤ 60 + 38 * (hsv S).length) : hW X ns now (hSv X now S) := by
  unfold hSv
  by_cases c1 : now < hbz S
  · rw [if_pos c1]; exact h
  rw [if_neg c1]
  by_cases c2 : hq S (hNx X S) = []
  · rw [if_pos c2]; exact h
  rw [if_neg c2]
  cases hq0 : hq S (hNx X S) with
  | nil => exact absurd hq0 c2
  | cons i r => exact hW_s1 hx h hn (hNx_lt X S) hq0
