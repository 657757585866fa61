section NEWS
variable {p : Program} {l : Launch} {e : Env} {R : Room} {s : State} {m : MethodId} {args : Array Value} {below : List Frame} {meth : Method} {c : Code} {cc : ByteArray} {own : String} {nL : Nat} {g : Geo} {G : State → Prop} {k n pc : Nat} {al : List (Nat × Value)} {st : List Value} {M : Mem}

theorem Pic.new {g : Geo} {M : Mem} {H H' : Heap} {x : Sh} (hP : Pic g M H) (hx : x ≠ .inl 99) (hat : va_at (gD g) vwCl (g.1 + mN M, ce g (nw M x) (mN M)) H') (z : H'.size = H.size + 1) (oq : ∀ q : Nat, q < H.size → H'[q]? = H[q]?) : Pic g (nw M x) H' := by
  refine ⟨by rw [z, hP.1]; rfl, fun b hb => ?_, fun b hb => ?_⟩
  · have hb2 : b < mN M + 1 := hb
    by_cases e : b = mN M
    · subst e
      exact hat
    · rw [ce_eq (M := M) (M' := nw M x) (u1_ne (mS M) x e) (u1_ne (mI M) _ e) (u1_ne (mL M) _ e) (u1_ne (mP M) _ e)]
      exact (hP.2.1 b (by omega)).kept (oq _ (by rw [hP.1]; show g.1 + b < g.1 + mN M; omega))
  · have hb2 : mN M + 1 ≤ b := hb
    show u1 (mS M) (mN M) x b = _
    rw [u1_ne _ _ (by omega)]
    exact hP.2.2 b (by omega)
theorem va_S.new {A : Nat → Prop} {H0 H H1 : Heap} {locs : List Loc} (h : va_S A H0 H locs) (z : H1.size = H.size + 1) (oq : ∀ q : Nat, q < H.size → H1[q]? = H[q]?) : va_S A H0 H1 locs :=
  ⟨Nat.le_trans h.1 (by omega), fun x h1 h2 => (oq x (Nat.lt_of_lt_of_le h1 h.1)).trans (h.2.1 x h1 h2), h.2.2⟩
theorem e_new (C : Cx p s m args c cc own nL g) {index : Nat} (ci : Nat) {K : String} {T : u_T} {N : Nat} (h1 : vwCl[ci]? = some (K, T, N)) (hN : clN ci = N) (h3 : ∀ w ∈ u_ws K T N, w ∈ lw_good) (h7 : ∀ j, j < N → parseFieldDescriptor (T j).2.2.1 = some (tyC ci j)) (hty : ∀ j, j < N → defaultValue (tyC ci j) = (if tR (tyC ci j) = true then Value.null else Value.int 0) ∧ (tR (tyC ci j) = true ∨ tI (tyC ci j) = true))
    (hcl : Cond.classLink own index K ∈ lw_good) (hinst : Cond.instantiable K N ∈ lw_good) (hini : Cond.initialized K ∈ lw_good) (hcells : k + 1 ≤ R.cells) (hslots : n + N ≤ R.slots) (hdg : decode cc pc = .ok (.new index, 3))
    (kk : E p l e R s m args below meth c g nL G (k + 1) (n + N) (pc + 3) al (.ref (mN M) :: st) (nw M (.inl ci))) : E p l e R s m args below meth c g nL G k n pc al st M := by
  intro ls H locs hl hP hS
  have hK : va_K (gD g) vwCl [] s := ⟨C.2.2.2.2.2.1, fun k z h => by simp at h⟩
  have hKn := hK.1 ci _ h1
  refine W.newcK C.1 C.2.1 C.2.2.2.1 (C.2.2.2.2.1 _ hcl) (C.2.2.2.2.1 _ hinst) (C.2.2.2.2.1 _ hini) rfl hdg hcells hslots hKn.2.1 hP.1 fun H1 kC hkC e1 z1 o1 => ?_
  have z2 : H1.size = H.size + 1 := by rw [z1, hP.1]
  have o2 : ∀ q : Nat, q < H.size → H1[q]? = H[q]? := fun q hq => o1 q (by rw [← hP.1]; exact hq)
  refine kk ls H1 locs hl (hP.new ?_ ?_ z2 o2) (hS.new z2 o2)
  · intro e
    cases e
    simp [vwCl] at h1
  rw [ce_obj (show mS (nw M (.inl ci)) (mN M) = .inl ci from u1_same _ _ _), hN]
  refine ⟨_, h1, (u_born (tyC ci) (ws := lw_good) (fun w hw => C.2.2.2.2.1 w hw) h3 hKn hkC e1 h7).to (fun j hj => ?_)⟩
  have hj2 : j < N := hj
  rw [vpv_range N _ hj2]
  obtain ⟨hd, ht⟩ := hty j hj2
  rw [hd]
  have hI : mI (nw M (.inl ci)) (mN M) = fun _ => 0 := u1_same _ _ _
  have hR : mP (nw M (.inl ci)) (mN M) = fun _ => none := u1_same _ _ _
  unfold fv
  rw [hI, hR]
  revert ht
  cases tyC ci j <;> intro ht <;> first | rfl | (rcases ht with ht | ht <;> cases ht)
theorem e_newa (C : Cx p s m args c cc own nL g) {atype : ArrayType} (t : Nat) {N : Nat} {x : Int32} (hx : x = nI N) (hN31 : N < 1000) (ht : t < 4) (hty : newarray.typeOf atype = tyA t) (hw : Cond.arrayClass (tyA t) ∈ lw_good) (hcells : k + 1 ≤ R.cells) (hslots : n + N ≤ R.slots) (hdg : decode cc pc = .ok (.newarray atype, 2))
    (kk : E p l e R s m args below meth c g nL G (k + 1) (n + N) (pc + 2) al (.ref (mN M) :: st) (nw M (.inr (t, N)))) : E p l e R s m args below meth c g nL G k n pc al (.int x :: st) M := by
  intro ls H locs hl hP hS
  subst hx
  have hcb : componentBytes (newarray.typeOf atype) ≤ 8 := by cases atype <;> decide
  refine va_newaK C.1 C.2.1 (by rw [hty]; exact C.2.2.2.2.1 _ hw) rfl hdg rfl (nI_pos (by omega)) (nI_clamp (by omega)) (Nat.le_trans (Nat.mul_le_mul (Nat.le_of_lt hN31) hcb) (by decide)) hcells hslots hP.1 fun H1 cA e1 z1 o1 hAr hNm => ?_
  have hRA := (C.2.2.2.2.2.2.1 t (by omega)).2
  have hcA : g.2.2.2.2 t = cA := by
    have h2 : s.vm.findClass ("[" ++ (tyA t).toString) = some (g.2.2.2.2 t) := by
      revert hRA
      match t, ht with
      | 0, _ => exact id
      | 1, _ => exact id
      | 2, _ => exact id
      | 3, _ => exact id
    rw [hty] at hNm
    exact Option.some.inj (h2.symm.trans hNm)
  have z2 : H1.size = H.size + 1 := by rw [z1, hP.1]
  have o2 : ∀ q : Nat, q < H.size → H1[q]? = H[q]? := fun q hq => o1 q (by rw [← hP.1]; exact hq)
  refine kk ls H1 locs hl (hP.new (fun e => by cases e) ?_ z2 o2) (hS.new z2 o2)
  rw [ce_arr (show mS (nw M (.inr (t, N))) (mN M) = .inr (t, N) from u1_same _ _ _), hcA]
  show H1[g.1 + mN M]? = some (vp_cell cA (N, cn g (nw M (.inr (t, N))) (mN M) t))
  rw [e1, hty]
  have hI : mI (nw M (.inr (t, N))) (mN M) = fun _ => 0 := u1_same _ _ _
  have hL : mL (nw M (.inr (t, N))) (mN M) = fun _ => 0 := u1_same _ _ _
  match t, ht with
  | 0, _ => show _ = some (arrV _ _ (fun j => Value.int (mI (nw M (.inr (0, N))) (mN M) j))); rw [hI]; rfl
  | 1, _ => show _ = some (arrV _ _ (fun j => Value.int (mI (nw M (.inr (1, N))) (mN M) j))); rw [hI]; rfl
  | 2, _ => show _ = some (arrV _ _ (fun j => Value.int (mI (nw M (.inr (2, N))) (mN M) j))); rw [hI]; rfl
  | 3, _ => show _ = some (arrV _ _ (fun j => Value.long (mL (nw M (.inr (3, N))) (mN M) j))); rw [hL]; rfl
theorem e_anew (C : Cx p s m args c cc own nL g) {index : Nat} {K : String} (t : Nat) {N : Nat} {x : Int32} (hx : x = nI N) (hN31 : N < 1000) (ht : 4 < t ∧ t < 8) (hty : tyA t = .object K) (hAO : va_AO K s) (hcl : Cond.classLink own index K ∈ lw_good) (hcells : k + 1 ≤ R.cells) (hslots : n + N ≤ R.slots) (hdg : decode cc pc = .ok (.anewarray index, 3))
    (kk : E p l e R s m args below meth c g nL G (k + 1) (n + N) (pc + 3) al (.ref (mN M) :: st) (nw M (.inr (t, N)))) : E p l e R s m args below meth c g nL G k n pc al (.int x :: st) M := by
  intro ls H locs hl hP hS
  subst hx
  have hNc : (nI N).toNatClampNeg = N := nI_clamp (by omega)
  refine W.anew C.1 C.2.1 C.2.2.2.1 (C.2.2.2.2.1 _ hcl) (va_AO.use hAO) rfl hdg rfl (nI_pos (by omega)) (by rw [hNc]; omega) hcells (by rw [hNc]; exact hslots) fun cA kA comp f1 f2 f3 f4 => ?_
  rw [hNc]
  have hRA := (C.2.2.2.2.2.2.1 t ht.2).2
  rw [hty] at hRA
  obtain ⟨-, -, -, -, -, h2⟩ := hRA
  have hcA : g.2.2.2.2 t = cA := Option.some.inj (h2.symm.trans f1)
  generalize hH1 : H.push ({ cls := cA, slots := Array.replicate N .null, vm := .none } : Cell) = H1
  have z2 : H1.size = H.size + 1 := by rw [← hH1, Array.size_push]
  have e1 : H1[H.size]? = some (arrV cA N (fun _ => .null)) := by rw [← hH1, Array.getElem?_push_size, ← arrV_new]
  have o2 : ∀ q : Nat, q < H.size → H1[q]? = H[q]? := fun q hq => by rw [← hH1, Array.getElem?_push, if_neg (Nat.ne_of_lt hq)]
  rw [hP.1]
  refine kk ls H1 locs hl (hP.new (fun e => by cases e) ?_ z2 o2) (hS.new z2 o2)
  rw [ce_arr (show mS (nw M (.inr (t, N))) (mN M) = .inr (t, N) from u1_same _ _ _), hcA]
  show H1[g.1 + mN M]? = some (vp_cell cA (N, cn g (nw M (.inr (t, N))) (mN M) t))
  rw [← hP.1, e1]
  have hR : mP (nw M (.inr (t, N))) (mN M) = fun _ => none := u1_same _ _ _
  obtain ⟨h3, h4⟩ := ht
  match t, h3 with
  | 5, _ => show _ = some (arrV _ _ (fun j => va_rf (rl g (mP (nw M (.inr (5, N))) (mN M) j)))); rw [hR]; rfl
  | 6, _ => show _ = some (arrV _ _ (fun j => va_rf (rl g (mP (nw M (.inr (6, N))) (mN M) j)))); rw [hR]; rfl
  | 7, _ => show _ = some (arrV _ _ (fun j => va_rf (rl g (mP (nw M (.inr (7, N))) (mN M) j)))); rw [hR]; rfl
  | t + 8, _ => omega
theorem e_aast (C : Cx p s m args c cc own nL g) {a v : Nat} {i : Int32} (t : Nat) {K : String} (ht : 4 < t ∧ t < 8) (hty : tyA t = .object K) (ha : isA M a t i) (cs : List Nat) (hv : isO M v cs) (hc : ∀ ci ∈ cs, ∃ r : vw_C, vwCl[ci]? = some r ∧ (r.1 = K ∨ (r.1, K) ∈ lw_can)) (hdg : decode cc pc = .ok (.aastore, 1)) (kk : E p l e R s m args below meth c g nL G k n (pc + 1) al st (sP M a i.toNatClampNeg (some v))) : E p l e R s m args below meth c g nL G k n pc al (.ref v :: .int i :: .ref a :: st) M := by
  intro ls H locs hl hP hS
  obtain ⟨len, hS0, hin⟩ := ha
  have hne : mS M a ≠ .inl 99 := by rw [hS0]; exact fun z => by cases z
  have hat := hP.at hne
  rw [ce_arr hS0] at hat
  have hcn : ∀ M' : Mem, cn g M' a t = .inr (.inr (.inr (.inr (fun j => rl g (mP M' a j))))) := by
    intro M'
    obtain ⟨h1, h2⟩ := ht
    match t, h1 with
    | 5, _ => rfl
    | 6, _ => rfl
    | 7, _ => rfl
    | t + 8, _ => omega
  rw [hcn] at hat
  have hA : H[g.1 + a]? = some (vp_cell (g.2.2.2.2 t) (len, .inr (.inr (.inr (.inr (fun j => rl g (mP M a j))))))) := hat
  have hlt : i.toNatClampNeg < len := Nat.not_le.mp fun q => hin (Or.inr q)
  have h0 : ¬ i < 0 := fun q => hin (Or.inl q)
  obtain ⟨ci, hci, hSv⟩ := hv
  obtain ⟨r, hr, hcast⟩ := hc ci hci
  have hnev : mS M v ≠ .inl 99 := by
    rw [hSv]
    intro e
    cases e
    simp [vwCl] at hr
  have hatv := hP.at hnev
  rw [ce_obj hSv] at hatv
  obtain ⟨r', hr', cellV, g1, g2, g3, -⟩ := hatv
  have hcls := (C.2.2.2.2.2.1 ci r hr).2
  have hRA := (C.2.2.2.2.2.2.1 t ht.2).2
  rw [hty] at hRA
  obtain ⟨kA, comp, k1, k2, k3, -⟩ := hRA
  obtain ⟨hfc, kC, hkC, hkind⟩ := hcls
  have hasg : s.vm.assignable cellV.cls comp = true := by
    rw [g2]
    rcases hcast with hq | hq
    · have hcomp : comp = g.2.2.1 ci := by rw [hq] at hfc; exact Option.some.inj (k3.symm.trans hfc)
      subst hcomp
      exact va_assign ⟨hfc, kC, hkC, hkind⟩
    · exact vb_asgC (C.2.2.2.2.2.2.2.2.1 _ hq) comp _ k3 hfc
  have hkcomp : ∃ kcomp : Class, s.vm.classes[comp]? = some kcomp := by
    obtain ⟨kc, hkc, -⟩ := Vm.findClass_spec k3
    exact ⟨kc, hkc⟩
  obtain ⟨kcomp, hkcomp⟩ := hkcomp
  refine W.aast C.1 C.2.1 hA (fun q h => by cases h) (fun h => by cases h) k1 k2 rfl hkcomp ⟨h0, by show _ < (arrV _ _ _).slots.size; rw [arrV_size]; exact hlt⟩ g1 (fun q h => by rw [g3] at h; cases h) (by rw [g2]; exact hkC) hasg rfl rfl hdg fun H1 e z oq => ?_
  refine kk ls H1 _ hl (hP.put (hP.lt hne) rfl rfl (fun _ _ => rfl) (fun _ _ => rfl) (fun b hb => u2_row _ _ _ hb) ?_ z oq) (hS.put z oq (Nat.le_add_right _ _))
  rw [ce_arr (show mS (sP M a i.toNatClampNeg (some v)) a = .inr (t, len) from hS0), hcn]
  show H1[g.1 + a]? = some (arrV _ _ (fun j => va_rf (rl g (mP (sP M a i.toNatClampNeg (some v)) a j))))
  rw [e]
  show some ((arrV _ _ _).setSlot _ _) = _
  rw [arrV_store]
  congr 2
  funext q
  show updV _ _ _ q = va_rf (rl g (u2 _ _ _ _ _ _))
  by_cases hq : q = i.toNatClampNeg
  · subst hq
    rw [u2_same]
    unfold updV
    rw [if_pos rfl]
    rfl
  · rw [u2_ne _ _ (Or.inr hq)]
    unfold updV
    rw [if_neg hq]
    rfl
theorem e_inst (C : Cx p s m args c cc own nL g) {index a : Nat} {K : String} (cs ds : List Nat) (hcl : Cond.classLink own index K ∈ lw_good) (ho : isO M a cs) (hc : ∀ ci ∈ cs, ∃ r : vw_C, vwCl[ci]? = some r ∧ ((ci ∈ ds ∧ (r.1 = K ∨ (r.1, K) ∈ lw_can)) ∨ (ci ∉ ds ∧ (r.1, K) ∈ lw_not))) (hdg : decode cc pc = .ok (.instanceof index, 3))
    (kt : isO M a ds → E p l e R s m args below meth c g nL G k n (pc + 3) al (.int 1 :: st) M) (kf : ¬ isO M a ds → E p l e R s m args below meth c g nL G k n (pc + 3) al (.int 0 :: st) M) : E p l e R s m args below meth c g nL G k n pc al (.ref a :: st) M := by
  intro ls H locs hl hP hS
  obtain ⟨ci, hci, hS0⟩ := ho
  obtain ⟨r, hr, hcast⟩ := hc ci hci
  have hne : mS M a ≠ .inl 99 := by
    rw [hS0]
    intro e
    cases e
    simp [vwCl] at hr
  have hat := hP.at hne
  rw [ce_obj hS0] at hat
  obtain ⟨r', hr', cellV, g1, g2, g3, -⟩ := hat
  have hcls := (C.2.2.2.2.2.1 ci r hr).2
  have hrc : ∃ cell : Cell, H[g.1 + a]? = some cell ∧ cell.vm.isStatics = false ∧ s.vm.findClass r.1 = some cell.cls := ⟨cellV, g1, by rw [g3]; rfl, by rw [g2]; exact hcls.1⟩
  rcases hcast with ⟨hd, hq⟩ | ⟨hd, hq⟩
  · have k1 := kt ⟨ci, hd, hS0⟩
    rcases hq with hq | hq
    · subst hq
      exact va_instS C.1 C.2.1 C.2.2.2.1 (C.2.2.2.2.1 _ hcl) hcls hrc hdg (k1 ls H locs hl hP hS)
    · exact va_instY C.1 C.2.1 C.2.2.2.1 (C.2.2.2.2.1 _ hcl) (C.2.2.2.2.2.2.2.2.1 _ hq) hrc hdg (k1 ls H locs hl hP hS)
  · have k0 := kf (by
      rintro ⟨cj, h1, h2⟩
      rw [hS0] at h2
      cases h2
      exact hd h1)
    exact va_instNo C.1 C.2.1 C.2.2.2.1 (C.2.2.2.2.1 _ hcl) (C.2.2.2.2.2.2.2.2.2.1 _ hq) hrc hdg (k0 ls H locs hl hP hS)
end NEWS
