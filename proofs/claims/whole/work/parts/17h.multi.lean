theorem vr_outer (c : ClassId) (N h0 : Nat) : ∀ i : Nat, Jvm.Free.Multi.outerC c N h0 i = arrV c N (fun j => va_rf (if j < i then some (h0 + 1 + j) else none))
  | 0 => by
    show ({ cls := c, slots := Array.replicate N .null, vm := .none } : Cell) = _
    rw [arrV_new]
    refine congrArg (arrV c N) (funext fun j => ?_)
    simp [va_rf]
  | i + 1 => by
    show (Jvm.Free.Multi.outerC c N h0 i).setSlot i (.ref (h0 + 1 + i)) = _
    rw [vr_outer c N h0 i, arrV_store]
    refine congrArg (arrV c N) (funext fun j => ?_)
    by_cases e : j = i
    · subst e
      simp [updV, va_rf]
    · by_cases h : j < i
      · simp [updV, e, h, Nat.lt_succ_of_lt h]
      · simp [updV, e, h, show ¬ j < i + 1 by omega]
section MUL
variable {p : Program} {l : Launch} {e : Env} {R : Room} {s : State} {m : MethodId} {args : Array Value} {below : List Frame} {meth : Method} {c : Code} {cc : ByteArray} {own : String} {nL : Nat} {g : Geo} {G : State → Prop} {k n pc : Nat} {al : List (Nat × Value)} {st : List Value} {M : Mem}

theorem va_OI.use {U : State} {A : Array Value} (h : va_OI U) : (Cond.arrayOver (.array .int)).before A U = true := by
  obtain ⟨comp, c, k, h1, h2, h3, h4, h5⟩ := h
  unfold Cond.before Cond.holds
  simp only [Cond.value]
  have h1' : U.vm.findClass (FieldType.array .int).toString = some comp := h1
  have h5' : U.vm.findClass ("[" ++ (FieldType.array .int).toString) = some c := h5
  rw [h1', Option.bind_some]
  refine (congrArg (fun o : Option Nat => (o.bind (fun c => (U.vm.classes[c]?).map fun (k : Class) => match k.kind with | .array _ ty => decide (ty = FieldType.array .int) && decide (U.vm.findClass ("[" ++ (FieldType.array .int).toString) = some c) | _ => false) == some true)) h2).trans ?_
  simp [h3, h4, h5']

theorem e_multi (C : Cx p s m args c cc own nL g) {index N N2 : Nat} {x y : Int32} (hx : x = nI N) (hy : y = nI N2) (hN : N < 1000) (hN2 : N2 < 1000) (hw : Cond.arrayClass .int ∈ lw_good) (hcl : Cond.classLink own index "[[I" ∈ lw_good) (hcells : k + (1 + N) ≤ R.cells) (hslots : n + (N + N * N2) ≤ R.slots) (hdg : decode cc pc = .ok (.multianewarray index 2, 4))
    (kk : E p l e R s m args below meth c g nL G (k + (1 + N)) (n + (N + N * N2)) (pc + 4) al (.ref (mN M) :: st) (nwm M N N2)) : E p l e R s m args below meth c g nL G k n pc al (.int y :: .int x :: st) M := by
  intro ls H locs hl hP hS
  subst hx; subst hy
  have hNc : (nI N).toNatClampNeg = N := nI_clamp (by omega)
  have hNc2 : (nI N2).toNatClampNeg = N2 := nI_clamp (by omega)
  intro T hT X
  obtain ⟨vm₁, cA, comp, hW1, fA, fC, hO, hI, X', step⟩ := Jvm.Stand.multianewarray2F X C.1 C.2.2.2.1 (ty := .int) (C.2.2.2.2.1 _ hcl) (va_OI.use C.2.2.2.2.2.2.2.2.2.2.2.2.2.2.1) (C.2.2.2.2.1 _ hw)
    (g := F0 m pc ls ((Value.int (nI N2) :: Value.int (nI N) :: st).map (tr g))) rfl (by rw [C.2.1]; exact hdg) (n := nI N) (k := nI N2) (rest := st.map (tr g)) rfl (nI_pos (by omega)) (nI_pos (by omega)) (by rw [hNc]; omega) (by rw [hNc2]; show N2 * 4 ≤ _; omega) (by rw [hNc2]; omega) rfl rfl (by rw [hNc]; exact hcells) (by rw [hNc, hNc2]; exact hslots)
  rw [hNc, hNc2] at X' step
  have hRA4 := (C.2.2.2.2.2.2.1 4 (by decide)).2
  have hRA0 := (C.2.2.2.2.2.2.1 0 (by decide)).2
  have ecA : g.2.2.2.2 4 = cA := Option.some.inj (Eq.trans (show s.vm.findClass ("[" ++ (FieldType.array .int).toString) = some (g.2.2.2.2 4) from hRA4).symm fA)
  have ecO : g.2.2.2.2 0 = comp := Option.some.inj (Eq.trans (show s.vm.findClass (FieldType.array .int).toString = some (g.2.2.2.2 0) from hRA0).symm fC)
  have hTh : (T.setVm vm₁).heap = H := hT
  obtain ⟨f1, f2, -, -⟩ := Jvm.Free.Multi.fill_facts (T.setVm vm₁) cA comp N N2 (defaultValue .int) N
  have hold : ∀ q : Nat, q < H.size → (Jvm.Free.Multi.fill (T.setVm vm₁) cA comp N N2 (defaultValue .int) N).heap[q]? = H[q]? := fun q hq => by
    have := Jvm.Free.Multi.fill_old (T.setVm vm₁) cA comp N N2 (defaultValue .int) (a := q) (by rw [hTh]; exact hq) N
    rw [hTh] at this
    exact this
  have hrow : ∀ j : Nat, j < N → (Jvm.Free.Multi.fill (T.setVm vm₁) cA comp N N2 (defaultValue .int) N).heap[H.size + 1 + j]? = some (Jvm.Free.Multi.innerC comp N2 (defaultValue .int)) := fun j hj => by
    have := Jvm.Free.Multi.fill_inner (T.setVm vm₁) cA comp N N2 (defaultValue .int) N j hj
    rw [hTh] at this
    exact this
  rw [hTh] at f1 f2
  generalize hF : Jvm.Free.Multi.fill (T.setVm vm₁) cA comp N N2 (defaultValue .int) N = F at X' step f1 f2 hold hrow
  have hPn : Pic g (nwm M N N2) F.heap := by
    refine ⟨?_, fun a ha => ?_, fun a ha => ?_⟩
    · rw [f1, hP.1]
      show g.1 + M.1 + 1 + N = g.1 + (M.1 + 1 + N)
      omega
    · have ha2 : a < M.1 + 1 + N := ha
      have hsz : H.size = g.1 + M.1 := hP.1
      by_cases h1 : a < M.1
      · have e1 : ce g (nwm M N N2) a = ce g M a := ce_eq (show (if a = M.1 then Sum.inr (4, N) else if M.1 < a ∧ a ≤ M.1 + N then Sum.inr (0, N2) else M.2.1 a) = M.2.1 a by rw [if_neg (by omega), if_neg (by omega)]) (show (if M.1 ≤ a ∧ a ≤ M.1 + N then (fun _ => 0) else M.2.2.1 a) = M.2.2.1 a by rw [if_neg (by omega)]) (show (if M.1 ≤ a ∧ a ≤ M.1 + N then (fun _ => 0) else M.2.2.2.1 a) = M.2.2.2.1 a by rw [if_neg (by omega)]) (show (if a = M.1 then (fun j => if j < N then some (M.1 + 1 + j) else none) else if M.1 < a ∧ a ≤ M.1 + N then (fun _ => none) else M.2.2.2.2 a) = M.2.2.2.2 a by rw [if_neg (by omega), if_neg (by omega)])
        rw [e1]
        exact (hP.2.1 a h1).kept (hold _ (by show g.1 + a < H.size; omega))
      · by_cases h2 : a = M.1
        · subst h2
          rw [ce_arr (M := nwm M N N2) (a := M.1) (t := 4) (len := N) (show (if M.1 = M.1 then Sum.inr (4, N) else if M.1 < M.1 ∧ M.1 ≤ M.1 + N then Sum.inr (0, N2) else M.2.1 M.1) = Sum.inr (4, N) from if_pos rfl), ecA]
          show F.heap[g.1 + M.1]? = some (arrV cA N (fun j => va_rf (rl g (mP (nwm M N N2) M.1 j))))
          rw [← hsz, f2, vr_outer]
          refine congrArg (fun z => some (arrV cA N z)) (funext fun j => ?_)
          have e2 : mP (nwm M N N2) M.1 j = if j < N then some (M.1 + 1 + j) else none := by
            show (if M.1 = M.1 then (fun j => if j < N then some (M.1 + 1 + j) else none) else if M.1 < M.1 ∧ M.1 ≤ M.1 + N then (fun _ => none) else M.2.2.2.2 M.1) j = _
            rw [if_pos rfl]
          rw [e2]
          by_cases hj : j < N
          · rw [if_pos hj, if_pos hj]
            show va_rf (some _) = va_rf (some (g.1 + (M.1 + 1 + j)))
            rw [hsz]
            congr 2
            omega
          · rw [if_neg hj, if_neg hj]
            rfl
        · have h3 : M.1 < a ∧ a ≤ M.1 + N := by omega
          rw [ce_arr (M := nwm M N N2) (a := a) (t := 0) (len := N2) (show (if a = M.1 then Sum.inr (4, N) else if M.1 < a ∧ a ≤ M.1 + N then Sum.inr (0, N2) else M.2.1 a) = Sum.inr (0, N2) by rw [if_neg h2, if_pos h3]), ecO]
          show F.heap[g.1 + a]? = some (arrV comp N2 (fun j => .int (mI (nwm M N N2) a j)))
          have e2 : mI (nwm M N N2) a = fun _ => 0 := by
            show (if M.1 ≤ a ∧ a ≤ M.1 + N then (fun _ => 0) else M.2.2.1 a) = _
            rw [if_pos (by omega)]
          rw [e2]
          have e3 : g.1 + a = H.size + 1 + (a - M.1 - 1) := by omega
          rw [e3, hrow _ (by omega)]
          show some _ = some (arrV comp N2 (fun _ => defaultValue .int))
          rw [← arrV_new]
          rfl
    · have ha2 : M.1 + 1 + N ≤ a := ha
      show (if a = M.1 then Sum.inr (4, N) else if M.1 < a ∧ a ≤ M.1 + N then Sum.inr (0, N2) else M.2.1 a) = _
      rw [if_neg (by omega), if_neg (by omega)]
      exact hP.2.2 a (by show M.1 ≤ a; omega)
  have hSn : va_S (gA g) s.heap F.heap locs := ⟨by rw [f1]; have := hS.1; omega, fun q h1 h2 => (hold q (Nat.lt_of_lt_of_le h1 hS.1)).trans (hS.2.1 q h1 h2), hS.2.2⟩
  have X2 : Stand p l e R s m args below meth c F locs (k + (1 + N)) (n + (N + N * N2)) := by
    rw [show k + (1 + N) = k + 1 + N by omega, show n + (N + N * N2) = n + N + N * N2 by omega]
    exact X'
  obtain ⟨t, a1, b1⟩ := kk ls F.heap locs hl hPn hSn F rfl X2
  refine ⟨t, step t ?_, b1⟩
  have eH : T.heap.size = g.1 + mN M := by rw [hT]; exact hP.1
  rw [eH]
  exact a1
end MUL
