/-! ===== arrays ===== -/
section ARR
variable {p : Program} {l : Launch} {e : Env} {R : Room} {s : State} {m : MethodId} {args : Array Value} {below : List Frame} {meth : Method} {c : Code} {cc : ByteArray} {own : String} {nL : Nat} {g : Geo} {G : State → Prop} {k n pc : Nat} {al : List (Nat × Value)} {st : List Value} {M : Mem}
theorem e_iald (C : Cx p s m args c cc own nL g) {a : Nat} {i : Int32} (ha : isA M a 0 i) (hdg : decode cc pc = .ok (.iaload, 1)) (kk : E p l e R s m args below meth c g nL G k n (pc + 1) al (.int (mI M a i.toNatClampNeg) :: st) M) : E p l e R s m args below meth c g nL G k n pc al (.int i :: .ref a :: st) M := by
  intro ls H locs hl hP hS
  obtain ⟨len, hS0, hin⟩ := ha
  have hne : mS M a ≠ .inl 99 := by rw [hS0]; exact fun z => by cases z
  have hat := hP.at hne
  rw [ce_arr hS0] at hat
  have hc : H[g.1 + a]? = some (vp_cell (g.2.2.2.2 0) (len, cn g M a 0)) := hat
  have hA := (C.2.2.2.2.2.2.1 0 (by decide)).1
  have hlt : i.toNatClampNeg < len := Nat.not_le.mp fun q => hin (Or.inr q)
  exact W.iald (v := .int (mI M a i.toNatClampNeg)) C.1 C.2.1 hc (hA len (fun j => Value.int (mI M a j))) (fun q => by cases q) (by show ¬ (i < 0 ∨ (arrV _ _ _).slots.size ≤ _); rw [arrV_size]; exact hin) (by show (arrV _ _ _).slots[_]? = _; rw [arrV_read _ _ hlt]) rfl rfl hdg (kk ls H locs hl hP hS)
theorem e_bald (C : Cx p s m args c cc own nL g) {a : Nat} {i : Int32} (ha : isA M a 1 i) (hdg : decode cc pc = .ok (.baload, 1)) (kk : E p l e R s m args below meth c g nL G k n (pc + 1) al (.int (mI M a i.toNatClampNeg) :: st) M) : E p l e R s m args below meth c g nL G k n pc al (.int i :: .ref a :: st) M := by
  intro ls H locs hl hP hS
  obtain ⟨len, hS0, hin⟩ := ha
  have hne : mS M a ≠ .inl 99 := by rw [hS0]; exact fun z => by cases z
  have hat := hP.at hne
  rw [ce_arr hS0] at hat
  have hc : H[g.1 + a]? = some (vp_cell (g.2.2.2.2 1) (len, cn g M a 1)) := hat
  have hA := (C.2.2.2.2.2.2.1 1 (by decide)).1
  have hlt : i.toNatClampNeg < len := Nat.not_le.mp fun q => hin (Or.inr q)
  exact W.bald (v := .int (mI M a i.toNatClampNeg)) C.1 C.2.1 hc (hA len (fun j => Value.int (mI M a j))) (fun q => by cases q) (by show ¬ (i < 0 ∨ (arrV _ _ _).slots.size ≤ _); rw [arrV_size]; exact hin) (by show (arrV _ _ _).slots[_]? = _; rw [arrV_read _ _ hlt]) rfl rfl hdg (kk ls H locs hl hP hS)
theorem e_zald (C : Cx p s m args c cc own nL g) {a : Nat} {i : Int32} (ha : isA M a 2 i) (hdg : decode cc pc = .ok (.baload, 1)) (kk : E p l e R s m args below meth c g nL G k n (pc + 1) al (.int (mI M a i.toNatClampNeg) :: st) M) : E p l e R s m args below meth c g nL G k n pc al (.int i :: .ref a :: st) M := by
  intro ls H locs hl hP hS
  obtain ⟨len, hS0, hin⟩ := ha
  have hne : mS M a ≠ .inl 99 := by rw [hS0]; exact fun z => by cases z
  have hat := hP.at hne
  rw [ce_arr hS0] at hat
  have hc : H[g.1 + a]? = some (vp_cell (g.2.2.2.2 2) (len, cn g M a 2)) := hat
  have hA := (C.2.2.2.2.2.2.1 2 (by decide)).1
  have hlt : i.toNatClampNeg < len := Nat.not_le.mp fun q => hin (Or.inr q)
  exact W.zald (v := .int (mI M a i.toNatClampNeg)) C.1 C.2.1 hc (hA len (fun j => Value.int (mI M a j))) (fun q => by cases q) (by show ¬ (i < 0 ∨ (arrV _ _ _).slots.size ≤ _); rw [arrV_size]; exact hin) (by show (arrV _ _ _).slots[_]? = _; rw [arrV_read _ _ hlt]) rfl rfl hdg (kk ls H locs hl hP hS)
theorem e_lald (C : Cx p s m args c cc own nL g) {a : Nat} {i : Int32} (ha : isA M a 3 i) (hdg : decode cc pc = .ok (.laload, 1)) (kk : E p l e R s m args below meth c g nL G k n (pc + 1) al (.long (mL M a i.toNatClampNeg) :: st) M) : E p l e R s m args below meth c g nL G k n pc al (.int i :: .ref a :: st) M := by
  intro ls H locs hl hP hS
  obtain ⟨len, hS0, hin⟩ := ha
  have hne : mS M a ≠ .inl 99 := by rw [hS0]; exact fun z => by cases z
  have hat := hP.at hne
  rw [ce_arr hS0] at hat
  have hc : H[g.1 + a]? = some (vp_cell (g.2.2.2.2 3) (len, cn g M a 3)) := hat
  have hA := (C.2.2.2.2.2.2.1 3 (by decide)).1
  have hlt : i.toNatClampNeg < len := Nat.not_le.mp fun q => hin (Or.inr q)
  exact W.lald (v := .long (mL M a i.toNatClampNeg)) C.1 C.2.1 hc (hA len (fun j => Value.long (mL M a j))) (fun q => by cases q) (by show ¬ (i < 0 ∨ (arrV _ _ _).slots.size ≤ _); rw [arrV_size]; exact hin) (by show (arrV _ _ _).slots[_]? = _; rw [arrV_read _ _ hlt]) rfl rfl hdg (kk ls H locs hl hP hS)
theorem e_aald (C : Cx p s m args c cc own nL g) {a : Nat} {i : Int32} (t : Nat) (ht : 4 ≤ t ∧ t < 8) (ha : isA M a t i) (hdg : decode cc pc = .ok (.aaload, 1)) (kk : E p l e R s m args below meth c g nL G k n (pc + 1) al (va_rf (mP M a i.toNatClampNeg) :: st) M) : E p l e R s m args below meth c g nL G k n pc al (.int i :: .ref a :: st) M := by
  intro ls H locs hl hP hS
  obtain ⟨len, hS0, hin⟩ := ha
  have hne : mS M a ≠ .inl 99 := by rw [hS0]; exact fun z => by cases z
  have hat := hP.at hne
  rw [ce_arr hS0] at hat
  have hc : H[g.1 + a]? = some (vp_cell (g.2.2.2.2 t) (len, cn g M a t)) := hat
  have hA := (C.2.2.2.2.2.2.1 t ht.2).1
  have hlt : i.toNatClampNeg < len := Nat.not_le.mp fun q => hin (Or.inr q)
  have hcn : cn g M a t = .inr (.inr (.inr (.inr (fun j => rl g (mP M a j))))) := by
    obtain ⟨h1, h2⟩ := ht
    match t, h1 with
    | 4, _ => rfl
    | 5, _ => rfl
    | 6, _ => rfl
    | 7, _ => rfl
    | t + 8, _ => omega
  have hty : (tyA t).isReference = true := by
    obtain ⟨h1, h2⟩ := ht
    match t, h1 with
    | 4, _ => rfl
    | 5, _ => rfl
    | 6, _ => rfl
    | 7, _ => rfl
    | t + 8, _ => omega
  rw [hcn] at hc
  exact W.aald (v := tr g (va_rf (mP M a i.toNatClampNeg))) (ty := tyA t) C.1 C.2.1 hc (hA len (fun j => va_rf (rl g (mP M a j)))) hty (fun q => by cases q) (by show ¬ (i < 0 ∨ (arrV _ _ _).slots.size ≤ _); rw [arrV_size]; exact hin) (by show (arrV _ _ _).slots[_]? = _; rw [arrV_read _ _ hlt, tr_rf]) rfl rfl hdg (kk ls H locs hl hP hS)
theorem e_iast (C : Cx p s m args c cc own nL g) {a : Nat} {i : Int32} {x : Int32} (ha : isA M a 0 i) (hdg : decode cc pc = .ok (.iastore, 1)) (kk : E p l e R s m args below meth c g nL G k n (pc + 1) al st (sI M a i.toNatClampNeg (x))) : E p l e R s m args below meth c g nL G k n pc al (.int x :: .int i :: .ref a :: st) M := by
  intro ls H locs hl hP hS
  obtain ⟨len, hS0, hin⟩ := ha
  have hne : mS M a ≠ .inl 99 := by rw [hS0]; exact fun z => by cases z
  have hat := hP.at hne
  rw [ce_arr hS0] at hat
  have hc : H[g.1 + a]? = some (vp_cell (g.2.2.2.2 0) (len, cn g M a 0)) := hat
  have hA := (C.2.2.2.2.2.2.1 0 (by decide)).1
  refine W.iast C.1 C.2.1 hc (hA len (fun j => Value.int (mI M a j))) (fun q => by cases q) (by show ¬ (i < 0 ∨ (arrV _ _ _).slots.size ≤ _); rw [arrV_size]; exact hin) rfl rfl hdg fun H1 e z oq => ?_
  refine kk ls H1 _ hl (hP.put (hP.lt hne) rfl rfl ?_ ?_ ?_ ?_ z oq) (hS.put z oq (Nat.le_add_right _ _))
  · intro b hb; first | rfl | exact u2_row _ _ _ hb
  · intro b hb; first | rfl | exact u2_row _ _ _ hb
  · intro b hb; first | rfl | exact u2_row _ _ _ hb
  rw [ce_arr (show mS (sI M a i.toNatClampNeg (x)) a = .inr (0, len) from hS0)]
  show H1[g.1 + a]? = some (vp_cell _ (len, cn g (sI M a i.toNatClampNeg (x)) a 0))
  rw [e]
  show some ((arrV _ _ _).setSlot _ _) = some (arrV _ _ (fun j => Value.int (mI (sI M a i.toNatClampNeg (x)) a j)))
  rw [arrV_store]
  congr 2
  funext q
  show updV _ _ _ q = Value.int (u2 _ _ _ _ _ _)
  by_cases hq : q = i.toNatClampNeg
  · subst hq
    rw [u2_same]
    unfold updV
    rw [if_pos rfl]
    try rfl
  · rw [u2_ne _ _ (Or.inr hq)]
    unfold updV
    rw [if_neg hq]
    try rfl
theorem e_bast (C : Cx p s m args c cc own nL g) {a : Nat} {i : Int32} {x : Int32} (ha : isA M a 1 i) (hdg : decode cc pc = .ok (.bastore, 1)) (kk : E p l e R s m args below meth c g nL G k n (pc + 1) al st (sI M a i.toNatClampNeg (vp_nar .byte x))) : E p l e R s m args below meth c g nL G k n pc al (.int x :: .int i :: .ref a :: st) M := by
  intro ls H locs hl hP hS
  obtain ⟨len, hS0, hin⟩ := ha
  have hne : mS M a ≠ .inl 99 := by rw [hS0]; exact fun z => by cases z
  have hat := hP.at hne
  rw [ce_arr hS0] at hat
  have hc : H[g.1 + a]? = some (vp_cell (g.2.2.2.2 1) (len, cn g M a 1)) := hat
  have hA := (C.2.2.2.2.2.2.1 1 (by decide)).1
  refine W.bast C.1 C.2.1 hc (hA len (fun j => Value.int (mI M a j))) (fun q => by cases q) (by show ¬ (i < 0 ∨ (arrV _ _ _).slots.size ≤ _); rw [arrV_size]; exact hin) rfl rfl hdg fun H1 e z oq => ?_
  refine kk ls H1 _ hl (hP.put (hP.lt hne) rfl rfl ?_ ?_ ?_ ?_ z oq) (hS.put z oq (Nat.le_add_right _ _))
  · intro b hb; first | rfl | exact u2_row _ _ _ hb
  · intro b hb; first | rfl | exact u2_row _ _ _ hb
  · intro b hb; first | rfl | exact u2_row _ _ _ hb
  rw [ce_arr (show mS (sI M a i.toNatClampNeg (vp_nar .byte x)) a = .inr (1, len) from hS0)]
  show H1[g.1 + a]? = some (vp_cell _ (len, cn g (sI M a i.toNatClampNeg (vp_nar .byte x)) a 1))
  rw [e]
  show some ((arrV _ _ _).setSlot _ _) = some (arrV _ _ (fun j => Value.int (mI (sI M a i.toNatClampNeg (vp_nar .byte x)) a j)))
  rw [arrV_store]
  congr 2
  funext q
  show updV _ _ _ q = Value.int (u2 _ _ _ _ _ _)
  by_cases hq : q = i.toNatClampNeg
  · subst hq
    rw [u2_same]
    unfold updV
    rw [if_pos rfl]
    try rfl
  · rw [u2_ne _ _ (Or.inr hq)]
    unfold updV
    rw [if_neg hq]
    try rfl
theorem e_zast (C : Cx p s m args c cc own nL g) {a : Nat} {i : Int32} {x : Int32} (ha : isA M a 2 i) (hdg : decode cc pc = .ok (.bastore, 1)) (kk : E p l e R s m args below meth c g nL G k n (pc + 1) al st (sI M a i.toNatClampNeg (vp_nar .boolean x))) : E p l e R s m args below meth c g nL G k n pc al (.int x :: .int i :: .ref a :: st) M := by
  intro ls H locs hl hP hS
  obtain ⟨len, hS0, hin⟩ := ha
  have hne : mS M a ≠ .inl 99 := by rw [hS0]; exact fun z => by cases z
  have hat := hP.at hne
  rw [ce_arr hS0] at hat
  have hc : H[g.1 + a]? = some (vp_cell (g.2.2.2.2 2) (len, cn g M a 2)) := hat
  have hA := (C.2.2.2.2.2.2.1 2 (by decide)).1
  refine W.zast C.1 C.2.1 hc (hA len (fun j => Value.int (mI M a j))) (fun q => by cases q) (by show ¬ (i < 0 ∨ (arrV _ _ _).slots.size ≤ _); rw [arrV_size]; exact hin) rfl rfl hdg fun H1 e z oq => ?_
  refine kk ls H1 _ hl (hP.put (hP.lt hne) rfl rfl ?_ ?_ ?_ ?_ z oq) (hS.put z oq (Nat.le_add_right _ _))
  · intro b hb; first | rfl | exact u2_row _ _ _ hb
  · intro b hb; first | rfl | exact u2_row _ _ _ hb
  · intro b hb; first | rfl | exact u2_row _ _ _ hb
  rw [ce_arr (show mS (sI M a i.toNatClampNeg (vp_nar .boolean x)) a = .inr (2, len) from hS0)]
  show H1[g.1 + a]? = some (vp_cell _ (len, cn g (sI M a i.toNatClampNeg (vp_nar .boolean x)) a 2))
  rw [e]
  show some ((arrV _ _ _).setSlot _ _) = some (arrV _ _ (fun j => Value.int (mI (sI M a i.toNatClampNeg (vp_nar .boolean x)) a j)))
  rw [arrV_store]
  congr 2
  funext q
  show updV _ _ _ q = Value.int (u2 _ _ _ _ _ _)
  by_cases hq : q = i.toNatClampNeg
  · subst hq
    rw [u2_same]
    unfold updV
    rw [if_pos rfl]
    try rfl
  · rw [u2_ne _ _ (Or.inr hq)]
    unfold updV
    rw [if_neg hq]
    try rfl
theorem e_last (C : Cx p s m args c cc own nL g) {a : Nat} {i : Int32} {x : Int64} (ha : isA M a 3 i) (hdg : decode cc pc = .ok (.lastore, 1)) (kk : E p l e R s m args below meth c g nL G k n (pc + 1) al st (sL M a i.toNatClampNeg (x))) : E p l e R s m args below meth c g nL G k n pc al (.long x :: .int i :: .ref a :: st) M := by
  intro ls H locs hl hP hS
  obtain ⟨len, hS0, hin⟩ := ha
  have hne : mS M a ≠ .inl 99 := by rw [hS0]; exact fun z => by cases z
  have hat := hP.at hne
  rw [ce_arr hS0] at hat
  have hc : H[g.1 + a]? = some (vp_cell (g.2.2.2.2 3) (len, cn g M a 3)) := hat
  have hA := (C.2.2.2.2.2.2.1 3 (by decide)).1
  refine W.last C.1 C.2.1 hc (hA len (fun j => Value.long (mL M a j))) (fun q => by cases q) (by show ¬ (i < 0 ∨ (arrV _ _ _).slots.size ≤ _); rw [arrV_size]; exact hin) rfl rfl hdg fun H1 e z oq => ?_
  refine kk ls H1 _ hl (hP.put (hP.lt hne) rfl rfl ?_ ?_ ?_ ?_ z oq) (hS.put z oq (Nat.le_add_right _ _))
  · intro b hb; first | rfl | exact u2_row _ _ _ hb
  · intro b hb; first | rfl | exact u2_row _ _ _ hb
  · intro b hb; first | rfl | exact u2_row _ _ _ hb
  rw [ce_arr (show mS (sL M a i.toNatClampNeg (x)) a = .inr (3, len) from hS0)]
  show H1[g.1 + a]? = some (vp_cell _ (len, cn g (sL M a i.toNatClampNeg (x)) a 3))
  rw [e]
  show some ((arrV _ _ _).setSlot _ _) = some (arrV _ _ (fun j => Value.long (mL (sL M a i.toNatClampNeg (x)) a j)))
  rw [arrV_store]
  congr 2
  funext q
  show updV _ _ _ q = Value.long (u2 _ _ _ _ _ _)
  by_cases hq : q = i.toNatClampNeg
  · subst hq
    rw [u2_same]
    unfold updV
    rw [if_pos rfl]
    try rfl
  · rw [u2_ne _ _ (Or.inr hq)]
    unfold updV
    rw [if_neg hq]
    try rfl
end ARR
