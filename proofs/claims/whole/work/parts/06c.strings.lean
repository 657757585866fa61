section STRS
variable {p : Program} {l : Launch} {e : Env} {R : Room} {s : State} {m : MethodId} {args : Array Value} {below : List Frame} {meth : Method} {c : Code} {cc : ByteArray} {own : String} {nL : Nat} {g : Geo} {G : State → Prop} {k n pc : Nat} {al : List (Nat × Value)} {st : List Value} {M : Mem}
theorem e_gsV (C : Cx p s m args c cc own nL g) {index i : Nat} (hi : i < StrN) (hw : Cond.fieldLink own index "java/lang/String" "value" "[B" ∈ lw_good) (hdg : decode cc pc = .ok (.getfield index, 3)) (kk : E p l e R s m args below meth c g nL G k n (pc + 3) al (.retAddr (7 + i) :: st) M) : E p l e R s m args below meth c g nL G k n pc al (.retAddr i :: st) M := by
  intro ls H locs hl hP hS
  exact vk_getf C.1 C.2.1 (C.2.2.2.2.2.2.2.2.2.2.2.1.1 i hi).2.2.1 hS C.2.2.2.1 (C.2.2.2.2.1 _ hw) (fun _ h => h) hdg (kk ls H locs hl hP hS)
theorem e_gsC (C : Cx p s m args c cc own nL g) {index i : Nat} (hi : i < StrN) (hw : Cond.fieldLink own index "java/lang/String" "coder" "B" ∈ lw_good) (hdg : decode cc pc = .ok (.getfield index, 3)) (kk : E p l e R s m args below meth c g nL G k n (pc + 3) al (.int 0 :: st) M) : E p l e R s m args below meth c g nL G k n pc al (.retAddr i :: st) M := by
  intro ls H locs hl hP hS
  exact vk_getf C.1 C.2.1 (C.2.2.2.2.2.2.2.2.2.2.2.1.1 i hi).2.1 hS C.2.2.2.1 (C.2.2.2.2.1 _ hw) (fun _ h => h) hdg (kk ls H locs hl hP hS)
theorem e_gstat (C : Cx p s m args c cc own nL g) {index : Nat} (hw : Cond.fieldLink own index "java/lang/String" "COMPACT_STRINGS" "Z" ∈ lw_good) (hdg : decode cc pc = .ok (.getstatic index, 3)) (kk : E p l e R s m args below meth c g nL G k n (pc + 3) al (.int 1 :: st) M) : E p l e R s m args below meth c g nL G k n pc al st M := by
  intro ls H locs hl hP hS
  exact va_gets C.1 C.2.1 C.2.2.2.2.2.2.2.2.2.2.2.2.1 hS C.2.2.2.1 (C.2.2.2.2.1 _ hw) (fun _ h => h) hdg (kk ls H locs hl hP hS)
theorem e_gsio (C : Cx p s m args c cc own nL g) {index : Nat} (hw : Cond.fieldLink own index "jdk/internal/util/Preconditions" "SIOOBE_FORMATTER" "Ljava/util/function/BiFunction;" ∈ lw_good) (hdg : decode cc pc = .ok (.getstatic index, 3)) (kt : E p l e R s m args below meth c g nL G k n (pc + 3) al (.null :: st) M) (kf : E p l e R s m args below meth c g nL G k n (pc + 3) al (.retAddr 14 :: st) M) : E p l e R s m args below meth c g nL G k n pc al st M := by
  intro ls H locs hl hP hS
  have hz := C.2.2.2.2.2.2.2.2.2.2.2.2.2.2.2
  by_cases h0 : g.2.1 15 = 0
  · rw [if_pos h0] at hz
    exact va_gets C.1 C.2.1 hz hS C.2.2.2.1 (C.2.2.2.2.1 _ hw) (fun _ h => h) hdg (kt ls H locs hl hP hS)
  · rw [if_neg h0] at hz
    exact va_gets C.1 C.2.1 hz hS C.2.2.2.1 (C.2.2.2.2.1 _ hw) (fun _ h => h) hdg (kf ls H locs hl hP hS)
theorem e_salen (C : Cx p s m args c cc own nL g) {i : Nat} (hi : i < StrN) (hdg : decode cc pc = .ok (.arraylength, 1)) (kk : E p l e R s m args below meth c g nL G k n (pc + 1) al (.int (nI (strL.getD i 0)) :: st) M) : E p l e R s m args below meth c g nL G k n pc al (.retAddr (7 + i) :: st) M := by
  intro ls H locs hl hP hS
  obtain ⟨cell, h1, h2, h3, h4, h5, h6, h7⟩ := (C.2.2.2.2.2.2.2.2.2.2.2.1.1 i hi).2.2.2.kept hS.2.1
  exact W.alen (n := nI (strL.getD i 0)) C.1 C.2.1 h1 h2 h5 rfl rfl hdg (kk ls H locs hl hP hS)
theorem e_sbald (C : Cx p s m args c cc own nL g) {i : Nat} {j : Int32} (hi : i < StrN) (hj : vp_in j (strL.getD i 0)) (hdg : decode cc pc = .ok (.baload, 1)) (kk : E p l e R s m args below meth c g nL G k n (pc + 1) al (.int ((strB.getD i []).getD j.toNatClampNeg 0) :: st) M) : E p l e R s m args below meth c g nL G k n pc al (.int j :: .retAddr (7 + i) :: st) M := by
  intro ls H locs hl hP hS
  obtain ⟨cell, h1, h2, h3, h4, h5, h6, h7⟩ := (C.2.2.2.2.2.2.2.2.2.2.2.1.1 i hi).2.2.2.kept hS.2.1
  have hlt : j.toNatClampNeg < strL.getD i 0 := Nat.not_le.mp fun q => hj (Or.inr q)
  exact W.bald (v := .int ((strB.getD i []).getD j.toNatClampNeg 0)) C.1 C.2.1 h1 h2 h3 (fun q => hj (q.imp id (fun q => Nat.le_trans h4 q))) (h6 _ hlt) rfl rfl hdg (kk ls H locs hl hP hS)
theorem e_i2c (C : Cx p s m args c cc own nL g) {x : Int32} (hdg : decode cc pc = .ok (.i2c, 1)) (kk : E p l e R s m args below meth c g nL G k n (pc + 1) al (.int (x.toUInt32 % 65536).toInt32 :: st) M) : E p l e R s m args below meth c g nL G k n pc al (.int x :: st) M := fun ls H locs hl hP hS => lv_i2c C.1 C.2.1 hdg rfl (kk ls H locs hl hP hS)
variable {mc' ms' : Nat} {y : MethodName} {b : ByteArray} {nLy d' index : Nat} {ret : Option FieldType} {as stk : List Value} {QQ : Option Value → Mem → Prop}
theorem e_callStr (C : Cx p s m args c cc own nL g) {i : Nat} (hi : i < StrN) (hB : WB y b nLy ret as.length) (hw : WVr own index y) (hy : y.cls = "java/lang/String") (hcon : Con y b nLy ret d' mc' ms' (.retAddr i :: as) M QQ) (hs : stk = as.reverse ++ .retAddr i :: st) (hR : d' + 1 ≤ R.frames ∧ 8 + (nLy + 11) + 48 * d' ≤ R.locals) (hf : k + mc' ≤ R.cells ∧ n + ms' ≤ R.slots) (hc : (st.map (fun v => v.category)).sum ≤ 8) (hdg : decode cc pc = .ok (.invokevirtual index, 3))
    (kk : ∀ r M', QQ r M' → E p l e R s m args below meth c g nL G (k + mc') (n + ms') (pc + 3) al (r.toList ++ st) M') : E p l e R s m args below meth c g nL G k n pc al stk M := by
  intro ls H locs hl hP hS
  have hcw : CallW R s args own y.cls index y b nLy ret (wl y b nLy ret) (rmO d' mc' ms') mc' ms' as.length := ⟨callB_of as.length (fun w hw => C.2.2.2.2.1 w hw) (GoodIn_lw hB.in) rfl rfl rfl (C.2.2.2.2.1 _ hB.2.1) (C.2.2.2.2.1 _ hw.1) ⟨hB.2.2.1.1, hB.2.2.1.2, hB.2.2.2⟩ hR, C.2.2.2.2.1 _ hw.2.1, C.2.2.2.2.1 _ hw.2.2⟩
  have hrc := vk_recv C.2.2.2.2.2.2.2.2.2.2.2.1 hi hS
  rw [← hy] at hrc
  exact e_fin (va_runV (As := as.map (tr g)) (b := g.2.1 i) ⟨C.1, C.2.1, C.2.2.1, C.2.2.2.1, fun w hw => C.2.2.2.2.1 w hw⟩ (hcon l g) hcw ⟨PcM_blind g _ M, hrc, PcM_at C (as := .retAddr i :: as) hP hS⟩ rfl (by rw [List.length_map]) hl.1 (by rw [hs]; simp only [List.map_append, List.map_reverse, List.map_cons]; rfl) (lv_room (by rw [cat_tr]; exact hc)) hdg hf) hl hS kk
end STRS
