/-! ===== contracts, over the abstract memory ===== -/
def QcM (g : Geo) (QQ : Option Value → Mem → Prop) : Array Value → State → Outcome → State → Prop := fun _ st oc t => (∃ (r : Option Value) (M' : Mem), oc = .returned (r.map (tr g)) ∧ QQ r M' ∧ Pic g M' t.heap) ∧ va_F (gA g) st t
abbrev rmO (d mc ms : Nat) : Room := { frames := d, cells := mc, slots := ms, locals := 48 * d }
def PcM (g : Geo) (as : List Value) (M : Mem) : Array Value → State → Prop := va_Pc (as.map (tr g)) (fun U => Pic g M U.heap ∧ KK g U U.heap)
/-- method y, from these arguments and this memory, comes to an answer and a memory as QQ says; d: how deep its calls go; mc, ms: what it makes -/
def Con (y : MethodName) (b : ByteArray) (nLy : Nat) (ret : Option FieldType) (d mc ms : Nat) (as : List Value) (M : Mem) (QQ : Option Value → Mem → Prop) : Prop := ∀ (l : Launch) (g : Geo), Met l y (wl y b nLy ret) (rmO d mc ms) (PcM g as M) (QcM g QQ) mc ms (gA g)
theorem lv_args_tr (g : Geo) : ∀ (as : List Value) (i : Nat), lv_args i (as.map (tr g)) = Al g (lv_args i as)
  | [], _ => rfl
  | v :: vs, i => by
    show (i, tr g v) :: lv_args (if (tr g v).category = 2 then i + 2 else i + 1) (vs.map (tr g)) = (i, tr g v) :: Al g (lv_args (if v.category = 2 then i + 2 else i + 1) vs)
    rw [tr_cat, lv_args_tr g vs]
theorem lg_sl_tr (g : Geo) (as : List Value) : (lg_sl (as.map (tr g))).length = (lg_sl as).length := by
  induction as with
  | nil => rfl
  | cons v vs ih =>
    have e1 : lg_sl ((v :: vs).map (tr g)) = (if (tr g v).category = 2 then [.val (tr g v), .second] else [.val (tr g v)]) ++ lg_sl (vs.map (tr g)) := rfl
    have e2 : lg_sl (v :: vs) = (if v.category = 2 then [.val v, .second] else [.val v]) ++ lg_sl vs := rfl
    rw [e1, e2, List.length_append, List.length_append, ih, tr_cat]
    by_cases h : v.category = 2
    · rw [if_pos h, if_pos h]; rfl
    · rw [if_neg h, if_neg h]; rfl
theorem con_of {y : MethodName} {b : ByteArray} {nLy : Nat} {ret : Option FieldType} {d mc ms : Nat} {as : List Value} {M : Mem} {QQ : Option Value → Mem → Prop} (hy : plainName y.cls = true) (hn : (lg_sl as).length ≤ nLy)
    (body : ∀ (p : Program) (l : Launch) (e : Env) (s : State) (m : MethodId) (args : Array Value) (below : List Frame) (meth : Method) (c : Code) (g : Geo), Cx p s m args c b y.cls nLy g → meth.sig.returnType = ret → meth.locks = false → meth.name = y.name →
      E p l e (rmO d mc ms) s m args below meth c g nLy (MQ below (QcM g QQ) args s mc ms (gA g)) 0 0 0 (lv_args 0 as) [] M) : Con y b nLy ret d mc ms as M QQ := by
  intro l g
  refine Met.ofW (cc := b) (maxL := nLy) (ret := ret) hy rfl ?_
  intro p e s m args below meth c s₁ B hml hv
  obtain ⟨rfl, hP, hK⟩ := hv
  have hts := atoms_spec (ws := wl y b nLy ret) B.pre
  have hown : s.vm.findClass y.cls = some m.cls := findClass_of_methodNamed B.named
  have hE := body p l e s m _ below meth c g ⟨B.exec, B.bytes, hml, hown, fun w hw => hts w (List.mem_cons_of_mem _ hw), hK⟩ B.returns B.notSynchronized (name_of_methodNamed B.named B.method).1
  have hl := lv_entry (as.map (tr g)) (n := nLy) (by rw [lg_sl_tr]; exact hn)
  rw [lv_args_tr] at hl
  rw [lg_entry_eq]
  exact hE _ _ _ hl hP va_S.rf
section CALLS
variable {p : Program} {l : Launch} {e : Env} {R : Room} {s : State} {m : MethodId} {args : Array Value} {below : List Frame} {meth : Method} {c : Code} {cc : ByteArray} {own : String} {nL : Nat} {g : Geo} {G : State → Prop} {k n pc : Nat} {al : List (Nat × Value)} {st : List Value} {M : Mem}

variable {QQ : Option Value → Mem → Prop} {mc ms : Nat}
theorem e_iret (C : Cx p s m args c cc own nL g) {x : Int32} (hr : meth.sig.returnType = some .int) (hlk : meth.locks = false) (hk : k ≤ mc) (hn : n ≤ ms) (hdg : decode cc pc = .ok (.ireturn, 1)) (h : QQ (some (.int x)) M) : E p l e R s m args below meth c g nL (MQ below (QcM g QQ) args s mc ms (gA g)) k n pc al [.int x] M := by
  intro ls H locs hl hP hS
  refine W.widen hk hn ?_
  exact W.iret (v := x) C.1 C.2.1 hr (fun t ht hW => ⟨⟨some (.int x), M, rfl, h, by rw [ht]; exact hP⟩, hS.F ht⟩) hS.2.2 hdg
theorem e_zret (C : Cx p s m args c cc own nL g) {x : Int32} (hr : meth.sig.returnType = some .boolean) (hz : narrow .boolean (.int x) = .int x) (hlk : meth.locks = false) (hk : k ≤ mc) (hn : n ≤ ms) (hdg : decode cc pc = .ok (.ireturn, 1)) (h : QQ (some (.int x)) M) : E p l e R s m args below meth c g nL (MQ below (QcM g QQ) args s mc ms (gA g)) k n pc al [.int x] M := by
  intro ls H locs hl hP hS
  refine W.widen hk hn ?_
  exact W.zret (v := x) C.1 C.2.1 hr hz (fun t ht hW => ⟨⟨some (.int x), M, rfl, h, by rw [ht]; exact hP⟩, hS.F ht⟩) hS.2.2 hdg
theorem e_cret (C : Cx p s m args c cc own nL g) {x : Int32} (hr : meth.sig.returnType = some .char) (hz : narrow .char (.int x) = .int x) (hlk : meth.locks = false) (hk : k ≤ mc) (hn : n ≤ ms) (hdg : decode cc pc = .ok (.ireturn, 1)) (h : QQ (some (.int x)) M) : E p l e R s m args below meth c g nL (MQ below (QcM g QQ) args s mc ms (gA g)) k n pc al [.int x] M := by
  intro ls H locs hl hP hS
  refine W.widen hk hn ?_
  exact W.zret (v := x) C.1 C.2.1 hr hz (fun t ht hW => ⟨⟨some (.int x), M, rfl, h, by rw [ht]; exact hP⟩, hS.F ht⟩) hS.2.2 hdg
theorem e_bret (C : Cx p s m args c cc own nL g) {x : Int32} (hr : meth.sig.returnType = some .byte) (hz : narrow .byte (.int x) = .int x) (hlk : meth.locks = false) (hk : k ≤ mc) (hn : n ≤ ms) (hdg : decode cc pc = .ok (.ireturn, 1)) (h : QQ (some (.int x)) M) : E p l e R s m args below meth c g nL (MQ below (QcM g QQ) args s mc ms (gA g)) k n pc al [.int x] M := by
  intro ls H locs hl hP hS
  refine W.widen hk hn ?_
  exact W.zret (v := x) C.1 C.2.1 hr hz (fun t ht hW => ⟨⟨some (.int x), M, rfl, h, by rw [ht]; exact hP⟩, hS.F ht⟩) hS.2.2 hdg
theorem e_lret (C : Cx p s m args c cc own nL g) {x : Int64} (hr : meth.sig.returnType = some .long) (hlk : meth.locks = false) (hk : k ≤ mc) (hn : n ≤ ms) (hdg : decode cc pc = .ok (.lreturn, 1)) (h : QQ (some (.long x)) M) : E p l e R s m args below meth c g nL (MQ below (QcM g QQ) args s mc ms (gA g)) k n pc al [.long x] M := by
  intro ls H locs hl hP hS
  refine W.widen hk hn ?_
  exact W.lret (v := x) C.1 C.2.1 hr (fun t ht hW => ⟨⟨some (.long x), M, rfl, h, by rw [ht]; exact hP⟩, hS.F ht⟩) hS.2.2 hdg
theorem e_vret (C : Cx p s m args c cc own nL g) (hr : meth.sig.returnType = none) (hlk : meth.locks = false) (hk : k ≤ mc) (hn : n ≤ ms) (hdg : decode cc pc = .ok (.return_, 1)) (h : QQ none M) : E p l e R s m args below meth c g nL (MQ below (QcM g QQ) args s mc ms (gA g)) k n pc al [] M := by
  intro ls H locs hl hP hS
  refine W.widen hk hn ?_
  exact W.vret C.1 C.2.1 hr (fun t ht hW => ⟨⟨none, M, rfl, h, by rw [ht]; exact hP⟩, hS.F ht⟩) hS.2.2 hdg
theorem e_aret (C : Cx p s m args c cc own nL g) {x : Option Nat} {nm : String} (hr : meth.sig.returnType = some (.object nm)) (hlk : meth.locks = false) (hk : k ≤ mc) (hn : n ≤ ms) (hdg : decode cc pc = .ok (.areturn, 1)) (h : QQ (some (va_rf x)) M) : E p l e R s m args below meth c g nL (MQ below (QcM g QQ) args s mc ms (gA g)) k n pc al [va_rf x] M := by
  intro ls H locs hl hP hS
  refine W.widen hk hn ?_
  exact W.aret (v := tr g (va_rf x)) C.1 C.2.1 hr (Or.inl ⟨nm, rfl⟩) (by rw [tr_rf]; exact va_rf_or _) (fun t ht hW => ⟨⟨some (va_rf x), M, rfl, h, by rw [ht]; exact hP⟩, hS.F ht⟩) hS.2.2 hdg
theorem cat_tr (g : Geo) (st : List Value) : (st.map (tr g)).map (fun v => v.category) = st.map (fun v => v.category) := by
  rw [List.map_map]
  exact List.map_congr_left (fun v _ => tr_cat g v)
theorem toL_tr (g : Geo) (r : Option Value) : (r.map (tr g)).toList = r.toList.map (tr g) := by cases r <;> rfl
theorem PcM_blind (g : Geo) (as : List Value) (M : Mem) : FrameBlind (PcM g as M) := fun a U f mk q => ⟨q.1, q.2.1, KK.same rfl q.2.2⟩
theorem PcM_at (C : Cx p s m args c cc own nL g) {as : List Value} {H : Heap} {locs : List Loc} (hP : Pic g M H) (hS : va_S (gA g) s.heap H locs) : ∀ U : State, U.heap = H → s.WarmedH U.vm → PcM g as M (as.map (tr g)).toArray U := by
  intro U hU hW
  refine ⟨rfl, by rw [hU]; exact hP, ?_⟩
  rw [hU]
  exact KK.kept (KK.warm hW C.2.2.2.2.2) (fun a h1 h2 => hS.2.1 a h1 h2)
theorem e_fin {mc' ms' : Nat} {st0 : List Value} {a : Array Value} {ls : Array Slot} {H : Heap} {locs : List Loc} (hr : va_Run p l e R s m args below meth c H locs k n mc' ms' (F0 m pc ls st0) (st.map (tr g)) (QcM g QQ a) (gA g)) (hl : lv_has ls nL (Al g al)) (hS : va_S (gA g) s.heap H locs)
    (kk : ∀ r M', QQ r M' → E p l e R s m args below meth c g nL G (k + mc') (n + ms') (pc + 3) al (r.toList ++ st) M') : W p l e R s m args below meth c H locs k n G (F0 m pc ls st0) := by
  intro T hT X
  obtain ⟨v, st₀, t, T', L, h0, X', hL, e1, e2, ⟨⟨r, M', hv, hq, hP'⟩, hz, hk⟩, stp⟩ := hr T hT X
  have hv' : v = r.map (tr g) := by cases hv; rfl
  subst hv'
  rw [h0] at hz hk
  have h1 := kk r M' hq ls T'.heap (locs ++ L) hl (by rw [e1]; exact hP') ⟨by rw [e1]; exact Nat.le_trans hS.1 hz, fun q q1 q2 => by rw [e1]; exact (hk q (Nat.lt_of_lt_of_le q1 hS.1) q2).trans (hS.2.1 q q1 q2), fun q hq => (List.mem_append.mp hq).elim (hS.2.2 q) (hL q)⟩
  obtain ⟨tt, a1, b1⟩ := h1 T' rfl X'
  refine ⟨tt, stp tt ?_, b1⟩
  rw [toL_tr, ← List.map_append]
  exact a1
/-- the words of a call -/
def WB (y : MethodName) (b : ByteArray) (nLy : Nat) (ret : Option FieldType) (n : Nat) : Prop := Cond.code y b nLy ret ∈ lw_good ∧ Cond.initialized y.cls ∈ lw_good ∧ (y.cls ≠ "java/lang/invoke/MethodHandle" ∧ y.cls ≠ "java/lang/invoke/VarHandle") ∧ (parseMethodDescriptor y.desc).map (fun d => d.parameters.length) = some n
theorem WB.in {y : MethodName} {b : ByteArray} {nLy : Nat} {ret : Option FieldType} {n : Nat} (h : WB y b nLy ret n) : ∀ w ∈ wl y b nLy ret, w ∈ lw_good := fun w hw => (List.mem_cons.mp hw).elim (fun q => q ▸ h.1) id
theorem WB.len {y : MethodName} {b : ByteArray} {nLy : Nat} {ret : Option FieldType} {n : Nat} (h : WB y b nLy ret n) : ∀ sig, parseMethodDescriptor y.desc = some sig → n = sig.parameters.length := by
  intro sig hs
  have h2 := h.2.2.2
  rw [hs] at h2
  exact (Option.some.inj h2).symm
def WVr (own : String) (index : Nat) (y : MethodName) : Prop := Cond.methodLink own index y ∈ lw_good ∧ Cond.instanceMethod y ∈ lw_good ∧ Cond.selects y.cls y y ∈ lw_good
def WSt (own : String) (index : Nat) (y : MethodName) : Prop := Cond.methodLink own index y ∈ lw_good ∧ Cond.static y ∈ lw_good
def WIn (own : String) (index : Nat) (y : MethodName) : Prop := Cond.methodLink own index y ∈ lw_good ∧ Cond.instanceMethod y ∈ lw_good ∧ y.name = "<init>"
def WIN (own : String) (index : Nat) (y : MethodName) : Prop := own = "PennyQueue" ∧ (index, y) ∈ lw_nest ∧ Cond.instanceMethod y ∈ lw_good ∧ y.name = "<init>"
def WSu (own : String) (index : Nat) (y : MethodName) : Prop := Cond.methodLink own index y ∈ lw_good ∧ Cond.sameMethod y.cls y.cls y.name y.desc ∈ lw_good ∧ Cond.superclass own y.cls ∈ lw_good ∧ Cond.instanceMethod y ∈ lw_good ∧ y.name ≠ "<init>"
def WUp (own : String) (index : Nat) (K owner : String) (x y : MethodName) (n : Nat) : Prop := Cond.methodLink own index x ∈ lw_good ∧ Cond.sameMethod x.cls owner x.name x.desc ∈ lw_good ∧ Cond.selects K x y ∈ lw_good ∧ Cond.instanceMethod y ∈ lw_good ∧ Cond.instanceMethod ⟨owner, x.name, x.desc⟩ ∈ lw_good ∧ (∃ b0 m0 r0, Cond.code ⟨owner, x.name, x.desc⟩ b0 m0 r0 ∈ lw_good) ∧ (owner ≠ "java/lang/invoke/MethodHandle" ∧ owner ≠ "java/lang/invoke/VarHandle") ∧ (parseMethodDescriptor x.desc).map (fun d => d.parameters.length) = some n
theorem recvM (C : Cx p s m args c cc own nL g) {H : Heap} {b0 ci : Nat} {r : vw_C} (hP : Pic g M H) (hr : vwCl[ci]? = some r) (h0 : mS M b0 = .inl ci) : (∃ cell : Cell, H[g.1 + b0]? = some cell ∧ cell.vm.isStatics = false ∧ s.vm.findClass r.1 = some cell.cls) ∧ ClassAt s r.1 (g.2.2.1 ci) := by
  have hne : mS M b0 ≠ .inl 99 := by
    rw [h0]
    intro e
    cases e
    simp [vwCl] at hr
  have hat := hP.at hne
  rw [ce_obj h0] at hat
  obtain ⟨r', hr', cellV, g1, g2, g3, -⟩ := hat
  have hcls := (C.2.2.2.2.2.1 ci r hr).2
  exact ⟨⟨cellV, g1, by rw [g3]; rfl, by rw [g2]; exact hcls.1⟩, hcls⟩
variable {y : MethodName} {b : ByteArray} {nLy d' mc' ms' index : Nat} {ret : Option FieldType} {as stk : List Value}
theorem e_callV (C : Cx p s m args c cc own nL g) (hB : WB y b nLy ret as.length) {ci b0 : Nat} {r : vw_C} (hw : WVr own index y) (hr : vwCl[ci]? = some r) (hy : r.1 = y.cls) (h0 : mS M b0 = .inl ci) (hcon : Con y b nLy ret d' mc' ms' (.ref b0 :: as) M QQ) (hs : stk = as.reverse ++ .ref b0 :: st) (hR : d' + 1 ≤ R.frames ∧ 8 + (nLy + 11) + 48 * d' ≤ R.locals) (hf : k + mc' ≤ R.cells ∧ n + ms' ≤ R.slots) (hc : (st.map (fun v => v.category)).sum ≤ 8) (hdg : decode cc pc = .ok (.invokevirtual index, 3))
    (kk : ∀ r M', QQ r M' → E p l e R s m args below meth c g nL G (k + mc') (n + ms') (pc + 3) al (r.toList ++ st) M') : E p l e R s m args below meth c g nL G k n pc al stk M := by
  intro ls H locs hl hP hS
  have hcw : CallW R s args own y.cls index y b nLy ret (wl y b nLy ret) (rmO d' mc' ms') mc' ms' as.length := ⟨callB_of as.length (fun w hw => C.2.2.2.2.1 w hw) (GoodIn_lw hB.in) rfl rfl rfl (C.2.2.2.2.1 _ hB.2.1) (C.2.2.2.2.1 _ hw.1) ⟨hB.2.2.1.1, hB.2.2.1.2, hB.2.2.2⟩ hR, C.2.2.2.2.1 _ hw.2.1, C.2.2.2.2.1 _ hw.2.2⟩
  have hrc := (recvM C hP hr h0).1
  rw [hy] at hrc
  exact e_fin (va_runV (As := as.map (tr g)) (b := g.1 + b0) ⟨C.1, C.2.1, C.2.2.1, C.2.2.2.1, fun w hw => C.2.2.2.2.1 w hw⟩ (hcon l g) hcw ⟨PcM_blind g _ M, hrc, PcM_at C (as := .ref b0 :: as) hP hS⟩ rfl (by rw [List.length_map]) hl.1 (by rw [hs]; simp only [List.map_append, List.map_reverse, List.map_cons]; rfl) (lv_room (by rw [cat_tr]; exact hc)) hdg hf) hl hS kk
theorem e_callU (C : Cx p s m args c cc own nL g) (hB : WB y b nLy ret as.length) {ci b0 : Nat} {r : vw_C} {owner : String} {x : MethodName} (hw : WUp own index r.1 owner x y as.length) (hr : vwCl[ci]? = some r) (h0 : mS M b0 = .inl ci) (hcon : Con y b nLy ret d' mc' ms' (.ref b0 :: as) M QQ) (hs : stk = as.reverse ++ .ref b0 :: st) (hR : d' + 1 ≤ R.frames ∧ 8 + (nLy + 11) + 48 * d' ≤ R.locals) (hf : k + mc' ≤ R.cells ∧ n + ms' ≤ R.slots) (hc : (st.map (fun v => v.category)).sum ≤ 8) (hdg : decode cc pc = .ok (.invokevirtual index, 3))
    (kk : ∀ r M', QQ r M' → E p l e R s m args below meth c g nL G (k + mc') (n + ms') (pc + 3) al (r.toList ++ st) M') : E p l e R s m args below meth c g nL G k n pc al stk M := by
  intro ls H locs hl hP hS
  obtain ⟨b1, m1, r1, hw6⟩ := hw.2.2.2.2.2.1
  have hcu : va_CU R s args own r.1 owner index x y b nLy ret (wl y b nLy ret) (rmO d' mc' ms') mc' ms' as.length := by
    refine ⟨⟨rfl, rfl, hR.1, hR.2, pay_in (fun w hw => C.2.2.2.2.1 w hw) (GoodIn_lw hB.in), List.mem_cons_self⟩, C.2.2.2.2.1 _ hB.1, C.2.2.2.2.1 _ hB.2.1, hw.2.2.2.2.2.2.1, fun sig h => ?_, C.2.2.2.2.1 _ hw.1, C.2.2.2.2.1 _ hw.2.1, va_Decl.of (C.2.2.2.2.1 _ hw.2.2.2.2.1) (C.2.2.2.2.1 _ hw6), C.2.2.2.2.1 _ hw.2.2.1, C.2.2.2.2.1 _ hw.2.2.2.1⟩
    have h2 := hw.2.2.2.2.2.2.2
    rw [h] at h2
    exact (Option.some.inj h2).symm
  exact e_fin (va_runU (As := as.map (tr g)) (b := g.1 + b0) (Ts := lw_good) ⟨C.1, C.2.1, C.2.2.1, C.2.2.2.1, fun w hw => C.2.2.2.2.1 w hw⟩ (hcon l g) hcu ⟨PcM_blind g _ M, (recvM C hP hr h0).1, PcM_at C (as := .ref b0 :: as) hP hS⟩ rfl (by rw [List.length_map]) hl.1 (by rw [hs]; simp only [List.map_append, List.map_reverse, List.map_cons]; rfl) (lv_room (by rw [cat_tr]; exact hc)) hdg hf) hl hS kk
theorem e_callS (C : Cx p s m args c cc own nL g) (hB : WB y b nLy ret as.length) (hw : WSt own index y) (hcon : Con y b nLy ret d' mc' ms' as M QQ) (hs : stk = as.reverse ++ st) (hR : d' + 1 ≤ R.frames ∧ 8 + (nLy + 11) + 48 * d' ≤ R.locals) (hf : k + mc' ≤ R.cells ∧ n + ms' ≤ R.slots) (hc : (st.map (fun v => v.category)).sum ≤ 8) (hdg : decode cc pc = .ok (.invokestatic index, 3))
    (kk : ∀ r M', QQ r M' → E p l e R s m args below meth c g nL G (k + mc') (n + ms') (pc + 3) al (r.toList ++ st) M') : E p l e R s m args below meth c g nL G k n pc al stk M := by
  intro ls H locs hl hP hS
  have hcw : CallB R s args own index y b nLy ret (wl y b nLy ret) (rmO d' mc' ms') mc' ms' as.length ∧ (Cond.static y).before args s = true := ⟨callB_of as.length (fun w hw => C.2.2.2.2.1 w hw) (GoodIn_lw hB.in) rfl rfl rfl (C.2.2.2.2.1 _ hB.2.1) (C.2.2.2.2.1 _ hw.1) ⟨hB.2.2.1.1, hB.2.2.1.2, hB.2.2.2⟩ hR, C.2.2.2.2.1 _ hw.2⟩
  exact e_fin (va_runS (As := as.map (tr g)) ⟨C.1, C.2.1, C.2.2.1, C.2.2.2.1, fun w hw => C.2.2.2.2.1 w hw⟩ (hcon l g) hcw ⟨PcM_blind g _ M, PcM_at C (as := as) hP hS⟩ rfl (by rw [List.length_map]) hl.1 (by rw [hs]; simp only [List.map_append, List.map_reverse]) (lv_room (by rw [cat_tr]; exact hc)) hdg hf) hl hS kk
theorem e_callI (C : Cx p s m args c cc own nL g) (hB : WB y b nLy ret as.length) {b0 : Nat} (hret : ret = none) (hw : WIn own index y) (hcon : Con y b nLy ret d' mc' ms' (.ref b0 :: as) M QQ) (hs : stk = as.reverse ++ .ref b0 :: st) (hR : d' + 1 ≤ R.frames ∧ 8 + (nLy + 11) + 48 * d' ≤ R.locals) (hf : k + mc' ≤ R.cells ∧ n + ms' ≤ R.slots) (hc : (st.map (fun v => v.category)).sum ≤ 8) (hdg : decode cc pc = .ok (.invokespecial index, 3))
    (kk : ∀ r M', QQ r M' → E p l e R s m args below meth c g nL G (k + mc') (n + ms') (pc + 3) al (r.toList ++ st) M') : E p l e R s m args below meth c g nL G k n pc al stk M := by
  intro ls H locs hl hP hS
  subst hret
  have hcw : CallB R s args own index y b nLy none (wl y b nLy none) (rmO d' mc' ms') mc' ms' as.length ∧ y.name = "<init>" ∧ (Cond.instanceMethod y).before args s = true := ⟨callB_of as.length (fun w hw => C.2.2.2.2.1 w hw) (GoodIn_lw hB.in) rfl rfl rfl (C.2.2.2.2.1 _ hB.2.1) (C.2.2.2.2.1 _ hw.1) ⟨hB.2.2.1.1, hB.2.2.1.2, hB.2.2.2⟩ hR, hw.2.2, C.2.2.2.2.1 _ hw.2.1⟩
  exact e_fin (va_runI (As := as.map (tr g)) (b := g.1 + b0) ⟨C.1, C.2.1, C.2.2.1, C.2.2.2.1, fun w hw => C.2.2.2.2.1 w hw⟩ (hcon l g) hcw ⟨PcM_blind g _ M, PcM_at C (as := .ref b0 :: as) hP hS⟩ rfl (by rw [List.length_map]) hl.1 (by rw [hs]; simp only [List.map_append, List.map_reverse, List.map_cons]; rfl) (lv_room (by rw [cat_tr]; exact hc)) hdg hf) hl hS kk
theorem e_callIN (C : Cx p s m args c cc own nL g) (hB : WB y b nLy ret as.length) {b0 : Nat} (hret : ret = none) (hw : WIN own index y) (hcon : Con y b nLy ret d' mc' ms' (.ref b0 :: as) M QQ) (hs : stk = as.reverse ++ .ref b0 :: st) (hR : d' + 1 ≤ R.frames ∧ 8 + (nLy + 11) + 48 * d' ≤ R.locals) (hf : k + mc' ≤ R.cells ∧ n + ms' ≤ R.slots) (hc : (st.map (fun v => v.category)).sum ≤ 8) (hdg : decode cc pc = .ok (.invokespecial index, 3))
    (kk : ∀ r M', QQ r M' → E p l e R s m args below meth c g nL G (k + mc') (n + ms') (pc + 3) al (r.toList ++ st) M') : E p l e R s m args below meth c g nL G k n pc al stk M := by
  intro ls H locs hl hP hS
  subst hret
  obtain ⟨rfl, hw1, hw2, hw3⟩ := hw
  have hcw := va_cnB (R := R) (s := s) (args := args) (own := "PennyQueue") (host := "PennyQueue") (index := index) (mc := mc') (ms := ms') (rm := rmO d' mc' ms') as.length (fun w hw => C.2.2.2.2.1 w hw) (GoodIn_lw hB.in) rfl rfl rfl (C.2.2.2.2.2.2.2.1 _ hw1) (C.2.2.2.2.1 _ hB.2.1) ⟨hB.2.2.1.1, hB.2.2.1.2, hB.2.2.2⟩ hR
  exact e_fin (va_runIN (As := as.map (tr g)) (b := g.1 + b0) (Ts := lw_good) ⟨C.1, C.2.1, C.2.2.1, C.2.2.2.1, fun w hw => C.2.2.2.2.1 w hw⟩ (hcon l g) ⟨hcw, hw3, C.2.2.2.2.1 _ hw2⟩ ⟨PcM_blind g _ M, PcM_at C (as := .ref b0 :: as) hP hS⟩ rfl (by rw [List.length_map]) hl.1 (by rw [hs]; simp only [List.map_append, List.map_reverse, List.map_cons]; rfl) (lv_room (by rw [cat_tr]; exact hc)) hdg hf) hl hS kk
theorem e_callSU (C : Cx p s m args c cc own nL g) (hB : WB y b nLy ret as.length) {ci b0 : Nat} {r : vw_C} (hw : WSu own index y) (hr : vwCl[ci]? = some r) (h0 : mS M b0 = .inl ci) (hcon : Con y b nLy ret d' mc' ms' (.ref b0 :: as) M QQ) (hs : stk = as.reverse ++ .ref b0 :: st) (hR : d' + 1 ≤ R.frames ∧ 8 + (nLy + 11) + 48 * d' ≤ R.locals) (hf : k + mc' ≤ R.cells ∧ n + ms' ≤ R.slots) (hc : (st.map (fun v => v.category)).sum ≤ 8) (hdg : decode cc pc = .ok (.invokespecial index, 3))
    (kk : ∀ r M', QQ r M' → E p l e R s m args below meth c g nL G (k + mc') (n + ms') (pc + 3) al (r.toList ++ st) M') : E p l e R s m args below meth c g nL G k n pc al stk M := by
  intro ls H locs hl hP hS
  have hcs : va_CS R s args own index y b nLy ret (wl y b nLy ret) (rmO d' mc' ms') mc' ms' as.length := ⟨⟨rfl, rfl, hR.1, hR.2, pay_in (fun w hw => C.2.2.2.2.1 w hw) (GoodIn_lw hB.in), List.mem_cons_self⟩, C.2.2.2.2.1 _ hw.1, C.2.2.2.2.1 _ hw.2.1, C.2.2.2.2.1 _ hw.2.2.1, C.2.2.2.2.1 _ hw.2.2.2.1, C.2.2.2.2.1 _ hB.2.1, C.2.2.2.2.1 _ hB.1, hw.2.2.2.2, hB.len⟩
  obtain ⟨hrc, hat⟩ := recvM C hP hr h0
  exact e_fin (va_runSU (As := as.map (tr g)) (b := g.1 + b0) (Ts := lw_good) hat ⟨C.1, C.2.1, C.2.2.1, C.2.2.2.1, fun w hw => C.2.2.2.2.1 w hw⟩ (hcon l g) hcs ⟨PcM_blind g _ M, hrc, PcM_at C (as := .ref b0 :: as) hP hS⟩ rfl (by rw [List.length_map]) hl.1 (by rw [hs]; simp only [List.map_append, List.map_reverse, List.map_cons]; rfl) (lv_room (by rw [cat_tr]; exact hc)) hdg hf) hl hS kk
theorem e_obj (C : Cx p s m args c cc own nL g) {b0 : Nat} (hw : Cond.methodLink own index Lib.objectInit ∈ lw_good) (hw2 : Cond.instanceMethod Lib.objectInit ∈ lw_good) (hw3 : Cond.code Lib.objectInit ⟨#[0xb1]⟩ 1 none ∈ lw_good) (hR : 1 ≤ R.frames ∧ 20 ≤ R.locals) (hc : (st.map (fun v => v.category)).sum ≤ 8) (hdg : decode cc pc = .ok (.invokespecial index, 3)) (kk : E p l e R s m args below meth c g nL G k n (pc + 3) al st M) : E p l e R s m args below meth c g nL G k n pc al (.ref b0 :: st) M := by
  intro ls H locs hl hP hS
  have hr := lv_room (m := m) (pc := pc) (ls := ls) (rest := (Value.ref b0 :: st).map (tr g)) (st := st.map (tr g)) (by rw [cat_tr]; exact hc)
  exact W.objInit C.1 C.2.1 C.2.2.2.1 (C.2.2.2.2.1 _ hw) (C.2.2.2.2.1 _ hw2) (C.2.2.2.2.1 _ hw3) rfl (hl.1.trans C.2.2.1.symm) rfl hdg hR.1 (Nat.le_trans (Nat.add_le_add_right hr 12) hR.2) (kk ls H locs hl hP hS)
theorem e_mmax (C : Cx p s m args c cc own nL g) {x y : Int32} (hw : Cond.methodLink own index Lib.Math.max.name ∈ lw_good) (hw2 : Cond.static Lib.Math.max.name ∈ lw_good) (hw3 : Cond.initialized "java/lang/Math" ∈ lw_good) (hw4 : Cond.code Lib.Math.max.name Lib.Math.max.code 2 (some .int) ∈ lw_good) (hR : 1 ≤ R.frames ∧ 21 ≤ R.locals) (hcs : k ≤ R.cells ∧ n ≤ R.slots) (hc : (st.map (fun v => v.category)).sum ≤ 8) (hdg : decode cc pc = .ok (.invokestatic index, 3)) (kk : E p l e R s m args below meth c g nL G k n (pc + 3) al (.int (if x < y then y else x) :: st) M) : E p l e R s m args below meth c g nL G k n pc al (.int y :: .int x :: st) M := by
  intro ls H locs hl hP hS
  exact va_mmax C.1 C.2.1 (C.2.2.1.trans hl.1.symm) C.2.2.2.1 (C.2.2.2.2.1 _ hw) (C.2.2.2.2.1 _ hw2) (C.2.2.2.2.1 _ hw3) (C.2.2.2.2.1 _ hw4) hR.1 (by rw [cat_tr]; exact Nat.le_trans (Nat.add_le_add_right hc 13) hR.2) hcs.1 hcs.2 hdg (kk ls H locs hl hP hS)
theorem e_mmin (C : Cx p s m args c cc own nL g) {x y : Int32} (hw : Cond.methodLink own index Lib.Math.min.name ∈ lw_good) (hw2 : Cond.static Lib.Math.min.name ∈ lw_good) (hw3 : Cond.initialized "java/lang/Math" ∈ lw_good) (hw4 : Cond.code Lib.Math.min.name Lib.Math.min.code 2 (some .int) ∈ lw_good) (hR : 1 ≤ R.frames ∧ 21 ≤ R.locals) (hcs : k ≤ R.cells ∧ n ≤ R.slots) (hc : (st.map (fun v => v.category)).sum ≤ 8) (hdg : decode cc pc = .ok (.invokestatic index, 3)) (kk : E p l e R s m args below meth c g nL G k n (pc + 3) al (.int (if y < x then y else x) :: st) M) : E p l e R s m args below meth c g nL G k n pc al (.int y :: .int x :: st) M := by
  intro ls H locs hl hP hS
  exact va_mmin C.1 C.2.1 (C.2.2.1.trans hl.1.symm) C.2.2.2.1 (C.2.2.2.2.1 _ hw) (C.2.2.2.2.1 _ hw2) (C.2.2.2.2.1 _ hw3) (C.2.2.2.2.1 _ hw4) hR.1 (by rw [cat_tr]; exact Nat.le_trans (Nat.add_le_add_right hc 13) hR.2) hcs.1 hcs.2 hdg (kk ls H locs hl hP hS)
end CALLS
