/-! ===== generated: the machine keeps f_ ===== -/
set_option maxRecDepth 100000 in
theorem m_J3_checkIndex {x0 x1 : Int32} {w : Value} {M : Mem} {Q : Int32 → Mem → Prop} (hw : w = .null ∨ w = .retAddr 14) (h0 : ¬ x0 < 0) (h1 : x0 < x1) (hq : Q x0 M) : Con yJ3_checkIndex_8e157 cJ3_checkIndex_8e157 3 (some .int) 1 0 0 [.int x0, .int x1, w] M (rI Q) :=
  con_of2 (al := [(0, .int x0), (1, .int x1), (2, w)]) (by decide) (by rcases hw with rfl | rfl <;> exact Nat.le_of_ble_eq_true rfl) rfl (fun p l e s m args below meth c g C hr hlk _ => by
    have C : Cx p s m args c cJ3_checkIndex_8e157 RJ3 3 g := C
    refine e_iload_n C 0 dJ3_checkIndex_8e157_0 rfl rfl ?_
    refine e_if_lt (tgt := 9) C dJ3_checkIndex_8e157_1 (by decide) (fun q => absurd q h0) (fun _ => ?_)
    refine e_iload_n C 0 dJ3_checkIndex_8e157_4 rfl rfl ?_
    refine e_iload_n C 1 dJ3_checkIndex_8e157_5 rfl rfl ?_
    refine e_icmp_lt (tgt := 16) C dJ3_checkIndex_8e157_6 (by decide) (fun _ => ?_) (fun q => absurd h1 q)
    refine e_iload_n C 0 dJ3_checkIndex_8e157_16 rfl rfl ?_
    exact e_iret C hr hlk (Nat.le_refl _) (Nat.le_refl _) dJ3_checkIndex_8e157_17 ⟨_, rfl, hq⟩)
set_option maxRecDepth 100000 in
theorem m_J0_checkIndex_df160 {x0 x1 : Int32} {M : Mem} {Q : Mem → Prop} (h : f_J0_checkIndex_df160 x0 x1 M Q) : Con yJ0_checkIndex_df160 cJ0_checkIndex_df160 2 none 2 0 0 [.int x0, .int x1] M (rV Q) :=
  con_of2 (al := [(0, .int x0), (1, .int x1)]) (by decide) (Nat.le_of_ble_eq_true rfl) rfl (fun p l e s m args below meth c g C hr hlk _ => by
    obtain ⟨h0, h1, hq⟩ := h
    have C : Cx p s m args c cJ0_checkIndex_df160 RJ0 2 g := C
    refine e_iload_n C 0 dJ0_checkIndex_df160_0 rfl rfl ?_
    refine e_iload_n C 1 dJ0_checkIndex_df160_1 rfl rfl ?_
    have fin : ∀ M', M' = M → E p l e (rmO 2 0 0) s m args below meth c g 2 (MQ below (QcM g (rV Q)) args s 0 0 (gA g)) 0 0 8 [(0, .int x0), (1, .int x1)] [.int x0] M' := by
      intro M' e1
      subst e1
      refine e_pop C rfl dJ0_checkIndex_df160_8 ?_
      exact e_vret C hr hlk (Nat.le_refl _) (Nat.le_refl _) dJ0_checkIndex_df160_9 ⟨rfl, hq⟩
    refine e_gsio C wd_361 dJ0_checkIndex_df160_2 ?_ ?_
    · exact e_callS (as := [.int x0, .int x1, .null]) C wb_J3_checkIndex_8e157 wt_J0_1059 (m_J3_checkIndex (Q := fun x M' => x = x0 ∧ M' = M) (Or.inl rfl) h0 h1 ⟨rfl, rfl⟩) rfl ⟨Nat.le_of_ble_eq_true rfl, Nat.le_of_ble_eq_true rfl⟩ ⟨Nat.le_of_ble_eq_true rfl, Nat.le_of_ble_eq_true rfl⟩ (by first | exact Nat.le_of_ble_eq_true rfl | (simp only [List.map_cons, List.map_nil, va_cat, List.sum_cons, List.sum_nil]; exact Nat.le_of_ble_eq_true rfl)) dJ0_checkIndex_df160_5 (kI (fun x M' hx => by rw [hx.1]; exact fin M' hx.2))
    · exact e_callS (as := [.int x0, .int x1, .retAddr 14]) C wb_J3_checkIndex_8e157 wt_J0_1059 (m_J3_checkIndex (Q := fun x M' => x = x0 ∧ M' = M) (Or.inr rfl) h0 h1 ⟨rfl, rfl⟩) rfl ⟨Nat.le_of_ble_eq_true rfl, Nat.le_of_ble_eq_true rfl⟩ ⟨Nat.le_of_ble_eq_true rfl, Nat.le_of_ble_eq_true rfl⟩ (by first | exact Nat.le_of_ble_eq_true rfl | (simp only [List.map_cons, List.map_nil, va_cat, List.sum_cons, List.sum_nil]; exact Nat.le_of_ble_eq_true rfl)) dJ0_checkIndex_df160_5 (kI (fun x M' hx => by rw [hx.1]; exact fin M' hx.2)))
set_option maxHeartbeats 4000000 in
set_option maxRecDepth 100000 in
theorem w_J7_fill_53178_B5 {p : Program} {l : Launch} {e : Env} {s : State} {m : MethodId} {args : Array Value} {below : List Frame} {meth : Method} {c : Code} {g : Geo} (C : Cx p s m args c cJ7_fill_53178 RJ7 4 g) (hr : meth.sig.returnType = none) (hlk : meth.locks = false) {r0 : Option Nat} {x1 : Int32} {v2 : Int32} {v3 : Int32} {M : Mem} {K5 : Int32 × Int32 × Mem → Prop} {Q : Mem → Prop} (hK5 : ∀ z : Int32 × Int32 × Mem, K5 z → E p l e (rmO 1 0 0) s m args below meth c g 4 (MQ below (QcM g (rV Q)) args s 0 0 (gA g)) 0 0 5 [(0, va_rf r0), (1, .int x1), (2, .int z.1), (3, .int z.2.1)] [] (z.2.2)) (h : f_J7_fill_53178_B5 r0 x1 v2 v3 M K5 Q) : E p l e (rmO 1 0 0) s m args below meth c g 4 (MQ below (QcM g (rV Q)) args s 0 0 (gA g)) 0 0 5 [(0, va_rf r0), (1, .int x1), (2, .int v2), (3, .int v3)] [] M := by
  unfold f_J7_fill_53178_B5 at h
  refine e_iload_n C 2 dJ7_fill_53178_5 rfl rfl ?_
  refine e_iload_n C 3 dJ7_fill_53178_6 rfl rfl ?_
  refine e_icmp_ge (tgt := 20) C dJ7_fill_53178_7 (by decide) (fun q1 => ?_) (fun q1 => ?_)
  · replace h := ite_t h q1
    exact e_vret C hr hlk (Nat.le_refl _) (Nat.le_refl _) dJ7_fill_53178_20 ⟨rfl, h⟩
  · replace h := ite_f h q1
    refine e_rload_n C 0 dJ7_fill_53178_10 rfl rfl ?_
    refine e_iload_n C 2 dJ7_fill_53178_11 rfl rfl ?_
    refine e_iload_n C 1 dJ7_fill_53178_12 rfl rfl ?_
    obtain ⟨b2, rfl, h⟩ := h
    obtain ⟨o4, h⟩ := h
    refine e_iast C o4 dJ7_fill_53178_13 ?_
    refine nmE (fun M5 e6 => ?_)
    replace h := h M5 e6
    refine e_iinc (v := (v2 + 1)) (al' := [(2, .int (v2 + 1)), (0, .ref b2), (1, .int x1), (3, .int v3)]) C 2 dJ7_fill_53178_14 rfl rfl (by decide) rfl ?_
    refine e_goto (tgt := 5) C dJ7_fill_53178_17 (by decide) ?_
    refine e_pick [1, 2, 0, 3] rfl ?_
    exact hK5 ((v2 + 1), v3, M5) h
set_option maxHeartbeats 4000000 in
set_option maxRecDepth 100000 in
theorem w_J7_fill_53178_L5 {p : Program} {l : Launch} {e : Env} {s : State} {m : MethodId} {args : Array Value} {below : List Frame} {meth : Method} {c : Code} {g : Geo} (C : Cx p s m args c cJ7_fill_53178 RJ7 4 g) (hr : meth.sig.returnType = none) (hlk : meth.locks = false) {r0 : Option Nat} {x1 : Int32} {v2 : Int32} {v3 : Int32} {M : Mem} {Q : Mem → Prop} (h : f_J7_fill_53178_L5 r0 x1 v2 v3 M Q) : E p l e (rmO 1 0 0) s m args below meth c g 4 (MQ below (QcM g (rV Q)) args s 0 0 (gA g)) 0 0 5 [(0, va_rf r0), (1, .int x1), (2, .int v2), (3, .int v3)] [] M := by
  unfold f_J7_fill_53178_L5 at h
  refine loop_E (W := fun z : Int32 × Int32 × Mem => E p l e (rmO 1 0 0) s m args below meth c g 4 (MQ below (QcM g (rV Q)) args s 0 0 (gA g)) 0 0 5 [(0, va_rf r0), (1, .int x1), (2, .int z.1), (3, .int z.2.1)] [] (z.2.2)) h (fun K z hK h => ?_)
  exact w_J7_fill_53178_B5 C hr hlk hK h
set_option maxHeartbeats 4000000 in
set_option maxRecDepth 100000 in
theorem w_J7_fill_53178 {p : Program} {l : Launch} {e : Env} {s : State} {m : MethodId} {args : Array Value} {below : List Frame} {meth : Method} {c : Code} {g : Geo} (C : Cx p s m args c cJ7_fill_53178 RJ7 4 g) (hr : meth.sig.returnType = none) (hlk : meth.locks = false) {r0 : Option Nat} {x1 : Int32} {M : Mem} {Q : Mem → Prop} (h : f_J7_fill_53178 r0 x1 M Q) : E p l e (rmO 1 0 0) s m args below meth c g 4 (MQ below (QcM g (rV Q)) args s 0 0 (gA g)) 0 0 0 [(0, va_rf r0), (1, .int x1)] [] M := by
  unfold f_J7_fill_53178 at h
  refine e_iconst (v := 0) C dJ7_fill_53178_0 (by decide) ?_
  refine e_istore_n (al' := [(2, .int (0 : Int32)), (0, va_rf r0), (1, .int x1)]) C dJ7_fill_53178_1 rfl (by decide) rfl ?_
  refine e_rload_n C 1 dJ7_fill_53178_2 rfl rfl ?_
  obtain ⟨b1, rfl, h⟩ := h
  obtain ⟨t4, n3, o5, h⟩ := h
  refine e_alen C o5.1 o5.2 dJ7_fill_53178_3 ?_
  refine e_istore_n (al' := [(3, .int (nI n3)), (2, .int (0 : Int32)), (0, .ref b1), (1, .int x1)]) C dJ7_fill_53178_4 rfl (by decide) rfl ?_
  refine e_pick [2, 3, 1, 0] rfl ?_
  exact w_J7_fill_53178_L5 C hr hlk h
theorem m_J7_fill_53178  {r0 : Option Nat} {x1 : Int32} {M : Mem} {Q : Mem → Prop} (h : f_J7_fill_53178 r0 x1 M Q) : Con yJ7_fill_53178 cJ7_fill_53178 4 none 1 0 0 [va_rf r0, .int x1] M (rV Q) :=
  con_of2 (al := [(0, va_rf r0), (1, .int x1)]) (by decide) (by cases r0 <;> exact Nat.le_of_ble_eq_true rfl) (by cases r0 <;> rfl) (fun p l e s m args below meth c g C hr hlk _ => w_J7_fill_53178 C hr hlk h)
set_option maxHeartbeats 4000000 in
set_option maxRecDepth 100000 in
theorem w_J7_fill_d0a16_B6 {p : Program} {l : Launch} {e : Env} {s : State} {m : MethodId} {args : Array Value} {below : List Frame} {meth : Method} {c : Code} {g : Geo} (C : Cx p s m args c cJ7_fill_d0a16 RJ7 5 g) (hr : meth.sig.returnType = none) (hlk : meth.locks = false) {r0 : Option Nat} {y1 : Int64} {v3 : Int32} {v4 : Int32} {M : Mem} {K6 : Int32 × Int32 × Mem → Prop} {Q : Mem → Prop} (hK6 : ∀ z : Int32 × Int32 × Mem, K6 z → E p l e (rmO 1 0 0) s m args below meth c g 5 (MQ below (QcM g (rV Q)) args s 0 0 (gA g)) 0 0 6 [(0, va_rf r0), (1, .long y1), (3, .int z.1), (4, .int z.2.1)] [] (z.2.2)) (h : f_J7_fill_d0a16_B6 r0 y1 v3 v4 M K6 Q) : E p l e (rmO 1 0 0) s m args below meth c g 5 (MQ below (QcM g (rV Q)) args s 0 0 (gA g)) 0 0 6 [(0, va_rf r0), (1, .long y1), (3, .int v3), (4, .int v4)] [] M := by
  unfold f_J7_fill_d0a16_B6 at h
  refine e_iload_n C 2 dJ7_fill_d0a16_6 rfl rfl ?_
  refine e_iload C 3 dJ7_fill_d0a16_7 rfl ?_
  refine e_icmp_ge (tgt := 22) C dJ7_fill_d0a16_9 (by decide) (fun q1 => ?_) (fun q1 => ?_)
  · replace h := ite_t h q1
    exact e_vret C hr hlk (Nat.le_refl _) (Nat.le_refl _) dJ7_fill_d0a16_22 ⟨rfl, h⟩
  · replace h := ite_f h q1
    refine e_rload_n C 0 dJ7_fill_d0a16_12 rfl rfl ?_
    refine e_iload_n C 2 dJ7_fill_d0a16_13 rfl rfl ?_
    refine e_lload_n C 1 dJ7_fill_d0a16_14 rfl rfl ?_
    obtain ⟨b2, rfl, h⟩ := h
    obtain ⟨o4, h⟩ := h
    refine e_last C o4 dJ7_fill_d0a16_15 ?_
    refine nmE (fun M5 e6 => ?_)
    replace h := h M5 e6
    refine e_iinc (v := (v3 + 1)) (al' := [(3, .int (v3 + 1)), (0, .ref b2), (1, .long y1), (4, .int v4)]) C 2 dJ7_fill_d0a16_16 rfl rfl (by decide) rfl ?_
    refine e_goto (tgt := 6) C dJ7_fill_d0a16_19 (by decide) ?_
    refine e_pick [1, 2, 0, 3] rfl ?_
    exact hK6 ((v3 + 1), v4, M5) h
set_option maxHeartbeats 4000000 in
set_option maxRecDepth 100000 in
theorem w_J7_fill_d0a16_L6 {p : Program} {l : Launch} {e : Env} {s : State} {m : MethodId} {args : Array Value} {below : List Frame} {meth : Method} {c : Code} {g : Geo} (C : Cx p s m args c cJ7_fill_d0a16 RJ7 5 g) (hr : meth.sig.returnType = none) (hlk : meth.locks = false) {r0 : Option Nat} {y1 : Int64} {v3 : Int32} {v4 : Int32} {M : Mem} {Q : Mem → Prop} (h : f_J7_fill_d0a16_L6 r0 y1 v3 v4 M Q) : E p l e (rmO 1 0 0) s m args below meth c g 5 (MQ below (QcM g (rV Q)) args s 0 0 (gA g)) 0 0 6 [(0, va_rf r0), (1, .long y1), (3, .int v3), (4, .int v4)] [] M := by
  unfold f_J7_fill_d0a16_L6 at h
  refine loop_E (W := fun z : Int32 × Int32 × Mem => E p l e (rmO 1 0 0) s m args below meth c g 5 (MQ below (QcM g (rV Q)) args s 0 0 (gA g)) 0 0 6 [(0, va_rf r0), (1, .long y1), (3, .int z.1), (4, .int z.2.1)] [] (z.2.2)) h (fun K z hK h => ?_)
  exact w_J7_fill_d0a16_B6 C hr hlk hK h
set_option maxHeartbeats 4000000 in
set_option maxRecDepth 100000 in
theorem w_J7_fill_d0a16 {p : Program} {l : Launch} {e : Env} {s : State} {m : MethodId} {args : Array Value} {below : List Frame} {meth : Method} {c : Code} {g : Geo} (C : Cx p s m args c cJ7_fill_d0a16 RJ7 5 g) (hr : meth.sig.returnType = none) (hlk : meth.locks = false) {r0 : Option Nat} {y1 : Int64} {M : Mem} {Q : Mem → Prop} (h : f_J7_fill_d0a16 r0 y1 M Q) : E p l e (rmO 1 0 0) s m args below meth c g 5 (MQ below (QcM g (rV Q)) args s 0 0 (gA g)) 0 0 0 [(0, va_rf r0), (1, .long y1)] [] M := by
  unfold f_J7_fill_d0a16 at h
  refine e_iconst (v := 0) C dJ7_fill_d0a16_0 (by decide) ?_
  refine e_istore_n (al' := [(3, .int (0 : Int32)), (0, va_rf r0), (1, .long y1)]) C dJ7_fill_d0a16_1 rfl (by decide) rfl ?_
  refine e_rload_n C 1 dJ7_fill_d0a16_2 rfl rfl ?_
  obtain ⟨b1, rfl, h⟩ := h
  obtain ⟨t4, n3, o5, h⟩ := h
  refine e_alen C o5.1 o5.2 dJ7_fill_d0a16_3 ?_
  refine e_istore (al' := [(4, .int (nI n3)), (3, .int (0 : Int32)), (0, .ref b1), (1, .long y1)]) C dJ7_fill_d0a16_4 (by decide) rfl ?_
  refine e_pick [2, 3, 1, 0] rfl ?_
  exact w_J7_fill_d0a16_L6 C hr hlk h
theorem m_J7_fill_d0a16  {r0 : Option Nat} {y1 : Int64} {M : Mem} {Q : Mem → Prop} (h : f_J7_fill_d0a16 r0 y1 M Q) : Con yJ7_fill_d0a16 cJ7_fill_d0a16 5 none 1 0 0 [va_rf r0, .long y1] M (rV Q) :=
  con_of2 (al := [(0, va_rf r0), (1, .long y1)]) (by decide) (by cases r0 <;> exact Nat.le_of_ble_eq_true rfl) (by cases r0 <;> rfl) (fun p l e s m args below meth c g C hr hlk _ => w_J7_fill_d0a16 C hr hlk h)
set_option maxHeartbeats 4000000 in
set_option maxRecDepth 100000 in
theorem w_J0_coder_7d493 {p : Program} {l : Launch} {e : Env} {s : State} {m : MethodId} {args : Array Value} {below : List Frame} {meth : Method} {c : Code} {g : Geo} (C : Cx p s m args c cJ0_coder_7d493 RJ0 1 g) (hr : meth.sig.returnType = (some .byte)) (hlk : meth.locks = false) {s0 : Nat} {M : Mem} {Q : Int32 → Mem → Prop} (h : f_J0_coder_7d493 s0 M Q) : E p l e (rmO 1 0 0) s m args below meth c g 1 (MQ below (QcM g (rI Q)) args s 0 0 (gA g)) 0 0 0 [(0, .retAddr s0)] [] M := by
  unfold f_J0_coder_7d493 at h
  refine e_gstat C wd_345 dJ0_coder_7d493_0 ?_
  refine e_if_eq (tgt := 13) C dJ0_coder_7d493_3 (by decide) (fun q => absurd q (by decide)) (fun _ => ?_)
  refine e_sload_n C 0 dJ0_coder_7d493_6 rfl rfl ?_
  obtain ⟨o1, h⟩ := h
  refine e_gsC C o1 wd_1533 dJ0_coder_7d493_7 ?_
  refine e_goto (tgt := 14) C dJ0_coder_7d493_10 (by decide) ?_
  obtain ⟨z2, h⟩ := h
  exact e_bret C hr z2 hlk (Nat.le_refl _) (Nat.le_refl _) dJ0_coder_7d493_14 ⟨_, rfl, h⟩
theorem m_J0_coder_7d493  {s0 : Nat} {M : Mem} {Q : Int32 → Mem → Prop} (h : f_J0_coder_7d493 s0 M Q) : Con yJ0_coder_7d493 cJ0_coder_7d493 1 (some .byte) 1 0 0 [.retAddr s0] M (rI Q) :=
  con_of2 (al := [(0, .retAddr s0)]) (by decide) (by exact Nat.le_of_ble_eq_true rfl) (by rfl) (fun p l e s m args below meth c g C hr hlk _ => w_J0_coder_7d493 C hr hlk h)
set_option maxHeartbeats 4000000 in
set_option maxRecDepth 100000 in
theorem w_J0_length_8abf5 {p : Program} {l : Launch} {e : Env} {s : State} {m : MethodId} {args : Array Value} {below : List Frame} {meth : Method} {c : Code} {g : Geo} (C : Cx p s m args c cJ0_length_8abf5 RJ0 1 g) (hr : meth.sig.returnType = (some .int)) (hlk : meth.locks = false) {s0 : Nat} {M : Mem} {Q : Int32 → Mem → Prop} (h : f_J0_length_8abf5 s0 M Q) : E p l e (rmO 2 0 0) s m args below meth c g 1 (MQ below (QcM g (rI Q)) args s 0 0 (gA g)) 0 0 0 [(0, .retAddr s0)] [] M := by
  unfold f_J0_length_8abf5 at h
  refine e_sload_n C 0 dJ0_length_8abf5_0 rfl rfl ?_
  obtain ⟨o1, h⟩ := h
  refine e_gsV C o1 wd_1532 dJ0_length_8abf5_1 ?_
  obtain ⟨o2, h⟩ := h
  refine e_salen C o2 dJ0_length_8abf5_4 ?_
  refine e_sload_n C 0 dJ0_length_8abf5_5 rfl rfl ?_
  obtain ⟨o3, h⟩ := h
  refine e_callStr (as := []) C o3 wb_J0_coder_7d493 wv_J0_335 rfl (m_J0_coder_7d493 h) rfl ⟨Nat.le_of_ble_eq_true rfl, Nat.le_of_ble_eq_true rfl⟩ ⟨Nat.le_of_ble_eq_true rfl, Nat.le_of_ble_eq_true rfl⟩ (by first | exact Nat.le_of_ble_eq_true rfl | (simp only [List.map_cons, List.map_nil, va_cat, List.sum_cons, List.sum_nil]; exact Nat.le_of_ble_eq_true rfl)) dJ0_length_8abf5_6 (kI (fun w4 M5 h6 => ?_))
  refine e_ishr C dJ0_length_8abf5_9 ?_
  exact e_iret C hr hlk (Nat.le_refl _) (Nat.le_refl _) dJ0_length_8abf5_10 ⟨_, rfl, h6⟩
theorem m_J0_length_8abf5  {s0 : Nat} {M : Mem} {Q : Int32 → Mem → Prop} (h : f_J0_length_8abf5 s0 M Q) : Con yJ0_length_8abf5 cJ0_length_8abf5 1 (some .int) 2 0 0 [.retAddr s0] M (rI Q) :=
  con_of2 (al := [(0, .retAddr s0)]) (by decide) (by exact Nat.le_of_ble_eq_true rfl) (by rfl) (fun p l e s m args below meth c g C hr hlk _ => w_J0_length_8abf5 C hr hlk h)
set_option maxHeartbeats 4000000 in
set_option maxRecDepth 100000 in
theorem w_J0_isLatin1_aae02 {p : Program} {l : Launch} {e : Env} {s : State} {m : MethodId} {args : Array Value} {below : List Frame} {meth : Method} {c : Code} {g : Geo} (C : Cx p s m args c cJ0_isLatin1_aae02 RJ0 1 g) (hr : meth.sig.returnType = (some .boolean)) (hlk : meth.locks = false) {s0 : Nat} {M : Mem} {Q : Bool → Mem → Prop} (h : f_J0_isLatin1_aae02 s0 M Q) : E p l e (rmO 1 0 0) s m args below meth c g 1 (MQ below (QcM g (rZ Q)) args s 0 0 (gA g)) 0 0 0 [(0, .retAddr s0)] [] M := by
  unfold f_J0_isLatin1_aae02 at h
  refine e_gstat C wd_345 dJ0_isLatin1_aae02_0 ?_
  refine e_if_eq (tgt := 17) C dJ0_isLatin1_aae02_3 (by decide) (fun q => absurd q (by decide)) (fun _ => ?_)
  refine e_sload_n C 0 dJ0_isLatin1_aae02_6 rfl rfl ?_
  obtain ⟨o1, h⟩ := h
  refine e_gsC C o1 wd_1533 dJ0_isLatin1_aae02_7 ?_
  refine e_if_ne (tgt := 17) C dJ0_isLatin1_aae02_10 (by decide) (fun q => absurd q (by decide)) (fun _ => ?_)
  refine e_iconst (v := 1) C dJ0_isLatin1_aae02_13 (by decide) ?_
  refine e_goto (tgt := 18) C dJ0_isLatin1_aae02_14 (by decide) ?_
  exact e_zret C hr rfl hlk (Nat.le_refl _) (Nat.le_refl _) dJ0_isLatin1_aae02_18 ⟨true, rfl, h⟩
theorem m_J0_isLatin1_aae02  {s0 : Nat} {M : Mem} {Q : Bool → Mem → Prop} (h : f_J0_isLatin1_aae02 s0 M Q) : Con yJ0_isLatin1_aae02 cJ0_isLatin1_aae02 1 (some .boolean) 1 0 0 [.retAddr s0] M (rZ Q) :=
  con_of2 (al := [(0, .retAddr s0)]) (by decide) (by exact Nat.le_of_ble_eq_true rfl) (by rfl) (fun p l e s m args below meth c g C hr hlk _ => w_J0_isLatin1_aae02 C hr hlk h)
set_option maxHeartbeats 4000000 in
set_option maxRecDepth 100000 in
theorem w_J1_charAt_3b067 {p : Program} {l : Launch} {e : Env} {s : State} {m : MethodId} {args : Array Value} {below : List Frame} {meth : Method} {c : Code} {g : Geo} (C : Cx p s m args c cJ1_charAt_3b067 RJ1 2 g) (hr : meth.sig.returnType = (some .char)) (hlk : meth.locks = false) {s0 : Nat} {x1 : Int32} {M : Mem} {Q : Int32 → Mem → Prop} (h : f_J1_charAt_3b067 s0 x1 M Q) : E p l e (rmO 3 0 0) s m args below meth c g 2 (MQ below (QcM g (rI Q)) args s 0 0 (gA g)) 0 0 0 [(0, .retAddr (7 + s0)), (1, .int x1)] [] M := by
  unfold f_J1_charAt_3b067 at h
  refine e_iload_n C 1 dJ1_charAt_3b067_0 rfl rfl ?_
  refine e_sload_n C 0 dJ1_charAt_3b067_1 rfl rfl ?_
  obtain ⟨o1, h⟩ := h
  refine e_salen C o1 dJ1_charAt_3b067_2 ?_
  refine e_callS (as := [.int x1, .int (nI (strL.getD s0 0))]) C wb_J0_checkIndex_df160 wt_J1_9 (m_J0_checkIndex_df160 h) rfl ⟨Nat.le_of_ble_eq_true rfl, Nat.le_of_ble_eq_true rfl⟩ ⟨Nat.le_of_ble_eq_true rfl, Nat.le_of_ble_eq_true rfl⟩ (by first | exact Nat.le_of_ble_eq_true rfl | (simp only [List.map_cons, List.map_nil, va_cat, List.sum_cons, List.sum_nil]; exact Nat.le_of_ble_eq_true rfl)) dJ1_charAt_3b067_3 (kV (fun M3 h7 => ?_))
  refine e_sload_n C 0 dJ1_charAt_3b067_6 rfl rfl ?_
  refine e_iload_n C 1 dJ1_charAt_3b067_7 rfl rfl ?_
  obtain ⟨o4, h7⟩ := h7
  obtain ⟨o5, h7⟩ := h7
  refine e_sbald C o4 o5 dJ1_charAt_3b067_8 ?_
  refine e_sipush (v := 255) C dJ1_charAt_3b067_9 (by decide) ?_
  refine e_iand C dJ1_charAt_3b067_12 ?_
  refine e_i2c C dJ1_charAt_3b067_13 ?_
  obtain ⟨z6, h7⟩ := h7
  exact e_cret C hr z6 hlk (Nat.le_refl _) (Nat.le_refl _) dJ1_charAt_3b067_14 ⟨_, rfl, h7⟩
theorem m_J1_charAt_3b067  {s0 : Nat} {x1 : Int32} {M : Mem} {Q : Int32 → Mem → Prop} (h : f_J1_charAt_3b067 s0 x1 M Q) : Con yJ1_charAt_3b067 cJ1_charAt_3b067 2 (some .char) 3 0 0 [.retAddr (7 + s0), .int x1] M (rI Q) :=
  con_of2 (al := [(0, .retAddr (7 + s0)), (1, .int x1)]) (by decide) (by exact Nat.le_of_ble_eq_true rfl) (by rfl) (fun p l e s m args below meth c g C hr hlk _ => w_J1_charAt_3b067 C hr hlk h)
set_option maxHeartbeats 4000000 in
set_option maxRecDepth 100000 in
theorem w_J0_charAt_5068e {p : Program} {l : Launch} {e : Env} {s : State} {m : MethodId} {args : Array Value} {below : List Frame} {meth : Method} {c : Code} {g : Geo} (C : Cx p s m args c cJ0_charAt_5068e RJ0 2 g) (hr : meth.sig.returnType = (some .char)) (hlk : meth.locks = false) {s0 : Nat} {x1 : Int32} {M : Mem} {Q : Int32 → Mem → Prop} (h : f_J0_charAt_5068e s0 x1 M Q) : E p l e (rmO 4 0 0) s m args below meth c g 2 (MQ below (QcM g (rI Q)) args s 0 0 (gA g)) 0 0 0 [(0, .retAddr s0), (1, .int x1)] [] M := by
  unfold f_J0_charAt_5068e at h
  refine e_sload_n C 0 dJ0_charAt_5068e_0 rfl rfl ?_
  obtain ⟨o1, h⟩ := h
  refine e_callStr (as := []) C o1 wb_J0_isLatin1_aae02 wv_J0_492 rfl (m_J0_isLatin1_aae02 h) rfl ⟨Nat.le_of_ble_eq_true rfl, Nat.le_of_ble_eq_true rfl⟩ ⟨Nat.le_of_ble_eq_true rfl, Nat.le_of_ble_eq_true rfl⟩ (by first | exact Nat.le_of_ble_eq_true rfl | (simp only [List.map_cons, List.map_nil, va_cat, List.sum_cons, List.sum_nil]; exact Nat.le_of_ble_eq_true rfl)) dJ0_charAt_5068e_1 (kZ (fun w2 M3 h11 => ?_))
  refine e_if_eq (tgt := 16) C dJ0_charAt_5068e_4 (by decide) (fun q4 => ?_) (fun q4 => ?_)
  · replace h11 := ite_f h11 (bi_ne q4)
    refine e_sload_n C 0 dJ0_charAt_5068e_16 rfl rfl ?_
    obtain ⟨o5, h11⟩ := h11
    refine e_gsV C o5 wd_1532 dJ0_charAt_5068e_17 ?_
    refine e_iload_n C 1 dJ0_charAt_5068e_20 rfl rfl ?_
    exact h11.elim
  · replace h11 := ite_t h11 (bi_t q4)
    refine e_sload_n C 0 dJ0_charAt_5068e_7 rfl rfl ?_
    obtain ⟨o6, h11⟩ := h11
    refine e_gsV C o6 wd_1532 dJ0_charAt_5068e_8 ?_
    refine e_iload_n C 1 dJ0_charAt_5068e_11 rfl rfl ?_
    refine e_callS (as := [.retAddr (7 + s0), .int x1]) C wb_J1_charAt_3b067 wt_J0_495 (m_J1_charAt_3b067 h11) rfl ⟨Nat.le_of_ble_eq_true rfl, Nat.le_of_ble_eq_true rfl⟩ ⟨Nat.le_of_ble_eq_true rfl, Nat.le_of_ble_eq_true rfl⟩ (by first | exact Nat.le_of_ble_eq_true rfl | (simp only [List.map_cons, List.map_nil, va_cat, List.sum_cons, List.sum_nil]; exact Nat.le_of_ble_eq_true rfl)) dJ0_charAt_5068e_12 (kI (fun w7 M8 h10 => ?_))
    obtain ⟨z9, h10⟩ := h10
    exact e_cret C hr z9 hlk (Nat.le_refl _) (Nat.le_refl _) dJ0_charAt_5068e_15 ⟨_, rfl, h10⟩
theorem m_J0_charAt_5068e  {s0 : Nat} {x1 : Int32} {M : Mem} {Q : Int32 → Mem → Prop} (h : f_J0_charAt_5068e s0 x1 M Q) : Con yJ0_charAt_5068e cJ0_charAt_5068e 2 (some .char) 4 0 0 [.retAddr s0, .int x1] M (rI Q) :=
  con_of2 (al := [(0, .retAddr s0), (1, .int x1)]) (by decide) (by exact Nat.le_of_ble_eq_true rfl) (by rfl) (fun p l e s m args below meth c g C hr hlk _ => w_J0_charAt_5068e C hr hlk h)
