/-! ===== generated: the machine keeps f_ ===== -/
set_option maxHeartbeats 4000000 in
set_option maxRecDepth 100000 in
theorem w_X3_init {p : Program} {l : Launch} {e : Env} {s : State} {m : MethodId} {args : Array Value} {below : List Frame} {meth : Method} {c : Code} {g : Geo} (C : Cx p s m args c cX3_init RX3 2 g) (hr : meth.sig.returnType = none) (hlk : meth.locks = false) (hnm : meth.name = "<init>") {a0 : Nat} {r1 : Option Nat} {M : Mem} {Q : Mem → Prop} (h : f_X3_init a0 r1 M Q) : E p l e (rmO 2 8 244) s m args below meth c g 2 (MQ below (QcM g (rV Q)) args s 8 244 (gA g)) 0 0 0 [(0, .ref a0), (1, va_rf r1)] [] M := by
  unfold f_X3_init at h
  refine e_aload_n C 0 dX3_init_0 rfl rfl ?_
  refine e_obj C wd_145 wd_27 wd_28 ⟨Nat.le_of_ble_eq_true rfl, Nat.le_of_ble_eq_true rfl⟩ (by first | exact Nat.le_of_ble_eq_true rfl | (simp only [List.map_cons, List.map_nil, va_cat, List.sum_cons, List.sum_nil]; exact Nat.le_of_ble_eq_true rfl)) dX3_init_1 ?_
  refine e_aload_n C 0 dX3_init_4 rfl rfl ?_
  refine e_bipush (v := 40) C dX3_init_5 (by decide) ?_
  refine e_newa C 0 (N := 40) (by decide) (by decide) (by decide) rfl wd_76 (Nat.le_of_ble_eq_true rfl) (Nat.le_of_ble_eq_true rfl) dX3_init_7 ?_
  refine nmE (fun M1 e2 => ?_)
  replace h := h M1 e2
  obtain ⟨o3, h⟩ := h
  refine e_putR (x := (some (mN M))) C [3] 0 true (fun _ => hnm) fp_X3_9 o3 dX3_init_9 ?_
  refine nmE (fun M4 e5 => ?_)
  replace h := h M4 e5
  have o6 : isO M4 a0 [3] := by rw [e5]; exact o3
  refine e_aload_n C 0 dX3_init_12 rfl rfl ?_
  refine e_bipush (v := 40) C dX3_init_13 (by decide) ?_
  refine e_newa C 0 (N := 40) (by decide) (by decide) (by decide) rfl wd_76 (Nat.le_of_ble_eq_true rfl) (Nat.le_of_ble_eq_true rfl) dX3_init_15 ?_
  refine nmE (fun M7 e8 => ?_)
  replace h := h M7 e8
  obtain ⟨o9, h⟩ := h
  refine e_putR (x := (some (mN M4))) C [3] 1 true (fun _ => hnm) fp_X3_15 o9 dX3_init_17 ?_
  refine nmE (fun M10 e11 => ?_)
  replace h := h M10 e11
  have o12 : isO M10 a0 [3] := by rw [e11]; exact o9
  refine e_aload_n C 0 dX3_init_20 rfl rfl ?_
  refine e_bipush (v := 40) C dX3_init_21 (by decide) ?_
  refine e_newa C 0 (N := 40) (by decide) (by decide) (by decide) rfl wd_76 (Nat.le_of_ble_eq_true rfl) (Nat.le_of_ble_eq_true rfl) dX3_init_23 ?_
  refine nmE (fun M13 e14 => ?_)
  replace h := h M13 e14
  obtain ⟨o15, h⟩ := h
  refine e_putR (x := (some (mN M10))) C [3] 2 true (fun _ => hnm) fp_X3_18 o15 dX3_init_25 ?_
  refine nmE (fun M16 e17 => ?_)
  replace h := h M16 e17
  have o18 : isO M16 a0 [3] := by rw [e17]; exact o15
  refine e_aload_n C 0 dX3_init_28 rfl rfl ?_
  refine e_bipush (v := 40) C dX3_init_29 (by decide) ?_
  refine e_newa C 0 (N := 40) (by decide) (by decide) (by decide) rfl wd_76 (Nat.le_of_ble_eq_true rfl) (Nat.le_of_ble_eq_true rfl) dX3_init_31 ?_
  refine nmE (fun M19 e20 => ?_)
  replace h := h M19 e20
  obtain ⟨o21, h⟩ := h
  refine e_putR (x := (some (mN M16))) C [3] 3 true (fun _ => hnm) fp_X3_21 o21 dX3_init_33 ?_
  refine nmE (fun M22 e23 => ?_)
  replace h := h M22 e23
  have o24 : isO M22 a0 [3] := by rw [e23]; exact o21
  refine e_aload_n C 0 dX3_init_36 rfl rfl ?_
  refine e_bipush (v := 40) C dX3_init_37 (by decide) ?_
  refine e_newa C 0 (N := 40) (by decide) (by decide) (by decide) rfl wd_76 (Nat.le_of_ble_eq_true rfl) (Nat.le_of_ble_eq_true rfl) dX3_init_39 ?_
  refine nmE (fun M25 e26 => ?_)
  replace h := h M25 e26
  obtain ⟨o27, h⟩ := h
  refine e_putR (x := (some (mN M22))) C [3] 4 true (fun _ => hnm) fp_X3_24 o27 dX3_init_41 ?_
  refine nmE (fun M28 e29 => ?_)
  replace h := h M28 e29
  have o30 : isO M28 a0 [3] := by rw [e29]; exact o27
  refine e_aload_n C 0 dX3_init_44 rfl rfl ?_
  refine e_bipush (v := 40) C dX3_init_45 (by decide) ?_
  refine e_newa C 0 (N := 40) (by decide) (by decide) (by decide) rfl wd_76 (Nat.le_of_ble_eq_true rfl) (Nat.le_of_ble_eq_true rfl) dX3_init_47 ?_
  refine nmE (fun M31 e32 => ?_)
  replace h := h M31 e32
  obtain ⟨o33, h⟩ := h
  refine e_putR (x := (some (mN M28))) C [3] 5 true (fun _ => hnm) fp_X3_27 o33 dX3_init_49 ?_
  refine nmE (fun M34 e35 => ?_)
  replace h := h M34 e35
  have o36 : isO M34 a0 [3] := by rw [e35]; exact o33
  refine e_aload_n C 0 dX3_init_52 rfl rfl ?_
  refine e_iconst (v := 2) C dX3_init_53 (by decide) ?_
  refine e_newa C 0 (N := 2) (by decide) (by decide) (by decide) rfl wd_76 (Nat.le_of_ble_eq_true rfl) (Nat.le_of_ble_eq_true rfl) dX3_init_54 ?_
  refine nmE (fun M37 e38 => ?_)
  replace h := h M37 e38
  obtain ⟨o39, h⟩ := h
  refine e_putR (x := (some (mN M34))) C [3] 16 true (fun _ => hnm) fp_X3_30 o39 dX3_init_56 ?_
  refine nmE (fun M40 e41 => ?_)
  replace h := h M40 e41
  have o42 : isO M40 a0 [3] := by rw [e41]; exact o39
  refine e_aload_n C 0 dX3_init_59 rfl rfl ?_
  refine e_iconst (v := 2) C dX3_init_60 (by decide) ?_
  refine e_newa C 0 (N := 2) (by decide) (by decide) (by decide) rfl wd_76 (Nat.le_of_ble_eq_true rfl) (Nat.le_of_ble_eq_true rfl) dX3_init_61 ?_
  refine nmE (fun M43 e44 => ?_)
  replace h := h M43 e44
  obtain ⟨o45, h⟩ := h
  refine e_putR (x := (some (mN M40))) C [3] 17 true (fun _ => hnm) fp_X3_33 o45 dX3_init_63 ?_
  refine nmE (fun M46 e47 => ?_)
  replace h := h M46 e47
  have o48 : isO M46 a0 [3] := by rw [e47]; exact o45
  refine e_aload_n C 0 dX3_init_66 rfl rfl ?_
  refine e_rload_n C 1 dX3_init_67 rfl rfl ?_
  refine e_putR (x := r1) C [3] 10 true (fun _ => hnm) fp_X3_36 o48 dX3_init_68 ?_
  refine nmE (fun M49 e50 => ?_)
  replace h := h M49 e50
  have o51 : isO M49 a0 [3] := by rw [e50]; exact o48
  exact e_vret C hr hlk (Nat.le_of_ble_eq_true rfl) (Nat.le_of_ble_eq_true rfl) dX3_init_71 ⟨rfl, h⟩
theorem m_X3_init  {a0 : Nat} {r1 : Option Nat} {M : Mem} {Q : Mem → Prop} (h : f_X3_init a0 r1 M Q) : Con yX3_init cX3_init 2 none 2 8 244 [.ref a0, va_rf r1] M (rV Q) :=
  con_of2 (al := [(0, .ref a0), (1, va_rf r1)]) (by decide) (by cases r1 <;> exact Nat.le_of_ble_eq_true rfl) (by cases r1 <;> rfl) (fun p l e s m args below meth c g C hr hlk hnm => w_X3_init C hr hlk hnm h)
set_option maxHeartbeats 4000000 in
set_option maxRecDepth 100000 in
theorem w_X3_begin {p : Program} {l : Launch} {e : Env} {s : State} {m : MethodId} {args : Array Value} {below : List Frame} {meth : Method} {c : Code} {g : Geo} (C : Cx p s m args c cX3_begin RX3 5 g) (hr : meth.sig.returnType = none) (hlk : meth.locks = false) {a0 : Nat} {r1 : Option Nat} {r2 : Option Nat} {x3 : Int32} {x4 : Int32} {M : Mem} {Q : Mem → Prop} (h : f_X3_begin a0 r1 r2 x3 x4 M Q) : E p l e (rmO 2 0 0) s m args below meth c g 5 (MQ below (QcM g (rV Q)) args s 0 0 (gA g)) 0 0 0 [(0, .ref a0), (1, va_rf r1), (2, va_rf r2), (3, .int x3), (4, .int x4)] [] M := by
  unfold f_X3_begin at h
  refine e_aload_n C 0 dX3_begin_0 rfl rfl ?_
  refine e_rload_n C 1 dX3_begin_1 rfl rfl ?_
  obtain ⟨o1, h⟩ := h
  refine e_putR (x := r1) C [3] 11 false (fun z => by cases z) fp_X3_68 o1 dX3_begin_2 ?_
  refine nmE (fun M2 e3 => ?_)
  replace h := h M2 e3
  have o4 : isO M2 a0 [3] := by rw [e3]; exact o1
  refine e_aload_n C 0 dX3_begin_5 rfl rfl ?_
  refine e_rload_n C 2 dX3_begin_6 rfl rfl ?_
  refine e_putR (x := r2) C [3] 12 false (fun z => by cases z) fp_X3_72 o4 dX3_begin_7 ?_
  refine nmE (fun M5 e6 => ?_)
  replace h := h M5 e6
  have o7 : isO M5 a0 [3] := by rw [e6]; exact o4
  refine e_aload_n C 0 dX3_begin_10 rfl rfl ?_
  refine e_iload_n C 3 dX3_begin_11 rfl rfl ?_
  refine e_putI C [3] 13 false (fun z => by cases z) fp_X3_76 o7 dX3_begin_12 ?_
  refine nmE (fun M8 e9 => ?_)
  replace h := h M8 e9
  have o10 : isO M8 a0 [3] := by rw [e9]; exact o7
  refine e_aload_n C 0 dX3_begin_15 rfl rfl ?_
  refine e_iload C 4 dX3_begin_16 rfl ?_
  refine e_putI C [3] 14 false (fun z => by cases z) fp_X3_79 o10 dX3_begin_18 ?_
  refine nmE (fun M11 e12 => ?_)
  replace h := h M11 e12
  have o13 : isO M11 a0 [3] := by rw [e12]; exact o10
  refine e_aload_n C 0 dX3_begin_21 rfl rfl ?_
  refine e_iconst (v := 0) C dX3_begin_22 (by decide) ?_
  refine e_putI C [3] 6 false (fun z => by cases z) fp_X3_82 o13 dX3_begin_23 ?_
  refine nmE (fun M14 e15 => ?_)
  replace h := h M14 e15
  have o16 : isO M14 a0 [3] := by rw [e15]; exact o13
  refine e_aload_n C 0 dX3_begin_26 rfl rfl ?_
  refine e_iconst (v := 0) C dX3_begin_27 (by decide) ?_
  refine e_putI C [3] 7 false (fun z => by cases z) fp_X3_85 o16 dX3_begin_28 ?_
  refine nmE (fun M17 e18 => ?_)
  replace h := h M17 e18
  have o19 : isO M17 a0 [3] := by rw [e18]; exact o16
  refine e_aload_n C 0 dX3_begin_31 rfl rfl ?_
  refine e_iconst (v := -1) C dX3_begin_32 (by decide) ?_
  refine e_putI C [3] 8 false (fun z => by cases z) fp_X3_88 o19 dX3_begin_33 ?_
  refine nmE (fun M20 e21 => ?_)
  replace h := h M20 e21
  have o22 : isO M20 a0 [3] := by rw [e21]; exact o19
  refine e_aload_n C 0 dX3_begin_36 rfl rfl ?_
  refine e_iconst (v := 0) C dX3_begin_37 (by decide) ?_
  refine e_putI C [3] 9 false (fun z => by cases z) fp_X3_59 o22 dX3_begin_38 ?_
  refine nmE (fun M23 e24 => ?_)
  replace h := h M23 e24
  have o25 : isO M23 a0 [3] := by rw [e24]; exact o22
  refine e_aload_n C 0 dX3_begin_41 rfl rfl ?_
  refine e_iconst (v := 0) C dX3_begin_42 (by decide) ?_
  refine e_putI C [3] 18 false (fun z => by cases z) fp_X3_91 o25 dX3_begin_43 ?_
  refine nmE (fun M26 e27 => ?_)
  replace h := h M26 e27
  have o28 : isO M26 a0 [3] := by rw [e27]; exact o25
  refine e_aload_n C 0 dX3_begin_46 rfl rfl ?_
  refine e_getR C [3] 16 (fg_of fg_X3_30) o28 dX3_begin_47 ?_
  refine e_iconst (v := 0) C dX3_begin_50 (by decide) ?_
  refine e_callS (as := [va_rf (mP M26 a0 16), .int (0 : Int32)]) C wb_J7_fill_53178 wt_X3_94 (m_J7_fill_53178 h) rfl ⟨Nat.le_of_ble_eq_true rfl, Nat.le_of_ble_eq_true rfl⟩ ⟨Nat.le_of_ble_eq_true rfl, Nat.le_of_ble_eq_true rfl⟩ (by first | exact Nat.le_of_ble_eq_true rfl | (simp only [List.map_cons, List.map_nil, va_cat, List.sum_cons, List.sum_nil]; exact Nat.le_of_ble_eq_true rfl)) dX3_begin_51 (kV (fun M30 h35 => ?_))
  refine e_aload_n C 0 dX3_begin_54 rfl rfl ?_
  obtain ⟨o31, h35⟩ := h35
  refine e_getR C [3] 17 (fg_of fg_X3_33) o31 dX3_begin_55 ?_
  refine e_iconst (v := 0) C dX3_begin_58 (by decide) ?_
  refine e_callS (as := [va_rf (mP M30 a0 17), .int (0 : Int32)]) C wb_J7_fill_53178 wt_X3_94 (m_J7_fill_53178 h35) rfl ⟨Nat.le_of_ble_eq_true rfl, Nat.le_of_ble_eq_true rfl⟩ ⟨Nat.le_of_ble_eq_true rfl, Nat.le_of_ble_eq_true rfl⟩ (by first | exact Nat.le_of_ble_eq_true rfl | (simp only [List.map_cons, List.map_nil, va_cat, List.sum_cons, List.sum_nil]; exact Nat.le_of_ble_eq_true rfl)) dX3_begin_59 (kV (fun M33 h34 => ?_))
  exact e_vret C hr hlk (Nat.le_refl _) (Nat.le_refl _) dX3_begin_62 ⟨rfl, h34⟩
theorem m_X3_begin  {a0 : Nat} {r1 : Option Nat} {r2 : Option Nat} {x3 : Int32} {x4 : Int32} {M : Mem} {Q : Mem → Prop} (h : f_X3_begin a0 r1 r2 x3 x4 M Q) : Con yX3_begin cX3_begin 5 none 2 0 0 [.ref a0, va_rf r1, va_rf r2, .int x3, .int x4] M (rV Q) :=
  con_of2 (al := [(0, .ref a0), (1, va_rf r1), (2, va_rf r2), (3, .int x3), (4, .int x4)]) (by decide) (by cases r1 <;> cases r2 <;> exact Nat.le_of_ble_eq_true rfl) (by cases r1 <;> cases r2 <;> rfl) (fun p l e s m args below meth c g C hr hlk _ => w_X3_begin C hr hlk h)
set_option maxHeartbeats 4000000 in
set_option maxRecDepth 100000 in
theorem w_X3_roomForMore {p : Program} {l : Launch} {e : Env} {s : State} {m : MethodId} {args : Array Value} {below : List Frame} {meth : Method} {c : Code} {g : Geo} (C : Cx p s m args c cX3_roomForMore RX3 1 g) (hr : meth.sig.returnType = (some .boolean)) (hlk : meth.locks = false) {a0 : Nat} {M : Mem} {Q : Bool → Mem → Prop} (h : f_X3_roomForMore a0 M Q) : E p l e (rmO 1 0 0) s m args below meth c g 1 (MQ below (QcM g (rZ Q)) args s 0 0 (gA g)) 0 0 0 [(0, .ref a0)] [] M := by
  unfold f_X3_roomForMore at h
  refine e_aload_n C 0 dX3_roomForMore_0 rfl rfl ?_
  obtain ⟨o1, h⟩ := h
  refine e_getI C [3] 6 (fg_of fg_X3_82) o1 dX3_roomForMore_1 ?_
  refine e_aload_n C 0 dX3_roomForMore_4 rfl rfl ?_
  refine e_getR C [3] 12 (fg_of fg_X3_72) o1 dX3_roomForMore_5 ?_
  obtain ⟨b2, p3, h⟩ := h
  try rw [p3]
  obtain ⟨o4, h⟩ := h
  refine e_getI C [10] 2 (fg_of fg_X3_123) o4 dX3_roomForMore_8 ?_
  refine e_icmp_ge (tgt := 27) C dX3_roomForMore_11 (by decide) (fun q5 => ?_) (fun q5 => ?_)
  · replace h := ite_t h q5
    refine e_iconst (v := 0) C dX3_roomForMore_27 (by decide) ?_
    exact e_zret C hr rfl hlk (Nat.le_refl _) (Nat.le_refl _) dX3_roomForMore_28 ⟨false, rfl, h⟩
  · replace h := ite_f h q5
    refine e_aload_n C 0 dX3_roomForMore_14 rfl rfl ?_
    refine e_getI C [3] 6 (fg_of fg_X3_82) o1 dX3_roomForMore_15 ?_
    refine e_bipush (v := 40) C dX3_roomForMore_18 (by decide) ?_
    refine e_icmp_ge (tgt := 27) C dX3_roomForMore_20 (by decide) (fun q6 => ?_) (fun q6 => ?_)
    · replace h := ite_t h q6
      refine e_iconst (v := 0) C dX3_roomForMore_27 (by decide) ?_
      exact e_zret C hr rfl hlk (Nat.le_refl _) (Nat.le_refl _) dX3_roomForMore_28 ⟨false, rfl, h⟩
    · replace h := ite_f h q6
      refine e_iconst (v := 1) C dX3_roomForMore_23 (by decide) ?_
      refine e_goto (tgt := 28) C dX3_roomForMore_24 (by decide) ?_
      exact e_zret C hr rfl hlk (Nat.le_refl _) (Nat.le_refl _) dX3_roomForMore_28 ⟨true, rfl, h⟩
theorem m_X3_roomForMore  {a0 : Nat} {M : Mem} {Q : Bool → Mem → Prop} (h : f_X3_roomForMore a0 M Q) : Con yX3_roomForMore cX3_roomForMore 1 (some .boolean) 1 0 0 [.ref a0] M (rZ Q) :=
  con_of2 (al := [(0, .ref a0)]) (by decide) (by exact Nat.le_of_ble_eq_true rfl) (by rfl) (fun p l e s m args below meth c g C hr hlk _ => w_X3_roomForMore C hr hlk h)
set_option maxHeartbeats 4000000 in
set_option maxRecDepth 100000 in
theorem w_X3_lineFor_J204 {p : Program} {l : Launch} {e : Env} {s : State} {m : MethodId} {args : Array Value} {below : List Frame} {meth : Method} {c : Code} {g : Geo} (C : Cx p s m args c cX3_lineFor RX3 13 g) (hr : meth.sig.returnType = (some .int)) (hlk : meth.locks = false) {a0 : Nat} {x1 : Int32} {x2 : Int32} {v10 : Int32} {t0 : Int32} {M : Mem} {Q : Int32 → Mem → Prop} (h : f_X3_lineFor_J204 a0 x1 x2 v10 t0 M Q) : E p l e (rmO 2 0 0) s m args below meth c g 13 (MQ below (QcM g (rI Q)) args s 0 0 (gA g)) 0 0 204 [(0, .ref a0), (1, .int x1), (2, .int x2), (10, .int v10)] [.int t0] M := by
  unfold f_X3_lineFor_J204 at h
  refine e_istore (al' := [(12, .int t0), (0, .ref a0), (1, .int x1), (2, .int x2), (10, .int v10)]) C dX3_lineFor_204 (by decide) rfl ?_
  refine e_iload C 0 dX3_lineFor_206 rfl ?_
  refine e_if_eq (tgt := 215) C dX3_lineFor_208 (by decide) (fun q1 => ?_) (fun q1 => ?_)
  · replace h := ite_t h q1
    refine e_iload C 4 dX3_lineFor_215 rfl ?_
    exact e_iret C hr hlk (Nat.le_refl _) (Nat.le_refl _) dX3_lineFor_217 ⟨_, rfl, h⟩
  · replace h := ite_f h q1
    refine e_iconst (v := 2) C dX3_lineFor_211 (by decide) ?_
    refine e_goto (tgt := 217) C dX3_lineFor_212 (by decide) ?_
    exact e_iret C hr hlk (Nat.le_refl _) (Nat.le_refl _) dX3_lineFor_217 ⟨_, rfl, h⟩
set_option maxHeartbeats 4000000 in
set_option maxRecDepth 100000 in
theorem w_X3_lineFor_J199 {p : Program} {l : Launch} {e : Env} {s : State} {m : MethodId} {args : Array Value} {below : List Frame} {meth : Method} {c : Code} {g : Geo} (C : Cx p s m args c cX3_lineFor RX3 13 g) (hr : meth.sig.returnType = (some .int)) (hlk : meth.locks = false) {a0 : Nat} {x1 : Int32} {x2 : Int32} {v10 : Int32} {M : Mem} {Q : Int32 → Mem → Prop} (h : f_X3_lineFor_J199 a0 x1 x2 v10 M Q) : E p l e (rmO 2 0 0) s m args below meth c g 13 (MQ below (QcM g (rI Q)) args s 0 0 (gA g)) 0 0 199 [(0, .ref a0), (1, .int x1), (2, .int x2), (10, .int v10)] [] M := by
  unfold f_X3_lineFor_J199 at h
  refine e_iconst (v := 1) C dX3_lineFor_199 (by decide) ?_
  refine e_goto (tgt := 204) C dX3_lineFor_200 (by decide) ?_
  exact w_X3_lineFor_J204 C hr hlk h
set_option maxHeartbeats 4000000 in
set_option maxRecDepth 100000 in
theorem w_X3_lineFor_J161 {p : Program} {l : Launch} {e : Env} {s : State} {m : MethodId} {args : Array Value} {below : List Frame} {meth : Method} {c : Code} {g : Geo} (C : Cx p s m args c cX3_lineFor RX3 13 g) (hr : meth.sig.returnType = (some .int)) (hlk : meth.locks = false) {a0 : Nat} {x1 : Int32} {x2 : Int32} {v10 : Int32} {t0 : Int32} {M : Mem} {Q : Int32 → Mem → Prop} (h : f_X3_lineFor_J161 a0 x1 x2 v10 t0 M Q) : E p l e (rmO 2 0 0) s m args below meth c g 13 (MQ below (QcM g (rI Q)) args s 0 0 (gA g)) 0 0 161 [(0, .ref a0), (1, .int x1), (2, .int x2), (10, .int v10)] [.int t0] M := by
  unfold f_X3_lineFor_J161 at h
  refine e_istore (al' := [(11, .int t0), (0, .ref a0), (1, .int x1), (2, .int x2), (10, .int v10)]) C dX3_lineFor_161 (by decide) rfl ?_
  refine e_iload C 0 dX3_lineFor_163 rfl ?_
  refine e_aload_n C 1 dX3_lineFor_165 rfl rfl ?_
  obtain ⟨o1, h⟩ := h
  refine e_getR C [3] 10 (fg_of fg_X3_36) o1 dX3_lineFor_166 ?_
  refine e_iload_n C 2 dX3_lineFor_169 rfl rfl ?_
  obtain ⟨b2, p3, h⟩ := h
  try rw [p3]
  obtain ⟨o4, h⟩ := h
  refine e_aald C 4 (by decide) o4 dX3_lineFor_170 ?_
  refine e_iconst (v := 1) C dX3_lineFor_171 (by decide) ?_
  obtain ⟨b5, p6, h⟩ := h
  try rw [p6]
  obtain ⟨o7, h⟩ := h
  refine e_iald C o7 dX3_lineFor_172 ?_
  refine e_icmp_gt (tgt := 199) C dX3_lineFor_173 (by decide) (fun q8 => ?_) (fun q8 => ?_)
  · replace h := ite_t h q8
    refine e_pick [1, 2, 3, 4] rfl ?_
    exact w_X3_lineFor_J199 C hr hlk h
  · replace h := ite_f h q8
    refine e_aload_n C 1 dX3_lineFor_176 rfl rfl ?_
    refine e_getR C [3] 11 (fg_of fg_X3_68) o1 dX3_lineFor_177 ?_
    refine e_aload_n C 1 dX3_lineFor_180 rfl rfl ?_
    refine e_getR C [3] 16 (fg_of fg_X3_30) o1 dX3_lineFor_181 ?_
    refine e_iconst (v := 0) C dX3_lineFor_184 (by decide) ?_
    obtain ⟨b9, p10, h⟩ := h
    try rw [p10]
    obtain ⟨o11, h⟩ := h
    refine e_iald C o11 dX3_lineFor_185 ?_
    refine e_aload_n C 1 dX3_lineFor_186 rfl rfl ?_
    refine e_getR C [3] 16 (fg_of fg_X3_30) o1 dX3_lineFor_187 ?_
    rw [p10]
    refine e_iconst (v := 1) C dX3_lineFor_190 (by decide) ?_
    obtain ⟨o12, h⟩ := h
    refine e_iald C o12 dX3_lineFor_191 ?_
    refine e_iadd C dX3_lineFor_192 ?_
    obtain ⟨b13, p14, h⟩ := h
    try rw [p14]
    have kk : ∀ (w15 : Bool) (M16 : Mem), (if w15 = true then f_X3_lineFor_J199 a0 x1 x2 v10 M16 Q else f_X3_lineFor_J204 a0 x1 x2 v10 (0 : Int32) M16 Q) → E p l e (rmO 2 0 0) s m args below meth c g 13 (MQ below (QcM g (rI Q)) args s 0 0 (gA g)) 0 0 196 [(11, .int t0), (0, .ref a0), (1, .int x1), (2, .int x2), (10, .int v10)] [.int (bi w15)] M16 := by
      intro w15 M16 h18
      refine e_if_eq (tgt := 203) C dX3_lineFor_196 (by decide) (fun q17 => ?_) (fun q17 => ?_)
      · replace h18 := ite_f h18 (bi_ne q17)
        refine e_iconst (v := 0) C dX3_lineFor_203 (by decide) ?_
        refine e_pick [1, 2, 3, 4] rfl ?_
        exact w_X3_lineFor_J204 C hr hlk h18
      · replace h18 := ite_t h18 (bi_t q17)
        refine e_pick [1, 2, 3, 4] rfl ?_
        exact w_X3_lineFor_J199 C hr hlk h18
    rcases h with ⟨h0, h⟩ | ⟨h0, h⟩ | ⟨h0, h⟩ | ⟨h0, h⟩ | ⟨h0, h⟩ | ⟨h0, h⟩ | ⟨h0, h⟩
    · exact e_callV (as := [.int ((mI M b9 ((0 : Int32)).toNatClampNeg) + (mI M b9 ((1 : Int32)).toNatClampNeg))]) C wb_X5_turnsAway wv_X3_147 (ci := 5) rfl rfl h0 (m_X5_turnsAway h) rfl ⟨Nat.le_of_ble_eq_true rfl, Nat.le_of_ble_eq_true rfl⟩ ⟨Nat.le_of_ble_eq_true rfl, Nat.le_of_ble_eq_true rfl⟩ (by first | exact Nat.le_of_ble_eq_true rfl | (simp only [List.map_cons, List.map_nil, va_cat, List.sum_cons, List.sum_nil]; exact Nat.le_of_ble_eq_true rfl)) dX3_lineFor_193 (kZ kk)
    · exact e_callU (as := [.int ((mI M b9 ((0 : Int32)).toNatClampNeg) + (mI M b9 ((1 : Int32)).toNatClampNeg))]) C wb_X5_turnsAway wu_X3_147_1 (ci := 1) rfl h0 (m_X5_turnsAway h) rfl ⟨Nat.le_of_ble_eq_true rfl, Nat.le_of_ble_eq_true rfl⟩ ⟨Nat.le_of_ble_eq_true rfl, Nat.le_of_ble_eq_true rfl⟩ (by first | exact Nat.le_of_ble_eq_true rfl | (simp only [List.map_cons, List.map_nil, va_cat, List.sum_cons, List.sum_nil]; exact Nat.le_of_ble_eq_true rfl)) dX3_lineFor_193 (kZ kk)
    · exact e_callU (as := [.int ((mI M b9 ((0 : Int32)).toNatClampNeg) + (mI M b9 ((1 : Int32)).toNatClampNeg))]) C wb_X2_turnsAway wu_X3_147_2 (ci := 2) rfl h0 (m_X2_turnsAway h) rfl ⟨Nat.le_of_ble_eq_true rfl, Nat.le_of_ble_eq_true rfl⟩ ⟨Nat.le_of_ble_eq_true rfl, Nat.le_of_ble_eq_true rfl⟩ (by first | exact Nat.le_of_ble_eq_true rfl | (simp only [List.map_cons, List.map_nil, va_cat, List.sum_cons, List.sum_nil]; exact Nat.le_of_ble_eq_true rfl)) dX3_lineFor_193 (kZ kk)
    · exact e_callU (as := [.int ((mI M b9 ((0 : Int32)).toNatClampNeg) + (mI M b9 ((1 : Int32)).toNatClampNeg))]) C wb_X5_turnsAway wu_X3_147_4 (ci := 4) rfl h0 (m_X5_turnsAway h) rfl ⟨Nat.le_of_ble_eq_true rfl, Nat.le_of_ble_eq_true rfl⟩ ⟨Nat.le_of_ble_eq_true rfl, Nat.le_of_ble_eq_true rfl⟩ (by first | exact Nat.le_of_ble_eq_true rfl | (simp only [List.map_cons, List.map_nil, va_cat, List.sum_cons, List.sum_nil]; exact Nat.le_of_ble_eq_true rfl)) dX3_lineFor_193 (kZ kk)
    · exact e_callU (as := [.int ((mI M b9 ((0 : Int32)).toNatClampNeg) + (mI M b9 ((1 : Int32)).toNatClampNeg))]) C wb_X5_turnsAway wu_X3_147_6 (ci := 6) rfl h0 (m_X5_turnsAway h) rfl ⟨Nat.le_of_ble_eq_true rfl, Nat.le_of_ble_eq_true rfl⟩ ⟨Nat.le_of_ble_eq_true rfl, Nat.le_of_ble_eq_true rfl⟩ (by first | exact Nat.le_of_ble_eq_true rfl | (simp only [List.map_cons, List.map_nil, va_cat, List.sum_cons, List.sum_nil]; exact Nat.le_of_ble_eq_true rfl)) dX3_lineFor_193 (kZ kk)
    · exact e_callU (as := [.int ((mI M b9 ((0 : Int32)).toNatClampNeg) + (mI M b9 ((1 : Int32)).toNatClampNeg))]) C wb_X5_turnsAway wu_X3_147_7 (ci := 7) rfl h0 (m_X5_turnsAway h) rfl ⟨Nat.le_of_ble_eq_true rfl, Nat.le_of_ble_eq_true rfl⟩ ⟨Nat.le_of_ble_eq_true rfl, Nat.le_of_ble_eq_true rfl⟩ (by first | exact Nat.le_of_ble_eq_true rfl | (simp only [List.map_cons, List.map_nil, va_cat, List.sum_cons, List.sum_nil]; exact Nat.le_of_ble_eq_true rfl)) dX3_lineFor_193 (kZ kk)
    · exact e_callU (as := [.int ((mI M b9 ((0 : Int32)).toNatClampNeg) + (mI M b9 ((1 : Int32)).toNatClampNeg))]) C wb_X5_turnsAway wu_X3_147_9 (ci := 9) rfl h0 (m_X5_turnsAway h) rfl ⟨Nat.le_of_ble_eq_true rfl, Nat.le_of_ble_eq_true rfl⟩ ⟨Nat.le_of_ble_eq_true rfl, Nat.le_of_ble_eq_true rfl⟩ (by first | exact Nat.le_of_ble_eq_true rfl | (simp only [List.map_cons, List.map_nil, va_cat, List.sum_cons, List.sum_nil]; exact Nat.le_of_ble_eq_true rfl)) dX3_lineFor_193 (kZ kk)
set_option maxHeartbeats 4000000 in
set_option maxRecDepth 100000 in
theorem w_X3_lineFor_J146 {p : Program} {l : Launch} {e : Env} {s : State} {m : MethodId} {args : Array Value} {below : List Frame} {meth : Method} {c : Code} {g : Geo} (C : Cx p s m args c cX3_lineFor RX3 13 g) (hr : meth.sig.returnType = (some .int)) (hlk : meth.locks = false) {a0 : Nat} {x1 : Int32} {x2 : Int32} {v8 : Int32} {v9 : Int32} {t0 : Int32} {M : Mem} {Q : Int32 → Mem → Prop} (h : f_X3_lineFor_J146 a0 x1 x2 v8 v9 t0 M Q) : E p l e (rmO 2 0 0) s m args below meth c g 13 (MQ below (QcM g (rI Q)) args s 0 0 (gA g)) 0 0 146 [(0, .ref a0), (1, .int x1), (2, .int x2), (8, .int v8), (9, .int v9)] [.int t0] M := by
  unfold f_X3_lineFor_J146 at h
  refine e_istore (al' := [(10, .int t0), (0, .ref a0), (1, .int x1), (2, .int x2), (8, .int v8), (9, .int v9)]) C dX3_lineFor_146 (by decide) rfl ?_
  refine e_iload C 0 dX3_lineFor_148 rfl ?_
  refine e_iconst (v := 1) C dX3_lineFor_150 (by decide) ?_
  refine e_icmp_ne (tgt := 159) C dX3_lineFor_151 (by decide) (fun q1 => ?_) (fun q1 => ?_)
  · replace h := ite_f h q1
    refine e_iload C 4 dX3_lineFor_159 rfl ?_
    refine e_pick [1, 2, 3, 0] rfl ?_
    exact w_X3_lineFor_J161 C hr hlk h
  · replace h := ite_t h q1
    refine e_iload C 5 dX3_lineFor_154 rfl ?_
    refine e_goto (tgt := 161) C dX3_lineFor_156 (by decide) ?_
    refine e_pick [1, 2, 3, 0] rfl ?_
    exact w_X3_lineFor_J161 C hr hlk h
set_option maxHeartbeats 4000000 in
set_option maxRecDepth 100000 in
theorem w_X3_lineFor_J145 {p : Program} {l : Launch} {e : Env} {s : State} {m : MethodId} {args : Array Value} {below : List Frame} {meth : Method} {c : Code} {g : Geo} (C : Cx p s m args c cX3_lineFor RX3 13 g) (hr : meth.sig.returnType = (some .int)) (hlk : meth.locks = false) {a0 : Nat} {x1 : Int32} {x2 : Int32} {v8 : Int32} {v9 : Int32} {M : Mem} {Q : Int32 → Mem → Prop} (h : f_X3_lineFor_J145 a0 x1 x2 v8 v9 M Q) : E p l e (rmO 2 0 0) s m args below meth c g 13 (MQ below (QcM g (rI Q)) args s 0 0 (gA g)) 0 0 145 [(0, .ref a0), (1, .int x1), (2, .int x2), (8, .int v8), (9, .int v9)] [] M := by
  unfold f_X3_lineFor_J145 at h
  refine e_iconst (v := 0) C dX3_lineFor_145 (by decide) ?_
  exact w_X3_lineFor_J146 C hr hlk h
set_option maxHeartbeats 4000000 in
set_option maxRecDepth 100000 in
theorem w_X3_lineFor_J49 {p : Program} {l : Launch} {e : Env} {s : State} {m : MethodId} {args : Array Value} {below : List Frame} {meth : Method} {c : Code} {g : Geo} (C : Cx p s m args c cX3_lineFor RX3 13 g) (hr : meth.sig.returnType = (some .int)) (hlk : meth.locks = false) {a0 : Nat} {x1 : Int32} {x2 : Int32} {v3 : Int32} {M : Mem} {Q : Int32 → Mem → Prop} (h : f_X3_lineFor_J49 a0 x1 x2 v3 M Q) : E p l e (rmO 2 0 0) s m args below meth c g 13 (MQ below (QcM g (rI Q)) args s 0 0 (gA g)) 0 0 49 [(0, .ref a0), (1, .int x1), (2, .int x2), (3, .int v3)] [] M := by
  unfold f_X3_lineFor_J49 at h
  refine e_aload_n C 0 dX3_lineFor_49 rfl rfl ?_
  obtain ⟨o1, h⟩ := h
  refine e_getI C [3] 9 (fg_of fg_X3_59) o1 dX3_lineFor_50 ?_
  refine e_aload_n C 0 dX3_lineFor_53 rfl rfl ?_
  refine e_getI C [3] 15 (fg_of fg_X3_44) o1 dX3_lineFor_54 ?_
  refine e_isub C dX3_lineFor_57 ?_
  refine e_iconst (v := 0) C dX3_lineFor_58 (by decide) ?_
  refine e_mmax C wd_618 wd_619 wd_12 wd_620 ⟨Nat.le_of_ble_eq_true rfl, Nat.le_of_ble_eq_true rfl⟩ ⟨Nat.le_of_ble_eq_true rfl, Nat.le_of_ble_eq_true rfl⟩ (by first | exact Nat.le_of_ble_eq_true rfl | (simp only [List.map_cons, List.map_nil, va_cat, List.sum_cons, List.sum_nil]; exact Nat.le_of_ble_eq_true rfl)) dX3_lineFor_59 ?_
  refine e_istore (al' := [(5, .int (if ((mI M a0 9) - (mI M a0 15)) < (0 : Int32) then (0 : Int32) else ((mI M a0 9) - (mI M a0 15)))), (0, .ref a0), (1, .int x1), (2, .int x2), (3, .int v3)]) C dX3_lineFor_62 (by decide) rfl ?_
  refine e_iload C 0 dX3_lineFor_64 rfl ?_
  refine e_aload_n C 1 dX3_lineFor_66 rfl rfl ?_
  refine e_getR C [3] 17 (fg_of fg_X3_33) o1 dX3_lineFor_67 ?_
  refine e_iconst (v := 0) C dX3_lineFor_70 (by decide) ?_
  obtain ⟨b2, p3, h⟩ := h
  try rw [p3]
  obtain ⟨o4, h⟩ := h
  refine e_iald C o4 dX3_lineFor_71 ?_
  refine e_iadd C dX3_lineFor_72 ?_
  refine e_aload_n C 1 dX3_lineFor_73 rfl rfl ?_
  refine e_getR C [3] 17 (fg_of fg_X3_33) o1 dX3_lineFor_74 ?_
  rw [p3]
  refine e_iconst (v := 1) C dX3_lineFor_77 (by decide) ?_
  obtain ⟨o5, h⟩ := h
  refine e_iald C o5 dX3_lineFor_78 ?_
  refine e_iadd C dX3_lineFor_79 ?_
  refine e_istore (al' := [(6, .int (((if ((mI M a0 9) - (mI M a0 15)) < (0 : Int32) then (0 : Int32) else ((mI M a0 9) - (mI M a0 15))) + (mI M b2 ((0 : Int32)).toNatClampNeg)) + (mI M b2 ((1 : Int32)).toNatClampNeg))), (5, .int (if ((mI M a0 9) - (mI M a0 15)) < (0 : Int32) then (0 : Int32) else ((mI M a0 9) - (mI M a0 15)))), (0, .ref a0), (1, .int x1), (2, .int x2), (3, .int v3)]) C dX3_lineFor_80 (by decide) rfl ?_
  refine e_aload_n C 2 dX3_lineFor_82 rfl rfl ?_
  refine e_getR C [3] 11 (fg_of fg_X3_68) o1 dX3_lineFor_83 ?_
  refine e_iload C 1 dX3_lineFor_86 rfl ?_
  refine e_aload_n C 2 dX3_lineFor_88 rfl rfl ?_
  refine e_getR C [3] 17 (fg_of fg_X3_33) o1 dX3_lineFor_89 ?_
  rw [p3]
  refine e_iconst (v := 1) C dX3_lineFor_92 (by decide) ?_
  obtain ⟨o6, h⟩ := h
  refine e_iald C o6 dX3_lineFor_93 ?_
  refine e_iadd C dX3_lineFor_94 ?_
  refine e_iload C 0 dX3_lineFor_95 rfl ?_
  obtain ⟨b7, p8, h⟩ := h
  try rw [p8]
  have kk : ∀ (w9 : Int32) (M10 : Mem), (isO M10 a0 [3] ∧ (∃ b12, (mP M10 a0 10) = some b12 ∧ (isA M10 b12 4 x1 ∧ (∃ b15, (mP M10 b12 (x1).toNatClampNeg) = some b15 ∧ (isA M10 b15 0 (0 : Int32) ∧ (isA M10 b12 4 x1 ∧ (∃ b19, (mP M10 b12 (x1).toNatClampNeg) = some b19 ∧ (isA M10 b19 0 (0 : Int32) ∧ (if v3 = 0 then f_X3_lineFor_J145 a0 x1 x2 ((mI M10 b15 ((0 : Int32)).toNatClampNeg) * (((if ((mI M a0 9) - (mI M a0 15)) < (0 : Int32) then (0 : Int32) else ((mI M a0 9) - (mI M a0 15))) + (mI M b2 ((0 : Int32)).toNatClampNeg)) + (mI M b2 ((1 : Int32)).toNatClampNeg))) (((mI M10 b19 ((0 : Int32)).toNatClampNeg) * w9) + x2) M10 Q else (if ((mI M10 b15 ((0 : Int32)).toNatClampNeg) * (((if ((mI M a0 9) - (mI M a0 15)) < (0 : Int32) then (0 : Int32) else ((mI M a0 9) - (mI M a0 15))) + (mI M b2 ((0 : Int32)).toNatClampNeg)) + (mI M b2 ((1 : Int32)).toNatClampNeg))) ≤ (((mI M10 b19 ((0 : Int32)).toNatClampNeg) * w9) + x2) then f_X3_lineFor_J145 a0 x1 x2 ((mI M10 b15 ((0 : Int32)).toNatClampNeg) * (((if ((mI M a0 9) - (mI M a0 15)) < (0 : Int32) then (0 : Int32) else ((mI M a0 9) - (mI M a0 15))) + (mI M b2 ((0 : Int32)).toNatClampNeg)) + (mI M b2 ((1 : Int32)).toNatClampNeg))) (((mI M10 b19 ((0 : Int32)).toNatClampNeg) * w9) + x2) M10 Q else f_X3_lineFor_J146 a0 x1 x2 ((mI M10 b15 ((0 : Int32)).toNatClampNeg) * (((if ((mI M a0 9) - (mI M a0 15)) < (0 : Int32) then (0 : Int32) else ((mI M a0 9) - (mI M a0 15))) + (mI M b2 ((0 : Int32)).toNatClampNeg)) + (mI M b2 ((1 : Int32)).toNatClampNeg))) (((mI M10 b19 ((0 : Int32)).toNatClampNeg) * w9) + x2) (1 : Int32) M10 Q)))))))))) → E p l e (rmO 2 0 0) s m args below meth c g 13 (MQ below (QcM g (rI Q)) args s 0 0 (gA g)) 0 0 100 [(6, .int (((if ((mI M a0 9) - (mI M a0 15)) < (0 : Int32) then (0 : Int32) else ((mI M a0 9) - (mI M a0 15))) + (mI M b2 ((0 : Int32)).toNatClampNeg)) + (mI M b2 ((1 : Int32)).toNatClampNeg))), (5, .int (if ((mI M a0 9) - (mI M a0 15)) < (0 : Int32) then (0 : Int32) else ((mI M a0 9) - (mI M a0 15)))), (0, .ref a0), (1, .int x1), (2, .int x2), (3, .int v3)] [.int w9] M10 := by
    intro w9 M10 h24
    refine e_istore (al' := [(7, .int w9), (6, .int (((if ((mI M a0 9) - (mI M a0 15)) < (0 : Int32) then (0 : Int32) else ((mI M a0 9) - (mI M a0 15))) + (mI M b2 ((0 : Int32)).toNatClampNeg)) + (mI M b2 ((1 : Int32)).toNatClampNeg))), (5, .int (if ((mI M a0 9) - (mI M a0 15)) < (0 : Int32) then (0 : Int32) else ((mI M a0 9) - (mI M a0 15)))), (0, .ref a0), (1, .int x1), (2, .int x2), (3, .int v3)]) C dX3_lineFor_100 (by decide) rfl ?_
    refine e_aload_n C 3 dX3_lineFor_102 rfl rfl ?_
    obtain ⟨o11, h24⟩ := h24
    refine e_getR C [3] 10 (fg_of fg_X3_36) o11 dX3_lineFor_103 ?_
    refine e_iload_n C 4 dX3_lineFor_106 rfl rfl ?_
    obtain ⟨b12, p13, h24⟩ := h24
    try rw [p13]
    obtain ⟨o14, h24⟩ := h24
    refine e_aald C 4 (by decide) o14 dX3_lineFor_107 ?_
    refine e_iconst (v := 0) C dX3_lineFor_108 (by decide) ?_
    obtain ⟨b15, p16, h24⟩ := h24
    try rw [p16]
    obtain ⟨o17, h24⟩ := h24
    refine e_iald C o17 dX3_lineFor_109 ?_
    refine e_iload C 1 dX3_lineFor_110 rfl ?_
    refine e_imul C dX3_lineFor_112 ?_
    refine e_istore (al' := [(8, .int ((mI M10 b15 ((0 : Int32)).toNatClampNeg) * (((if ((mI M a0 9) - (mI M a0 15)) < (0 : Int32) then (0 : Int32) else ((mI M a0 9) - (mI M a0 15))) + (mI M b2 ((0 : Int32)).toNatClampNeg)) + (mI M b2 ((1 : Int32)).toNatClampNeg)))), (7, .int w9), (6, .int (((if ((mI M a0 9) - (mI M a0 15)) < (0 : Int32) then (0 : Int32) else ((mI M a0 9) - (mI M a0 15))) + (mI M b2 ((0 : Int32)).toNatClampNeg)) + (mI M b2 ((1 : Int32)).toNatClampNeg))), (5, .int (if ((mI M a0 9) - (mI M a0 15)) < (0 : Int32) then (0 : Int32) else ((mI M a0 9) - (mI M a0 15)))), (0, .ref a0), (1, .int x1), (2, .int x2), (3, .int v3)]) C dX3_lineFor_113 (by decide) rfl ?_
    refine e_aload_n C 4 dX3_lineFor_115 rfl rfl ?_
    refine e_getR C [3] 10 (fg_of fg_X3_36) o11 dX3_lineFor_116 ?_
    rw [p13]
    refine e_iload_n C 5 dX3_lineFor_119 rfl rfl ?_
    obtain ⟨o18, h24⟩ := h24
    refine e_aald C 4 (by decide) o18 dX3_lineFor_120 ?_
    refine e_iconst (v := 0) C dX3_lineFor_121 (by decide) ?_
    obtain ⟨b19, p20, h24⟩ := h24
    try rw [p20]
    obtain ⟨o21, h24⟩ := h24
    refine e_iald C o21 dX3_lineFor_122 ?_
    refine e_iload C 1 dX3_lineFor_123 rfl ?_
    refine e_imul C dX3_lineFor_125 ?_
    refine e_iload_n C 6 dX3_lineFor_126 rfl rfl ?_
    refine e_iadd C dX3_lineFor_127 ?_
    refine e_istore (al' := [(9, .int (((mI M10 b19 ((0 : Int32)).toNatClampNeg) * w9) + x2)), (8, .int ((mI M10 b15 ((0 : Int32)).toNatClampNeg) * (((if ((mI M a0 9) - (mI M a0 15)) < (0 : Int32) then (0 : Int32) else ((mI M a0 9) - (mI M a0 15))) + (mI M b2 ((0 : Int32)).toNatClampNeg)) + (mI M b2 ((1 : Int32)).toNatClampNeg)))), (7, .int w9), (6, .int (((if ((mI M a0 9) - (mI M a0 15)) < (0 : Int32) then (0 : Int32) else ((mI M a0 9) - (mI M a0 15))) + (mI M b2 ((0 : Int32)).toNatClampNeg)) + (mI M b2 ((1 : Int32)).toNatClampNeg))), (5, .int (if ((mI M a0 9) - (mI M a0 15)) < (0 : Int32) then (0 : Int32) else ((mI M a0 9) - (mI M a0 15)))), (0, .ref a0), (1, .int x1), (2, .int x2), (3, .int v3)]) C dX3_lineFor_128 (by decide) rfl ?_
    refine e_iload_n C 8 dX3_lineFor_130 rfl rfl ?_
    refine e_if_eq (tgt := 145) C dX3_lineFor_131 (by decide) (fun q22 => ?_) (fun q22 => ?_)
    · replace h24 := ite_t h24 q22
      refine e_pick [5, 6, 7, 1, 0] rfl ?_
      exact w_X3_lineFor_J145 C hr hlk h24
    · replace h24 := ite_f h24 q22
      refine e_iload C 0 dX3_lineFor_134 rfl ?_
      refine e_iload C 1 dX3_lineFor_136 rfl ?_
      refine e_icmp_ge (tgt := 145) C dX3_lineFor_138 (by decide) (fun q23 => ?_) (fun q23 => ?_)
      · replace h24 := ite_t h24 q23
        refine e_pick [5, 6, 7, 1, 0] rfl ?_
        exact w_X3_lineFor_J145 C hr hlk h24
      · replace h24 := ite_f h24 q23
        refine e_iconst (v := 1) C dX3_lineFor_141 (by decide) ?_
        refine e_goto (tgt := 146) C dX3_lineFor_142 (by decide) ?_
        refine e_pick [5, 6, 7, 1, 0] rfl ?_
        exact w_X3_lineFor_J146 C hr hlk h24
  rcases h with ⟨h0, h⟩ | ⟨h0, h⟩ | ⟨h0, h⟩ | ⟨h0, h⟩ | ⟨h0, h⟩ | ⟨h0, h⟩ | ⟨h0, h⟩
  · exact e_callV (as := [.int ((if ((mI M a0 9) - (mI M a0 15)) < (0 : Int32) then (0 : Int32) else ((mI M a0 9) - (mI M a0 15))) + (mI M b2 ((1 : Int32)).toNatClampNeg)), .int (((if ((mI M a0 9) - (mI M a0 15)) < (0 : Int32) then (0 : Int32) else ((mI M a0 9) - (mI M a0 15))) + (mI M b2 ((0 : Int32)).toNatClampNeg)) + (mI M b2 ((1 : Int32)).toNatClampNeg))]) C wb_X5_aheadOfPaying wv_X3_144 (ci := 5) rfl rfl h0 (m_X5_aheadOfPaying h) rfl ⟨Nat.le_of_ble_eq_true rfl, Nat.le_of_ble_eq_true rfl⟩ ⟨Nat.le_of_ble_eq_true rfl, Nat.le_of_ble_eq_true rfl⟩ (by first | exact Nat.le_of_ble_eq_true rfl | (simp only [List.map_cons, List.map_nil, va_cat, List.sum_cons, List.sum_nil]; exact Nat.le_of_ble_eq_true rfl)) dX3_lineFor_97 (kI kk)
  · exact e_callU (as := [.int ((if ((mI M a0 9) - (mI M a0 15)) < (0 : Int32) then (0 : Int32) else ((mI M a0 9) - (mI M a0 15))) + (mI M b2 ((1 : Int32)).toNatClampNeg)), .int (((if ((mI M a0 9) - (mI M a0 15)) < (0 : Int32) then (0 : Int32) else ((mI M a0 9) - (mI M a0 15))) + (mI M b2 ((0 : Int32)).toNatClampNeg)) + (mI M b2 ((1 : Int32)).toNatClampNeg))]) C wb_X1_aheadOfPaying wu_X3_144_1 (ci := 1) rfl h0 (m_X1_aheadOfPaying h) rfl ⟨Nat.le_of_ble_eq_true rfl, Nat.le_of_ble_eq_true rfl⟩ ⟨Nat.le_of_ble_eq_true rfl, Nat.le_of_ble_eq_true rfl⟩ (by first | exact Nat.le_of_ble_eq_true rfl | (simp only [List.map_cons, List.map_nil, va_cat, List.sum_cons, List.sum_nil]; exact Nat.le_of_ble_eq_true rfl)) dX3_lineFor_97 (kI kk)
  · exact e_callU (as := [.int ((if ((mI M a0 9) - (mI M a0 15)) < (0 : Int32) then (0 : Int32) else ((mI M a0 9) - (mI M a0 15))) + (mI M b2 ((1 : Int32)).toNatClampNeg)), .int (((if ((mI M a0 9) - (mI M a0 15)) < (0 : Int32) then (0 : Int32) else ((mI M a0 9) - (mI M a0 15))) + (mI M b2 ((0 : Int32)).toNatClampNeg)) + (mI M b2 ((1 : Int32)).toNatClampNeg))]) C wb_X5_aheadOfPaying wu_X3_144_2 (ci := 2) rfl h0 (m_X5_aheadOfPaying h) rfl ⟨Nat.le_of_ble_eq_true rfl, Nat.le_of_ble_eq_true rfl⟩ ⟨Nat.le_of_ble_eq_true rfl, Nat.le_of_ble_eq_true rfl⟩ (by first | exact Nat.le_of_ble_eq_true rfl | (simp only [List.map_cons, List.map_nil, va_cat, List.sum_cons, List.sum_nil]; exact Nat.le_of_ble_eq_true rfl)) dX3_lineFor_97 (kI kk)
  · exact e_callU (as := [.int ((if ((mI M a0 9) - (mI M a0 15)) < (0 : Int32) then (0 : Int32) else ((mI M a0 9) - (mI M a0 15))) + (mI M b2 ((1 : Int32)).toNatClampNeg)), .int (((if ((mI M a0 9) - (mI M a0 15)) < (0 : Int32) then (0 : Int32) else ((mI M a0 9) - (mI M a0 15))) + (mI M b2 ((0 : Int32)).toNatClampNeg)) + (mI M b2 ((1 : Int32)).toNatClampNeg))]) C wb_X1_aheadOfPaying wu_X3_144_4 (ci := 4) rfl h0 (m_X1_aheadOfPaying h) rfl ⟨Nat.le_of_ble_eq_true rfl, Nat.le_of_ble_eq_true rfl⟩ ⟨Nat.le_of_ble_eq_true rfl, Nat.le_of_ble_eq_true rfl⟩ (by first | exact Nat.le_of_ble_eq_true rfl | (simp only [List.map_cons, List.map_nil, va_cat, List.sum_cons, List.sum_nil]; exact Nat.le_of_ble_eq_true rfl)) dX3_lineFor_97 (kI kk)
  · exact e_callU (as := [.int ((if ((mI M a0 9) - (mI M a0 15)) < (0 : Int32) then (0 : Int32) else ((mI M a0 9) - (mI M a0 15))) + (mI M b2 ((1 : Int32)).toNatClampNeg)), .int (((if ((mI M a0 9) - (mI M a0 15)) < (0 : Int32) then (0 : Int32) else ((mI M a0 9) - (mI M a0 15))) + (mI M b2 ((0 : Int32)).toNatClampNeg)) + (mI M b2 ((1 : Int32)).toNatClampNeg))]) C wb_X7_aheadOfPaying wu_X3_144_6 (ci := 6) rfl h0 (m_X7_aheadOfPaying h) rfl ⟨Nat.le_of_ble_eq_true rfl, Nat.le_of_ble_eq_true rfl⟩ ⟨Nat.le_of_ble_eq_true rfl, Nat.le_of_ble_eq_true rfl⟩ (by first | exact Nat.le_of_ble_eq_true rfl | (simp only [List.map_cons, List.map_nil, va_cat, List.sum_cons, List.sum_nil]; exact Nat.le_of_ble_eq_true rfl)) dX3_lineFor_97 (kI kk)
  · exact e_callU (as := [.int ((if ((mI M a0 9) - (mI M a0 15)) < (0 : Int32) then (0 : Int32) else ((mI M a0 9) - (mI M a0 15))) + (mI M b2 ((1 : Int32)).toNatClampNeg)), .int (((if ((mI M a0 9) - (mI M a0 15)) < (0 : Int32) then (0 : Int32) else ((mI M a0 9) - (mI M a0 15))) + (mI M b2 ((0 : Int32)).toNatClampNeg)) + (mI M b2 ((1 : Int32)).toNatClampNeg))]) C wb_X7_aheadOfPaying wu_X3_144_7 (ci := 7) rfl h0 (m_X7_aheadOfPaying h) rfl ⟨Nat.le_of_ble_eq_true rfl, Nat.le_of_ble_eq_true rfl⟩ ⟨Nat.le_of_ble_eq_true rfl, Nat.le_of_ble_eq_true rfl⟩ (by first | exact Nat.le_of_ble_eq_true rfl | (simp only [List.map_cons, List.map_nil, va_cat, List.sum_cons, List.sum_nil]; exact Nat.le_of_ble_eq_true rfl)) dX3_lineFor_97 (kI kk)
  · exact e_callU (as := [.int ((if ((mI M a0 9) - (mI M a0 15)) < (0 : Int32) then (0 : Int32) else ((mI M a0 9) - (mI M a0 15))) + (mI M b2 ((1 : Int32)).toNatClampNeg)), .int (((if ((mI M a0 9) - (mI M a0 15)) < (0 : Int32) then (0 : Int32) else ((mI M a0 9) - (mI M a0 15))) + (mI M b2 ((0 : Int32)).toNatClampNeg)) + (mI M b2 ((1 : Int32)).toNatClampNeg))]) C wb_X1_aheadOfPaying wu_X3_144_9 (ci := 9) rfl h0 (m_X1_aheadOfPaying h) rfl ⟨Nat.le_of_ble_eq_true rfl, Nat.le_of_ble_eq_true rfl⟩ ⟨Nat.le_of_ble_eq_true rfl, Nat.le_of_ble_eq_true rfl⟩ (by first | exact Nat.le_of_ble_eq_true rfl | (simp only [List.map_cons, List.map_nil, va_cat, List.sum_cons, List.sum_nil]; exact Nat.le_of_ble_eq_true rfl)) dX3_lineFor_97 (kI kk)
set_option maxHeartbeats 4000000 in
set_option maxRecDepth 100000 in
theorem w_X3_lineFor_J17 {p : Program} {l : Launch} {e : Env} {s : State} {m : MethodId} {args : Array Value} {below : List Frame} {meth : Method} {c : Code} {g : Geo} (C : Cx p s m args c cX3_lineFor RX3 13 g) (hr : meth.sig.returnType = (some .int)) (hlk : meth.locks = false) {a0 : Nat} {x1 : Int32} {x2 : Int32} {t0 : Int32} {M : Mem} {Q : Int32 → Mem → Prop} (h : f_X3_lineFor_J17 a0 x1 x2 t0 M Q) : E p l e (rmO 2 0 0) s m args below meth c g 13 (MQ below (QcM g (rI Q)) args s 0 0 (gA g)) 0 0 17 [(0, .ref a0), (1, .int x1), (2, .int x2)] [.int t0] M := by
  unfold f_X3_lineFor_J17 at h
  refine e_istore_n (al' := [(3, .int t0), (0, .ref a0), (1, .int x1), (2, .int x2)]) C dX3_lineFor_17 rfl (by decide) rfl ?_
  refine e_aload_n C 1 dX3_lineFor_18 rfl rfl ?_
  obtain ⟨o1, h⟩ := h
  refine e_getR C [3] 11 (fg_of fg_X3_68) o1 dX3_lineFor_19 ?_
  refine e_aload_n C 1 dX3_lineFor_22 rfl rfl ?_
  refine e_getI C [3] 6 (fg_of fg_X3_82) o1 dX3_lineFor_23 ?_
  obtain ⟨b2, p3, h⟩ := h
  try rw [p3]
  have kk : ∀ (w4 : Int32) (M5 : Mem), (if w4 < 0 then f_X3_lineFor_J49 a0 x1 x2 t0 M5 Q else (if w4 = (1 : Int32) then (if t0 = 0 then f_X3_lineFor_J49 a0 x1 x2 t0 M5 Q else Q w4 M5) else Q w4 M5)) → E p l e (rmO 2 0 0) s m args below meth c g 13 (MQ below (QcM g (rI Q)) args s 0 0 (gA g)) 0 0 29 [(3, .int t0), (0, .ref a0), (1, .int x1), (2, .int x2)] [.int w4] M5 := by
    intro w4 M5 h9
    refine e_istore (al' := [(4, .int w4), (3, .int t0), (0, .ref a0), (1, .int x1), (2, .int x2)]) C dX3_lineFor_29 (by decide) rfl ?_
    refine e_iload C 0 dX3_lineFor_31 rfl ?_
    refine e_if_lt (tgt := 49) C dX3_lineFor_33 (by decide) (fun q6 => ?_) (fun q6 => ?_)
    · replace h9 := ite_t h9 q6
      refine e_pick [2, 3, 4, 1] rfl ?_
      exact w_X3_lineFor_J49 C hr hlk h9
    · replace h9 := ite_f h9 q6
      refine e_iload C 0 dX3_lineFor_36 rfl ?_
      refine e_iconst (v := 1) C dX3_lineFor_38 (by decide) ?_
      refine e_icmp_ne (tgt := 46) C dX3_lineFor_39 (by decide) (fun q7 => ?_) (fun q7 => ?_)
      · replace h9 := ite_f h9 q7
        refine e_iload C 0 dX3_lineFor_46 rfl ?_
        exact e_iret C hr hlk (Nat.le_refl _) (Nat.le_refl _) dX3_lineFor_48 ⟨_, rfl, h9⟩
      · replace h9 := ite_t h9 q7
        refine e_iload_n C 1 dX3_lineFor_42 rfl rfl ?_
        refine e_if_eq (tgt := 49) C dX3_lineFor_43 (by decide) (fun q8 => ?_) (fun q8 => ?_)
        · replace h9 := ite_t h9 q8
          refine e_pick [2, 3, 4, 1] rfl ?_
          exact w_X3_lineFor_J49 C hr hlk h9
        · replace h9 := ite_f h9 q8
          refine e_iload C 0 dX3_lineFor_46 rfl ?_
          exact e_iret C hr hlk (Nat.le_refl _) (Nat.le_refl _) dX3_lineFor_48 ⟨_, rfl, h9⟩
  rcases h with ⟨h0, h⟩ | ⟨h0, h⟩ | ⟨h0, h⟩ | ⟨h0, h⟩ | ⟨h0, h⟩ | ⟨h0, h⟩ | ⟨h0, h⟩
  · exact e_callV (as := [.int (mI M a0 6)]) C wb_X5_lineTold wv_X3_141 (ci := 5) rfl rfl h0 (m_X5_lineTold h) rfl ⟨Nat.le_of_ble_eq_true rfl, Nat.le_of_ble_eq_true rfl⟩ ⟨Nat.le_of_ble_eq_true rfl, Nat.le_of_ble_eq_true rfl⟩ (by first | exact Nat.le_of_ble_eq_true rfl | (simp only [List.map_cons, List.map_nil, va_cat, List.sum_cons, List.sum_nil]; exact Nat.le_of_ble_eq_true rfl)) dX3_lineFor_26 (kI kk)
  · exact e_callU (as := [.int (mI M a0 6)]) C wb_X5_lineTold wu_X3_141_1 (ci := 1) rfl h0 (m_X5_lineTold h) rfl ⟨Nat.le_of_ble_eq_true rfl, Nat.le_of_ble_eq_true rfl⟩ ⟨Nat.le_of_ble_eq_true rfl, Nat.le_of_ble_eq_true rfl⟩ (by first | exact Nat.le_of_ble_eq_true rfl | (simp only [List.map_cons, List.map_nil, va_cat, List.sum_cons, List.sum_nil]; exact Nat.le_of_ble_eq_true rfl)) dX3_lineFor_26 (kI kk)
  · exact e_callU (as := [.int (mI M a0 6)]) C wb_X5_lineTold wu_X3_141_2 (ci := 2) rfl h0 (m_X5_lineTold h) rfl ⟨Nat.le_of_ble_eq_true rfl, Nat.le_of_ble_eq_true rfl⟩ ⟨Nat.le_of_ble_eq_true rfl, Nat.le_of_ble_eq_true rfl⟩ (by first | exact Nat.le_of_ble_eq_true rfl | (simp only [List.map_cons, List.map_nil, va_cat, List.sum_cons, List.sum_nil]; exact Nat.le_of_ble_eq_true rfl)) dX3_lineFor_26 (kI kk)
  · exact e_callU (as := [.int (mI M a0 6)]) C wb_X5_lineTold wu_X3_141_4 (ci := 4) rfl h0 (m_X5_lineTold h) rfl ⟨Nat.le_of_ble_eq_true rfl, Nat.le_of_ble_eq_true rfl⟩ ⟨Nat.le_of_ble_eq_true rfl, Nat.le_of_ble_eq_true rfl⟩ (by first | exact Nat.le_of_ble_eq_true rfl | (simp only [List.map_cons, List.map_nil, va_cat, List.sum_cons, List.sum_nil]; exact Nat.le_of_ble_eq_true rfl)) dX3_lineFor_26 (kI kk)
  · exact e_callU (as := [.int (mI M a0 6)]) C wb_X5_lineTold wu_X3_141_6 (ci := 6) rfl h0 (m_X5_lineTold h) rfl ⟨Nat.le_of_ble_eq_true rfl, Nat.le_of_ble_eq_true rfl⟩ ⟨Nat.le_of_ble_eq_true rfl, Nat.le_of_ble_eq_true rfl⟩ (by first | exact Nat.le_of_ble_eq_true rfl | (simp only [List.map_cons, List.map_nil, va_cat, List.sum_cons, List.sum_nil]; exact Nat.le_of_ble_eq_true rfl)) dX3_lineFor_26 (kI kk)
  · exact e_callU (as := [.int (mI M a0 6)]) C wb_X5_lineTold wu_X3_141_7 (ci := 7) rfl h0 (m_X5_lineTold h) rfl ⟨Nat.le_of_ble_eq_true rfl, Nat.le_of_ble_eq_true rfl⟩ ⟨Nat.le_of_ble_eq_true rfl, Nat.le_of_ble_eq_true rfl⟩ (by first | exact Nat.le_of_ble_eq_true rfl | (simp only [List.map_cons, List.map_nil, va_cat, List.sum_cons, List.sum_nil]; exact Nat.le_of_ble_eq_true rfl)) dX3_lineFor_26 (kI kk)
  · exact e_callU (as := [.int (mI M a0 6)]) C wb_X9_lineTold wu_X3_141_9 (ci := 9) rfl h0 (m_X9_lineTold h) rfl ⟨Nat.le_of_ble_eq_true rfl, Nat.le_of_ble_eq_true rfl⟩ ⟨Nat.le_of_ble_eq_true rfl, Nat.le_of_ble_eq_true rfl⟩ (by first | exact Nat.le_of_ble_eq_true rfl | (simp only [List.map_cons, List.map_nil, va_cat, List.sum_cons, List.sum_nil]; exact Nat.le_of_ble_eq_true rfl)) dX3_lineFor_26 (kI kk)
set_option maxHeartbeats 4000000 in
set_option maxRecDepth 100000 in
theorem w_X3_lineFor {p : Program} {l : Launch} {e : Env} {s : State} {m : MethodId} {args : Array Value} {below : List Frame} {meth : Method} {c : Code} {g : Geo} (C : Cx p s m args c cX3_lineFor RX3 13 g) (hr : meth.sig.returnType = (some .int)) (hlk : meth.locks = false) {a0 : Nat} {x1 : Int32} {x2 : Int32} {M : Mem} {Q : Int32 → Mem → Prop} (h : f_X3_lineFor a0 x1 x2 M Q) : E p l e (rmO 2 0 0) s m args below meth c g 13 (MQ below (QcM g (rI Q)) args s 0 0 (gA g)) 0 0 0 [(0, .ref a0), (1, .int x1), (2, .int x2)] [] M := by
  unfold f_X3_lineFor at h
  refine e_iload_n C 2 dX3_lineFor_0 rfl rfl ?_
  refine e_aload_n C 0 dX3_lineFor_1 rfl rfl ?_
  obtain ⟨o1, h⟩ := h
  refine e_getR C [3] 10 (fg_of fg_X3_36) o1 dX3_lineFor_2 ?_
  refine e_iload_n C 1 dX3_lineFor_5 rfl rfl ?_
  obtain ⟨b2, p3, h⟩ := h
  try rw [p3]
  obtain ⟨o4, h⟩ := h
  refine e_aald C 4 (by decide) o4 dX3_lineFor_6 ?_
  refine e_iconst (v := 2) C dX3_lineFor_7 (by decide) ?_
  obtain ⟨b5, p6, h⟩ := h
  try rw [p6]
  obtain ⟨o7, h⟩ := h
  refine e_iald C o7 dX3_lineFor_8 ?_
  refine e_icmp_gt (tgt := 16) C dX3_lineFor_9 (by decide) (fun q8 => ?_) (fun q8 => ?_)
  · replace h := ite_t h q8
    refine e_iconst (v := 0) C dX3_lineFor_16 (by decide) ?_
    exact w_X3_lineFor_J17 C hr hlk h
  · replace h := ite_f h q8
    refine e_iconst (v := 1) C dX3_lineFor_12 (by decide) ?_
    refine e_goto (tgt := 17) C dX3_lineFor_13 (by decide) ?_
    exact w_X3_lineFor_J17 C hr hlk h
theorem m_X3_lineFor  {a0 : Nat} {x1 : Int32} {x2 : Int32} {M : Mem} {Q : Int32 → Mem → Prop} (h : f_X3_lineFor a0 x1 x2 M Q) : Con yX3_lineFor cX3_lineFor 13 (some .int) 2 0 0 [.ref a0, .int x1, .int x2] M (rI Q) :=
  con_of2 (al := [(0, .ref a0), (1, .int x1), (2, .int x2)]) (by decide) (by exact Nat.le_of_ble_eq_true rfl) (by rfl) (fun p l e s m args below meth c g C hr hlk _ => w_X3_lineFor C hr hlk h)
set_option maxHeartbeats 4000000 in
set_option maxRecDepth 100000 in
theorem w_X3_timeOf {p : Program} {l : Launch} {e : Env} {s : State} {m : MethodId} {args : Array Value} {below : List Frame} {meth : Method} {c : Code} {g : Geo} (C : Cx p s m args c cX3_timeOf RX3 2 g) (hr : meth.sig.returnType = (some .int)) (hlk : meth.locks = false) {a0 : Nat} {x1 : Int32} {M : Mem} {Q : Int32 → Mem → Prop} (h : f_X3_timeOf a0 x1 M Q) : E p l e (rmO 1 0 0) s m args below meth c g 2 (MQ below (QcM g (rI Q)) args s 0 0 (gA g)) 0 0 0 [(0, .ref a0), (1, .int x1)] [] M := by
  unfold f_X3_timeOf at h
  refine e_aload_n C 0 dX3_timeOf_0 rfl rfl ?_
  obtain ⟨o1, h⟩ := h
  refine e_getR C [3] 10 (fg_of fg_X3_36) o1 dX3_timeOf_1 ?_
  refine e_iload_n C 1 dX3_timeOf_4 rfl rfl ?_
  obtain ⟨b2, p3, h⟩ := h
  try rw [p3]
  obtain ⟨o4, h⟩ := h
  refine e_aald C 4 (by decide) o4 dX3_timeOf_5 ?_
  refine e_iconst (v := 3) C dX3_timeOf_6 (by decide) ?_
  obtain ⟨b5, p6, h⟩ := h
  try rw [p6]
  obtain ⟨o7, h⟩ := h
  refine e_iald C o7 dX3_timeOf_7 ?_
  refine e_aload_n C 0 dX3_timeOf_8 rfl rfl ?_
  refine e_getI C [3] 14 (fg_of fg_X3_79) o1 dX3_timeOf_9 ?_
  refine e_iadd C dX3_timeOf_12 ?_
  exact e_iret C hr hlk (Nat.le_refl _) (Nat.le_refl _) dX3_timeOf_13 ⟨_, rfl, h⟩
theorem m_X3_timeOf  {a0 : Nat} {x1 : Int32} {M : Mem} {Q : Int32 → Mem → Prop} (h : f_X3_timeOf a0 x1 M Q) : Con yX3_timeOf cX3_timeOf 2 (some .int) 1 0 0 [.ref a0, .int x1] M (rI Q) :=
  con_of2 (al := [(0, .ref a0), (1, .int x1)]) (by decide) (by exact Nat.le_of_ble_eq_true rfl) (by rfl) (fun p l e s m args below meth c g C hr hlk _ => w_X3_timeOf C hr hlk h)
set_option maxHeartbeats 4000000 in
set_option maxRecDepth 100000 in
theorem w_X3_enter_J91 {p : Program} {l : Launch} {e : Env} {s : State} {m : MethodId} {args : Array Value} {below : List Frame} {meth : Method} {c : Code} {g : Geo} (C : Cx p s m args c cX3_enter RX3 4 g) (hr : meth.sig.returnType = none) (hlk : meth.locks = false) {a0 : Nat} {x1 : Int32} {v3 : Int32} {t0 : Int32} {t1 : Int32} {t2 : Option Nat} {M : Mem} {Q : Mem → Prop} (h : f_X3_enter_J91 a0 x1 v3 t0 t1 t2 M Q) : E p l e (rmO 3 0 0) s m args below meth c g 4 (MQ below (QcM g (rV Q)) args s 0 0 (gA g)) 0 0 91 [(0, .ref a0), (1, .int x1), (3, .int v3)] [.int t0, .int t1, va_rf t2] M := by
  unfold f_X3_enter_J91 at h
  obtain ⟨b1, rfl, h⟩ := h
  obtain ⟨o3, h⟩ := h
  refine e_iast C o3 dX3_enter_91 ?_
  refine nmE (fun M4 e5 => ?_)
  replace h := h M4 e5
  refine e_aload_n C 0 dX3_enter_92 rfl rfl ?_
  obtain ⟨o6, h⟩ := h
  refine e_getR C [3] 4 (fg_of fg_X3_24) o6 dX3_enter_93 ?_
  refine e_aload_n C 0 dX3_enter_96 rfl rfl ?_
  refine e_getI C [3] 6 (fg_of fg_X3_82) o6 dX3_enter_97 ?_
  refine e_iconst (v := -1) C dX3_enter_100 (by decide) ?_
  obtain ⟨b7, p8, h⟩ := h
  try rw [p8]
  obtain ⟨o9, h⟩ := h
  refine e_iast C o9 dX3_enter_101 ?_
  refine nmE (fun M10 e11 => ?_)
  replace h := h M10 e11
  have o12 : isO M10 a0 [3] := by rw [e11]; exact o6
  have p13 : mP M10 a0 4 = some b7 := by rw [e11]; exact p8
  refine e_aload_n C 0 dX3_enter_102 rfl rfl ?_
  refine e_dup C rfl dX3_enter_103 ?_
  refine e_getI C [3] 6 (fg_of fg_X3_82) o12 dX3_enter_104 ?_
  refine e_iconst (v := 1) C dX3_enter_107 (by decide) ?_
  refine e_iadd C dX3_enter_108 ?_
  refine e_putI C [3] 6 false (fun z => by cases z) fp_X3_82 o12 dX3_enter_109 ?_
  refine nmE (fun M14 e15 => ?_)
  replace h := h M14 e15
  have o16 : isO M14 a0 [3] := by rw [e15]; exact o12
  have p17 : mP M14 a0 4 = some b7 := by rw [e15]; exact p13
  refine e_iload_n C 2 dX3_enter_112 rfl rfl ?_
  refine e_iconst (v := 2) C dX3_enter_113 (by decide) ?_
  refine e_icmp_eq (tgt := 141) C dX3_enter_114 (by decide) (fun q18 => ?_) (fun q18 => ?_)
  · replace h := ite_t h q18
    exact e_vret C hr hlk (Nat.le_refl _) (Nat.le_refl _) dX3_enter_141 ⟨rfl, h⟩
  · replace h := ite_f h q18
    refine e_aload_n C 0 dX3_enter_117 rfl rfl ?_
    refine e_getR C [3] 16 (fg_of fg_X3_30) o16 dX3_enter_118 ?_
    refine e_iload_n C 2 dX3_enter_121 rfl rfl ?_
    refine e_dup2 C rfl (va_cat _) dX3_enter_122 ?_
    obtain ⟨b19, p20, h⟩ := h
    try rw [p20]
    obtain ⟨o21, h⟩ := h
    refine e_iald C o21 dX3_enter_123 ?_
    refine e_iconst (v := 1) C dX3_enter_124 (by decide) ?_
    refine e_iadd C dX3_enter_125 ?_
    obtain ⟨o22, h⟩ := h
    refine e_iast C o22 dX3_enter_126 ?_
    refine nmE (fun M23 e24 => ?_)
    replace h := h M23 e24
    have o25 : isO M23 a0 [3] := by rw [e24]; exact o16
    have p26 : mP M23 a0 4 = some b7 := by rw [e24]; exact p17
    have p27 : mP M23 a0 16 = some b19 := by rw [e24]; exact p20
    refine e_aload_n C 0 dX3_enter_127 rfl rfl ?_
    refine e_getR C [3] 17 (fg_of fg_X3_33) o25 dX3_enter_128 ?_
    refine e_iload_n C 2 dX3_enter_131 rfl rfl ?_
    refine e_dup2 C rfl (va_cat _) dX3_enter_132 ?_
    obtain ⟨b28, p29, h⟩ := h
    try rw [p29]
    obtain ⟨o30, h⟩ := h
    refine e_iald C o30 dX3_enter_133 ?_
    refine e_aload_n C 0 dX3_enter_134 rfl rfl ?_
    refine e_iload_n C 1 dX3_enter_135 rfl rfl ?_
    refine e_callV (as := [.int x1]) C wb_X3_timeOf wv_X3_137 (ci := 3) rfl rfl (isO_1 o25) (m_X3_timeOf h) rfl ⟨Nat.le_of_ble_eq_true rfl, Nat.le_of_ble_eq_true rfl⟩ ⟨Nat.le_of_ble_eq_true rfl, Nat.le_of_ble_eq_true rfl⟩ (by first | exact Nat.le_of_ble_eq_true rfl | (simp only [List.map_cons, List.map_nil, va_cat, List.sum_cons, List.sum_nil]; exact Nat.le_of_ble_eq_true rfl)) dX3_enter_136 (kI (fun w31 M32 h36 => ?_))
    refine e_iadd C dX3_enter_139 ?_
    obtain ⟨o33, h36⟩ := h36
    refine e_iast C o33 dX3_enter_140 ?_
    refine nmE (fun M34 e35 => ?_)
    replace h36 := h36 M34 e35
    exact e_vret C hr hlk (Nat.le_refl _) (Nat.le_refl _) dX3_enter_141 ⟨rfl, h36⟩
set_option maxHeartbeats 4000000 in
set_option maxRecDepth 100000 in
theorem w_X3_enter {p : Program} {l : Launch} {e : Env} {s : State} {m : MethodId} {args : Array Value} {below : List Frame} {meth : Method} {c : Code} {g : Geo} (C : Cx p s m args c cX3_enter RX3 4 g) (hr : meth.sig.returnType = none) (hlk : meth.locks = false) {a0 : Nat} {x1 : Int32} {M : Mem} {Q : Mem → Prop} (h : f_X3_enter a0 x1 M Q) : E p l e (rmO 3 0 0) s m args below meth c g 4 (MQ below (QcM g (rV Q)) args s 0 0 (gA g)) 0 0 0 [(0, .ref a0), (1, .int x1)] [] M := by
  unfold f_X3_enter at h
  refine e_aload_n C 0 dX3_enter_0 rfl rfl ?_
  obtain ⟨o1, h⟩ := h
  refine e_getR C [3] 11 (fg_of fg_X3_68) o1 dX3_enter_1 ?_
  refine e_aload_n C 0 dX3_enter_4 rfl rfl ?_
  refine e_getR C [3] 11 (fg_of fg_X3_68) o1 dX3_enter_5 ?_
  refine e_aload_n C 0 dX3_enter_8 rfl rfl ?_
  refine e_getI C [3] 13 (fg_of fg_X3_76) o1 dX3_enter_9 ?_
  refine e_aload_n C 0 dX3_enter_12 rfl rfl ?_
  refine e_getR C [3] 16 (fg_of fg_X3_30) o1 dX3_enter_13 ?_
  refine e_iconst (v := 1) C dX3_enter_16 (by decide) ?_
  obtain ⟨b2, p3, h⟩ := h
  try rw [p3]
  obtain ⟨o4, h⟩ := h
  refine e_iald C o4 dX3_enter_17 ?_
  obtain ⟨b5, p6, h⟩ := h
  try rw [p6]
  have kk : ∀ (w7 : Int32) (M8 : Mem), (isO M8 a0 [3] ∧ (∃ b10, (mP M8 a0 10) = some b10 ∧ (isA M8 b10 4 x1 ∧ (∃ b13, (mP M8 b10 (x1).toNatClampNeg) = some b13 ∧ (isA M8 b13 0 (2 : Int32) ∧ (v_X5_due b5 w7 (mI M8 b13 ((2 : Int32)).toNatClampNeg) M8 (fun w16 M17 => (isO M17 a0 [3] ∧ (f_X3_lineFor a0 x1 w16 M17 (fun w18 M19 => (isO M19 a0 [3] ∧ (∃ b22, (mP M19 a0 0) = some b22 ∧ (isA M19 b22 0 (mI M19 a0 6) ∧ (∀ M25, M25 = sI M19 b22 ((mI M19 a0 6)).toNatClampNeg x1 → (∃ b29, (mP M25 a0 1) = some b29 ∧ (isA M25 b29 0 (mI M25 a0 6) ∧ (∀ M32, M32 = sI M25 b29 ((mI M25 a0 6)).toNatClampNeg (mI M25 a0 15) → (∃ b37, (mP M32 a0 2) = some b37 ∧ (isA M32 b37 0 (mI M32 a0 6) ∧ (∀ M40, M40 = sI M32 b37 ((mI M32 a0 6)).toNatClampNeg w18 → (if w18 = (1 : Int32) then f_X3_enter_J91 a0 x1 w18 w16 (mI M40 a0 6) (mP M40 a0 3) M40 Q else f_X3_enter_J91 a0 x1 w18 (0 : Int32) (mI M40 a0 6) (mP M40 a0 3) M40 Q))))))))))))))))))))) → E p l e (rmO 3 0 0) s m args below meth c g 4 (MQ below (QcM g (rV Q)) args s 0 0 (gA g)) 0 0 21 [(0, .ref a0), (1, .int x1)] [.int w7, .ref b5] M8 := by
    intro w7 M8 h49
    refine e_aload_n C 0 dX3_enter_21 rfl rfl ?_
    obtain ⟨o9, h49⟩ := h49
    refine e_getR C [3] 10 (fg_of fg_X3_36) o9 dX3_enter_22 ?_
    refine e_iload_n C 1 dX3_enter_25 rfl rfl ?_
    obtain ⟨b10, p11, h49⟩ := h49
    try rw [p11]
    obtain ⟨o12, h49⟩ := h49
    refine e_aald C 4 (by decide) o12 dX3_enter_26 ?_
    refine e_iconst (v := 2) C dX3_enter_27 (by decide) ?_
    obtain ⟨b13, p14, h49⟩ := h49
    try rw [p14]
    obtain ⟨o15, h49⟩ := h49
    refine e_iald C o15 dX3_enter_28 ?_
    have kk : ∀ (w16 : Int32) (M17 : Mem), (isO M17 a0 [3] ∧ (f_X3_lineFor a0 x1 w16 M17 (fun w18 M19 => (isO M19 a0 [3] ∧ (∃ b22, (mP M19 a0 0) = some b22 ∧ (isA M19 b22 0 (mI M19 a0 6) ∧ (∀ M25, M25 = sI M19 b22 ((mI M19 a0 6)).toNatClampNeg x1 → (∃ b29, (mP M25 a0 1) = some b29 ∧ (isA M25 b29 0 (mI M25 a0 6) ∧ (∀ M32, M32 = sI M25 b29 ((mI M25 a0 6)).toNatClampNeg (mI M25 a0 15) → (∃ b37, (mP M32 a0 2) = some b37 ∧ (isA M32 b37 0 (mI M32 a0 6) ∧ (∀ M40, M40 = sI M32 b37 ((mI M32 a0 6)).toNatClampNeg w18 → (if w18 = (1 : Int32) then f_X3_enter_J91 a0 x1 w18 w16 (mI M40 a0 6) (mP M40 a0 3) M40 Q else f_X3_enter_J91 a0 x1 w18 (0 : Int32) (mI M40 a0 6) (mP M40 a0 3) M40 Q)))))))))))))) → E p l e (rmO 3 0 0) s m args below meth c g 4 (MQ below (QcM g (rV Q)) args s 0 0 (gA g)) 0 0 32 [(0, .ref a0), (1, .int x1)] [.int w16] M17 := by
      intro w16 M17 h48
      refine e_istore_n (al' := [(2, .int w16), (0, .ref a0), (1, .int x1)]) C dX3_enter_32 rfl (by decide) rfl ?_
      refine e_aload_n C 1 dX3_enter_33 rfl rfl ?_
      refine e_iload_n C 2 dX3_enter_34 rfl rfl ?_
      refine e_iload_n C 0 dX3_enter_35 rfl rfl ?_
      obtain ⟨o20, h48⟩ := h48
      refine e_callV (as := [.int x1, .int w16]) C wb_X3_lineFor wv_X3_134 (ci := 3) rfl rfl (isO_1 o20) (m_X3_lineFor h48) rfl ⟨Nat.le_of_ble_eq_true rfl, Nat.le_of_ble_eq_true rfl⟩ ⟨Nat.le_of_ble_eq_true rfl, Nat.le_of_ble_eq_true rfl⟩ (by first | exact Nat.le_of_ble_eq_true rfl | (simp only [List.map_cons, List.map_nil, va_cat, List.sum_cons, List.sum_nil]; exact Nat.le_of_ble_eq_true rfl)) dX3_enter_36 (kI (fun w18 M19 h47 => ?_))
      refine e_istore_n (al' := [(3, .int w18), (2, .int w16), (0, .ref a0), (1, .int x1)]) C dX3_enter_39 rfl (by decide) rfl ?_
      refine e_aload_n C 2 dX3_enter_40 rfl rfl ?_
      obtain ⟨o21, h47⟩ := h47
      refine e_getR C [3] 0 (fg_of fg_X3_9) o21 dX3_enter_41 ?_
      refine e_aload_n C 2 dX3_enter_44 rfl rfl ?_
      refine e_getI C [3] 6 (fg_of fg_X3_82) o21 dX3_enter_45 ?_
      refine e_iload_n C 3 dX3_enter_48 rfl rfl ?_
      obtain ⟨b22, p23, h47⟩ := h47
      try rw [p23]
      obtain ⟨o24, h47⟩ := h47
      refine e_iast C o24 dX3_enter_49 ?_
      refine nmE (fun M25 e26 => ?_)
      replace h47 := h47 M25 e26
      have o27 : isO M25 a0 [3] := by rw [e26]; exact o21
      have p28 : mP M25 a0 0 = some b22 := by rw [e26]; exact p23
      refine e_aload_n C 2 dX3_enter_50 rfl rfl ?_
      refine e_getR C [3] 1 (fg_of fg_X3_15) o27 dX3_enter_51 ?_
      refine e_aload_n C 2 dX3_enter_54 rfl rfl ?_
      refine e_getI C [3] 6 (fg_of fg_X3_82) o27 dX3_enter_55 ?_
      refine e_aload_n C 2 dX3_enter_58 rfl rfl ?_
      refine e_getI C [3] 15 (fg_of fg_X3_44) o27 dX3_enter_59 ?_
      obtain ⟨b29, p30, h47⟩ := h47
      try rw [p30]
      obtain ⟨o31, h47⟩ := h47
      refine e_iast C o31 dX3_enter_62 ?_
      refine nmE (fun M32 e33 => ?_)
      replace h47 := h47 M32 e33
      have o34 : isO M32 a0 [3] := by rw [e33]; exact o27
      have p35 : mP M32 a0 0 = some b22 := by rw [e33]; exact p28
      have p36 : mP M32 a0 1 = some b29 := by rw [e33]; exact p30
      refine e_aload_n C 2 dX3_enter_63 rfl rfl ?_
      refine e_getR C [3] 2 (fg_of fg_X3_18) o34 dX3_enter_64 ?_
      refine e_aload_n C 2 dX3_enter_67 rfl rfl ?_
      refine e_getI C [3] 6 (fg_of fg_X3_82) o34 dX3_enter_68 ?_
      refine e_iload_n C 0 dX3_enter_71 rfl rfl ?_
      obtain ⟨b37, p38, h47⟩ := h47
      try rw [p38]
      obtain ⟨o39, h47⟩ := h47
      refine e_iast C o39 dX3_enter_72 ?_
      refine nmE (fun M40 e41 => ?_)
      replace h47 := h47 M40 e41
      have o42 : isO M40 a0 [3] := by rw [e41]; exact o34
      have p43 : mP M40 a0 0 = some b22 := by rw [e41]; exact p35
      have p44 : mP M40 a0 1 = some b29 := by rw [e41]; exact p36
      have p45 : mP M40 a0 2 = some b37 := by rw [e41]; exact p38
      refine e_aload_n C 2 dX3_enter_73 rfl rfl ?_
      refine e_getR C [3] 3 (fg_of fg_X3_21) o42 dX3_enter_74 ?_
      refine e_aload_n C 2 dX3_enter_77 rfl rfl ?_
      refine e_getI C [3] 6 (fg_of fg_X3_82) o42 dX3_enter_78 ?_
      refine e_iload_n C 0 dX3_enter_81 rfl rfl ?_
      refine e_iconst (v := 1) C dX3_enter_82 (by decide) ?_
      refine e_icmp_ne (tgt := 90) C dX3_enter_83 (by decide) (fun q46 => ?_) (fun q46 => ?_)
      · replace h47 := ite_f h47 q46
        refine e_iconst (v := 0) C dX3_enter_90 (by decide) ?_
        refine e_pick [2, 3, 0] rfl ?_
        exact w_X3_enter_J91 C hr hlk h47
      · replace h47 := ite_t h47 q46
        refine e_iload_n C 1 dX3_enter_86 rfl rfl ?_
        refine e_goto (tgt := 91) C dX3_enter_87 (by decide) ?_
        refine e_pick [2, 3, 0] rfl ?_
        exact w_X3_enter_J91 C hr hlk h47
    rcases h49 with ⟨h0, h49⟩ | ⟨h0, h49⟩ | ⟨h0, h49⟩ | ⟨h0, h49⟩ | ⟨h0, h49⟩ | ⟨h0, h49⟩ | ⟨h0, h49⟩
    · exact e_callV (as := [.int w7, .int (mI M8 b13 ((2 : Int32)).toNatClampNeg)]) C wb_X5_due wv_X3_131 (ci := 5) rfl rfl h0 (m_X5_due h49) rfl ⟨Nat.le_of_ble_eq_true rfl, Nat.le_of_ble_eq_true rfl⟩ ⟨Nat.le_of_ble_eq_true rfl, Nat.le_of_ble_eq_true rfl⟩ (by first | exact Nat.le_of_ble_eq_true rfl | (simp only [List.map_cons, List.map_nil, va_cat, List.sum_cons, List.sum_nil]; exact Nat.le_of_ble_eq_true rfl)) dX3_enter_29 (kI kk)
    · exact e_callU (as := [.int w7, .int (mI M8 b13 ((2 : Int32)).toNatClampNeg)]) C wb_X5_due wu_X3_131_1 (ci := 1) rfl h0 (m_X5_due h49) rfl ⟨Nat.le_of_ble_eq_true rfl, Nat.le_of_ble_eq_true rfl⟩ ⟨Nat.le_of_ble_eq_true rfl, Nat.le_of_ble_eq_true rfl⟩ (by first | exact Nat.le_of_ble_eq_true rfl | (simp only [List.map_cons, List.map_nil, va_cat, List.sum_cons, List.sum_nil]; exact Nat.le_of_ble_eq_true rfl)) dX3_enter_29 (kI kk)
    · exact e_callU (as := [.int w7, .int (mI M8 b13 ((2 : Int32)).toNatClampNeg)]) C wb_X5_due wu_X3_131_2 (ci := 2) rfl h0 (m_X5_due h49) rfl ⟨Nat.le_of_ble_eq_true rfl, Nat.le_of_ble_eq_true rfl⟩ ⟨Nat.le_of_ble_eq_true rfl, Nat.le_of_ble_eq_true rfl⟩ (by first | exact Nat.le_of_ble_eq_true rfl | (simp only [List.map_cons, List.map_nil, va_cat, List.sum_cons, List.sum_nil]; exact Nat.le_of_ble_eq_true rfl)) dX3_enter_29 (kI kk)
    · exact e_callU (as := [.int w7, .int (mI M8 b13 ((2 : Int32)).toNatClampNeg)]) C wb_X5_due wu_X3_131_4 (ci := 4) rfl h0 (m_X5_due h49) rfl ⟨Nat.le_of_ble_eq_true rfl, Nat.le_of_ble_eq_true rfl⟩ ⟨Nat.le_of_ble_eq_true rfl, Nat.le_of_ble_eq_true rfl⟩ (by first | exact Nat.le_of_ble_eq_true rfl | (simp only [List.map_cons, List.map_nil, va_cat, List.sum_cons, List.sum_nil]; exact Nat.le_of_ble_eq_true rfl)) dX3_enter_29 (kI kk)
    · exact e_callU (as := [.int w7, .int (mI M8 b13 ((2 : Int32)).toNatClampNeg)]) C wb_X6_due wu_X3_131_6 (ci := 6) rfl h0 (m_X6_due h49) rfl ⟨Nat.le_of_ble_eq_true rfl, Nat.le_of_ble_eq_true rfl⟩ ⟨Nat.le_of_ble_eq_true rfl, Nat.le_of_ble_eq_true rfl⟩ (by first | exact Nat.le_of_ble_eq_true rfl | (simp only [List.map_cons, List.map_nil, va_cat, List.sum_cons, List.sum_nil]; exact Nat.le_of_ble_eq_true rfl)) dX3_enter_29 (kI kk)
    · exact e_callU (as := [.int w7, .int (mI M8 b13 ((2 : Int32)).toNatClampNeg)]) C wb_X5_due wu_X3_131_7 (ci := 7) rfl h0 (m_X5_due h49) rfl ⟨Nat.le_of_ble_eq_true rfl, Nat.le_of_ble_eq_true rfl⟩ ⟨Nat.le_of_ble_eq_true rfl, Nat.le_of_ble_eq_true rfl⟩ (by first | exact Nat.le_of_ble_eq_true rfl | (simp only [List.map_cons, List.map_nil, va_cat, List.sum_cons, List.sum_nil]; exact Nat.le_of_ble_eq_true rfl)) dX3_enter_29 (kI kk)
    · exact e_callU (as := [.int w7, .int (mI M8 b13 ((2 : Int32)).toNatClampNeg)]) C wb_X5_due wu_X3_131_9 (ci := 9) rfl h0 (m_X5_due h49) rfl ⟨Nat.le_of_ble_eq_true rfl, Nat.le_of_ble_eq_true rfl⟩ ⟨Nat.le_of_ble_eq_true rfl, Nat.le_of_ble_eq_true rfl⟩ (by first | exact Nat.le_of_ble_eq_true rfl | (simp only [List.map_cons, List.map_nil, va_cat, List.sum_cons, List.sum_nil]; exact Nat.le_of_ble_eq_true rfl)) dX3_enter_29 (kI kk)
  rcases h with ⟨h0, h⟩ | ⟨h0, h⟩ | ⟨h0, h⟩ | ⟨h0, h⟩ | ⟨h0, h⟩ | ⟨h0, h⟩ | ⟨h0, h⟩
  · exact e_callV (as := [.int (mI M a0 13), .int (mI M b2 ((1 : Int32)).toNatClampNeg)]) C wb_X5_asks wv_X3_126 (ci := 5) rfl rfl h0 (m_X5_asks h) rfl ⟨Nat.le_of_ble_eq_true rfl, Nat.le_of_ble_eq_true rfl⟩ ⟨Nat.le_of_ble_eq_true rfl, Nat.le_of_ble_eq_true rfl⟩ (by first | exact Nat.le_of_ble_eq_true rfl | (simp only [List.map_cons, List.map_nil, va_cat, List.sum_cons, List.sum_nil]; exact Nat.le_of_ble_eq_true rfl)) dX3_enter_18 (kI kk)
  · exact e_callU (as := [.int (mI M a0 13), .int (mI M b2 ((1 : Int32)).toNatClampNeg)]) C wb_X5_asks wu_X3_126_1 (ci := 1) rfl h0 (m_X5_asks h) rfl ⟨Nat.le_of_ble_eq_true rfl, Nat.le_of_ble_eq_true rfl⟩ ⟨Nat.le_of_ble_eq_true rfl, Nat.le_of_ble_eq_true rfl⟩ (by first | exact Nat.le_of_ble_eq_true rfl | (simp only [List.map_cons, List.map_nil, va_cat, List.sum_cons, List.sum_nil]; exact Nat.le_of_ble_eq_true rfl)) dX3_enter_18 (kI kk)
  · exact e_callU (as := [.int (mI M a0 13), .int (mI M b2 ((1 : Int32)).toNatClampNeg)]) C wb_X5_asks wu_X3_126_2 (ci := 2) rfl h0 (m_X5_asks h) rfl ⟨Nat.le_of_ble_eq_true rfl, Nat.le_of_ble_eq_true rfl⟩ ⟨Nat.le_of_ble_eq_true rfl, Nat.le_of_ble_eq_true rfl⟩ (by first | exact Nat.le_of_ble_eq_true rfl | (simp only [List.map_cons, List.map_nil, va_cat, List.sum_cons, List.sum_nil]; exact Nat.le_of_ble_eq_true rfl)) dX3_enter_18 (kI kk)
  · exact e_callU (as := [.int (mI M a0 13), .int (mI M b2 ((1 : Int32)).toNatClampNeg)]) C wb_X4_asks wu_X3_126_4 (ci := 4) rfl h0 (m_X4_asks h) rfl ⟨Nat.le_of_ble_eq_true rfl, Nat.le_of_ble_eq_true rfl⟩ ⟨Nat.le_of_ble_eq_true rfl, Nat.le_of_ble_eq_true rfl⟩ (by first | exact Nat.le_of_ble_eq_true rfl | (simp only [List.map_cons, List.map_nil, va_cat, List.sum_cons, List.sum_nil]; exact Nat.le_of_ble_eq_true rfl)) dX3_enter_18 (kI kk)
  · exact e_callU (as := [.int (mI M a0 13), .int (mI M b2 ((1 : Int32)).toNatClampNeg)]) C wb_X5_asks wu_X3_126_6 (ci := 6) rfl h0 (m_X5_asks h) rfl ⟨Nat.le_of_ble_eq_true rfl, Nat.le_of_ble_eq_true rfl⟩ ⟨Nat.le_of_ble_eq_true rfl, Nat.le_of_ble_eq_true rfl⟩ (by first | exact Nat.le_of_ble_eq_true rfl | (simp only [List.map_cons, List.map_nil, va_cat, List.sum_cons, List.sum_nil]; exact Nat.le_of_ble_eq_true rfl)) dX3_enter_18 (kI kk)
  · exact e_callU (as := [.int (mI M a0 13), .int (mI M b2 ((1 : Int32)).toNatClampNeg)]) C wb_X5_asks wu_X3_126_7 (ci := 7) rfl h0 (m_X5_asks h) rfl ⟨Nat.le_of_ble_eq_true rfl, Nat.le_of_ble_eq_true rfl⟩ ⟨Nat.le_of_ble_eq_true rfl, Nat.le_of_ble_eq_true rfl⟩ (by first | exact Nat.le_of_ble_eq_true rfl | (simp only [List.map_cons, List.map_nil, va_cat, List.sum_cons, List.sum_nil]; exact Nat.le_of_ble_eq_true rfl)) dX3_enter_18 (kI kk)
  · exact e_callU (as := [.int (mI M a0 13), .int (mI M b2 ((1 : Int32)).toNatClampNeg)]) C wb_X5_asks wu_X3_126_9 (ci := 9) rfl h0 (m_X5_asks h) rfl ⟨Nat.le_of_ble_eq_true rfl, Nat.le_of_ble_eq_true rfl⟩ ⟨Nat.le_of_ble_eq_true rfl, Nat.le_of_ble_eq_true rfl⟩ (by first | exact Nat.le_of_ble_eq_true rfl | (simp only [List.map_cons, List.map_nil, va_cat, List.sum_cons, List.sum_nil]; exact Nat.le_of_ble_eq_true rfl)) dX3_enter_18 (kI kk)
theorem m_X3_enter  {a0 : Nat} {x1 : Int32} {M : Mem} {Q : Mem → Prop} (h : f_X3_enter a0 x1 M Q) : Con yX3_enter cX3_enter 4 none 3 0 0 [.ref a0, .int x1] M (rV Q) :=
  con_of2 (al := [(0, .ref a0), (1, .int x1)]) (by decide) (by exact Nat.le_of_ble_eq_true rfl) (by rfl) (fun p l e s m args below meth c g C hr hlk _ => w_X3_enter C hr hlk h)
set_option maxHeartbeats 4000000 in
set_option maxRecDepth 100000 in
theorem w_X3_comeByHand_J58 {p : Program} {l : Launch} {e : Env} {s : State} {m : MethodId} {args : Array Value} {below : List Frame} {meth : Method} {c : Code} {g : Geo} (C : Cx p s m args c cX3_comeByHand RX3 3 g) (hr : meth.sig.returnType = none) (hlk : meth.locks = false) {a0 : Nat} {r1 : Option Nat} {v2 : Int32} {M : Mem} {K2 : Int32 × Mem → Prop} {Q : Mem → Prop} (hK2 : ∀ z : Int32 × Mem, K2 z → E p l e (rmO 4 0 0) s m args below meth c g 3 (MQ below (QcM g (rV Q)) args s 0 0 (gA g)) 0 0 2 [(0, .ref a0), (1, va_rf r1), (2, .int z.1)] [] (z.2)) (h : f_X3_comeByHand_J58 a0 r1 v2 M K2 Q) : E p l e (rmO 4 0 0) s m args below meth c g 3 (MQ below (QcM g (rV Q)) args s 0 0 (gA g)) 0 0 58 [(0, .ref a0), (1, va_rf r1), (2, .int v2)] [] M := by
  unfold f_X3_comeByHand_J58 at h
  refine e_iinc (v := (v2 + 1)) (al' := [(2, .int (v2 + 1)), (0, .ref a0), (1, va_rf r1)]) C 2 dX3_comeByHand_58 rfl rfl (by decide) (by generalize r1 = zz; cases zz <;> rfl) ?_
  refine e_goto (tgt := 2) C dX3_comeByHand_61 (by decide) ?_
  refine e_pick [1, 2, 0] rfl ?_
  exact hK2 ((v2 + 1), M) h
set_option maxHeartbeats 4000000 in
set_option maxRecDepth 100000 in
theorem w_X3_comeByHand_J48 {p : Program} {l : Launch} {e : Env} {s : State} {m : MethodId} {args : Array Value} {below : List Frame} {meth : Method} {c : Code} {g : Geo} (C : Cx p s m args c cX3_comeByHand RX3 3 g) (hr : meth.sig.returnType = none) (hlk : meth.locks = false) {a0 : Nat} {r1 : Option Nat} {v2 : Int32} {M : Mem} {K2 : Int32 × Mem → Prop} {Q : Mem → Prop} (hK2 : ∀ z : Int32 × Mem, K2 z → E p l e (rmO 4 0 0) s m args below meth c g 3 (MQ below (QcM g (rV Q)) args s 0 0 (gA g)) 0 0 2 [(0, .ref a0), (1, va_rf r1), (2, .int z.1)] [] (z.2)) (h : f_X3_comeByHand_J48 a0 r1 v2 M K2 Q) : E p l e (rmO 4 0 0) s m args below meth c g 3 (MQ below (QcM g (rV Q)) args s 0 0 (gA g)) 0 0 48 [(0, .ref a0), (1, va_rf r1), (2, .int v2)] [] M := by
  unfold f_X3_comeByHand_J48 at h
  refine e_aload_n C 0 dX3_comeByHand_48 rfl rfl ?_
  refine e_rload_n C 1 dX3_comeByHand_49 rfl rfl ?_
  obtain ⟨b1, rfl, h⟩ := h
  obtain ⟨o3, h⟩ := h
  refine e_getR C [0] 2 (fg_of fg_X3_112) o3 dX3_comeByHand_50 ?_
  refine e_iload_n C 2 dX3_comeByHand_53 rfl rfl ?_
  obtain ⟨b4, p5, h⟩ := h
  try rw [p5]
  obtain ⟨o6, h⟩ := h
  refine e_iald C o6 dX3_comeByHand_54 ?_
  obtain ⟨o9, h⟩ := h
  refine e_callV (as := [.int (mI M b4 (v2).toNatClampNeg)]) C wb_X3_enter wv_X3_114 (ci := 3) rfl rfl (isO_1 o9) (m_X3_enter h) rfl ⟨Nat.le_of_ble_eq_true rfl, Nat.le_of_ble_eq_true rfl⟩ ⟨Nat.le_of_ble_eq_true rfl, Nat.le_of_ble_eq_true rfl⟩ (by first | exact Nat.le_of_ble_eq_true rfl | (simp only [List.map_cons, List.map_nil, va_cat, List.sum_cons, List.sum_nil]; exact Nat.le_of_ble_eq_true rfl)) dX3_comeByHand_55 (kV (fun M8 h10 => ?_))
  exact w_X3_comeByHand_J58 C hr hlk hK2 h10
set_option maxHeartbeats 4000000 in
set_option maxRecDepth 100000 in
theorem w_X3_comeByHand_B2 {p : Program} {l : Launch} {e : Env} {s : State} {m : MethodId} {args : Array Value} {below : List Frame} {meth : Method} {c : Code} {g : Geo} (C : Cx p s m args c cX3_comeByHand RX3 3 g) (hr : meth.sig.returnType = none) (hlk : meth.locks = false) {a0 : Nat} {r1 : Option Nat} {v2 : Int32} {M : Mem} {K2 : Int32 × Mem → Prop} {Q : Mem → Prop} (hK2 : ∀ z : Int32 × Mem, K2 z → E p l e (rmO 4 0 0) s m args below meth c g 3 (MQ below (QcM g (rV Q)) args s 0 0 (gA g)) 0 0 2 [(0, .ref a0), (1, va_rf r1), (2, .int z.1)] [] (z.2)) (h : f_X3_comeByHand_B2 a0 r1 v2 M K2 Q) : E p l e (rmO 4 0 0) s m args below meth c g 3 (MQ below (QcM g (rV Q)) args s 0 0 (gA g)) 0 0 2 [(0, .ref a0), (1, va_rf r1), (2, .int v2)] [] M := by
  unfold f_X3_comeByHand_B2 at h
  refine e_iload_n C 2 dX3_comeByHand_2 rfl rfl ?_
  refine e_rload_n C 1 dX3_comeByHand_3 rfl rfl ?_
  obtain ⟨b1, rfl, h⟩ := h
  obtain ⟨o3, h⟩ := h
  refine e_getI C [0] 4 (fg_of fg_X3_100) o3 dX3_comeByHand_4 ?_
  refine e_icmp_ge (tgt := 64) C dX3_comeByHand_7 (by decide) (fun q4 => ?_) (fun q4 => ?_)
  · replace h := ite_t h q4
    exact e_vret C hr hlk (Nat.le_refl _) (Nat.le_refl _) dX3_comeByHand_64 ⟨rfl, h⟩
  · replace h := ite_f h q4
    refine e_aload_n C 1 dX3_comeByHand_10 rfl rfl ?_
    refine e_getR C [0] 3 (fg_of fg_X3_105) o3 dX3_comeByHand_11 ?_
    refine e_iload_n C 2 dX3_comeByHand_14 rfl rfl ?_
    obtain ⟨b5, p6, h⟩ := h
    try rw [p6]
    obtain ⟨o7, h⟩ := h
    refine e_iald C o7 dX3_comeByHand_15 ?_
    refine e_aload_n C 0 dX3_comeByHand_16 rfl rfl ?_
    obtain ⟨o8, h⟩ := h
    refine e_getI C [3] 15 (fg_of fg_X3_44) o8 dX3_comeByHand_17 ?_
    refine e_icmp_ne (tgt := 58) C dX3_comeByHand_20 (by decide) (fun q9 => ?_) (fun q9 => ?_)
    · replace h := ite_f h q9
      exact w_X3_comeByHand_J58 C hr hlk hK2 h
    · replace h := ite_t h q9
      refine e_aload_n C 0 dX3_comeByHand_23 rfl rfl ?_
      refine e_callV (as := []) C wb_X3_roomForMore wv_X3_108 (ci := 3) rfl rfl (isO_1 o8) (m_X3_roomForMore h) rfl ⟨Nat.le_of_ble_eq_true rfl, Nat.le_of_ble_eq_true rfl⟩ ⟨Nat.le_of_ble_eq_true rfl, Nat.le_of_ble_eq_true rfl⟩ (by first | exact Nat.le_of_ble_eq_true rfl | (simp only [List.map_cons, List.map_nil, va_cat, List.sum_cons, List.sum_nil]; exact Nat.le_of_ble_eq_true rfl)) dX3_comeByHand_24 (kZ (fun w10 M11 h20 => ?_))
      refine e_if_eq (tgt := 58) C dX3_comeByHand_27 (by decide) (fun q12 => ?_) (fun q12 => ?_)
      · replace h20 := ite_f h20 (bi_ne q12)
        exact w_X3_comeByHand_J58 C hr hlk hK2 h20
      · replace h20 := ite_t h20 (bi_t q12)
        refine e_iload_n C 2 dX3_comeByHand_30 rfl rfl ?_
        refine e_aload_n C 1 dX3_comeByHand_31 rfl rfl ?_
        obtain ⟨o13, h20⟩ := h20
        refine e_getI C [0] 4 (fg_of fg_X3_100) o13 dX3_comeByHand_32 ?_
        refine e_iconst (v := 1) C dX3_comeByHand_35 (by decide) ?_
        refine e_isub C dX3_comeByHand_36 ?_
        refine e_icmp_ne (tgt := 48) C dX3_comeByHand_37 (by decide) (fun q14 => ?_) (fun q14 => ?_)
        · replace h20 := ite_f h20 q14
          exact w_X3_comeByHand_J48 C hr hlk hK2 h20
        · replace h20 := ite_t h20 q14
          refine e_aload_n C 0 dX3_comeByHand_40 rfl rfl ?_
          refine e_aload_n C 0 dX3_comeByHand_41 rfl rfl ?_
          obtain ⟨o15, h20⟩ := h20
          refine e_getI C [3] 6 (fg_of fg_X3_82) o15 dX3_comeByHand_42 ?_
          refine e_putI C [3] 8 false (fun z => by cases z) fp_X3_88 o15 dX3_comeByHand_45 ?_
          refine nmE (fun M16 e17 => ?_)
          replace h20 := h20 M16 e17
          have o18 : isO M16 b1 [0] := by rw [e17]; exact o13
          have o19 : isO M16 a0 [3] := by rw [e17]; exact o15
          exact w_X3_comeByHand_J48 C hr hlk hK2 h20
set_option maxHeartbeats 4000000 in
set_option maxRecDepth 100000 in
theorem w_X3_comeByHand_L2 {p : Program} {l : Launch} {e : Env} {s : State} {m : MethodId} {args : Array Value} {below : List Frame} {meth : Method} {c : Code} {g : Geo} (C : Cx p s m args c cX3_comeByHand RX3 3 g) (hr : meth.sig.returnType = none) (hlk : meth.locks = false) {a0 : Nat} {r1 : Option Nat} {v2 : Int32} {M : Mem} {Q : Mem → Prop} (h : f_X3_comeByHand_L2 a0 r1 v2 M Q) : E p l e (rmO 4 0 0) s m args below meth c g 3 (MQ below (QcM g (rV Q)) args s 0 0 (gA g)) 0 0 2 [(0, .ref a0), (1, va_rf r1), (2, .int v2)] [] M := by
  unfold f_X3_comeByHand_L2 at h
  refine loop_E (W := fun z : Int32 × Mem => E p l e (rmO 4 0 0) s m args below meth c g 3 (MQ below (QcM g (rV Q)) args s 0 0 (gA g)) 0 0 2 [(0, .ref a0), (1, va_rf r1), (2, .int z.1)] [] (z.2)) h (fun K z hK h => ?_)
  exact w_X3_comeByHand_B2 C hr hlk hK h
set_option maxHeartbeats 4000000 in
set_option maxRecDepth 100000 in
theorem w_X3_comeByHand {p : Program} {l : Launch} {e : Env} {s : State} {m : MethodId} {args : Array Value} {below : List Frame} {meth : Method} {c : Code} {g : Geo} (C : Cx p s m args c cX3_comeByHand RX3 3 g) (hr : meth.sig.returnType = none) (hlk : meth.locks = false) {a0 : Nat} {r1 : Option Nat} {M : Mem} {Q : Mem → Prop} (h : f_X3_comeByHand a0 r1 M Q) : E p l e (rmO 4 0 0) s m args below meth c g 3 (MQ below (QcM g (rV Q)) args s 0 0 (gA g)) 0 0 0 [(0, .ref a0), (1, va_rf r1)] [] M := by
  unfold f_X3_comeByHand at h
  refine e_iconst (v := 0) C dX3_comeByHand_0 (by decide) ?_
  refine e_istore_n (al' := [(2, .int (0 : Int32)), (0, .ref a0), (1, va_rf r1)]) C dX3_comeByHand_1 rfl (by decide) (by generalize r1 = zz; cases zz <;> rfl) ?_
  refine e_pick [1, 2, 0] rfl ?_
  exact w_X3_comeByHand_L2 C hr hlk h
theorem m_X3_comeByHand  {a0 : Nat} {r1 : Option Nat} {M : Mem} {Q : Mem → Prop} (h : f_X3_comeByHand a0 r1 M Q) : Con yX3_comeByHand cX3_comeByHand 3 none 4 0 0 [.ref a0, va_rf r1] M (rV Q) :=
  con_of2 (al := [(0, .ref a0), (1, va_rf r1)]) (by decide) (by cases r1 <;> exact Nat.le_of_ble_eq_true rfl) (by cases r1 <;> rfl) (fun p l e s m args below meth c g C hr hlk _ => w_X3_comeByHand C hr hlk h)
set_option maxHeartbeats 4000000 in
set_option maxRecDepth 100000 in
theorem w_X3_comeByText_J50 {p : Program} {l : Launch} {e : Env} {s : State} {m : MethodId} {args : Array Value} {below : List Frame} {meth : Method} {c : Code} {g : Geo} (C : Cx p s m args c cX3_comeByText RX3 3 g) (hr : meth.sig.returnType = none) (hlk : meth.locks = false) {a0 : Nat} {x1 : Int32} {v2 : Int32} {M : Mem} {K2 : Int32 × Mem → Prop} {Q : Mem → Prop} (hK2 : ∀ z : Int32 × Mem, K2 z → E p l e (rmO 4 0 0) s m args below meth c g 3 (MQ below (QcM g (rV Q)) args s 0 0 (gA g)) 0 0 2 [(0, .ref a0), (1, .int x1), (2, .int z.1)] [] (z.2)) (h : f_X3_comeByText_J50 a0 x1 v2 M K2 Q) : E p l e (rmO 4 0 0) s m args below meth c g 3 (MQ below (QcM g (rV Q)) args s 0 0 (gA g)) 0 0 50 [(0, .ref a0), (1, .int x1), (2, .int v2)] [] M := by
  unfold f_X3_comeByText_J50 at h
  refine e_iinc (v := (v2 + 1)) (al' := [(2, .int (v2 + 1)), (0, .ref a0), (1, .int x1)]) C 2 dX3_comeByText_50 rfl rfl (by decide) rfl ?_
  refine e_goto (tgt := 2) C dX3_comeByText_53 (by decide) ?_
  refine e_pick [1, 2, 0] rfl ?_
  exact hK2 ((v2 + 1), M) h
set_option maxHeartbeats 4000000 in
set_option maxRecDepth 100000 in
theorem w_X3_comeByText_B2 {p : Program} {l : Launch} {e : Env} {s : State} {m : MethodId} {args : Array Value} {below : List Frame} {meth : Method} {c : Code} {g : Geo} (C : Cx p s m args c cX3_comeByText RX3 3 g) (hr : meth.sig.returnType = none) (hlk : meth.locks = false) {a0 : Nat} {x1 : Int32} {v2 : Int32} {M : Mem} {K2 : Int32 × Mem → Prop} {Q : Mem → Prop} (hK2 : ∀ z : Int32 × Mem, K2 z → E p l e (rmO 4 0 0) s m args below meth c g 3 (MQ below (QcM g (rV Q)) args s 0 0 (gA g)) 0 0 2 [(0, .ref a0), (1, .int x1), (2, .int z.1)] [] (z.2)) (h : f_X3_comeByText_B2 a0 x1 v2 M K2 Q) : E p l e (rmO 4 0 0) s m args below meth c g 3 (MQ below (QcM g (rV Q)) args s 0 0 (gA g)) 0 0 2 [(0, .ref a0), (1, .int x1), (2, .int v2)] [] M := by
  unfold f_X3_comeByText_B2 at h
  refine e_iload_n C 2 dX3_comeByText_2 rfl rfl ?_
  refine e_iload_n C 1 dX3_comeByText_3 rfl rfl ?_
  refine e_icmp_ge (tgt := 56) C dX3_comeByText_4 (by decide) (fun q1 => ?_) (fun q1 => ?_)
  · replace h := ite_t h q1
    exact e_vret C hr hlk (Nat.le_refl _) (Nat.le_refl _) dX3_comeByText_56 ⟨rfl, h⟩
  · replace h := ite_f h q1
    refine e_aload_n C 0 dX3_comeByText_7 rfl rfl ?_
    obtain ⟨o4, h⟩ := h
    refine e_callV (as := []) C wb_X3_roomForMore wv_X3_108 (ci := 3) rfl rfl (isO_1 o4) (m_X3_roomForMore h) rfl ⟨Nat.le_of_ble_eq_true rfl, Nat.le_of_ble_eq_true rfl⟩ ⟨Nat.le_of_ble_eq_true rfl, Nat.le_of_ble_eq_true rfl⟩ (by first | exact Nat.le_of_ble_eq_true rfl | (simp only [List.map_cons, List.map_nil, va_cat, List.sum_cons, List.sum_nil]; exact Nat.le_of_ble_eq_true rfl)) dX3_comeByText_8 (kZ (fun w2 M3 h22 => ?_))
    refine e_if_eq (tgt := 50) C dX3_comeByText_11 (by decide) (fun q5 => ?_) (fun q5 => ?_)
    · replace h22 := ite_f h22 (bi_ne q5)
      exact w_X3_comeByText_J50 C hr hlk hK2 h22
    · replace h22 := ite_t h22 (bi_t q5)
      refine e_aload_n C 0 dX3_comeByText_14 rfl rfl ?_
      obtain ⟨o6, h22⟩ := h22
      refine e_getR C [3] 12 (fg_of fg_X3_72) o6 dX3_comeByText_15 ?_
      refine e_iload_n C 2 dX3_comeByText_18 rfl rfl ?_
      refine e_aload_n C 0 dX3_comeByText_19 rfl rfl ?_
      refine e_getI C [3] 15 (fg_of fg_X3_44) o6 dX3_comeByText_20 ?_
      refine e_aload_n C 0 dX3_comeByText_23 rfl rfl ?_
      refine e_getR C [3] 16 (fg_of fg_X3_30) o6 dX3_comeByText_24 ?_
      refine e_iconst (v := 1) C dX3_comeByText_27 (by decide) ?_
      obtain ⟨b7, p8, h22⟩ := h22
      try rw [p8]
      obtain ⟨o9, h22⟩ := h22
      refine e_iald C o9 dX3_comeByText_28 ?_
      refine e_aload_n C 0 dX3_comeByText_29 rfl rfl ?_
      refine e_getR C [3] 16 (fg_of fg_X3_30) o6 dX3_comeByText_30 ?_
      rw [p8]
      refine e_iconst (v := 0) C dX3_comeByText_33 (by decide) ?_
      obtain ⟨o10, h22⟩ := h22
      refine e_iald C o10 dX3_comeByText_34 ?_
      refine e_aload_n C 0 dX3_comeByText_35 rfl rfl ?_
      refine e_getI C [3] 6 (fg_of fg_X3_82) o6 dX3_comeByText_36 ?_
      obtain ⟨b11, p12, h22⟩ := h22
      try rw [p12]
      obtain ⟨o15, h22⟩ := h22
      refine e_callV (as := [.int v2, .int (mI M3 a0 15), .int (mI M3 b7 ((1 : Int32)).toNatClampNeg), .int (mI M3 b7 ((0 : Int32)).toNatClampNeg), .int (mI M3 a0 6)]) C wb_X10_calls wv_X3_117 (ci := 10) rfl rfl (isO_1 o15) (m_X10_calls h22) rfl ⟨Nat.le_of_ble_eq_true rfl, Nat.le_of_ble_eq_true rfl⟩ ⟨Nat.le_of_ble_eq_true rfl, Nat.le_of_ble_eq_true rfl⟩ (by first | exact Nat.le_of_ble_eq_true rfl | (simp only [List.map_cons, List.map_nil, va_cat, List.sum_cons, List.sum_nil]; exact Nat.le_of_ble_eq_true rfl)) dX3_comeByText_39 (kZ (fun w13 M14 h21 => ?_))
      refine e_if_eq (tgt := 50) C dX3_comeByText_42 (by decide) (fun q16 => ?_) (fun q16 => ?_)
      · replace h21 := ite_f h21 (bi_ne q16)
        exact w_X3_comeByText_J50 C hr hlk hK2 h21
      · replace h21 := ite_t h21 (bi_t q16)
        refine e_aload_n C 0 dX3_comeByText_45 rfl rfl ?_
        refine e_iload_n C 2 dX3_comeByText_46 rfl rfl ?_
        obtain ⟨o19, h21⟩ := h21
        refine e_callV (as := [.int v2]) C wb_X3_enter wv_X3_114 (ci := 3) rfl rfl (isO_1 o19) (m_X3_enter h21) rfl ⟨Nat.le_of_ble_eq_true rfl, Nat.le_of_ble_eq_true rfl⟩ ⟨Nat.le_of_ble_eq_true rfl, Nat.le_of_ble_eq_true rfl⟩ (by first | exact Nat.le_of_ble_eq_true rfl | (simp only [List.map_cons, List.map_nil, va_cat, List.sum_cons, List.sum_nil]; exact Nat.le_of_ble_eq_true rfl)) dX3_comeByText_47 (kV (fun M18 h20 => ?_))
        exact w_X3_comeByText_J50 C hr hlk hK2 h20
set_option maxHeartbeats 4000000 in
set_option maxRecDepth 100000 in
theorem w_X3_comeByText_L2 {p : Program} {l : Launch} {e : Env} {s : State} {m : MethodId} {args : Array Value} {below : List Frame} {meth : Method} {c : Code} {g : Geo} (C : Cx p s m args c cX3_comeByText RX3 3 g) (hr : meth.sig.returnType = none) (hlk : meth.locks = false) {a0 : Nat} {x1 : Int32} {v2 : Int32} {M : Mem} {Q : Mem → Prop} (h : f_X3_comeByText_L2 a0 x1 v2 M Q) : E p l e (rmO 4 0 0) s m args below meth c g 3 (MQ below (QcM g (rV Q)) args s 0 0 (gA g)) 0 0 2 [(0, .ref a0), (1, .int x1), (2, .int v2)] [] M := by
  unfold f_X3_comeByText_L2 at h
  refine loop_E (W := fun z : Int32 × Mem => E p l e (rmO 4 0 0) s m args below meth c g 3 (MQ below (QcM g (rV Q)) args s 0 0 (gA g)) 0 0 2 [(0, .ref a0), (1, .int x1), (2, .int z.1)] [] (z.2)) h (fun K z hK h => ?_)
  exact w_X3_comeByText_B2 C hr hlk hK h
set_option maxHeartbeats 4000000 in
set_option maxRecDepth 100000 in
theorem w_X3_comeByText {p : Program} {l : Launch} {e : Env} {s : State} {m : MethodId} {args : Array Value} {below : List Frame} {meth : Method} {c : Code} {g : Geo} (C : Cx p s m args c cX3_comeByText RX3 3 g) (hr : meth.sig.returnType = none) (hlk : meth.locks = false) {a0 : Nat} {x1 : Int32} {M : Mem} {Q : Mem → Prop} (h : f_X3_comeByText a0 x1 M Q) : E p l e (rmO 4 0 0) s m args below meth c g 3 (MQ below (QcM g (rV Q)) args s 0 0 (gA g)) 0 0 0 [(0, .ref a0), (1, .int x1)] [] M := by
  unfold f_X3_comeByText at h
  refine e_iconst (v := 0) C dX3_comeByText_0 (by decide) ?_
  refine e_istore_n (al' := [(2, .int (0 : Int32)), (0, .ref a0), (1, .int x1)]) C dX3_comeByText_1 rfl (by decide) rfl ?_
  refine e_pick [1, 2, 0] rfl ?_
  exact w_X3_comeByText_L2 C hr hlk h
theorem m_X3_comeByText  {a0 : Nat} {x1 : Int32} {M : Mem} {Q : Mem → Prop} (h : f_X3_comeByText a0 x1 M Q) : Con yX3_comeByText cX3_comeByText 3 none 4 0 0 [.ref a0, .int x1] M (rV Q) :=
  con_of2 (al := [(0, .ref a0), (1, .int x1)]) (by decide) (by exact Nat.le_of_ble_eq_true rfl) (by rfl) (fun p l e s m args below meth c g C hr hlk _ => w_X3_comeByText C hr hlk h)
set_option maxHeartbeats 4000000 in
set_option maxRecDepth 100000 in
theorem w_X3_firstOf_J40 {p : Program} {l : Launch} {e : Env} {s : State} {m : MethodId} {args : Array Value} {below : List Frame} {meth : Method} {c : Code} {g : Geo} (C : Cx p s m args c cX3_firstOf RX3 3 g) (hr : meth.sig.returnType = (some .int)) (hlk : meth.locks = false) {a0 : Nat} {x1 : Int32} {v2 : Int32} {M : Mem} {K11 : Int32 × Mem → Prop} {Q : Int32 → Mem → Prop} (hK11 : ∀ z : Int32 × Mem, K11 z → E p l e (rmO 1 0 0) s m args below meth c g 3 (MQ below (QcM g (rI Q)) args s 0 0 (gA g)) 0 0 11 [(0, .ref a0), (1, .int x1), (2, .int z.1)] [] (z.2)) (h : f_X3_firstOf_J40 a0 x1 v2 M K11 Q) : E p l e (rmO 1 0 0) s m args below meth c g 3 (MQ below (QcM g (rI Q)) args s 0 0 (gA g)) 0 0 40 [(0, .ref a0), (1, .int x1), (2, .int v2)] [] M := by
  unfold f_X3_firstOf_J40 at h
  refine e_iinc (v := (v2 + 1)) (al' := [(2, .int (v2 + 1)), (0, .ref a0), (1, .int x1)]) C 2 dX3_firstOf_40 rfl rfl (by decide) rfl ?_
  refine e_goto (tgt := 11) C dX3_firstOf_43 (by decide) ?_
  refine e_pick [1, 2, 0] rfl ?_
  exact hK11 ((v2 + 1), M) h
set_option maxHeartbeats 4000000 in
set_option maxRecDepth 100000 in
theorem w_X3_firstOf_B11 {p : Program} {l : Launch} {e : Env} {s : State} {m : MethodId} {args : Array Value} {below : List Frame} {meth : Method} {c : Code} {g : Geo} (C : Cx p s m args c cX3_firstOf RX3 3 g) (hr : meth.sig.returnType = (some .int)) (hlk : meth.locks = false) {a0 : Nat} {x1 : Int32} {v2 : Int32} {M : Mem} {K11 : Int32 × Mem → Prop} {Q : Int32 → Mem → Prop} (hK11 : ∀ z : Int32 × Mem, K11 z → E p l e (rmO 1 0 0) s m args below meth c g 3 (MQ below (QcM g (rI Q)) args s 0 0 (gA g)) 0 0 11 [(0, .ref a0), (1, .int x1), (2, .int z.1)] [] (z.2)) (h : f_X3_firstOf_B11 a0 x1 v2 M K11 Q) : E p l e (rmO 1 0 0) s m args below meth c g 3 (MQ below (QcM g (rI Q)) args s 0 0 (gA g)) 0 0 11 [(0, .ref a0), (1, .int x1), (2, .int v2)] [] M := by
  unfold f_X3_firstOf_B11 at h
  refine e_iload_n C 2 dX3_firstOf_11 rfl rfl ?_
  refine e_aload_n C 0 dX3_firstOf_12 rfl rfl ?_
  obtain ⟨o1, h⟩ := h
  refine e_getI C [3] 6 (fg_of fg_X3_82) o1 dX3_firstOf_13 ?_
  refine e_icmp_ge (tgt := 46) C dX3_firstOf_16 (by decide) (fun q2 => ?_) (fun q2 => ?_)
  · replace h := ite_t h q2
    refine e_iconst (v := -1) C dX3_firstOf_46 (by decide) ?_
    exact e_iret C hr hlk (Nat.le_refl _) (Nat.le_refl _) dX3_firstOf_47 ⟨_, rfl, h⟩
  · replace h := ite_f h q2
    refine e_aload_n C 0 dX3_firstOf_19 rfl rfl ?_
    refine e_getR C [3] 2 (fg_of fg_X3_18) o1 dX3_firstOf_20 ?_
    refine e_iload_n C 2 dX3_firstOf_23 rfl rfl ?_
    obtain ⟨b3, p4, h⟩ := h
    try rw [p4]
    obtain ⟨o5, h⟩ := h
    refine e_iald C o5 dX3_firstOf_24 ?_
    refine e_iload_n C 1 dX3_firstOf_25 rfl rfl ?_
    refine e_icmp_ne (tgt := 40) C dX3_firstOf_26 (by decide) (fun q6 => ?_) (fun q6 => ?_)
    · replace h := ite_f h q6
      exact w_X3_firstOf_J40 C hr hlk hK11 h
    · replace h := ite_t h q6
      refine e_aload_n C 0 dX3_firstOf_29 rfl rfl ?_
      refine e_getR C [3] 4 (fg_of fg_X3_24) o1 dX3_firstOf_30 ?_
      refine e_iload_n C 2 dX3_firstOf_33 rfl rfl ?_
      obtain ⟨b7, p8, h⟩ := h
      try rw [p8]
      obtain ⟨o9, h⟩ := h
      refine e_iald C o9 dX3_firstOf_34 ?_
      refine e_if_ge (tgt := 40) C dX3_firstOf_35 (by decide) (fun q10 => ?_) (fun q10 => ?_)
      · replace h := ite_t h q10
        exact w_X3_firstOf_J40 C hr hlk hK11 h
      · replace h := ite_f h q10
        refine e_iload_n C 2 dX3_firstOf_38 rfl rfl ?_
        exact e_iret C hr hlk (Nat.le_refl _) (Nat.le_refl _) dX3_firstOf_39 ⟨_, rfl, h⟩
set_option maxHeartbeats 4000000 in
set_option maxRecDepth 100000 in
theorem w_X3_firstOf_L11 {p : Program} {l : Launch} {e : Env} {s : State} {m : MethodId} {args : Array Value} {below : List Frame} {meth : Method} {c : Code} {g : Geo} (C : Cx p s m args c cX3_firstOf RX3 3 g) (hr : meth.sig.returnType = (some .int)) (hlk : meth.locks = false) {a0 : Nat} {x1 : Int32} {v2 : Int32} {M : Mem} {Q : Int32 → Mem → Prop} (h : f_X3_firstOf_L11 a0 x1 v2 M Q) : E p l e (rmO 1 0 0) s m args below meth c g 3 (MQ below (QcM g (rI Q)) args s 0 0 (gA g)) 0 0 11 [(0, .ref a0), (1, .int x1), (2, .int v2)] [] M := by
  unfold f_X3_firstOf_L11 at h
  refine loop_E (W := fun z : Int32 × Mem => E p l e (rmO 1 0 0) s m args below meth c g 3 (MQ below (QcM g (rI Q)) args s 0 0 (gA g)) 0 0 11 [(0, .ref a0), (1, .int x1), (2, .int z.1)] [] (z.2)) h (fun K z hK h => ?_)
  exact w_X3_firstOf_B11 C hr hlk hK h
set_option maxHeartbeats 4000000 in
set_option maxRecDepth 100000 in
theorem w_X3_firstOf {p : Program} {l : Launch} {e : Env} {s : State} {m : MethodId} {args : Array Value} {below : List Frame} {meth : Method} {c : Code} {g : Geo} (C : Cx p s m args c cX3_firstOf RX3 3 g) (hr : meth.sig.returnType = (some .int)) (hlk : meth.locks = false) {a0 : Nat} {x1 : Int32} {M : Mem} {Q : Int32 → Mem → Prop} (h : f_X3_firstOf a0 x1 M Q) : E p l e (rmO 1 0 0) s m args below meth c g 3 (MQ below (QcM g (rI Q)) args s 0 0 (gA g)) 0 0 0 [(0, .ref a0), (1, .int x1)] [] M := by
  unfold f_X3_firstOf at h
  refine e_aload_n C 0 dX3_firstOf_0 rfl rfl ?_
  obtain ⟨o1, h⟩ := h
  refine e_getR C [3] 16 (fg_of fg_X3_30) o1 dX3_firstOf_1 ?_
  refine e_iload_n C 1 dX3_firstOf_4 rfl rfl ?_
  obtain ⟨b2, p3, h⟩ := h
  try rw [p3]
  obtain ⟨o4, h⟩ := h
  refine e_iald C o4 dX3_firstOf_5 ?_
  refine e_if_le (tgt := 46) C dX3_firstOf_6 (by decide) (fun q5 => ?_) (fun q5 => ?_)
  · replace h := ite_t h q5
    refine e_iconst (v := -1) C dX3_firstOf_46 (by decide) ?_
    exact e_iret C hr hlk (Nat.le_refl _) (Nat.le_refl _) dX3_firstOf_47 ⟨_, rfl, h⟩
  · replace h := ite_f h q5
    refine e_iconst (v := 0) C dX3_firstOf_9 (by decide) ?_
    refine e_istore_n (al' := [(2, .int (0 : Int32)), (0, .ref a0), (1, .int x1)]) C dX3_firstOf_10 rfl (by decide) rfl ?_
    refine e_pick [1, 2, 0] rfl ?_
    exact w_X3_firstOf_L11 C hr hlk h
theorem m_X3_firstOf  {a0 : Nat} {x1 : Int32} {M : Mem} {Q : Int32 → Mem → Prop} (h : f_X3_firstOf a0 x1 M Q) : Con yX3_firstOf cX3_firstOf 3 (some .int) 1 0 0 [.ref a0, .int x1] M (rI Q) :=
  con_of2 (al := [(0, .ref a0), (1, .int x1)]) (by decide) (by exact Nat.le_of_ble_eq_true rfl) (by rfl) (fun p l e s m args below meth c g C hr hlk _ => w_X3_firstOf C hr hlk h)
set_option maxHeartbeats 4000000 in
set_option maxRecDepth 100000 in
theorem w_X3_serve_J82 {p : Program} {l : Launch} {e : Env} {s : State} {m : MethodId} {args : Array Value} {below : List Frame} {meth : Method} {c : Code} {g : Geo} (C : Cx p s m args c cX3_serve RX3 4 g) (hr : meth.sig.returnType = none) (hlk : meth.locks = false) {a0 : Nat} {v1 : Int32} {v2 : Int32} {v3 : Int32} {t0 : Int32} {t1 : Option Nat} {M : Mem} {Q : Mem → Prop} (h : f_X3_serve_J82 a0 v1 v2 v3 t0 t1 M Q) : E p l e (rmO 3 0 0) s m args below meth c g 4 (MQ below (QcM g (rV Q)) args s 0 0 (gA g)) 0 0 82 [(0, .ref a0), (1, .int v1), (2, .int v2), (3, .int v3)] [.int t0, va_rf t1] M := by
  unfold f_X3_serve_J82 at h
  obtain ⟨b1, rfl, h⟩ := h
  obtain ⟨o3, h⟩ := h
  refine e_putI C [3] 18 false (fun z => by cases z) fp_X3_91 o3 dX3_serve_82 ?_
  refine nmE (fun M4 e5 => ?_)
  replace h := h M4 e5
  have o6 : isO M4 b1 [3] := by rw [e5]; exact o3
  refine e_aload_n C 0 dX3_serve_85 rfl rfl ?_
  obtain ⟨o7, h⟩ := h
  refine e_getR C [3] 16 (fg_of fg_X3_30) o7 dX3_serve_86 ?_
  refine e_iload_n C 2 dX3_serve_89 rfl rfl ?_
  refine e_dup2 C rfl (va_cat _) dX3_serve_90 ?_
  obtain ⟨b8, p9, h⟩ := h
  try rw [p9]
  obtain ⟨o10, h⟩ := h
  refine e_iald C o10 dX3_serve_91 ?_
  refine e_iconst (v := 1) C dX3_serve_92 (by decide) ?_
  refine e_isub C dX3_serve_93 ?_
  obtain ⟨o11, h⟩ := h
  refine e_iast C o11 dX3_serve_94 ?_
  refine nmE (fun M12 e13 => ?_)
  replace h := h M12 e13
  have o14 : isO M12 b1 [3] := by rw [e13]; exact o6
  have o15 : isO M12 a0 [3] := by rw [e13]; exact o7
  have p16 : mP M12 a0 16 = some b8 := by rw [e13]; exact p9
  refine e_aload_n C 0 dX3_serve_95 rfl rfl ?_
  refine e_getR C [3] 17 (fg_of fg_X3_33) o15 dX3_serve_96 ?_
  refine e_iload_n C 2 dX3_serve_99 rfl rfl ?_
  refine e_dup2 C rfl (va_cat _) dX3_serve_100 ?_
  obtain ⟨b17, p18, h⟩ := h
  try rw [p18]
  obtain ⟨o19, h⟩ := h
  refine e_iald C o19 dX3_serve_101 ?_
  refine e_iload_n C 3 dX3_serve_102 rfl rfl ?_
  refine e_isub C dX3_serve_103 ?_
  obtain ⟨o20, h⟩ := h
  refine e_iast C o20 dX3_serve_104 ?_
  refine nmE (fun M21 e22 => ?_)
  replace h := h M21 e22
  have o23 : isO M21 b1 [3] := by rw [e22]; exact o14
  have o24 : isO M21 a0 [3] := by rw [e22]; exact o15
  have p25 : mP M21 a0 16 = some b8 := by rw [e22]; exact p16
  have p26 : mP M21 a0 17 = some b17 := by rw [e22]; exact p18
  refine e_aload_n C 0 dX3_serve_105 rfl rfl ?_
  refine e_getR C [3] 4 (fg_of fg_X3_24) o24 dX3_serve_106 ?_
  refine e_iload_n C 1 dX3_serve_109 rfl rfl ?_
  refine e_aload_n C 0 dX3_serve_110 rfl rfl ?_
  refine e_getI C [3] 15 (fg_of fg_X3_44) o24 dX3_serve_111 ?_
  obtain ⟨b27, p28, h⟩ := h
  try rw [p28]
  obtain ⟨o29, h⟩ := h
  refine e_iast C o29 dX3_serve_114 ?_
  refine nmE (fun M30 e31 => ?_)
  replace h := h M30 e31
  have o32 : isO M30 b1 [3] := by rw [e31]; exact o23
  have o33 : isO M30 a0 [3] := by rw [e31]; exact o24
  have p34 : mP M30 a0 16 = some b8 := by rw [e31]; exact p25
  have p35 : mP M30 a0 17 = some b17 := by rw [e31]; exact p26
  have p36 : mP M30 a0 4 = some b27 := by rw [e31]; exact p28
  refine e_aload_n C 0 dX3_serve_115 rfl rfl ?_
  refine e_aload_n C 0 dX3_serve_116 rfl rfl ?_
  refine e_getI C [3] 15 (fg_of fg_X3_44) o33 dX3_serve_117 ?_
  refine e_iload_n C 3 dX3_serve_120 rfl rfl ?_
  refine e_iadd C dX3_serve_121 ?_
  refine e_putI C [3] 9 false (fun z => by cases z) fp_X3_59 o33 dX3_serve_122 ?_
  refine nmE (fun M37 e38 => ?_)
  replace h := h M37 e38
  have o39 : isO M37 b1 [3] := by rw [e38]; exact o32
  have o40 : isO M37 a0 [3] := by rw [e38]; exact o33
  have p41 : mP M37 a0 16 = some b8 := by rw [e38]; exact p34
  have p42 : mP M37 a0 17 = some b17 := by rw [e38]; exact p35
  have p43 : mP M37 a0 4 = some b27 := by rw [e38]; exact p36
  refine e_aload_n C 0 dX3_serve_125 rfl rfl ?_
  refine e_getR C [3] 5 (fg_of fg_X3_27) o40 dX3_serve_126 ?_
  refine e_aload_n C 0 dX3_serve_129 rfl rfl ?_
  refine e_getI C [3] 7 (fg_of fg_X3_85) o40 dX3_serve_130 ?_
  refine e_iload_n C 1 dX3_serve_133 rfl rfl ?_
  obtain ⟨b44, p45, h⟩ := h
  try rw [p45]
  obtain ⟨o46, h⟩ := h
  refine e_iast C o46 dX3_serve_134 ?_
  refine nmE (fun M47 e48 => ?_)
  replace h := h M47 e48
  have o49 : isO M47 b1 [3] := by rw [e48]; exact o39
  have o50 : isO M47 a0 [3] := by rw [e48]; exact o40
  have p51 : mP M47 a0 16 = some b8 := by rw [e48]; exact p41
  have p52 : mP M47 a0 17 = some b17 := by rw [e48]; exact p42
  have p53 : mP M47 a0 4 = some b27 := by rw [e48]; exact p43
  have p54 : mP M47 a0 5 = some b44 := by rw [e48]; exact p45
  refine e_aload_n C 0 dX3_serve_135 rfl rfl ?_
  refine e_dup C rfl dX3_serve_136 ?_
  refine e_getI C [3] 7 (fg_of fg_X3_85) o50 dX3_serve_137 ?_
  refine e_iconst (v := 1) C dX3_serve_140 (by decide) ?_
  refine e_iadd C dX3_serve_141 ?_
  refine e_putI C [3] 7 false (fun z => by cases z) fp_X3_85 o50 dX3_serve_142 ?_
  refine nmE (fun M55 e56 => ?_)
  replace h := h M55 e56
  have o57 : isO M55 b1 [3] := by rw [e56]; exact o49
  have o58 : isO M55 a0 [3] := by rw [e56]; exact o50
  have p59 : mP M55 a0 16 = some b8 := by rw [e56]; exact p51
  have p60 : mP M55 a0 17 = some b17 := by rw [e56]; exact p52
  have p61 : mP M55 a0 4 = some b27 := by rw [e56]; exact p53
  have p62 : mP M55 a0 5 = some b44 := by rw [e56]; exact p54
  exact e_vret C hr hlk (Nat.le_refl _) (Nat.le_refl _) dX3_serve_145 ⟨rfl, h⟩
set_option maxHeartbeats 4000000 in
set_option maxRecDepth 100000 in
theorem w_X3_serve {p : Program} {l : Launch} {e : Env} {s : State} {m : MethodId} {args : Array Value} {below : List Frame} {meth : Method} {c : Code} {g : Geo} (C : Cx p s m args c cX3_serve RX3 4 g) (hr : meth.sig.returnType = none) (hlk : meth.locks = false) {a0 : Nat} {M : Mem} {Q : Mem → Prop} (h : f_X3_serve a0 M Q) : E p l e (rmO 3 0 0) s m args below meth c g 4 (MQ below (QcM g (rV Q)) args s 0 0 (gA g)) 0 0 0 [(0, .ref a0)] [] M := by
  unfold f_X3_serve at h
  refine e_aload_n C 0 dX3_serve_0 rfl rfl ?_
  obtain ⟨o1, h⟩ := h
  refine e_getI C [3] 15 (fg_of fg_X3_44) o1 dX3_serve_1 ?_
  refine e_aload_n C 0 dX3_serve_4 rfl rfl ?_
  refine e_getI C [3] 9 (fg_of fg_X3_59) o1 dX3_serve_5 ?_
  refine e_icmp_ge (tgt := 12) C dX3_serve_8 (by decide) (fun q2 => ?_) (fun q2 => ?_)
  · replace h := ite_t h q2
    refine e_aload_n C 0 dX3_serve_12 rfl rfl ?_
    refine e_getR C [3] 11 (fg_of fg_X3_68) o1 dX3_serve_13 ?_
    refine e_aload_n C 0 dX3_serve_16 rfl rfl ?_
    refine e_iconst (v := 1) C dX3_serve_17 (by decide) ?_
    refine e_callV (as := [.int (1 : Int32)]) C wb_X3_firstOf wv_X3_151 (ci := 3) rfl rfl (isO_1 o1) (m_X3_firstOf h) rfl ⟨Nat.le_of_ble_eq_true rfl, Nat.le_of_ble_eq_true rfl⟩ ⟨Nat.le_of_ble_eq_true rfl, Nat.le_of_ble_eq_true rfl⟩ (by first | exact Nat.le_of_ble_eq_true rfl | (simp only [List.map_cons, List.map_nil, va_cat, List.sum_cons, List.sum_nil]; exact Nat.le_of_ble_eq_true rfl)) dX3_serve_18 (kI (fun w3 M4 h29 => ?_))
    refine e_aload_n C 0 dX3_serve_21 rfl rfl ?_
    refine e_iconst (v := 0) C dX3_serve_22 (by decide) ?_
    obtain ⟨o7, h29⟩ := h29
    refine e_callV (as := [.int (0 : Int32)]) C wb_X3_firstOf wv_X3_151 (ci := 3) rfl rfl (isO_1 o7) (m_X3_firstOf h29) rfl ⟨Nat.le_of_ble_eq_true rfl, Nat.le_of_ble_eq_true rfl⟩ ⟨Nat.le_of_ble_eq_true rfl, Nat.le_of_ble_eq_true rfl⟩ (by first | exact Nat.le_of_ble_eq_true rfl | (simp only [List.map_cons, List.map_nil, va_cat, List.sum_cons, List.sum_nil]; exact Nat.le_of_ble_eq_true rfl)) dX3_serve_23 (kI (fun w5 M6 h28 => ?_))
    refine e_aload_n C 0 dX3_serve_26 rfl rfl ?_
    obtain ⟨o8, h28⟩ := h28
    refine e_getI C [3] 18 (fg_of fg_X3_91) o8 dX3_serve_27 ?_
    obtain ⟨b9, p10, h28⟩ := h28
    try rw [p10]
    have kk : ∀ (w11 : Int32) (M12 : Mem), (if w11 < 0 then Q M12 else (isO M12 a0 [3] ∧ (if (mI M12 a0 7) < (40 : Int32) then (∃ b16, (mP M12 a0 2) = some b16 ∧ (isA M12 b16 0 w11 ∧ (∃ b19, (mP M12 a0 0) = some b19 ∧ (isA M12 b19 0 w11 ∧ (f_X3_timeOf a0 (mI M12 b19 (w11).toNatClampNeg) M12 (fun w22 M23 => (if (mI M12 b16 (w11).toNatClampNeg) = (1 : Int32) then (isO M23 a0 [3] ∧ f_X3_serve_J82 a0 w11 (mI M12 b16 (w11).toNatClampNeg) w22 ((mI M23 a0 18) + (1 : Int32)) (some a0) M23 Q) else f_X3_serve_J82 a0 w11 (mI M12 b16 (w11).toNatClampNeg) w22 (0 : Int32) (some a0) M23 Q))))))) else Q M12))) → E p l e (rmO 3 0 0) s m args below meth c g 4 (MQ below (QcM g (rV Q)) args s 0 0 (gA g)) 0 0 33 [(0, .ref a0)] [.int w11] M12 := by
      intro w11 M12 h27
      refine e_istore_n (al' := [(1, .int w11), (0, .ref a0)]) C dX3_serve_33 rfl (by decide) rfl ?_
      refine e_iload_n C 0 dX3_serve_34 rfl rfl ?_
      refine e_if_lt (tgt := 47) C dX3_serve_35 (by decide) (fun q13 => ?_) (fun q13 => ?_)
      · replace h27 := ite_t h27 q13
        exact e_vret C hr hlk (Nat.le_refl _) (Nat.le_refl _) dX3_serve_47 ⟨rfl, h27⟩
      · replace h27 := ite_f h27 q13
        refine e_aload_n C 1 dX3_serve_38 rfl rfl ?_
        obtain ⟨o14, h27⟩ := h27
        refine e_getI C [3] 7 (fg_of fg_X3_85) o14 dX3_serve_39 ?_
        refine e_bipush (v := 40) C dX3_serve_42 (by decide) ?_
        refine e_icmp_lt (tgt := 48) C dX3_serve_44 (by decide) (fun q15 => ?_) (fun q15 => ?_)
        · replace h27 := ite_t h27 q15
          refine e_aload_n C 1 dX3_serve_48 rfl rfl ?_
          refine e_getR C [3] 2 (fg_of fg_X3_18) o14 dX3_serve_49 ?_
          refine e_iload_n C 0 dX3_serve_52 rfl rfl ?_
          obtain ⟨b16, p17, h27⟩ := h27
          try rw [p17]
          obtain ⟨o18, h27⟩ := h27
          refine e_iald C o18 dX3_serve_53 ?_
          refine e_istore_n (al' := [(2, .int (mI M12 b16 (w11).toNatClampNeg)), (1, .int w11), (0, .ref a0)]) C dX3_serve_54 rfl (by decide) rfl ?_
          refine e_aload_n C 2 dX3_serve_55 rfl rfl ?_
          refine e_aload_n C 2 dX3_serve_56 rfl rfl ?_
          refine e_getR C [3] 0 (fg_of fg_X3_9) o14 dX3_serve_57 ?_
          refine e_iload_n C 1 dX3_serve_60 rfl rfl ?_
          obtain ⟨b19, p20, h27⟩ := h27
          try rw [p20]
          obtain ⟨o21, h27⟩ := h27
          refine e_iald C o21 dX3_serve_61 ?_
          refine e_callV (as := [.int (mI M12 b19 (w11).toNatClampNeg)]) C wb_X3_timeOf wv_X3_137 (ci := 3) rfl rfl (isO_1 o14) (m_X3_timeOf h27) rfl ⟨Nat.le_of_ble_eq_true rfl, Nat.le_of_ble_eq_true rfl⟩ ⟨Nat.le_of_ble_eq_true rfl, Nat.le_of_ble_eq_true rfl⟩ (by first | exact Nat.le_of_ble_eq_true rfl | (simp only [List.map_cons, List.map_nil, va_cat, List.sum_cons, List.sum_nil]; exact Nat.le_of_ble_eq_true rfl)) dX3_serve_62 (kI (fun w22 M23 h26 => ?_))
          refine e_istore_n (al' := [(3, .int w22), (2, .int (mI M12 b16 (w11).toNatClampNeg)), (1, .int w11), (0, .ref a0)]) C dX3_serve_65 rfl (by decide) rfl ?_
          refine e_aload_n C 3 dX3_serve_66 rfl rfl ?_
          refine e_iload_n C 1 dX3_serve_67 rfl rfl ?_
          refine e_iconst (v := 1) C dX3_serve_68 (by decide) ?_
          refine e_icmp_ne (tgt := 81) C dX3_serve_69 (by decide) (fun q24 => ?_) (fun q24 => ?_)
          · replace h26 := ite_f h26 q24
            refine e_iconst (v := 0) C dX3_serve_81 (by decide) ?_
            refine e_pick [3, 2, 1, 0] rfl ?_
            exact w_X3_serve_J82 C hr hlk h26
          · replace h26 := ite_t h26 q24
            refine e_aload_n C 3 dX3_serve_72 rfl rfl ?_
            obtain ⟨o25, h26⟩ := h26
            refine e_getI C [3] 18 (fg_of fg_X3_91) o25 dX3_serve_73 ?_
            refine e_iconst (v := 1) C dX3_serve_76 (by decide) ?_
            refine e_iadd C dX3_serve_77 ?_
            refine e_goto (tgt := 82) C dX3_serve_78 (by decide) ?_
            refine e_pick [3, 2, 1, 0] rfl ?_
            exact w_X3_serve_J82 C hr hlk h26
        · replace h27 := ite_f h27 q15
          exact e_vret C hr hlk (Nat.le_refl _) (Nat.le_refl _) dX3_serve_47 ⟨rfl, h27⟩
    rcases h28 with ⟨h0, h28⟩ | ⟨h0, h28⟩ | ⟨h0, h28⟩ | ⟨h0, h28⟩ | ⟨h0, h28⟩ | ⟨h0, h28⟩ | ⟨h0, h28⟩
    · exact e_callV (as := [.int w3, .int w5, .int (mI M6 a0 18)]) C wb_X5_next wv_X3_154 (ci := 5) rfl rfl h0 (m_X5_next h28) rfl ⟨Nat.le_of_ble_eq_true rfl, Nat.le_of_ble_eq_true rfl⟩ ⟨Nat.le_of_ble_eq_true rfl, Nat.le_of_ble_eq_true rfl⟩ (by first | exact Nat.le_of_ble_eq_true rfl | (simp only [List.map_cons, List.map_nil, va_cat, List.sum_cons, List.sum_nil]; exact Nat.le_of_ble_eq_true rfl)) dX3_serve_30 (kI kk)
    · exact e_callU (as := [.int w3, .int w5, .int (mI M6 a0 18)]) C wb_X1_next wu_X3_154_1 (ci := 1) rfl h0 (m_X1_next h28) rfl ⟨Nat.le_of_ble_eq_true rfl, Nat.le_of_ble_eq_true rfl⟩ ⟨Nat.le_of_ble_eq_true rfl, Nat.le_of_ble_eq_true rfl⟩ (by first | exact Nat.le_of_ble_eq_true rfl | (simp only [List.map_cons, List.map_nil, va_cat, List.sum_cons, List.sum_nil]; exact Nat.le_of_ble_eq_true rfl)) dX3_serve_30 (kI kk)
    · exact e_callU (as := [.int w3, .int w5, .int (mI M6 a0 18)]) C wb_X5_next wu_X3_154_2 (ci := 2) rfl h0 (m_X5_next h28) rfl ⟨Nat.le_of_ble_eq_true rfl, Nat.le_of_ble_eq_true rfl⟩ ⟨Nat.le_of_ble_eq_true rfl, Nat.le_of_ble_eq_true rfl⟩ (by first | exact Nat.le_of_ble_eq_true rfl | (simp only [List.map_cons, List.map_nil, va_cat, List.sum_cons, List.sum_nil]; exact Nat.le_of_ble_eq_true rfl)) dX3_serve_30 (kI kk)
    · exact e_callU (as := [.int w3, .int w5, .int (mI M6 a0 18)]) C wb_X1_next wu_X3_154_4 (ci := 4) rfl h0 (m_X1_next h28) rfl ⟨Nat.le_of_ble_eq_true rfl, Nat.le_of_ble_eq_true rfl⟩ ⟨Nat.le_of_ble_eq_true rfl, Nat.le_of_ble_eq_true rfl⟩ (by first | exact Nat.le_of_ble_eq_true rfl | (simp only [List.map_cons, List.map_nil, va_cat, List.sum_cons, List.sum_nil]; exact Nat.le_of_ble_eq_true rfl)) dX3_serve_30 (kI kk)
    · exact e_callU (as := [.int w3, .int w5, .int (mI M6 a0 18)]) C wb_X7_next wu_X3_154_6 (ci := 6) rfl h0 (m_X7_next h28) rfl ⟨Nat.le_of_ble_eq_true rfl, Nat.le_of_ble_eq_true rfl⟩ ⟨Nat.le_of_ble_eq_true rfl, Nat.le_of_ble_eq_true rfl⟩ (by first | exact Nat.le_of_ble_eq_true rfl | (simp only [List.map_cons, List.map_nil, va_cat, List.sum_cons, List.sum_nil]; exact Nat.le_of_ble_eq_true rfl)) dX3_serve_30 (kI kk)
    · exact e_callU (as := [.int w3, .int w5, .int (mI M6 a0 18)]) C wb_X7_next wu_X3_154_7 (ci := 7) rfl h0 (m_X7_next h28) rfl ⟨Nat.le_of_ble_eq_true rfl, Nat.le_of_ble_eq_true rfl⟩ ⟨Nat.le_of_ble_eq_true rfl, Nat.le_of_ble_eq_true rfl⟩ (by first | exact Nat.le_of_ble_eq_true rfl | (simp only [List.map_cons, List.map_nil, va_cat, List.sum_cons, List.sum_nil]; exact Nat.le_of_ble_eq_true rfl)) dX3_serve_30 (kI kk)
    · exact e_callU (as := [.int w3, .int w5, .int (mI M6 a0 18)]) C wb_X1_next wu_X3_154_9 (ci := 9) rfl h0 (m_X1_next h28) rfl ⟨Nat.le_of_ble_eq_true rfl, Nat.le_of_ble_eq_true rfl⟩ ⟨Nat.le_of_ble_eq_true rfl, Nat.le_of_ble_eq_true rfl⟩ (by first | exact Nat.le_of_ble_eq_true rfl | (simp only [List.map_cons, List.map_nil, va_cat, List.sum_cons, List.sum_nil]; exact Nat.le_of_ble_eq_true rfl)) dX3_serve_30 (kI kk)
  · replace h := ite_f h q2
    exact e_vret C hr hlk (Nat.le_refl _) (Nat.le_refl _) dX3_serve_11 ⟨rfl, h⟩
theorem m_X3_serve  {a0 : Nat} {M : Mem} {Q : Mem → Prop} (h : f_X3_serve a0 M Q) : Con yX3_serve cX3_serve 4 none 3 0 0 [.ref a0] M (rV Q) :=
  con_of2 (al := [(0, .ref a0)]) (by decide) (by exact Nat.le_of_ble_eq_true rfl) (by rfl) (fun p l e s m args below meth c g C hr hlk _ => w_X3_serve C hr hlk h)
set_option maxHeartbeats 4000000 in
set_option maxRecDepth 100000 in
theorem w_X3_pass_B67 {p : Program} {l : Launch} {e : Env} {s : State} {m : MethodId} {args : Array Value} {below : List Frame} {meth : Method} {c : Code} {g : Geo} (C : Cx p s m args c cX3_pass RX3 8 g) (hr : meth.sig.returnType = none) (hlk : meth.locks = false) {a0 : Nat} {r1 : Option Nat} {r2 : Option Nat} {x3 : Int32} {x4 : Int32} {r5 : Option Nat} {x6 : Int32} {v7 : Int32} {M : Mem} {K67 : Int32 × Mem → Prop} {Q : Mem → Prop} (hK67 : ∀ z : Int32 × Mem, K67 z → E p l e (rmO 5 0 0) s m args below meth c g 8 (MQ below (QcM g (rV Q)) args s 0 0 (gA g)) 0 0 67 [(0, .ref a0), (1, va_rf r1), (2, va_rf r2), (3, .int x3), (4, .int x4), (5, va_rf r5), (6, .int x6), (7, .int z.1)] [] (z.2)) (h : f_X3_pass_B67 a0 r1 r2 x3 x4 r5 x6 v7 M K67 Q) : E p l e (rmO 5 0 0) s m args below meth c g 8 (MQ below (QcM g (rV Q)) args s 0 0 (gA g)) 0 0 67 [(0, .ref a0), (1, va_rf r1), (2, va_rf r2), (3, .int x3), (4, .int x4), (5, va_rf r5), (6, .int x6), (7, .int v7)] [] M := by
  unfold f_X3_pass_B67 at h
  refine e_iload C 7 dX3_pass_67 rfl ?_
  refine e_if_le (tgt := 97) C dX3_pass_69 (by decide) (fun q1 => ?_) (fun q1 => ?_)
  · replace h := ite_t h q1
    exact e_vret C hr hlk (Nat.le_refl _) (Nat.le_refl _) dX3_pass_97 ⟨rfl, h⟩
  · replace h := ite_f h q1
    refine e_aload_n C 0 dX3_pass_72 rfl rfl ?_
    refine e_aload_n C 0 dX3_pass_73 rfl rfl ?_
    obtain ⟨o2, h⟩ := h
    refine e_getI C [3] 15 (fg_of fg_X3_44) o2 dX3_pass_74 ?_
    refine e_aload_n C 0 dX3_pass_77 rfl rfl ?_
    refine e_getI C [3] 9 (fg_of fg_X3_59) o2 dX3_pass_78 ?_
    refine e_mmax C wd_618 wd_619 wd_12 wd_620 ⟨Nat.le_of_ble_eq_true rfl, Nat.le_of_ble_eq_true rfl⟩ ⟨Nat.le_of_ble_eq_true rfl, Nat.le_of_ble_eq_true rfl⟩ (by first | exact Nat.le_of_ble_eq_true rfl | (simp only [List.map_cons, List.map_nil, va_cat, List.sum_cons, List.sum_nil]; exact Nat.le_of_ble_eq_true rfl)) dX3_pass_81 ?_
    refine e_putI C [3] 15 false (fun z => by cases z) fp_X3_44 o2 dX3_pass_84 ?_
    refine nmE (fun M3 e4 => ?_)
    replace h := h M3 e4
    have o5 : isO M3 a0 [3] := by rw [e4]; exact o2
    refine e_aload_n C 0 dX3_pass_87 rfl rfl ?_
    refine e_callV (as := []) C wb_X3_serve wv_X3_56 (ci := 3) rfl rfl (isO_1 o5) (m_X3_serve h) rfl ⟨Nat.le_of_ble_eq_true rfl, Nat.le_of_ble_eq_true rfl⟩ ⟨Nat.le_of_ble_eq_true rfl, Nat.le_of_ble_eq_true rfl⟩ (by first | exact Nat.le_of_ble_eq_true rfl | (simp only [List.map_cons, List.map_nil, va_cat, List.sum_cons, List.sum_nil]; exact Nat.le_of_ble_eq_true rfl)) dX3_pass_88 (kV (fun M7 h8 => ?_))
    refine e_iinc (v := (v7 + -1)) (al' := [(7, .int (v7 + -1)), (0, .ref a0), (1, va_rf r1), (2, va_rf r2), (3, .int x3), (4, .int x4), (5, va_rf r5), (6, .int x6)]) C 7 dX3_pass_91 rfl rfl (by decide) rfl ?_
    refine e_goto (tgt := 67) C dX3_pass_94 (by decide) ?_
    refine e_pick [1, 2, 3, 4, 5, 6, 7, 0] rfl ?_
    exact hK67 ((v7 + -1), M7) h8
set_option maxHeartbeats 4000000 in
set_option maxRecDepth 100000 in
theorem w_X3_pass_L67 {p : Program} {l : Launch} {e : Env} {s : State} {m : MethodId} {args : Array Value} {below : List Frame} {meth : Method} {c : Code} {g : Geo} (C : Cx p s m args c cX3_pass RX3 8 g) (hr : meth.sig.returnType = none) (hlk : meth.locks = false) {a0 : Nat} {r1 : Option Nat} {r2 : Option Nat} {x3 : Int32} {x4 : Int32} {r5 : Option Nat} {x6 : Int32} {v7 : Int32} {M : Mem} {Q : Mem → Prop} (h : f_X3_pass_L67 a0 r1 r2 x3 x4 r5 x6 v7 M Q) : E p l e (rmO 5 0 0) s m args below meth c g 8 (MQ below (QcM g (rV Q)) args s 0 0 (gA g)) 0 0 67 [(0, .ref a0), (1, va_rf r1), (2, va_rf r2), (3, .int x3), (4, .int x4), (5, va_rf r5), (6, .int x6), (7, .int v7)] [] M := by
  unfold f_X3_pass_L67 at h
  refine loop_E (W := fun z : Int32 × Mem => E p l e (rmO 5 0 0) s m args below meth c g 8 (MQ below (QcM g (rV Q)) args s 0 0 (gA g)) 0 0 67 [(0, .ref a0), (1, va_rf r1), (2, va_rf r2), (3, .int x3), (4, .int x4), (5, va_rf r5), (6, .int x6), (7, .int z.1)] [] (z.2)) h (fun K z hK h => ?_)
  exact w_X3_pass_B67 C hr hlk hK h
set_option maxHeartbeats 4000000 in
set_option maxRecDepth 100000 in
theorem w_X3_pass_B14 {p : Program} {l : Launch} {e : Env} {s : State} {m : MethodId} {args : Array Value} {below : List Frame} {meth : Method} {c : Code} {g : Geo} (C : Cx p s m args c cX3_pass RX3 8 g) (hr : meth.sig.returnType = none) (hlk : meth.locks = false) {a0 : Nat} {r1 : Option Nat} {r2 : Option Nat} {x3 : Int32} {x4 : Int32} {r5 : Option Nat} {x6 : Int32} {M : Mem} {K14 : Mem → Prop} {Q : Mem → Prop} (hK14 : ∀ z : Mem, K14 z → E p l e (rmO 5 0 0) s m args below meth c g 8 (MQ below (QcM g (rV Q)) args s 0 0 (gA g)) 0 0 14 [(0, .ref a0), (1, va_rf r1), (2, va_rf r2), (3, .int x3), (4, .int x4), (5, va_rf r5), (6, .int x6)] [] z) (h : f_X3_pass_B14 a0 r1 r2 x3 x4 r5 x6 M K14 Q) : E p l e (rmO 5 0 0) s m args below meth c g 8 (MQ below (QcM g (rV Q)) args s 0 0 (gA g)) 0 0 14 [(0, .ref a0), (1, va_rf r1), (2, va_rf r2), (3, .int x3), (4, .int x4), (5, va_rf r5), (6, .int x6)] [] M := by
  unfold f_X3_pass_B14 at h
  refine e_aload_n C 0 dX3_pass_14 rfl rfl ?_
  obtain ⟨o1, h⟩ := h
  refine e_getI C [3] 15 (fg_of fg_X3_44) o1 dX3_pass_15 ?_
  refine e_bipush (v := 60) C dX3_pass_18 (by decide) ?_
  refine e_icmp_ge (tgt := 52) C dX3_pass_20 (by decide) (fun q2 => ?_) (fun q2 => ?_)
  · replace h := ite_t h q2
    refine e_aload_n C 0 dX3_pass_52 rfl rfl ?_
    refine e_getR C [3] 16 (fg_of fg_X3_30) o1 dX3_pass_53 ?_
    refine e_iconst (v := 0) C dX3_pass_56 (by decide) ?_
    obtain ⟨b3, p4, h⟩ := h
    try rw [p4]
    obtain ⟨o5, h⟩ := h
    refine e_iald C o5 dX3_pass_57 ?_
    refine e_aload_n C 0 dX3_pass_58 rfl rfl ?_
    refine e_getR C [3] 16 (fg_of fg_X3_30) o1 dX3_pass_59 ?_
    rw [p4]
    refine e_iconst (v := 1) C dX3_pass_62 (by decide) ?_
    obtain ⟨o6, h⟩ := h
    refine e_iald C o6 dX3_pass_63 ?_
    refine e_iadd C dX3_pass_64 ?_
    refine e_istore (al' := [(7, .int ((mI M b3 ((0 : Int32)).toNatClampNeg) + (mI M b3 ((1 : Int32)).toNatClampNeg))), (0, .ref a0), (1, va_rf r1), (2, va_rf r2), (3, .int x3), (4, .int x4), (5, va_rf r5), (6, .int x6)]) C dX3_pass_65 (by decide) rfl ?_
    refine e_pick [1, 2, 3, 4, 5, 6, 7, 0] rfl ?_
    exact w_X3_pass_L67 C hr hlk h
  · replace h := ite_f h q2
    refine e_aload_n C 0 dX3_pass_23 rfl rfl ?_
    refine e_rload C 5 dX3_pass_24 rfl ?_
    refine e_callV (as := [va_rf r5]) C wb_X3_comeByHand wv_X3_48 (ci := 3) rfl rfl (isO_1 o1) (m_X3_comeByHand h) rfl ⟨Nat.le_of_ble_eq_true rfl, Nat.le_of_ble_eq_true rfl⟩ ⟨Nat.le_of_ble_eq_true rfl, Nat.le_of_ble_eq_true rfl⟩ (by first | exact Nat.le_of_ble_eq_true rfl | (simp only [List.map_cons, List.map_nil, va_cat, List.sum_cons, List.sum_nil]; exact Nat.le_of_ble_eq_true rfl)) dX3_pass_26 (kV (fun M8 h21 => ?_))
    refine e_aload_n C 0 dX3_pass_29 rfl rfl ?_
    refine e_iload C 6 dX3_pass_30 rfl ?_
    obtain ⟨o11, h21⟩ := h21
    refine e_callV (as := [.int x6]) C wb_X3_comeByText wv_X3_52 (ci := 3) rfl rfl (isO_1 o11) (m_X3_comeByText h21) rfl ⟨Nat.le_of_ble_eq_true rfl, Nat.le_of_ble_eq_true rfl⟩ ⟨Nat.le_of_ble_eq_true rfl, Nat.le_of_ble_eq_true rfl⟩ (by first | exact Nat.le_of_ble_eq_true rfl | (simp only [List.map_cons, List.map_nil, va_cat, List.sum_cons, List.sum_nil]; exact Nat.le_of_ble_eq_true rfl)) dX3_pass_32 (kV (fun M10 h20 => ?_))
    refine e_aload_n C 0 dX3_pass_35 rfl rfl ?_
    obtain ⟨o14, h20⟩ := h20
    refine e_callV (as := []) C wb_X3_serve wv_X3_56 (ci := 3) rfl rfl (isO_1 o14) (m_X3_serve h20) rfl ⟨Nat.le_of_ble_eq_true rfl, Nat.le_of_ble_eq_true rfl⟩ ⟨Nat.le_of_ble_eq_true rfl, Nat.le_of_ble_eq_true rfl⟩ (by first | exact Nat.le_of_ble_eq_true rfl | (simp only [List.map_cons, List.map_nil, va_cat, List.sum_cons, List.sum_nil]; exact Nat.le_of_ble_eq_true rfl)) dX3_pass_36 (kV (fun M13 h19 => ?_))
    refine e_aload_n C 0 dX3_pass_39 rfl rfl ?_
    refine e_dup C rfl dX3_pass_40 ?_
    obtain ⟨o15, h19⟩ := h19
    refine e_getI C [3] 15 (fg_of fg_X3_44) o15 dX3_pass_41 ?_
    refine e_iconst (v := 1) C dX3_pass_44 (by decide) ?_
    refine e_iadd C dX3_pass_45 ?_
    refine e_putI C [3] 15 false (fun z => by cases z) fp_X3_44 o15 dX3_pass_46 ?_
    refine nmE (fun M16 e17 => ?_)
    replace h19 := h19 M16 e17
    have o18 : isO M16 a0 [3] := by rw [e17]; exact o15
    refine e_goto (tgt := 14) C dX3_pass_49 (by decide) ?_
    exact hK14 M16 h19
set_option maxHeartbeats 4000000 in
set_option maxRecDepth 100000 in
theorem w_X3_pass_L14 {p : Program} {l : Launch} {e : Env} {s : State} {m : MethodId} {args : Array Value} {below : List Frame} {meth : Method} {c : Code} {g : Geo} (C : Cx p s m args c cX3_pass RX3 8 g) (hr : meth.sig.returnType = none) (hlk : meth.locks = false) {a0 : Nat} {r1 : Option Nat} {r2 : Option Nat} {x3 : Int32} {x4 : Int32} {r5 : Option Nat} {x6 : Int32} {M : Mem} {Q : Mem → Prop} (h : f_X3_pass_L14 a0 r1 r2 x3 x4 r5 x6 M Q) : E p l e (rmO 5 0 0) s m args below meth c g 8 (MQ below (QcM g (rV Q)) args s 0 0 (gA g)) 0 0 14 [(0, .ref a0), (1, va_rf r1), (2, va_rf r2), (3, .int x3), (4, .int x4), (5, va_rf r5), (6, .int x6)] [] M := by
  unfold f_X3_pass_L14 at h
  refine loop_E (W := fun z : Mem => E p l e (rmO 5 0 0) s m args below meth c g 8 (MQ below (QcM g (rV Q)) args s 0 0 (gA g)) 0 0 14 [(0, .ref a0), (1, va_rf r1), (2, va_rf r2), (3, .int x3), (4, .int x4), (5, va_rf r5), (6, .int x6)] [] z) h (fun K z hK h => ?_)
  exact w_X3_pass_B14 C hr hlk hK h
set_option maxHeartbeats 4000000 in
set_option maxRecDepth 100000 in
theorem w_X3_pass {p : Program} {l : Launch} {e : Env} {s : State} {m : MethodId} {args : Array Value} {below : List Frame} {meth : Method} {c : Code} {g : Geo} (C : Cx p s m args c cX3_pass RX3 8 g) (hr : meth.sig.returnType = none) (hlk : meth.locks = false) {a0 : Nat} {r1 : Option Nat} {r2 : Option Nat} {x3 : Int32} {x4 : Int32} {r5 : Option Nat} {x6 : Int32} {M : Mem} {Q : Mem → Prop} (h : f_X3_pass a0 r1 r2 x3 x4 r5 x6 M Q) : E p l e (rmO 5 0 0) s m args below meth c g 8 (MQ below (QcM g (rV Q)) args s 0 0 (gA g)) 0 0 0 [(0, .ref a0), (1, va_rf r1), (2, va_rf r2), (3, .int x3), (4, .int x4), (5, va_rf r5), (6, .int x6)] [] M := by
  unfold f_X3_pass at h
  refine e_aload_n C 0 dX3_pass_0 rfl rfl ?_
  refine e_rload_n C 1 dX3_pass_1 rfl rfl ?_
  refine e_rload_n C 2 dX3_pass_2 rfl rfl ?_
  refine e_iload_n C 3 dX3_pass_3 rfl rfl ?_
  refine e_iload C 4 dX3_pass_4 rfl ?_
  obtain ⟨o3, h⟩ := h
  refine e_callV (as := [va_rf r1, va_rf r2, .int x3, .int x4]) C wb_X3_begin wv_X3_40 (ci := 3) rfl rfl (isO_1 o3) (m_X3_begin h) rfl ⟨Nat.le_of_ble_eq_true rfl, Nat.le_of_ble_eq_true rfl⟩ ⟨Nat.le_of_ble_eq_true rfl, Nat.le_of_ble_eq_true rfl⟩ (by first | exact Nat.le_of_ble_eq_true rfl | (simp only [List.map_cons, List.map_nil, va_cat, List.sum_cons, List.sum_nil]; exact Nat.le_of_ble_eq_true rfl)) dX3_pass_6 (kV (fun M2 h8 => ?_))
  refine e_aload_n C 0 dX3_pass_9 rfl rfl ?_
  refine e_iconst (v := 0) C dX3_pass_10 (by decide) ?_
  obtain ⟨o4, h8⟩ := h8
  refine e_putI C [3] 15 false (fun z => by cases z) fp_X3_44 o4 dX3_pass_11 ?_
  refine nmE (fun M5 e6 => ?_)
  replace h8 := h8 M5 e6
  have o7 : isO M5 a0 [3] := by rw [e6]; exact o4
  exact w_X3_pass_L14 C hr hlk h8
theorem m_X3_pass  {a0 : Nat} {r1 : Option Nat} {r2 : Option Nat} {x3 : Int32} {x4 : Int32} {r5 : Option Nat} {x6 : Int32} {M : Mem} {Q : Mem → Prop} (h : f_X3_pass a0 r1 r2 x3 x4 r5 x6 M Q) : Con yX3_pass cX3_pass 8 none 5 0 0 [.ref a0, va_rf r1, va_rf r2, .int x3, .int x4, va_rf r5, .int x6] M (rV Q) :=
  con_of2 (al := [(0, .ref a0), (1, va_rf r1), (2, va_rf r2), (3, .int x3), (4, .int x4), (5, va_rf r5), (6, .int x6)]) (by decide) (by cases r1 <;> cases r2 <;> cases r5 <;> exact Nat.le_of_ble_eq_true rfl) (by cases r1 <;> cases r2 <;> cases r5 <;> rfl) (fun p l e s m args below meth c g C hr hlk _ => w_X3_pass C hr hlk h)
set_option maxHeartbeats 4000000 in
set_option maxRecDepth 100000 in
theorem w_X3_waits {p : Program} {l : Launch} {e : Env} {s : State} {m : MethodId} {args : Array Value} {below : List Frame} {meth : Method} {c : Code} {g : Geo} (C : Cx p s m args c cX3_waits RX3 2 g) (hr : meth.sig.returnType = (some .int)) (hlk : meth.locks = false) {a0 : Nat} {x1 : Int32} {M : Mem} {Q : Int32 → Mem → Prop} (h : f_X3_waits a0 x1 M Q) : E p l e (rmO 1 0 0) s m args below meth c g 2 (MQ below (QcM g (rI Q)) args s 0 0 (gA g)) 0 0 0 [(0, .ref a0), (1, .int x1)] [] M := by
  unfold f_X3_waits at h
  refine e_iload_n C 1 dX3_waits_0 rfl rfl ?_
  refine e_if_lt (tgt := 22) C dX3_waits_1 (by decide) (fun q1 => ?_) (fun q1 => ?_)
  · replace h := ite_t h q1
    refine e_bipush (v := -5) C dX3_waits_22 (by decide) ?_
    refine e_goto (tgt := 40) C dX3_waits_24 (by decide) ?_
    exact e_iret C hr hlk (Nat.le_refl _) (Nat.le_refl _) dX3_waits_40 ⟨_, rfl, h⟩
  · replace h := ite_f h q1
    refine e_iload_n C 1 dX3_waits_4 rfl rfl ?_
    refine e_aload_n C 0 dX3_waits_5 rfl rfl ?_
    obtain ⟨o2, h⟩ := h
    refine e_getI C [3] 6 (fg_of fg_X3_82) o2 dX3_waits_6 ?_
    refine e_icmp_ge (tgt := 22) C dX3_waits_9 (by decide) (fun q3 => ?_) (fun q3 => ?_)
    · replace h := ite_t h q3
      refine e_bipush (v := -5) C dX3_waits_22 (by decide) ?_
      refine e_goto (tgt := 40) C dX3_waits_24 (by decide) ?_
      exact e_iret C hr hlk (Nat.le_refl _) (Nat.le_refl _) dX3_waits_40 ⟨_, rfl, h⟩
    · replace h := ite_f h q3
      refine e_aload_n C 0 dX3_waits_12 rfl rfl ?_
      refine e_getR C [3] 2 (fg_of fg_X3_18) o2 dX3_waits_13 ?_
      refine e_iload_n C 1 dX3_waits_16 rfl rfl ?_
      obtain ⟨b4, p5, h⟩ := h
      try rw [p5]
      obtain ⟨o6, h⟩ := h
      refine e_iald C o6 dX3_waits_17 ?_
      refine e_iconst (v := 2) C dX3_waits_18 (by decide) ?_
      refine e_icmp_ne (tgt := 27) C dX3_waits_19 (by decide) (fun q7 => ?_) (fun q7 => ?_)
      · replace h := ite_f h q7
        refine e_aload_n C 0 dX3_waits_27 rfl rfl ?_
        refine e_getR C [3] 4 (fg_of fg_X3_24) o2 dX3_waits_28 ?_
        refine e_iload_n C 1 dX3_waits_31 rfl rfl ?_
        obtain ⟨b8, p9, h⟩ := h
        try rw [p9]
        obtain ⟨o10, h⟩ := h
        refine e_iald C o10 dX3_waits_32 ?_
        refine e_aload_n C 0 dX3_waits_33 rfl rfl ?_
        refine e_getR C [3] 1 (fg_of fg_X3_15) o2 dX3_waits_34 ?_
        refine e_iload_n C 1 dX3_waits_37 rfl rfl ?_
        obtain ⟨b11, p12, h⟩ := h
        try rw [p12]
        obtain ⟨o13, h⟩ := h
        refine e_iald C o13 dX3_waits_38 ?_
        refine e_isub C dX3_waits_39 ?_
        exact e_iret C hr hlk (Nat.le_refl _) (Nat.le_refl _) dX3_waits_40 ⟨_, rfl, h⟩
      · replace h := ite_t h q7
        refine e_bipush (v := -5) C dX3_waits_22 (by decide) ?_
        refine e_goto (tgt := 40) C dX3_waits_24 (by decide) ?_
        exact e_iret C hr hlk (Nat.le_refl _) (Nat.le_refl _) dX3_waits_40 ⟨_, rfl, h⟩
theorem m_X3_waits  {a0 : Nat} {x1 : Int32} {M : Mem} {Q : Int32 → Mem → Prop} (h : f_X3_waits a0 x1 M Q) : Con yX3_waits cX3_waits 2 (some .int) 1 0 0 [.ref a0, .int x1] M (rI Q) :=
  con_of2 (al := [(0, .ref a0), (1, .int x1)]) (by decide) (by exact Nat.le_of_ble_eq_true rfl) (by rfl) (fun p l e s m args below meth c g C hr hlk _ => w_X3_waits C hr hlk h)
set_option maxHeartbeats 4000000 in
set_option maxRecDepth 100000 in
theorem w_X3_rank_B2 {p : Program} {l : Launch} {e : Env} {s : State} {m : MethodId} {args : Array Value} {below : List Frame} {meth : Method} {c : Code} {g : Geo} (C : Cx p s m args c cX3_rank RX3 3 g) (hr : meth.sig.returnType = (some .int)) (hlk : meth.locks = false) {a0 : Nat} {x1 : Int32} {v2 : Int32} {M : Mem} {K2 : Int32 × Mem → Prop} {Q : Int32 → Mem → Prop} (hK2 : ∀ z : Int32 × Mem, K2 z → E p l e (rmO 1 0 0) s m args below meth c g 3 (MQ below (QcM g (rI Q)) args s 0 0 (gA g)) 0 0 2 [(0, .ref a0), (1, .int x1), (2, .int z.1)] [] (z.2)) (h : f_X3_rank_B2 a0 x1 v2 M K2 Q) : E p l e (rmO 1 0 0) s m args below meth c g 3 (MQ below (QcM g (rI Q)) args s 0 0 (gA g)) 0 0 2 [(0, .ref a0), (1, .int x1), (2, .int v2)] [] M := by
  unfold f_X3_rank_B2 at h
  refine e_iload_n C 2 dX3_rank_2 rfl rfl ?_
  refine e_aload_n C 0 dX3_rank_3 rfl rfl ?_
  obtain ⟨o1, h⟩ := h
  refine e_getI C [3] 7 (fg_of fg_X3_85) o1 dX3_rank_4 ?_
  refine e_icmp_ge (tgt := 28) C dX3_rank_7 (by decide) (fun q2 => ?_) (fun q2 => ?_)
  · replace h := ite_t h q2
    refine e_bipush (v := -5) C dX3_rank_28 (by decide) ?_
    exact e_iret C hr hlk (Nat.le_refl _) (Nat.le_refl _) dX3_rank_30 ⟨_, rfl, h⟩
  · replace h := ite_f h q2
    refine e_aload_n C 0 dX3_rank_10 rfl rfl ?_
    refine e_getR C [3] 5 (fg_of fg_X3_27) o1 dX3_rank_11 ?_
    refine e_iload_n C 2 dX3_rank_14 rfl rfl ?_
    obtain ⟨b3, p4, h⟩ := h
    try rw [p4]
    obtain ⟨o5, h⟩ := h
    refine e_iald C o5 dX3_rank_15 ?_
    refine e_iload_n C 1 dX3_rank_16 rfl rfl ?_
    refine e_icmp_ne (tgt := 22) C dX3_rank_17 (by decide) (fun q6 => ?_) (fun q6 => ?_)
    · replace h := ite_f h q6
      refine e_iinc (v := (v2 + 1)) (al' := [(2, .int (v2 + 1)), (0, .ref a0), (1, .int x1)]) C 2 dX3_rank_22 rfl rfl (by decide) rfl ?_
      refine e_goto (tgt := 2) C dX3_rank_25 (by decide) ?_
      refine e_pick [1, 2, 0] rfl ?_
      exact hK2 ((v2 + 1), M) h
    · replace h := ite_t h q6
      refine e_iload_n C 2 dX3_rank_20 rfl rfl ?_
      exact e_iret C hr hlk (Nat.le_refl _) (Nat.le_refl _) dX3_rank_21 ⟨_, rfl, h⟩
set_option maxHeartbeats 4000000 in
set_option maxRecDepth 100000 in
theorem w_X3_rank_L2 {p : Program} {l : Launch} {e : Env} {s : State} {m : MethodId} {args : Array Value} {below : List Frame} {meth : Method} {c : Code} {g : Geo} (C : Cx p s m args c cX3_rank RX3 3 g) (hr : meth.sig.returnType = (some .int)) (hlk : meth.locks = false) {a0 : Nat} {x1 : Int32} {v2 : Int32} {M : Mem} {Q : Int32 → Mem → Prop} (h : f_X3_rank_L2 a0 x1 v2 M Q) : E p l e (rmO 1 0 0) s m args below meth c g 3 (MQ below (QcM g (rI Q)) args s 0 0 (gA g)) 0 0 2 [(0, .ref a0), (1, .int x1), (2, .int v2)] [] M := by
  unfold f_X3_rank_L2 at h
  refine loop_E (W := fun z : Int32 × Mem => E p l e (rmO 1 0 0) s m args below meth c g 3 (MQ below (QcM g (rI Q)) args s 0 0 (gA g)) 0 0 2 [(0, .ref a0), (1, .int x1), (2, .int z.1)] [] (z.2)) h (fun K z hK h => ?_)
  exact w_X3_rank_B2 C hr hlk hK h
set_option maxHeartbeats 4000000 in
set_option maxRecDepth 100000 in
theorem w_X3_rank {p : Program} {l : Launch} {e : Env} {s : State} {m : MethodId} {args : Array Value} {below : List Frame} {meth : Method} {c : Code} {g : Geo} (C : Cx p s m args c cX3_rank RX3 3 g) (hr : meth.sig.returnType = (some .int)) (hlk : meth.locks = false) {a0 : Nat} {x1 : Int32} {M : Mem} {Q : Int32 → Mem → Prop} (h : f_X3_rank a0 x1 M Q) : E p l e (rmO 1 0 0) s m args below meth c g 3 (MQ below (QcM g (rI Q)) args s 0 0 (gA g)) 0 0 0 [(0, .ref a0), (1, .int x1)] [] M := by
  unfold f_X3_rank at h
  refine e_iconst (v := 0) C dX3_rank_0 (by decide) ?_
  refine e_istore_n (al' := [(2, .int (0 : Int32)), (0, .ref a0), (1, .int x1)]) C dX3_rank_1 rfl (by decide) rfl ?_
  refine e_pick [1, 2, 0] rfl ?_
  exact w_X3_rank_L2 C hr hlk h
theorem m_X3_rank  {a0 : Nat} {x1 : Int32} {M : Mem} {Q : Int32 → Mem → Prop} (h : f_X3_rank a0 x1 M Q) : Con yX3_rank cX3_rank 3 (some .int) 1 0 0 [.ref a0, .int x1] M (rI Q) :=
  con_of2 (al := [(0, .ref a0), (1, .int x1)]) (by decide) (by exact Nat.le_of_ble_eq_true rfl) (by rfl) (fun p l e s m args below meth c g C hr hlk _ => w_X3_rank C hr hlk h)
set_option maxHeartbeats 4000000 in
set_option maxRecDepth 100000 in
theorem w_X3_howMany_J25 {p : Program} {l : Launch} {e : Env} {s : State} {m : MethodId} {args : Array Value} {below : List Frame} {meth : Method} {c : Code} {g : Geo} (C : Cx p s m args c cX3_howMany RX3 4 g) (hr : meth.sig.returnType = (some .int)) (hlk : meth.locks = false) {a0 : Nat} {x1 : Int32} {v2 : Int32} {v3 : Int32} {M : Mem} {K4 : Int32 × Int32 × Mem → Prop} {Q : Int32 → Mem → Prop} (hK4 : ∀ z : Int32 × Int32 × Mem, K4 z → E p l e (rmO 1 0 0) s m args below meth c g 4 (MQ below (QcM g (rI Q)) args s 0 0 (gA g)) 0 0 4 [(0, .ref a0), (1, .int x1), (2, .int z.1), (3, .int z.2.1)] [] (z.2.2)) (h : f_X3_howMany_J25 a0 x1 v2 v3 M K4 Q) : E p l e (rmO 1 0 0) s m args below meth c g 4 (MQ below (QcM g (rI Q)) args s 0 0 (gA g)) 0 0 25 [(0, .ref a0), (1, .int x1), (2, .int v2), (3, .int v3)] [] M := by
  unfold f_X3_howMany_J25 at h
  refine e_iinc (v := (v3 + 1)) (al' := [(3, .int (v3 + 1)), (0, .ref a0), (1, .int x1), (2, .int v2)]) C 3 dX3_howMany_25 rfl rfl (by decide) rfl ?_
  refine e_goto (tgt := 4) C dX3_howMany_28 (by decide) ?_
  refine e_pick [1, 2, 3, 0] rfl ?_
  exact hK4 (v2, (v3 + 1), M) h
set_option maxHeartbeats 4000000 in
set_option maxRecDepth 100000 in
theorem w_X3_howMany_B4 {p : Program} {l : Launch} {e : Env} {s : State} {m : MethodId} {args : Array Value} {below : List Frame} {meth : Method} {c : Code} {g : Geo} (C : Cx p s m args c cX3_howMany RX3 4 g) (hr : meth.sig.returnType = (some .int)) (hlk : meth.locks = false) {a0 : Nat} {x1 : Int32} {v2 : Int32} {v3 : Int32} {M : Mem} {K4 : Int32 × Int32 × Mem → Prop} {Q : Int32 → Mem → Prop} (hK4 : ∀ z : Int32 × Int32 × Mem, K4 z → E p l e (rmO 1 0 0) s m args below meth c g 4 (MQ below (QcM g (rI Q)) args s 0 0 (gA g)) 0 0 4 [(0, .ref a0), (1, .int x1), (2, .int z.1), (3, .int z.2.1)] [] (z.2.2)) (h : f_X3_howMany_B4 a0 x1 v2 v3 M K4 Q) : E p l e (rmO 1 0 0) s m args below meth c g 4 (MQ below (QcM g (rI Q)) args s 0 0 (gA g)) 0 0 4 [(0, .ref a0), (1, .int x1), (2, .int v2), (3, .int v3)] [] M := by
  unfold f_X3_howMany_B4 at h
  refine e_iload_n C 3 dX3_howMany_4 rfl rfl ?_
  refine e_aload_n C 0 dX3_howMany_5 rfl rfl ?_
  obtain ⟨o1, h⟩ := h
  refine e_getI C [3] 6 (fg_of fg_X3_82) o1 dX3_howMany_6 ?_
  refine e_icmp_ge (tgt := 31) C dX3_howMany_9 (by decide) (fun q2 => ?_) (fun q2 => ?_)
  · replace h := ite_t h q2
    refine e_iload_n C 2 dX3_howMany_31 rfl rfl ?_
    exact e_iret C hr hlk (Nat.le_refl _) (Nat.le_refl _) dX3_howMany_32 ⟨_, rfl, h⟩
  · replace h := ite_f h q2
    refine e_aload_n C 0 dX3_howMany_12 rfl rfl ?_
    refine e_getR C [3] 2 (fg_of fg_X3_18) o1 dX3_howMany_13 ?_
    refine e_iload_n C 3 dX3_howMany_16 rfl rfl ?_
    obtain ⟨b3, p4, h⟩ := h
    try rw [p4]
    obtain ⟨o5, h⟩ := h
    refine e_iald C o5 dX3_howMany_17 ?_
    refine e_iload_n C 1 dX3_howMany_18 rfl rfl ?_
    refine e_icmp_ne (tgt := 25) C dX3_howMany_19 (by decide) (fun q6 => ?_) (fun q6 => ?_)
    · replace h := ite_f h q6
      exact w_X3_howMany_J25 C hr hlk hK4 h
    · replace h := ite_t h q6
      refine e_iinc (v := (v2 + 1)) (al' := [(2, .int (v2 + 1)), (0, .ref a0), (1, .int x1), (3, .int v3)]) C 2 dX3_howMany_22 rfl rfl (by decide) rfl ?_
      refine e_pick [1, 2, 0, 3] rfl ?_
      exact w_X3_howMany_J25 C hr hlk hK4 h
set_option maxHeartbeats 4000000 in
set_option maxRecDepth 100000 in
theorem w_X3_howMany_L4 {p : Program} {l : Launch} {e : Env} {s : State} {m : MethodId} {args : Array Value} {below : List Frame} {meth : Method} {c : Code} {g : Geo} (C : Cx p s m args c cX3_howMany RX3 4 g) (hr : meth.sig.returnType = (some .int)) (hlk : meth.locks = false) {a0 : Nat} {x1 : Int32} {v2 : Int32} {v3 : Int32} {M : Mem} {Q : Int32 → Mem → Prop} (h : f_X3_howMany_L4 a0 x1 v2 v3 M Q) : E p l e (rmO 1 0 0) s m args below meth c g 4 (MQ below (QcM g (rI Q)) args s 0 0 (gA g)) 0 0 4 [(0, .ref a0), (1, .int x1), (2, .int v2), (3, .int v3)] [] M := by
  unfold f_X3_howMany_L4 at h
  refine loop_E (W := fun z : Int32 × Int32 × Mem => E p l e (rmO 1 0 0) s m args below meth c g 4 (MQ below (QcM g (rI Q)) args s 0 0 (gA g)) 0 0 4 [(0, .ref a0), (1, .int x1), (2, .int z.1), (3, .int z.2.1)] [] (z.2.2)) h (fun K z hK h => ?_)
  exact w_X3_howMany_B4 C hr hlk hK h
set_option maxHeartbeats 4000000 in
set_option maxRecDepth 100000 in
theorem w_X3_howMany {p : Program} {l : Launch} {e : Env} {s : State} {m : MethodId} {args : Array Value} {below : List Frame} {meth : Method} {c : Code} {g : Geo} (C : Cx p s m args c cX3_howMany RX3 4 g) (hr : meth.sig.returnType = (some .int)) (hlk : meth.locks = false) {a0 : Nat} {x1 : Int32} {M : Mem} {Q : Int32 → Mem → Prop} (h : f_X3_howMany a0 x1 M Q) : E p l e (rmO 1 0 0) s m args below meth c g 4 (MQ below (QcM g (rI Q)) args s 0 0 (gA g)) 0 0 0 [(0, .ref a0), (1, .int x1)] [] M := by
  unfold f_X3_howMany at h
  refine e_iconst (v := 0) C dX3_howMany_0 (by decide) ?_
  refine e_istore_n (al' := [(2, .int (0 : Int32)), (0, .ref a0), (1, .int x1)]) C dX3_howMany_1 rfl (by decide) rfl ?_
  refine e_iconst (v := 0) C dX3_howMany_2 (by decide) ?_
  refine e_istore_n (al' := [(3, .int (0 : Int32)), (2, .int (0 : Int32)), (0, .ref a0), (1, .int x1)]) C dX3_howMany_3 rfl (by decide) rfl ?_
  refine e_pick [2, 3, 1, 0] rfl ?_
  exact w_X3_howMany_L4 C hr hlk h
theorem m_X3_howMany  {a0 : Nat} {x1 : Int32} {M : Mem} {Q : Int32 → Mem → Prop} (h : f_X3_howMany a0 x1 M Q) : Con yX3_howMany cX3_howMany 4 (some .int) 1 0 0 [.ref a0, .int x1] M (rI Q) :=
  con_of2 (al := [(0, .ref a0), (1, .int x1)]) (by decide) (by exact Nat.le_of_ble_eq_true rfl) (by rfl) (fun p l e s m args below meth c g C hr hlk _ => w_X3_howMany C hr hlk h)
set_option maxHeartbeats 4000000 in
set_option maxRecDepth 100000 in
theorem w_X3_stoodAt_J50 {p : Program} {l : Launch} {e : Env} {s : State} {m : MethodId} {args : Array Value} {below : List Frame} {meth : Method} {c : Code} {g : Geo} (C : Cx p s m args c cX3_stoodAt RX3 5 g) (hr : meth.sig.returnType = (some .int)) (hlk : meth.locks = false) {a0 : Nat} {x1 : Int32} {x2 : Int32} {v3 : Int32} {v4 : Int32} {M : Mem} {K5 : Int32 × Int32 × Mem → Prop} {Q : Int32 → Mem → Prop} (hK5 : ∀ z : Int32 × Int32 × Mem, K5 z → E p l e (rmO 1 0 0) s m args below meth c g 5 (MQ below (QcM g (rI Q)) args s 0 0 (gA g)) 0 0 5 [(0, .ref a0), (1, .int x1), (2, .int x2), (3, .int z.1), (4, .int z.2.1)] [] (z.2.2)) (h : f_X3_stoodAt_J50 a0 x1 x2 v3 v4 M K5 Q) : E p l e (rmO 1 0 0) s m args below meth c g 5 (MQ below (QcM g (rI Q)) args s 0 0 (gA g)) 0 0 50 [(0, .ref a0), (1, .int x1), (2, .int x2), (3, .int v3), (4, .int v4)] [] M := by
  unfold f_X3_stoodAt_J50 at h
  refine e_iinc (v := (v4 + 1)) (al' := [(4, .int (v4 + 1)), (0, .ref a0), (1, .int x1), (2, .int x2), (3, .int v3)]) C 4 dX3_stoodAt_50 rfl rfl (by decide) rfl ?_
  refine e_goto (tgt := 5) C dX3_stoodAt_53 (by decide) ?_
  refine e_pick [1, 2, 3, 4, 0] rfl ?_
  exact hK5 (v3, (v4 + 1), M) h
set_option maxHeartbeats 4000000 in
set_option maxRecDepth 100000 in
theorem w_X3_stoodAt_B5 {p : Program} {l : Launch} {e : Env} {s : State} {m : MethodId} {args : Array Value} {below : List Frame} {meth : Method} {c : Code} {g : Geo} (C : Cx p s m args c cX3_stoodAt RX3 5 g) (hr : meth.sig.returnType = (some .int)) (hlk : meth.locks = false) {a0 : Nat} {x1 : Int32} {x2 : Int32} {v3 : Int32} {v4 : Int32} {M : Mem} {K5 : Int32 × Int32 × Mem → Prop} {Q : Int32 → Mem → Prop} (hK5 : ∀ z : Int32 × Int32 × Mem, K5 z → E p l e (rmO 1 0 0) s m args below meth c g 5 (MQ below (QcM g (rI Q)) args s 0 0 (gA g)) 0 0 5 [(0, .ref a0), (1, .int x1), (2, .int x2), (3, .int z.1), (4, .int z.2.1)] [] (z.2.2)) (h : f_X3_stoodAt_B5 a0 x1 x2 v3 v4 M K5 Q) : E p l e (rmO 1 0 0) s m args below meth c g 5 (MQ below (QcM g (rI Q)) args s 0 0 (gA g)) 0 0 5 [(0, .ref a0), (1, .int x1), (2, .int x2), (3, .int v3), (4, .int v4)] [] M := by
  unfold f_X3_stoodAt_B5 at h
  refine e_iload C 4 dX3_stoodAt_5 rfl ?_
  refine e_aload_n C 0 dX3_stoodAt_7 rfl rfl ?_
  obtain ⟨o1, h⟩ := h
  refine e_getI C [3] 6 (fg_of fg_X3_82) o1 dX3_stoodAt_8 ?_
  refine e_icmp_ge (tgt := 56) C dX3_stoodAt_11 (by decide) (fun q2 => ?_) (fun q2 => ?_)
  · replace h := ite_t h q2
    refine e_iload_n C 3 dX3_stoodAt_56 rfl rfl ?_
    exact e_iret C hr hlk (Nat.le_refl _) (Nat.le_refl _) dX3_stoodAt_57 ⟨_, rfl, h⟩
  · replace h := ite_f h q2
    refine e_aload_n C 0 dX3_stoodAt_14 rfl rfl ?_
    refine e_getR C [3] 2 (fg_of fg_X3_18) o1 dX3_stoodAt_15 ?_
    refine e_iload C 4 dX3_stoodAt_18 rfl ?_
    obtain ⟨b3, p4, h⟩ := h
    try rw [p4]
    obtain ⟨o5, h⟩ := h
    refine e_iald C o5 dX3_stoodAt_20 ?_
    refine e_iload_n C 1 dX3_stoodAt_21 rfl rfl ?_
    refine e_icmp_ne (tgt := 50) C dX3_stoodAt_22 (by decide) (fun q6 => ?_) (fun q6 => ?_)
    · replace h := ite_f h q6
      exact w_X3_stoodAt_J50 C hr hlk hK5 h
    · replace h := ite_t h q6
      refine e_aload_n C 0 dX3_stoodAt_25 rfl rfl ?_
      refine e_getR C [3] 1 (fg_of fg_X3_15) o1 dX3_stoodAt_26 ?_
      refine e_iload C 4 dX3_stoodAt_29 rfl ?_
      obtain ⟨b7, p8, h⟩ := h
      try rw [p8]
      obtain ⟨o9, h⟩ := h
      refine e_iald C o9 dX3_stoodAt_31 ?_
      refine e_iload_n C 2 dX3_stoodAt_32 rfl rfl ?_
      refine e_icmp_gt (tgt := 50) C dX3_stoodAt_33 (by decide) (fun q10 => ?_) (fun q10 => ?_)
      · replace h := ite_t h q10
        exact w_X3_stoodAt_J50 C hr hlk hK5 h
      · replace h := ite_f h q10
        refine e_aload_n C 0 dX3_stoodAt_36 rfl rfl ?_
        refine e_getR C [3] 4 (fg_of fg_X3_24) o1 dX3_stoodAt_37 ?_
        refine e_iload C 4 dX3_stoodAt_40 rfl ?_
        obtain ⟨b11, p12, h⟩ := h
        try rw [p12]
        obtain ⟨o13, h⟩ := h
        refine e_iald C o13 dX3_stoodAt_42 ?_
        refine e_iload_n C 2 dX3_stoodAt_43 rfl rfl ?_
        refine e_icmp_le (tgt := 50) C dX3_stoodAt_44 (by decide) (fun q14 => ?_) (fun q14 => ?_)
        · replace h := ite_t h q14
          exact w_X3_stoodAt_J50 C hr hlk hK5 h
        · replace h := ite_f h q14
          refine e_iinc (v := (v3 + 1)) (al' := [(3, .int (v3 + 1)), (0, .ref a0), (1, .int x1), (2, .int x2), (4, .int v4)]) C 3 dX3_stoodAt_47 rfl rfl (by decide) rfl ?_
          refine e_pick [1, 2, 3, 0, 4] rfl ?_
          exact w_X3_stoodAt_J50 C hr hlk hK5 h
set_option maxHeartbeats 4000000 in
set_option maxRecDepth 100000 in
theorem w_X3_stoodAt_L5 {p : Program} {l : Launch} {e : Env} {s : State} {m : MethodId} {args : Array Value} {below : List Frame} {meth : Method} {c : Code} {g : Geo} (C : Cx p s m args c cX3_stoodAt RX3 5 g) (hr : meth.sig.returnType = (some .int)) (hlk : meth.locks = false) {a0 : Nat} {x1 : Int32} {x2 : Int32} {v3 : Int32} {v4 : Int32} {M : Mem} {Q : Int32 → Mem → Prop} (h : f_X3_stoodAt_L5 a0 x1 x2 v3 v4 M Q) : E p l e (rmO 1 0 0) s m args below meth c g 5 (MQ below (QcM g (rI Q)) args s 0 0 (gA g)) 0 0 5 [(0, .ref a0), (1, .int x1), (2, .int x2), (3, .int v3), (4, .int v4)] [] M := by
  unfold f_X3_stoodAt_L5 at h
  refine loop_E (W := fun z : Int32 × Int32 × Mem => E p l e (rmO 1 0 0) s m args below meth c g 5 (MQ below (QcM g (rI Q)) args s 0 0 (gA g)) 0 0 5 [(0, .ref a0), (1, .int x1), (2, .int x2), (3, .int z.1), (4, .int z.2.1)] [] (z.2.2)) h (fun K z hK h => ?_)
  exact w_X3_stoodAt_B5 C hr hlk hK h
set_option maxHeartbeats 4000000 in
set_option maxRecDepth 100000 in
theorem w_X3_stoodAt {p : Program} {l : Launch} {e : Env} {s : State} {m : MethodId} {args : Array Value} {below : List Frame} {meth : Method} {c : Code} {g : Geo} (C : Cx p s m args c cX3_stoodAt RX3 5 g) (hr : meth.sig.returnType = (some .int)) (hlk : meth.locks = false) {a0 : Nat} {x1 : Int32} {x2 : Int32} {M : Mem} {Q : Int32 → Mem → Prop} (h : f_X3_stoodAt a0 x1 x2 M Q) : E p l e (rmO 1 0 0) s m args below meth c g 5 (MQ below (QcM g (rI Q)) args s 0 0 (gA g)) 0 0 0 [(0, .ref a0), (1, .int x1), (2, .int x2)] [] M := by
  unfold f_X3_stoodAt at h
  refine e_iconst (v := 0) C dX3_stoodAt_0 (by decide) ?_
  refine e_istore_n (al' := [(3, .int (0 : Int32)), (0, .ref a0), (1, .int x1), (2, .int x2)]) C dX3_stoodAt_1 rfl (by decide) rfl ?_
  refine e_iconst (v := 0) C dX3_stoodAt_2 (by decide) ?_
  refine e_istore (al' := [(4, .int (0 : Int32)), (3, .int (0 : Int32)), (0, .ref a0), (1, .int x1), (2, .int x2)]) C dX3_stoodAt_3 (by decide) rfl ?_
  refine e_pick [2, 3, 4, 1, 0] rfl ?_
  exact w_X3_stoodAt_L5 C hr hlk h
theorem m_X3_stoodAt  {a0 : Nat} {x1 : Int32} {x2 : Int32} {M : Mem} {Q : Int32 → Mem → Prop} (h : f_X3_stoodAt a0 x1 x2 M Q) : Con yX3_stoodAt cX3_stoodAt 5 (some .int) 1 0 0 [.ref a0, .int x1, .int x2] M (rI Q) :=
  con_of2 (al := [(0, .ref a0), (1, .int x1), (2, .int x2)]) (by decide) (by exact Nat.le_of_ble_eq_true rfl) (by rfl) (fun p l e s m args below meth c g C hr hlk _ => w_X3_stoodAt C hr hlk h)
set_option maxHeartbeats 4000000 in
set_option maxRecDepth 100000 in
theorem w_X3_lost_J44 {p : Program} {l : Launch} {e : Env} {s : State} {m : MethodId} {args : Array Value} {below : List Frame} {meth : Method} {c : Code} {g : Geo} (C : Cx p s m args c cX3_lost RX3 3 g) (hr : meth.sig.returnType = (some .int)) (hlk : meth.locks = false) {a0 : Nat} {v1 : Int32} {v2 : Int32} {M : Mem} {K4 : Int32 × Int32 × Mem → Prop} {Q : Int32 → Mem → Prop} (hK4 : ∀ z : Int32 × Int32 × Mem, K4 z → E p l e (rmO 2 0 0) s m args below meth c g 3 (MQ below (QcM g (rI Q)) args s 0 0 (gA g)) 0 0 4 [(0, .ref a0), (1, .int z.1), (2, .int z.2.1)] [] (z.2.2)) (h : f_X3_lost_J44 a0 v1 v2 M K4 Q) : E p l e (rmO 2 0 0) s m args below meth c g 3 (MQ below (QcM g (rI Q)) args s 0 0 (gA g)) 0 0 44 [(0, .ref a0), (1, .int v1), (2, .int v2)] [] M := by
  unfold f_X3_lost_J44 at h
  refine e_iinc (v := (v2 + 1)) (al' := [(2, .int (v2 + 1)), (0, .ref a0), (1, .int v1)]) C 2 dX3_lost_44 rfl rfl (by decide) rfl ?_
  refine e_goto (tgt := 4) C dX3_lost_47 (by decide) ?_
  refine e_pick [1, 2, 0] rfl ?_
  exact hK4 (v1, (v2 + 1), M) h
set_option maxHeartbeats 4000000 in
set_option maxRecDepth 100000 in
theorem w_X3_lost_B4 {p : Program} {l : Launch} {e : Env} {s : State} {m : MethodId} {args : Array Value} {below : List Frame} {meth : Method} {c : Code} {g : Geo} (C : Cx p s m args c cX3_lost RX3 3 g) (hr : meth.sig.returnType = (some .int)) (hlk : meth.locks = false) {a0 : Nat} {v1 : Int32} {v2 : Int32} {M : Mem} {K4 : Int32 × Int32 × Mem → Prop} {Q : Int32 → Mem → Prop} (hK4 : ∀ z : Int32 × Int32 × Mem, K4 z → E p l e (rmO 2 0 0) s m args below meth c g 3 (MQ below (QcM g (rI Q)) args s 0 0 (gA g)) 0 0 4 [(0, .ref a0), (1, .int z.1), (2, .int z.2.1)] [] (z.2.2)) (h : f_X3_lost_B4 a0 v1 v2 M K4 Q) : E p l e (rmO 2 0 0) s m args below meth c g 3 (MQ below (QcM g (rI Q)) args s 0 0 (gA g)) 0 0 4 [(0, .ref a0), (1, .int v1), (2, .int v2)] [] M := by
  unfold f_X3_lost_B4 at h
  refine e_iload_n C 2 dX3_lost_4 rfl rfl ?_
  refine e_aload_n C 0 dX3_lost_5 rfl rfl ?_
  obtain ⟨o1, h⟩ := h
  refine e_getI C [3] 6 (fg_of fg_X3_82) o1 dX3_lost_6 ?_
  refine e_icmp_ge (tgt := 50) C dX3_lost_9 (by decide) (fun q2 => ?_) (fun q2 => ?_)
  · replace h := ite_t h q2
    refine e_iload_n C 1 dX3_lost_50 rfl rfl ?_
    exact e_iret C hr hlk (Nat.le_refl _) (Nat.le_refl _) dX3_lost_51 ⟨_, rfl, h⟩
  · replace h := ite_f h q2
    refine e_aload_n C 0 dX3_lost_12 rfl rfl ?_
    refine e_getR C [3] 2 (fg_of fg_X3_18) o1 dX3_lost_13 ?_
    refine e_iload_n C 2 dX3_lost_16 rfl rfl ?_
    obtain ⟨b3, p4, h⟩ := h
    try rw [p4]
    obtain ⟨o5, h⟩ := h
    refine e_iald C o5 dX3_lost_17 ?_
    refine e_iconst (v := 2) C dX3_lost_18 (by decide) ?_
    refine e_icmp_eq (tgt := 44) C dX3_lost_19 (by decide) (fun q6 => ?_) (fun q6 => ?_)
    · replace h := ite_t h q6
      exact w_X3_lost_J44 C hr hlk hK4 h
    · replace h := ite_f h q6
      refine e_iload_n C 1 dX3_lost_22 rfl rfl ?_
      refine e_aload_n C 0 dX3_lost_23 rfl rfl ?_
      refine e_getR C [3] 10 (fg_of fg_X3_36) o1 dX3_lost_24 ?_
      refine e_aload_n C 0 dX3_lost_27 rfl rfl ?_
      refine e_getR C [3] 0 (fg_of fg_X3_9) o1 dX3_lost_28 ?_
      refine e_iload_n C 2 dX3_lost_31 rfl rfl ?_
      obtain ⟨b7, p8, h⟩ := h
      try rw [p8]
      obtain ⟨o9, h⟩ := h
      refine e_iald C o9 dX3_lost_32 ?_
      obtain ⟨b10, p11, h⟩ := h
      try rw [p11]
      obtain ⟨o12, h⟩ := h
      refine e_aald C 4 (by decide) o12 dX3_lost_33 ?_
      refine e_iconst (v := 0) C dX3_lost_34 (by decide) ?_
      obtain ⟨b13, p14, h⟩ := h
      try rw [p14]
      obtain ⟨o15, h⟩ := h
      refine e_iald C o15 dX3_lost_35 ?_
      refine e_aload_n C 0 dX3_lost_36 rfl rfl ?_
      refine e_iload_n C 2 dX3_lost_37 rfl rfl ?_
      refine e_callV (as := [.int v2]) C wb_X3_waits wv_X3_158 (ci := 3) rfl rfl (isO_1 o1) (m_X3_waits h) rfl ⟨Nat.le_of_ble_eq_true rfl, Nat.le_of_ble_eq_true rfl⟩ ⟨Nat.le_of_ble_eq_true rfl, Nat.le_of_ble_eq_true rfl⟩ (by first | exact Nat.le_of_ble_eq_true rfl | (simp only [List.map_cons, List.map_nil, va_cat, List.sum_cons, List.sum_nil]; exact Nat.le_of_ble_eq_true rfl)) dX3_lost_38 (kI (fun w16 M17 h18 => ?_))
      refine e_imul C dX3_lost_41 ?_
      refine e_iadd C dX3_lost_42 ?_
      refine e_istore_n (al' := [(1, .int (v1 + ((mI M b13 ((0 : Int32)).toNatClampNeg) * w16))), (0, .ref a0), (2, .int v2)]) C dX3_lost_43 rfl (by decide) rfl ?_
      refine e_pick [1, 0, 2] rfl ?_
      exact w_X3_lost_J44 C hr hlk hK4 h18
set_option maxHeartbeats 4000000 in
set_option maxRecDepth 100000 in
theorem w_X3_lost_L4 {p : Program} {l : Launch} {e : Env} {s : State} {m : MethodId} {args : Array Value} {below : List Frame} {meth : Method} {c : Code} {g : Geo} (C : Cx p s m args c cX3_lost RX3 3 g) (hr : meth.sig.returnType = (some .int)) (hlk : meth.locks = false) {a0 : Nat} {v1 : Int32} {v2 : Int32} {M : Mem} {Q : Int32 → Mem → Prop} (h : f_X3_lost_L4 a0 v1 v2 M Q) : E p l e (rmO 2 0 0) s m args below meth c g 3 (MQ below (QcM g (rI Q)) args s 0 0 (gA g)) 0 0 4 [(0, .ref a0), (1, .int v1), (2, .int v2)] [] M := by
  unfold f_X3_lost_L4 at h
  refine loop_E (W := fun z : Int32 × Int32 × Mem => E p l e (rmO 2 0 0) s m args below meth c g 3 (MQ below (QcM g (rI Q)) args s 0 0 (gA g)) 0 0 4 [(0, .ref a0), (1, .int z.1), (2, .int z.2.1)] [] (z.2.2)) h (fun K z hK h => ?_)
  exact w_X3_lost_B4 C hr hlk hK h
set_option maxHeartbeats 4000000 in
set_option maxRecDepth 100000 in
theorem w_X3_lost {p : Program} {l : Launch} {e : Env} {s : State} {m : MethodId} {args : Array Value} {below : List Frame} {meth : Method} {c : Code} {g : Geo} (C : Cx p s m args c cX3_lost RX3 3 g) (hr : meth.sig.returnType = (some .int)) (hlk : meth.locks = false) {a0 : Nat} {M : Mem} {Q : Int32 → Mem → Prop} (h : f_X3_lost a0 M Q) : E p l e (rmO 2 0 0) s m args below meth c g 3 (MQ below (QcM g (rI Q)) args s 0 0 (gA g)) 0 0 0 [(0, .ref a0)] [] M := by
  unfold f_X3_lost at h
  refine e_iconst (v := 0) C dX3_lost_0 (by decide) ?_
  refine e_istore_n (al' := [(1, .int (0 : Int32)), (0, .ref a0)]) C dX3_lost_1 rfl (by decide) rfl ?_
  refine e_iconst (v := 0) C dX3_lost_2 (by decide) ?_
  refine e_istore_n (al' := [(2, .int (0 : Int32)), (1, .int (0 : Int32)), (0, .ref a0)]) C dX3_lost_3 rfl (by decide) rfl ?_
  refine e_pick [2, 1, 0] rfl ?_
  exact w_X3_lost_L4 C hr hlk h
theorem m_X3_lost  {a0 : Nat} {M : Mem} {Q : Int32 → Mem → Prop} (h : f_X3_lost a0 M Q) : Con yX3_lost cX3_lost 3 (some .int) 2 0 0 [.ref a0] M (rI Q) :=
  con_of2 (al := [(0, .ref a0)]) (by decide) (by exact Nat.le_of_ble_eq_true rfl) (by rfl) (fun p l e s m args below meth c g C hr hlk _ => w_X3_lost C hr hlk h)
set_option maxHeartbeats 4000000 in
set_option maxRecDepth 100000 in
theorem w_X3_pence_B4 {p : Program} {l : Launch} {e : Env} {s : State} {m : MethodId} {args : Array Value} {below : List Frame} {meth : Method} {c : Code} {g : Geo} (C : Cx p s m args c cX3_pence RX3 3 g) (hr : meth.sig.returnType = (some .int)) (hlk : meth.locks = false) {a0 : Nat} {v1 : Int32} {v2 : Int32} {M : Mem} {K4 : Int32 × Int32 × Mem → Prop} {Q : Int32 → Mem → Prop} (hK4 : ∀ z : Int32 × Int32 × Mem, K4 z → E p l e (rmO 1 0 0) s m args below meth c g 3 (MQ below (QcM g (rI Q)) args s 0 0 (gA g)) 0 0 4 [(0, .ref a0), (1, .int z.1), (2, .int z.2.1)] [] (z.2.2)) (h : f_X3_pence_B4 a0 v1 v2 M K4 Q) : E p l e (rmO 1 0 0) s m args below meth c g 3 (MQ below (QcM g (rI Q)) args s 0 0 (gA g)) 0 0 4 [(0, .ref a0), (1, .int v1), (2, .int v2)] [] M := by
  unfold f_X3_pence_B4 at h
  refine e_iload_n C 2 dX3_pence_4 rfl rfl ?_
  refine e_aload_n C 0 dX3_pence_5 rfl rfl ?_
  obtain ⟨o1, h⟩ := h
  refine e_getI C [3] 6 (fg_of fg_X3_82) o1 dX3_pence_6 ?_
  refine e_icmp_ge (tgt := 27) C dX3_pence_9 (by decide) (fun q2 => ?_) (fun q2 => ?_)
  · replace h := ite_t h q2
    refine e_iload_n C 1 dX3_pence_27 rfl rfl ?_
    exact e_iret C hr hlk (Nat.le_refl _) (Nat.le_refl _) dX3_pence_28 ⟨_, rfl, h⟩
  · replace h := ite_f h q2
    refine e_iload_n C 1 dX3_pence_12 rfl rfl ?_
    refine e_aload_n C 0 dX3_pence_13 rfl rfl ?_
    refine e_getR C [3] 3 (fg_of fg_X3_21) o1 dX3_pence_14 ?_
    refine e_iload_n C 2 dX3_pence_17 rfl rfl ?_
    obtain ⟨b3, p4, h⟩ := h
    try rw [p4]
    obtain ⟨o5, h⟩ := h
    refine e_iald C o5 dX3_pence_18 ?_
    refine e_iadd C dX3_pence_19 ?_
    refine e_istore_n (al' := [(1, .int (v1 + (mI M b3 (v2).toNatClampNeg))), (0, .ref a0), (2, .int v2)]) C dX3_pence_20 rfl (by decide) rfl ?_
    refine e_iinc (v := (v2 + 1)) (al' := [(2, .int (v2 + 1)), (1, .int (v1 + (mI M b3 (v2).toNatClampNeg))), (0, .ref a0)]) C 2 dX3_pence_21 rfl rfl (by decide) rfl ?_
    refine e_goto (tgt := 4) C dX3_pence_24 (by decide) ?_
    refine e_pick [2, 1, 0] rfl ?_
    exact hK4 ((v1 + (mI M b3 (v2).toNatClampNeg)), (v2 + 1), M) h
set_option maxHeartbeats 4000000 in
set_option maxRecDepth 100000 in
theorem w_X3_pence_L4 {p : Program} {l : Launch} {e : Env} {s : State} {m : MethodId} {args : Array Value} {below : List Frame} {meth : Method} {c : Code} {g : Geo} (C : Cx p s m args c cX3_pence RX3 3 g) (hr : meth.sig.returnType = (some .int)) (hlk : meth.locks = false) {a0 : Nat} {v1 : Int32} {v2 : Int32} {M : Mem} {Q : Int32 → Mem → Prop} (h : f_X3_pence_L4 a0 v1 v2 M Q) : E p l e (rmO 1 0 0) s m args below meth c g 3 (MQ below (QcM g (rI Q)) args s 0 0 (gA g)) 0 0 4 [(0, .ref a0), (1, .int v1), (2, .int v2)] [] M := by
  unfold f_X3_pence_L4 at h
  refine loop_E (W := fun z : Int32 × Int32 × Mem => E p l e (rmO 1 0 0) s m args below meth c g 3 (MQ below (QcM g (rI Q)) args s 0 0 (gA g)) 0 0 4 [(0, .ref a0), (1, .int z.1), (2, .int z.2.1)] [] (z.2.2)) h (fun K z hK h => ?_)
  exact w_X3_pence_B4 C hr hlk hK h
set_option maxHeartbeats 4000000 in
set_option maxRecDepth 100000 in
theorem w_X3_pence {p : Program} {l : Launch} {e : Env} {s : State} {m : MethodId} {args : Array Value} {below : List Frame} {meth : Method} {c : Code} {g : Geo} (C : Cx p s m args c cX3_pence RX3 3 g) (hr : meth.sig.returnType = (some .int)) (hlk : meth.locks = false) {a0 : Nat} {M : Mem} {Q : Int32 → Mem → Prop} (h : f_X3_pence a0 M Q) : E p l e (rmO 1 0 0) s m args below meth c g 3 (MQ below (QcM g (rI Q)) args s 0 0 (gA g)) 0 0 0 [(0, .ref a0)] [] M := by
  unfold f_X3_pence at h
  refine e_iconst (v := 0) C dX3_pence_0 (by decide) ?_
  refine e_istore_n (al' := [(1, .int (0 : Int32)), (0, .ref a0)]) C dX3_pence_1 rfl (by decide) rfl ?_
  refine e_iconst (v := 0) C dX3_pence_2 (by decide) ?_
  refine e_istore_n (al' := [(2, .int (0 : Int32)), (1, .int (0 : Int32)), (0, .ref a0)]) C dX3_pence_3 rfl (by decide) rfl ?_
  refine e_pick [2, 1, 0] rfl ?_
  exact w_X3_pence_L4 C hr hlk h
theorem m_X3_pence  {a0 : Nat} {M : Mem} {Q : Int32 → Mem → Prop} (h : f_X3_pence a0 M Q) : Con yX3_pence cX3_pence 3 (some .int) 1 0 0 [.ref a0] M (rI Q) :=
  con_of2 (al := [(0, .ref a0)]) (by decide) (by exact Nat.le_of_ble_eq_true rfl) (by rfl) (fun p l e s m args below meth c g C hr hlk _ => w_X3_pence C hr hlk h)
set_option maxHeartbeats 4000000 in
set_option maxRecDepth 100000 in
theorem w_X3_back {p : Program} {l : Launch} {e : Env} {s : State} {m : MethodId} {args : Array Value} {below : List Frame} {meth : Method} {c : Code} {g : Geo} (C : Cx p s m args c cX3_back RX3 2 g) (hr : meth.sig.returnType = (some .int)) (hlk : meth.locks = false) {a0 : Nat} {M : Mem} {Q : Int32 → Mem → Prop} (h : f_X3_back a0 M Q) : E p l e (rmO 2 0 0) s m args below meth c g 2 (MQ below (QcM g (rI Q)) args s 0 0 (gA g)) 0 0 0 [(0, .ref a0)] [] M := by
  unfold f_X3_back at h
  refine e_aload_n C 0 dX3_back_0 rfl rfl ?_
  refine e_iconst (v := 0) C dX3_back_1 (by decide) ?_
  obtain ⟨o3, h⟩ := h
  refine e_callV (as := [.int (0 : Int32)]) C wb_X3_howMany wv_X3_161 (ci := 3) rfl rfl (isO_1 o3) (m_X3_howMany h) rfl ⟨Nat.le_of_ble_eq_true rfl, Nat.le_of_ble_eq_true rfl⟩ ⟨Nat.le_of_ble_eq_true rfl, Nat.le_of_ble_eq_true rfl⟩ (by first | exact Nat.le_of_ble_eq_true rfl | (simp only [List.map_cons, List.map_nil, va_cat, List.sum_cons, List.sum_nil]; exact Nat.le_of_ble_eq_true rfl)) dX3_back_2 (kI (fun w1 M2 h10 => ?_))
  refine e_istore_n (al' := [(1, .int w1), (0, .ref a0)]) C dX3_back_5 rfl (by decide) rfl ?_
  refine e_iload_n C 0 dX3_back_6 rfl rfl ?_
  refine e_if_ne (tgt := 14) C dX3_back_7 (by decide) (fun q4 => ?_) (fun q4 => ?_)
  · replace h10 := ite_f h10 q4
    refine e_aload_n C 1 dX3_back_14 rfl rfl ?_
    obtain ⟨o7, h10⟩ := h10
    refine e_callV (as := []) C wb_X3_pence wv_X3_164 (ci := 3) rfl rfl (isO_1 o7) (m_X3_pence h10) rfl ⟨Nat.le_of_ble_eq_true rfl, Nat.le_of_ble_eq_true rfl⟩ ⟨Nat.le_of_ble_eq_true rfl, Nat.le_of_ble_eq_true rfl⟩ (by first | exact Nat.le_of_ble_eq_true rfl | (simp only [List.map_cons, List.map_nil, va_cat, List.sum_cons, List.sum_nil]; exact Nat.le_of_ble_eq_true rfl)) dX3_back_15 (kI (fun w5 M6 h9 => ?_))
    refine e_iload_n C 0 dX3_back_18 rfl rfl ?_
    obtain ⟨n8, h9⟩ := h9
    refine e_idiv C dX3_back_19 n8 ?_
    exact e_iret C hr hlk (Nat.le_refl _) (Nat.le_refl _) dX3_back_20 ⟨_, rfl, h9⟩
  · replace h10 := ite_t h10 q4
    refine e_iconst (v := 0) C dX3_back_10 (by decide) ?_
    refine e_goto (tgt := 20) C dX3_back_11 (by decide) ?_
    exact e_iret C hr hlk (Nat.le_refl _) (Nat.le_refl _) dX3_back_20 ⟨_, rfl, h10⟩
theorem m_X3_back  {a0 : Nat} {M : Mem} {Q : Int32 → Mem → Prop} (h : f_X3_back a0 M Q) : Con yX3_back cX3_back 2 (some .int) 2 0 0 [.ref a0] M (rI Q) :=
  con_of2 (al := [(0, .ref a0)]) (by decide) (by exact Nat.le_of_ble_eq_true rfl) (by rfl) (fun p l e s m args below meth c g C hr hlk _ => w_X3_back C hr hlk h)
set_option maxHeartbeats 4000000 in
set_option maxRecDepth 100000 in
theorem w_X3_lossOf_J67 {p : Program} {l : Launch} {e : Env} {s : State} {m : MethodId} {args : Array Value} {below : List Frame} {meth : Method} {c : Code} {g : Geo} (C : Cx p s m args c cX3_lossOf RX3 4 g) (hr : meth.sig.returnType = (some .int)) (hlk : meth.locks = false) {a0 : Nat} {x1 : Int32} {v2 : Int32} {v3 : Int32} {M : Mem} {K4 : Int32 × Int32 × Mem → Prop} {Q : Int32 → Mem → Prop} (hK4 : ∀ z : Int32 × Int32 × Mem, K4 z → E p l e (rmO 2 0 0) s m args below meth c g 4 (MQ below (QcM g (rI Q)) args s 0 0 (gA g)) 0 0 4 [(0, .ref a0), (1, .int x1), (2, .int z.1), (3, .int z.2.1)] [] (z.2.2)) (h : f_X3_lossOf_J67 a0 x1 v2 v3 M K4 Q) : E p l e (rmO 2 0 0) s m args below meth c g 4 (MQ below (QcM g (rI Q)) args s 0 0 (gA g)) 0 0 67 [(0, .ref a0), (1, .int x1), (2, .int v2), (3, .int v3)] [] M := by
  unfold f_X3_lossOf_J67 at h
  refine e_iinc (v := (v3 + 1)) (al' := [(3, .int (v3 + 1)), (0, .ref a0), (1, .int x1), (2, .int v2)]) C 3 dX3_lossOf_67 rfl rfl (by decide) rfl ?_
  refine e_goto (tgt := 4) C dX3_lossOf_70 (by decide) ?_
  refine e_pick [1, 2, 3, 0] rfl ?_
  exact hK4 (v2, (v3 + 1), M) h
set_option maxHeartbeats 4000000 in
set_option maxRecDepth 100000 in
theorem w_X3_lossOf_J65 {p : Program} {l : Launch} {e : Env} {s : State} {m : MethodId} {args : Array Value} {below : List Frame} {meth : Method} {c : Code} {g : Geo} (C : Cx p s m args c cX3_lossOf RX3 4 g) (hr : meth.sig.returnType = (some .int)) (hlk : meth.locks = false) {a0 : Nat} {x1 : Int32} {v3 : Int32} {t0 : Int32} {t1 : Int32} {M : Mem} {K4 : Int32 × Int32 × Mem → Prop} {Q : Int32 → Mem → Prop} (hK4 : ∀ z : Int32 × Int32 × Mem, K4 z → E p l e (rmO 2 0 0) s m args below meth c g 4 (MQ below (QcM g (rI Q)) args s 0 0 (gA g)) 0 0 4 [(0, .ref a0), (1, .int x1), (2, .int z.1), (3, .int z.2.1)] [] (z.2.2)) (h : f_X3_lossOf_J65 a0 x1 v3 t0 t1 M K4 Q) : E p l e (rmO 2 0 0) s m args below meth c g 4 (MQ below (QcM g (rI Q)) args s 0 0 (gA g)) 0 0 65 [(0, .ref a0), (1, .int x1), (3, .int v3)] [.int t0, .int t1] M := by
  unfold f_X3_lossOf_J65 at h
  refine e_iadd C dX3_lossOf_65 ?_
  refine e_istore_n (al' := [(2, .int (t1 + t0)), (0, .ref a0), (1, .int x1), (3, .int v3)]) C dX3_lossOf_66 rfl (by decide) rfl ?_
  refine e_pick [1, 2, 0, 3] rfl ?_
  exact w_X3_lossOf_J67 C hr hlk hK4 h
set_option maxHeartbeats 4000000 in
set_option maxRecDepth 100000 in
theorem w_X3_lossOf_B4 {p : Program} {l : Launch} {e : Env} {s : State} {m : MethodId} {args : Array Value} {below : List Frame} {meth : Method} {c : Code} {g : Geo} (C : Cx p s m args c cX3_lossOf RX3 4 g) (hr : meth.sig.returnType = (some .int)) (hlk : meth.locks = false) {a0 : Nat} {x1 : Int32} {v2 : Int32} {v3 : Int32} {M : Mem} {K4 : Int32 × Int32 × Mem → Prop} {Q : Int32 → Mem → Prop} (hK4 : ∀ z : Int32 × Int32 × Mem, K4 z → E p l e (rmO 2 0 0) s m args below meth c g 4 (MQ below (QcM g (rI Q)) args s 0 0 (gA g)) 0 0 4 [(0, .ref a0), (1, .int x1), (2, .int z.1), (3, .int z.2.1)] [] (z.2.2)) (h : f_X3_lossOf_B4 a0 x1 v2 v3 M K4 Q) : E p l e (rmO 2 0 0) s m args below meth c g 4 (MQ below (QcM g (rI Q)) args s 0 0 (gA g)) 0 0 4 [(0, .ref a0), (1, .int x1), (2, .int v2), (3, .int v3)] [] M := by
  unfold f_X3_lossOf_B4 at h
  refine e_iload_n C 3 dX3_lossOf_4 rfl rfl ?_
  refine e_aload_n C 0 dX3_lossOf_5 rfl rfl ?_
  obtain ⟨o1, h⟩ := h
  refine e_getI C [3] 6 (fg_of fg_X3_82) o1 dX3_lossOf_6 ?_
  refine e_icmp_ge (tgt := 73) C dX3_lossOf_9 (by decide) (fun q2 => ?_) (fun q2 => ?_)
  · replace h := ite_t h q2
    refine e_iload_n C 2 dX3_lossOf_73 rfl rfl ?_
    exact e_iret C hr hlk (Nat.le_refl _) (Nat.le_refl _) dX3_lossOf_74 ⟨_, rfl, h⟩
  · replace h := ite_f h q2
    refine e_aload_n C 0 dX3_lossOf_12 rfl rfl ?_
    refine e_getR C [3] 0 (fg_of fg_X3_9) o1 dX3_lossOf_13 ?_
    refine e_iload_n C 3 dX3_lossOf_16 rfl rfl ?_
    obtain ⟨b3, p4, h⟩ := h
    try rw [p4]
    obtain ⟨o5, h⟩ := h
    refine e_iald C o5 dX3_lossOf_17 ?_
    refine e_iload_n C 1 dX3_lossOf_18 rfl rfl ?_
    refine e_icmp_ne (tgt := 67) C dX3_lossOf_19 (by decide) (fun q6 => ?_) (fun q6 => ?_)
    · replace h := ite_f h q6
      exact w_X3_lossOf_J67 C hr hlk hK4 h
    · replace h := ite_t h q6
      refine e_iload_n C 2 dX3_lossOf_22 rfl rfl ?_
      refine e_aload_n C 0 dX3_lossOf_23 rfl rfl ?_
      refine e_getR C [3] 2 (fg_of fg_X3_18) o1 dX3_lossOf_24 ?_
      refine e_iload_n C 3 dX3_lossOf_27 rfl rfl ?_
      obtain ⟨b7, p8, h⟩ := h
      try rw [p8]
      obtain ⟨o9, h⟩ := h
      refine e_iald C o9 dX3_lossOf_28 ?_
      refine e_iconst (v := 2) C dX3_lossOf_29 (by decide) ?_
      refine e_icmp_ne (tgt := 44) C dX3_lossOf_30 (by decide) (fun q10 => ?_) (fun q10 => ?_)
      · replace h := ite_f h q10
        refine e_aload_n C 0 dX3_lossOf_44 rfl rfl ?_
        refine e_getR C [3] 10 (fg_of fg_X3_36) o1 dX3_lossOf_45 ?_
        refine e_iload_n C 1 dX3_lossOf_48 rfl rfl ?_
        obtain ⟨b11, p12, h⟩ := h
        try rw [p12]
        obtain ⟨o13, h⟩ := h
        refine e_aald C 4 (by decide) o13 dX3_lossOf_49 ?_
        refine e_iconst (v := 0) C dX3_lossOf_50 (by decide) ?_
        obtain ⟨b14, p15, h⟩ := h
        try rw [p15]
        obtain ⟨o16, h⟩ := h
        refine e_iald C o16 dX3_lossOf_51 ?_
        refine e_aload_n C 0 dX3_lossOf_52 rfl rfl ?_
        refine e_iload_n C 3 dX3_lossOf_53 rfl rfl ?_
        refine e_callV (as := [.int v3]) C wb_X3_waits wv_X3_158 (ci := 3) rfl rfl (isO_1 o1) (m_X3_waits h) rfl ⟨Nat.le_of_ble_eq_true rfl, Nat.le_of_ble_eq_true rfl⟩ ⟨Nat.le_of_ble_eq_true rfl, Nat.le_of_ble_eq_true rfl⟩ (by first | exact Nat.le_of_ble_eq_true rfl | (simp only [List.map_cons, List.map_nil, va_cat, List.sum_cons, List.sum_nil]; exact Nat.le_of_ble_eq_true rfl)) dX3_lossOf_54 (kI (fun w17 M18 h23 => ?_))
        refine e_imul C dX3_lossOf_57 ?_
        refine e_aload_n C 0 dX3_lossOf_58 rfl rfl ?_
        obtain ⟨o19, h23⟩ := h23
        refine e_getR C [3] 3 (fg_of fg_X3_21) o19 dX3_lossOf_59 ?_
        refine e_iload_n C 3 dX3_lossOf_62 rfl rfl ?_
        obtain ⟨b20, p21, h23⟩ := h23
        try rw [p21]
        obtain ⟨o22, h23⟩ := h23
        refine e_iald C o22 dX3_lossOf_63 ?_
        refine e_iadd C dX3_lossOf_64 ?_
        refine e_pick [0, 1, 3] rfl ?_
        exact w_X3_lossOf_J65 C hr hlk hK4 h23
      · replace h := ite_t h q10
        refine e_aload_n C 0 dX3_lossOf_33 rfl rfl ?_
        refine e_getR C [3] 10 (fg_of fg_X3_36) o1 dX3_lossOf_34 ?_
        refine e_iload_n C 1 dX3_lossOf_37 rfl rfl ?_
        obtain ⟨b24, p25, h⟩ := h
        try rw [p25]
        obtain ⟨o26, h⟩ := h
        refine e_aald C 4 (by decide) o26 dX3_lossOf_38 ?_
        refine e_iconst (v := 1) C dX3_lossOf_39 (by decide) ?_
        obtain ⟨b27, p28, h⟩ := h
        try rw [p28]
        obtain ⟨o29, h⟩ := h
        refine e_iald C o29 dX3_lossOf_40 ?_
        refine e_goto (tgt := 65) C dX3_lossOf_41 (by decide) ?_
        refine e_pick [0, 1, 3] rfl ?_
        exact w_X3_lossOf_J65 C hr hlk hK4 h
set_option maxHeartbeats 4000000 in
set_option maxRecDepth 100000 in
theorem w_X3_lossOf_L4 {p : Program} {l : Launch} {e : Env} {s : State} {m : MethodId} {args : Array Value} {below : List Frame} {meth : Method} {c : Code} {g : Geo} (C : Cx p s m args c cX3_lossOf RX3 4 g) (hr : meth.sig.returnType = (some .int)) (hlk : meth.locks = false) {a0 : Nat} {x1 : Int32} {v2 : Int32} {v3 : Int32} {M : Mem} {Q : Int32 → Mem → Prop} (h : f_X3_lossOf_L4 a0 x1 v2 v3 M Q) : E p l e (rmO 2 0 0) s m args below meth c g 4 (MQ below (QcM g (rI Q)) args s 0 0 (gA g)) 0 0 4 [(0, .ref a0), (1, .int x1), (2, .int v2), (3, .int v3)] [] M := by
  unfold f_X3_lossOf_L4 at h
  refine loop_E (W := fun z : Int32 × Int32 × Mem => E p l e (rmO 2 0 0) s m args below meth c g 4 (MQ below (QcM g (rI Q)) args s 0 0 (gA g)) 0 0 4 [(0, .ref a0), (1, .int x1), (2, .int z.1), (3, .int z.2.1)] [] (z.2.2)) h (fun K z hK h => ?_)
  exact w_X3_lossOf_B4 C hr hlk hK h
set_option maxHeartbeats 4000000 in
set_option maxRecDepth 100000 in
theorem w_X3_lossOf {p : Program} {l : Launch} {e : Env} {s : State} {m : MethodId} {args : Array Value} {below : List Frame} {meth : Method} {c : Code} {g : Geo} (C : Cx p s m args c cX3_lossOf RX3 4 g) (hr : meth.sig.returnType = (some .int)) (hlk : meth.locks = false) {a0 : Nat} {x1 : Int32} {M : Mem} {Q : Int32 → Mem → Prop} (h : f_X3_lossOf a0 x1 M Q) : E p l e (rmO 2 0 0) s m args below meth c g 4 (MQ below (QcM g (rI Q)) args s 0 0 (gA g)) 0 0 0 [(0, .ref a0), (1, .int x1)] [] M := by
  unfold f_X3_lossOf at h
  refine e_iconst (v := 0) C dX3_lossOf_0 (by decide) ?_
  refine e_istore_n (al' := [(2, .int (0 : Int32)), (0, .ref a0), (1, .int x1)]) C dX3_lossOf_1 rfl (by decide) rfl ?_
  refine e_iconst (v := 0) C dX3_lossOf_2 (by decide) ?_
  refine e_istore_n (al' := [(3, .int (0 : Int32)), (2, .int (0 : Int32)), (0, .ref a0), (1, .int x1)]) C dX3_lossOf_3 rfl (by decide) rfl ?_
  refine e_pick [2, 3, 1, 0] rfl ?_
  exact w_X3_lossOf_L4 C hr hlk h
theorem m_X3_lossOf  {a0 : Nat} {x1 : Int32} {M : Mem} {Q : Int32 → Mem → Prop} (h : f_X3_lossOf a0 x1 M Q) : Con yX3_lossOf cX3_lossOf 4 (some .int) 2 0 0 [.ref a0, .int x1] M (rI Q) :=
  con_of2 (al := [(0, .ref a0), (1, .int x1)]) (by decide) (by exact Nat.le_of_ble_eq_true rfl) (by rfl) (fun p l e s m args below meth c g C hr hlk _ => w_X3_lossOf C hr hlk h)
set_option maxHeartbeats 4000000 in
set_option maxRecDepth 100000 in
theorem w_X3_sales_J81 {p : Program} {l : Launch} {e : Env} {s : State} {m : MethodId} {args : Array Value} {below : List Frame} {meth : Method} {c : Code} {g : Geo} (C : Cx p s m args c cX3_sales RX3 5 g) (hr : meth.sig.returnType = (some .int)) (hlk : meth.locks = false) {a0 : Nat} {v1 : Int32} {v2 : Int32} {M : Mem} {K4 : Int32 × Int32 × Mem → Prop} {Q : Int32 → Mem → Prop} (hK4 : ∀ z : Int32 × Int32 × Mem, K4 z → E p l e (rmO 2 0 0) s m args below meth c g 5 (MQ below (QcM g (rI Q)) args s 0 0 (gA g)) 0 0 4 [(0, .ref a0), (1, .int z.1), (2, .int z.2.1)] [] (z.2.2)) (h : f_X3_sales_J81 a0 v1 v2 M K4 Q) : E p l e (rmO 2 0 0) s m args below meth c g 5 (MQ below (QcM g (rI Q)) args s 0 0 (gA g)) 0 0 81 [(0, .ref a0), (1, .int v1), (2, .int v2)] [] M := by
  unfold f_X3_sales_J81 at h
  refine e_iinc (v := (v2 + 1)) (al' := [(2, .int (v2 + 1)), (0, .ref a0), (1, .int v1)]) C 2 dX3_sales_81 rfl rfl (by decide) rfl ?_
  refine e_goto (tgt := 4) C dX3_sales_84 (by decide) ?_
  refine e_pick [1, 2, 0] rfl ?_
  exact hK4 (v1, (v2 + 1), M) h
set_option maxHeartbeats 4000000 in
set_option maxRecDepth 100000 in
theorem w_X3_sales_B4 {p : Program} {l : Launch} {e : Env} {s : State} {m : MethodId} {args : Array Value} {below : List Frame} {meth : Method} {c : Code} {g : Geo} (C : Cx p s m args c cX3_sales RX3 5 g) (hr : meth.sig.returnType = (some .int)) (hlk : meth.locks = false) {a0 : Nat} {v1 : Int32} {v2 : Int32} {M : Mem} {K4 : Int32 × Int32 × Mem → Prop} {Q : Int32 → Mem → Prop} (hK4 : ∀ z : Int32 × Int32 × Mem, K4 z → E p l e (rmO 2 0 0) s m args below meth c g 5 (MQ below (QcM g (rI Q)) args s 0 0 (gA g)) 0 0 4 [(0, .ref a0), (1, .int z.1), (2, .int z.2.1)] [] (z.2.2)) (h : f_X3_sales_B4 a0 v1 v2 M K4 Q) : E p l e (rmO 2 0 0) s m args below meth c g 5 (MQ below (QcM g (rI Q)) args s 0 0 (gA g)) 0 0 4 [(0, .ref a0), (1, .int v1), (2, .int v2)] [] M := by
  unfold f_X3_sales_B4 at h
  refine e_iload_n C 2 dX3_sales_4 rfl rfl ?_
  refine e_aload_n C 0 dX3_sales_5 rfl rfl ?_
  obtain ⟨o1, h⟩ := h
  refine e_getI C [3] 7 (fg_of fg_X3_85) o1 dX3_sales_6 ?_
  refine e_icmp_ge (tgt := 87) C dX3_sales_9 (by decide) (fun q2 => ?_) (fun q2 => ?_)
  · replace h := ite_t h q2
    refine e_iload_n C 1 dX3_sales_87 rfl rfl ?_
    exact e_iret C hr hlk (Nat.le_refl _) (Nat.le_refl _) dX3_sales_88 ⟨_, rfl, h⟩
  · replace h := ite_f h q2
    refine e_aload_n C 0 dX3_sales_12 rfl rfl ?_
    refine e_getR C [3] 0 (fg_of fg_X3_9) o1 dX3_sales_13 ?_
    refine e_aload_n C 0 dX3_sales_16 rfl rfl ?_
    refine e_getR C [3] 5 (fg_of fg_X3_27) o1 dX3_sales_17 ?_
    refine e_iload_n C 2 dX3_sales_20 rfl rfl ?_
    refine e_iconst (v := 1) C dX3_sales_21 (by decide) ?_
    refine e_isub C dX3_sales_22 ?_
    obtain ⟨b3, p4, h⟩ := h
    try rw [p4]
    obtain ⟨o5, h⟩ := h
    refine e_iald C o5 dX3_sales_23 ?_
    obtain ⟨b6, p7, h⟩ := h
    try rw [p7]
    obtain ⟨o8, h⟩ := h
    refine e_iald C o8 dX3_sales_24 ?_
    refine e_istore_n (al' := [(3, .int (mI M b6 ((mI M b3 ((v2 - (1 : Int32))).toNatClampNeg)).toNatClampNeg)), (0, .ref a0), (1, .int v1), (2, .int v2)]) C dX3_sales_25 rfl (by decide) rfl ?_
    refine e_aload_n C 1 dX3_sales_26 rfl rfl ?_
    refine e_getR C [3] 0 (fg_of fg_X3_9) o1 dX3_sales_27 ?_
    rw [p7]
    refine e_aload_n C 1 dX3_sales_30 rfl rfl ?_
    refine e_getR C [3] 5 (fg_of fg_X3_27) o1 dX3_sales_31 ?_
    rw [p4]
    refine e_iload_n C 3 dX3_sales_34 rfl rfl ?_
    obtain ⟨o9, h⟩ := h
    refine e_iald C o9 dX3_sales_35 ?_
    obtain ⟨o10, h⟩ := h
    refine e_iald C o10 dX3_sales_36 ?_
    refine e_istore (al' := [(4, .int (mI M b6 ((mI M b3 (v2).toNatClampNeg)).toNatClampNeg)), (3, .int (mI M b6 ((mI M b3 ((v2 - (1 : Int32))).toNatClampNeg)).toNatClampNeg)), (0, .ref a0), (1, .int v1), (2, .int v2)]) C dX3_sales_37 (by decide) rfl ?_
    refine e_iload_n C 1 dX3_sales_39 rfl rfl ?_
    refine e_iload C 0 dX3_sales_40 rfl ?_
    refine e_icmp_eq (tgt := 81) C dX3_sales_42 (by decide) (fun q11 => ?_) (fun q11 => ?_)
    · replace h := ite_t h q11
      refine e_pick [2, 3, 4] rfl ?_
      exact w_X3_sales_J81 C hr hlk hK4 h
    · replace h := ite_f h q11
      refine e_aload_n C 2 dX3_sales_45 rfl rfl ?_
      refine e_getR C [3] 10 (fg_of fg_X3_36) o1 dX3_sales_46 ?_
      refine e_iload C 0 dX3_sales_49 rfl ?_
      obtain ⟨b12, p13, h⟩ := h
      try rw [p13]
      obtain ⟨o14, h⟩ := h
      refine e_aald C 4 (by decide) o14 dX3_sales_51 ?_
      refine e_iconst (v := 0) C dX3_sales_52 (by decide) ?_
      obtain ⟨b15, p16, h⟩ := h
      try rw [p16]
      obtain ⟨o17, h⟩ := h
      refine e_iald C o17 dX3_sales_53 ?_
      refine e_aload_n C 2 dX3_sales_54 rfl rfl ?_
      refine e_iload_n C 1 dX3_sales_55 rfl rfl ?_
      refine e_callV (as := [.int (mI M b6 ((mI M b3 ((v2 - (1 : Int32))).toNatClampNeg)).toNatClampNeg)]) C wb_X3_timeOf wv_X3_137 (ci := 3) rfl rfl (isO_1 o1) (m_X3_timeOf h) rfl ⟨Nat.le_of_ble_eq_true rfl, Nat.le_of_ble_eq_true rfl⟩ ⟨Nat.le_of_ble_eq_true rfl, Nat.le_of_ble_eq_true rfl⟩ (by first | exact Nat.le_of_ble_eq_true rfl | (simp only [List.map_cons, List.map_nil, va_cat, List.sum_cons, List.sum_nil]; exact Nat.le_of_ble_eq_true rfl)) dX3_sales_56 (kI (fun w18 M19 h31 => ?_))
      refine e_imul C dX3_sales_59 ?_
      refine e_aload_n C 2 dX3_sales_60 rfl rfl ?_
      obtain ⟨o20, h31⟩ := h31
      refine e_getR C [3] 10 (fg_of fg_X3_36) o20 dX3_sales_61 ?_
      refine e_iload_n C 1 dX3_sales_64 rfl rfl ?_
      obtain ⟨b21, p22, h31⟩ := h31
      try rw [p22]
      obtain ⟨o23, h31⟩ := h31
      refine e_aald C 4 (by decide) o23 dX3_sales_65 ?_
      refine e_iconst (v := 0) C dX3_sales_66 (by decide) ?_
      obtain ⟨b24, p25, h31⟩ := h31
      try rw [p25]
      obtain ⟨o26, h31⟩ := h31
      refine e_iald C o26 dX3_sales_67 ?_
      refine e_aload_n C 2 dX3_sales_68 rfl rfl ?_
      refine e_iload C 0 dX3_sales_69 rfl ?_
      refine e_callV (as := [.int (mI M b6 ((mI M b3 (v2).toNatClampNeg)).toNatClampNeg)]) C wb_X3_timeOf wv_X3_137 (ci := 3) rfl rfl (isO_1 o20) (m_X3_timeOf h31) rfl ⟨Nat.le_of_ble_eq_true rfl, Nat.le_of_ble_eq_true rfl⟩ ⟨Nat.le_of_ble_eq_true rfl, Nat.le_of_ble_eq_true rfl⟩ (by first | exact Nat.le_of_ble_eq_true rfl | (simp only [List.map_cons, List.map_nil, va_cat, List.sum_cons, List.sum_nil]; exact Nat.le_of_ble_eq_true rfl)) dX3_sales_71 (kI (fun w27 M28 h30 => ?_))
      refine e_imul C dX3_sales_74 ?_
      refine e_icmp_le (tgt := 81) C dX3_sales_75 (by decide) (fun q29 => ?_) (fun q29 => ?_)
      · replace h30 := ite_t h30 q29
        refine e_pick [2, 3, 4] rfl ?_
        exact w_X3_sales_J81 C hr hlk hK4 h30
      · replace h30 := ite_f h30 q29
        refine e_iinc (v := (v1 + 1)) (al' := [(1, .int (v1 + 1)), (4, .int (mI M b6 ((mI M b3 (v2).toNatClampNeg)).toNatClampNeg)), (3, .int (mI M b6 ((mI M b3 ((v2 - (1 : Int32))).toNatClampNeg)).toNatClampNeg)), (0, .ref a0), (2, .int v2)]) C 3 dX3_sales_78 rfl rfl (by decide) rfl ?_
        refine e_pick [3, 0, 4] rfl ?_
        exact w_X3_sales_J81 C hr hlk hK4 h30
set_option maxHeartbeats 4000000 in
set_option maxRecDepth 100000 in
theorem w_X3_sales_L4 {p : Program} {l : Launch} {e : Env} {s : State} {m : MethodId} {args : Array Value} {below : List Frame} {meth : Method} {c : Code} {g : Geo} (C : Cx p s m args c cX3_sales RX3 5 g) (hr : meth.sig.returnType = (some .int)) (hlk : meth.locks = false) {a0 : Nat} {v1 : Int32} {v2 : Int32} {M : Mem} {Q : Int32 → Mem → Prop} (h : f_X3_sales_L4 a0 v1 v2 M Q) : E p l e (rmO 2 0 0) s m args below meth c g 5 (MQ below (QcM g (rI Q)) args s 0 0 (gA g)) 0 0 4 [(0, .ref a0), (1, .int v1), (2, .int v2)] [] M := by
  unfold f_X3_sales_L4 at h
  refine loop_E (W := fun z : Int32 × Int32 × Mem => E p l e (rmO 2 0 0) s m args below meth c g 5 (MQ below (QcM g (rI Q)) args s 0 0 (gA g)) 0 0 4 [(0, .ref a0), (1, .int z.1), (2, .int z.2.1)] [] (z.2.2)) h (fun K z hK h => ?_)
  exact w_X3_sales_B4 C hr hlk hK h
set_option maxHeartbeats 4000000 in
set_option maxRecDepth 100000 in
theorem w_X3_sales {p : Program} {l : Launch} {e : Env} {s : State} {m : MethodId} {args : Array Value} {below : List Frame} {meth : Method} {c : Code} {g : Geo} (C : Cx p s m args c cX3_sales RX3 5 g) (hr : meth.sig.returnType = (some .int)) (hlk : meth.locks = false) {a0 : Nat} {M : Mem} {Q : Int32 → Mem → Prop} (h : f_X3_sales a0 M Q) : E p l e (rmO 2 0 0) s m args below meth c g 5 (MQ below (QcM g (rI Q)) args s 0 0 (gA g)) 0 0 0 [(0, .ref a0)] [] M := by
  unfold f_X3_sales at h
  refine e_iconst (v := 0) C dX3_sales_0 (by decide) ?_
  refine e_istore_n (al' := [(1, .int (0 : Int32)), (0, .ref a0)]) C dX3_sales_1 rfl (by decide) rfl ?_
  refine e_iconst (v := 1) C dX3_sales_2 (by decide) ?_
  refine e_istore_n (al' := [(2, .int (1 : Int32)), (1, .int (0 : Int32)), (0, .ref a0)]) C dX3_sales_3 rfl (by decide) rfl ?_
  refine e_pick [2, 1, 0] rfl ?_
  exact w_X3_sales_L4 C hr hlk h
theorem m_X3_sales  {a0 : Nat} {M : Mem} {Q : Int32 → Mem → Prop} (h : f_X3_sales a0 M Q) : Con yX3_sales cX3_sales 5 (some .int) 2 0 0 [.ref a0] M (rI Q) :=
  con_of2 (al := [(0, .ref a0)]) (by decide) (by exact Nat.le_of_ble_eq_true rfl) (by rfl) (fun p l e s m args below meth c g C hr hlk _ => w_X3_sales C hr hlk h)
