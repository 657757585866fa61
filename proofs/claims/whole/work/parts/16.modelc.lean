/-! ===== generated: the machine keeps f_ ===== -/
set_option maxHeartbeats 4000000 in
set_option maxRecDepth 100000 in
theorem w_X12_nextLine_J57 {p : Program} {l : Launch} {e : Env} {s : State} {m : MethodId} {args : Array Value} {below : List Frame} {meth : Method} {c : Code} {g : Geo} (C : Cx p s m args c cX12_nextLine RX12 3 g) (hr : meth.sig.returnType = (some .int)) (hlk : meth.locks = false) {a0 : Nat} {x1 : Int32} {M : Mem} {Q : Int32 → Mem → Prop} (h : f_X12_nextLine_J57 a0 x1 M Q) : E p l e (rmO 2 0 0) s m args below meth c g 3 (MQ below (QcM g (rI Q)) args s 0 0 (gA g)) 0 0 57 [(0, .ref a0), (1, .int x1)] [] M := by
  unfold f_X12_nextLine_J57 at h
  refine e_aload_n C 0 dX12_nextLine_57 rfl rfl ?_
  obtain ⟨o1, h⟩ := h
  refine e_getI C [12] 34 (fg_of fg_X12_114) o1 dX12_nextLine_58 ?_
  refine e_aload_n C 0 dX12_nextLine_61 rfl rfl ?_
  refine e_getR C [12] 29 (fg_of fg_X12_99) o1 dX12_nextLine_62 ?_
  refine e_iload_n C 1 dX12_nextLine_65 rfl rfl ?_
  obtain ⟨b2, p3, h⟩ := h
  try rw [p3]
  obtain ⟨o4, h⟩ := h
  refine e_iald C o4 dX12_nextLine_66 ?_
  refine e_icmp_ge (tgt := 74) C dX12_nextLine_67 (by decide) (fun q5 => ?_) (fun q5 => ?_)
  · replace h := ite_t h q5
    refine e_iconst (v := 0) C dX12_nextLine_74 (by decide) ?_
    exact e_iret C hr hlk (Nat.le_refl _) (Nat.le_refl _) dX12_nextLine_75 ⟨_, rfl, h⟩
  · replace h := ite_f h q5
    refine e_iconst (v := 1) C dX12_nextLine_70 (by decide) ?_
    refine e_goto (tgt := 75) C dX12_nextLine_71 (by decide) ?_
    exact e_iret C hr hlk (Nat.le_refl _) (Nat.le_refl _) dX12_nextLine_75 ⟨_, rfl, h⟩
set_option maxHeartbeats 4000000 in
set_option maxRecDepth 100000 in
theorem w_X12_nextLine_J36 {p : Program} {l : Launch} {e : Env} {s : State} {m : MethodId} {args : Array Value} {below : List Frame} {meth : Method} {c : Code} {g : Geo} (C : Cx p s m args c cX12_nextLine RX12 3 g) (hr : meth.sig.returnType = (some .int)) (hlk : meth.locks = false) {a0 : Nat} {x1 : Int32} {t0 : Int32} {M : Mem} {Q : Int32 → Mem → Prop} (h : f_X12_nextLine_J36 a0 x1 t0 M Q) : E p l e (rmO 2 0 0) s m args below meth c g 3 (MQ below (QcM g (rI Q)) args s 0 0 (gA g)) 0 0 36 [(0, .ref a0), (1, .int x1)] [.int t0] M := by
  unfold f_X12_nextLine_J36 at h
  refine e_istore_n (al' := [(2, .int t0), (0, .ref a0), (1, .int x1)]) C dX12_nextLine_36 rfl (by decide) rfl ?_
  refine e_aload_n C 1 dX12_nextLine_37 rfl rfl ?_
  refine e_iload_n C 0 dX12_nextLine_38 rfl rfl ?_
  obtain ⟨o3, h⟩ := h
  refine e_callV (as := [.int t0]) C wb_X12_isFirst wv_X12_306 (ci := 12) rfl rfl (isO_1 o3) (m_X12_isFirst h) rfl ⟨Nat.le_of_ble_eq_true rfl, Nat.le_of_ble_eq_true rfl⟩ ⟨Nat.le_of_ble_eq_true rfl, Nat.le_of_ble_eq_true rfl⟩ (by first | exact Nat.le_of_ble_eq_true rfl | (simp only [List.map_cons, List.map_nil, va_cat, List.sum_cons, List.sum_nil]; exact Nat.le_of_ble_eq_true rfl)) dX12_nextLine_39 (kZ (fun w1 M2 h17 => ?_))
  refine e_if_eq (tgt := 47) C dX12_nextLine_42 (by decide) (fun q4 => ?_) (fun q4 => ?_)
  · replace h17 := ite_f h17 (bi_ne q4)
    refine e_iload_n C 0 dX12_nextLine_47 rfl rfl ?_
    refine e_iconst (v := 2) C dX12_nextLine_48 (by decide) ?_
    refine e_icmp_eq (tgt := 57) C dX12_nextLine_49 (by decide) (fun q5 => ?_) (fun q5 => ?_)
    · replace h17 := ite_t h17 q5
      refine e_pick [1, 2] rfl ?_
      exact w_X12_nextLine_J57 C hr hlk h17
    · replace h17 := ite_f h17 q5
      refine e_iload_n C 0 dX12_nextLine_52 rfl rfl ?_
      refine e_iconst (v := 4) C dX12_nextLine_53 (by decide) ?_
      refine e_icmp_ne (tgt := 76) C dX12_nextLine_54 (by decide) (fun q6 => ?_) (fun q6 => ?_)
      · replace h17 := ite_f h17 q6
        refine e_aload_n C 1 dX12_nextLine_76 rfl rfl ?_
        obtain ⟨o7, h17⟩ := h17
        refine e_getR C [12] 47 (fg_of fg_X12_153) o7 dX12_nextLine_77 ?_
        refine e_bipush (v := 41) C dX12_nextLine_80 (by decide) ?_
        refine e_aload_n C 1 dX12_nextLine_82 rfl rfl ?_
        refine e_getR C [12] 48 (fg_of fg_X12_156) o7 dX12_nextLine_83 ?_
        refine e_iconst (v := 1) C dX12_nextLine_86 (by decide) ?_
        obtain ⟨b8, p9, h17⟩ := h17
        try rw [p9]
        obtain ⟨o10, h17⟩ := h17
        refine e_iald C o10 dX12_nextLine_87 ?_
        refine e_iadd C dX12_nextLine_88 ?_
        obtain ⟨b11, p12, h17⟩ := h17
        try rw [p12]
        obtain ⟨o13, h17⟩ := h17
        refine e_iald C o13 dX12_nextLine_89 ?_
        refine e_aload_n C 1 dX12_nextLine_90 rfl rfl ?_
        refine e_getR C [12] 47 (fg_of fg_X12_153) o7 dX12_nextLine_91 ?_
        rw [p12]
        refine e_aload_n C 1 dX12_nextLine_94 rfl rfl ?_
        refine e_getR C [12] 48 (fg_of fg_X12_156) o7 dX12_nextLine_95 ?_
        rw [p9]
        refine e_iconst (v := 0) C dX12_nextLine_98 (by decide) ?_
        obtain ⟨o14, h17⟩ := h17
        refine e_iald C o14 dX12_nextLine_99 ?_
        obtain ⟨o15, h17⟩ := h17
        refine e_iald C o15 dX12_nextLine_100 ?_
        refine e_icmp_ge (tgt := 108) C dX12_nextLine_101 (by decide) (fun q16 => ?_) (fun q16 => ?_)
        · replace h17 := ite_t h17 q16
          refine e_iconst (v := 0) C dX12_nextLine_108 (by decide) ?_
          exact e_iret C hr hlk (Nat.le_refl _) (Nat.le_refl _) dX12_nextLine_109 ⟨_, rfl, h17⟩
        · replace h17 := ite_f h17 q16
          refine e_iconst (v := 1) C dX12_nextLine_104 (by decide) ?_
          refine e_goto (tgt := 109) C dX12_nextLine_105 (by decide) ?_
          exact e_iret C hr hlk (Nat.le_refl _) (Nat.le_refl _) dX12_nextLine_109 ⟨_, rfl, h17⟩
      · replace h17 := ite_t h17 q6
        refine e_pick [1, 2] rfl ?_
        exact w_X12_nextLine_J57 C hr hlk h17
  · replace h17 := ite_t h17 (bi_t q4)
    refine e_iconst (v := 1) C dX12_nextLine_45 (by decide) ?_
    exact e_iret C hr hlk (Nat.le_refl _) (Nat.le_refl _) dX12_nextLine_46 ⟨_, rfl, h17⟩
set_option maxHeartbeats 4000000 in
set_option maxRecDepth 100000 in
theorem w_X12_nextLine {p : Program} {l : Launch} {e : Env} {s : State} {m : MethodId} {args : Array Value} {below : List Frame} {meth : Method} {c : Code} {g : Geo} (C : Cx p s m args c cX12_nextLine RX12 3 g) (hr : meth.sig.returnType = (some .int)) (hlk : meth.locks = false) {a0 : Nat} {x1 : Int32} {M : Mem} {Q : Int32 → Mem → Prop} (h : f_X12_nextLine a0 x1 M Q) : E p l e (rmO 2 0 0) s m args below meth c g 3 (MQ below (QcM g (rI Q)) args s 0 0 (gA g)) 0 0 0 [(0, .ref a0), (1, .int x1)] [] M := by
  unfold f_X12_nextLine at h
  refine e_aload_n C 0 dX12_nextLine_0 rfl rfl ?_
  refine e_iconst (v := 0) C dX12_nextLine_1 (by decide) ?_
  obtain ⟨o3, h⟩ := h
  refine e_callV (as := [.int (0 : Int32)]) C wb_X12_standing wv_X12_288 (ci := 12) rfl rfl (isO_1 o3) (m_X12_standing h) rfl ⟨Nat.le_of_ble_eq_true rfl, Nat.le_of_ble_eq_true rfl⟩ ⟨Nat.le_of_ble_eq_true rfl, Nat.le_of_ble_eq_true rfl⟩ (by first | exact Nat.le_of_ble_eq_true rfl | (simp only [List.map_cons, List.map_nil, va_cat, List.sum_cons, List.sum_nil]; exact Nat.le_of_ble_eq_true rfl)) dX12_nextLine_2 (kI (fun w1 M2 h15 => ?_))
  refine e_if_ne (tgt := 10) C dX12_nextLine_5 (by decide) (fun q4 => ?_) (fun q4 => ?_)
  · replace h15 := ite_f h15 q4
    refine e_aload_n C 0 dX12_nextLine_10 rfl rfl ?_
    refine e_iconst (v := 1) C dX12_nextLine_11 (by decide) ?_
    obtain ⟨o7, h15⟩ := h15
    refine e_callV (as := [.int (1 : Int32)]) C wb_X12_standing wv_X12_288 (ci := 12) rfl rfl (isO_1 o7) (m_X12_standing h15) rfl ⟨Nat.le_of_ble_eq_true rfl, Nat.le_of_ble_eq_true rfl⟩ ⟨Nat.le_of_ble_eq_true rfl, Nat.le_of_ble_eq_true rfl⟩ (by first | exact Nat.le_of_ble_eq_true rfl | (simp only [List.map_cons, List.map_nil, va_cat, List.sum_cons, List.sum_nil]; exact Nat.le_of_ble_eq_true rfl)) dX12_nextLine_12 (kI (fun w5 M6 h14 => ?_))
    refine e_if_ne (tgt := 20) C dX12_nextLine_15 (by decide) (fun q8 => ?_) (fun q8 => ?_)
    · replace h14 := ite_f h14 q8
      refine e_iload_n C 1 dX12_nextLine_20 rfl rfl ?_
      refine e_bipush (v := 10) C dX12_nextLine_21 (by decide) ?_
      refine e_icmp_ne (tgt := 30) C dX12_nextLine_23 (by decide) (fun q9 => ?_) (fun q9 => ?_)
      · replace h14 := ite_f h14 q9
        refine e_aload_n C 0 dX12_nextLine_30 rfl rfl ?_
        obtain ⟨o10, h14⟩ := h14
        refine e_getR C [12] 28 (fg_of fg_X12_96) o10 dX12_nextLine_31 ?_
        refine e_iload_n C 1 dX12_nextLine_34 rfl rfl ?_
        obtain ⟨b11, p12, h14⟩ := h14
        try rw [p12]
        obtain ⟨o13, h14⟩ := h14
        refine e_iald C o13 dX12_nextLine_35 ?_
        exact w_X12_nextLine_J36 C hr hlk h14
      · replace h14 := ite_t h14 q9
        refine e_iconst (v := 0) C dX12_nextLine_26 (by decide) ?_
        refine e_goto (tgt := 36) C dX12_nextLine_27 (by decide) ?_
        exact w_X12_nextLine_J36 C hr hlk h14
    · replace h14 := ite_t h14 q8
      refine e_iconst (v := 0) C dX12_nextLine_18 (by decide) ?_
      exact e_iret C hr hlk (Nat.le_refl _) (Nat.le_refl _) dX12_nextLine_19 ⟨_, rfl, h14⟩
  · replace h15 := ite_t h15 q4
    refine e_iconst (v := 1) C dX12_nextLine_8 (by decide) ?_
    exact e_iret C hr hlk (Nat.le_refl _) (Nat.le_refl _) dX12_nextLine_9 ⟨_, rfl, h15⟩
theorem m_X12_nextLine  {a0 : Nat} {x1 : Int32} {M : Mem} {Q : Int32 → Mem → Prop} (h : f_X12_nextLine a0 x1 M Q) : Con yX12_nextLine cX12_nextLine 3 (some .int) 2 0 0 [.ref a0, .int x1] M (rI Q) :=
  con_of2 (al := [(0, .ref a0), (1, .int x1)]) (by decide) (by exact Nat.le_of_ble_eq_true rfl) (by rfl) (fun p l e s m args below meth c g C hr hlk _ => w_X12_nextLine C hr hlk h)
set_option maxHeartbeats 4000000 in
set_option maxRecDepth 100000 in
theorem w_X12_takes_J74 {p : Program} {l : Launch} {e : Env} {s : State} {m : MethodId} {args : Array Value} {below : List Frame} {meth : Method} {c : Code} {g : Geo} (C : Cx p s m args c cX12_takes RX12 4 g) (hr : meth.sig.returnType = none) (hlk : meth.locks = false) {a0 : Nat} {x1 : Int32} {v3 : Int32} {t0 : Int32} {t1 : Option Nat} {M : Mem} {Q : Mem → Prop} (h : f_X12_takes_J74 a0 x1 v3 t0 t1 M Q) : E p l e (rmO 3 0 0) s m args below meth c g 4 (MQ below (QcM g (rV Q)) args s 0 0 (gA g)) 0 0 74 [(0, .ref a0), (1, .int x1), (3, .int v3)] [.int t0, va_rf t1] M := by
  unfold f_X12_takes_J74 at h
  obtain ⟨b1, rfl, h⟩ := h
  obtain ⟨o3, h⟩ := h
  refine e_putI C [12] 34 false (fun z => by cases z) fp_X12_114 o3 dX12_takes_74 ?_
  refine nmE (fun M4 e5 => ?_)
  replace h := h M4 e5
  have o6 : isO M4 b1 [12] := by rw [e5]; exact o3
  refine e_aload_n C 0 dX12_takes_77 rfl rfl ?_
  obtain ⟨o7, h⟩ := h
  refine e_getR C [12] 45 (fg_of fg_X12_147) o7 dX12_takes_78 ?_
  refine e_iload_n C 2 dX12_takes_81 rfl rfl ?_
  refine e_aload_n C 0 dX12_takes_82 rfl rfl ?_
  refine e_getI C [12] 39 (fg_of fg_X12_129) o7 dX12_takes_83 ?_
  refine e_aload_n C 0 dX12_takes_86 rfl rfl ?_
  refine e_getR C [12] 42 (fg_of fg_X12_138) o7 dX12_takes_87 ?_
  refine e_iload_n C 2 dX12_takes_90 rfl rfl ?_
  obtain ⟨b8, p9, h⟩ := h
  try rw [p9]
  obtain ⟨o10, h⟩ := h
  refine e_iald C o10 dX12_takes_91 ?_
  refine e_isub C dX12_takes_92 ?_
  obtain ⟨b11, p12, h⟩ := h
  try rw [p12]
  obtain ⟨o13, h⟩ := h
  refine e_iast C o13 dX12_takes_93 ?_
  refine nmE (fun M14 e15 => ?_)
  replace h := h M14 e15
  have o16 : isO M14 b1 [12] := by rw [e15]; exact o6
  have o17 : isO M14 a0 [12] := by rw [e15]; exact o7
  have p18 : mP M14 a0 42 = some b8 := by rw [e15]; exact p9
  have p19 : mP M14 a0 45 = some b11 := by rw [e15]; exact p12
  refine e_aload_n C 0 dX12_takes_94 rfl rfl ?_
  refine e_getR C [12] 46 (fg_of fg_X12_150) o17 dX12_takes_95 ?_
  refine e_iload_n C 2 dX12_takes_98 rfl rfl ?_
  refine e_aload_n C 0 dX12_takes_99 rfl rfl ?_
  refine e_getI C [12] 32 (fg_of fg_X12_108) o17 dX12_takes_100 ?_
  obtain ⟨b20, p21, h⟩ := h
  try rw [p21]
  obtain ⟨o22, h⟩ := h
  refine e_iast C o22 dX12_takes_103 ?_
  refine nmE (fun M23 e24 => ?_)
  replace h := h M23 e24
  have o25 : isO M23 b1 [12] := by rw [e24]; exact o16
  have o26 : isO M23 a0 [12] := by rw [e24]; exact o17
  have p27 : mP M23 a0 42 = some b8 := by rw [e24]; exact p18
  have p28 : mP M23 a0 45 = some b11 := by rw [e24]; exact p19
  have p29 : mP M23 a0 46 = some b20 := by rw [e24]; exact p21
  refine e_aload_n C 0 dX12_takes_104 rfl rfl ?_
  refine e_getR C [12] 50 (fg_of fg_X12_162) o26 dX12_takes_105 ?_
  refine e_aload_n C 0 dX12_takes_108 rfl rfl ?_
  refine e_getI C [12] 32 (fg_of fg_X12_108) o26 dX12_takes_109 ?_
  refine e_iload_n C 2 dX12_takes_112 rfl rfl ?_
  obtain ⟨b30, p31, h⟩ := h
  try rw [p31]
  obtain ⟨o32, h⟩ := h
  refine e_iast C o32 dX12_takes_113 ?_
  refine nmE (fun M33 e34 => ?_)
  replace h := h M33 e34
  have o35 : isO M33 b1 [12] := by rw [e34]; exact o25
  have o36 : isO M33 a0 [12] := by rw [e34]; exact o26
  have p37 : mP M33 a0 42 = some b8 := by rw [e34]; exact p27
  have p38 : mP M33 a0 45 = some b11 := by rw [e34]; exact p28
  have p39 : mP M33 a0 46 = some b20 := by rw [e34]; exact p29
  have p40 : mP M33 a0 50 = some b30 := by rw [e34]; exact p31
  refine e_aload_n C 0 dX12_takes_114 rfl rfl ?_
  refine e_getR C [12] 51 (fg_of fg_X12_165) o36 dX12_takes_115 ?_
  refine e_aload_n C 0 dX12_takes_118 rfl rfl ?_
  refine e_getI C [12] 32 (fg_of fg_X12_108) o36 dX12_takes_119 ?_
  refine e_aload_n C 0 dX12_takes_122 rfl rfl ?_
  refine e_getI C [12] 39 (fg_of fg_X12_129) o36 dX12_takes_123 ?_
  obtain ⟨b41, p42, h⟩ := h
  try rw [p42]
  obtain ⟨o43, h⟩ := h
  refine e_iast C o43 dX12_takes_126 ?_
  refine nmE (fun M44 e45 => ?_)
  replace h := h M44 e45
  have o46 : isO M44 b1 [12] := by rw [e45]; exact o35
  have o47 : isO M44 a0 [12] := by rw [e45]; exact o36
  have p48 : mP M44 a0 42 = some b8 := by rw [e45]; exact p37
  have p49 : mP M44 a0 45 = some b11 := by rw [e45]; exact p38
  have p50 : mP M44 a0 46 = some b20 := by rw [e45]; exact p39
  have p51 : mP M44 a0 50 = some b30 := by rw [e45]; exact p40
  have p52 : mP M44 a0 51 = some b41 := by rw [e45]; exact p42
  refine e_aload_n C 0 dX12_takes_127 rfl rfl ?_
  refine e_dup C rfl dX12_takes_128 ?_
  refine e_getI C [12] 32 (fg_of fg_X12_108) o47 dX12_takes_129 ?_
  refine e_iconst (v := 1) C dX12_takes_132 (by decide) ?_
  refine e_iadd C dX12_takes_133 ?_
  refine e_putI C [12] 32 false (fun z => by cases z) fp_X12_108 o47 dX12_takes_134 ?_
  refine nmE (fun M53 e54 => ?_)
  replace h := h M53 e54
  have o55 : isO M53 b1 [12] := by rw [e54]; exact o46
  have o56 : isO M53 a0 [12] := by rw [e54]; exact o47
  have p57 : mP M53 a0 42 = some b8 := by rw [e54]; exact p48
  have p58 : mP M53 a0 45 = some b11 := by rw [e54]; exact p49
  have p59 : mP M53 a0 46 = some b20 := by rw [e54]; exact p50
  have p60 : mP M53 a0 50 = some b30 := by rw [e54]; exact p51
  have p61 : mP M53 a0 51 = some b41 := by rw [e54]; exact p52
  refine e_aload_n C 0 dX12_takes_137 rfl rfl ?_
  refine e_aload_n C 0 dX12_takes_138 rfl rfl ?_
  refine e_getI C [12] 39 (fg_of fg_X12_129) o56 dX12_takes_139 ?_
  refine e_aload_n C 0 dX12_takes_142 rfl rfl ?_
  refine e_iload_n C 2 dX12_takes_143 rfl rfl ?_
  refine e_callV (as := [.int v3]) C wb_X12_timeOf wv_X12_297 (ci := 12) rfl rfl (isO_1 o56) (m_X12_timeOf h) rfl ⟨Nat.le_of_ble_eq_true rfl, Nat.le_of_ble_eq_true rfl⟩ ⟨Nat.le_of_ble_eq_true rfl, Nat.le_of_ble_eq_true rfl⟩ (by first | exact Nat.le_of_ble_eq_true rfl | (simp only [List.map_cons, List.map_nil, va_cat, List.sum_cons, List.sum_nil]; exact Nat.le_of_ble_eq_true rfl)) dX12_takes_144 (kI (fun w62 M63 h68 => ?_))
  refine e_iadd C dX12_takes_147 ?_
  obtain ⟨o64, h68⟩ := h68
  refine e_putI C [12] 33 false (fun z => by cases z) fp_X12_111 o64 dX12_takes_148 ?_
  refine nmE (fun M65 e66 => ?_)
  replace h68 := h68 M65 e66
  have o67 : isO M65 a0 [12] := by rw [e66]; exact o64
  exact e_vret C hr hlk (Nat.le_refl _) (Nat.le_refl _) dX12_takes_151 ⟨rfl, h68⟩
set_option maxHeartbeats 4000000 in
set_option maxRecDepth 100000 in
theorem w_X12_takes {p : Program} {l : Launch} {e : Env} {s : State} {m : MethodId} {args : Array Value} {below : List Frame} {meth : Method} {c : Code} {g : Geo} (C : Cx p s m args c cX12_takes RX12 4 g) (hr : meth.sig.returnType = none) (hlk : meth.locks = false) {a0 : Nat} {x1 : Int32} {M : Mem} {Q : Mem → Prop} (h : f_X12_takes a0 x1 M Q) : E p l e (rmO 3 0 0) s m args below meth c g 4 (MQ below (QcM g (rV Q)) args s 0 0 (gA g)) 0 0 0 [(0, .ref a0), (1, .int x1)] [] M := by
  unfold f_X12_takes at h
  refine e_aload_n C 0 dX12_takes_0 rfl rfl ?_
  obtain ⟨o1, h⟩ := h
  refine e_getI C [12] 33 (fg_of fg_X12_111) o1 dX12_takes_1 ?_
  refine e_aload_n C 0 dX12_takes_4 rfl rfl ?_
  refine e_getI C [12] 39 (fg_of fg_X12_129) o1 dX12_takes_5 ?_
  refine e_icmp_gt (tgt := 25) C dX12_takes_8 (by decide) (fun q2 => ?_) (fun q2 => ?_)
  · replace h := ite_t h q2
    exact e_vret C hr hlk (Nat.le_refl _) (Nat.le_refl _) dX12_takes_25 ⟨rfl, h⟩
  · replace h := ite_f h q2
    refine e_aload_n C 0 dX12_takes_11 rfl rfl ?_
    refine e_iconst (v := 0) C dX12_takes_12 (by decide) ?_
    refine e_callV (as := [.int (0 : Int32)]) C wb_X12_standing wv_X12_288 (ci := 12) rfl rfl (isO_1 o1) (m_X12_standing h) rfl ⟨Nat.le_of_ble_eq_true rfl, Nat.le_of_ble_eq_true rfl⟩ ⟨Nat.le_of_ble_eq_true rfl, Nat.le_of_ble_eq_true rfl⟩ (by first | exact Nat.le_of_ble_eq_true rfl | (simp only [List.map_cons, List.map_nil, va_cat, List.sum_cons, List.sum_nil]; exact Nat.le_of_ble_eq_true rfl)) dX12_takes_13 (kI (fun w3 M4 h29 => ?_))
    refine e_aload_n C 0 dX12_takes_16 rfl rfl ?_
    refine e_iconst (v := 1) C dX12_takes_17 (by decide) ?_
    obtain ⟨o7, h29⟩ := h29
    refine e_callV (as := [.int (1 : Int32)]) C wb_X12_standing wv_X12_288 (ci := 12) rfl rfl (isO_1 o7) (m_X12_standing h29) rfl ⟨Nat.le_of_ble_eq_true rfl, Nat.le_of_ble_eq_true rfl⟩ ⟨Nat.le_of_ble_eq_true rfl, Nat.le_of_ble_eq_true rfl⟩ (by first | exact Nat.le_of_ble_eq_true rfl | (simp only [List.map_cons, List.map_nil, va_cat, List.sum_cons, List.sum_nil]; exact Nat.le_of_ble_eq_true rfl)) dX12_takes_18 (kI (fun w5 M6 h28 => ?_))
    refine e_iadd C dX12_takes_21 ?_
    refine e_if_ne (tgt := 26) C dX12_takes_22 (by decide) (fun q8 => ?_) (fun q8 => ?_)
    · replace h28 := ite_f h28 q8
      refine e_aload_n C 0 dX12_takes_26 rfl rfl ?_
      refine e_iload_n C 1 dX12_takes_27 rfl rfl ?_
      obtain ⟨o11, h28⟩ := h28
      refine e_callV (as := [.int x1]) C wb_X12_nextLine wv_X12_309 (ci := 12) rfl rfl (isO_1 o11) (m_X12_nextLine h28) rfl ⟨Nat.le_of_ble_eq_true rfl, Nat.le_of_ble_eq_true rfl⟩ ⟨Nat.le_of_ble_eq_true rfl, Nat.le_of_ble_eq_true rfl⟩ (by first | exact Nat.le_of_ble_eq_true rfl | (simp only [List.map_cons, List.map_nil, va_cat, List.sum_cons, List.sum_nil]; exact Nat.le_of_ble_eq_true rfl)) dX12_takes_28 (kI (fun w9 M10 h27 => ?_))
      refine e_istore_n (al' := [(2, .int w9), (0, .ref a0), (1, .int x1)]) C dX12_takes_31 rfl (by decide) rfl ?_
      refine e_aload_n C 1 dX12_takes_32 rfl rfl ?_
      obtain ⟨o12, h27⟩ := h27
      refine e_getR C [12] 47 (fg_of fg_X12_153) o12 dX12_takes_33 ?_
      refine e_bipush (v := 41) C dX12_takes_36 (by decide) ?_
      refine e_iload_n C 0 dX12_takes_38 rfl rfl ?_
      refine e_imul C dX12_takes_39 ?_
      refine e_aload_n C 1 dX12_takes_40 rfl rfl ?_
      refine e_getR C [12] 48 (fg_of fg_X12_156) o12 dX12_takes_41 ?_
      refine e_iload_n C 0 dX12_takes_44 rfl rfl ?_
      obtain ⟨b13, p14, h27⟩ := h27
      try rw [p14]
      obtain ⟨o15, h27⟩ := h27
      refine e_iald C o15 dX12_takes_45 ?_
      refine e_iadd C dX12_takes_46 ?_
      obtain ⟨b16, p17, h27⟩ := h27
      try rw [p17]
      obtain ⟨o18, h27⟩ := h27
      refine e_iald C o18 dX12_takes_47 ?_
      refine e_istore_n (al' := [(3, .int (mI M10 b16 ((((41 : Int32) * w9) + (mI M10 b13 (w9).toNatClampNeg))).toNatClampNeg)), (2, .int w9), (0, .ref a0), (1, .int x1)]) C dX12_takes_48 rfl (by decide) rfl ?_
      refine e_aload_n C 2 dX12_takes_49 rfl rfl ?_
      refine e_getR C [12] 48 (fg_of fg_X12_156) o12 dX12_takes_50 ?_
      rw [p14]
      refine e_iload_n C 1 dX12_takes_53 rfl rfl ?_
      refine e_dup2 C rfl rfl dX12_takes_54 ?_
      obtain ⟨o19, h27⟩ := h27
      refine e_iald C o19 dX12_takes_55 ?_
      refine e_iconst (v := 1) C dX12_takes_56 (by decide) ?_
      refine e_iadd C dX12_takes_57 ?_
      obtain ⟨o20, h27⟩ := h27
      refine e_iast C o20 dX12_takes_58 ?_
      refine nmE (fun M21 e22 => ?_)
      replace h27 := h27 M21 e22
      have o23 : isO M21 a0 [12] := by rw [e22]; exact o12
      have p24 : mP M21 a0 48 = some b13 := by rw [e22]; exact p14
      have p25 : mP M21 a0 47 = some b16 := by rw [e22]; exact p17
      refine e_aload_n C 2 dX12_takes_59 rfl rfl ?_
      refine e_iload_n C 1 dX12_takes_60 rfl rfl ?_
      refine e_if_ne (tgt := 68) C dX12_takes_61 (by decide) (fun q26 => ?_) (fun q26 => ?_)
      · replace h27 := ite_f h27 q26
        refine e_aload_n C 2 dX12_takes_68 rfl rfl ?_
        refine e_getI C [12] 34 (fg_of fg_X12_114) o23 dX12_takes_69 ?_
        refine e_iconst (v := 1) C dX12_takes_72 (by decide) ?_
        refine e_iadd C dX12_takes_73 ?_
        refine e_pick [2, 3, 0] rfl ?_
        exact w_X12_takes_J74 C hr hlk h27
      · replace h27 := ite_t h27 q26
        refine e_iconst (v := 0) C dX12_takes_64 (by decide) ?_
        refine e_goto (tgt := 74) C dX12_takes_65 (by decide) ?_
        refine e_pick [2, 3, 0] rfl ?_
        exact w_X12_takes_J74 C hr hlk h27
    · replace h28 := ite_t h28 q8
      exact e_vret C hr hlk (Nat.le_refl _) (Nat.le_refl _) dX12_takes_25 ⟨rfl, h28⟩
theorem m_X12_takes  {a0 : Nat} {x1 : Int32} {M : Mem} {Q : Mem → Prop} (h : f_X12_takes a0 x1 M Q) : Con yX12_takes cX12_takes 4 none 3 0 0 [.ref a0, .int x1] M (rV Q) :=
  con_of2 (al := [(0, .ref a0), (1, .int x1)]) (by decide) (by exact Nat.le_of_ble_eq_true rfl) (by rfl) (fun p l e s m args below meth c g C hr hlk _ => w_X12_takes C hr hlk h)
set_option maxHeartbeats 4000000 in
set_option maxRecDepth 100000 in
theorem w_X12_go_J342 {p : Program} {l : Launch} {e : Env} {s : State} {m : MethodId} {args : Array Value} {below : List Frame} {meth : Method} {c : Code} {g : Geo} (C : Cx p s m args c cX12_go RX12 6 g) (hr : meth.sig.returnType = none) (hlk : meth.locks = false) {a0 : Nat} {x1 : Int32} {x2 : Int32} {x3 : Int32} {x4 : Int32} {M : Mem} {K111 : Mem → Prop} {Q : Mem → Prop} (hK111 : ∀ z : Mem, K111 z → E p l e (rmO 5 0 0) s m args below meth c g 6 (MQ below (QcM g (rV Q)) args s 0 0 (gA g)) 0 0 111 [(0, .ref a0), (1, .int x1), (2, .int x2), (3, .int x3), (4, .int x4)] [] z) (h : f_X12_go_J342 a0 x1 x2 x3 x4 M K111 Q) : E p l e (rmO 5 0 0) s m args below meth c g 6 (MQ below (QcM g (rV Q)) args s 0 0 (gA g)) 0 0 342 [(0, .ref a0), (1, .int x1), (2, .int x2), (3, .int x3), (4, .int x4)] [] M := by
  unfold f_X12_go_J342 at h
  refine e_aload_n C 0 dX12_go_342 rfl rfl ?_
  refine e_dup C rfl dX12_go_343 ?_
  obtain ⟨o1, h⟩ := h
  refine e_getI C [12] 39 (fg_of fg_X12_129) o1 dX12_go_344 ?_
  refine e_iconst (v := 1) C dX12_go_347 (by decide) ?_
  refine e_iadd C dX12_go_348 ?_
  refine e_putI C [12] 39 false (fun z => by cases z) fp_X12_129 o1 dX12_go_349 ?_
  refine nmE (fun M2 e3 => ?_)
  replace h := h M2 e3
  have o4 : isO M2 a0 [12] := by rw [e3]; exact o1
  refine e_goto (tgt := 111) C dX12_go_352 (by decide) ?_
  exact hK111 M2 h
set_option maxHeartbeats 4000000 in
set_option maxRecDepth 100000 in
theorem w_X12_go_B300 {p : Program} {l : Launch} {e : Env} {s : State} {m : MethodId} {args : Array Value} {below : List Frame} {meth : Method} {c : Code} {g : Geo} (C : Cx p s m args c cX12_go RX12 6 g) (hr : meth.sig.returnType = none) (hlk : meth.locks = false) {a0 : Nat} {x1 : Int32} {x2 : Int32} {x3 : Int32} {x4 : Int32} {v5 : Int32} {M : Mem} {K300 : Int32 × Mem → Prop} {K111 : Mem → Prop} {Q : Mem → Prop} (hK300 : ∀ z : Int32 × Mem, K300 z → E p l e (rmO 5 0 0) s m args below meth c g 6 (MQ below (QcM g (rV Q)) args s 0 0 (gA g)) 0 0 300 [(0, .ref a0), (1, .int x1), (2, .int x2), (3, .int x3), (4, .int x4), (5, .int z.1)] [] (z.2)) (hK111 : ∀ z : Mem, K111 z → E p l e (rmO 5 0 0) s m args below meth c g 6 (MQ below (QcM g (rV Q)) args s 0 0 (gA g)) 0 0 111 [(0, .ref a0), (1, .int x1), (2, .int x2), (3, .int x3), (4, .int x4)] [] z) (h : f_X12_go_B300 a0 x1 x2 x3 x4 v5 M K300 K111 Q) : E p l e (rmO 5 0 0) s m args below meth c g 6 (MQ below (QcM g (rV Q)) args s 0 0 (gA g)) 0 0 300 [(0, .ref a0), (1, .int x1), (2, .int x2), (3, .int x3), (4, .int x4), (5, .int v5)] [] M := by
  unfold f_X12_go_B300 at h
  refine e_iload C 5 dX12_go_300 rfl ?_
  refine e_iconst (v := 2) C dX12_go_302 (by decide) ?_
  refine e_icmp_ge (tgt := 342) C dX12_go_303 (by decide) (fun q1 => ?_) (fun q1 => ?_)
  · replace h := ite_t h q1
    refine e_pick [0, 1, 2, 3, 4] rfl ?_
    exact w_X12_go_J342 C hr hlk hK111 h
  · replace h := ite_f h q1
    refine e_aload_n C 0 dX12_go_306 rfl rfl ?_
    obtain ⟨o2, h⟩ := h
    refine e_getI C [12] 39 (fg_of fg_X12_129) o2 dX12_go_307 ?_
    refine e_bipush (v := 100) C dX12_go_310 (by decide) ?_
    refine e_icmp_ge (tgt := 342) C dX12_go_312 (by decide) (fun q3 => ?_) (fun q3 => ?_)
    · replace h := ite_t h q3
      refine e_pick [0, 1, 2, 3, 4] rfl ?_
      exact w_X12_go_J342 C hr hlk hK111 h
    · replace h := ite_f h q3
      refine e_aload_n C 0 dX12_go_315 rfl rfl ?_
      refine e_getR C [12] 52 (fg_of fg_X12_168) o2 dX12_go_316 ?_
      refine e_bipush (v := 100) C dX12_go_319 (by decide) ?_
      refine e_iload C 5 dX12_go_321 rfl ?_
      refine e_imul C dX12_go_323 ?_
      refine e_aload_n C 0 dX12_go_324 rfl rfl ?_
      refine e_getI C [12] 39 (fg_of fg_X12_129) o2 dX12_go_325 ?_
      refine e_iadd C dX12_go_328 ?_
      refine e_aload_n C 0 dX12_go_329 rfl rfl ?_
      refine e_iload C 5 dX12_go_330 rfl ?_
      refine e_callV (as := [.int v5]) C wb_X12_standing wv_X12_288 (ci := 12) rfl rfl (isO_1 o2) (m_X12_standing h) rfl ⟨Nat.le_of_ble_eq_true rfl, Nat.le_of_ble_eq_true rfl⟩ ⟨Nat.le_of_ble_eq_true rfl, Nat.le_of_ble_eq_true rfl⟩ (by first | exact Nat.le_of_ble_eq_true rfl | (simp only [List.map_cons, List.map_nil, va_cat, List.sum_cons, List.sum_nil]; exact Nat.le_of_ble_eq_true rfl)) dX12_go_332 (kI (fun w4 M5 h11 => ?_))
      obtain ⟨b6, p7, h11⟩ := h11
      try rw [p7]
      obtain ⟨o8, h11⟩ := h11
      refine e_iast C o8 dX12_go_335 ?_
      refine nmE (fun M9 e10 => ?_)
      replace h11 := h11 M9 e10
      refine e_iinc (v := (v5 + 1)) (al' := [(5, .int (v5 + 1)), (0, .ref a0), (1, .int x1), (2, .int x2), (3, .int x3), (4, .int x4)]) C 5 dX12_go_336 rfl rfl (by decide) rfl ?_
      refine e_goto (tgt := 300) C dX12_go_339 (by decide) ?_
      refine e_pick [1, 2, 3, 4, 5, 0] rfl ?_
      exact hK300 ((v5 + 1), M9) h11
set_option maxHeartbeats 4000000 in
set_option maxRecDepth 100000 in
theorem w_X12_go_L300 {p : Program} {l : Launch} {e : Env} {s : State} {m : MethodId} {args : Array Value} {below : List Frame} {meth : Method} {c : Code} {g : Geo} (C : Cx p s m args c cX12_go RX12 6 g) (hr : meth.sig.returnType = none) (hlk : meth.locks = false) {a0 : Nat} {x1 : Int32} {x2 : Int32} {x3 : Int32} {x4 : Int32} {v5 : Int32} {M : Mem} {K111 : Mem → Prop} {Q : Mem → Prop} (hK111 : ∀ z : Mem, K111 z → E p l e (rmO 5 0 0) s m args below meth c g 6 (MQ below (QcM g (rV Q)) args s 0 0 (gA g)) 0 0 111 [(0, .ref a0), (1, .int x1), (2, .int x2), (3, .int x3), (4, .int x4)] [] z) (h : f_X12_go_L300 a0 x1 x2 x3 x4 v5 M K111 Q) : E p l e (rmO 5 0 0) s m args below meth c g 6 (MQ below (QcM g (rV Q)) args s 0 0 (gA g)) 0 0 300 [(0, .ref a0), (1, .int x1), (2, .int x2), (3, .int x3), (4, .int x4), (5, .int v5)] [] M := by
  unfold f_X12_go_L300 at h
  refine loop_E (W := fun z : Int32 × Mem => E p l e (rmO 5 0 0) s m args below meth c g 6 (MQ below (QcM g (rV Q)) args s 0 0 (gA g)) 0 0 300 [(0, .ref a0), (1, .int x1), (2, .int x2), (3, .int x3), (4, .int x4), (5, .int z.1)] [] (z.2)) h (fun K z hK h => ?_)
  exact w_X12_go_B300 C hr hlk hK hK111 h
set_option maxHeartbeats 4000000 in
set_option maxRecDepth 100000 in
theorem w_X12_go_J292 {p : Program} {l : Launch} {e : Env} {s : State} {m : MethodId} {args : Array Value} {below : List Frame} {meth : Method} {c : Code} {g : Geo} (C : Cx p s m args c cX12_go RX12 6 g) (hr : meth.sig.returnType = none) (hlk : meth.locks = false) {a0 : Nat} {x1 : Int32} {x2 : Int32} {x3 : Int32} {x4 : Int32} {M : Mem} {K111 : Mem → Prop} {Q : Mem → Prop} (hK111 : ∀ z : Mem, K111 z → E p l e (rmO 5 0 0) s m args below meth c g 6 (MQ below (QcM g (rV Q)) args s 0 0 (gA g)) 0 0 111 [(0, .ref a0), (1, .int x1), (2, .int x2), (3, .int x3), (4, .int x4)] [] z) (h : f_X12_go_J292 a0 x1 x2 x3 x4 M K111 Q) : E p l e (rmO 5 0 0) s m args below meth c g 6 (MQ below (QcM g (rV Q)) args s 0 0 (gA g)) 0 0 292 [(0, .ref a0), (1, .int x1), (2, .int x2), (3, .int x3), (4, .int x4)] [] M := by
  unfold f_X12_go_J292 at h
  refine e_aload_n C 0 dX12_go_292 rfl rfl ?_
  refine e_iload_n C 1 dX12_go_293 rfl rfl ?_
  obtain ⟨o3, h⟩ := h
  refine e_callV (as := [.int x1]) C wb_X12_takes wv_X12_322 (ci := 12) rfl rfl (isO_1 o3) (m_X12_takes h) rfl ⟨Nat.le_of_ble_eq_true rfl, Nat.le_of_ble_eq_true rfl⟩ ⟨Nat.le_of_ble_eq_true rfl, Nat.le_of_ble_eq_true rfl⟩ (by first | exact Nat.le_of_ble_eq_true rfl | (simp only [List.map_cons, List.map_nil, va_cat, List.sum_cons, List.sum_nil]; exact Nat.le_of_ble_eq_true rfl)) dX12_go_294 (kV (fun M2 h4 => ?_))
  refine e_iconst (v := 0) C dX12_go_297 (by decide) ?_
  refine e_istore (al' := [(5, .int (0 : Int32)), (0, .ref a0), (1, .int x1), (2, .int x2), (3, .int x3), (4, .int x4)]) C dX12_go_298 (by decide) rfl ?_
  refine e_pick [1, 2, 3, 4, 5, 0] rfl ?_
  exact w_X12_go_L300 C hr hlk hK111 h4
set_option maxHeartbeats 4000000 in
set_option maxRecDepth 100000 in
theorem w_X12_go_J286 {p : Program} {l : Launch} {e : Env} {s : State} {m : MethodId} {args : Array Value} {below : List Frame} {meth : Method} {c : Code} {g : Geo} (C : Cx p s m args c cX12_go RX12 6 g) (hr : meth.sig.returnType = none) (hlk : meth.locks = false) {a0 : Nat} {x1 : Int32} {x2 : Int32} {x3 : Int32} {x4 : Int32} {v5 : Int32} {M : Mem} {K111 : Mem → Prop} {K237 : Int32 × Mem → Prop} {Q : Mem → Prop} (hK111 : ∀ z : Mem, K111 z → E p l e (rmO 5 0 0) s m args below meth c g 6 (MQ below (QcM g (rV Q)) args s 0 0 (gA g)) 0 0 111 [(0, .ref a0), (1, .int x1), (2, .int x2), (3, .int x3), (4, .int x4)] [] z) (hK237 : ∀ z : Int32 × Mem, K237 z → E p l e (rmO 5 0 0) s m args below meth c g 6 (MQ below (QcM g (rV Q)) args s 0 0 (gA g)) 0 0 237 [(0, .ref a0), (1, .int x1), (2, .int x2), (3, .int x3), (4, .int x4), (5, .int z.1)] [] (z.2)) (h : f_X12_go_J286 a0 x1 x2 x3 x4 v5 M K111 K237 Q) : E p l e (rmO 5 0 0) s m args below meth c g 6 (MQ below (QcM g (rV Q)) args s 0 0 (gA g)) 0 0 286 [(0, .ref a0), (1, .int x1), (2, .int x2), (3, .int x3), (4, .int x4), (5, .int v5)] [] M := by
  unfold f_X12_go_J286 at h
  refine e_iinc (v := (v5 + 1)) (al' := [(5, .int (v5 + 1)), (0, .ref a0), (1, .int x1), (2, .int x2), (3, .int x3), (4, .int x4)]) C 5 dX12_go_286 rfl rfl (by decide) rfl ?_
  refine e_goto (tgt := 237) C dX12_go_289 (by decide) ?_
  refine e_pick [1, 2, 3, 4, 5, 0] rfl ?_
  exact hK237 ((v5 + 1), M) h
set_option maxHeartbeats 4000000 in
set_option maxRecDepth 100000 in
theorem w_X12_go_B237 {p : Program} {l : Launch} {e : Env} {s : State} {m : MethodId} {args : Array Value} {below : List Frame} {meth : Method} {c : Code} {g : Geo} (C : Cx p s m args c cX12_go RX12 6 g) (hr : meth.sig.returnType = none) (hlk : meth.locks = false) {a0 : Nat} {x1 : Int32} {x2 : Int32} {x3 : Int32} {x4 : Int32} {v5 : Int32} {M : Mem} {K237 : Int32 × Mem → Prop} {K111 : Mem → Prop} {Q : Mem → Prop} (hK237 : ∀ z : Int32 × Mem, K237 z → E p l e (rmO 5 0 0) s m args below meth c g 6 (MQ below (QcM g (rV Q)) args s 0 0 (gA g)) 0 0 237 [(0, .ref a0), (1, .int x1), (2, .int x2), (3, .int x3), (4, .int x4), (5, .int z.1)] [] (z.2)) (hK111 : ∀ z : Mem, K111 z → E p l e (rmO 5 0 0) s m args below meth c g 6 (MQ below (QcM g (rV Q)) args s 0 0 (gA g)) 0 0 111 [(0, .ref a0), (1, .int x1), (2, .int x2), (3, .int x3), (4, .int x4)] [] z) (h : f_X12_go_B237 a0 x1 x2 x3 x4 v5 M K237 K111 Q) : E p l e (rmO 5 0 0) s m args below meth c g 6 (MQ below (QcM g (rV Q)) args s 0 0 (gA g)) 0 0 237 [(0, .ref a0), (1, .int x1), (2, .int x2), (3, .int x3), (4, .int x4), (5, .int v5)] [] M := by
  unfold f_X12_go_B237 at h
  refine e_iload C 5 dX12_go_237 rfl ?_
  refine e_aload_n C 0 dX12_go_239 rfl rfl ?_
  obtain ⟨o1, h⟩ := h
  refine e_getI C [12] 0 (fg_of fg_X12_7) o1 dX12_go_240 ?_
  refine e_icmp_ge (tgt := 292) C dX12_go_243 (by decide) (fun q2 => ?_) (fun q2 => ?_)
  · replace h := ite_t h q2
    refine e_pick [0, 1, 2, 3, 4] rfl ?_
    exact w_X12_go_J292 C hr hlk hK111 h
  · replace h := ite_f h q2
    refine e_aload_n C 0 dX12_go_246 rfl rfl ?_
    refine e_getI C [12] 39 (fg_of fg_X12_129) o1 dX12_go_247 ?_
    refine e_bipush (v := 60) C dX12_go_250 (by decide) ?_
    refine e_icmp_ge (tgt := 292) C dX12_go_252 (by decide) (fun q3 => ?_) (fun q3 => ?_)
    · replace h := ite_t h q3
      refine e_pick [0, 1, 2, 3, 4] rfl ?_
      exact w_X12_go_J292 C hr hlk hK111 h
    · replace h := ite_f h q3
      refine e_aload_n C 0 dX12_go_255 rfl rfl ?_
      refine e_getI C [12] 31 (fg_of fg_X12_105) o1 dX12_go_256 ?_
      refine e_aload_n C 0 dX12_go_259 rfl rfl ?_
      refine e_getI C [12] 37 (fg_of fg_X12_123) o1 dX12_go_260 ?_
      refine e_icmp_ge (tgt := 286) C dX12_go_263 (by decide) (fun q4 => ?_) (fun q4 => ?_)
      · replace h := ite_t h q4
        exact w_X12_go_J286 C hr hlk hK111 hK237 h
      · replace h := ite_f h q4
        refine e_aload_n C 0 dX12_go_266 rfl rfl ?_
        refine e_iload C 5 dX12_go_267 rfl ?_
        refine e_aload_n C 0 dX12_go_269 rfl rfl ?_
        refine e_getI C [12] 39 (fg_of fg_X12_129) o1 dX12_go_270 ?_
        refine e_callV (as := [.int v5, .int (mI M a0 39)]) C wb_X12_comes wv_X12_319 (ci := 12) rfl rfl (isO_1 o1) (m_X12_comes h) rfl ⟨Nat.le_of_ble_eq_true rfl, Nat.le_of_ble_eq_true rfl⟩ ⟨Nat.le_of_ble_eq_true rfl, Nat.le_of_ble_eq_true rfl⟩ (by first | exact Nat.le_of_ble_eq_true rfl | (simp only [List.map_cons, List.map_nil, va_cat, List.sum_cons, List.sum_nil]; exact Nat.le_of_ble_eq_true rfl)) dX12_go_273 (kZ (fun w5 M6 h12 => ?_))
        refine e_if_eq (tgt := 286) C dX12_go_276 (by decide) (fun q7 => ?_) (fun q7 => ?_)
        · replace h12 := ite_f h12 (bi_ne q7)
          exact w_X12_go_J286 C hr hlk hK111 hK237 h12
        · replace h12 := ite_t h12 (bi_t q7)
          refine e_aload_n C 0 dX12_go_279 rfl rfl ?_
          refine e_iload_n C 1 dX12_go_280 rfl rfl ?_
          refine e_iload C 5 dX12_go_281 rfl ?_
          obtain ⟨o10, h12⟩ := h12
          refine e_callV (as := [.int x1, .int v5]) C wb_X12_joins wv_X12_315 (ci := 12) rfl rfl (isO_1 o10) (m_X12_joins h12) rfl ⟨Nat.le_of_ble_eq_true rfl, Nat.le_of_ble_eq_true rfl⟩ ⟨Nat.le_of_ble_eq_true rfl, Nat.le_of_ble_eq_true rfl⟩ (by first | exact Nat.le_of_ble_eq_true rfl | (simp only [List.map_cons, List.map_nil, va_cat, List.sum_cons, List.sum_nil]; exact Nat.le_of_ble_eq_true rfl)) dX12_go_283 (kV (fun M9 h11 => ?_))
          exact w_X12_go_J286 C hr hlk hK111 hK237 h11
set_option maxHeartbeats 4000000 in
set_option maxRecDepth 100000 in
theorem w_X12_go_L237 {p : Program} {l : Launch} {e : Env} {s : State} {m : MethodId} {args : Array Value} {below : List Frame} {meth : Method} {c : Code} {g : Geo} (C : Cx p s m args c cX12_go RX12 6 g) (hr : meth.sig.returnType = none) (hlk : meth.locks = false) {a0 : Nat} {x1 : Int32} {x2 : Int32} {x3 : Int32} {x4 : Int32} {v5 : Int32} {M : Mem} {K111 : Mem → Prop} {Q : Mem → Prop} (hK111 : ∀ z : Mem, K111 z → E p l e (rmO 5 0 0) s m args below meth c g 6 (MQ below (QcM g (rV Q)) args s 0 0 (gA g)) 0 0 111 [(0, .ref a0), (1, .int x1), (2, .int x2), (3, .int x3), (4, .int x4)] [] z) (h : f_X12_go_L237 a0 x1 x2 x3 x4 v5 M K111 Q) : E p l e (rmO 5 0 0) s m args below meth c g 6 (MQ below (QcM g (rV Q)) args s 0 0 (gA g)) 0 0 237 [(0, .ref a0), (1, .int x1), (2, .int x2), (3, .int x3), (4, .int x4), (5, .int v5)] [] M := by
  unfold f_X12_go_L237 at h
  refine loop_E (W := fun z : Int32 × Mem => E p l e (rmO 5 0 0) s m args below meth c g 6 (MQ below (QcM g (rV Q)) args s 0 0 (gA g)) 0 0 237 [(0, .ref a0), (1, .int x1), (2, .int x2), (3, .int x3), (4, .int x4), (5, .int z.1)] [] (z.2)) h (fun K z hK h => ?_)
  exact w_X12_go_B237 C hr hlk hK hK111 h
set_option maxHeartbeats 4000000 in
set_option maxRecDepth 100000 in
theorem w_X12_go_J234 {p : Program} {l : Launch} {e : Env} {s : State} {m : MethodId} {args : Array Value} {below : List Frame} {meth : Method} {c : Code} {g : Geo} (C : Cx p s m args c cX12_go RX12 6 g) (hr : meth.sig.returnType = none) (hlk : meth.locks = false) {a0 : Nat} {x1 : Int32} {x2 : Int32} {x3 : Int32} {x4 : Int32} {M : Mem} {K111 : Mem → Prop} {Q : Mem → Prop} (hK111 : ∀ z : Mem, K111 z → E p l e (rmO 5 0 0) s m args below meth c g 6 (MQ below (QcM g (rV Q)) args s 0 0 (gA g)) 0 0 111 [(0, .ref a0), (1, .int x1), (2, .int x2), (3, .int x3), (4, .int x4)] [] z) (h : f_X12_go_J234 a0 x1 x2 x3 x4 M K111 Q) : E p l e (rmO 5 0 0) s m args below meth c g 6 (MQ below (QcM g (rV Q)) args s 0 0 (gA g)) 0 0 234 [(0, .ref a0), (1, .int x1), (2, .int x2), (3, .int x3), (4, .int x4)] [] M := by
  unfold f_X12_go_J234 at h
  refine e_iconst (v := 0) C dX12_go_234 (by decide) ?_
  refine e_istore (al' := [(5, .int (0 : Int32)), (0, .ref a0), (1, .int x1), (2, .int x2), (3, .int x3), (4, .int x4)]) C dX12_go_235 (by decide) rfl ?_
  refine e_pick [1, 2, 3, 4, 5, 0] rfl ?_
  exact w_X12_go_L237 C hr hlk hK111 h
set_option maxHeartbeats 4000000 in
set_option maxRecDepth 100000 in
theorem w_X12_go_J228 {p : Program} {l : Launch} {e : Env} {s : State} {m : MethodId} {args : Array Value} {below : List Frame} {meth : Method} {c : Code} {g : Geo} (C : Cx p s m args c cX12_go RX12 6 g) (hr : meth.sig.returnType = none) (hlk : meth.locks = false) {a0 : Nat} {x1 : Int32} {x2 : Int32} {x3 : Int32} {x4 : Int32} {v5 : Int32} {M : Mem} {K111 : Mem → Prop} {K137 : Int32 × Mem → Prop} {Q : Mem → Prop} (hK111 : ∀ z : Mem, K111 z → E p l e (rmO 5 0 0) s m args below meth c g 6 (MQ below (QcM g (rV Q)) args s 0 0 (gA g)) 0 0 111 [(0, .ref a0), (1, .int x1), (2, .int x2), (3, .int x3), (4, .int x4)] [] z) (hK137 : ∀ z : Int32 × Mem, K137 z → E p l e (rmO 5 0 0) s m args below meth c g 6 (MQ below (QcM g (rV Q)) args s 0 0 (gA g)) 0 0 137 [(0, .ref a0), (1, .int x1), (2, .int x2), (3, .int x3), (4, .int x4), (5, .int z.1)] [] (z.2)) (h : f_X12_go_J228 a0 x1 x2 x3 x4 v5 M K111 K137 Q) : E p l e (rmO 5 0 0) s m args below meth c g 6 (MQ below (QcM g (rV Q)) args s 0 0 (gA g)) 0 0 228 [(0, .ref a0), (1, .int x1), (2, .int x2), (3, .int x3), (4, .int x4), (5, .int v5)] [] M := by
  unfold f_X12_go_J228 at h
  refine e_iinc (v := (v5 + 1)) (al' := [(5, .int (v5 + 1)), (0, .ref a0), (1, .int x1), (2, .int x2), (3, .int x3), (4, .int x4)]) C 5 dX12_go_228 rfl rfl (by decide) rfl ?_
  refine e_goto (tgt := 137) C dX12_go_231 (by decide) ?_
  refine e_pick [1, 2, 3, 4, 5, 0] rfl ?_
  exact hK137 ((v5 + 1), M) h
set_option maxHeartbeats 4000000 in
set_option maxRecDepth 100000 in
theorem w_X12_go_J216 {p : Program} {l : Launch} {e : Env} {s : State} {m : MethodId} {args : Array Value} {below : List Frame} {meth : Method} {c : Code} {g : Geo} (C : Cx p s m args c cX12_go RX12 6 g) (hr : meth.sig.returnType = none) (hlk : meth.locks = false) {a0 : Nat} {x1 : Int32} {x2 : Int32} {x3 : Int32} {x4 : Int32} {v5 : Int32} {M : Mem} {K111 : Mem → Prop} {K137 : Int32 × Mem → Prop} {Q : Mem → Prop} (hK111 : ∀ z : Mem, K111 z → E p l e (rmO 5 0 0) s m args below meth c g 6 (MQ below (QcM g (rV Q)) args s 0 0 (gA g)) 0 0 111 [(0, .ref a0), (1, .int x1), (2, .int x2), (3, .int x3), (4, .int x4)] [] z) (hK137 : ∀ z : Int32 × Mem, K137 z → E p l e (rmO 5 0 0) s m args below meth c g 6 (MQ below (QcM g (rV Q)) args s 0 0 (gA g)) 0 0 137 [(0, .ref a0), (1, .int x1), (2, .int x2), (3, .int x3), (4, .int x4), (5, .int z.1)] [] (z.2)) (h : f_X12_go_J216 a0 x1 x2 x3 x4 v5 M K111 K137 Q) : E p l e (rmO 5 0 0) s m args below meth c g 6 (MQ below (QcM g (rV Q)) args s 0 0 (gA g)) 0 0 216 [(0, .ref a0), (1, .int x1), (2, .int x2), (3, .int x3), (4, .int x4), (5, .int v5)] [] M := by
  unfold f_X12_go_J216 at h
  refine e_aload_n C 0 dX12_go_216 rfl rfl ?_
  refine e_iload_n C 1 dX12_go_217 rfl rfl ?_
  refine e_aload_n C 0 dX12_go_218 rfl rfl ?_
  obtain ⟨o1, h⟩ := h
  refine e_getR C [12] 7 (fg_of fg_X12_32) o1 dX12_go_219 ?_
  refine e_iload C 5 dX12_go_222 rfl ?_
  obtain ⟨b2, p3, h⟩ := h
  try rw [p3]
  obtain ⟨o4, h⟩ := h
  refine e_iald C o4 dX12_go_224 ?_
  refine e_callV (as := [.int x1, .int (mI M b2 (v5).toNatClampNeg)]) C wb_X12_joins wv_X12_315 (ci := 12) rfl rfl (isO_1 o1) (m_X12_joins h) rfl ⟨Nat.le_of_ble_eq_true rfl, Nat.le_of_ble_eq_true rfl⟩ ⟨Nat.le_of_ble_eq_true rfl, Nat.le_of_ble_eq_true rfl⟩ (by first | exact Nat.le_of_ble_eq_true rfl | (simp only [List.map_cons, List.map_nil, va_cat, List.sum_cons, List.sum_nil]; exact Nat.le_of_ble_eq_true rfl)) dX12_go_225 (kV (fun M6 h7 => ?_))
  exact w_X12_go_J228 C hr hlk hK111 hK137 h7
set_option maxHeartbeats 4000000 in
set_option maxRecDepth 100000 in
theorem w_X12_go_B137 {p : Program} {l : Launch} {e : Env} {s : State} {m : MethodId} {args : Array Value} {below : List Frame} {meth : Method} {c : Code} {g : Geo} (C : Cx p s m args c cX12_go RX12 6 g) (hr : meth.sig.returnType = none) (hlk : meth.locks = false) {a0 : Nat} {x1 : Int32} {x2 : Int32} {x3 : Int32} {x4 : Int32} {v5 : Int32} {M : Mem} {K137 : Int32 × Mem → Prop} {K111 : Mem → Prop} {Q : Mem → Prop} (hK137 : ∀ z : Int32 × Mem, K137 z → E p l e (rmO 5 0 0) s m args below meth c g 6 (MQ below (QcM g (rV Q)) args s 0 0 (gA g)) 0 0 137 [(0, .ref a0), (1, .int x1), (2, .int x2), (3, .int x3), (4, .int x4), (5, .int z.1)] [] (z.2)) (hK111 : ∀ z : Mem, K111 z → E p l e (rmO 5 0 0) s m args below meth c g 6 (MQ below (QcM g (rV Q)) args s 0 0 (gA g)) 0 0 111 [(0, .ref a0), (1, .int x1), (2, .int x2), (3, .int x3), (4, .int x4)] [] z) (h : f_X12_go_B137 a0 x1 x2 x3 x4 v5 M K137 K111 Q) : E p l e (rmO 5 0 0) s m args below meth c g 6 (MQ below (QcM g (rV Q)) args s 0 0 (gA g)) 0 0 137 [(0, .ref a0), (1, .int x1), (2, .int x2), (3, .int x3), (4, .int x4), (5, .int v5)] [] M := by
  unfold f_X12_go_B137 at h
  refine e_iload C 5 dX12_go_137 rfl ?_
  refine e_aload_n C 0 dX12_go_139 rfl rfl ?_
  obtain ⟨o1, h⟩ := h
  refine e_getI C [12] 1 (fg_of fg_X12_13) o1 dX12_go_140 ?_
  refine e_aload_n C 0 dX12_go_143 rfl rfl ?_
  refine e_getI C [12] 38 (fg_of fg_X12_126) o1 dX12_go_144 ?_
  refine e_iadd C dX12_go_147 ?_
  refine e_icmp_ge (tgt := 234) C dX12_go_148 (by decide) (fun q2 => ?_) (fun q2 => ?_)
  · replace h := ite_t h q2
    refine e_pick [0, 1, 2, 3, 4] rfl ?_
    exact w_X12_go_J234 C hr hlk hK111 h
  · replace h := ite_f h q2
    refine e_aload_n C 0 dX12_go_151 rfl rfl ?_
    refine e_getI C [12] 39 (fg_of fg_X12_129) o1 dX12_go_152 ?_
    refine e_bipush (v := 60) C dX12_go_155 (by decide) ?_
    refine e_icmp_ge (tgt := 234) C dX12_go_157 (by decide) (fun q3 => ?_) (fun q3 => ?_)
    · replace h := ite_t h q3
      refine e_pick [0, 1, 2, 3, 4] rfl ?_
      exact w_X12_go_J234 C hr hlk hK111 h
    · replace h := ite_f h q3
      refine e_aload_n C 0 dX12_go_160 rfl rfl ?_
      refine e_getR C [12] 8 (fg_of fg_X12_35) o1 dX12_go_161 ?_
      refine e_iload C 5 dX12_go_164 rfl ?_
      obtain ⟨b4, p5, h⟩ := h
      try rw [p5]
      obtain ⟨o6, h⟩ := h
      refine e_iald C o6 dX12_go_166 ?_
      refine e_aload_n C 0 dX12_go_167 rfl rfl ?_
      refine e_getI C [12] 39 (fg_of fg_X12_129) o1 dX12_go_168 ?_
      refine e_icmp_ne (tgt := 228) C dX12_go_171 (by decide) (fun q7 => ?_) (fun q7 => ?_)
      · replace h := ite_f h q7
        exact w_X12_go_J228 C hr hlk hK111 hK137 h
      · replace h := ite_t h q7
        refine e_iload C 4 dX12_go_174 rfl ?_
        refine e_iload C 5 dX12_go_176 rfl ?_
        refine e_ishr C dX12_go_178 ?_
        refine e_iconst (v := 1) C dX12_go_179 (by decide) ?_
        refine e_iand C dX12_go_180 ?_
        refine e_iconst (v := 1) C dX12_go_181 (by decide) ?_
        refine e_icmp_ne (tgt := 188) C dX12_go_182 (by decide) (fun q8 => ?_) (fun q8 => ?_)
        · replace h := ite_f h q8
          refine e_iload C 5 dX12_go_188 rfl ?_
          refine e_aload_n C 0 dX12_go_190 rfl rfl ?_
          refine e_getI C [12] 1 (fg_of fg_X12_13) o1 dX12_go_191 ?_
          refine e_icmp_ne (tgt := 216) C dX12_go_194 (by decide) (fun q9 => ?_) (fun q9 => ?_)
          · replace h := ite_f h q9
            exact w_X12_go_J216 C hr hlk hK111 hK137 h
          · replace h := ite_t h q9
            refine e_aload_n C 0 dX12_go_197 rfl rfl ?_
            refine e_getI C [12] 31 (fg_of fg_X12_105) o1 dX12_go_198 ?_
            refine e_aload_n C 0 dX12_go_201 rfl rfl ?_
            refine e_getI C [12] 37 (fg_of fg_X12_123) o1 dX12_go_202 ?_
            refine e_icmp_ge (tgt := 216) C dX12_go_205 (by decide) (fun q10 => ?_) (fun q10 => ?_)
            · replace h := ite_t h q10
              exact w_X12_go_J216 C hr hlk hK111 hK137 h
            · replace h := ite_f h q10
              refine e_aload_n C 0 dX12_go_208 rfl rfl ?_
              refine e_aload_n C 0 dX12_go_209 rfl rfl ?_
              refine e_getI C [12] 31 (fg_of fg_X12_105) o1 dX12_go_210 ?_
              refine e_putI C [12] 40 false (fun z => by cases z) fp_X12_132 o1 dX12_go_213 ?_
              refine nmE (fun M11 e12 => ?_)
              replace h := h M11 e12
              have o13 : isO M11 a0 [12] := by rw [e12]; exact o1
              have p14 : mP M11 a0 8 = some b4 := by rw [e12]; exact p5
              exact w_X12_go_J216 C hr hlk hK111 hK137 h
        · replace h := ite_t h q8
          refine e_goto (tgt := 228) C dX12_go_185 (by decide) ?_
          exact w_X12_go_J228 C hr hlk hK111 hK137 h
set_option maxHeartbeats 4000000 in
set_option maxRecDepth 100000 in
theorem w_X12_go_L137 {p : Program} {l : Launch} {e : Env} {s : State} {m : MethodId} {args : Array Value} {below : List Frame} {meth : Method} {c : Code} {g : Geo} (C : Cx p s m args c cX12_go RX12 6 g) (hr : meth.sig.returnType = none) (hlk : meth.locks = false) {a0 : Nat} {x1 : Int32} {x2 : Int32} {x3 : Int32} {x4 : Int32} {v5 : Int32} {M : Mem} {K111 : Mem → Prop} {Q : Mem → Prop} (hK111 : ∀ z : Mem, K111 z → E p l e (rmO 5 0 0) s m args below meth c g 6 (MQ below (QcM g (rV Q)) args s 0 0 (gA g)) 0 0 111 [(0, .ref a0), (1, .int x1), (2, .int x2), (3, .int x3), (4, .int x4)] [] z) (h : f_X12_go_L137 a0 x1 x2 x3 x4 v5 M K111 Q) : E p l e (rmO 5 0 0) s m args below meth c g 6 (MQ below (QcM g (rV Q)) args s 0 0 (gA g)) 0 0 137 [(0, .ref a0), (1, .int x1), (2, .int x2), (3, .int x3), (4, .int x4), (5, .int v5)] [] M := by
  unfold f_X12_go_L137 at h
  refine loop_E (W := fun z : Int32 × Mem => E p l e (rmO 5 0 0) s m args below meth c g 6 (MQ below (QcM g (rV Q)) args s 0 0 (gA g)) 0 0 137 [(0, .ref a0), (1, .int x1), (2, .int x2), (3, .int x3), (4, .int x4), (5, .int z.1)] [] (z.2)) h (fun K z hK h => ?_)
  exact w_X12_go_B137 C hr hlk hK hK111 h
set_option maxHeartbeats 4000000 in
set_option maxRecDepth 100000 in
theorem w_X12_go_J134 {p : Program} {l : Launch} {e : Env} {s : State} {m : MethodId} {args : Array Value} {below : List Frame} {meth : Method} {c : Code} {g : Geo} (C : Cx p s m args c cX12_go RX12 6 g) (hr : meth.sig.returnType = none) (hlk : meth.locks = false) {a0 : Nat} {x1 : Int32} {x2 : Int32} {x3 : Int32} {x4 : Int32} {M : Mem} {K111 : Mem → Prop} {Q : Mem → Prop} (hK111 : ∀ z : Mem, K111 z → E p l e (rmO 5 0 0) s m args below meth c g 6 (MQ below (QcM g (rV Q)) args s 0 0 (gA g)) 0 0 111 [(0, .ref a0), (1, .int x1), (2, .int x2), (3, .int x3), (4, .int x4)] [] z) (h : f_X12_go_J134 a0 x1 x2 x3 x4 M K111 Q) : E p l e (rmO 5 0 0) s m args below meth c g 6 (MQ below (QcM g (rV Q)) args s 0 0 (gA g)) 0 0 134 [(0, .ref a0), (1, .int x1), (2, .int x2), (3, .int x3), (4, .int x4)] [] M := by
  unfold f_X12_go_J134 at h
  refine e_iconst (v := 0) C dX12_go_134 (by decide) ?_
  refine e_istore (al' := [(5, .int (0 : Int32)), (0, .ref a0), (1, .int x1), (2, .int x2), (3, .int x3), (4, .int x4)]) C dX12_go_135 (by decide) rfl ?_
  refine e_pick [1, 2, 3, 4, 5, 0] rfl ?_
  exact w_X12_go_L137 C hr hlk hK111 h
set_option maxHeartbeats 4000000 in
set_option maxRecDepth 100000 in
theorem w_X12_go_B111 {p : Program} {l : Launch} {e : Env} {s : State} {m : MethodId} {args : Array Value} {below : List Frame} {meth : Method} {c : Code} {g : Geo} (C : Cx p s m args c cX12_go RX12 6 g) (hr : meth.sig.returnType = none) (hlk : meth.locks = false) {a0 : Nat} {x1 : Int32} {x2 : Int32} {x3 : Int32} {x4 : Int32} {M : Mem} {K111 : Mem → Prop} {Q : Mem → Prop} (hK111 : ∀ z : Mem, K111 z → E p l e (rmO 5 0 0) s m args below meth c g 6 (MQ below (QcM g (rV Q)) args s 0 0 (gA g)) 0 0 111 [(0, .ref a0), (1, .int x1), (2, .int x2), (3, .int x3), (4, .int x4)] [] z) (h : f_X12_go_B111 a0 x1 x2 x3 x4 M K111 Q) : E p l e (rmO 5 0 0) s m args below meth c g 6 (MQ below (QcM g (rV Q)) args s 0 0 (gA g)) 0 0 111 [(0, .ref a0), (1, .int x1), (2, .int x2), (3, .int x3), (4, .int x4)] [] M := by
  unfold f_X12_go_B111 at h
  refine e_aload_n C 0 dX12_go_111 rfl rfl ?_
  obtain ⟨o1, h⟩ := h
  refine e_getI C [12] 39 (fg_of fg_X12_129) o1 dX12_go_112 ?_
  refine e_bipush (v := 60) C dX12_go_115 (by decide) ?_
  refine e_icmp_lt (tgt := 134) C dX12_go_117 (by decide) (fun q2 => ?_) (fun q2 => ?_)
  · replace h := ite_t h q2
    exact w_X12_go_J134 C hr hlk hK111 h
  · replace h := ite_f h q2
    refine e_aload_n C 0 dX12_go_120 rfl rfl ?_
    refine e_iconst (v := 0) C dX12_go_121 (by decide) ?_
    refine e_callV (as := [.int (0 : Int32)]) C wb_X12_standing wv_X12_288 (ci := 12) rfl rfl (isO_1 o1) (m_X12_standing h) rfl ⟨Nat.le_of_ble_eq_true rfl, Nat.le_of_ble_eq_true rfl⟩ ⟨Nat.le_of_ble_eq_true rfl, Nat.le_of_ble_eq_true rfl⟩ (by first | exact Nat.le_of_ble_eq_true rfl | (simp only [List.map_cons, List.map_nil, va_cat, List.sum_cons, List.sum_nil]; exact Nat.le_of_ble_eq_true rfl)) dX12_go_122 (kI (fun w3 M4 h10 => ?_))
    refine e_aload_n C 0 dX12_go_125 rfl rfl ?_
    refine e_iconst (v := 1) C dX12_go_126 (by decide) ?_
    obtain ⟨o7, h10⟩ := h10
    refine e_callV (as := [.int (1 : Int32)]) C wb_X12_standing wv_X12_288 (ci := 12) rfl rfl (isO_1 o7) (m_X12_standing h10) rfl ⟨Nat.le_of_ble_eq_true rfl, Nat.le_of_ble_eq_true rfl⟩ ⟨Nat.le_of_ble_eq_true rfl, Nat.le_of_ble_eq_true rfl⟩ (by first | exact Nat.le_of_ble_eq_true rfl | (simp only [List.map_cons, List.map_nil, va_cat, List.sum_cons, List.sum_nil]; exact Nat.le_of_ble_eq_true rfl)) dX12_go_127 (kI (fun w5 M6 h9 => ?_))
    refine e_iadd C dX12_go_130 ?_
    refine e_if_le (tgt := 355) C dX12_go_131 (by decide) (fun q8 => ?_) (fun q8 => ?_)
    · replace h9 := ite_t h9 q8
      exact e_vret C hr hlk (Nat.le_refl _) (Nat.le_refl _) dX12_go_355 ⟨rfl, h9⟩
    · replace h9 := ite_f h9 q8
      exact w_X12_go_J134 C hr hlk hK111 h9
set_option maxHeartbeats 4000000 in
set_option maxRecDepth 100000 in
theorem w_X12_go_L111 {p : Program} {l : Launch} {e : Env} {s : State} {m : MethodId} {args : Array Value} {below : List Frame} {meth : Method} {c : Code} {g : Geo} (C : Cx p s m args c cX12_go RX12 6 g) (hr : meth.sig.returnType = none) (hlk : meth.locks = false) {a0 : Nat} {x1 : Int32} {x2 : Int32} {x3 : Int32} {x4 : Int32} {M : Mem} {Q : Mem → Prop} (h : f_X12_go_L111 a0 x1 x2 x3 x4 M Q) : E p l e (rmO 5 0 0) s m args below meth c g 6 (MQ below (QcM g (rV Q)) args s 0 0 (gA g)) 0 0 111 [(0, .ref a0), (1, .int x1), (2, .int x2), (3, .int x3), (4, .int x4)] [] M := by
  unfold f_X12_go_L111 at h
  refine loop_E (W := fun z : Mem => E p l e (rmO 5 0 0) s m args below meth c g 6 (MQ below (QcM g (rV Q)) args s 0 0 (gA g)) 0 0 111 [(0, .ref a0), (1, .int x1), (2, .int x2), (3, .int x3), (4, .int x4)] [] z) h (fun K z hK h => ?_)
  exact w_X12_go_B111 C hr hlk hK h
set_option maxHeartbeats 4000000 in
set_option maxRecDepth 100000 in
theorem w_X12_go_B84 {p : Program} {l : Launch} {e : Env} {s : State} {m : MethodId} {args : Array Value} {below : List Frame} {meth : Method} {c : Code} {g : Geo} (C : Cx p s m args c cX12_go RX12 6 g) (hr : meth.sig.returnType = none) (hlk : meth.locks = false) {a0 : Nat} {x1 : Int32} {x2 : Int32} {x3 : Int32} {x4 : Int32} {v5 : Int32} {M : Mem} {K84 : Int32 × Mem → Prop} {Q : Mem → Prop} (hK84 : ∀ z : Int32 × Mem, K84 z → E p l e (rmO 5 0 0) s m args below meth c g 6 (MQ below (QcM g (rV Q)) args s 0 0 (gA g)) 0 0 84 [(0, .ref a0), (1, .int x1), (2, .int x2), (3, .int x3), (4, .int x4), (5, .int z.1)] [] (z.2)) (h : f_X12_go_B84 a0 x1 x2 x3 x4 v5 M K84 Q) : E p l e (rmO 5 0 0) s m args below meth c g 6 (MQ below (QcM g (rV Q)) args s 0 0 (gA g)) 0 0 84 [(0, .ref a0), (1, .int x1), (2, .int x2), (3, .int x3), (4, .int x4), (5, .int v5)] [] M := by
  unfold f_X12_go_B84 at h
  refine e_iload C 5 dX12_go_84 rfl ?_
  refine e_sipush (v := 200) C dX12_go_86 (by decide) ?_
  refine e_icmp_ge (tgt := 106) C dX12_go_89 (by decide) (fun q1 => ?_) (fun q1 => ?_)
  · replace h := ite_t h q1
    refine e_aload_n C 0 dX12_go_106 rfl rfl ?_
    refine e_iconst (v := 0) C dX12_go_107 (by decide) ?_
    obtain ⟨o2, h⟩ := h
    refine e_putI C [12] 39 false (fun z => by cases z) fp_X12_129 o2 dX12_go_108 ?_
    refine nmE (fun M3 e4 => ?_)
    replace h := h M3 e4
    have o5 : isO M3 a0 [12] := by rw [e4]; exact o2
    refine e_pick [0, 1, 2, 3, 4] rfl ?_
    exact w_X12_go_L111 C hr hlk h
  · replace h := ite_f h q1
    refine e_aload_n C 0 dX12_go_92 rfl rfl ?_
    obtain ⟨o6, h⟩ := h
    refine e_getR C [12] 52 (fg_of fg_X12_168) o6 dX12_go_93 ?_
    refine e_iload C 5 dX12_go_96 rfl ?_
    refine e_iconst (v := 0) C dX12_go_98 (by decide) ?_
    obtain ⟨b7, p8, h⟩ := h
    try rw [p8]
    obtain ⟨o9, h⟩ := h
    refine e_iast C o9 dX12_go_99 ?_
    refine nmE (fun M10 e11 => ?_)
    replace h := h M10 e11
    have o12 : isO M10 a0 [12] := by rw [e11]; exact o6
    have p13 : mP M10 a0 52 = some b7 := by rw [e11]; exact p8
    refine e_iinc (v := (v5 + 1)) (al' := [(5, .int (v5 + 1)), (0, .ref a0), (1, .int x1), (2, .int x2), (3, .int x3), (4, .int x4)]) C 5 dX12_go_100 rfl rfl (by decide) rfl ?_
    refine e_goto (tgt := 84) C dX12_go_103 (by decide) ?_
    refine e_pick [1, 2, 3, 4, 5, 0] rfl ?_
    exact hK84 ((v5 + 1), M10) h
set_option maxHeartbeats 4000000 in
set_option maxRecDepth 100000 in
theorem w_X12_go_L84 {p : Program} {l : Launch} {e : Env} {s : State} {m : MethodId} {args : Array Value} {below : List Frame} {meth : Method} {c : Code} {g : Geo} (C : Cx p s m args c cX12_go RX12 6 g) (hr : meth.sig.returnType = none) (hlk : meth.locks = false) {a0 : Nat} {x1 : Int32} {x2 : Int32} {x3 : Int32} {x4 : Int32} {v5 : Int32} {M : Mem} {Q : Mem → Prop} (h : f_X12_go_L84 a0 x1 x2 x3 x4 v5 M Q) : E p l e (rmO 5 0 0) s m args below meth c g 6 (MQ below (QcM g (rV Q)) args s 0 0 (gA g)) 0 0 84 [(0, .ref a0), (1, .int x1), (2, .int x2), (3, .int x3), (4, .int x4), (5, .int v5)] [] M := by
  unfold f_X12_go_L84 at h
  refine loop_E (W := fun z : Int32 × Mem => E p l e (rmO 5 0 0) s m args below meth c g 6 (MQ below (QcM g (rV Q)) args s 0 0 (gA g)) 0 0 84 [(0, .ref a0), (1, .int x1), (2, .int x2), (3, .int x3), (4, .int x4), (5, .int z.1)] [] (z.2)) h (fun K z hK h => ?_)
  exact w_X12_go_B84 C hr hlk hK h
set_option maxHeartbeats 4000000 in
set_option maxRecDepth 100000 in
theorem w_X12_go_B53 {p : Program} {l : Launch} {e : Env} {s : State} {m : MethodId} {args : Array Value} {below : List Frame} {meth : Method} {c : Code} {g : Geo} (C : Cx p s m args c cX12_go RX12 6 g) (hr : meth.sig.returnType = none) (hlk : meth.locks = false) {a0 : Nat} {x1 : Int32} {x2 : Int32} {x3 : Int32} {x4 : Int32} {v5 : Int32} {M : Mem} {K53 : Int32 × Mem → Prop} {Q : Mem → Prop} (hK53 : ∀ z : Int32 × Mem, K53 z → E p l e (rmO 5 0 0) s m args below meth c g 6 (MQ below (QcM g (rV Q)) args s 0 0 (gA g)) 0 0 53 [(0, .ref a0), (1, .int x1), (2, .int x2), (3, .int x3), (4, .int x4), (5, .int z.1)] [] (z.2)) (h : f_X12_go_B53 a0 x1 x2 x3 x4 v5 M K53 Q) : E p l e (rmO 5 0 0) s m args below meth c g 6 (MQ below (QcM g (rV Q)) args s 0 0 (gA g)) 0 0 53 [(0, .ref a0), (1, .int x1), (2, .int x2), (3, .int x3), (4, .int x4), (5, .int v5)] [] M := by
  unfold f_X12_go_B53 at h
  refine e_iload C 5 dX12_go_53 rfl ?_
  refine e_iconst (v := 2) C dX12_go_55 (by decide) ?_
  refine e_icmp_ge (tgt := 81) C dX12_go_56 (by decide) (fun q1 => ?_) (fun q1 => ?_)
  · replace h := ite_t h q1
    refine e_iconst (v := 0) C dX12_go_81 (by decide) ?_
    refine e_istore (al' := [(5, .int (0 : Int32)), (0, .ref a0), (1, .int x1), (2, .int x2), (3, .int x3), (4, .int x4)]) C dX12_go_82 (by decide) rfl ?_
    refine e_pick [1, 2, 3, 4, 5, 0] rfl ?_
    exact w_X12_go_L84 C hr hlk h
  · replace h := ite_f h q1
    refine e_aload_n C 0 dX12_go_59 rfl rfl ?_
    obtain ⟨o2, h⟩ := h
    refine e_getR C [12] 48 (fg_of fg_X12_156) o2 dX12_go_60 ?_
    refine e_iload C 5 dX12_go_63 rfl ?_
    refine e_iconst (v := 0) C dX12_go_65 (by decide) ?_
    obtain ⟨b3, p4, h⟩ := h
    try rw [p4]
    obtain ⟨o5, h⟩ := h
    refine e_iast C o5 dX12_go_66 ?_
    refine nmE (fun M6 e7 => ?_)
    replace h := h M6 e7
    have o8 : isO M6 a0 [12] := by rw [e7]; exact o2
    have p9 : mP M6 a0 48 = some b3 := by rw [e7]; exact p4
    refine e_aload_n C 0 dX12_go_67 rfl rfl ?_
    refine e_getR C [12] 49 (fg_of fg_X12_159) o8 dX12_go_68 ?_
    refine e_iload C 5 dX12_go_71 rfl ?_
    refine e_iconst (v := 0) C dX12_go_73 (by decide) ?_
    obtain ⟨b10, p11, h⟩ := h
    try rw [p11]
    obtain ⟨o12, h⟩ := h
    refine e_iast C o12 dX12_go_74 ?_
    refine nmE (fun M13 e14 => ?_)
    replace h := h M13 e14
    have o15 : isO M13 a0 [12] := by rw [e14]; exact o8
    have p16 : mP M13 a0 48 = some b3 := by rw [e14]; exact p9
    have p17 : mP M13 a0 49 = some b10 := by rw [e14]; exact p11
    refine e_iinc (v := (v5 + 1)) (al' := [(5, .int (v5 + 1)), (0, .ref a0), (1, .int x1), (2, .int x2), (3, .int x3), (4, .int x4)]) C 5 dX12_go_75 rfl rfl (by decide) rfl ?_
    refine e_goto (tgt := 53) C dX12_go_78 (by decide) ?_
    refine e_pick [1, 2, 3, 4, 5, 0] rfl ?_
    exact hK53 ((v5 + 1), M13) h
set_option maxHeartbeats 4000000 in
set_option maxRecDepth 100000 in
theorem w_X12_go_L53 {p : Program} {l : Launch} {e : Env} {s : State} {m : MethodId} {args : Array Value} {below : List Frame} {meth : Method} {c : Code} {g : Geo} (C : Cx p s m args c cX12_go RX12 6 g) (hr : meth.sig.returnType = none) (hlk : meth.locks = false) {a0 : Nat} {x1 : Int32} {x2 : Int32} {x3 : Int32} {x4 : Int32} {v5 : Int32} {M : Mem} {Q : Mem → Prop} (h : f_X12_go_L53 a0 x1 x2 x3 x4 v5 M Q) : E p l e (rmO 5 0 0) s m args below meth c g 6 (MQ below (QcM g (rV Q)) args s 0 0 (gA g)) 0 0 53 [(0, .ref a0), (1, .int x1), (2, .int x2), (3, .int x3), (4, .int x4), (5, .int v5)] [] M := by
  unfold f_X12_go_L53 at h
  refine loop_E (W := fun z : Int32 × Mem => E p l e (rmO 5 0 0) s m args below meth c g 6 (MQ below (QcM g (rV Q)) args s 0 0 (gA g)) 0 0 53 [(0, .ref a0), (1, .int x1), (2, .int x2), (3, .int x3), (4, .int x4), (5, .int z.1)] [] (z.2)) h (fun K z hK h => ?_)
  exact w_X12_go_B53 C hr hlk hK h
set_option maxHeartbeats 4000000 in
set_option maxRecDepth 100000 in
theorem w_X12_go {p : Program} {l : Launch} {e : Env} {s : State} {m : MethodId} {args : Array Value} {below : List Frame} {meth : Method} {c : Code} {g : Geo} (C : Cx p s m args c cX12_go RX12 6 g) (hr : meth.sig.returnType = none) (hlk : meth.locks = false) {a0 : Nat} {x1 : Int32} {x2 : Int32} {x3 : Int32} {x4 : Int32} {M : Mem} {Q : Mem → Prop} (h : f_X12_go a0 x1 x2 x3 x4 M Q) : E p l e (rmO 5 0 0) s m args below meth c g 6 (MQ below (QcM g (rV Q)) args s 0 0 (gA g)) 0 0 0 [(0, .ref a0), (1, .int x1), (2, .int x2), (3, .int x3), (4, .int x4)] [] M := by
  unfold f_X12_go at h
  refine e_aload_n C 0 dX12_go_0 rfl rfl ?_
  refine e_iconst (v := 0) C dX12_go_1 (by decide) ?_
  obtain ⟨o1, h⟩ := h
  refine e_putI C [12] 31 false (fun z => by cases z) fp_X12_105 o1 dX12_go_2 ?_
  refine nmE (fun M2 e3 => ?_)
  replace h := h M2 e3
  have o4 : isO M2 a0 [12] := by rw [e3]; exact o1
  refine e_aload_n C 0 dX12_go_5 rfl rfl ?_
  refine e_iconst (v := 0) C dX12_go_6 (by decide) ?_
  refine e_putI C [12] 32 false (fun z => by cases z) fp_X12_108 o4 dX12_go_7 ?_
  refine nmE (fun M5 e6 => ?_)
  replace h := h M5 e6
  have o7 : isO M5 a0 [12] := by rw [e6]; exact o4
  refine e_aload_n C 0 dX12_go_10 rfl rfl ?_
  refine e_iconst (v := 0) C dX12_go_11 (by decide) ?_
  refine e_putI C [12] 33 false (fun z => by cases z) fp_X12_111 o7 dX12_go_12 ?_
  refine nmE (fun M8 e9 => ?_)
  replace h := h M8 e9
  have o10 : isO M8 a0 [12] := by rw [e9]; exact o7
  refine e_aload_n C 0 dX12_go_15 rfl rfl ?_
  refine e_iconst (v := 0) C dX12_go_16 (by decide) ?_
  refine e_putI C [12] 34 false (fun z => by cases z) fp_X12_114 o10 dX12_go_17 ?_
  refine nmE (fun M11 e12 => ?_)
  replace h := h M11 e12
  have o13 : isO M11 a0 [12] := by rw [e12]; exact o10
  refine e_aload_n C 0 dX12_go_20 rfl rfl ?_
  refine e_iload_n C 2 dX12_go_21 rfl rfl ?_
  refine e_putI C [12] 35 false (fun z => by cases z) fp_X12_117 o13 dX12_go_22 ?_
  refine nmE (fun M14 e15 => ?_)
  replace h := h M14 e15
  have o16 : isO M14 a0 [12] := by rw [e15]; exact o13
  refine e_aload_n C 0 dX12_go_25 rfl rfl ?_
  refine e_aload_n C 0 dX12_go_26 rfl rfl ?_
  refine e_iconst (v := 1) C dX12_go_27 (by decide) ?_
  refine e_callV (as := [.int (1 : Int32)]) C wb_X12_told wv_X12_312 (ci := 12) rfl rfl (isO_1 o16) (m_X12_told h) rfl ⟨Nat.le_of_ble_eq_true rfl, Nat.le_of_ble_eq_true rfl⟩ ⟨Nat.le_of_ble_eq_true rfl, Nat.le_of_ble_eq_true rfl⟩ (by first | exact Nat.le_of_ble_eq_true rfl | (simp only [List.map_cons, List.map_nil, va_cat, List.sum_cons, List.sum_nil]; exact Nat.le_of_ble_eq_true rfl)) dX12_go_28 (kI (fun w17 M18 h33 => ?_))
  refine e_iload_n C 3 dX12_go_31 rfl rfl ?_
  refine e_iadd C dX12_go_32 ?_
  obtain ⟨o19, h33⟩ := h33
  refine e_putI C [12] 36 false (fun z => by cases z) fp_X12_120 o19 dX12_go_33 ?_
  refine nmE (fun M20 e21 => ?_)
  replace h33 := h33 M20 e21
  have o22 : isO M20 a0 [12] := by rw [e21]; exact o19
  refine e_aload_n C 0 dX12_go_36 rfl rfl ?_
  refine e_aload_n C 0 dX12_go_37 rfl rfl ?_
  refine e_iconst (v := 2) C dX12_go_38 (by decide) ?_
  refine e_callV (as := [.int (2 : Int32)]) C wb_X12_told wv_X12_312 (ci := 12) rfl rfl (isO_1 o22) (m_X12_told h33) rfl ⟨Nat.le_of_ble_eq_true rfl, Nat.le_of_ble_eq_true rfl⟩ ⟨Nat.le_of_ble_eq_true rfl, Nat.le_of_ble_eq_true rfl⟩ (by first | exact Nat.le_of_ble_eq_true rfl | (simp only [List.map_cons, List.map_nil, va_cat, List.sum_cons, List.sum_nil]; exact Nat.le_of_ble_eq_true rfl)) dX12_go_39 (kI (fun w23 M24 h32 => ?_))
  obtain ⟨o25, h32⟩ := h32
  refine e_putI C [12] 37 false (fun z => by cases z) fp_X12_123 o25 dX12_go_42 ?_
  refine nmE (fun M26 e27 => ?_)
  replace h32 := h32 M26 e27
  have o28 : isO M26 a0 [12] := by rw [e27]; exact o25
  refine e_aload_n C 0 dX12_go_45 rfl rfl ?_
  refine e_iconst (v := -1) C dX12_go_46 (by decide) ?_
  refine e_putI C [12] 40 false (fun z => by cases z) fp_X12_132 o28 dX12_go_47 ?_
  refine nmE (fun M29 e30 => ?_)
  replace h32 := h32 M29 e30
  have o31 : isO M29 a0 [12] := by rw [e30]; exact o28
  refine e_iconst (v := 0) C dX12_go_50 (by decide) ?_
  refine e_istore (al' := [(5, .int (0 : Int32)), (0, .ref a0), (1, .int x1), (2, .int x2), (3, .int x3), (4, .int x4)]) C dX12_go_51 (by decide) rfl ?_
  refine e_pick [1, 2, 3, 4, 5, 0] rfl ?_
  exact w_X12_go_L53 C hr hlk h32
theorem m_X12_go  {a0 : Nat} {x1 : Int32} {x2 : Int32} {x3 : Int32} {x4 : Int32} {M : Mem} {Q : Mem → Prop} (h : f_X12_go a0 x1 x2 x3 x4 M Q) : Con yX12_go cX12_go 6 none 5 0 0 [.ref a0, .int x1, .int x2, .int x3, .int x4] M (rV Q) :=
  con_of2 (al := [(0, .ref a0), (1, .int x1), (2, .int x2), (3, .int x3), (4, .int x4)]) (by decide) (by exact Nat.le_of_ble_eq_true rfl) (by rfl) (fun p l e s m args below meth c g C hr hlk _ => w_X12_go C hr hlk h)
set_option maxHeartbeats 4000000 in
set_option maxRecDepth 100000 in
theorem w_X12_goPlainly {p : Program} {l : Launch} {e : Env} {s : State} {m : MethodId} {args : Array Value} {below : List Frame} {meth : Method} {c : Code} {g : Geo} (C : Cx p s m args c cX12_goPlainly RX12 2 g) (hr : meth.sig.returnType = none) (hlk : meth.locks = false) {a0 : Nat} {x1 : Int32} {M : Mem} {Q : Mem → Prop} (h : f_X12_goPlainly a0 x1 M Q) : E p l e (rmO 6 0 0) s m args below meth c g 2 (MQ below (QcM g (rV Q)) args s 0 0 (gA g)) 0 0 0 [(0, .ref a0), (1, .int x1)] [] M := by
  unfold f_X12_goPlainly at h
  refine e_aload_n C 0 dX12_goPlainly_0 rfl rfl ?_
  refine e_iload_n C 1 dX12_goPlainly_1 rfl rfl ?_
  refine e_aload_n C 0 dX12_goPlainly_2 rfl rfl ?_
  refine e_iconst (v := 0) C dX12_goPlainly_3 (by decide) ?_
  obtain ⟨o3, h⟩ := h
  refine e_callV (as := [.int (0 : Int32)]) C wb_X12_told wv_X12_312 (ci := 12) rfl rfl (isO_1 o3) (m_X12_told h) rfl ⟨Nat.le_of_ble_eq_true rfl, Nat.le_of_ble_eq_true rfl⟩ ⟨Nat.le_of_ble_eq_true rfl, Nat.le_of_ble_eq_true rfl⟩ (by first | exact Nat.le_of_ble_eq_true rfl | (simp only [List.map_cons, List.map_nil, va_cat, List.sum_cons, List.sum_nil]; exact Nat.le_of_ble_eq_true rfl)) dX12_goPlainly_4 (kI (fun w1 M2 h8 => ?_))
  refine e_iconst (v := 0) C dX12_goPlainly_7 (by decide) ?_
  refine e_iconst (v := 0) C dX12_goPlainly_8 (by decide) ?_
  obtain ⟨o6, h8⟩ := h8
  refine e_callV (as := [.int x1, .int w1, .int (0 : Int32), .int (0 : Int32)]) C wb_X12_go wv_X12_325 (ci := 12) rfl rfl (isO_1 o6) (m_X12_go h8) rfl ⟨Nat.le_of_ble_eq_true rfl, Nat.le_of_ble_eq_true rfl⟩ ⟨Nat.le_of_ble_eq_true rfl, Nat.le_of_ble_eq_true rfl⟩ (by first | exact Nat.le_of_ble_eq_true rfl | (simp only [List.map_cons, List.map_nil, va_cat, List.sum_cons, List.sum_nil]; exact Nat.le_of_ble_eq_true rfl)) dX12_goPlainly_9 (kV (fun M5 h7 => ?_))
  exact e_vret C hr hlk (Nat.le_refl _) (Nat.le_refl _) dX12_goPlainly_12 ⟨rfl, h7⟩
theorem m_X12_goPlainly  {a0 : Nat} {x1 : Int32} {M : Mem} {Q : Mem → Prop} (h : f_X12_goPlainly a0 x1 M Q) : Con yX12_goPlainly cX12_goPlainly 2 none 6 0 0 [.ref a0, .int x1] M (rV Q) :=
  con_of2 (al := [(0, .ref a0), (1, .int x1)]) (by decide) (by exact Nat.le_of_ble_eq_true rfl) (by rfl) (fun p l e s m args below meth c g C hr hlk _ => w_X12_goPlainly C hr hlk h)
set_option maxHeartbeats 4000000 in
set_option maxRecDepth 100000 in
theorem w_X12_lost_B4 {p : Program} {l : Launch} {e : Env} {s : State} {m : MethodId} {args : Array Value} {below : List Frame} {meth : Method} {c : Code} {g : Geo} (C : Cx p s m args c cX12_lost RX12 3 g) (hr : meth.sig.returnType = (some .int)) (hlk : meth.locks = false) {a0 : Nat} {v1 : Int32} {v2 : Int32} {M : Mem} {K4 : Int32 × Int32 × Mem → Prop} {Q : Int32 → Mem → Prop} (hK4 : ∀ z : Int32 × Int32 × Mem, K4 z → E p l e (rmO 1 0 0) s m args below meth c g 3 (MQ below (QcM g (rI Q)) args s 0 0 (gA g)) 0 0 4 [(0, .ref a0), (1, .int z.1), (2, .int z.2.1)] [] (z.2.2)) (h : f_X12_lost_B4 a0 v1 v2 M K4 Q) : E p l e (rmO 1 0 0) s m args below meth c g 3 (MQ below (QcM g (rI Q)) args s 0 0 (gA g)) 0 0 4 [(0, .ref a0), (1, .int v1), (2, .int v2)] [] M := by
  unfold f_X12_lost_B4 at h
  refine e_iload_n C 2 dX12_lost_4 rfl rfl ?_
  refine e_aload_n C 0 dX12_lost_5 rfl rfl ?_
  obtain ⟨o1, h⟩ := h
  refine e_getI C [12] 32 (fg_of fg_X12_108) o1 dX12_lost_6 ?_
  refine e_icmp_ge (tgt := 49) C dX12_lost_9 (by decide) (fun q2 => ?_) (fun q2 => ?_)
  · replace h := ite_t h q2
    refine e_iload_n C 1 dX12_lost_49 rfl rfl ?_
    exact e_iret C hr hlk (Nat.le_refl _) (Nat.le_refl _) dX12_lost_50 ⟨_, rfl, h⟩
  · replace h := ite_f h q2
    refine e_iload_n C 1 dX12_lost_12 rfl rfl ?_
    refine e_aload_n C 0 dX12_lost_13 rfl rfl ?_
    refine e_getR C [12] 2 (fg_of fg_X12_16) o1 dX12_lost_14 ?_
    refine e_aload_n C 0 dX12_lost_17 rfl rfl ?_
    refine e_getR C [12] 41 (fg_of fg_X12_135) o1 dX12_lost_18 ?_
    refine e_aload_n C 0 dX12_lost_21 rfl rfl ?_
    refine e_getR C [12] 50 (fg_of fg_X12_162) o1 dX12_lost_22 ?_
    refine e_iload_n C 2 dX12_lost_25 rfl rfl ?_
    obtain ⟨b3, p4, h⟩ := h
    try rw [p4]
    obtain ⟨o5, h⟩ := h
    refine e_iald C o5 dX12_lost_26 ?_
    obtain ⟨b6, p7, h⟩ := h
    try rw [p7]
    obtain ⟨o8, h⟩ := h
    refine e_iald C o8 dX12_lost_27 ?_
    obtain ⟨b9, p10, h⟩ := h
    try rw [p10]
    obtain ⟨o11, h⟩ := h
    refine e_iald C o11 dX12_lost_28 ?_
    refine e_aload_n C 0 dX12_lost_29 rfl rfl ?_
    refine e_getR C [12] 45 (fg_of fg_X12_147) o1 dX12_lost_30 ?_
    refine e_aload_n C 0 dX12_lost_33 rfl rfl ?_
    refine e_getR C [12] 50 (fg_of fg_X12_162) o1 dX12_lost_34 ?_
    rw [p4]
    refine e_iload_n C 2 dX12_lost_37 rfl rfl ?_
    obtain ⟨o12, h⟩ := h
    refine e_iald C o12 dX12_lost_38 ?_
    obtain ⟨b13, p14, h⟩ := h
    try rw [p14]
    obtain ⟨o15, h⟩ := h
    refine e_iald C o15 dX12_lost_39 ?_
    refine e_imul C dX12_lost_40 ?_
    refine e_iadd C dX12_lost_41 ?_
    refine e_istore_n (al' := [(1, .int (v1 + ((mI M b9 ((mI M b6 ((mI M b3 (v2).toNatClampNeg)).toNatClampNeg)).toNatClampNeg) * (mI M b13 ((mI M b3 (v2).toNatClampNeg)).toNatClampNeg)))), (0, .ref a0), (2, .int v2)]) C dX12_lost_42 rfl (by decide) rfl ?_
    refine e_iinc (v := (v2 + 1)) (al' := [(2, .int (v2 + 1)), (1, .int (v1 + ((mI M b9 ((mI M b6 ((mI M b3 (v2).toNatClampNeg)).toNatClampNeg)).toNatClampNeg) * (mI M b13 ((mI M b3 (v2).toNatClampNeg)).toNatClampNeg)))), (0, .ref a0)]) C 2 dX12_lost_43 rfl rfl (by decide) rfl ?_
    refine e_goto (tgt := 4) C dX12_lost_46 (by decide) ?_
    refine e_pick [2, 1, 0] rfl ?_
    exact hK4 ((v1 + ((mI M b9 ((mI M b6 ((mI M b3 (v2).toNatClampNeg)).toNatClampNeg)).toNatClampNeg) * (mI M b13 ((mI M b3 (v2).toNatClampNeg)).toNatClampNeg))), (v2 + 1), M) h
set_option maxHeartbeats 4000000 in
set_option maxRecDepth 100000 in
theorem w_X12_lost_L4 {p : Program} {l : Launch} {e : Env} {s : State} {m : MethodId} {args : Array Value} {below : List Frame} {meth : Method} {c : Code} {g : Geo} (C : Cx p s m args c cX12_lost RX12 3 g) (hr : meth.sig.returnType = (some .int)) (hlk : meth.locks = false) {a0 : Nat} {v1 : Int32} {v2 : Int32} {M : Mem} {Q : Int32 → Mem → Prop} (h : f_X12_lost_L4 a0 v1 v2 M Q) : E p l e (rmO 1 0 0) s m args below meth c g 3 (MQ below (QcM g (rI Q)) args s 0 0 (gA g)) 0 0 4 [(0, .ref a0), (1, .int v1), (2, .int v2)] [] M := by
  unfold f_X12_lost_L4 at h
  refine loop_E (W := fun z : Int32 × Int32 × Mem => E p l e (rmO 1 0 0) s m args below meth c g 3 (MQ below (QcM g (rI Q)) args s 0 0 (gA g)) 0 0 4 [(0, .ref a0), (1, .int z.1), (2, .int z.2.1)] [] (z.2.2)) h (fun K z hK h => ?_)
  exact w_X12_lost_B4 C hr hlk hK h
set_option maxHeartbeats 4000000 in
set_option maxRecDepth 100000 in
theorem w_X12_lost {p : Program} {l : Launch} {e : Env} {s : State} {m : MethodId} {args : Array Value} {below : List Frame} {meth : Method} {c : Code} {g : Geo} (C : Cx p s m args c cX12_lost RX12 3 g) (hr : meth.sig.returnType = (some .int)) (hlk : meth.locks = false) {a0 : Nat} {M : Mem} {Q : Int32 → Mem → Prop} (h : f_X12_lost a0 M Q) : E p l e (rmO 1 0 0) s m args below meth c g 3 (MQ below (QcM g (rI Q)) args s 0 0 (gA g)) 0 0 0 [(0, .ref a0)] [] M := by
  unfold f_X12_lost at h
  refine e_iconst (v := 0) C dX12_lost_0 (by decide) ?_
  refine e_istore_n (al' := [(1, .int (0 : Int32)), (0, .ref a0)]) C dX12_lost_1 rfl (by decide) rfl ?_
  refine e_iconst (v := 0) C dX12_lost_2 (by decide) ?_
  refine e_istore_n (al' := [(2, .int (0 : Int32)), (1, .int (0 : Int32)), (0, .ref a0)]) C dX12_lost_3 rfl (by decide) rfl ?_
  refine e_pick [2, 1, 0] rfl ?_
  exact w_X12_lost_L4 C hr hlk h
theorem m_X12_lost  {a0 : Nat} {M : Mem} {Q : Int32 → Mem → Prop} (h : f_X12_lost a0 M Q) : Con yX12_lost cX12_lost 3 (some .int) 1 0 0 [.ref a0] M (rI Q) :=
  con_of2 (al := [(0, .ref a0)]) (by decide) (by exact Nat.le_of_ble_eq_true rfl) (by rfl) (fun p l e s m args below meth c g C hr hlk _ => w_X12_lost C hr hlk h)
set_option maxHeartbeats 4000000 in
set_option maxRecDepth 100000 in
theorem w_X12_pence_B4 {p : Program} {l : Launch} {e : Env} {s : State} {m : MethodId} {args : Array Value} {below : List Frame} {meth : Method} {c : Code} {g : Geo} (C : Cx p s m args c cX12_pence RX12 3 g) (hr : meth.sig.returnType = (some .int)) (hlk : meth.locks = false) {a0 : Nat} {v1 : Int32} {v2 : Int32} {M : Mem} {K4 : Int32 × Int32 × Mem → Prop} {Q : Int32 → Mem → Prop} (hK4 : ∀ z : Int32 × Int32 × Mem, K4 z → E p l e (rmO 1 0 0) s m args below meth c g 3 (MQ below (QcM g (rI Q)) args s 0 0 (gA g)) 0 0 4 [(0, .ref a0), (1, .int z.1), (2, .int z.2.1)] [] (z.2.2)) (h : f_X12_pence_B4 a0 v1 v2 M K4 Q) : E p l e (rmO 1 0 0) s m args below meth c g 3 (MQ below (QcM g (rI Q)) args s 0 0 (gA g)) 0 0 4 [(0, .ref a0), (1, .int v1), (2, .int v2)] [] M := by
  unfold f_X12_pence_B4 at h
  refine e_iload_n C 2 dX12_pence_4 rfl rfl ?_
  refine e_aload_n C 0 dX12_pence_5 rfl rfl ?_
  obtain ⟨o1, h⟩ := h
  refine e_getI C [12] 31 (fg_of fg_X12_105) o1 dX12_pence_6 ?_
  refine e_icmp_ge (tgt := 27) C dX12_pence_9 (by decide) (fun q2 => ?_) (fun q2 => ?_)
  · replace h := ite_t h q2
    refine e_iload_n C 1 dX12_pence_27 rfl rfl ?_
    exact e_iret C hr hlk (Nat.le_refl _) (Nat.le_refl _) dX12_pence_28 ⟨_, rfl, h⟩
  · replace h := ite_f h q2
    refine e_iload_n C 1 dX12_pence_12 rfl rfl ?_
    refine e_aload_n C 0 dX12_pence_13 rfl rfl ?_
    refine e_getR C [12] 44 (fg_of fg_X12_144) o1 dX12_pence_14 ?_
    refine e_iload_n C 2 dX12_pence_17 rfl rfl ?_
    obtain ⟨b3, p4, h⟩ := h
    try rw [p4]
    obtain ⟨o5, h⟩ := h
    refine e_iald C o5 dX12_pence_18 ?_
    refine e_iadd C dX12_pence_19 ?_
    refine e_istore_n (al' := [(1, .int (v1 + (mI M b3 (v2).toNatClampNeg))), (0, .ref a0), (2, .int v2)]) C dX12_pence_20 rfl (by decide) rfl ?_
    refine e_iinc (v := (v2 + 1)) (al' := [(2, .int (v2 + 1)), (1, .int (v1 + (mI M b3 (v2).toNatClampNeg))), (0, .ref a0)]) C 2 dX12_pence_21 rfl rfl (by decide) rfl ?_
    refine e_goto (tgt := 4) C dX12_pence_24 (by decide) ?_
    refine e_pick [2, 1, 0] rfl ?_
    exact hK4 ((v1 + (mI M b3 (v2).toNatClampNeg)), (v2 + 1), M) h
set_option maxHeartbeats 4000000 in
set_option maxRecDepth 100000 in
theorem w_X12_pence_L4 {p : Program} {l : Launch} {e : Env} {s : State} {m : MethodId} {args : Array Value} {below : List Frame} {meth : Method} {c : Code} {g : Geo} (C : Cx p s m args c cX12_pence RX12 3 g) (hr : meth.sig.returnType = (some .int)) (hlk : meth.locks = false) {a0 : Nat} {v1 : Int32} {v2 : Int32} {M : Mem} {Q : Int32 → Mem → Prop} (h : f_X12_pence_L4 a0 v1 v2 M Q) : E p l e (rmO 1 0 0) s m args below meth c g 3 (MQ below (QcM g (rI Q)) args s 0 0 (gA g)) 0 0 4 [(0, .ref a0), (1, .int v1), (2, .int v2)] [] M := by
  unfold f_X12_pence_L4 at h
  refine loop_E (W := fun z : Int32 × Int32 × Mem => E p l e (rmO 1 0 0) s m args below meth c g 3 (MQ below (QcM g (rI Q)) args s 0 0 (gA g)) 0 0 4 [(0, .ref a0), (1, .int z.1), (2, .int z.2.1)] [] (z.2.2)) h (fun K z hK h => ?_)
  exact w_X12_pence_B4 C hr hlk hK h
set_option maxHeartbeats 4000000 in
set_option maxRecDepth 100000 in
theorem w_X12_pence {p : Program} {l : Launch} {e : Env} {s : State} {m : MethodId} {args : Array Value} {below : List Frame} {meth : Method} {c : Code} {g : Geo} (C : Cx p s m args c cX12_pence RX12 3 g) (hr : meth.sig.returnType = (some .int)) (hlk : meth.locks = false) {a0 : Nat} {M : Mem} {Q : Int32 → Mem → Prop} (h : f_X12_pence a0 M Q) : E p l e (rmO 1 0 0) s m args below meth c g 3 (MQ below (QcM g (rI Q)) args s 0 0 (gA g)) 0 0 0 [(0, .ref a0)] [] M := by
  unfold f_X12_pence at h
  refine e_iconst (v := 0) C dX12_pence_0 (by decide) ?_
  refine e_istore_n (al' := [(1, .int (0 : Int32)), (0, .ref a0)]) C dX12_pence_1 rfl (by decide) rfl ?_
  refine e_iconst (v := 0) C dX12_pence_2 (by decide) ?_
  refine e_istore_n (al' := [(2, .int (0 : Int32)), (1, .int (0 : Int32)), (0, .ref a0)]) C dX12_pence_3 rfl (by decide) rfl ?_
  refine e_pick [2, 1, 0] rfl ?_
  exact w_X12_pence_L4 C hr hlk h
theorem m_X12_pence  {a0 : Nat} {M : Mem} {Q : Int32 → Mem → Prop} (h : f_X12_pence a0 M Q) : Con yX12_pence cX12_pence 3 (some .int) 1 0 0 [.ref a0] M (rI Q) :=
  con_of2 (al := [(0, .ref a0)]) (by decide) (by exact Nat.le_of_ble_eq_true rfl) (by rfl) (fun p l e s m args below meth c g C hr hlk _ => w_X12_pence C hr hlk h)
set_option maxHeartbeats 4000000 in
set_option maxRecDepth 100000 in
theorem w_X12_inLine_J28 {p : Program} {l : Launch} {e : Env} {s : State} {m : MethodId} {args : Array Value} {below : List Frame} {meth : Method} {c : Code} {g : Geo} (C : Cx p s m args c cX12_inLine RX12 4 g) (hr : meth.sig.returnType = (some .int)) (hlk : meth.locks = false) {a0 : Nat} {x1 : Int32} {v3 : Int32} {t0 : Int32} {t1 : Int32} {M : Mem} {K4 : Int32 × Int32 × Mem → Prop} {Q : Int32 → Mem → Prop} (hK4 : ∀ z : Int32 × Int32 × Mem, K4 z → E p l e (rmO 1 0 0) s m args below meth c g 4 (MQ below (QcM g (rI Q)) args s 0 0 (gA g)) 0 0 4 [(0, .ref a0), (1, .int x1), (2, .int z.1), (3, .int z.2.1)] [] (z.2.2)) (h : f_X12_inLine_J28 a0 x1 v3 t0 t1 M K4 Q) : E p l e (rmO 1 0 0) s m args below meth c g 4 (MQ below (QcM g (rI Q)) args s 0 0 (gA g)) 0 0 28 [(0, .ref a0), (1, .int x1), (3, .int v3)] [.int t0, .int t1] M := by
  unfold f_X12_inLine_J28 at h
  refine e_iadd C dX12_inLine_28 ?_
  refine e_istore_n (al' := [(2, .int (t1 + t0)), (0, .ref a0), (1, .int x1), (3, .int v3)]) C dX12_inLine_29 rfl (by decide) rfl ?_
  refine e_iinc (v := (v3 + 1)) (al' := [(3, .int (v3 + 1)), (2, .int (t1 + t0)), (0, .ref a0), (1, .int x1)]) C 3 dX12_inLine_30 rfl rfl (by decide) rfl ?_
  refine e_goto (tgt := 4) C dX12_inLine_33 (by decide) ?_
  refine e_pick [2, 3, 1, 0] rfl ?_
  exact hK4 ((t1 + t0), (v3 + 1), M) h
set_option maxHeartbeats 4000000 in
set_option maxRecDepth 100000 in
theorem w_X12_inLine_B4 {p : Program} {l : Launch} {e : Env} {s : State} {m : MethodId} {args : Array Value} {below : List Frame} {meth : Method} {c : Code} {g : Geo} (C : Cx p s m args c cX12_inLine RX12 4 g) (hr : meth.sig.returnType = (some .int)) (hlk : meth.locks = false) {a0 : Nat} {x1 : Int32} {v2 : Int32} {v3 : Int32} {M : Mem} {K4 : Int32 × Int32 × Mem → Prop} {Q : Int32 → Mem → Prop} (hK4 : ∀ z : Int32 × Int32 × Mem, K4 z → E p l e (rmO 1 0 0) s m args below meth c g 4 (MQ below (QcM g (rI Q)) args s 0 0 (gA g)) 0 0 4 [(0, .ref a0), (1, .int x1), (2, .int z.1), (3, .int z.2.1)] [] (z.2.2)) (h : f_X12_inLine_B4 a0 x1 v2 v3 M K4 Q) : E p l e (rmO 1 0 0) s m args below meth c g 4 (MQ below (QcM g (rI Q)) args s 0 0 (gA g)) 0 0 4 [(0, .ref a0), (1, .int x1), (2, .int v2), (3, .int v3)] [] M := by
  unfold f_X12_inLine_B4 at h
  refine e_iload_n C 3 dX12_inLine_4 rfl rfl ?_
  refine e_aload_n C 0 dX12_inLine_5 rfl rfl ?_
  obtain ⟨o1, h⟩ := h
  refine e_getI C [12] 31 (fg_of fg_X12_105) o1 dX12_inLine_6 ?_
  refine e_icmp_ge (tgt := 36) C dX12_inLine_9 (by decide) (fun q2 => ?_) (fun q2 => ?_)
  · replace h := ite_t h q2
    refine e_iload_n C 2 dX12_inLine_36 rfl rfl ?_
    exact e_iret C hr hlk (Nat.le_refl _) (Nat.le_refl _) dX12_inLine_37 ⟨_, rfl, h⟩
  · replace h := ite_f h q2
    refine e_iload_n C 2 dX12_inLine_12 rfl rfl ?_
    refine e_aload_n C 0 dX12_inLine_13 rfl rfl ?_
    refine e_getR C [12] 43 (fg_of fg_X12_141) o1 dX12_inLine_14 ?_
    refine e_iload_n C 3 dX12_inLine_17 rfl rfl ?_
    obtain ⟨b3, p4, h⟩ := h
    try rw [p4]
    obtain ⟨o5, h⟩ := h
    refine e_iald C o5 dX12_inLine_18 ?_
    refine e_iload_n C 1 dX12_inLine_19 rfl rfl ?_
    refine e_icmp_ne (tgt := 27) C dX12_inLine_20 (by decide) (fun q6 => ?_) (fun q6 => ?_)
    · replace h := ite_f h q6
      refine e_iconst (v := 0) C dX12_inLine_27 (by decide) ?_
      refine e_pick [0, 1, 3] rfl ?_
      exact w_X12_inLine_J28 C hr hlk hK4 h
    · replace h := ite_t h q6
      refine e_iconst (v := 1) C dX12_inLine_23 (by decide) ?_
      refine e_goto (tgt := 28) C dX12_inLine_24 (by decide) ?_
      refine e_pick [0, 1, 3] rfl ?_
      exact w_X12_inLine_J28 C hr hlk hK4 h
set_option maxHeartbeats 4000000 in
set_option maxRecDepth 100000 in
theorem w_X12_inLine_L4 {p : Program} {l : Launch} {e : Env} {s : State} {m : MethodId} {args : Array Value} {below : List Frame} {meth : Method} {c : Code} {g : Geo} (C : Cx p s m args c cX12_inLine RX12 4 g) (hr : meth.sig.returnType = (some .int)) (hlk : meth.locks = false) {a0 : Nat} {x1 : Int32} {v2 : Int32} {v3 : Int32} {M : Mem} {Q : Int32 → Mem → Prop} (h : f_X12_inLine_L4 a0 x1 v2 v3 M Q) : E p l e (rmO 1 0 0) s m args below meth c g 4 (MQ below (QcM g (rI Q)) args s 0 0 (gA g)) 0 0 4 [(0, .ref a0), (1, .int x1), (2, .int v2), (3, .int v3)] [] M := by
  unfold f_X12_inLine_L4 at h
  refine loop_E (W := fun z : Int32 × Int32 × Mem => E p l e (rmO 1 0 0) s m args below meth c g 4 (MQ below (QcM g (rI Q)) args s 0 0 (gA g)) 0 0 4 [(0, .ref a0), (1, .int x1), (2, .int z.1), (3, .int z.2.1)] [] (z.2.2)) h (fun K z hK h => ?_)
  exact w_X12_inLine_B4 C hr hlk hK h
set_option maxHeartbeats 4000000 in
set_option maxRecDepth 100000 in
theorem w_X12_inLine {p : Program} {l : Launch} {e : Env} {s : State} {m : MethodId} {args : Array Value} {below : List Frame} {meth : Method} {c : Code} {g : Geo} (C : Cx p s m args c cX12_inLine RX12 4 g) (hr : meth.sig.returnType = (some .int)) (hlk : meth.locks = false) {a0 : Nat} {x1 : Int32} {M : Mem} {Q : Int32 → Mem → Prop} (h : f_X12_inLine a0 x1 M Q) : E p l e (rmO 1 0 0) s m args below meth c g 4 (MQ below (QcM g (rI Q)) args s 0 0 (gA g)) 0 0 0 [(0, .ref a0), (1, .int x1)] [] M := by
  unfold f_X12_inLine at h
  refine e_iconst (v := 0) C dX12_inLine_0 (by decide) ?_
  refine e_istore_n (al' := [(2, .int (0 : Int32)), (0, .ref a0), (1, .int x1)]) C dX12_inLine_1 rfl (by decide) rfl ?_
  refine e_iconst (v := 0) C dX12_inLine_2 (by decide) ?_
  refine e_istore_n (al' := [(3, .int (0 : Int32)), (2, .int (0 : Int32)), (0, .ref a0), (1, .int x1)]) C dX12_inLine_3 rfl (by decide) rfl ?_
  refine e_pick [2, 3, 1, 0] rfl ?_
  exact w_X12_inLine_L4 C hr hlk h
theorem m_X12_inLine  {a0 : Nat} {x1 : Int32} {M : Mem} {Q : Int32 → Mem → Prop} (h : f_X12_inLine a0 x1 M Q) : Con yX12_inLine cX12_inLine 4 (some .int) 1 0 0 [.ref a0, .int x1] M (rI Q) :=
  con_of2 (al := [(0, .ref a0), (1, .int x1)]) (by decide) (by exact Nat.le_of_ble_eq_true rfl) (by rfl) (fun p l e s m args below meth c g C hr hlk _ => w_X12_inLine C hr hlk h)
set_option maxHeartbeats 4000000 in
set_option maxRecDepth 100000 in
theorem w_X12_comer {p : Program} {l : Launch} {e : Env} {s : State} {m : MethodId} {args : Array Value} {below : List Frame} {meth : Method} {c : Code} {g : Geo} (C : Cx p s m args c cX12_comer RX12 4 g) (hr : meth.sig.returnType = (some .int)) (hlk : meth.locks = false) {a0 : Nat} {x1 : Int32} {x2 : Int32} {x3 : Int32} {M : Mem} {Q : Int32 → Mem → Prop} (h : f_X12_comer a0 x1 x2 x3 M Q) : E p l e (rmO 7 0 0) s m args below meth c g 4 (MQ below (QcM g (rI Q)) args s 0 0 (gA g)) 0 0 0 [(0, .ref a0), (1, .int x1), (2, .int x2), (3, .int x3)] [] M := by
  unfold f_X12_comer at h
  refine e_aload_n C 0 dX12_comer_0 rfl rfl ?_
  refine e_iload_n C 1 dX12_comer_1 rfl rfl ?_
  obtain ⟨o3, h⟩ := h
  refine e_callV (as := [.int x1]) C wb_X12_isOrder wv_X12_294 (ci := 12) rfl rfl (isO_1 o3) (m_X12_isOrder h) rfl ⟨Nat.le_of_ble_eq_true rfl, Nat.le_of_ble_eq_true rfl⟩ ⟨Nat.le_of_ble_eq_true rfl, Nat.le_of_ble_eq_true rfl⟩ (by first | exact Nat.le_of_ble_eq_true rfl | (simp only [List.map_cons, List.map_nil, va_cat, List.sum_cons, List.sum_nil]; exact Nat.le_of_ble_eq_true rfl)) dX12_comer_2 (kZ (fun w1 M2 h48 => ?_))
  refine e_if_eq (tgt := 18) C dX12_comer_5 (by decide) (fun q4 => ?_) (fun q4 => ?_)
  · replace h48 := ite_f h48 (bi_ne q4)
    refine e_sipush (v := -1001) C dX12_comer_18 (by decide) ?_
    exact e_iret C hr hlk (Nat.le_refl _) (Nat.le_refl _) dX12_comer_21 ⟨_, rfl, h48⟩
  · replace h48 := ite_t h48 (bi_t q4)
    refine e_aload_n C 0 dX12_comer_8 rfl rfl ?_
    refine e_iload_n C 3 dX12_comer_9 rfl rfl ?_
    refine e_iconst (v := 0) C dX12_comer_10 (by decide) ?_
    refine e_iconst (v := 5) C dX12_comer_11 (by decide) ?_
    obtain ⟨o7, h48⟩ := h48
    refine e_callV (as := [.int x3, .int (0 : Int32), .int (5 : Int32)]) C wb_X12_in wv_X12_215 (ci := 12) rfl rfl (isO_1 o7) (m_X12_in h48) rfl ⟨Nat.le_of_ble_eq_true rfl, Nat.le_of_ble_eq_true rfl⟩ ⟨Nat.le_of_ble_eq_true rfl, Nat.le_of_ble_eq_true rfl⟩ (by first | exact Nat.le_of_ble_eq_true rfl | (simp only [List.map_cons, List.map_nil, va_cat, List.sum_cons, List.sum_nil]; exact Nat.le_of_ble_eq_true rfl)) dX12_comer_12 (kZ (fun w5 M6 h47 => ?_))
    refine e_if_ne (tgt := 22) C dX12_comer_15 (by decide) (fun q8 => ?_) (fun q8 => ?_)
    · replace h47 := ite_t h47 (bi_t q8)
      refine e_aload_n C 0 dX12_comer_22 rfl rfl ?_
      refine e_iload_n C 1 dX12_comer_23 rfl rfl ?_
      obtain ⟨o11, h47⟩ := h47
      refine e_callV (as := [.int x1]) C wb_X12_goPlainly wv_X12_329 (ci := 12) rfl rfl (isO_1 o11) (m_X12_goPlainly h47) rfl ⟨Nat.le_of_ble_eq_true rfl, Nat.le_of_ble_eq_true rfl⟩ ⟨Nat.le_of_ble_eq_true rfl, Nat.le_of_ble_eq_true rfl⟩ (by first | exact Nat.le_of_ble_eq_true rfl | (simp only [List.map_cons, List.map_nil, va_cat, List.sum_cons, List.sum_nil]; exact Nat.le_of_ble_eq_true rfl)) dX12_comer_24 (kV (fun M10 h46 => ?_))
      refine e_aload_n C 0 dX12_comer_27 rfl rfl ?_
      refine e_iload_n C 2 dX12_comer_28 rfl rfl ?_
      refine e_iconst (v := 0) C dX12_comer_29 (by decide) ?_
      refine e_aload_n C 0 dX12_comer_30 rfl rfl ?_
      obtain ⟨o12, h46⟩ := h46
      refine e_getI C [12] 31 (fg_of fg_X12_105) o12 dX12_comer_31 ?_
      refine e_iconst (v := 1) C dX12_comer_34 (by decide) ?_
      refine e_isub C dX12_comer_35 ?_
      refine e_callV (as := [.int x2, .int (0 : Int32), .int ((mI M10 a0 31) - (1 : Int32))]) C wb_X12_in wv_X12_215 (ci := 12) rfl rfl (isO_1 o12) (m_X12_in h46) rfl ⟨Nat.le_of_ble_eq_true rfl, Nat.le_of_ble_eq_true rfl⟩ ⟨Nat.le_of_ble_eq_true rfl, Nat.le_of_ble_eq_true rfl⟩ (by first | exact Nat.le_of_ble_eq_true rfl | (simp only [List.map_cons, List.map_nil, va_cat, List.sum_cons, List.sum_nil]; exact Nat.le_of_ble_eq_true rfl)) dX12_comer_36 (kZ (fun w13 M14 h45 => ?_))
      refine e_if_ne (tgt := 46) C dX12_comer_39 (by decide) (fun q15 => ?_) (fun q15 => ?_)
      · replace h45 := ite_t h45 (bi_t q15)
        refine e_iload_n C 3 dX12_comer_46 rfl rfl ?_
        by_cases q16 : x3 = 0
        · replace h45 := ite_t h45 q16
          refine e_tin (tgt := 80) C dX12_comer_47 (by rw [q16]; decide) (by rw [q16]; decide) (by rw [q16] <;> rfl) (by decide) ?_
          refine e_aload_n C 0 dX12_comer_80 rfl rfl ?_
          obtain ⟨o17, h45⟩ := h45
          refine e_getR C [12] 41 (fg_of fg_X12_135) o17 dX12_comer_81 ?_
          refine e_iload_n C 2 dX12_comer_84 rfl rfl ?_
          obtain ⟨b18, p19, h45⟩ := h45
          try rw [p19]
          obtain ⟨o20, h45⟩ := h45
          refine e_iald C o20 dX12_comer_85 ?_
          exact e_iret C hr hlk (Nat.le_refl _) (Nat.le_refl _) dX12_comer_86 ⟨_, rfl, h45⟩
        · replace h45 := ite_f h45 q16
          by_cases q21 : x3 = 1
          · replace h45 := ite_t h45 q21
            refine e_tin (tgt := 87) C dX12_comer_47 (by rw [q21]; decide) (by rw [q21]; decide) (by rw [q21] <;> rfl) (by decide) ?_
            refine e_aload_n C 0 dX12_comer_87 rfl rfl ?_
            obtain ⟨o22, h45⟩ := h45
            refine e_getR C [12] 42 (fg_of fg_X12_138) o22 dX12_comer_88 ?_
            refine e_iload_n C 2 dX12_comer_91 rfl rfl ?_
            obtain ⟨b23, p24, h45⟩ := h45
            try rw [p24]
            obtain ⟨o25, h45⟩ := h45
            refine e_iald C o25 dX12_comer_92 ?_
            exact e_iret C hr hlk (Nat.le_refl _) (Nat.le_refl _) dX12_comer_93 ⟨_, rfl, h45⟩
          · replace h45 := ite_f h45 q21
            by_cases q26 : x3 = 2
            · replace h45 := ite_t h45 q26
              refine e_tin (tgt := 94) C dX12_comer_47 (by rw [q26]; decide) (by rw [q26]; decide) (by rw [q26] <;> rfl) (by decide) ?_
              refine e_aload_n C 0 dX12_comer_94 rfl rfl ?_
              obtain ⟨o27, h45⟩ := h45
              refine e_getR C [12] 43 (fg_of fg_X12_141) o27 dX12_comer_95 ?_
              refine e_iload_n C 2 dX12_comer_98 rfl rfl ?_
              obtain ⟨b28, p29, h45⟩ := h45
              try rw [p29]
              obtain ⟨o30, h45⟩ := h45
              refine e_iald C o30 dX12_comer_99 ?_
              exact e_iret C hr hlk (Nat.le_refl _) (Nat.le_refl _) dX12_comer_100 ⟨_, rfl, h45⟩
            · replace h45 := ite_f h45 q26
              by_cases q31 : x3 = 3
              · replace h45 := ite_t h45 q31
                refine e_tin (tgt := 101) C dX12_comer_47 (by rw [q31]; decide) (by rw [q31]; decide) (by rw [q31] <;> rfl) (by decide) ?_
                refine e_aload_n C 0 dX12_comer_101 rfl rfl ?_
                obtain ⟨o32, h45⟩ := h45
                refine e_getR C [12] 44 (fg_of fg_X12_144) o32 dX12_comer_102 ?_
                refine e_iload_n C 2 dX12_comer_105 rfl rfl ?_
                obtain ⟨b33, p34, h45⟩ := h45
                try rw [p34]
                obtain ⟨o35, h45⟩ := h45
                refine e_iald C o35 dX12_comer_106 ?_
                exact e_iret C hr hlk (Nat.le_refl _) (Nat.le_refl _) dX12_comer_107 ⟨_, rfl, h45⟩
              · replace h45 := ite_f h45 q31
                by_cases q36 : x3 = 4
                · replace h45 := ite_t h45 q36
                  refine e_tin (tgt := 108) C dX12_comer_47 (by rw [q36]; decide) (by rw [q36]; decide) (by rw [q36] <;> rfl) (by decide) ?_
                  refine e_aload_n C 0 dX12_comer_108 rfl rfl ?_
                  obtain ⟨o37, h45⟩ := h45
                  refine e_getR C [12] 45 (fg_of fg_X12_147) o37 dX12_comer_109 ?_
                  refine e_iload_n C 2 dX12_comer_112 rfl rfl ?_
                  obtain ⟨b38, p39, h45⟩ := h45
                  try rw [p39]
                  obtain ⟨o40, h45⟩ := h45
                  refine e_iald C o40 dX12_comer_113 ?_
                  exact e_iret C hr hlk (Nat.le_refl _) (Nat.le_refl _) dX12_comer_114 ⟨_, rfl, h45⟩
                · replace h45 := ite_f h45 q36
                  refine e_tout (tgt := 115) C dX12_comer_47 (by have z0 := lv_neT (a := 0) q16 (by decide); have z1 := lv_neT (a := 1) q21 (by decide); have z2 := lv_neT (a := 2) q26 (by decide); have z3 := lv_neT (a := 3) q31 (by decide); have z4 := lv_neT (a := 4) q36 (by decide); omega) (by decide) ?_
                  refine e_aload_n C 0 dX12_comer_115 rfl rfl ?_
                  obtain ⟨o41, h45⟩ := h45
                  refine e_getR C [12] 46 (fg_of fg_X12_150) o41 dX12_comer_116 ?_
                  refine e_iload_n C 2 dX12_comer_119 rfl rfl ?_
                  obtain ⟨b42, p43, h45⟩ := h45
                  try rw [p43]
                  obtain ⟨o44, h45⟩ := h45
                  refine e_iald C o44 dX12_comer_120 ?_
                  exact e_iret C hr hlk (Nat.le_refl _) (Nat.le_refl _) dX12_comer_121 ⟨_, rfl, h45⟩
      · replace h45 := ite_f h45 (bi_ne q15)
        refine e_sipush (v := -1001) C dX12_comer_42 (by decide) ?_
        exact e_iret C hr hlk (Nat.le_refl _) (Nat.le_refl _) dX12_comer_45 ⟨_, rfl, h45⟩
    · replace h47 := ite_f h47 (bi_ne q8)
      refine e_sipush (v := -1001) C dX12_comer_18 (by decide) ?_
      exact e_iret C hr hlk (Nat.le_refl _) (Nat.le_refl _) dX12_comer_21 ⟨_, rfl, h47⟩
theorem m_X12_comer  {a0 : Nat} {x1 : Int32} {x2 : Int32} {x3 : Int32} {M : Mem} {Q : Int32 → Mem → Prop} (h : f_X12_comer a0 x1 x2 x3 M Q) : Con yX12_comer cX12_comer 4 (some .int) 7 0 0 [.ref a0, .int x1, .int x2, .int x3] M (rI Q) :=
  con_of2 (al := [(0, .ref a0), (1, .int x1), (2, .int x2), (3, .int x3)]) (by decide) (by exact Nat.le_of_ble_eq_true rfl) (by rfl) (fun p l e s m args below meth c g C hr hlk _ => w_X12_comer C hr hlk h)
set_option maxHeartbeats 4000000 in
set_option maxRecDepth 100000 in
theorem w_X12_served {p : Program} {l : Launch} {e : Env} {s : State} {m : MethodId} {args : Array Value} {below : List Frame} {meth : Method} {c : Code} {g : Geo} (C : Cx p s m args c cX12_served RX12 4 g) (hr : meth.sig.returnType = (some .int)) (hlk : meth.locks = false) {a0 : Nat} {x1 : Int32} {x2 : Int32} {x3 : Int32} {M : Mem} {Q : Int32 → Mem → Prop} (h : f_X12_served a0 x1 x2 x3 M Q) : E p l e (rmO 7 0 0) s m args below meth c g 4 (MQ below (QcM g (rI Q)) args s 0 0 (gA g)) 0 0 0 [(0, .ref a0), (1, .int x1), (2, .int x2), (3, .int x3)] [] M := by
  unfold f_X12_served at h
  refine e_aload_n C 0 dX12_served_0 rfl rfl ?_
  refine e_iload_n C 1 dX12_served_1 rfl rfl ?_
  obtain ⟨o3, h⟩ := h
  refine e_callV (as := [.int x1]) C wb_X12_isOrder wv_X12_294 (ci := 12) rfl rfl (isO_1 o3) (m_X12_isOrder h) rfl ⟨Nat.le_of_ble_eq_true rfl, Nat.le_of_ble_eq_true rfl⟩ ⟨Nat.le_of_ble_eq_true rfl, Nat.le_of_ble_eq_true rfl⟩ (by first | exact Nat.le_of_ble_eq_true rfl | (simp only [List.map_cons, List.map_nil, va_cat, List.sum_cons, List.sum_nil]; exact Nat.le_of_ble_eq_true rfl)) dX12_served_2 (kZ (fun w1 M2 h28 => ?_))
  refine e_if_eq (tgt := 18) C dX12_served_5 (by decide) (fun q4 => ?_) (fun q4 => ?_)
  · replace h28 := ite_f h28 (bi_ne q4)
    refine e_iconst (v := -1) C dX12_served_18 (by decide) ?_
    exact e_iret C hr hlk (Nat.le_refl _) (Nat.le_refl _) dX12_served_19 ⟨_, rfl, h28⟩
  · replace h28 := ite_t h28 (bi_t q4)
    refine e_aload_n C 0 dX12_served_8 rfl rfl ?_
    refine e_iload_n C 3 dX12_served_9 rfl rfl ?_
    refine e_iconst (v := 0) C dX12_served_10 (by decide) ?_
    refine e_iconst (v := 1) C dX12_served_11 (by decide) ?_
    obtain ⟨o7, h28⟩ := h28
    refine e_callV (as := [.int x3, .int (0 : Int32), .int (1 : Int32)]) C wb_X12_in wv_X12_215 (ci := 12) rfl rfl (isO_1 o7) (m_X12_in h28) rfl ⟨Nat.le_of_ble_eq_true rfl, Nat.le_of_ble_eq_true rfl⟩ ⟨Nat.le_of_ble_eq_true rfl, Nat.le_of_ble_eq_true rfl⟩ (by first | exact Nat.le_of_ble_eq_true rfl | (simp only [List.map_cons, List.map_nil, va_cat, List.sum_cons, List.sum_nil]; exact Nat.le_of_ble_eq_true rfl)) dX12_served_12 (kZ (fun w5 M6 h27 => ?_))
    refine e_if_ne (tgt := 20) C dX12_served_15 (by decide) (fun q8 => ?_) (fun q8 => ?_)
    · replace h27 := ite_t h27 (bi_t q8)
      refine e_aload_n C 0 dX12_served_20 rfl rfl ?_
      refine e_iload_n C 1 dX12_served_21 rfl rfl ?_
      obtain ⟨o11, h27⟩ := h27
      refine e_callV (as := [.int x1]) C wb_X12_goPlainly wv_X12_329 (ci := 12) rfl rfl (isO_1 o11) (m_X12_goPlainly h27) rfl ⟨Nat.le_of_ble_eq_true rfl, Nat.le_of_ble_eq_true rfl⟩ ⟨Nat.le_of_ble_eq_true rfl, Nat.le_of_ble_eq_true rfl⟩ (by first | exact Nat.le_of_ble_eq_true rfl | (simp only [List.map_cons, List.map_nil, va_cat, List.sum_cons, List.sum_nil]; exact Nat.le_of_ble_eq_true rfl)) dX12_served_22 (kV (fun M10 h26 => ?_))
      refine e_aload_n C 0 dX12_served_25 rfl rfl ?_
      refine e_iload_n C 2 dX12_served_26 rfl rfl ?_
      refine e_iconst (v := 0) C dX12_served_27 (by decide) ?_
      refine e_aload_n C 0 dX12_served_28 rfl rfl ?_
      obtain ⟨o12, h26⟩ := h26
      refine e_getI C [12] 32 (fg_of fg_X12_108) o12 dX12_served_29 ?_
      refine e_iconst (v := 1) C dX12_served_32 (by decide) ?_
      refine e_isub C dX12_served_33 ?_
      refine e_callV (as := [.int x2, .int (0 : Int32), .int ((mI M10 a0 32) - (1 : Int32))]) C wb_X12_in wv_X12_215 (ci := 12) rfl rfl (isO_1 o12) (m_X12_in h26) rfl ⟨Nat.le_of_ble_eq_true rfl, Nat.le_of_ble_eq_true rfl⟩ ⟨Nat.le_of_ble_eq_true rfl, Nat.le_of_ble_eq_true rfl⟩ (by first | exact Nat.le_of_ble_eq_true rfl | (simp only [List.map_cons, List.map_nil, va_cat, List.sum_cons, List.sum_nil]; exact Nat.le_of_ble_eq_true rfl)) dX12_served_34 (kZ (fun w13 M14 h25 => ?_))
      refine e_if_ne (tgt := 42) C dX12_served_37 (by decide) (fun q15 => ?_) (fun q15 => ?_)
      · replace h25 := ite_t h25 (bi_t q15)
        refine e_iload_n C 3 dX12_served_42 rfl rfl ?_
        refine e_if_ne (tgt := 55) C dX12_served_43 (by decide) (fun q16 => ?_) (fun q16 => ?_)
        · replace h25 := ite_f h25 q16
          refine e_aload_n C 0 dX12_served_55 rfl rfl ?_
          obtain ⟨o17, h25⟩ := h25
          refine e_getR C [12] 51 (fg_of fg_X12_165) o17 dX12_served_56 ?_
          refine e_iload_n C 2 dX12_served_59 rfl rfl ?_
          obtain ⟨b18, p19, h25⟩ := h25
          try rw [p19]
          obtain ⟨o20, h25⟩ := h25
          refine e_iald C o20 dX12_served_60 ?_
          exact e_iret C hr hlk (Nat.le_refl _) (Nat.le_refl _) dX12_served_61 ⟨_, rfl, h25⟩
        · replace h25 := ite_t h25 q16
          refine e_aload_n C 0 dX12_served_46 rfl rfl ?_
          obtain ⟨o21, h25⟩ := h25
          refine e_getR C [12] 50 (fg_of fg_X12_162) o21 dX12_served_47 ?_
          refine e_iload_n C 2 dX12_served_50 rfl rfl ?_
          obtain ⟨b22, p23, h25⟩ := h25
          try rw [p23]
          obtain ⟨o24, h25⟩ := h25
          refine e_iald C o24 dX12_served_51 ?_
          refine e_goto (tgt := 61) C dX12_served_52 (by decide) ?_
          exact e_iret C hr hlk (Nat.le_refl _) (Nat.le_refl _) dX12_served_61 ⟨_, rfl, h25⟩
      · replace h25 := ite_f h25 (bi_ne q15)
        refine e_iconst (v := -1) C dX12_served_40 (by decide) ?_
        exact e_iret C hr hlk (Nat.le_refl _) (Nat.le_refl _) dX12_served_41 ⟨_, rfl, h25⟩
    · replace h27 := ite_f h27 (bi_ne q8)
      refine e_iconst (v := -1) C dX12_served_18 (by decide) ?_
      exact e_iret C hr hlk (Nat.le_refl _) (Nat.le_refl _) dX12_served_19 ⟨_, rfl, h27⟩
theorem m_X12_served  {a0 : Nat} {x1 : Int32} {x2 : Int32} {x3 : Int32} {M : Mem} {Q : Int32 → Mem → Prop} (h : f_X12_served a0 x1 x2 x3 M Q) : Con yX12_served cX12_served 4 (some .int) 7 0 0 [.ref a0, .int x1, .int x2, .int x3] M (rI Q) :=
  con_of2 (al := [(0, .ref a0), (1, .int x1), (2, .int x2), (3, .int x3)]) (by decide) (by exact Nat.le_of_ble_eq_true rfl) (by rfl) (fun p l e s m args below meth c g C hr hlk _ => w_X12_served C hr hlk h)
set_option maxHeartbeats 4000000 in
set_option maxRecDepth 100000 in
theorem w_X12_all {p : Program} {l : Launch} {e : Env} {s : State} {m : MethodId} {args : Array Value} {below : List Frame} {meth : Method} {c : Code} {g : Geo} (C : Cx p s m args c cX12_all RX12 3 g) (hr : meth.sig.returnType = (some .int)) (hlk : meth.locks = false) {a0 : Nat} {x1 : Int32} {x2 : Int32} {M : Mem} {Q : Int32 → Mem → Prop} (h : f_X12_all a0 x1 x2 M Q) : E p l e (rmO 7 0 0) s m args below meth c g 3 (MQ below (QcM g (rI Q)) args s 0 0 (gA g)) 0 0 0 [(0, .ref a0), (1, .int x1), (2, .int x2)] [] M := by
  unfold f_X12_all at h
  refine e_aload_n C 0 dX12_all_0 rfl rfl ?_
  refine e_iload_n C 1 dX12_all_1 rfl rfl ?_
  obtain ⟨o3, h⟩ := h
  refine e_callV (as := [.int x1]) C wb_X12_isOrder wv_X12_294 (ci := 12) rfl rfl (isO_1 o3) (m_X12_isOrder h) rfl ⟨Nat.le_of_ble_eq_true rfl, Nat.le_of_ble_eq_true rfl⟩ ⟨Nat.le_of_ble_eq_true rfl, Nat.le_of_ble_eq_true rfl⟩ (by first | exact Nat.le_of_ble_eq_true rfl | (simp only [List.map_cons, List.map_nil, va_cat, List.sum_cons, List.sum_nil]; exact Nat.le_of_ble_eq_true rfl)) dX12_all_2 (kZ (fun w1 M2 h54 => ?_))
  refine e_if_eq (tgt := 19) C dX12_all_5 (by decide) (fun q4 => ?_) (fun q4 => ?_)
  · replace h54 := ite_f h54 (bi_ne q4)
    refine e_iconst (v := -1) C dX12_all_19 (by decide) ?_
    exact e_iret C hr hlk (Nat.le_refl _) (Nat.le_refl _) dX12_all_20 ⟨_, rfl, h54⟩
  · replace h54 := ite_t h54 (bi_t q4)
    refine e_aload_n C 0 dX12_all_8 rfl rfl ?_
    refine e_iload_n C 2 dX12_all_9 rfl rfl ?_
    refine e_iconst (v := 0) C dX12_all_10 (by decide) ?_
    refine e_bipush (v := 7) C dX12_all_11 (by decide) ?_
    obtain ⟨o7, h54⟩ := h54
    refine e_callV (as := [.int x2, .int (0 : Int32), .int (7 : Int32)]) C wb_X12_in wv_X12_215 (ci := 12) rfl rfl (isO_1 o7) (m_X12_in h54) rfl ⟨Nat.le_of_ble_eq_true rfl, Nat.le_of_ble_eq_true rfl⟩ ⟨Nat.le_of_ble_eq_true rfl, Nat.le_of_ble_eq_true rfl⟩ (by first | exact Nat.le_of_ble_eq_true rfl | (simp only [List.map_cons, List.map_nil, va_cat, List.sum_cons, List.sum_nil]; exact Nat.le_of_ble_eq_true rfl)) dX12_all_13 (kZ (fun w5 M6 h53 => ?_))
    refine e_if_ne (tgt := 21) C dX12_all_16 (by decide) (fun q8 => ?_) (fun q8 => ?_)
    · replace h53 := ite_t h53 (bi_t q8)
      refine e_aload_n C 0 dX12_all_21 rfl rfl ?_
      refine e_iload_n C 1 dX12_all_22 rfl rfl ?_
      obtain ⟨o11, h53⟩ := h53
      refine e_callV (as := [.int x1]) C wb_X12_goPlainly wv_X12_329 (ci := 12) rfl rfl (isO_1 o11) (m_X12_goPlainly h53) rfl ⟨Nat.le_of_ble_eq_true rfl, Nat.le_of_ble_eq_true rfl⟩ ⟨Nat.le_of_ble_eq_true rfl, Nat.le_of_ble_eq_true rfl⟩ (by first | exact Nat.le_of_ble_eq_true rfl | (simp only [List.map_cons, List.map_nil, va_cat, List.sum_cons, List.sum_nil]; exact Nat.le_of_ble_eq_true rfl)) dX12_all_23 (kV (fun M10 h52 => ?_))
      refine e_iload_n C 2 dX12_all_26 rfl rfl ?_
      by_cases q12 : x2 = 0
      · replace h52 := ite_t h52 q12
        refine e_tin (tgt := 68) C dX12_all_27 (by rw [q12]; decide) (by rw [q12]; decide) (by rw [q12] <;> rfl) (by decide) ?_
        refine e_aload_n C 0 dX12_all_68 rfl rfl ?_
        obtain ⟨o13, h52⟩ := h52
        refine e_getI C [12] 31 (fg_of fg_X12_105) o13 dX12_all_69 ?_
        exact e_iret C hr hlk (Nat.le_refl _) (Nat.le_refl _) dX12_all_72 ⟨_, rfl, h52⟩
      · replace h52 := ite_f h52 q12
        by_cases q14 : x2 = 1
        · replace h52 := ite_t h52 q14
          refine e_tin (tgt := 73) C dX12_all_27 (by rw [q14]; decide) (by rw [q14]; decide) (by rw [q14] <;> rfl) (by decide) ?_
          refine e_aload_n C 0 dX12_all_73 rfl rfl ?_
          obtain ⟨o15, h52⟩ := h52
          refine e_getI C [12] 32 (fg_of fg_X12_108) o15 dX12_all_74 ?_
          exact e_iret C hr hlk (Nat.le_refl _) (Nat.le_refl _) dX12_all_77 ⟨_, rfl, h52⟩
        · replace h52 := ite_f h52 q14
          by_cases q16 : x2 = 2
          · replace h52 := ite_t h52 q16
            refine e_tin (tgt := 78) C dX12_all_27 (by rw [q16]; decide) (by rw [q16]; decide) (by rw [q16] <;> rfl) (by decide) ?_
            refine e_aload_n C 0 dX12_all_78 rfl rfl ?_
            refine e_iconst (v := 0) C dX12_all_79 (by decide) ?_
            obtain ⟨o19, h52⟩ := h52
            refine e_callV (as := [.int (0 : Int32)]) C wb_X12_inLine wv_X12_332 (ci := 12) rfl rfl (isO_1 o19) (m_X12_inLine h52) rfl ⟨Nat.le_of_ble_eq_true rfl, Nat.le_of_ble_eq_true rfl⟩ ⟨Nat.le_of_ble_eq_true rfl, Nat.le_of_ble_eq_true rfl⟩ (by first | exact Nat.le_of_ble_eq_true rfl | (simp only [List.map_cons, List.map_nil, va_cat, List.sum_cons, List.sum_nil]; exact Nat.le_of_ble_eq_true rfl)) dX12_all_80 (kI (fun w17 M18 h20 => ?_))
            exact e_iret C hr hlk (Nat.le_refl _) (Nat.le_refl _) dX12_all_83 ⟨_, rfl, h20⟩
          · replace h52 := ite_f h52 q16
            by_cases q21 : x2 = 3
            · replace h52 := ite_t h52 q21
              refine e_tin (tgt := 84) C dX12_all_27 (by rw [q21]; decide) (by rw [q21]; decide) (by rw [q21] <;> rfl) (by decide) ?_
              refine e_aload_n C 0 dX12_all_84 rfl rfl ?_
              refine e_iconst (v := 2) C dX12_all_85 (by decide) ?_
              obtain ⟨o24, h52⟩ := h52
              refine e_callV (as := [.int (2 : Int32)]) C wb_X12_inLine wv_X12_332 (ci := 12) rfl rfl (isO_1 o24) (m_X12_inLine h52) rfl ⟨Nat.le_of_ble_eq_true rfl, Nat.le_of_ble_eq_true rfl⟩ ⟨Nat.le_of_ble_eq_true rfl, Nat.le_of_ble_eq_true rfl⟩ (by first | exact Nat.le_of_ble_eq_true rfl | (simp only [List.map_cons, List.map_nil, va_cat, List.sum_cons, List.sum_nil]; exact Nat.le_of_ble_eq_true rfl)) dX12_all_86 (kI (fun w22 M23 h25 => ?_))
              exact e_iret C hr hlk (Nat.le_refl _) (Nat.le_refl _) dX12_all_89 ⟨_, rfl, h25⟩
            · replace h52 := ite_f h52 q21
              by_cases q26 : x2 = 4
              · replace h52 := ite_t h52 q26
                refine e_tin (tgt := 90) C dX12_all_27 (by rw [q26]; decide) (by rw [q26]; decide) (by rw [q26] <;> rfl) (by decide) ?_
                refine e_aload_n C 0 dX12_all_90 rfl rfl ?_
                obtain ⟨o29, h52⟩ := h52
                refine e_callV (as := []) C wb_X12_lost wv_X12_335 (ci := 12) rfl rfl (isO_1 o29) (m_X12_lost h52) rfl ⟨Nat.le_of_ble_eq_true rfl, Nat.le_of_ble_eq_true rfl⟩ ⟨Nat.le_of_ble_eq_true rfl, Nat.le_of_ble_eq_true rfl⟩ (by first | exact Nat.le_of_ble_eq_true rfl | (simp only [List.map_cons, List.map_nil, va_cat, List.sum_cons, List.sum_nil]; exact Nat.le_of_ble_eq_true rfl)) dX12_all_91 (kI (fun w27 M28 h30 => ?_))
                exact e_iret C hr hlk (Nat.le_refl _) (Nat.le_refl _) dX12_all_94 ⟨_, rfl, h30⟩
              · replace h52 := ite_f h52 q26
                by_cases q31 : x2 = 5
                · replace h52 := ite_t h52 q31
                  refine e_tin (tgt := 95) C dX12_all_27 (by rw [q31]; decide) (by rw [q31]; decide) (by rw [q31] <;> rfl) (by decide) ?_
                  refine e_aload_n C 0 dX12_all_95 rfl rfl ?_
                  obtain ⟨o34, h52⟩ := h52
                  refine e_callV (as := []) C wb_X12_pence wv_X12_338 (ci := 12) rfl rfl (isO_1 o34) (m_X12_pence h52) rfl ⟨Nat.le_of_ble_eq_true rfl, Nat.le_of_ble_eq_true rfl⟩ ⟨Nat.le_of_ble_eq_true rfl, Nat.le_of_ble_eq_true rfl⟩ (by first | exact Nat.le_of_ble_eq_true rfl | (simp only [List.map_cons, List.map_nil, va_cat, List.sum_cons, List.sum_nil]; exact Nat.le_of_ble_eq_true rfl)) dX12_all_96 (kI (fun w32 M33 h35 => ?_))
                  exact e_iret C hr hlk (Nat.le_refl _) (Nat.le_refl _) dX12_all_99 ⟨_, rfl, h35⟩
                · replace h52 := ite_f h52 q31
                  by_cases q36 : x2 = 6
                  · replace h52 := ite_t h52 q36
                    refine e_tin (tgt := 100) C dX12_all_27 (by rw [q36]; decide) (by rw [q36]; decide) (by rw [q36] <;> rfl) (by decide) ?_
                    refine e_aload_n C 0 dX12_all_100 rfl rfl ?_
                    obtain ⟨o37, h52⟩ := h52
                    refine e_getI C [12] 33 (fg_of fg_X12_111) o37 dX12_all_101 ?_
                    exact e_iret C hr hlk (Nat.le_refl _) (Nat.le_refl _) dX12_all_104 ⟨_, rfl, h52⟩
                  · replace h52 := ite_f h52 q36
                    refine e_tout (tgt := 105) C dX12_all_27 (by have z0 := lv_neT (a := 0) q12 (by decide); have z1 := lv_neT (a := 1) q14 (by decide); have z2 := lv_neT (a := 2) q16 (by decide); have z3 := lv_neT (a := 3) q21 (by decide); have z4 := lv_neT (a := 4) q26 (by decide); have z5 := lv_neT (a := 5) q31 (by decide); have z6 := lv_neT (a := 6) q36 (by decide); omega) (by decide) ?_
                    refine e_aload_n C 0 dX12_all_105 rfl rfl ?_
                    refine e_iconst (v := 0) C dX12_all_106 (by decide) ?_
                    obtain ⟨o40, h52⟩ := h52
                    refine e_callV (as := [.int (0 : Int32)]) C wb_X12_inLine wv_X12_332 (ci := 12) rfl rfl (isO_1 o40) (m_X12_inLine h52) rfl ⟨Nat.le_of_ble_eq_true rfl, Nat.le_of_ble_eq_true rfl⟩ ⟨Nat.le_of_ble_eq_true rfl, Nat.le_of_ble_eq_true rfl⟩ (by first | exact Nat.le_of_ble_eq_true rfl | (simp only [List.map_cons, List.map_nil, va_cat, List.sum_cons, List.sum_nil]; exact Nat.le_of_ble_eq_true rfl)) dX12_all_107 (kI (fun w38 M39 h51 => ?_))
                    refine e_if_ne (tgt := 117) C dX12_all_110 (by decide) (fun q41 => ?_) (fun q41 => ?_)
                    · replace h51 := ite_f h51 q41
                      refine e_aload_n C 0 dX12_all_117 rfl rfl ?_
                      obtain ⟨o44, h51⟩ := h51
                      refine e_callV (as := []) C wb_X12_pence wv_X12_338 (ci := 12) rfl rfl (isO_1 o44) (m_X12_pence h51) rfl ⟨Nat.le_of_ble_eq_true rfl, Nat.le_of_ble_eq_true rfl⟩ ⟨Nat.le_of_ble_eq_true rfl, Nat.le_of_ble_eq_true rfl⟩ (by first | exact Nat.le_of_ble_eq_true rfl | (simp only [List.map_cons, List.map_nil, va_cat, List.sum_cons, List.sum_nil]; exact Nat.le_of_ble_eq_true rfl)) dX12_all_118 (kI (fun w42 M43 h50 => ?_))
                      refine e_aload_n C 0 dX12_all_121 rfl rfl ?_
                      refine e_iconst (v := 0) C dX12_all_122 (by decide) ?_
                      obtain ⟨o47, h50⟩ := h50
                      refine e_callV (as := [.int (0 : Int32)]) C wb_X12_inLine wv_X12_332 (ci := 12) rfl rfl (isO_1 o47) (m_X12_inLine h50) rfl ⟨Nat.le_of_ble_eq_true rfl, Nat.le_of_ble_eq_true rfl⟩ ⟨Nat.le_of_ble_eq_true rfl, Nat.le_of_ble_eq_true rfl⟩ (by first | exact Nat.le_of_ble_eq_true rfl | (simp only [List.map_cons, List.map_nil, va_cat, List.sum_cons, List.sum_nil]; exact Nat.le_of_ble_eq_true rfl)) dX12_all_123 (kI (fun w45 M46 h49 => ?_))
                      obtain ⟨n48, h49⟩ := h49
                      refine e_idiv C dX12_all_126 n48 ?_
                      exact e_iret C hr hlk (Nat.le_refl _) (Nat.le_refl _) dX12_all_127 ⟨_, rfl, h49⟩
                    · replace h51 := ite_t h51 q41
                      refine e_iconst (v := 0) C dX12_all_113 (by decide) ?_
                      refine e_goto (tgt := 127) C dX12_all_114 (by decide) ?_
                      exact e_iret C hr hlk (Nat.le_refl _) (Nat.le_refl _) dX12_all_127 ⟨_, rfl, h51⟩
    · replace h53 := ite_f h53 (bi_ne q8)
      refine e_iconst (v := -1) C dX12_all_19 (by decide) ?_
      exact e_iret C hr hlk (Nat.le_refl _) (Nat.le_refl _) dX12_all_20 ⟨_, rfl, h53⟩
theorem m_X12_all  {a0 : Nat} {x1 : Int32} {x2 : Int32} {M : Mem} {Q : Int32 → Mem → Prop} (h : f_X12_all a0 x1 x2 M Q) : Con yX12_all cX12_all 3 (some .int) 7 0 0 [.ref a0, .int x1, .int x2] M (rI Q) :=
  con_of2 (al := [(0, .ref a0), (1, .int x1), (2, .int x2)]) (by decide) (by exact Nat.le_of_ble_eq_true rfl) (by rfl) (fun p l e s m args below meth c g C hr hlk _ => w_X12_all C hr hlk h)
set_option maxHeartbeats 4000000 in
set_option maxRecDepth 100000 in
theorem w_X12_stand {p : Program} {l : Launch} {e : Env} {s : State} {m : MethodId} {args : Array Value} {below : List Frame} {meth : Method} {c : Code} {g : Geo} (C : Cx p s m args c cX12_stand RX12 4 g) (hr : meth.sig.returnType = (some .int)) (hlk : meth.locks = false) {a0 : Nat} {x1 : Int32} {x2 : Int32} {x3 : Int32} {M : Mem} {Q : Int32 → Mem → Prop} (h : f_X12_stand a0 x1 x2 x3 M Q) : E p l e (rmO 7 0 0) s m args below meth c g 4 (MQ below (QcM g (rI Q)) args s 0 0 (gA g)) 0 0 0 [(0, .ref a0), (1, .int x1), (2, .int x2), (3, .int x3)] [] M := by
  unfold f_X12_stand at h
  refine e_aload_n C 0 dX12_stand_0 rfl rfl ?_
  refine e_iload_n C 1 dX12_stand_1 rfl rfl ?_
  obtain ⟨o3, h⟩ := h
  refine e_callV (as := [.int x1]) C wb_X12_isOrder wv_X12_294 (ci := 12) rfl rfl (isO_1 o3) (m_X12_isOrder h) rfl ⟨Nat.le_of_ble_eq_true rfl, Nat.le_of_ble_eq_true rfl⟩ ⟨Nat.le_of_ble_eq_true rfl, Nat.le_of_ble_eq_true rfl⟩ (by first | exact Nat.le_of_ble_eq_true rfl | (simp only [List.map_cons, List.map_nil, va_cat, List.sum_cons, List.sum_nil]; exact Nat.le_of_ble_eq_true rfl)) dX12_stand_2 (kZ (fun w1 M2 h23 => ?_))
  refine e_if_eq (tgt := 18) C dX12_stand_5 (by decide) (fun q4 => ?_) (fun q4 => ?_)
  · replace h23 := ite_f h23 (bi_ne q4)
    refine e_iconst (v := -1) C dX12_stand_18 (by decide) ?_
    exact e_iret C hr hlk (Nat.le_refl _) (Nat.le_refl _) dX12_stand_19 ⟨_, rfl, h23⟩
  · replace h23 := ite_t h23 (bi_t q4)
    refine e_aload_n C 0 dX12_stand_8 rfl rfl ?_
    refine e_iload_n C 2 dX12_stand_9 rfl rfl ?_
    refine e_iconst (v := 0) C dX12_stand_10 (by decide) ?_
    refine e_iconst (v := 1) C dX12_stand_11 (by decide) ?_
    obtain ⟨o7, h23⟩ := h23
    refine e_callV (as := [.int x2, .int (0 : Int32), .int (1 : Int32)]) C wb_X12_in wv_X12_215 (ci := 12) rfl rfl (isO_1 o7) (m_X12_in h23) rfl ⟨Nat.le_of_ble_eq_true rfl, Nat.le_of_ble_eq_true rfl⟩ ⟨Nat.le_of_ble_eq_true rfl, Nat.le_of_ble_eq_true rfl⟩ (by first | exact Nat.le_of_ble_eq_true rfl | (simp only [List.map_cons, List.map_nil, va_cat, List.sum_cons, List.sum_nil]; exact Nat.le_of_ble_eq_true rfl)) dX12_stand_12 (kZ (fun w5 M6 h22 => ?_))
    refine e_if_ne (tgt := 20) C dX12_stand_15 (by decide) (fun q8 => ?_) (fun q8 => ?_)
    · replace h22 := ite_t h22 (bi_t q8)
      refine e_aload_n C 0 dX12_stand_20 rfl rfl ?_
      refine e_iload_n C 3 dX12_stand_21 rfl rfl ?_
      refine e_iconst (v := 0) C dX12_stand_22 (by decide) ?_
      refine e_bipush (v := 99) C dX12_stand_23 (by decide) ?_
      obtain ⟨o11, h22⟩ := h22
      refine e_callV (as := [.int x3, .int (0 : Int32), .int (99 : Int32)]) C wb_X12_in wv_X12_215 (ci := 12) rfl rfl (isO_1 o11) (m_X12_in h22) rfl ⟨Nat.le_of_ble_eq_true rfl, Nat.le_of_ble_eq_true rfl⟩ ⟨Nat.le_of_ble_eq_true rfl, Nat.le_of_ble_eq_true rfl⟩ (by first | exact Nat.le_of_ble_eq_true rfl | (simp only [List.map_cons, List.map_nil, va_cat, List.sum_cons, List.sum_nil]; exact Nat.le_of_ble_eq_true rfl)) dX12_stand_25 (kZ (fun w9 M10 h21 => ?_))
      refine e_if_ne (tgt := 34) C dX12_stand_28 (by decide) (fun q12 => ?_) (fun q12 => ?_)
      · replace h21 := ite_t h21 (bi_t q12)
        refine e_aload_n C 0 dX12_stand_34 rfl rfl ?_
        refine e_iload_n C 1 dX12_stand_35 rfl rfl ?_
        obtain ⟨o15, h21⟩ := h21
        refine e_callV (as := [.int x1]) C wb_X12_goPlainly wv_X12_329 (ci := 12) rfl rfl (isO_1 o15) (m_X12_goPlainly h21) rfl ⟨Nat.le_of_ble_eq_true rfl, Nat.le_of_ble_eq_true rfl⟩ ⟨Nat.le_of_ble_eq_true rfl, Nat.le_of_ble_eq_true rfl⟩ (by first | exact Nat.le_of_ble_eq_true rfl | (simp only [List.map_cons, List.map_nil, va_cat, List.sum_cons, List.sum_nil]; exact Nat.le_of_ble_eq_true rfl)) dX12_stand_36 (kV (fun M14 h20 => ?_))
        refine e_aload_n C 0 dX12_stand_39 rfl rfl ?_
        obtain ⟨o16, h20⟩ := h20
        refine e_getR C [12] 52 (fg_of fg_X12_168) o16 dX12_stand_40 ?_
        refine e_bipush (v := 100) C dX12_stand_43 (by decide) ?_
        refine e_iload_n C 2 dX12_stand_45 rfl rfl ?_
        refine e_imul C dX12_stand_46 ?_
        refine e_iload_n C 3 dX12_stand_47 rfl rfl ?_
        refine e_iadd C dX12_stand_48 ?_
        obtain ⟨b17, p18, h20⟩ := h20
        try rw [p18]
        obtain ⟨o19, h20⟩ := h20
        refine e_iald C o19 dX12_stand_49 ?_
        exact e_iret C hr hlk (Nat.le_refl _) (Nat.le_refl _) dX12_stand_50 ⟨_, rfl, h20⟩
      · replace h21 := ite_f h21 (bi_ne q12)
        refine e_bipush (v := -2) C dX12_stand_31 (by decide) ?_
        exact e_iret C hr hlk (Nat.le_refl _) (Nat.le_refl _) dX12_stand_33 ⟨_, rfl, h21⟩
    · replace h22 := ite_f h22 (bi_ne q8)
      refine e_iconst (v := -1) C dX12_stand_18 (by decide) ?_
      exact e_iret C hr hlk (Nat.le_refl _) (Nat.le_refl _) dX12_stand_19 ⟨_, rfl, h22⟩
theorem m_X12_stand  {a0 : Nat} {x1 : Int32} {x2 : Int32} {x3 : Int32} {M : Mem} {Q : Int32 → Mem → Prop} (h : f_X12_stand a0 x1 x2 x3 M Q) : Con yX12_stand cX12_stand 4 (some .int) 7 0 0 [.ref a0, .int x1, .int x2, .int x3] M (rI Q) :=
  con_of2 (al := [(0, .ref a0), (1, .int x1), (2, .int x2), (3, .int x3)]) (by decide) (by exact Nat.le_of_ble_eq_true rfl) (by rfl) (fun p l e s m args below meth c g C hr hlk _ => w_X12_stand C hr hlk h)
set_option maxHeartbeats 4000000 in
set_option maxRecDepth 100000 in
theorem w_X12_price_J122 {p : Program} {l : Launch} {e : Env} {s : State} {m : MethodId} {args : Array Value} {below : List Frame} {meth : Method} {c : Code} {g : Geo} (C : Cx p s m args c cX12_price RX12 11 g) (hr : meth.sig.returnType = (some .int)) (hlk : meth.locks = false) {a0 : Nat} {x1 : Int32} {x2 : Int32} {v3 : Int32} {v4 : Int32} {v5 : Int32} {v6 : Int32} {v8 : Int32} {t0 : Int32} {M : Mem} {K38 : Int32 × Int32 × Int32 × Int32 × Int32 × Int32 × Mem → Prop} {Q : Int32 → Mem → Prop} (hK38 : ∀ z : Int32 × Int32 × Int32 × Int32 × Int32 × Int32 × Mem, K38 z → E p l e (rmO 6 0 0) s m args below meth c g 11 (MQ below (QcM g (rI Q)) args s 0 0 (gA g)) 0 0 38 [(0, .ref a0), (1, .int x1), (2, .int x2), (3, .int z.1), (4, .int z.2.1), (5, .int z.2.2.1), (6, .int z.2.2.2.1), (7, .int z.2.2.2.2.1), (8, .int z.2.2.2.2.2.1)] [] (z.2.2.2.2.2.2)) (h : f_X12_price_J122 a0 x1 x2 v3 v4 v5 v6 v8 t0 M K38 Q) : E p l e (rmO 6 0 0) s m args below meth c g 11 (MQ below (QcM g (rI Q)) args s 0 0 (gA g)) 0 0 122 [(0, .ref a0), (1, .int x1), (2, .int x2), (3, .int v3), (4, .int v4), (5, .int v5), (6, .int v6), (8, .int v8)] [.int t0] M := by
  unfold f_X12_price_J122 at h
  refine e_istore (al' := [(7, .int t0), (0, .ref a0), (1, .int x1), (2, .int x2), (3, .int v3), (4, .int v4), (5, .int v5), (6, .int v6), (8, .int v8)]) C dX12_price_122 (by decide) rfl ?_
  refine e_iinc (v := (v8 + 1)) (al' := [(8, .int (v8 + 1)), (7, .int t0), (0, .ref a0), (1, .int x1), (2, .int x2), (3, .int v3), (4, .int v4), (5, .int v5), (6, .int v6)]) C 8 dX12_price_124 rfl rfl (by decide) rfl ?_
  refine e_goto (tgt := 38) C dX12_price_127 (by decide) ?_
  refine e_pick [2, 3, 4, 5, 6, 7, 8, 1, 0] rfl ?_
  exact hK38 (v3, v4, v5, v6, t0, (v8 + 1), M) h
set_option maxHeartbeats 4000000 in
set_option maxRecDepth 100000 in
theorem w_X12_price_J120 {p : Program} {l : Launch} {e : Env} {s : State} {m : MethodId} {args : Array Value} {below : List Frame} {meth : Method} {c : Code} {g : Geo} (C : Cx p s m args c cX12_price RX12 11 g) (hr : meth.sig.returnType = (some .int)) (hlk : meth.locks = false) {a0 : Nat} {x1 : Int32} {x2 : Int32} {v3 : Int32} {v4 : Int32} {v5 : Int32} {v6 : Int32} {v7 : Int32} {v8 : Int32} {M : Mem} {K38 : Int32 × Int32 × Int32 × Int32 × Int32 × Int32 × Mem → Prop} {Q : Int32 → Mem → Prop} (hK38 : ∀ z : Int32 × Int32 × Int32 × Int32 × Int32 × Int32 × Mem, K38 z → E p l e (rmO 6 0 0) s m args below meth c g 11 (MQ below (QcM g (rI Q)) args s 0 0 (gA g)) 0 0 38 [(0, .ref a0), (1, .int x1), (2, .int x2), (3, .int z.1), (4, .int z.2.1), (5, .int z.2.2.1), (6, .int z.2.2.2.1), (7, .int z.2.2.2.2.1), (8, .int z.2.2.2.2.2.1)] [] (z.2.2.2.2.2.2)) (h : f_X12_price_J120 a0 x1 x2 v3 v4 v5 v6 v7 v8 M K38 Q) : E p l e (rmO 6 0 0) s m args below meth c g 11 (MQ below (QcM g (rI Q)) args s 0 0 (gA g)) 0 0 120 [(0, .ref a0), (1, .int x1), (2, .int x2), (3, .int v3), (4, .int v4), (5, .int v5), (6, .int v6), (7, .int v7), (8, .int v8)] [] M := by
  unfold f_X12_price_J120 at h
  refine e_iload C 7 dX12_price_120 rfl ?_
  refine e_pick [0, 1, 2, 3, 4, 5, 6, 8] rfl ?_
  exact w_X12_price_J122 C hr hlk hK38 h
set_option maxHeartbeats 4000000 in
set_option maxRecDepth 100000 in
theorem w_X12_price_J100 {p : Program} {l : Launch} {e : Env} {s : State} {m : MethodId} {args : Array Value} {below : List Frame} {meth : Method} {c : Code} {g : Geo} (C : Cx p s m args c cX12_price RX12 11 g) (hr : meth.sig.returnType = (some .int)) (hlk : meth.locks = false) {a0 : Nat} {x1 : Int32} {x2 : Int32} {v3 : Int32} {v4 : Int32} {v5 : Int32} {v6 : Int32} {v7 : Int32} {v8 : Int32} {v10 : Int32} {M : Mem} {K38 : Int32 × Int32 × Int32 × Int32 × Int32 × Int32 × Mem → Prop} {Q : Int32 → Mem → Prop} (hK38 : ∀ z : Int32 × Int32 × Int32 × Int32 × Int32 × Int32 × Mem, K38 z → E p l e (rmO 6 0 0) s m args below meth c g 11 (MQ below (QcM g (rI Q)) args s 0 0 (gA g)) 0 0 38 [(0, .ref a0), (1, .int x1), (2, .int x2), (3, .int z.1), (4, .int z.2.1), (5, .int z.2.2.1), (6, .int z.2.2.2.1), (7, .int z.2.2.2.2.1), (8, .int z.2.2.2.2.2.1)] [] (z.2.2.2.2.2.2)) (h : f_X12_price_J100 a0 x1 x2 v3 v4 v5 v6 v7 v8 v10 M K38 Q) : E p l e (rmO 6 0 0) s m args below meth c g 11 (MQ below (QcM g (rI Q)) args s 0 0 (gA g)) 0 0 100 [(0, .ref a0), (1, .int x1), (2, .int x2), (3, .int v3), (4, .int v4), (5, .int v5), (6, .int v6), (7, .int v7), (8, .int v8), (10, .int v10)] [] M := by
  unfold f_X12_price_J100 at h
  refine e_iload C 8 dX12_price_100 rfl ?_
  refine e_if_le (tgt := 120) C dX12_price_102 (by decide) (fun q1 => ?_) (fun q1 => ?_)
  · replace h := ite_t h q1
    refine e_pick [0, 1, 2, 3, 4, 5, 6, 7, 8] rfl ?_
    exact w_X12_price_J120 C hr hlk hK38 h
  · replace h := ite_f h q1
    refine e_iload C 9 dX12_price_105 rfl ?_
    refine e_if_ne (tgt := 120) C dX12_price_107 (by decide) (fun q2 => ?_) (fun q2 => ?_)
    · replace h := ite_f h q2
      refine e_pick [0, 1, 2, 3, 4, 5, 6, 7, 8] rfl ?_
      exact w_X12_price_J120 C hr hlk hK38 h
    · replace h := ite_t h q2
      refine e_iload C 7 dX12_price_110 rfl ?_
      refine e_if_ge (tgt := 120) C dX12_price_112 (by decide) (fun q3 => ?_) (fun q3 => ?_)
      · replace h := ite_t h q3
        refine e_pick [0, 1, 2, 3, 4, 5, 6, 7, 8] rfl ?_
        exact w_X12_price_J120 C hr hlk hK38 h
      · replace h := ite_f h q3
        refine e_iload C 8 dX12_price_115 rfl ?_
        refine e_goto (tgt := 122) C dX12_price_117 (by decide) ?_
        refine e_pick [0, 1, 2, 3, 4, 5, 6, 8] rfl ?_
        exact w_X12_price_J122 C hr hlk hK38 h
set_option maxHeartbeats 4000000 in
set_option maxRecDepth 100000 in
theorem w_X12_price_J85 {p : Program} {l : Launch} {e : Env} {s : State} {m : MethodId} {args : Array Value} {below : List Frame} {meth : Method} {c : Code} {g : Geo} (C : Cx p s m args c cX12_price RX12 11 g) (hr : meth.sig.returnType = (some .int)) (hlk : meth.locks = false) {a0 : Nat} {x1 : Int32} {x2 : Int32} {v3 : Int32} {v4 : Int32} {v5 : Int32} {v6 : Int32} {v7 : Int32} {v8 : Int32} {v10 : Int32} {M : Mem} {K38 : Int32 × Int32 × Int32 × Int32 × Int32 × Int32 × Mem → Prop} {Q : Int32 → Mem → Prop} (hK38 : ∀ z : Int32 × Int32 × Int32 × Int32 × Int32 × Int32 × Mem, K38 z → E p l e (rmO 6 0 0) s m args below meth c g 11 (MQ below (QcM g (rI Q)) args s 0 0 (gA g)) 0 0 38 [(0, .ref a0), (1, .int x1), (2, .int x2), (3, .int z.1), (4, .int z.2.1), (5, .int z.2.2.1), (6, .int z.2.2.2.1), (7, .int z.2.2.2.2.1), (8, .int z.2.2.2.2.2.1)] [] (z.2.2.2.2.2.2)) (h : f_X12_price_J85 a0 x1 x2 v3 v4 v5 v6 v7 v8 v10 M K38 Q) : E p l e (rmO 6 0 0) s m args below meth c g 11 (MQ below (QcM g (rI Q)) args s 0 0 (gA g)) 0 0 85 [(0, .ref a0), (1, .int x1), (2, .int x2), (3, .int v3), (4, .int v4), (5, .int v5), (6, .int v6), (7, .int v7), (8, .int v8), (10, .int v10)] [] M := by
  unfold f_X12_price_J85 at h
  refine e_iload C 9 dX12_price_85 rfl ?_
  refine e_iload C 6 dX12_price_87 rfl ?_
  refine e_icmp_le (tgt := 100) C dX12_price_89 (by decide) (fun q1 => ?_) (fun q1 => ?_)
  · replace h := ite_t h q1
    exact w_X12_price_J100 C hr hlk hK38 h
  · replace h := ite_f h q1
    refine e_iload C 9 dX12_price_92 rfl ?_
    refine e_istore (al' := [(6, .int v10), (0, .ref a0), (1, .int x1), (2, .int x2), (3, .int v3), (4, .int v4), (5, .int v5), (7, .int v7), (8, .int v8), (10, .int v10)]) C dX12_price_94 (by decide) rfl ?_
    refine e_iload C 8 dX12_price_96 rfl ?_
    refine e_istore (al' := [(5, .int v8), (6, .int v10), (0, .ref a0), (1, .int x1), (2, .int x2), (3, .int v3), (4, .int v4), (7, .int v7), (8, .int v8), (10, .int v10)]) C dX12_price_98 (by decide) rfl ?_
    refine e_pick [2, 3, 4, 5, 6, 0, 1, 7, 8, 9] rfl ?_
    exact w_X12_price_J100 C hr hlk hK38 h
set_option maxHeartbeats 4000000 in
set_option maxRecDepth 100000 in
theorem w_X12_price_J78 {p : Program} {l : Launch} {e : Env} {s : State} {m : MethodId} {args : Array Value} {below : List Frame} {meth : Method} {c : Code} {g : Geo} (C : Cx p s m args c cX12_price RX12 11 g) (hr : meth.sig.returnType = (some .int)) (hlk : meth.locks = false) {a0 : Nat} {x1 : Int32} {x2 : Int32} {v5 : Int32} {v6 : Int32} {v7 : Int32} {v8 : Int32} {v9 : Int32} {v10 : Int32} {M : Mem} {K38 : Int32 × Int32 × Int32 × Int32 × Int32 × Int32 × Mem → Prop} {Q : Int32 → Mem → Prop} (hK38 : ∀ z : Int32 × Int32 × Int32 × Int32 × Int32 × Int32 × Mem, K38 z → E p l e (rmO 6 0 0) s m args below meth c g 11 (MQ below (QcM g (rI Q)) args s 0 0 (gA g)) 0 0 38 [(0, .ref a0), (1, .int x1), (2, .int x2), (3, .int z.1), (4, .int z.2.1), (5, .int z.2.2.1), (6, .int z.2.2.2.1), (7, .int z.2.2.2.2.1), (8, .int z.2.2.2.2.2.1)] [] (z.2.2.2.2.2.2)) (h : f_X12_price_J78 a0 x1 x2 v5 v6 v7 v8 v9 v10 M K38 Q) : E p l e (rmO 6 0 0) s m args below meth c g 11 (MQ below (QcM g (rI Q)) args s 0 0 (gA g)) 0 0 78 [(0, .ref a0), (1, .int x1), (2, .int x2), (5, .int v5), (6, .int v6), (7, .int v7), (8, .int v8), (9, .int v9), (10, .int v10)] [] M := by
  unfold f_X12_price_J78 at h
  refine e_iload C 7 dX12_price_78 rfl ?_
  refine e_istore (al' := [(4, .int v9), (0, .ref a0), (1, .int x1), (2, .int x2), (5, .int v5), (6, .int v6), (7, .int v7), (8, .int v8), (9, .int v9), (10, .int v10)]) C dX12_price_80 (by decide) rfl ?_
  refine e_iload C 7 dX12_price_82 rfl ?_
  refine e_istore_n (al' := [(3, .int v8), (4, .int v9), (0, .ref a0), (1, .int x1), (2, .int x2), (5, .int v5), (6, .int v6), (7, .int v7), (8, .int v8), (9, .int v9), (10, .int v10)]) C dX12_price_84 rfl (by decide) rfl ?_
  refine e_pick [2, 3, 4, 0, 1, 5, 6, 7, 8, 10] rfl ?_
  exact w_X12_price_J85 C hr hlk hK38 h
set_option maxHeartbeats 4000000 in
set_option maxRecDepth 100000 in
theorem w_X12_price_B38 {p : Program} {l : Launch} {e : Env} {s : State} {m : MethodId} {args : Array Value} {below : List Frame} {meth : Method} {c : Code} {g : Geo} (C : Cx p s m args c cX12_price RX12 11 g) (hr : meth.sig.returnType = (some .int)) (hlk : meth.locks = false) {a0 : Nat} {x1 : Int32} {x2 : Int32} {v3 : Int32} {v4 : Int32} {v5 : Int32} {v6 : Int32} {v7 : Int32} {v8 : Int32} {M : Mem} {K38 : Int32 × Int32 × Int32 × Int32 × Int32 × Int32 × Mem → Prop} {Q : Int32 → Mem → Prop} (hK38 : ∀ z : Int32 × Int32 × Int32 × Int32 × Int32 × Int32 × Mem, K38 z → E p l e (rmO 6 0 0) s m args below meth c g 11 (MQ below (QcM g (rI Q)) args s 0 0 (gA g)) 0 0 38 [(0, .ref a0), (1, .int x1), (2, .int x2), (3, .int z.1), (4, .int z.2.1), (5, .int z.2.2.1), (6, .int z.2.2.2.1), (7, .int z.2.2.2.2.1), (8, .int z.2.2.2.2.2.1)] [] (z.2.2.2.2.2.2)) (h : f_X12_price_B38 a0 x1 x2 v3 v4 v5 v6 v7 v8 M K38 Q) : E p l e (rmO 6 0 0) s m args below meth c g 11 (MQ below (QcM g (rI Q)) args s 0 0 (gA g)) 0 0 38 [(0, .ref a0), (1, .int x1), (2, .int x2), (3, .int v3), (4, .int v4), (5, .int v5), (6, .int v6), (7, .int v7), (8, .int v8)] [] M := by
  unfold f_X12_price_B38 at h
  refine e_iload C 8 dX12_price_38 rfl ?_
  refine e_bipush (v := 21) C dX12_price_40 (by decide) ?_
  refine e_icmp_ge (tgt := 130) C dX12_price_42 (by decide) (fun q1 => ?_) (fun q1 => ?_)
  · replace h := ite_t h q1
    refine e_iload_n C 2 dX12_price_130 rfl rfl ?_
    by_cases q2 : x2 = 0
    · replace h := ite_t h q2
      refine e_tin (tgt := 160) C dX12_price_131 (by rw [q2]; decide) (by rw [q2]; decide) (by rw [q2] <;> rfl) (by decide) ?_
      refine e_iload_n C 3 dX12_price_160 rfl rfl ?_
      exact e_iret C hr hlk (Nat.le_refl _) (Nat.le_refl _) dX12_price_161 ⟨_, rfl, h⟩
    · replace h := ite_f h q2
      by_cases q3 : x2 = 1
      · replace h := ite_t h q3
        refine e_tin (tgt := 162) C dX12_price_131 (by rw [q3]; decide) (by rw [q3]; decide) (by rw [q3] <;> rfl) (by decide) ?_
        refine e_iload C 5 dX12_price_162 rfl ?_
        exact e_iret C hr hlk (Nat.le_refl _) (Nat.le_refl _) dX12_price_164 ⟨_, rfl, h⟩
      · replace h := ite_f h q3
        by_cases q4 : x2 = 2
        · replace h := ite_t h q4
          refine e_tin (tgt := 165) C dX12_price_131 (by rw [q4]; decide) (by rw [q4]; decide) (by rw [q4] <;> rfl) (by decide) ?_
          refine e_iload C 7 dX12_price_165 rfl ?_
          exact e_iret C hr hlk (Nat.le_refl _) (Nat.le_refl _) dX12_price_167 ⟨_, rfl, h⟩
        · replace h := ite_f h q4
          by_cases q5 : x2 = 3
          · replace h := ite_t h q5
            refine e_tin (tgt := 168) C dX12_price_131 (by rw [q5]; decide) (by rw [q5]; decide) (by rw [q5] <;> rfl) (by decide) ?_
            refine e_iload C 4 dX12_price_168 rfl ?_
            exact e_iret C hr hlk (Nat.le_refl _) (Nat.le_refl _) dX12_price_170 ⟨_, rfl, h⟩
          · replace h := ite_f h q5
            refine e_tout (tgt := 171) C dX12_price_131 (by have z0 := lv_neT (a := 0) q2 (by decide); have z1 := lv_neT (a := 1) q3 (by decide); have z2 := lv_neT (a := 2) q4 (by decide); have z3 := lv_neT (a := 3) q5 (by decide); omega) (by decide) ?_
            refine e_iload C 6 dX12_price_171 rfl ?_
            exact e_iret C hr hlk (Nat.le_refl _) (Nat.le_refl _) dX12_price_173 ⟨_, rfl, h⟩
  · replace h := ite_f h q1
    refine e_aload_n C 0 dX12_price_45 rfl rfl ?_
    refine e_iload_n C 1 dX12_price_46 rfl rfl ?_
    refine e_iload C 8 dX12_price_47 rfl ?_
    refine e_iconst (v := 0) C dX12_price_49 (by decide) ?_
    refine e_iconst (v := 0) C dX12_price_50 (by decide) ?_
    obtain ⟨o8, h⟩ := h
    refine e_callV (as := [.int x1, .int v8, .int (0 : Int32), .int (0 : Int32)]) C wb_X12_go wv_X12_325 (ci := 12) rfl rfl (isO_1 o8) (m_X12_go h) rfl ⟨Nat.le_of_ble_eq_true rfl, Nat.le_of_ble_eq_true rfl⟩ ⟨Nat.le_of_ble_eq_true rfl, Nat.le_of_ble_eq_true rfl⟩ (by first | exact Nat.le_of_ble_eq_true rfl | (simp only [List.map_cons, List.map_nil, va_cat, List.sum_cons, List.sum_nil]; exact Nat.le_of_ble_eq_true rfl)) dX12_price_51 (kV (fun M7 h19 => ?_))
    refine e_aload_n C 0 dX12_price_54 rfl rfl ?_
    obtain ⟨o11, h19⟩ := h19
    refine e_callV (as := []) C wb_X12_lost wv_X12_335 (ci := 12) rfl rfl (isO_1 o11) (m_X12_lost h19) rfl ⟨Nat.le_of_ble_eq_true rfl, Nat.le_of_ble_eq_true rfl⟩ ⟨Nat.le_of_ble_eq_true rfl, Nat.le_of_ble_eq_true rfl⟩ (by first | exact Nat.le_of_ble_eq_true rfl | (simp only [List.map_cons, List.map_nil, va_cat, List.sum_cons, List.sum_nil]; exact Nat.le_of_ble_eq_true rfl)) dX12_price_55 (kI (fun w9 M10 h18 => ?_))
    refine e_istore (al' := [(9, .int w9), (0, .ref a0), (1, .int x1), (2, .int x2), (3, .int v3), (4, .int v4), (5, .int v5), (6, .int v6), (7, .int v7), (8, .int v8)]) C dX12_price_58 (by decide) rfl ?_
    refine e_aload_n C 1 dX12_price_60 rfl rfl ?_
    obtain ⟨o14, h18⟩ := h18
    refine e_callV (as := []) C wb_X12_pence wv_X12_338 (ci := 12) rfl rfl (isO_1 o14) (m_X12_pence h18) rfl ⟨Nat.le_of_ble_eq_true rfl, Nat.le_of_ble_eq_true rfl⟩ ⟨Nat.le_of_ble_eq_true rfl, Nat.le_of_ble_eq_true rfl⟩ (by first | exact Nat.le_of_ble_eq_true rfl | (simp only [List.map_cons, List.map_nil, va_cat, List.sum_cons, List.sum_nil]; exact Nat.le_of_ble_eq_true rfl)) dX12_price_61 (kI (fun w12 M13 h17 => ?_))
    refine e_istore (al' := [(10, .int w12), (9, .int w9), (0, .ref a0), (1, .int x1), (2, .int x2), (3, .int v3), (4, .int v4), (5, .int v5), (6, .int v6), (7, .int v7), (8, .int v8)]) C dX12_price_64 (by decide) rfl ?_
    refine e_iload C 6 dX12_price_66 rfl ?_
    refine e_if_lt (tgt := 78) C dX12_price_68 (by decide) (fun q15 => ?_) (fun q15 => ?_)
    · replace h17 := ite_t h17 q15
      refine e_pick [2, 3, 4, 7, 8, 9, 10, 1, 0] rfl ?_
      exact w_X12_price_J78 C hr hlk hK38 h17
    · replace h17 := ite_f h17 q15
      refine e_iload C 1 dX12_price_71 rfl ?_
      refine e_iload C 6 dX12_price_73 rfl ?_
      refine e_icmp_ge (tgt := 85) C dX12_price_75 (by decide) (fun q16 => ?_) (fun q16 => ?_)
      · replace h17 := ite_t h17 q16
        refine e_pick [2, 3, 4, 5, 6, 7, 8, 9, 10, 0] rfl ?_
        exact w_X12_price_J85 C hr hlk hK38 h17
      · replace h17 := ite_f h17 q16
        refine e_pick [2, 3, 4, 7, 8, 9, 10, 1, 0] rfl ?_
        exact w_X12_price_J78 C hr hlk hK38 h17
set_option maxHeartbeats 4000000 in
set_option maxRecDepth 100000 in
theorem w_X12_price_L38 {p : Program} {l : Launch} {e : Env} {s : State} {m : MethodId} {args : Array Value} {below : List Frame} {meth : Method} {c : Code} {g : Geo} (C : Cx p s m args c cX12_price RX12 11 g) (hr : meth.sig.returnType = (some .int)) (hlk : meth.locks = false) {a0 : Nat} {x1 : Int32} {x2 : Int32} {v3 : Int32} {v4 : Int32} {v5 : Int32} {v6 : Int32} {v7 : Int32} {v8 : Int32} {M : Mem} {Q : Int32 → Mem → Prop} (h : f_X12_price_L38 a0 x1 x2 v3 v4 v5 v6 v7 v8 M Q) : E p l e (rmO 6 0 0) s m args below meth c g 11 (MQ below (QcM g (rI Q)) args s 0 0 (gA g)) 0 0 38 [(0, .ref a0), (1, .int x1), (2, .int x2), (3, .int v3), (4, .int v4), (5, .int v5), (6, .int v6), (7, .int v7), (8, .int v8)] [] M := by
  unfold f_X12_price_L38 at h
  refine loop_E (W := fun z : Int32 × Int32 × Int32 × Int32 × Int32 × Int32 × Mem => E p l e (rmO 6 0 0) s m args below meth c g 11 (MQ below (QcM g (rI Q)) args s 0 0 (gA g)) 0 0 38 [(0, .ref a0), (1, .int x1), (2, .int x2), (3, .int z.1), (4, .int z.2.1), (5, .int z.2.2.1), (6, .int z.2.2.2.1), (7, .int z.2.2.2.2.1), (8, .int z.2.2.2.2.2.1)] [] (z.2.2.2.2.2.2)) h (fun K z hK h => ?_)
  exact w_X12_price_B38 C hr hlk hK h
set_option maxHeartbeats 4000000 in
set_option maxRecDepth 100000 in
theorem w_X12_price {p : Program} {l : Launch} {e : Env} {s : State} {m : MethodId} {args : Array Value} {below : List Frame} {meth : Method} {c : Code} {g : Geo} (C : Cx p s m args c cX12_price RX12 11 g) (hr : meth.sig.returnType = (some .int)) (hlk : meth.locks = false) {a0 : Nat} {x1 : Int32} {x2 : Int32} {M : Mem} {Q : Int32 → Mem → Prop} (h : f_X12_price a0 x1 x2 M Q) : E p l e (rmO 6 0 0) s m args below meth c g 11 (MQ below (QcM g (rI Q)) args s 0 0 (gA g)) 0 0 0 [(0, .ref a0), (1, .int x1), (2, .int x2)] [] M := by
  unfold f_X12_price at h
  refine e_aload_n C 0 dX12_price_0 rfl rfl ?_
  refine e_iload_n C 1 dX12_price_1 rfl rfl ?_
  obtain ⟨o3, h⟩ := h
  refine e_callV (as := [.int x1]) C wb_X12_isOrder wv_X12_294 (ci := 12) rfl rfl (isO_1 o3) (m_X12_isOrder h) rfl ⟨Nat.le_of_ble_eq_true rfl, Nat.le_of_ble_eq_true rfl⟩ ⟨Nat.le_of_ble_eq_true rfl, Nat.le_of_ble_eq_true rfl⟩ (by first | exact Nat.le_of_ble_eq_true rfl | (simp only [List.map_cons, List.map_nil, va_cat, List.sum_cons, List.sum_nil]; exact Nat.le_of_ble_eq_true rfl)) dX12_price_2 (kZ (fun w1 M2 h10 => ?_))
  refine e_if_eq (tgt := 18) C dX12_price_5 (by decide) (fun q4 => ?_) (fun q4 => ?_)
  · replace h10 := ite_f h10 (bi_ne q4)
    refine e_iconst (v := -1) C dX12_price_18 (by decide) ?_
    exact e_iret C hr hlk (Nat.le_refl _) (Nat.le_refl _) dX12_price_19 ⟨_, rfl, h10⟩
  · replace h10 := ite_t h10 (bi_t q4)
    refine e_aload_n C 0 dX12_price_8 rfl rfl ?_
    refine e_iload_n C 2 dX12_price_9 rfl rfl ?_
    refine e_iconst (v := 0) C dX12_price_10 (by decide) ?_
    refine e_iconst (v := 4) C dX12_price_11 (by decide) ?_
    obtain ⟨o7, h10⟩ := h10
    refine e_callV (as := [.int x2, .int (0 : Int32), .int (4 : Int32)]) C wb_X12_in wv_X12_215 (ci := 12) rfl rfl (isO_1 o7) (m_X12_in h10) rfl ⟨Nat.le_of_ble_eq_true rfl, Nat.le_of_ble_eq_true rfl⟩ ⟨Nat.le_of_ble_eq_true rfl, Nat.le_of_ble_eq_true rfl⟩ (by first | exact Nat.le_of_ble_eq_true rfl | (simp only [List.map_cons, List.map_nil, va_cat, List.sum_cons, List.sum_nil]; exact Nat.le_of_ble_eq_true rfl)) dX12_price_12 (kZ (fun w5 M6 h9 => ?_))
    refine e_if_ne (tgt := 20) C dX12_price_15 (by decide) (fun q8 => ?_) (fun q8 => ?_)
    · replace h9 := ite_t h9 (bi_t q8)
      refine e_iconst (v := 0) C dX12_price_20 (by decide) ?_
      refine e_istore_n (al' := [(3, .int (0 : Int32)), (0, .ref a0), (1, .int x1), (2, .int x2)]) C dX12_price_21 rfl (by decide) rfl ?_
      refine e_iconst (v := -1) C dX12_price_22 (by decide) ?_
      refine e_istore (al' := [(4, .int (-1 : Int32)), (3, .int (0 : Int32)), (0, .ref a0), (1, .int x1), (2, .int x2)]) C dX12_price_23 (by decide) rfl ?_
      refine e_iconst (v := 0) C dX12_price_25 (by decide) ?_
      refine e_istore (al' := [(5, .int (0 : Int32)), (4, .int (-1 : Int32)), (3, .int (0 : Int32)), (0, .ref a0), (1, .int x1), (2, .int x2)]) C dX12_price_26 (by decide) rfl ?_
      refine e_iconst (v := -1) C dX12_price_28 (by decide) ?_
      refine e_istore (al' := [(6, .int (-1 : Int32)), (5, .int (0 : Int32)), (4, .int (-1 : Int32)), (3, .int (0 : Int32)), (0, .ref a0), (1, .int x1), (2, .int x2)]) C dX12_price_29 (by decide) rfl ?_
      refine e_bipush (v := -5) C dX12_price_31 (by decide) ?_
      refine e_istore (al' := [(7, .int (-5 : Int32)), (6, .int (-1 : Int32)), (5, .int (0 : Int32)), (4, .int (-1 : Int32)), (3, .int (0 : Int32)), (0, .ref a0), (1, .int x1), (2, .int x2)]) C dX12_price_33 (by decide) rfl ?_
      refine e_iconst (v := 0) C dX12_price_35 (by decide) ?_
      refine e_istore (al' := [(8, .int (0 : Int32)), (7, .int (-5 : Int32)), (6, .int (-1 : Int32)), (5, .int (0 : Int32)), (4, .int (-1 : Int32)), (3, .int (0 : Int32)), (0, .ref a0), (1, .int x1), (2, .int x2)]) C dX12_price_36 (by decide) rfl ?_
      refine e_pick [6, 7, 8, 5, 4, 3, 2, 1, 0] rfl ?_
      exact w_X12_price_L38 C hr hlk h9
    · replace h9 := ite_f h9 (bi_ne q8)
      refine e_iconst (v := -1) C dX12_price_18 (by decide) ?_
      exact e_iret C hr hlk (Nat.le_refl _) (Nat.le_refl _) dX12_price_19 ⟨_, rfl, h9⟩
theorem m_X12_price  {a0 : Nat} {x1 : Int32} {x2 : Int32} {M : Mem} {Q : Int32 → Mem → Prop} (h : f_X12_price a0 x1 x2 M Q) : Con yX12_price cX12_price 11 (some .int) 6 0 0 [.ref a0, .int x1, .int x2] M (rI Q) :=
  con_of2 (al := [(0, .ref a0), (1, .int x1), (2, .int x2)]) (by decide) (by exact Nat.le_of_ble_eq_true rfl) (by rfl) (fun p l e s m args below meth c g C hr hlk _ => w_X12_price C hr hlk h)
set_option maxHeartbeats 4000000 in
set_option maxRecDepth 100000 in
theorem w_X12_lossOf_J64 {p : Program} {l : Launch} {e : Env} {s : State} {m : MethodId} {args : Array Value} {below : List Frame} {meth : Method} {c : Code} {g : Geo} (C : Cx p s m args c cX12_lossOf RX12 4 g) (hr : meth.sig.returnType = (some .int)) (hlk : meth.locks = false) {a0 : Nat} {x1 : Int32} {v2 : Int32} {v3 : Int32} {M : Mem} {K4 : Int32 × Int32 × Mem → Prop} {Q : Int32 → Mem → Prop} (hK4 : ∀ z : Int32 × Int32 × Mem, K4 z → E p l e (rmO 1 0 0) s m args below meth c g 4 (MQ below (QcM g (rI Q)) args s 0 0 (gA g)) 0 0 4 [(0, .ref a0), (1, .int x1), (2, .int z.1), (3, .int z.2.1)] [] (z.2.2)) (h : f_X12_lossOf_J64 a0 x1 v2 v3 M K4 Q) : E p l e (rmO 1 0 0) s m args below meth c g 4 (MQ below (QcM g (rI Q)) args s 0 0 (gA g)) 0 0 64 [(0, .ref a0), (1, .int x1), (2, .int v2), (3, .int v3)] [] M := by
  unfold f_X12_lossOf_J64 at h
  refine e_iinc (v := (v3 + 1)) (al' := [(3, .int (v3 + 1)), (0, .ref a0), (1, .int x1), (2, .int v2)]) C 3 dX12_lossOf_64 rfl rfl (by decide) rfl ?_
  refine e_goto (tgt := 4) C dX12_lossOf_67 (by decide) ?_
  refine e_pick [1, 2, 3, 0] rfl ?_
  exact hK4 (v2, (v3 + 1), M) h
set_option maxHeartbeats 4000000 in
set_option maxRecDepth 100000 in
theorem w_X12_lossOf_J62 {p : Program} {l : Launch} {e : Env} {s : State} {m : MethodId} {args : Array Value} {below : List Frame} {meth : Method} {c : Code} {g : Geo} (C : Cx p s m args c cX12_lossOf RX12 4 g) (hr : meth.sig.returnType = (some .int)) (hlk : meth.locks = false) {a0 : Nat} {x1 : Int32} {v3 : Int32} {t0 : Int32} {t1 : Int32} {M : Mem} {K4 : Int32 × Int32 × Mem → Prop} {Q : Int32 → Mem → Prop} (hK4 : ∀ z : Int32 × Int32 × Mem, K4 z → E p l e (rmO 1 0 0) s m args below meth c g 4 (MQ below (QcM g (rI Q)) args s 0 0 (gA g)) 0 0 4 [(0, .ref a0), (1, .int x1), (2, .int z.1), (3, .int z.2.1)] [] (z.2.2)) (h : f_X12_lossOf_J62 a0 x1 v3 t0 t1 M K4 Q) : E p l e (rmO 1 0 0) s m args below meth c g 4 (MQ below (QcM g (rI Q)) args s 0 0 (gA g)) 0 0 62 [(0, .ref a0), (1, .int x1), (3, .int v3)] [.int t0, .int t1] M := by
  unfold f_X12_lossOf_J62 at h
  refine e_iadd C dX12_lossOf_62 ?_
  refine e_istore_n (al' := [(2, .int (t1 + t0)), (0, .ref a0), (1, .int x1), (3, .int v3)]) C dX12_lossOf_63 rfl (by decide) rfl ?_
  refine e_pick [1, 2, 0, 3] rfl ?_
  exact w_X12_lossOf_J64 C hr hlk hK4 h
set_option maxHeartbeats 4000000 in
set_option maxRecDepth 100000 in
theorem w_X12_lossOf_B4 {p : Program} {l : Launch} {e : Env} {s : State} {m : MethodId} {args : Array Value} {below : List Frame} {meth : Method} {c : Code} {g : Geo} (C : Cx p s m args c cX12_lossOf RX12 4 g) (hr : meth.sig.returnType = (some .int)) (hlk : meth.locks = false) {a0 : Nat} {x1 : Int32} {v2 : Int32} {v3 : Int32} {M : Mem} {K4 : Int32 × Int32 × Mem → Prop} {Q : Int32 → Mem → Prop} (hK4 : ∀ z : Int32 × Int32 × Mem, K4 z → E p l e (rmO 1 0 0) s m args below meth c g 4 (MQ below (QcM g (rI Q)) args s 0 0 (gA g)) 0 0 4 [(0, .ref a0), (1, .int x1), (2, .int z.1), (3, .int z.2.1)] [] (z.2.2)) (h : f_X12_lossOf_B4 a0 x1 v2 v3 M K4 Q) : E p l e (rmO 1 0 0) s m args below meth c g 4 (MQ below (QcM g (rI Q)) args s 0 0 (gA g)) 0 0 4 [(0, .ref a0), (1, .int x1), (2, .int v2), (3, .int v3)] [] M := by
  unfold f_X12_lossOf_B4 at h
  refine e_iload_n C 3 dX12_lossOf_4 rfl rfl ?_
  refine e_aload_n C 0 dX12_lossOf_5 rfl rfl ?_
  obtain ⟨o1, h⟩ := h
  refine e_getI C [12] 31 (fg_of fg_X12_105) o1 dX12_lossOf_6 ?_
  refine e_icmp_ge (tgt := 70) C dX12_lossOf_9 (by decide) (fun q2 => ?_) (fun q2 => ?_)
  · replace h := ite_t h q2
    refine e_iload_n C 2 dX12_lossOf_70 rfl rfl ?_
    exact e_iret C hr hlk (Nat.le_refl _) (Nat.le_refl _) dX12_lossOf_71 ⟨_, rfl, h⟩
  · replace h := ite_f h q2
    refine e_aload_n C 0 dX12_lossOf_12 rfl rfl ?_
    refine e_getR C [12] 41 (fg_of fg_X12_135) o1 dX12_lossOf_13 ?_
    refine e_iload_n C 3 dX12_lossOf_16 rfl rfl ?_
    obtain ⟨b3, p4, h⟩ := h
    try rw [p4]
    obtain ⟨o5, h⟩ := h
    refine e_iald C o5 dX12_lossOf_17 ?_
    refine e_iload_n C 1 dX12_lossOf_18 rfl rfl ?_
    refine e_icmp_ne (tgt := 64) C dX12_lossOf_19 (by decide) (fun q6 => ?_) (fun q6 => ?_)
    · replace h := ite_f h q6
      exact w_X12_lossOf_J64 C hr hlk hK4 h
    · replace h := ite_t h q6
      refine e_iload_n C 2 dX12_lossOf_22 rfl rfl ?_
      refine e_aload_n C 0 dX12_lossOf_23 rfl rfl ?_
      refine e_getR C [12] 43 (fg_of fg_X12_141) o1 dX12_lossOf_24 ?_
      refine e_iload_n C 3 dX12_lossOf_27 rfl rfl ?_
      obtain ⟨b7, p8, h⟩ := h
      try rw [p8]
      obtain ⟨o9, h⟩ := h
      refine e_iald C o9 dX12_lossOf_28 ?_
      refine e_iconst (v := 2) C dX12_lossOf_29 (by decide) ?_
      refine e_icmp_ne (tgt := 42) C dX12_lossOf_30 (by decide) (fun q10 => ?_) (fun q10 => ?_)
      · replace h := ite_f h q10
        refine e_aload_n C 0 dX12_lossOf_42 rfl rfl ?_
        refine e_getR C [12] 2 (fg_of fg_X12_16) o1 dX12_lossOf_43 ?_
        refine e_iload_n C 1 dX12_lossOf_46 rfl rfl ?_
        obtain ⟨b11, p12, h⟩ := h
        try rw [p12]
        obtain ⟨o13, h⟩ := h
        refine e_iald C o13 dX12_lossOf_47 ?_
        refine e_aload_n C 0 dX12_lossOf_48 rfl rfl ?_
        refine e_getR C [12] 45 (fg_of fg_X12_147) o1 dX12_lossOf_49 ?_
        refine e_iload_n C 3 dX12_lossOf_52 rfl rfl ?_
        obtain ⟨b14, p15, h⟩ := h
        try rw [p15]
        obtain ⟨o16, h⟩ := h
        refine e_iald C o16 dX12_lossOf_53 ?_
        refine e_imul C dX12_lossOf_54 ?_
        refine e_aload_n C 0 dX12_lossOf_55 rfl rfl ?_
        refine e_getR C [12] 44 (fg_of fg_X12_144) o1 dX12_lossOf_56 ?_
        refine e_iload_n C 3 dX12_lossOf_59 rfl rfl ?_
        obtain ⟨b17, p18, h⟩ := h
        try rw [p18]
        obtain ⟨o19, h⟩ := h
        refine e_iald C o19 dX12_lossOf_60 ?_
        refine e_iadd C dX12_lossOf_61 ?_
        refine e_pick [0, 1, 3] rfl ?_
        exact w_X12_lossOf_J62 C hr hlk hK4 h
      · replace h := ite_t h q10
        refine e_aload_n C 0 dX12_lossOf_33 rfl rfl ?_
        refine e_getR C [12] 3 (fg_of fg_X12_20) o1 dX12_lossOf_34 ?_
        refine e_iload_n C 1 dX12_lossOf_37 rfl rfl ?_
        obtain ⟨b20, p21, h⟩ := h
        try rw [p21]
        obtain ⟨o22, h⟩ := h
        refine e_iald C o22 dX12_lossOf_38 ?_
        refine e_goto (tgt := 62) C dX12_lossOf_39 (by decide) ?_
        refine e_pick [0, 1, 3] rfl ?_
        exact w_X12_lossOf_J62 C hr hlk hK4 h
set_option maxHeartbeats 4000000 in
set_option maxRecDepth 100000 in
theorem w_X12_lossOf_L4 {p : Program} {l : Launch} {e : Env} {s : State} {m : MethodId} {args : Array Value} {below : List Frame} {meth : Method} {c : Code} {g : Geo} (C : Cx p s m args c cX12_lossOf RX12 4 g) (hr : meth.sig.returnType = (some .int)) (hlk : meth.locks = false) {a0 : Nat} {x1 : Int32} {v2 : Int32} {v3 : Int32} {M : Mem} {Q : Int32 → Mem → Prop} (h : f_X12_lossOf_L4 a0 x1 v2 v3 M Q) : E p l e (rmO 1 0 0) s m args below meth c g 4 (MQ below (QcM g (rI Q)) args s 0 0 (gA g)) 0 0 4 [(0, .ref a0), (1, .int x1), (2, .int v2), (3, .int v3)] [] M := by
  unfold f_X12_lossOf_L4 at h
  refine loop_E (W := fun z : Int32 × Int32 × Mem => E p l e (rmO 1 0 0) s m args below meth c g 4 (MQ below (QcM g (rI Q)) args s 0 0 (gA g)) 0 0 4 [(0, .ref a0), (1, .int x1), (2, .int z.1), (3, .int z.2.1)] [] (z.2.2)) h (fun K z hK h => ?_)
  exact w_X12_lossOf_B4 C hr hlk hK h
set_option maxHeartbeats 4000000 in
set_option maxRecDepth 100000 in
theorem w_X12_lossOf {p : Program} {l : Launch} {e : Env} {s : State} {m : MethodId} {args : Array Value} {below : List Frame} {meth : Method} {c : Code} {g : Geo} (C : Cx p s m args c cX12_lossOf RX12 4 g) (hr : meth.sig.returnType = (some .int)) (hlk : meth.locks = false) {a0 : Nat} {x1 : Int32} {M : Mem} {Q : Int32 → Mem → Prop} (h : f_X12_lossOf a0 x1 M Q) : E p l e (rmO 1 0 0) s m args below meth c g 4 (MQ below (QcM g (rI Q)) args s 0 0 (gA g)) 0 0 0 [(0, .ref a0), (1, .int x1)] [] M := by
  unfold f_X12_lossOf at h
  refine e_iconst (v := 0) C dX12_lossOf_0 (by decide) ?_
  refine e_istore_n (al' := [(2, .int (0 : Int32)), (0, .ref a0), (1, .int x1)]) C dX12_lossOf_1 rfl (by decide) rfl ?_
  refine e_iconst (v := 0) C dX12_lossOf_2 (by decide) ?_
  refine e_istore_n (al' := [(3, .int (0 : Int32)), (2, .int (0 : Int32)), (0, .ref a0), (1, .int x1)]) C dX12_lossOf_3 rfl (by decide) rfl ?_
  refine e_pick [2, 3, 1, 0] rfl ?_
  exact w_X12_lossOf_L4 C hr hlk h
theorem m_X12_lossOf  {a0 : Nat} {x1 : Int32} {M : Mem} {Q : Int32 → Mem → Prop} (h : f_X12_lossOf a0 x1 M Q) : Con yX12_lossOf cX12_lossOf 4 (some .int) 1 0 0 [.ref a0, .int x1] M (rI Q) :=
  con_of2 (al := [(0, .ref a0), (1, .int x1)]) (by decide) (by exact Nat.le_of_ble_eq_true rfl) (by rfl) (fun p l e s m args below meth c g C hr hlk _ => w_X12_lossOf C hr hlk h)
set_option maxHeartbeats 4000000 in
set_option maxRecDepth 100000 in
theorem w_X12_worse_J85 {p : Program} {l : Launch} {e : Env} {s : State} {m : MethodId} {args : Array Value} {below : List Frame} {meth : Method} {c : Code} {g : Geo} (C : Cx p s m args c cX12_worse RX12 4 g) (hr : meth.sig.returnType = (some .int)) (hlk : meth.locks = false) {a0 : Nat} {x1 : Int32} {v3 : Int32} {t0 : Int32} {t1 : Int32} {M : Mem} {K55 : Int32 × Int32 × Mem → Prop} {Q : Int32 → Mem → Prop} (hK55 : ∀ z : Int32 × Int32 × Mem, K55 z → E p l e (rmO 7 0 0) s m args below meth c g 4 (MQ below (QcM g (rI Q)) args s 0 0 (gA g)) 0 0 55 [(0, .ref a0), (1, .int x1), (2, .int z.1), (3, .int z.2.1)] [] (z.2.2)) (h : f_X12_worse_J85 a0 x1 v3 t0 t1 M K55 Q) : E p l e (rmO 7 0 0) s m args below meth c g 4 (MQ below (QcM g (rI Q)) args s 0 0 (gA g)) 0 0 85 [(0, .ref a0), (1, .int x1), (3, .int v3)] [.int t0, .int t1] M := by
  unfold f_X12_worse_J85 at h
  refine e_ior C dX12_worse_85 ?_
  refine e_istore_n (al' := [(2, .int (t1 ||| t0)), (0, .ref a0), (1, .int x1), (3, .int v3)]) C dX12_worse_86 rfl (by decide) rfl ?_
  refine e_iinc (v := (v3 + 1)) (al' := [(3, .int (v3 + 1)), (2, .int (t1 ||| t0)), (0, .ref a0), (1, .int x1)]) C 3 dX12_worse_87 rfl rfl (by decide) rfl ?_
  refine e_goto (tgt := 55) C dX12_worse_90 (by decide) ?_
  refine e_pick [2, 3, 1, 0] rfl ?_
  exact hK55 ((t1 ||| t0), (v3 + 1), M) h
set_option maxHeartbeats 4000000 in
set_option maxRecDepth 100000 in
theorem w_X12_worse_B55 {p : Program} {l : Launch} {e : Env} {s : State} {m : MethodId} {args : Array Value} {below : List Frame} {meth : Method} {c : Code} {g : Geo} (C : Cx p s m args c cX12_worse RX12 4 g) (hr : meth.sig.returnType = (some .int)) (hlk : meth.locks = false) {a0 : Nat} {x1 : Int32} {v2 : Int32} {v3 : Int32} {M : Mem} {K55 : Int32 × Int32 × Mem → Prop} {Q : Int32 → Mem → Prop} (hK55 : ∀ z : Int32 × Int32 × Mem, K55 z → E p l e (rmO 7 0 0) s m args below meth c g 4 (MQ below (QcM g (rI Q)) args s 0 0 (gA g)) 0 0 55 [(0, .ref a0), (1, .int x1), (2, .int z.1), (3, .int z.2.1)] [] (z.2.2)) (h : f_X12_worse_B55 a0 x1 v2 v3 M K55 Q) : E p l e (rmO 7 0 0) s m args below meth c g 4 (MQ below (QcM g (rI Q)) args s 0 0 (gA g)) 0 0 55 [(0, .ref a0), (1, .int x1), (2, .int v2), (3, .int v3)] [] M := by
  unfold f_X12_worse_B55 at h
  refine e_iload_n C 3 dX12_worse_55 rfl rfl ?_
  refine e_aload_n C 0 dX12_worse_56 rfl rfl ?_
  obtain ⟨o1, h⟩ := h
  refine e_getI C [12] 0 (fg_of fg_X12_7) o1 dX12_worse_57 ?_
  refine e_icmp_ge (tgt := 93) C dX12_worse_60 (by decide) (fun q2 => ?_) (fun q2 => ?_)
  · replace h := ite_t h q2
    refine e_iload_n C 2 dX12_worse_93 rfl rfl ?_
    exact e_iret C hr hlk (Nat.le_refl _) (Nat.le_refl _) dX12_worse_94 ⟨_, rfl, h⟩
  · replace h := ite_f h q2
    refine e_iload_n C 2 dX12_worse_63 rfl rfl ?_
    refine e_aload_n C 0 dX12_worse_64 rfl rfl ?_
    refine e_getR C [12] 53 (fg_of fg_X12_171) o1 dX12_worse_65 ?_
    refine e_iload_n C 3 dX12_worse_68 rfl rfl ?_
    obtain ⟨b3, p4, h⟩ := h
    try rw [p4]
    obtain ⟨o5, h⟩ := h
    refine e_iald C o5 dX12_worse_69 ?_
    refine e_aload_n C 0 dX12_worse_70 rfl rfl ?_
    refine e_iload_n C 3 dX12_worse_71 rfl rfl ?_
    refine e_callV (as := [.int v3]) C wb_X12_lossOf wv_X12_341 (ci := 12) rfl rfl (isO_1 o1) (m_X12_lossOf h) rfl ⟨Nat.le_of_ble_eq_true rfl, Nat.le_of_ble_eq_true rfl⟩ ⟨Nat.le_of_ble_eq_true rfl, Nat.le_of_ble_eq_true rfl⟩ (by first | exact Nat.le_of_ble_eq_true rfl | (simp only [List.map_cons, List.map_nil, va_cat, List.sum_cons, List.sum_nil]; exact Nat.le_of_ble_eq_true rfl)) dX12_worse_72 (kI (fun w6 M7 h9 => ?_))
    refine e_icmp_le (tgt := 84) C dX12_worse_75 (by decide) (fun q8 => ?_) (fun q8 => ?_)
    · replace h9 := ite_t h9 q8
      refine e_iconst (v := 0) C dX12_worse_84 (by decide) ?_
      refine e_pick [0, 1, 3] rfl ?_
      exact w_X12_worse_J85 C hr hlk hK55 h9
    · replace h9 := ite_f h9 q8
      refine e_iconst (v := 1) C dX12_worse_78 (by decide) ?_
      refine e_iload_n C 3 dX12_worse_79 rfl rfl ?_
      refine e_ishl C dX12_worse_80 ?_
      refine e_goto (tgt := 85) C dX12_worse_81 (by decide) ?_
      refine e_pick [0, 1, 3] rfl ?_
      exact w_X12_worse_J85 C hr hlk hK55 h9
set_option maxHeartbeats 4000000 in
set_option maxRecDepth 100000 in
theorem w_X12_worse_L55 {p : Program} {l : Launch} {e : Env} {s : State} {m : MethodId} {args : Array Value} {below : List Frame} {meth : Method} {c : Code} {g : Geo} (C : Cx p s m args c cX12_worse RX12 4 g) (hr : meth.sig.returnType = (some .int)) (hlk : meth.locks = false) {a0 : Nat} {x1 : Int32} {v2 : Int32} {v3 : Int32} {M : Mem} {Q : Int32 → Mem → Prop} (h : f_X12_worse_L55 a0 x1 v2 v3 M Q) : E p l e (rmO 7 0 0) s m args below meth c g 4 (MQ below (QcM g (rI Q)) args s 0 0 (gA g)) 0 0 55 [(0, .ref a0), (1, .int x1), (2, .int v2), (3, .int v3)] [] M := by
  unfold f_X12_worse_L55 at h
  refine loop_E (W := fun z : Int32 × Int32 × Mem => E p l e (rmO 7 0 0) s m args below meth c g 4 (MQ below (QcM g (rI Q)) args s 0 0 (gA g)) 0 0 55 [(0, .ref a0), (1, .int x1), (2, .int z.1), (3, .int z.2.1)] [] (z.2.2)) h (fun K z hK h => ?_)
  exact w_X12_worse_B55 C hr hlk hK h
set_option maxHeartbeats 4000000 in
set_option maxRecDepth 100000 in
theorem w_X12_worse_B17 {p : Program} {l : Launch} {e : Env} {s : State} {m : MethodId} {args : Array Value} {below : List Frame} {meth : Method} {c : Code} {g : Geo} (C : Cx p s m args c cX12_worse RX12 4 g) (hr : meth.sig.returnType = (some .int)) (hlk : meth.locks = false) {a0 : Nat} {x1 : Int32} {v2 : Int32} {M : Mem} {K17 : Int32 × Mem → Prop} {Q : Int32 → Mem → Prop} (hK17 : ∀ z : Int32 × Mem, K17 z → E p l e (rmO 7 0 0) s m args below meth c g 4 (MQ below (QcM g (rI Q)) args s 0 0 (gA g)) 0 0 17 [(0, .ref a0), (1, .int x1), (2, .int z.1)] [] (z.2)) (h : f_X12_worse_B17 a0 x1 v2 M K17 Q) : E p l e (rmO 7 0 0) s m args below meth c g 4 (MQ below (QcM g (rI Q)) args s 0 0 (gA g)) 0 0 17 [(0, .ref a0), (1, .int x1), (2, .int v2)] [] M := by
  unfold f_X12_worse_B17 at h
  refine e_iload_n C 2 dX12_worse_17 rfl rfl ?_
  refine e_aload_n C 0 dX12_worse_18 rfl rfl ?_
  obtain ⟨o1, h⟩ := h
  refine e_getI C [12] 0 (fg_of fg_X12_7) o1 dX12_worse_19 ?_
  refine e_icmp_ge (tgt := 42) C dX12_worse_22 (by decide) (fun q2 => ?_) (fun q2 => ?_)
  · replace h := ite_t h q2
    refine e_aload_n C 0 dX12_worse_42 rfl rfl ?_
    refine e_bipush (v := 10) C dX12_worse_43 (by decide) ?_
    refine e_iconst (v := 0) C dX12_worse_45 (by decide) ?_
    refine e_iconst (v := 0) C dX12_worse_46 (by decide) ?_
    refine e_iconst (v := 0) C dX12_worse_47 (by decide) ?_
    refine e_callV (as := [.int (10 : Int32), .int (0 : Int32), .int (0 : Int32), .int (0 : Int32)]) C wb_X12_go wv_X12_325 (ci := 12) rfl rfl (isO_1 o1) (m_X12_go h) rfl ⟨Nat.le_of_ble_eq_true rfl, Nat.le_of_ble_eq_true rfl⟩ ⟨Nat.le_of_ble_eq_true rfl, Nat.le_of_ble_eq_true rfl⟩ (by first | exact Nat.le_of_ble_eq_true rfl | (simp only [List.map_cons, List.map_nil, va_cat, List.sum_cons, List.sum_nil]; exact Nat.le_of_ble_eq_true rfl)) dX12_worse_48 (kV (fun M4 h5 => ?_))
    refine e_iconst (v := 0) C dX12_worse_51 (by decide) ?_
    refine e_istore_n (al' := [(2, .int (0 : Int32)), (0, .ref a0), (1, .int x1)]) C dX12_worse_52 rfl (by decide) rfl ?_
    refine e_iconst (v := 0) C dX12_worse_53 (by decide) ?_
    refine e_istore_n (al' := [(3, .int (0 : Int32)), (2, .int (0 : Int32)), (0, .ref a0), (1, .int x1)]) C dX12_worse_54 rfl (by decide) rfl ?_
    refine e_pick [2, 3, 1, 0] rfl ?_
    exact w_X12_worse_L55 C hr hlk h5
  · replace h := ite_f h q2
    refine e_aload_n C 0 dX12_worse_25 rfl rfl ?_
    refine e_getR C [12] 53 (fg_of fg_X12_171) o1 dX12_worse_26 ?_
    refine e_iload_n C 2 dX12_worse_29 rfl rfl ?_
    refine e_aload_n C 0 dX12_worse_30 rfl rfl ?_
    refine e_iload_n C 2 dX12_worse_31 rfl rfl ?_
    refine e_callV (as := [.int v2]) C wb_X12_lossOf wv_X12_341 (ci := 12) rfl rfl (isO_1 o1) (m_X12_lossOf h) rfl ⟨Nat.le_of_ble_eq_true rfl, Nat.le_of_ble_eq_true rfl⟩ ⟨Nat.le_of_ble_eq_true rfl, Nat.le_of_ble_eq_true rfl⟩ (by first | exact Nat.le_of_ble_eq_true rfl | (simp only [List.map_cons, List.map_nil, va_cat, List.sum_cons, List.sum_nil]; exact Nat.le_of_ble_eq_true rfl)) dX12_worse_32 (kI (fun w6 M7 h13 => ?_))
    obtain ⟨b8, p9, h13⟩ := h13
    try rw [p9]
    obtain ⟨o10, h13⟩ := h13
    refine e_iast C o10 dX12_worse_35 ?_
    refine nmE (fun M11 e12 => ?_)
    replace h13 := h13 M11 e12
    refine e_iinc (v := (v2 + 1)) (al' := [(2, .int (v2 + 1)), (0, .ref a0), (1, .int x1)]) C 2 dX12_worse_36 rfl rfl (by decide) rfl ?_
    refine e_goto (tgt := 17) C dX12_worse_39 (by decide) ?_
    refine e_pick [1, 2, 0] rfl ?_
    exact hK17 ((v2 + 1), M11) h13
set_option maxHeartbeats 4000000 in
set_option maxRecDepth 100000 in
theorem w_X12_worse_L17 {p : Program} {l : Launch} {e : Env} {s : State} {m : MethodId} {args : Array Value} {below : List Frame} {meth : Method} {c : Code} {g : Geo} (C : Cx p s m args c cX12_worse RX12 4 g) (hr : meth.sig.returnType = (some .int)) (hlk : meth.locks = false) {a0 : Nat} {x1 : Int32} {v2 : Int32} {M : Mem} {Q : Int32 → Mem → Prop} (h : f_X12_worse_L17 a0 x1 v2 M Q) : E p l e (rmO 7 0 0) s m args below meth c g 4 (MQ below (QcM g (rI Q)) args s 0 0 (gA g)) 0 0 17 [(0, .ref a0), (1, .int x1), (2, .int v2)] [] M := by
  unfold f_X12_worse_L17 at h
  refine loop_E (W := fun z : Int32 × Mem => E p l e (rmO 7 0 0) s m args below meth c g 4 (MQ below (QcM g (rI Q)) args s 0 0 (gA g)) 0 0 17 [(0, .ref a0), (1, .int x1), (2, .int z.1)] [] (z.2)) h (fun K z hK h => ?_)
  exact w_X12_worse_B17 C hr hlk hK h
set_option maxHeartbeats 4000000 in
set_option maxRecDepth 100000 in
theorem w_X12_worse {p : Program} {l : Launch} {e : Env} {s : State} {m : MethodId} {args : Array Value} {below : List Frame} {meth : Method} {c : Code} {g : Geo} (C : Cx p s m args c cX12_worse RX12 4 g) (hr : meth.sig.returnType = (some .int)) (hlk : meth.locks = false) {a0 : Nat} {x1 : Int32} {M : Mem} {Q : Int32 → Mem → Prop} (h : f_X12_worse a0 x1 M Q) : E p l e (rmO 7 0 0) s m args below meth c g 4 (MQ below (QcM g (rI Q)) args s 0 0 (gA g)) 0 0 0 [(0, .ref a0), (1, .int x1)] [] M := by
  unfold f_X12_worse at h
  refine e_aload_n C 0 dX12_worse_0 rfl rfl ?_
  refine e_iload_n C 1 dX12_worse_1 rfl rfl ?_
  obtain ⟨o3, h⟩ := h
  refine e_callV (as := [.int x1]) C wb_X12_isOrder wv_X12_294 (ci := 12) rfl rfl (isO_1 o3) (m_X12_isOrder h) rfl ⟨Nat.le_of_ble_eq_true rfl, Nat.le_of_ble_eq_true rfl⟩ ⟨Nat.le_of_ble_eq_true rfl, Nat.le_of_ble_eq_true rfl⟩ (by first | exact Nat.le_of_ble_eq_true rfl | (simp only [List.map_cons, List.map_nil, va_cat, List.sum_cons, List.sum_nil]; exact Nat.le_of_ble_eq_true rfl)) dX12_worse_2 (kZ (fun w1 M2 h9 => ?_))
  refine e_if_ne (tgt := 10) C dX12_worse_5 (by decide) (fun q4 => ?_) (fun q4 => ?_)
  · replace h9 := ite_t h9 (bi_t q4)
    refine e_aload_n C 0 dX12_worse_10 rfl rfl ?_
    refine e_iload_n C 1 dX12_worse_11 rfl rfl ?_
    obtain ⟨o7, h9⟩ := h9
    refine e_callV (as := [.int x1]) C wb_X12_goPlainly wv_X12_329 (ci := 12) rfl rfl (isO_1 o7) (m_X12_goPlainly h9) rfl ⟨Nat.le_of_ble_eq_true rfl, Nat.le_of_ble_eq_true rfl⟩ ⟨Nat.le_of_ble_eq_true rfl, Nat.le_of_ble_eq_true rfl⟩ (by first | exact Nat.le_of_ble_eq_true rfl | (simp only [List.map_cons, List.map_nil, va_cat, List.sum_cons, List.sum_nil]; exact Nat.le_of_ble_eq_true rfl)) dX12_worse_12 (kV (fun M6 h8 => ?_))
    refine e_iconst (v := 0) C dX12_worse_15 (by decide) ?_
    refine e_istore_n (al' := [(2, .int (0 : Int32)), (0, .ref a0), (1, .int x1)]) C dX12_worse_16 rfl (by decide) rfl ?_
    refine e_pick [1, 2, 0] rfl ?_
    exact w_X12_worse_L17 C hr hlk h8
  · replace h9 := ite_f h9 (bi_ne q4)
    refine e_iconst (v := -1) C dX12_worse_8 (by decide) ?_
    exact e_iret C hr hlk (Nat.le_refl _) (Nat.le_refl _) dX12_worse_9 ⟨_, rfl, h9⟩
theorem m_X12_worse  {a0 : Nat} {x1 : Int32} {M : Mem} {Q : Int32 → Mem → Prop} (h : f_X12_worse a0 x1 M Q) : Con yX12_worse cX12_worse 4 (some .int) 7 0 0 [.ref a0, .int x1] M (rI Q) :=
  con_of2 (al := [(0, .ref a0), (1, .int x1)]) (by decide) (by exact Nat.le_of_ble_eq_true rfl) (by rfl) (fun p l e s m args below meth c g C hr hlk _ => w_X12_worse C hr hlk h)
set_option maxHeartbeats 4000000 in
set_option maxRecDepth 100000 in
theorem w_X12_loss {p : Program} {l : Launch} {e : Env} {s : State} {m : MethodId} {args : Array Value} {below : List Frame} {meth : Method} {c : Code} {g : Geo} (C : Cx p s m args c cX12_loss RX12 3 g) (hr : meth.sig.returnType = (some .int)) (hlk : meth.locks = false) {a0 : Nat} {x1 : Int32} {x2 : Int32} {M : Mem} {Q : Int32 → Mem → Prop} (h : f_X12_loss a0 x1 x2 M Q) : E p l e (rmO 7 0 0) s m args below meth c g 3 (MQ below (QcM g (rI Q)) args s 0 0 (gA g)) 0 0 0 [(0, .ref a0), (1, .int x1), (2, .int x2)] [] M := by
  unfold f_X12_loss at h
  refine e_aload_n C 0 dX12_loss_0 rfl rfl ?_
  refine e_iload_n C 1 dX12_loss_1 rfl rfl ?_
  obtain ⟨o3, h⟩ := h
  refine e_callV (as := [.int x1]) C wb_X12_isOrder wv_X12_294 (ci := 12) rfl rfl (isO_1 o3) (m_X12_isOrder h) rfl ⟨Nat.le_of_ble_eq_true rfl, Nat.le_of_ble_eq_true rfl⟩ ⟨Nat.le_of_ble_eq_true rfl, Nat.le_of_ble_eq_true rfl⟩ (by first | exact Nat.le_of_ble_eq_true rfl | (simp only [List.map_cons, List.map_nil, va_cat, List.sum_cons, List.sum_nil]; exact Nat.le_of_ble_eq_true rfl)) dX12_loss_2 (kZ (fun w1 M2 h18 => ?_))
  refine e_if_eq (tgt := 16) C dX12_loss_5 (by decide) (fun q4 => ?_) (fun q4 => ?_)
  · replace h18 := ite_f h18 (bi_ne q4)
    refine e_iconst (v := -1) C dX12_loss_16 (by decide) ?_
    exact e_iret C hr hlk (Nat.le_refl _) (Nat.le_refl _) dX12_loss_17 ⟨_, rfl, h18⟩
  · replace h18 := ite_t h18 (bi_t q4)
    refine e_aload_n C 0 dX12_loss_8 rfl rfl ?_
    refine e_iload_n C 2 dX12_loss_9 rfl rfl ?_
    obtain ⟨o7, h18⟩ := h18
    refine e_callV (as := [.int x2]) C wb_X12_isSort wv_X12_219 (ci := 12) rfl rfl (isO_1 o7) (m_X12_isSort h18) rfl ⟨Nat.le_of_ble_eq_true rfl, Nat.le_of_ble_eq_true rfl⟩ ⟨Nat.le_of_ble_eq_true rfl, Nat.le_of_ble_eq_true rfl⟩ (by first | exact Nat.le_of_ble_eq_true rfl | (simp only [List.map_cons, List.map_nil, va_cat, List.sum_cons, List.sum_nil]; exact Nat.le_of_ble_eq_true rfl)) dX12_loss_10 (kZ (fun w5 M6 h17 => ?_))
    refine e_if_ne (tgt := 18) C dX12_loss_13 (by decide) (fun q8 => ?_) (fun q8 => ?_)
    · replace h17 := ite_t h17 (bi_t q8)
      refine e_aload_n C 0 dX12_loss_18 rfl rfl ?_
      refine e_iload_n C 1 dX12_loss_19 rfl rfl ?_
      obtain ⟨o11, h17⟩ := h17
      refine e_callV (as := [.int x1]) C wb_X12_goPlainly wv_X12_329 (ci := 12) rfl rfl (isO_1 o11) (m_X12_goPlainly h17) rfl ⟨Nat.le_of_ble_eq_true rfl, Nat.le_of_ble_eq_true rfl⟩ ⟨Nat.le_of_ble_eq_true rfl, Nat.le_of_ble_eq_true rfl⟩ (by first | exact Nat.le_of_ble_eq_true rfl | (simp only [List.map_cons, List.map_nil, va_cat, List.sum_cons, List.sum_nil]; exact Nat.le_of_ble_eq_true rfl)) dX12_loss_20 (kV (fun M10 h16 => ?_))
      refine e_aload_n C 0 dX12_loss_23 rfl rfl ?_
      refine e_iload_n C 2 dX12_loss_24 rfl rfl ?_
      obtain ⟨o14, h16⟩ := h16
      refine e_callV (as := [.int x2]) C wb_X12_lossOf wv_X12_341 (ci := 12) rfl rfl (isO_1 o14) (m_X12_lossOf h16) rfl ⟨Nat.le_of_ble_eq_true rfl, Nat.le_of_ble_eq_true rfl⟩ ⟨Nat.le_of_ble_eq_true rfl, Nat.le_of_ble_eq_true rfl⟩ (by first | exact Nat.le_of_ble_eq_true rfl | (simp only [List.map_cons, List.map_nil, va_cat, List.sum_cons, List.sum_nil]; exact Nat.le_of_ble_eq_true rfl)) dX12_loss_25 (kI (fun w12 M13 h15 => ?_))
      exact e_iret C hr hlk (Nat.le_refl _) (Nat.le_refl _) dX12_loss_28 ⟨_, rfl, h15⟩
    · replace h17 := ite_f h17 (bi_ne q8)
      refine e_iconst (v := -1) C dX12_loss_16 (by decide) ?_
      exact e_iret C hr hlk (Nat.le_refl _) (Nat.le_refl _) dX12_loss_17 ⟨_, rfl, h17⟩
theorem m_X12_loss  {a0 : Nat} {x1 : Int32} {x2 : Int32} {M : Mem} {Q : Int32 → Mem → Prop} (h : f_X12_loss a0 x1 x2 M Q) : Con yX12_loss cX12_loss 3 (some .int) 7 0 0 [.ref a0, .int x1, .int x2] M (rI Q) :=
  con_of2 (al := [(0, .ref a0), (1, .int x1), (2, .int x2)]) (by decide) (by exact Nat.le_of_ble_eq_true rfl) (by rfl) (fun p l e s m args below meth c g C hr hlk _ => w_X12_loss C hr hlk h)
set_option maxHeartbeats 4000000 in
set_option maxRecDepth 100000 in
theorem w_X12_slow {p : Program} {l : Launch} {e : Env} {s : State} {m : MethodId} {args : Array Value} {below : List Frame} {meth : Method} {c : Code} {g : Geo} (C : Cx p s m args c cX12_slow RX12 4 g) (hr : meth.sig.returnType = (some .int)) (hlk : meth.locks = false) {a0 : Nat} {x1 : Int32} {x2 : Int32} {M : Mem} {Q : Int32 → Mem → Prop} (h : f_X12_slow a0 x1 x2 M Q) : E p l e (rmO 7 0 0) s m args below meth c g 4 (MQ below (QcM g (rI Q)) args s 0 0 (gA g)) 0 0 0 [(0, .ref a0), (1, .int x1), (2, .int x2)] [] M := by
  unfold f_X12_slow at h
  refine e_aload_n C 0 dX12_slow_0 rfl rfl ?_
  refine e_iload_n C 1 dX12_slow_1 rfl rfl ?_
  obtain ⟨o3, h⟩ := h
  refine e_callV (as := [.int x1]) C wb_X12_isOrder wv_X12_294 (ci := 12) rfl rfl (isO_1 o3) (m_X12_isOrder h) rfl ⟨Nat.le_of_ble_eq_true rfl, Nat.le_of_ble_eq_true rfl⟩ ⟨Nat.le_of_ble_eq_true rfl, Nat.le_of_ble_eq_true rfl⟩ (by first | exact Nat.le_of_ble_eq_true rfl | (simp only [List.map_cons, List.map_nil, va_cat, List.sum_cons, List.sum_nil]; exact Nat.le_of_ble_eq_true rfl)) dX12_slow_2 (kZ (fun w1 M2 h30 => ?_))
  refine e_if_ne (tgt := 12) C dX12_slow_5 (by decide) (fun q4 => ?_) (fun q4 => ?_)
  · replace h30 := ite_t h30 (bi_t q4)
    refine e_aload_n C 0 dX12_slow_12 rfl rfl ?_
    refine e_iload_n C 2 dX12_slow_13 rfl rfl ?_
    refine e_iconst (v := 1) C dX12_slow_14 (by decide) ?_
    refine e_bipush (v := 9) C dX12_slow_15 (by decide) ?_
    obtain ⟨o7, h30⟩ := h30
    refine e_callV (as := [.int x2, .int (1 : Int32), .int (9 : Int32)]) C wb_X12_in wv_X12_215 (ci := 12) rfl rfl (isO_1 o7) (m_X12_in h30) rfl ⟨Nat.le_of_ble_eq_true rfl, Nat.le_of_ble_eq_true rfl⟩ ⟨Nat.le_of_ble_eq_true rfl, Nat.le_of_ble_eq_true rfl⟩ (by first | exact Nat.le_of_ble_eq_true rfl | (simp only [List.map_cons, List.map_nil, va_cat, List.sum_cons, List.sum_nil]; exact Nat.le_of_ble_eq_true rfl)) dX12_slow_17 (kZ (fun w5 M6 h29 => ?_))
    refine e_if_ne (tgt := 27) C dX12_slow_20 (by decide) (fun q8 => ?_) (fun q8 => ?_)
    · replace h29 := ite_t h29 (bi_t q8)
      refine e_aload_n C 0 dX12_slow_27 rfl rfl ?_
      refine e_iload_n C 1 dX12_slow_28 rfl rfl ?_
      obtain ⟨o11, h29⟩ := h29
      refine e_callV (as := [.int x1]) C wb_X12_goPlainly wv_X12_329 (ci := 12) rfl rfl (isO_1 o11) (m_X12_goPlainly h29) rfl ⟨Nat.le_of_ble_eq_true rfl, Nat.le_of_ble_eq_true rfl⟩ ⟨Nat.le_of_ble_eq_true rfl, Nat.le_of_ble_eq_true rfl⟩ (by first | exact Nat.le_of_ble_eq_true rfl | (simp only [List.map_cons, List.map_nil, va_cat, List.sum_cons, List.sum_nil]; exact Nat.le_of_ble_eq_true rfl)) dX12_slow_29 (kV (fun M10 h28 => ?_))
      refine e_aload_n C 0 dX12_slow_32 rfl rfl ?_
      obtain ⟨o14, h28⟩ := h28
      refine e_callV (as := []) C wb_X12_pence wv_X12_338 (ci := 12) rfl rfl (isO_1 o14) (m_X12_pence h28) rfl ⟨Nat.le_of_ble_eq_true rfl, Nat.le_of_ble_eq_true rfl⟩ ⟨Nat.le_of_ble_eq_true rfl, Nat.le_of_ble_eq_true rfl⟩ (by first | exact Nat.le_of_ble_eq_true rfl | (simp only [List.map_cons, List.map_nil, va_cat, List.sum_cons, List.sum_nil]; exact Nat.le_of_ble_eq_true rfl)) dX12_slow_33 (kI (fun w12 M13 h27 => ?_))
      refine e_istore_n (al' := [(3, .int w12), (0, .ref a0), (1, .int x1), (2, .int x2)]) C dX12_slow_36 rfl (by decide) rfl ?_
      refine e_aload_n C 1 dX12_slow_37 rfl rfl ?_
      refine e_iload_n C 2 dX12_slow_38 rfl rfl ?_
      refine e_aload_n C 1 dX12_slow_39 rfl rfl ?_
      refine e_iconst (v := 0) C dX12_slow_40 (by decide) ?_
      obtain ⟨o17, h27⟩ := h27
      refine e_callV (as := [.int (0 : Int32)]) C wb_X12_told wv_X12_312 (ci := 12) rfl rfl (isO_1 o17) (m_X12_told h27) rfl ⟨Nat.le_of_ble_eq_true rfl, Nat.le_of_ble_eq_true rfl⟩ ⟨Nat.le_of_ble_eq_true rfl, Nat.le_of_ble_eq_true rfl⟩ (by first | exact Nat.le_of_ble_eq_true rfl | (simp only [List.map_cons, List.map_nil, va_cat, List.sum_cons, List.sum_nil]; exact Nat.le_of_ble_eq_true rfl)) dX12_slow_41 (kI (fun w15 M16 h26 => ?_))
      refine e_iload_n C 3 dX12_slow_44 rfl rfl ?_
      refine e_iconst (v := 0) C dX12_slow_45 (by decide) ?_
      obtain ⟨o20, h26⟩ := h26
      refine e_callV (as := [.int x1, .int w15, .int x2, .int (0 : Int32)]) C wb_X12_go wv_X12_325 (ci := 12) rfl rfl (isO_1 o20) (m_X12_go h26) rfl ⟨Nat.le_of_ble_eq_true rfl, Nat.le_of_ble_eq_true rfl⟩ ⟨Nat.le_of_ble_eq_true rfl, Nat.le_of_ble_eq_true rfl⟩ (by first | exact Nat.le_of_ble_eq_true rfl | (simp only [List.map_cons, List.map_nil, va_cat, List.sum_cons, List.sum_nil]; exact Nat.le_of_ble_eq_true rfl)) dX12_slow_46 (kV (fun M19 h25 => ?_))
      refine e_aload_n C 1 dX12_slow_49 rfl rfl ?_
      obtain ⟨o23, h25⟩ := h25
      refine e_callV (as := []) C wb_X12_pence wv_X12_338 (ci := 12) rfl rfl (isO_1 o23) (m_X12_pence h25) rfl ⟨Nat.le_of_ble_eq_true rfl, Nat.le_of_ble_eq_true rfl⟩ ⟨Nat.le_of_ble_eq_true rfl, Nat.le_of_ble_eq_true rfl⟩ (by first | exact Nat.le_of_ble_eq_true rfl | (simp only [List.map_cons, List.map_nil, va_cat, List.sum_cons, List.sum_nil]; exact Nat.le_of_ble_eq_true rfl)) dX12_slow_50 (kI (fun w21 M22 h24 => ?_))
      refine e_iload_n C 0 dX12_slow_53 rfl rfl ?_
      refine e_isub C dX12_slow_54 ?_
      exact e_iret C hr hlk (Nat.le_refl _) (Nat.le_refl _) dX12_slow_55 ⟨_, rfl, h24⟩
    · replace h29 := ite_f h29 (bi_ne q8)
      refine e_ldcw (v := -100002) C wd_1410 dX12_slow_23 ?_
      exact e_iret C hr hlk (Nat.le_refl _) (Nat.le_refl _) dX12_slow_26 ⟨_, rfl, h29⟩
  · replace h30 := ite_f h30 (bi_ne q4)
    refine e_ldcw (v := -100001) C wd_1409 dX12_slow_8 ?_
    exact e_iret C hr hlk (Nat.le_refl _) (Nat.le_refl _) dX12_slow_11 ⟨_, rfl, h30⟩
theorem m_X12_slow  {a0 : Nat} {x1 : Int32} {x2 : Int32} {M : Mem} {Q : Int32 → Mem → Prop} (h : f_X12_slow a0 x1 x2 M Q) : Con yX12_slow cX12_slow 4 (some .int) 7 0 0 [.ref a0, .int x1, .int x2] M (rI Q) :=
  con_of2 (al := [(0, .ref a0), (1, .int x1), (2, .int x2)]) (by decide) (by exact Nat.le_of_ble_eq_true rfl) (by rfl) (fun p l e s m args below meth c g C hr hlk _ => w_X12_slow C hr hlk h)
set_option maxHeartbeats 4000000 in
set_option maxRecDepth 100000 in
theorem w_X12_early_J140 {p : Program} {l : Launch} {e : Env} {s : State} {m : MethodId} {args : Array Value} {below : List Frame} {meth : Method} {c : Code} {g : Geo} (C : Cx p s m args c cX12_early RX12 8 g) (hr : meth.sig.returnType = (some .int)) (hlk : meth.locks = false) {a0 : Nat} {x1 : Int32} {x2 : Int32} {x3 : Int32} {v4 : Int32} {v5 : Int32} {v6 : Int32} {M : Mem} {K66 : Int32 × Int32 × Int32 × Mem → Prop} {Q : Int32 → Mem → Prop} (hK66 : ∀ z : Int32 × Int32 × Int32 × Mem, K66 z → E p l e (rmO 7 0 0) s m args below meth c g 8 (MQ below (QcM g (rI Q)) args s 0 0 (gA g)) 0 0 66 [(0, .ref a0), (1, .int x1), (2, .int x2), (3, .int x3), (4, .int z.1), (5, .int z.2.1), (6, .int z.2.2.1)] [] (z.2.2.2)) (h : f_X12_early_J140 a0 x1 x2 x3 v4 v5 v6 M K66 Q) : E p l e (rmO 7 0 0) s m args below meth c g 8 (MQ below (QcM g (rI Q)) args s 0 0 (gA g)) 0 0 140 [(0, .ref a0), (1, .int x1), (2, .int x2), (3, .int x3), (4, .int v4), (5, .int v5), (6, .int v6)] [] M := by
  unfold f_X12_early_J140 at h
  refine e_iinc (v := (v6 + 1)) (al' := [(6, .int (v6 + 1)), (0, .ref a0), (1, .int x1), (2, .int x2), (3, .int x3), (4, .int v4), (5, .int v5)]) C 6 dX12_early_140 rfl rfl (by decide) rfl ?_
  refine e_goto (tgt := 66) C dX12_early_143 (by decide) ?_
  refine e_pick [1, 2, 3, 4, 5, 6, 0] rfl ?_
  exact hK66 (v4, v5, (v6 + 1), M) h
set_option maxHeartbeats 4000000 in
set_option maxRecDepth 100000 in
theorem w_X12_early_J132 {p : Program} {l : Launch} {e : Env} {s : State} {m : MethodId} {args : Array Value} {below : List Frame} {meth : Method} {c : Code} {g : Geo} (C : Cx p s m args c cX12_early RX12 8 g) (hr : meth.sig.returnType = (some .int)) (hlk : meth.locks = false) {a0 : Nat} {x1 : Int32} {x2 : Int32} {x3 : Int32} {v6 : Int32} {v7 : Int32} {M : Mem} {K66 : Int32 × Int32 × Int32 × Mem → Prop} {Q : Int32 → Mem → Prop} (hK66 : ∀ z : Int32 × Int32 × Int32 × Mem, K66 z → E p l e (rmO 7 0 0) s m args below meth c g 8 (MQ below (QcM g (rI Q)) args s 0 0 (gA g)) 0 0 66 [(0, .ref a0), (1, .int x1), (2, .int x2), (3, .int x3), (4, .int z.1), (5, .int z.2.1), (6, .int z.2.2.1)] [] (z.2.2.2)) (h : f_X12_early_J132 a0 x1 x2 x3 v6 v7 M K66 Q) : E p l e (rmO 7 0 0) s m args below meth c g 8 (MQ below (QcM g (rI Q)) args s 0 0 (gA g)) 0 0 132 [(0, .ref a0), (1, .int x1), (2, .int x2), (3, .int x3), (6, .int v6), (7, .int v7)] [] M := by
  unfold f_X12_early_J132 at h
  refine e_iload C 5 dX12_early_132 rfl ?_
  refine e_istore (al' := [(5, .int v7), (0, .ref a0), (1, .int x1), (2, .int x2), (3, .int x3), (6, .int v6), (7, .int v7)]) C dX12_early_134 (by decide) rfl ?_
  refine e_iload C 5 dX12_early_136 rfl ?_
  refine e_istore (al' := [(4, .int v6), (5, .int v7), (0, .ref a0), (1, .int x1), (2, .int x2), (3, .int x3), (6, .int v6), (7, .int v7)]) C dX12_early_138 (by decide) rfl ?_
  refine e_pick [2, 3, 4, 5, 0, 1, 6] rfl ?_
  exact w_X12_early_J140 C hr hlk hK66 h
set_option maxHeartbeats 4000000 in
set_option maxRecDepth 100000 in
theorem w_X12_early_J110 {p : Program} {l : Launch} {e : Env} {s : State} {m : MethodId} {args : Array Value} {below : List Frame} {meth : Method} {c : Code} {g : Geo} (C : Cx p s m args c cX12_early RX12 8 g) (hr : meth.sig.returnType = (some .int)) (hlk : meth.locks = false) {a0 : Nat} {x1 : Int32} {x2 : Int32} {x3 : Int32} {v4 : Int32} {v5 : Int32} {v6 : Int32} {t0 : Int32} {M : Mem} {K66 : Int32 × Int32 × Int32 × Mem → Prop} {Q : Int32 → Mem → Prop} (hK66 : ∀ z : Int32 × Int32 × Int32 × Mem, K66 z → E p l e (rmO 7 0 0) s m args below meth c g 8 (MQ below (QcM g (rI Q)) args s 0 0 (gA g)) 0 0 66 [(0, .ref a0), (1, .int x1), (2, .int x2), (3, .int x3), (4, .int z.1), (5, .int z.2.1), (6, .int z.2.2.1)] [] (z.2.2.2)) (h : f_X12_early_J110 a0 x1 x2 x3 v4 v5 v6 t0 M K66 Q) : E p l e (rmO 7 0 0) s m args below meth c g 8 (MQ below (QcM g (rI Q)) args s 0 0 (gA g)) 0 0 110 [(0, .ref a0), (1, .int x1), (2, .int x2), (3, .int x3), (4, .int v4), (5, .int v5), (6, .int v6)] [.int t0] M := by
  unfold f_X12_early_J110 at h
  refine e_istore (al' := [(7, .int t0), (0, .ref a0), (1, .int x1), (2, .int x2), (3, .int x3), (4, .int v4), (5, .int v5), (6, .int v6)]) C dX12_early_110 (by decide) rfl ?_
  refine e_iload C 0 dX12_early_112 rfl ?_
  refine e_if_lt (tgt := 140) C dX12_early_114 (by decide) (fun q1 => ?_) (fun q1 => ?_)
  · replace h := ite_t h q1
    refine e_pick [1, 2, 3, 4, 5, 6, 7] rfl ?_
    exact w_X12_early_J140 C hr hlk hK66 h
  · replace h := ite_f h q1
    refine e_iload C 6 dX12_early_117 rfl ?_
    refine e_if_lt (tgt := 132) C dX12_early_119 (by decide) (fun q2 => ?_) (fun q2 => ?_)
    · replace h := ite_t h q2
      refine e_pick [1, 2, 3, 4, 7, 0] rfl ?_
      exact w_X12_early_J132 C hr hlk hK66 h
    · replace h := ite_f h q2
      refine e_iload C 0 dX12_early_122 rfl ?_
      refine e_iload C 6 dX12_early_124 rfl ?_
      refine e_icmp_lt (tgt := 132) C dX12_early_126 (by decide) (fun q3 => ?_) (fun q3 => ?_)
      · replace h := ite_t h q3
        refine e_pick [1, 2, 3, 4, 7, 0] rfl ?_
        exact w_X12_early_J132 C hr hlk hK66 h
      · replace h := ite_f h q3
        refine e_goto (tgt := 140) C dX12_early_129 (by decide) ?_
        refine e_pick [1, 2, 3, 4, 5, 6, 7] rfl ?_
        exact w_X12_early_J140 C hr hlk hK66 h
set_option maxHeartbeats 4000000 in
set_option maxRecDepth 100000 in
theorem w_X12_early_B66 {p : Program} {l : Launch} {e : Env} {s : State} {m : MethodId} {args : Array Value} {below : List Frame} {meth : Method} {c : Code} {g : Geo} (C : Cx p s m args c cX12_early RX12 8 g) (hr : meth.sig.returnType = (some .int)) (hlk : meth.locks = false) {a0 : Nat} {x1 : Int32} {x2 : Int32} {x3 : Int32} {v4 : Int32} {v5 : Int32} {v6 : Int32} {M : Mem} {K66 : Int32 × Int32 × Int32 × Mem → Prop} {Q : Int32 → Mem → Prop} (hK66 : ∀ z : Int32 × Int32 × Int32 × Mem, K66 z → E p l e (rmO 7 0 0) s m args below meth c g 8 (MQ below (QcM g (rI Q)) args s 0 0 (gA g)) 0 0 66 [(0, .ref a0), (1, .int x1), (2, .int x2), (3, .int x3), (4, .int z.1), (5, .int z.2.1), (6, .int z.2.2.1)] [] (z.2.2.2)) (h : f_X12_early_B66 a0 x1 x2 x3 v4 v5 v6 M K66 Q) : E p l e (rmO 7 0 0) s m args below meth c g 8 (MQ below (QcM g (rI Q)) args s 0 0 (gA g)) 0 0 66 [(0, .ref a0), (1, .int x1), (2, .int x2), (3, .int x3), (4, .int v4), (5, .int v5), (6, .int v6)] [] M := by
  unfold f_X12_early_B66 at h
  refine e_iload C 6 dX12_early_66 rfl ?_
  refine e_bipush (v := 60) C dX12_early_68 (by decide) ?_
  refine e_icmp_ge (tgt := 146) C dX12_early_70 (by decide) (fun q1 => ?_) (fun q1 => ?_)
  · replace h := ite_t h q1
    refine e_aload_n C 0 dX12_early_146 rfl rfl ?_
    refine e_iconst (v := 0) C dX12_early_147 (by decide) ?_
    obtain ⟨o2, h⟩ := h
    refine e_putI C [12] 38 false (fun z => by cases z) fp_X12_126 o2 dX12_early_148 ?_
    refine nmE (fun M3 e4 => ?_)
    replace h := h M3 e4
    have o5 : isO M3 a0 [12] := by rw [e4]; exact o2
    refine e_iload_n C 3 dX12_early_151 rfl rfl ?_
    refine e_if_ne (tgt := 160) C dX12_early_152 (by decide) (fun q6 => ?_) (fun q6 => ?_)
    · replace h := ite_f h q6
      refine e_iload C 5 dX12_early_160 rfl ?_
      exact e_iret C hr hlk (Nat.le_refl _) (Nat.le_refl _) dX12_early_162 ⟨_, rfl, h⟩
    · replace h := ite_t h q6
      refine e_iload C 4 dX12_early_155 rfl ?_
      refine e_goto (tgt := 162) C dX12_early_157 (by decide) ?_
      exact e_iret C hr hlk (Nat.le_refl _) (Nat.le_refl _) dX12_early_162 ⟨_, rfl, h⟩
  · replace h := ite_f h q1
    refine e_aload_n C 0 dX12_early_73 rfl rfl ?_
    obtain ⟨o7, h⟩ := h
    refine e_getR C [12] 8 (fg_of fg_X12_35) o7 dX12_early_74 ?_
    refine e_aload_n C 0 dX12_early_77 rfl rfl ?_
    refine e_getI C [12] 1 (fg_of fg_X12_13) o7 dX12_early_78 ?_
    refine e_iload C 6 dX12_early_81 rfl ?_
    obtain ⟨b8, p9, h⟩ := h
    try rw [p9]
    obtain ⟨o10, h⟩ := h
    refine e_iast C o10 dX12_early_83 ?_
    refine nmE (fun M11 e12 => ?_)
    replace h := h M11 e12
    have o13 : isO M11 a0 [12] := by rw [e12]; exact o7
    have p14 : mP M11 a0 8 = some b8 := by rw [e12]; exact p9
    refine e_aload_n C 0 dX12_early_84 rfl rfl ?_
    refine e_iload_n C 1 dX12_early_85 rfl rfl ?_
    refine e_callV (as := [.int x1]) C wb_X12_goPlainly wv_X12_329 (ci := 12) rfl rfl (isO_1 o13) (m_X12_goPlainly h) rfl ⟨Nat.le_of_ble_eq_true rfl, Nat.le_of_ble_eq_true rfl⟩ ⟨Nat.le_of_ble_eq_true rfl, Nat.le_of_ble_eq_true rfl⟩ (by first | exact Nat.le_of_ble_eq_true rfl | (simp only [List.map_cons, List.map_nil, va_cat, List.sum_cons, List.sum_nil]; exact Nat.le_of_ble_eq_true rfl)) dX12_early_86 (kV (fun M16 h22 => ?_))
    refine e_aload_n C 0 dX12_early_89 rfl rfl ?_
    obtain ⟨o17, h22⟩ := h22
    refine e_getI C [12] 40 (fg_of fg_X12_132) o17 dX12_early_90 ?_
    refine e_if_ge (tgt := 101) C dX12_early_93 (by decide) (fun q18 => ?_) (fun q18 => ?_)
    · replace h22 := ite_t h22 q18
      refine e_aload_n C 0 dX12_early_101 rfl rfl ?_
      refine e_getR C [12] 45 (fg_of fg_X12_147) o17 dX12_early_102 ?_
      refine e_aload_n C 0 dX12_early_105 rfl rfl ?_
      refine e_getI C [12] 40 (fg_of fg_X12_132) o17 dX12_early_106 ?_
      obtain ⟨b19, p20, h22⟩ := h22
      try rw [p20]
      obtain ⟨o21, h22⟩ := h22
      refine e_iald C o21 dX12_early_109 ?_
      exact w_X12_early_J110 C hr hlk hK66 h22
    · replace h22 := ite_f h22 q18
      refine e_bipush (v := -5) C dX12_early_96 (by decide) ?_
      refine e_goto (tgt := 110) C dX12_early_98 (by decide) ?_
      exact w_X12_early_J110 C hr hlk hK66 h22
set_option maxHeartbeats 4000000 in
set_option maxRecDepth 100000 in
theorem w_X12_early_L66 {p : Program} {l : Launch} {e : Env} {s : State} {m : MethodId} {args : Array Value} {below : List Frame} {meth : Method} {c : Code} {g : Geo} (C : Cx p s m args c cX12_early RX12 8 g) (hr : meth.sig.returnType = (some .int)) (hlk : meth.locks = false) {a0 : Nat} {x1 : Int32} {x2 : Int32} {x3 : Int32} {v4 : Int32} {v5 : Int32} {v6 : Int32} {M : Mem} {Q : Int32 → Mem → Prop} (h : f_X12_early_L66 a0 x1 x2 x3 v4 v5 v6 M Q) : E p l e (rmO 7 0 0) s m args below meth c g 8 (MQ below (QcM g (rI Q)) args s 0 0 (gA g)) 0 0 66 [(0, .ref a0), (1, .int x1), (2, .int x2), (3, .int x3), (4, .int v4), (5, .int v5), (6, .int v6)] [] M := by
  unfold f_X12_early_L66 at h
  refine loop_E (W := fun z : Int32 × Int32 × Int32 × Mem => E p l e (rmO 7 0 0) s m args below meth c g 8 (MQ below (QcM g (rI Q)) args s 0 0 (gA g)) 0 0 66 [(0, .ref a0), (1, .int x1), (2, .int x2), (3, .int x3), (4, .int z.1), (5, .int z.2.1), (6, .int z.2.2.1)] [] (z.2.2.2)) h (fun K z hK h => ?_)
  exact w_X12_early_B66 C hr hlk hK h
set_option maxHeartbeats 4000000 in
set_option maxRecDepth 100000 in
theorem w_X12_early {p : Program} {l : Launch} {e : Env} {s : State} {m : MethodId} {args : Array Value} {below : List Frame} {meth : Method} {c : Code} {g : Geo} (C : Cx p s m args c cX12_early RX12 8 g) (hr : meth.sig.returnType = (some .int)) (hlk : meth.locks = false) {a0 : Nat} {x1 : Int32} {x2 : Int32} {x3 : Int32} {M : Mem} {Q : Int32 → Mem → Prop} (h : f_X12_early a0 x1 x2 x3 M Q) : E p l e (rmO 7 0 0) s m args below meth c g 8 (MQ below (QcM g (rI Q)) args s 0 0 (gA g)) 0 0 0 [(0, .ref a0), (1, .int x1), (2, .int x2), (3, .int x3)] [] M := by
  unfold f_X12_early at h
  refine e_aload_n C 0 dX12_early_0 rfl rfl ?_
  refine e_iload_n C 1 dX12_early_1 rfl rfl ?_
  obtain ⟨o3, h⟩ := h
  refine e_callV (as := [.int x1]) C wb_X12_isOrder wv_X12_294 (ci := 12) rfl rfl (isO_1 o3) (m_X12_isOrder h) rfl ⟨Nat.le_of_ble_eq_true rfl, Nat.le_of_ble_eq_true rfl⟩ ⟨Nat.le_of_ble_eq_true rfl, Nat.le_of_ble_eq_true rfl⟩ (by first | exact Nat.le_of_ble_eq_true rfl | (simp only [List.map_cons, List.map_nil, va_cat, List.sum_cons, List.sum_nil]; exact Nat.le_of_ble_eq_true rfl)) dX12_early_2 (kZ (fun w1 M2 h27 => ?_))
  refine e_if_eq (tgt := 26) C dX12_early_5 (by decide) (fun q4 => ?_) (fun q4 => ?_)
  · replace h27 := ite_f h27 (bi_ne q4)
    refine e_iconst (v := -1) C dX12_early_26 (by decide) ?_
    exact e_iret C hr hlk (Nat.le_refl _) (Nat.le_refl _) dX12_early_27 ⟨_, rfl, h27⟩
  · replace h27 := ite_t h27 (bi_t q4)
    refine e_aload_n C 0 dX12_early_8 rfl rfl ?_
    refine e_iload_n C 2 dX12_early_9 rfl rfl ?_
    obtain ⟨o7, h27⟩ := h27
    refine e_callV (as := [.int x2]) C wb_X12_isSort wv_X12_219 (ci := 12) rfl rfl (isO_1 o7) (m_X12_isSort h27) rfl ⟨Nat.le_of_ble_eq_true rfl, Nat.le_of_ble_eq_true rfl⟩ ⟨Nat.le_of_ble_eq_true rfl, Nat.le_of_ble_eq_true rfl⟩ (by first | exact Nat.le_of_ble_eq_true rfl | (simp only [List.map_cons, List.map_nil, va_cat, List.sum_cons, List.sum_nil]; exact Nat.le_of_ble_eq_true rfl)) dX12_early_10 (kZ (fun w5 M6 h26 => ?_))
    refine e_if_eq (tgt := 26) C dX12_early_13 (by decide) (fun q8 => ?_) (fun q8 => ?_)
    · replace h26 := ite_f h26 (bi_ne q8)
      refine e_iconst (v := -1) C dX12_early_26 (by decide) ?_
      exact e_iret C hr hlk (Nat.le_refl _) (Nat.le_refl _) dX12_early_27 ⟨_, rfl, h26⟩
    · replace h26 := ite_t h26 (bi_t q8)
      refine e_aload_n C 0 dX12_early_16 rfl rfl ?_
      refine e_iload_n C 3 dX12_early_17 rfl rfl ?_
      refine e_iconst (v := 0) C dX12_early_18 (by decide) ?_
      refine e_iconst (v := 1) C dX12_early_19 (by decide) ?_
      obtain ⟨o11, h26⟩ := h26
      refine e_callV (as := [.int x3, .int (0 : Int32), .int (1 : Int32)]) C wb_X12_in wv_X12_215 (ci := 12) rfl rfl (isO_1 o11) (m_X12_in h26) rfl ⟨Nat.le_of_ble_eq_true rfl, Nat.le_of_ble_eq_true rfl⟩ ⟨Nat.le_of_ble_eq_true rfl, Nat.le_of_ble_eq_true rfl⟩ (by first | exact Nat.le_of_ble_eq_true rfl | (simp only [List.map_cons, List.map_nil, va_cat, List.sum_cons, List.sum_nil]; exact Nat.le_of_ble_eq_true rfl)) dX12_early_20 (kZ (fun w9 M10 h25 => ?_))
      refine e_if_ne (tgt := 28) C dX12_early_23 (by decide) (fun q12 => ?_) (fun q12 => ?_)
      · replace h25 := ite_t h25 (bi_t q12)
        refine e_aload_n C 0 dX12_early_28 rfl rfl ?_
        obtain ⟨o13, h25⟩ := h25
        refine e_getI C [12] 1 (fg_of fg_X12_13) o13 dX12_early_29 ?_
        refine e_bipush (v := 12) C dX12_early_32 (by decide) ?_
        refine e_icmp_ne (tgt := 40) C dX12_early_34 (by decide) (fun q14 => ?_) (fun q14 => ?_)
        · replace h25 := ite_f h25 q14
          refine e_bipush (v := -5) C dX12_early_40 (by decide) ?_
          refine e_istore (al' := [(4, .int (-5 : Int32)), (0, .ref a0), (1, .int x1), (2, .int x2), (3, .int x3)]) C dX12_early_42 (by decide) rfl ?_
          refine e_bipush (v := -5) C dX12_early_44 (by decide) ?_
          refine e_istore (al' := [(5, .int (-5 : Int32)), (4, .int (-5 : Int32)), (0, .ref a0), (1, .int x1), (2, .int x2), (3, .int x3)]) C dX12_early_46 (by decide) rfl ?_
          refine e_aload_n C 2 dX12_early_48 rfl rfl ?_
          refine e_iconst (v := 1) C dX12_early_49 (by decide) ?_
          refine e_putI C [12] 38 false (fun z => by cases z) fp_X12_126 o13 dX12_early_50 ?_
          refine nmE (fun M15 e16 => ?_)
          replace h25 := h25 M15 e16
          have o17 : isO M15 a0 [12] := by rw [e16]; exact o13
          refine e_aload_n C 2 dX12_early_53 rfl rfl ?_
          refine e_getR C [12] 7 (fg_of fg_X12_32) o17 dX12_early_54 ?_
          refine e_aload_n C 2 dX12_early_57 rfl rfl ?_
          refine e_getI C [12] 1 (fg_of fg_X12_13) o17 dX12_early_58 ?_
          refine e_iload_n C 4 dX12_early_61 rfl rfl ?_
          obtain ⟨b18, p19, h25⟩ := h25
          try rw [p19]
          obtain ⟨o20, h25⟩ := h25
          refine e_iast C o20 dX12_early_62 ?_
          refine nmE (fun M21 e22 => ?_)
          replace h25 := h25 M21 e22
          have o23 : isO M21 a0 [12] := by rw [e22]; exact o17
          have p24 : mP M21 a0 7 = some b18 := by rw [e22]; exact p19
          refine e_iconst (v := 0) C dX12_early_63 (by decide) ?_
          refine e_istore (al' := [(6, .int (0 : Int32)), (5, .int (-5 : Int32)), (4, .int (-5 : Int32)), (0, .ref a0), (1, .int x1), (2, .int x2), (3, .int x3)]) C dX12_early_64 (by decide) rfl ?_
          refine e_pick [3, 4, 5, 6, 2, 1, 0] rfl ?_
          exact w_X12_early_L66 C hr hlk h25
        · replace h25 := ite_t h25 q14
          refine e_bipush (v := -4) C dX12_early_37 (by decide) ?_
          exact e_iret C hr hlk (Nat.le_refl _) (Nat.le_refl _) dX12_early_39 ⟨_, rfl, h25⟩
      · replace h25 := ite_f h25 (bi_ne q12)
        refine e_iconst (v := -1) C dX12_early_26 (by decide) ?_
        exact e_iret C hr hlk (Nat.le_refl _) (Nat.le_refl _) dX12_early_27 ⟨_, rfl, h25⟩
theorem m_X12_early  {a0 : Nat} {x1 : Int32} {x2 : Int32} {x3 : Int32} {M : Mem} {Q : Int32 → Mem → Prop} (h : f_X12_early a0 x1 x2 x3 M Q) : Con yX12_early cX12_early 8 (some .int) 7 0 0 [.ref a0, .int x1, .int x2, .int x3] M (rI Q) :=
  con_of2 (al := [(0, .ref a0), (1, .int x1), (2, .int x2), (3, .int x3)]) (by decide) (by exact Nat.le_of_ble_eq_true rfl) (by rfl) (fun p l e s m args below meth c g C hr hlk _ => w_X12_early C hr hlk h)
set_option maxHeartbeats 4000000 in
set_option maxRecDepth 100000 in
theorem w_X12_sell_J109 {p : Program} {l : Launch} {e : Env} {s : State} {m : MethodId} {args : Array Value} {below : List Frame} {meth : Method} {c : Code} {g : Geo} (C : Cx p s m args c cX12_sell RX12 6 g) (hr : meth.sig.returnType = (some .int)) (hlk : meth.locks = false) {a0 : Nat} {x1 : Int32} {v3 : Int32} {t0 : Int32} {t1 : Int32} {M : Mem} {K19 : Int32 × Int32 × Mem → Prop} {Q : Int32 → Mem → Prop} (hK19 : ∀ z : Int32 × Int32 × Mem, K19 z → E p l e (rmO 7 0 0) s m args below meth c g 6 (MQ below (QcM g (rI Q)) args s 0 0 (gA g)) 0 0 19 [(0, .ref a0), (1, .int x1), (2, .int z.1), (3, .int z.2.1)] [] (z.2.2)) (h : f_X12_sell_J109 a0 x1 v3 t0 t1 M K19 Q) : E p l e (rmO 7 0 0) s m args below meth c g 6 (MQ below (QcM g (rI Q)) args s 0 0 (gA g)) 0 0 109 [(0, .ref a0), (1, .int x1), (3, .int v3)] [.int t0, .int t1] M := by
  unfold f_X12_sell_J109 at h
  refine e_iadd C dX12_sell_109 ?_
  refine e_istore_n (al' := [(2, .int (t1 + t0)), (0, .ref a0), (1, .int x1), (3, .int v3)]) C dX12_sell_110 rfl (by decide) rfl ?_
  refine e_iinc (v := (v3 + 1)) (al' := [(3, .int (v3 + 1)), (2, .int (t1 + t0)), (0, .ref a0), (1, .int x1)]) C 3 dX12_sell_111 rfl rfl (by decide) rfl ?_
  refine e_goto (tgt := 19) C dX12_sell_114 (by decide) ?_
  refine e_pick [2, 3, 1, 0] rfl ?_
  exact hK19 ((t1 + t0), (v3 + 1), M) h
set_option maxHeartbeats 4000000 in
set_option maxRecDepth 100000 in
theorem w_X12_sell_J108 {p : Program} {l : Launch} {e : Env} {s : State} {m : MethodId} {args : Array Value} {below : List Frame} {meth : Method} {c : Code} {g : Geo} (C : Cx p s m args c cX12_sell RX12 6 g) (hr : meth.sig.returnType = (some .int)) (hlk : meth.locks = false) {a0 : Nat} {x1 : Int32} {v3 : Int32} {t0 : Int32} {M : Mem} {K19 : Int32 × Int32 × Mem → Prop} {Q : Int32 → Mem → Prop} (hK19 : ∀ z : Int32 × Int32 × Mem, K19 z → E p l e (rmO 7 0 0) s m args below meth c g 6 (MQ below (QcM g (rI Q)) args s 0 0 (gA g)) 0 0 19 [(0, .ref a0), (1, .int x1), (2, .int z.1), (3, .int z.2.1)] [] (z.2.2)) (h : f_X12_sell_J108 a0 x1 v3 t0 M K19 Q) : E p l e (rmO 7 0 0) s m args below meth c g 6 (MQ below (QcM g (rI Q)) args s 0 0 (gA g)) 0 0 108 [(0, .ref a0), (1, .int x1), (3, .int v3)] [.int t0] M := by
  unfold f_X12_sell_J108 at h
  refine e_iconst (v := 0) C dX12_sell_108 (by decide) ?_
  exact w_X12_sell_J109 C hr hlk hK19 h
set_option maxHeartbeats 4000000 in
set_option maxRecDepth 100000 in
theorem w_X12_sell_B19 {p : Program} {l : Launch} {e : Env} {s : State} {m : MethodId} {args : Array Value} {below : List Frame} {meth : Method} {c : Code} {g : Geo} (C : Cx p s m args c cX12_sell RX12 6 g) (hr : meth.sig.returnType = (some .int)) (hlk : meth.locks = false) {a0 : Nat} {x1 : Int32} {v2 : Int32} {v3 : Int32} {M : Mem} {K19 : Int32 × Int32 × Mem → Prop} {Q : Int32 → Mem → Prop} (hK19 : ∀ z : Int32 × Int32 × Mem, K19 z → E p l e (rmO 7 0 0) s m args below meth c g 6 (MQ below (QcM g (rI Q)) args s 0 0 (gA g)) 0 0 19 [(0, .ref a0), (1, .int x1), (2, .int z.1), (3, .int z.2.1)] [] (z.2.2)) (h : f_X12_sell_B19 a0 x1 v2 v3 M K19 Q) : E p l e (rmO 7 0 0) s m args below meth c g 6 (MQ below (QcM g (rI Q)) args s 0 0 (gA g)) 0 0 19 [(0, .ref a0), (1, .int x1), (2, .int v2), (3, .int v3)] [] M := by
  unfold f_X12_sell_B19 at h
  refine e_iload_n C 3 dX12_sell_19 rfl rfl ?_
  refine e_aload_n C 0 dX12_sell_20 rfl rfl ?_
  obtain ⟨o1, h⟩ := h
  refine e_getI C [12] 32 (fg_of fg_X12_108) o1 dX12_sell_21 ?_
  refine e_icmp_ge (tgt := 117) C dX12_sell_24 (by decide) (fun q2 => ?_) (fun q2 => ?_)
  · replace h := ite_t h q2
    refine e_iload_n C 2 dX12_sell_117 rfl rfl ?_
    exact e_iret C hr hlk (Nat.le_refl _) (Nat.le_refl _) dX12_sell_118 ⟨_, rfl, h⟩
  · replace h := ite_f h q2
    refine e_aload_n C 0 dX12_sell_27 rfl rfl ?_
    refine e_getR C [12] 50 (fg_of fg_X12_162) o1 dX12_sell_28 ?_
    refine e_iload_n C 3 dX12_sell_31 rfl rfl ?_
    refine e_iconst (v := 1) C dX12_sell_32 (by decide) ?_
    refine e_isub C dX12_sell_33 ?_
    obtain ⟨b3, p4, h⟩ := h
    try rw [p4]
    obtain ⟨o5, h⟩ := h
    refine e_iald C o5 dX12_sell_34 ?_
    refine e_istore (al' := [(4, .int (mI M b3 ((v3 - (1 : Int32))).toNatClampNeg)), (0, .ref a0), (1, .int x1), (2, .int v2), (3, .int v3)]) C dX12_sell_35 (by decide) rfl ?_
    refine e_aload_n C 1 dX12_sell_37 rfl rfl ?_
    refine e_getR C [12] 50 (fg_of fg_X12_162) o1 dX12_sell_38 ?_
    rw [p4]
    refine e_iload_n C 4 dX12_sell_41 rfl rfl ?_
    obtain ⟨o6, h⟩ := h
    refine e_iald C o6 dX12_sell_42 ?_
    refine e_istore (al' := [(5, .int (mI M b3 (v3).toNatClampNeg)), (4, .int (mI M b3 ((v3 - (1 : Int32))).toNatClampNeg)), (0, .ref a0), (1, .int x1), (2, .int v2), (3, .int v3)]) C dX12_sell_43 (by decide) rfl ?_
    refine e_iload_n C 4 dX12_sell_45 rfl rfl ?_
    refine e_aload_n C 2 dX12_sell_46 rfl rfl ?_
    refine e_getR C [12] 41 (fg_of fg_X12_135) o1 dX12_sell_47 ?_
    refine e_iload C 1 dX12_sell_50 rfl ?_
    obtain ⟨b7, p8, h⟩ := h
    try rw [p8]
    obtain ⟨o9, h⟩ := h
    refine e_iald C o9 dX12_sell_52 ?_
    refine e_aload_n C 2 dX12_sell_53 rfl rfl ?_
    refine e_getR C [12] 41 (fg_of fg_X12_135) o1 dX12_sell_54 ?_
    rw [p8]
    refine e_iload C 0 dX12_sell_57 rfl ?_
    obtain ⟨o10, h⟩ := h
    refine e_iald C o10 dX12_sell_59 ?_
    refine e_icmp_eq (tgt := 108) C dX12_sell_60 (by decide) (fun q11 => ?_) (fun q11 => ?_)
    · replace h := ite_t h q11
      refine e_pick [2, 3, 5] rfl ?_
      exact w_X12_sell_J108 C hr hlk hK19 h
    · replace h := ite_f h q11
      refine e_aload_n C 2 dX12_sell_63 rfl rfl ?_
      refine e_getR C [12] 2 (fg_of fg_X12_16) o1 dX12_sell_64 ?_
      refine e_aload_n C 2 dX12_sell_67 rfl rfl ?_
      refine e_getR C [12] 41 (fg_of fg_X12_135) o1 dX12_sell_68 ?_
      rw [p8]
      refine e_iload C 0 dX12_sell_71 rfl ?_
      obtain ⟨o12, h⟩ := h
      refine e_iald C o12 dX12_sell_73 ?_
      obtain ⟨b13, p14, h⟩ := h
      try rw [p14]
      obtain ⟨o15, h⟩ := h
      refine e_iald C o15 dX12_sell_74 ?_
      refine e_aload_n C 2 dX12_sell_75 rfl rfl ?_
      refine e_iload C 1 dX12_sell_76 rfl ?_
      refine e_callV (as := [.int (mI M b3 ((v3 - (1 : Int32))).toNatClampNeg)]) C wb_X12_timeOf wv_X12_297 (ci := 12) rfl rfl (isO_1 o1) (m_X12_timeOf h) rfl ⟨Nat.le_of_ble_eq_true rfl, Nat.le_of_ble_eq_true rfl⟩ ⟨Nat.le_of_ble_eq_true rfl, Nat.le_of_ble_eq_true rfl⟩ (by first | exact Nat.le_of_ble_eq_true rfl | (simp only [List.map_cons, List.map_nil, va_cat, List.sum_cons, List.sum_nil]; exact Nat.le_of_ble_eq_true rfl)) dX12_sell_78 (kI (fun w16 M17 h29 => ?_))
      refine e_imul C dX12_sell_81 ?_
      refine e_aload_n C 2 dX12_sell_82 rfl rfl ?_
      obtain ⟨o18, h29⟩ := h29
      refine e_getR C [12] 2 (fg_of fg_X12_16) o18 dX12_sell_83 ?_
      refine e_aload_n C 2 dX12_sell_86 rfl rfl ?_
      refine e_getR C [12] 41 (fg_of fg_X12_135) o18 dX12_sell_87 ?_
      refine e_iload C 1 dX12_sell_90 rfl ?_
      obtain ⟨b19, p20, h29⟩ := h29
      try rw [p20]
      obtain ⟨o21, h29⟩ := h29
      refine e_iald C o21 dX12_sell_92 ?_
      obtain ⟨b22, p23, h29⟩ := h29
      try rw [p23]
      obtain ⟨o24, h29⟩ := h29
      refine e_iald C o24 dX12_sell_93 ?_
      refine e_aload_n C 2 dX12_sell_94 rfl rfl ?_
      refine e_iload C 0 dX12_sell_95 rfl ?_
      refine e_callV (as := [.int (mI M b3 (v3).toNatClampNeg)]) C wb_X12_timeOf wv_X12_297 (ci := 12) rfl rfl (isO_1 o18) (m_X12_timeOf h29) rfl ⟨Nat.le_of_ble_eq_true rfl, Nat.le_of_ble_eq_true rfl⟩ ⟨Nat.le_of_ble_eq_true rfl, Nat.le_of_ble_eq_true rfl⟩ (by first | exact Nat.le_of_ble_eq_true rfl | (simp only [List.map_cons, List.map_nil, va_cat, List.sum_cons, List.sum_nil]; exact Nat.le_of_ble_eq_true rfl)) dX12_sell_97 (kI (fun w25 M26 h28 => ?_))
      refine e_imul C dX12_sell_100 ?_
      refine e_icmp_le (tgt := 108) C dX12_sell_101 (by decide) (fun q27 => ?_) (fun q27 => ?_)
      · replace h28 := ite_t h28 q27
        refine e_pick [2, 3, 5] rfl ?_
        exact w_X12_sell_J108 C hr hlk hK19 h28
      · replace h28 := ite_f h28 q27
        refine e_iconst (v := 1) C dX12_sell_104 (by decide) ?_
        refine e_goto (tgt := 109) C dX12_sell_105 (by decide) ?_
        refine e_pick [2, 3, 5] rfl ?_
        exact w_X12_sell_J109 C hr hlk hK19 h28
set_option maxHeartbeats 4000000 in
set_option maxRecDepth 100000 in
theorem w_X12_sell_L19 {p : Program} {l : Launch} {e : Env} {s : State} {m : MethodId} {args : Array Value} {below : List Frame} {meth : Method} {c : Code} {g : Geo} (C : Cx p s m args c cX12_sell RX12 6 g) (hr : meth.sig.returnType = (some .int)) (hlk : meth.locks = false) {a0 : Nat} {x1 : Int32} {v2 : Int32} {v3 : Int32} {M : Mem} {Q : Int32 → Mem → Prop} (h : f_X12_sell_L19 a0 x1 v2 v3 M Q) : E p l e (rmO 7 0 0) s m args below meth c g 6 (MQ below (QcM g (rI Q)) args s 0 0 (gA g)) 0 0 19 [(0, .ref a0), (1, .int x1), (2, .int v2), (3, .int v3)] [] M := by
  unfold f_X12_sell_L19 at h
  refine loop_E (W := fun z : Int32 × Int32 × Mem => E p l e (rmO 7 0 0) s m args below meth c g 6 (MQ below (QcM g (rI Q)) args s 0 0 (gA g)) 0 0 19 [(0, .ref a0), (1, .int x1), (2, .int z.1), (3, .int z.2.1)] [] (z.2.2)) h (fun K z hK h => ?_)
  exact w_X12_sell_B19 C hr hlk hK h
set_option maxHeartbeats 4000000 in
set_option maxRecDepth 100000 in
theorem w_X12_sell {p : Program} {l : Launch} {e : Env} {s : State} {m : MethodId} {args : Array Value} {below : List Frame} {meth : Method} {c : Code} {g : Geo} (C : Cx p s m args c cX12_sell RX12 6 g) (hr : meth.sig.returnType = (some .int)) (hlk : meth.locks = false) {a0 : Nat} {x1 : Int32} {M : Mem} {Q : Int32 → Mem → Prop} (h : f_X12_sell a0 x1 M Q) : E p l e (rmO 7 0 0) s m args below meth c g 6 (MQ below (QcM g (rI Q)) args s 0 0 (gA g)) 0 0 0 [(0, .ref a0), (1, .int x1)] [] M := by
  unfold f_X12_sell at h
  refine e_aload_n C 0 dX12_sell_0 rfl rfl ?_
  refine e_iload_n C 1 dX12_sell_1 rfl rfl ?_
  obtain ⟨o3, h⟩ := h
  refine e_callV (as := [.int x1]) C wb_X12_isOrder wv_X12_294 (ci := 12) rfl rfl (isO_1 o3) (m_X12_isOrder h) rfl ⟨Nat.le_of_ble_eq_true rfl, Nat.le_of_ble_eq_true rfl⟩ ⟨Nat.le_of_ble_eq_true rfl, Nat.le_of_ble_eq_true rfl⟩ (by first | exact Nat.le_of_ble_eq_true rfl | (simp only [List.map_cons, List.map_nil, va_cat, List.sum_cons, List.sum_nil]; exact Nat.le_of_ble_eq_true rfl)) dX12_sell_2 (kZ (fun w1 M2 h9 => ?_))
  refine e_if_ne (tgt := 10) C dX12_sell_5 (by decide) (fun q4 => ?_) (fun q4 => ?_)
  · replace h9 := ite_t h9 (bi_t q4)
    refine e_aload_n C 0 dX12_sell_10 rfl rfl ?_
    refine e_iload_n C 1 dX12_sell_11 rfl rfl ?_
    obtain ⟨o7, h9⟩ := h9
    refine e_callV (as := [.int x1]) C wb_X12_goPlainly wv_X12_329 (ci := 12) rfl rfl (isO_1 o7) (m_X12_goPlainly h9) rfl ⟨Nat.le_of_ble_eq_true rfl, Nat.le_of_ble_eq_true rfl⟩ ⟨Nat.le_of_ble_eq_true rfl, Nat.le_of_ble_eq_true rfl⟩ (by first | exact Nat.le_of_ble_eq_true rfl | (simp only [List.map_cons, List.map_nil, va_cat, List.sum_cons, List.sum_nil]; exact Nat.le_of_ble_eq_true rfl)) dX12_sell_12 (kV (fun M6 h8 => ?_))
    refine e_iconst (v := 0) C dX12_sell_15 (by decide) ?_
    refine e_istore_n (al' := [(2, .int (0 : Int32)), (0, .ref a0), (1, .int x1)]) C dX12_sell_16 rfl (by decide) rfl ?_
    refine e_iconst (v := 1) C dX12_sell_17 (by decide) ?_
    refine e_istore_n (al' := [(3, .int (1 : Int32)), (2, .int (0 : Int32)), (0, .ref a0), (1, .int x1)]) C dX12_sell_18 rfl (by decide) rfl ?_
    refine e_pick [2, 3, 1, 0] rfl ?_
    exact w_X12_sell_L19 C hr hlk h8
  · replace h9 := ite_f h9 (bi_ne q4)
    refine e_iconst (v := -1) C dX12_sell_8 (by decide) ?_
    exact e_iret C hr hlk (Nat.le_refl _) (Nat.le_refl _) dX12_sell_9 ⟨_, rfl, h9⟩
theorem m_X12_sell  {a0 : Nat} {x1 : Int32} {M : Mem} {Q : Int32 → Mem → Prop} (h : f_X12_sell a0 x1 M Q) : Con yX12_sell cX12_sell 6 (some .int) 7 0 0 [.ref a0, .int x1] M (rI Q) :=
  con_of2 (al := [(0, .ref a0), (1, .int x1)]) (by decide) (by exact Nat.le_of_ble_eq_true rfl) (by rfl) (fun p l e s m args below meth c g C hr hlk _ => w_X12_sell C hr hlk h)
set_option maxHeartbeats 4000000 in
set_option maxRecDepth 100000 in
theorem w_X12_divisor_B6 {p : Program} {l : Launch} {e : Env} {s : State} {m : MethodId} {args : Array Value} {below : List Frame} {meth : Method} {c : Code} {g : Geo} (C : Cx p s m args c cX12_divisor RX12 11 g) (hr : meth.sig.returnType = (some .long)) (hlk : meth.locks = false) {a0 : Nat} {y1 : Int64} {y3 : Int64} {v5 : Int64} {v7 : Int64} {M : Mem} {K6 : Int64 × Int64 × Mem → Prop} {Q : Int64 → Mem → Prop} (hK6 : ∀ z : Int64 × Int64 × Mem, K6 z → E p l e (rmO 1 0 0) s m args below meth c g 11 (MQ below (QcM g (rJ Q)) args s 0 0 (gA g)) 0 0 6 [(0, .ref a0), (1, .long y1), (3, .long y3), (5, .long z.1), (7, .long z.2.1)] [] (z.2.2)) (h : f_X12_divisor_B6 a0 y1 y3 v5 v7 M K6 Q) : E p l e (rmO 1 0 0) s m args below meth c g 11 (MQ below (QcM g (rJ Q)) args s 0 0 (gA g)) 0 0 6 [(0, .ref a0), (1, .long y1), (3, .long y3), (5, .long v5), (7, .long v7)] [] M := by
  unfold f_X12_divisor_B6 at h
  refine e_lload C 4 dX12_divisor_6 rfl ?_
  refine e_lconst (v := 0) C dX12_divisor_8 (by decide) ?_
  refine e_lcmp C dX12_divisor_9 ?_
  refine e_if_eq (tgt := 31) C dX12_divisor_10 (by decide) (fun q1 => ?_) (fun q1 => ?_)
  · replace h := ite_t h q1
    refine e_lload C 3 dX12_divisor_31 rfl ?_
    exact e_lret C hr hlk (Nat.le_refl _) (Nat.le_refl _) dX12_divisor_33 ⟨_, rfl, h⟩
  · replace h := ite_f h q1
    refine e_lload C 3 dX12_divisor_13 rfl ?_
    refine e_lload C 4 dX12_divisor_15 rfl ?_
    obtain ⟨n2, h⟩ := h
    refine e_lrem C dX12_divisor_17 n2 ?_
    refine e_lstore (al' := [(9, .long (v5 - v5 / v7 * v7)), (0, .ref a0), (1, .long y1), (3, .long y3), (5, .long v5), (7, .long v7)]) C dX12_divisor_18 (by decide) rfl ?_
    refine e_lload C 5 dX12_divisor_20 rfl ?_
    refine e_lstore (al' := [(5, .long v7), (9, .long (v5 - v5 / v7 * v7)), (0, .ref a0), (1, .long y1), (3, .long y3), (7, .long v7)]) C dX12_divisor_22 (by decide) rfl ?_
    refine e_lload C 1 dX12_divisor_24 rfl ?_
    refine e_lstore (al' := [(7, .long (v5 - v5 / v7 * v7)), (5, .long v7), (9, .long (v5 - v5 / v7 * v7)), (0, .ref a0), (1, .long y1), (3, .long y3)]) C dX12_divisor_26 (by decide) rfl ?_
    refine e_goto (tgt := 6) C dX12_divisor_28 (by decide) ?_
    refine e_pick [3, 4, 5, 1, 0] rfl ?_
    exact hK6 (v7, (v5 - v5 / v7 * v7), M) h
set_option maxHeartbeats 4000000 in
set_option maxRecDepth 100000 in
theorem w_X12_divisor_L6 {p : Program} {l : Launch} {e : Env} {s : State} {m : MethodId} {args : Array Value} {below : List Frame} {meth : Method} {c : Code} {g : Geo} (C : Cx p s m args c cX12_divisor RX12 11 g) (hr : meth.sig.returnType = (some .long)) (hlk : meth.locks = false) {a0 : Nat} {y1 : Int64} {y3 : Int64} {v5 : Int64} {v7 : Int64} {M : Mem} {Q : Int64 → Mem → Prop} (h : f_X12_divisor_L6 a0 y1 y3 v5 v7 M Q) : E p l e (rmO 1 0 0) s m args below meth c g 11 (MQ below (QcM g (rJ Q)) args s 0 0 (gA g)) 0 0 6 [(0, .ref a0), (1, .long y1), (3, .long y3), (5, .long v5), (7, .long v7)] [] M := by
  unfold f_X12_divisor_L6 at h
  refine loop_E (W := fun z : Int64 × Int64 × Mem => E p l e (rmO 1 0 0) s m args below meth c g 11 (MQ below (QcM g (rJ Q)) args s 0 0 (gA g)) 0 0 6 [(0, .ref a0), (1, .long y1), (3, .long y3), (5, .long z.1), (7, .long z.2.1)] [] (z.2.2)) h (fun K z hK h => ?_)
  exact w_X12_divisor_B6 C hr hlk hK h
set_option maxHeartbeats 4000000 in
set_option maxRecDepth 100000 in
theorem w_X12_divisor {p : Program} {l : Launch} {e : Env} {s : State} {m : MethodId} {args : Array Value} {below : List Frame} {meth : Method} {c : Code} {g : Geo} (C : Cx p s m args c cX12_divisor RX12 11 g) (hr : meth.sig.returnType = (some .long)) (hlk : meth.locks = false) {a0 : Nat} {y1 : Int64} {y3 : Int64} {M : Mem} {Q : Int64 → Mem → Prop} (h : f_X12_divisor a0 y1 y3 M Q) : E p l e (rmO 1 0 0) s m args below meth c g 11 (MQ below (QcM g (rJ Q)) args s 0 0 (gA g)) 0 0 0 [(0, .ref a0), (1, .long y1), (3, .long y3)] [] M := by
  unfold f_X12_divisor at h
  refine e_lload_n C 1 dX12_divisor_0 rfl rfl ?_
  refine e_lstore (al' := [(5, .long y1), (0, .ref a0), (1, .long y1), (3, .long y3)]) C dX12_divisor_1 (by decide) rfl ?_
  refine e_lload_n C 3 dX12_divisor_3 rfl rfl ?_
  refine e_lstore (al' := [(7, .long y3), (5, .long y1), (0, .ref a0), (1, .long y1), (3, .long y3)]) C dX12_divisor_4 (by decide) rfl ?_
  refine e_pick [2, 3, 4, 1, 0] rfl ?_
  exact w_X12_divisor_L6 C hr hlk h
theorem m_X12_divisor  {a0 : Nat} {y1 : Int64} {y3 : Int64} {M : Mem} {Q : Int64 → Mem → Prop} (h : f_X12_divisor a0 y1 y3 M Q) : Con yX12_divisor cX12_divisor 11 (some .long) 1 0 0 [.ref a0, .long y1, .long y3] M (rJ Q) :=
  con_of2 (al := [(0, .ref a0), (1, .long y1), (3, .long y3)]) (by decide) (by exact Nat.le_of_ble_eq_true rfl) (by rfl) (fun p l e s m args below meth c g C hr hlk _ => w_X12_divisor C hr hlk h)
set_option maxHeartbeats 4000000 in
set_option maxRecDepth 100000 in
theorem w_X12_mean_J179 {p : Program} {l : Launch} {e : Env} {s : State} {m : MethodId} {args : Array Value} {below : List Frame} {meth : Method} {c : Code} {g : Geo} (C : Cx p s m args c cX12_mean RX12 11 g) (hr : meth.sig.returnType = (some .long)) (hlk : meth.locks = false) {a0 : Nat} {x1 : Int32} {x2 : Int32} {v3 : Int64} {v5 : Int64} {v7 : Int32} {M : Mem} {K65 : Int64 × Int64 × Int32 × Mem → Prop} {Q : Int64 → Mem → Prop} (hK65 : ∀ z : Int64 × Int64 × Int32 × Mem, K65 z → E p l e (rmO 6 0 0) s m args below meth c g 11 (MQ below (QcM g (rJ Q)) args s 0 0 (gA g)) 0 0 65 [(0, .ref a0), (1, .int x1), (2, .int x2), (3, .long z.1), (5, .long z.2.1), (7, .int z.2.2.1)] [] (z.2.2.2)) (h : f_X12_mean_J179 a0 x1 x2 v3 v5 v7 M K65 Q) : E p l e (rmO 6 0 0) s m args below meth c g 11 (MQ below (QcM g (rJ Q)) args s 0 0 (gA g)) 0 0 179 [(0, .ref a0), (1, .int x1), (2, .int x2), (3, .long v3), (5, .long v5), (7, .int v7)] [] M := by
  unfold f_X12_mean_J179 at h
  refine e_iinc (v := (v7 + 1)) (al' := [(7, .int (v7 + 1)), (0, .ref a0), (1, .int x1), (2, .int x2), (3, .long v3), (5, .long v5)]) C 5 dX12_mean_179 rfl rfl (by decide) rfl ?_
  refine e_goto (tgt := 65) C dX12_mean_182 (by decide) ?_
  refine e_pick [1, 2, 3, 4, 5, 0] rfl ?_
  exact hK65 (v3, v5, (v7 + 1), M) h
set_option maxHeartbeats 4000000 in
set_option maxRecDepth 100000 in
theorem w_X12_mean_J136 {p : Program} {l : Launch} {e : Env} {s : State} {m : MethodId} {args : Array Value} {below : List Frame} {meth : Method} {c : Code} {g : Geo} (C : Cx p s m args c cX12_mean RX12 11 g) (hr : meth.sig.returnType = (some .long)) (hlk : meth.locks = false) {a0 : Nat} {x1 : Int32} {x2 : Int32} {v3 : Int64} {v5 : Int64} {v7 : Int32} {v10 : Int32} {t0 : Int64} {t1 : Int64} {M : Mem} {K65 : Int64 × Int64 × Int32 × Mem → Prop} {K82 : Int64 × Int64 × Int32 × Int64 × Int32 × Mem → Prop} {Q : Int64 → Mem → Prop} (hK65 : ∀ z : Int64 × Int64 × Int32 × Mem, K65 z → E p l e (rmO 6 0 0) s m args below meth c g 11 (MQ below (QcM g (rJ Q)) args s 0 0 (gA g)) 0 0 65 [(0, .ref a0), (1, .int x1), (2, .int x2), (3, .long z.1), (5, .long z.2.1), (7, .int z.2.2.1)] [] (z.2.2.2)) (hK82 : ∀ z : Int64 × Int64 × Int32 × Int64 × Int32 × Mem, K82 z → E p l e (rmO 6 0 0) s m args below meth c g 11 (MQ below (QcM g (rJ Q)) args s 0 0 (gA g)) 0 0 82 [(0, .ref a0), (1, .int x1), (2, .int x2), (3, .long z.1), (5, .long z.2.1), (7, .int z.2.2.1), (8, .long z.2.2.2.1), (10, .int z.2.2.2.2.1)] [] (z.2.2.2.2.2)) (h : f_X12_mean_J136 a0 x1 x2 v3 v5 v7 v10 t0 t1 M K65 K82 Q) : E p l e (rmO 6 0 0) s m args below meth c g 11 (MQ below (QcM g (rJ Q)) args s 0 0 (gA g)) 0 0 136 [(0, .ref a0), (1, .int x1), (2, .int x2), (3, .long v3), (5, .long v5), (7, .int v7), (10, .int v10)] [.long t0, .long t1] M := by
  unfold f_X12_mean_J136 at h
  refine e_lmul C dX12_mean_136 ?_
  refine e_lstore (al' := [(8, .long (t1 * t0)), (0, .ref a0), (1, .int x1), (2, .int x2), (3, .long v3), (5, .long v5), (7, .int v7), (10, .int v10)]) C dX12_mean_137 (by decide) rfl ?_
  refine e_iinc (v := (v10 + 1)) (al' := [(10, .int (v10 + 1)), (8, .long (t1 * t0)), (0, .ref a0), (1, .int x1), (2, .int x2), (3, .long v3), (5, .long v5), (7, .int v7)]) C 7 dX12_mean_139 rfl rfl (by decide) rfl ?_
  refine e_goto (tgt := 82) C dX12_mean_142 (by decide) ?_
  refine e_pick [2, 3, 4, 5, 6, 7, 1, 0] rfl ?_
  exact hK82 (v3, v5, v7, (t1 * t0), (v10 + 1), M) h
set_option maxHeartbeats 4000000 in
set_option maxRecDepth 100000 in
theorem w_X12_mean_B82 {p : Program} {l : Launch} {e : Env} {s : State} {m : MethodId} {args : Array Value} {below : List Frame} {meth : Method} {c : Code} {g : Geo} (C : Cx p s m args c cX12_mean RX12 11 g) (hr : meth.sig.returnType = (some .long)) (hlk : meth.locks = false) {a0 : Nat} {x1 : Int32} {x2 : Int32} {v3 : Int64} {v5 : Int64} {v7 : Int32} {v8 : Int64} {v10 : Int32} {M : Mem} {K82 : Int64 × Int64 × Int32 × Int64 × Int32 × Mem → Prop} {K65 : Int64 × Int64 × Int32 × Mem → Prop} {Q : Int64 → Mem → Prop} (hK82 : ∀ z : Int64 × Int64 × Int32 × Int64 × Int32 × Mem, K82 z → E p l e (rmO 6 0 0) s m args below meth c g 11 (MQ below (QcM g (rJ Q)) args s 0 0 (gA g)) 0 0 82 [(0, .ref a0), (1, .int x1), (2, .int x2), (3, .long z.1), (5, .long z.2.1), (7, .int z.2.2.1), (8, .long z.2.2.2.1), (10, .int z.2.2.2.2.1)] [] (z.2.2.2.2.2)) (hK65 : ∀ z : Int64 × Int64 × Int32 × Mem, K65 z → E p l e (rmO 6 0 0) s m args below meth c g 11 (MQ below (QcM g (rJ Q)) args s 0 0 (gA g)) 0 0 65 [(0, .ref a0), (1, .int x1), (2, .int x2), (3, .long z.1), (5, .long z.2.1), (7, .int z.2.2.1)] [] (z.2.2.2)) (h : f_X12_mean_B82 a0 x1 x2 v3 v5 v7 v8 v10 M K82 K65 Q) : E p l e (rmO 6 0 0) s m args below meth c g 11 (MQ below (QcM g (rJ Q)) args s 0 0 (gA g)) 0 0 82 [(0, .ref a0), (1, .int x1), (2, .int x2), (3, .long v3), (5, .long v5), (7, .int v7), (8, .long v8), (10, .int v10)] [] M := by
  unfold f_X12_mean_B82 at h
  refine e_iload C 7 dX12_mean_82 rfl ?_
  refine e_aload_n C 0 dX12_mean_84 rfl rfl ?_
  obtain ⟨o1, h⟩ := h
  refine e_getI C [12] 1 (fg_of fg_X12_13) o1 dX12_mean_85 ?_
  refine e_icmp_ge (tgt := 145) C dX12_mean_88 (by decide) (fun q2 => ?_) (fun q2 => ?_)
  · replace h := ite_t h q2
    refine e_lload C 6 dX12_mean_145 rfl ?_
    refine e_lconst (v := 0) C dX12_mean_147 (by decide) ?_
    refine e_lcmp C dX12_mean_148 ?_
    refine e_if_ne (tgt := 155) C dX12_mean_149 (by decide) (fun q3 => ?_) (fun q3 => ?_)
    · replace h := ite_f h q3
      refine e_aload_n C 0 dX12_mean_155 rfl rfl ?_
      refine e_iload_n C 1 dX12_mean_156 rfl rfl ?_
      refine e_aload_n C 0 dX12_mean_157 rfl rfl ?_
      refine e_iconst (v := 0) C dX12_mean_158 (by decide) ?_
      refine e_callV (as := [.int (0 : Int32)]) C wb_X12_told wv_X12_312 (ci := 12) rfl rfl (isO_1 o1) (m_X12_told h) rfl ⟨Nat.le_of_ble_eq_true rfl, Nat.le_of_ble_eq_true rfl⟩ ⟨Nat.le_of_ble_eq_true rfl, Nat.le_of_ble_eq_true rfl⟩ (by first | exact Nat.le_of_ble_eq_true rfl | (simp only [List.map_cons, List.map_nil, va_cat, List.sum_cons, List.sum_nil]; exact Nat.le_of_ble_eq_true rfl)) dX12_mean_159 (kI (fun w4 M5 h14 => ?_))
      refine e_iconst (v := 0) C dX12_mean_162 (by decide) ?_
      refine e_iload C 5 dX12_mean_163 rfl ?_
      obtain ⟨o8, h14⟩ := h14
      refine e_callV (as := [.int x1, .int w4, .int (0 : Int32), .int v7]) C wb_X12_go wv_X12_325 (ci := 12) rfl rfl (isO_1 o8) (m_X12_go h14) rfl ⟨Nat.le_of_ble_eq_true rfl, Nat.le_of_ble_eq_true rfl⟩ ⟨Nat.le_of_ble_eq_true rfl, Nat.le_of_ble_eq_true rfl⟩ (by first | exact Nat.le_of_ble_eq_true rfl | (simp only [List.map_cons, List.map_nil, va_cat, List.sum_cons, List.sum_nil]; exact Nat.le_of_ble_eq_true rfl)) dX12_mean_165 (kV (fun M7 h13 => ?_))
      refine e_lload_n C 3 dX12_mean_168 rfl rfl ?_
      refine e_lload C 6 dX12_mean_169 rfl ?_
      refine e_aload_n C 0 dX12_mean_171 rfl rfl ?_
      obtain ⟨o11, h13⟩ := h13
      refine e_callV (as := []) C wb_X12_lost wv_X12_335 (ci := 12) rfl rfl (isO_1 o11) (m_X12_lost h13) rfl ⟨Nat.le_of_ble_eq_true rfl, Nat.le_of_ble_eq_true rfl⟩ ⟨Nat.le_of_ble_eq_true rfl, Nat.le_of_ble_eq_true rfl⟩ (by first | exact Nat.le_of_ble_eq_true rfl | (simp only [List.map_cons, List.map_nil, va_cat, List.sum_cons, List.sum_nil]; exact Nat.le_of_ble_eq_true rfl)) dX12_mean_172 (kI (fun w9 M10 h12 => ?_))
      refine e_i2l C dX12_mean_175 ?_
      refine e_lmul C dX12_mean_176 ?_
      refine e_ladd C dX12_mean_177 ?_
      refine e_lstore_n (al' := [(3, .long (v3 + (v8 * ((w9).toInt64)))), (0, .ref a0), (1, .int x1), (2, .int x2), (5, .long v5), (7, .int v7), (8, .long v8), (10, .int v10)]) C dX12_mean_178 rfl (by decide) rfl ?_
      refine e_pick [1, 2, 3, 0, 4, 5] rfl ?_
      exact w_X12_mean_J179 C hr hlk hK65 h12
    · replace h := ite_t h q3
      refine e_goto (tgt := 179) C dX12_mean_152 (by decide) ?_
      refine e_pick [0, 1, 2, 3, 4, 5] rfl ?_
      exact w_X12_mean_J179 C hr hlk hK65 h
  · replace h := ite_f h q2
    refine e_lload C 6 dX12_mean_91 rfl ?_
    refine e_iload C 5 dX12_mean_93 rfl ?_
    refine e_iload C 7 dX12_mean_95 rfl ?_
    refine e_ishr C dX12_mean_97 ?_
    refine e_iconst (v := 1) C dX12_mean_98 (by decide) ?_
    refine e_iand C dX12_mean_99 ?_
    refine e_iconst (v := 1) C dX12_mean_100 (by decide) ?_
    refine e_icmp_ne (tgt := 123) C dX12_mean_101 (by decide) (fun q15 => ?_) (fun q15 => ?_)
    · replace h := ite_f h q15
      refine e_aload_n C 0 dX12_mean_123 rfl rfl ?_
      refine e_getR C [12] 6 (fg_of fg_X12_29) o1 dX12_mean_124 ?_
      refine e_aload_n C 0 dX12_mean_127 rfl rfl ?_
      refine e_getR C [12] 7 (fg_of fg_X12_32) o1 dX12_mean_128 ?_
      refine e_iload C 7 dX12_mean_131 rfl ?_
      obtain ⟨b16, p17, h⟩ := h
      try rw [p17]
      obtain ⟨o18, h⟩ := h
      refine e_iald C o18 dX12_mean_133 ?_
      obtain ⟨b19, p20, h⟩ := h
      try rw [p20]
      obtain ⟨o21, h⟩ := h
      refine e_iald C o21 dX12_mean_134 ?_
      refine e_i2l C dX12_mean_135 ?_
      refine e_pick [0, 1, 2, 3, 4, 5, 7] rfl ?_
      exact w_X12_mean_J136 C hr hlk hK65 hK82 h
    · replace h := ite_t h q15
      refine e_bipush (v := 10) C dX12_mean_104 (by decide) ?_
      refine e_aload_n C 0 dX12_mean_106 rfl rfl ?_
      refine e_getR C [12] 6 (fg_of fg_X12_29) o1 dX12_mean_107 ?_
      refine e_aload_n C 0 dX12_mean_110 rfl rfl ?_
      refine e_getR C [12] 7 (fg_of fg_X12_32) o1 dX12_mean_111 ?_
      refine e_iload C 7 dX12_mean_114 rfl ?_
      obtain ⟨b22, p23, h⟩ := h
      try rw [p23]
      obtain ⟨o24, h⟩ := h
      refine e_iald C o24 dX12_mean_116 ?_
      obtain ⟨b25, p26, h⟩ := h
      try rw [p26]
      obtain ⟨o27, h⟩ := h
      refine e_iald C o27 dX12_mean_117 ?_
      refine e_isub C dX12_mean_118 ?_
      refine e_i2l C dX12_mean_119 ?_
      refine e_goto (tgt := 136) C dX12_mean_120 (by decide) ?_
      refine e_pick [0, 1, 2, 3, 4, 5, 7] rfl ?_
      exact w_X12_mean_J136 C hr hlk hK65 hK82 h
set_option maxHeartbeats 4000000 in
set_option maxRecDepth 100000 in
theorem w_X12_mean_L82 {p : Program} {l : Launch} {e : Env} {s : State} {m : MethodId} {args : Array Value} {below : List Frame} {meth : Method} {c : Code} {g : Geo} (C : Cx p s m args c cX12_mean RX12 11 g) (hr : meth.sig.returnType = (some .long)) (hlk : meth.locks = false) {a0 : Nat} {x1 : Int32} {x2 : Int32} {v3 : Int64} {v5 : Int64} {v7 : Int32} {v8 : Int64} {v10 : Int32} {M : Mem} {K65 : Int64 × Int64 × Int32 × Mem → Prop} {Q : Int64 → Mem → Prop} (hK65 : ∀ z : Int64 × Int64 × Int32 × Mem, K65 z → E p l e (rmO 6 0 0) s m args below meth c g 11 (MQ below (QcM g (rJ Q)) args s 0 0 (gA g)) 0 0 65 [(0, .ref a0), (1, .int x1), (2, .int x2), (3, .long z.1), (5, .long z.2.1), (7, .int z.2.2.1)] [] (z.2.2.2)) (h : f_X12_mean_L82 a0 x1 x2 v3 v5 v7 v8 v10 M K65 Q) : E p l e (rmO 6 0 0) s m args below meth c g 11 (MQ below (QcM g (rJ Q)) args s 0 0 (gA g)) 0 0 82 [(0, .ref a0), (1, .int x1), (2, .int x2), (3, .long v3), (5, .long v5), (7, .int v7), (8, .long v8), (10, .int v10)] [] M := by
  unfold f_X12_mean_L82 at h
  refine loop_E (W := fun z : Int64 × Int64 × Int32 × Int64 × Int32 × Mem => E p l e (rmO 6 0 0) s m args below meth c g 11 (MQ below (QcM g (rJ Q)) args s 0 0 (gA g)) 0 0 82 [(0, .ref a0), (1, .int x1), (2, .int x2), (3, .long z.1), (5, .long z.2.1), (7, .int z.2.2.1), (8, .long z.2.2.2.1), (10, .int z.2.2.2.2.1)] [] (z.2.2.2.2.2)) h (fun K z hK h => ?_)
  exact w_X12_mean_B82 C hr hlk hK hK65 h
set_option maxHeartbeats 4000000 in
set_option maxRecDepth 100000 in
theorem w_X12_mean_B65 {p : Program} {l : Launch} {e : Env} {s : State} {m : MethodId} {args : Array Value} {below : List Frame} {meth : Method} {c : Code} {g : Geo} (C : Cx p s m args c cX12_mean RX12 11 g) (hr : meth.sig.returnType = (some .long)) (hlk : meth.locks = false) {a0 : Nat} {x1 : Int32} {x2 : Int32} {v3 : Int64} {v5 : Int64} {v7 : Int32} {M : Mem} {K65 : Int64 × Int64 × Int32 × Mem → Prop} {Q : Int64 → Mem → Prop} (hK65 : ∀ z : Int64 × Int64 × Int32 × Mem, K65 z → E p l e (rmO 6 0 0) s m args below meth c g 11 (MQ below (QcM g (rJ Q)) args s 0 0 (gA g)) 0 0 65 [(0, .ref a0), (1, .int x1), (2, .int x2), (3, .long z.1), (5, .long z.2.1), (7, .int z.2.2.1)] [] (z.2.2.2)) (h : f_X12_mean_B65 a0 x1 x2 v3 v5 v7 M K65 Q) : E p l e (rmO 6 0 0) s m args below meth c g 11 (MQ below (QcM g (rJ Q)) args s 0 0 (gA g)) 0 0 65 [(0, .ref a0), (1, .int x1), (2, .int x2), (3, .long v3), (5, .long v5), (7, .int v7)] [] M := by
  unfold f_X12_mean_B65 at h
  refine e_iload C 5 dX12_mean_65 rfl ?_
  refine e_iconst (v := 1) C dX12_mean_67 (by decide) ?_
  refine e_aload_n C 0 dX12_mean_68 rfl rfl ?_
  obtain ⟨o1, h⟩ := h
  refine e_getI C [12] 1 (fg_of fg_X12_13) o1 dX12_mean_69 ?_
  refine e_ishl C dX12_mean_72 ?_
  refine e_icmp_ge (tgt := 185) C dX12_mean_73 (by decide) (fun q2 => ?_) (fun q2 => ?_)
  · replace h := ite_t h q2
    refine e_aload_n C 0 dX12_mean_185 rfl rfl ?_
    refine e_lload_n C 3 dX12_mean_186 rfl rfl ?_
    refine e_lload C 4 dX12_mean_187 rfl ?_
    refine e_callV (as := [.long v3, .long v5]) C wb_X12_divisor wv_X12_350 (ci := 12) rfl rfl (isO_1 o1) (m_X12_divisor h) rfl ⟨Nat.le_of_ble_eq_true rfl, Nat.le_of_ble_eq_true rfl⟩ ⟨Nat.le_of_ble_eq_true rfl, Nat.le_of_ble_eq_true rfl⟩ (by first | exact Nat.le_of_ble_eq_true rfl | (simp only [List.map_cons, List.map_nil, va_cat, List.sum_cons, List.sum_nil]; exact Nat.le_of_ble_eq_true rfl)) dX12_mean_189 (kJ (fun w3 M4 h8 => ?_))
    refine e_lstore (al' := [(7, .long w3), (0, .ref a0), (1, .int x1), (2, .int x2), (3, .long v3), (5, .long v5)]) C dX12_mean_192 (by decide) rfl ?_
    refine e_iload_n C 3 dX12_mean_194 rfl rfl ?_
    refine e_if_ne (tgt := 205) C dX12_mean_195 (by decide) (fun q5 => ?_) (fun q5 => ?_)
    · replace h8 := ite_f h8 q5
      refine e_lload C 5 dX12_mean_205 rfl ?_
      refine e_lload C 0 dX12_mean_207 rfl ?_
      obtain ⟨n6, h8⟩ := h8
      refine e_ldiv C dX12_mean_209 n6 ?_
      exact e_lret C hr hlk (Nat.le_refl _) (Nat.le_refl _) dX12_mean_210 ⟨_, rfl, h8⟩
    · replace h8 := ite_t h8 q5
      refine e_lload_n C 4 dX12_mean_198 rfl rfl ?_
      refine e_lload C 0 dX12_mean_199 rfl ?_
      obtain ⟨n7, h8⟩ := h8
      refine e_ldiv C dX12_mean_201 n7 ?_
      refine e_goto (tgt := 210) C dX12_mean_202 (by decide) ?_
      exact e_lret C hr hlk (Nat.le_refl _) (Nat.le_refl _) dX12_mean_210 ⟨_, rfl, h8⟩
  · replace h := ite_f h q2
    refine e_lconst (v := 1) C dX12_mean_76 (by decide) ?_
    refine e_lstore (al' := [(8, .long (1 : Int64)), (0, .ref a0), (1, .int x1), (2, .int x2), (3, .long v3), (5, .long v5), (7, .int v7)]) C dX12_mean_77 (by decide) rfl ?_
    refine e_iconst (v := 0) C dX12_mean_79 (by decide) ?_
    refine e_istore (al' := [(10, .int (0 : Int32)), (8, .long (1 : Int64)), (0, .ref a0), (1, .int x1), (2, .int x2), (3, .long v3), (5, .long v5), (7, .int v7)]) C dX12_mean_80 (by decide) rfl ?_
    refine e_pick [2, 3, 4, 5, 6, 7, 1, 0] rfl ?_
    exact w_X12_mean_L82 C hr hlk hK65 h
set_option maxHeartbeats 4000000 in
set_option maxRecDepth 100000 in
theorem w_X12_mean_L65 {p : Program} {l : Launch} {e : Env} {s : State} {m : MethodId} {args : Array Value} {below : List Frame} {meth : Method} {c : Code} {g : Geo} (C : Cx p s m args c cX12_mean RX12 11 g) (hr : meth.sig.returnType = (some .long)) (hlk : meth.locks = false) {a0 : Nat} {x1 : Int32} {x2 : Int32} {v3 : Int64} {v5 : Int64} {v7 : Int32} {M : Mem} {Q : Int64 → Mem → Prop} (h : f_X12_mean_L65 a0 x1 x2 v3 v5 v7 M Q) : E p l e (rmO 6 0 0) s m args below meth c g 11 (MQ below (QcM g (rJ Q)) args s 0 0 (gA g)) 0 0 65 [(0, .ref a0), (1, .int x1), (2, .int x2), (3, .long v3), (5, .long v5), (7, .int v7)] [] M := by
  unfold f_X12_mean_L65 at h
  refine loop_E (W := fun z : Int64 × Int64 × Int32 × Mem => E p l e (rmO 6 0 0) s m args below meth c g 11 (MQ below (QcM g (rJ Q)) args s 0 0 (gA g)) 0 0 65 [(0, .ref a0), (1, .int x1), (2, .int x2), (3, .long z.1), (5, .long z.2.1), (7, .int z.2.2.1)] [] (z.2.2.2)) h (fun K z hK h => ?_)
  exact w_X12_mean_B65 C hr hlk hK h
set_option maxHeartbeats 4000000 in
set_option maxRecDepth 100000 in
theorem w_X12_mean_B39 {p : Program} {l : Launch} {e : Env} {s : State} {m : MethodId} {args : Array Value} {below : List Frame} {meth : Method} {c : Code} {g : Geo} (C : Cx p s m args c cX12_mean RX12 11 g) (hr : meth.sig.returnType = (some .long)) (hlk : meth.locks = false) {a0 : Nat} {x1 : Int32} {x2 : Int32} {v3 : Int64} {v5 : Int64} {v7 : Int32} {M : Mem} {K39 : Int64 × Int64 × Int32 × Mem → Prop} {Q : Int64 → Mem → Prop} (hK39 : ∀ z : Int64 × Int64 × Int32 × Mem, K39 z → E p l e (rmO 6 0 0) s m args below meth c g 11 (MQ below (QcM g (rJ Q)) args s 0 0 (gA g)) 0 0 39 [(0, .ref a0), (1, .int x1), (2, .int x2), (3, .long z.1), (5, .long z.2.1), (7, .int z.2.2.1)] [] (z.2.2.2)) (h : f_X12_mean_B39 a0 x1 x2 v3 v5 v7 M K39 Q) : E p l e (rmO 6 0 0) s m args below meth c g 11 (MQ below (QcM g (rJ Q)) args s 0 0 (gA g)) 0 0 39 [(0, .ref a0), (1, .int x1), (2, .int x2), (3, .long v3), (5, .long v5), (7, .int v7)] [] M := by
  unfold f_X12_mean_B39 at h
  refine e_iload C 5 dX12_mean_39 rfl ?_
  refine e_aload_n C 0 dX12_mean_41 rfl rfl ?_
  obtain ⟨o1, h⟩ := h
  refine e_getI C [12] 1 (fg_of fg_X12_13) o1 dX12_mean_42 ?_
  refine e_icmp_ge (tgt := 62) C dX12_mean_45 (by decide) (fun q2 => ?_) (fun q2 => ?_)
  · replace h := ite_t h q2
    refine e_iconst (v := 0) C dX12_mean_62 (by decide) ?_
    refine e_istore (al' := [(7, .int (0 : Int32)), (0, .ref a0), (1, .int x1), (2, .int x2), (3, .long v3), (5, .long v5)]) C dX12_mean_63 (by decide) rfl ?_
    refine e_pick [1, 2, 3, 4, 5, 0] rfl ?_
    exact w_X12_mean_L65 C hr hlk h
  · replace h := ite_f h q2
    refine e_lload C 4 dX12_mean_48 rfl ?_
    refine e_ldc2 (v := 10) C wd_1424 dX12_mean_50 ?_
    refine e_lmul C dX12_mean_53 ?_
    refine e_lstore (al' := [(5, .long (v5 * (10 : Int64))), (0, .ref a0), (1, .int x1), (2, .int x2), (3, .long v3), (7, .int v7)]) C dX12_mean_54 (by decide) rfl ?_
    refine e_iinc (v := (v7 + 1)) (al' := [(7, .int (v7 + 1)), (5, .long (v5 * (10 : Int64))), (0, .ref a0), (1, .int x1), (2, .int x2), (3, .long v3)]) C 5 dX12_mean_56 rfl rfl (by decide) rfl ?_
    refine e_goto (tgt := 39) C dX12_mean_59 (by decide) ?_
    refine e_pick [2, 3, 4, 5, 1, 0] rfl ?_
    exact hK39 (v3, (v5 * (10 : Int64)), (v7 + 1), M) h
set_option maxHeartbeats 4000000 in
set_option maxRecDepth 100000 in
theorem w_X12_mean_L39 {p : Program} {l : Launch} {e : Env} {s : State} {m : MethodId} {args : Array Value} {below : List Frame} {meth : Method} {c : Code} {g : Geo} (C : Cx p s m args c cX12_mean RX12 11 g) (hr : meth.sig.returnType = (some .long)) (hlk : meth.locks = false) {a0 : Nat} {x1 : Int32} {x2 : Int32} {v3 : Int64} {v5 : Int64} {v7 : Int32} {M : Mem} {Q : Int64 → Mem → Prop} (h : f_X12_mean_L39 a0 x1 x2 v3 v5 v7 M Q) : E p l e (rmO 6 0 0) s m args below meth c g 11 (MQ below (QcM g (rJ Q)) args s 0 0 (gA g)) 0 0 39 [(0, .ref a0), (1, .int x1), (2, .int x2), (3, .long v3), (5, .long v5), (7, .int v7)] [] M := by
  unfold f_X12_mean_L39 at h
  refine loop_E (W := fun z : Int64 × Int64 × Int32 × Mem => E p l e (rmO 6 0 0) s m args below meth c g 11 (MQ below (QcM g (rJ Q)) args s 0 0 (gA g)) 0 0 39 [(0, .ref a0), (1, .int x1), (2, .int x2), (3, .long z.1), (5, .long z.2.1), (7, .int z.2.2.1)] [] (z.2.2.2)) h (fun K z hK h => ?_)
  exact w_X12_mean_B39 C hr hlk hK h
set_option maxHeartbeats 4000000 in
set_option maxRecDepth 100000 in
theorem w_X12_mean {p : Program} {l : Launch} {e : Env} {s : State} {m : MethodId} {args : Array Value} {below : List Frame} {meth : Method} {c : Code} {g : Geo} (C : Cx p s m args c cX12_mean RX12 11 g) (hr : meth.sig.returnType = (some .long)) (hlk : meth.locks = false) {a0 : Nat} {x1 : Int32} {x2 : Int32} {M : Mem} {Q : Int64 → Mem → Prop} (h : f_X12_mean a0 x1 x2 M Q) : E p l e (rmO 6 0 0) s m args below meth c g 11 (MQ below (QcM g (rJ Q)) args s 0 0 (gA g)) 0 0 0 [(0, .ref a0), (1, .int x1), (2, .int x2)] [] M := by
  unfold f_X12_mean at h
  refine e_aload_n C 0 dX12_mean_0 rfl rfl ?_
  refine e_iload_n C 1 dX12_mean_1 rfl rfl ?_
  obtain ⟨o3, h⟩ := h
  refine e_callV (as := [.int x1]) C wb_X12_isOrder wv_X12_294 (ci := 12) rfl rfl (isO_1 o3) (m_X12_isOrder h) rfl ⟨Nat.le_of_ble_eq_true rfl, Nat.le_of_ble_eq_true rfl⟩ ⟨Nat.le_of_ble_eq_true rfl, Nat.le_of_ble_eq_true rfl⟩ (by first | exact Nat.le_of_ble_eq_true rfl | (simp only [List.map_cons, List.map_nil, va_cat, List.sum_cons, List.sum_nil]; exact Nat.le_of_ble_eq_true rfl)) dX12_mean_2 (kZ (fun w1 M2 h12 => ?_))
  refine e_if_eq (tgt := 27) C dX12_mean_5 (by decide) (fun q4 => ?_) (fun q4 => ?_)
  · replace h12 := ite_f h12 (bi_ne q4)
    refine e_ldc2 (v := -9223372036854775808) C wd_1423 dX12_mean_27 ?_
    exact e_lret C hr hlk (Nat.le_refl _) (Nat.le_refl _) dX12_mean_30 ⟨_, rfl, h12⟩
  · replace h12 := ite_t h12 (bi_t q4)
    refine e_aload_n C 0 dX12_mean_8 rfl rfl ?_
    refine e_iload_n C 2 dX12_mean_9 rfl rfl ?_
    refine e_iconst (v := 0) C dX12_mean_10 (by decide) ?_
    refine e_iconst (v := 1) C dX12_mean_11 (by decide) ?_
    obtain ⟨o7, h12⟩ := h12
    refine e_callV (as := [.int x2, .int (0 : Int32), .int (1 : Int32)]) C wb_X12_in wv_X12_215 (ci := 12) rfl rfl (isO_1 o7) (m_X12_in h12) rfl ⟨Nat.le_of_ble_eq_true rfl, Nat.le_of_ble_eq_true rfl⟩ ⟨Nat.le_of_ble_eq_true rfl, Nat.le_of_ble_eq_true rfl⟩ (by first | exact Nat.le_of_ble_eq_true rfl | (simp only [List.map_cons, List.map_nil, va_cat, List.sum_cons, List.sum_nil]; exact Nat.le_of_ble_eq_true rfl)) dX12_mean_12 (kZ (fun w5 M6 h11 => ?_))
    refine e_if_eq (tgt := 27) C dX12_mean_15 (by decide) (fun q8 => ?_) (fun q8 => ?_)
    · replace h11 := ite_f h11 (bi_ne q8)
      refine e_ldc2 (v := -9223372036854775808) C wd_1423 dX12_mean_27 ?_
      exact e_lret C hr hlk (Nat.le_refl _) (Nat.le_refl _) dX12_mean_30 ⟨_, rfl, h11⟩
    · replace h11 := ite_t h11 (bi_t q8)
      refine e_aload_n C 0 dX12_mean_18 rfl rfl ?_
      obtain ⟨o9, h11⟩ := h11
      refine e_getI C [12] 1 (fg_of fg_X12_13) o9 dX12_mean_19 ?_
      refine e_bipush (v := 6) C dX12_mean_22 (by decide) ?_
      refine e_icmp_le (tgt := 31) C dX12_mean_24 (by decide) (fun q10 => ?_) (fun q10 => ?_)
      · replace h11 := ite_t h11 q10
        refine e_lconst (v := 0) C dX12_mean_31 (by decide) ?_
        refine e_lstore_n (al' := [(3, .long (0 : Int64)), (0, .ref a0), (1, .int x1), (2, .int x2)]) C dX12_mean_32 rfl (by decide) rfl ?_
        refine e_lconst (v := 1) C dX12_mean_33 (by decide) ?_
        refine e_lstore (al' := [(5, .long (1 : Int64)), (3, .long (0 : Int64)), (0, .ref a0), (1, .int x1), (2, .int x2)]) C dX12_mean_34 (by decide) rfl ?_
        refine e_iconst (v := 0) C dX12_mean_36 (by decide) ?_
        refine e_istore (al' := [(7, .int (0 : Int32)), (5, .long (1 : Int64)), (3, .long (0 : Int64)), (0, .ref a0), (1, .int x1), (2, .int x2)]) C dX12_mean_37 (by decide) rfl ?_
        refine e_pick [3, 4, 5, 2, 1, 0] rfl ?_
        exact w_X12_mean_L39 C hr hlk h11
      · replace h11 := ite_f h11 q10
        refine e_ldc2 (v := -9223372036854775808) C wd_1423 dX12_mean_27 ?_
        exact e_lret C hr hlk (Nat.le_refl _) (Nat.le_refl _) dX12_mean_30 ⟨_, rfl, h11⟩
theorem m_X12_mean  {a0 : Nat} {x1 : Int32} {x2 : Int32} {M : Mem} {Q : Int64 → Mem → Prop} (h : f_X12_mean a0 x1 x2 M Q) : Con yX12_mean cX12_mean 11 (some .long) 6 0 0 [.ref a0, .int x1, .int x2] M (rJ Q) :=
  con_of2 (al := [(0, .ref a0), (1, .int x1), (2, .int x2)]) (by decide) (by exact Nat.le_of_ble_eq_true rfl) (by rfl) (fun p l e s m args below meth c g C hr hlk _ => w_X12_mean C hr hlk h)
