/-! ===== generated: the machine keeps f_ ===== -/
set_option maxHeartbeats 4000000 in
set_option maxRecDepth 100000 in
theorem w_X12_takesTest {p : Program} {l : Launch} {e : Env} {s : State} {m : MethodId} {args : Array Value} {below : List Frame} {meth : Method} {c : Code} {g : Geo} (C : Cx p s m args c cX12_takesTest RX12 3 g) (hr : meth.sig.returnType = (some .boolean)) (hlk : meth.locks = false) {a0 : Nat} {M : Mem} {Q : Bool → Mem → Prop} (h : f_X12_takesTest a0 M Q) : E p l e (rmO 4 0 0) s m args below meth c g 3 (MQ below (QcM g (rZ Q)) args s 0 0 (gA g)) 0 0 0 [(0, .ref a0)] [] M := by
  unfold f_X12_takesTest at h
  refine e_aload_n C 0 dX12_takesTest_0 rfl rfl ?_
  refine e_aload_n C 0 dX12_takesTest_1 rfl rfl ?_
  obtain ⟨o3, h⟩ := h
  refine e_callV (as := []) C wb_X12_next wv_X12_223 (ci := 12) rfl rfl (isO_1 o3) (m_X12_next h) rfl ⟨Nat.le_of_ble_eq_true rfl, Nat.le_of_ble_eq_true rfl⟩ ⟨Nat.le_of_ble_eq_true rfl, Nat.le_of_ble_eq_true rfl⟩ (by first | exact Nat.le_of_ble_eq_true rfl | (simp only [List.map_cons, List.map_nil, va_cat, List.sum_cons, List.sum_nil]; exact Nat.le_of_ble_eq_true rfl)) dX12_takesTest_2 (kI (fun w1 M2 h37 => ?_))
  obtain ⟨o6, h37⟩ := h37
  refine e_callV (as := [.int w1]) C wb_X12_place wv_X12_238 (ci := 12) rfl rfl (isO_1 o6) (m_X12_place h37) rfl ⟨Nat.le_of_ble_eq_true rfl, Nat.le_of_ble_eq_true rfl⟩ ⟨Nat.le_of_ble_eq_true rfl, Nat.le_of_ble_eq_true rfl⟩ (by first | exact Nat.le_of_ble_eq_true rfl | (simp only [List.map_cons, List.map_nil, va_cat, List.sum_cons, List.sum_nil]; exact Nat.le_of_ble_eq_true rfl)) dX12_takesTest_5 (kI (fun w4 M5 h36 => ?_))
  refine e_istore_n (al' := [(1, .int w4), (0, .ref a0)]) C dX12_takesTest_8 rfl (by decide) rfl ?_
  refine e_iload_n C 0 dX12_takesTest_9 rfl rfl ?_
  refine e_if_ge (tgt := 15) C dX12_takesTest_10 (by decide) (fun q7 => ?_) (fun q7 => ?_)
  · replace h36 := ite_t h36 q7
    refine e_aload_n C 1 dX12_takesTest_15 rfl rfl ?_
    refine e_dup C rfl dX12_takesTest_16 ?_
    obtain ⟨o8, h36⟩ := h36
    refine e_getI C [12] 12 (fg_of fg_X12_47) o8 dX12_takesTest_17 ?_
    refine e_iconst (v := 1) C dX12_takesTest_20 (by decide) ?_
    refine e_iadd C dX12_takesTest_21 ?_
    refine e_putI C [12] 12 false (fun z => by cases z) fp_X12_47 o8 dX12_takesTest_22 ?_
    refine nmE (fun M9 e10 => ?_)
    replace h36 := h36 M9 e10
    have o11 : isO M9 a0 [12] := by rw [e10]; exact o8
    refine e_aload_n C 1 dX12_takesTest_25 rfl rfl ?_
    refine e_callV (as := []) C wb_X12_next wv_X12_223 (ci := 12) rfl rfl (isO_1 o11) (m_X12_next h36) rfl ⟨Nat.le_of_ble_eq_true rfl, Nat.le_of_ble_eq_true rfl⟩ ⟨Nat.le_of_ble_eq_true rfl, Nat.le_of_ble_eq_true rfl⟩ (by first | exact Nat.le_of_ble_eq_true rfl | (simp only [List.map_cons, List.map_nil, va_cat, List.sum_cons, List.sum_nil]; exact Nat.le_of_ble_eq_true rfl)) dX12_takesTest_26 (kI (fun w12 M13 h35 => ?_))
    refine e_istore_n (al' := [(2, .int w12), (1, .int w4), (0, .ref a0)]) C dX12_takesTest_29 rfl (by decide) rfl ?_
    refine e_aload_n C 2 dX12_takesTest_30 rfl rfl ?_
    refine e_iload_n C 0 dX12_takesTest_31 rfl rfl ?_
    refine e_bipush (v := 60) C dX12_takesTest_32 (by decide) ?_
    refine e_bipush (v := 62) C dX12_takesTest_34 (by decide) ?_
    obtain ⟨o16, h35⟩ := h35
    refine e_callV (as := [.int w12, .int (60 : Int32), .int (62 : Int32)]) C wb_X12_in wv_X12_215 (ci := 12) rfl rfl (isO_1 o16) (m_X12_in h35) rfl ⟨Nat.le_of_ble_eq_true rfl, Nat.le_of_ble_eq_true rfl⟩ ⟨Nat.le_of_ble_eq_true rfl, Nat.le_of_ble_eq_true rfl⟩ (by first | exact Nat.le_of_ble_eq_true rfl | (simp only [List.map_cons, List.map_nil, va_cat, List.sum_cons, List.sum_nil]; exact Nat.le_of_ble_eq_true rfl)) dX12_takesTest_36 (kZ (fun w14 M15 h34 => ?_))
    refine e_if_ne (tgt := 44) C dX12_takesTest_39 (by decide) (fun q17 => ?_) (fun q17 => ?_)
    · replace h34 := ite_t h34 (bi_t q17)
      refine e_aload_n C 2 dX12_takesTest_44 rfl rfl ?_
      refine e_dup C rfl dX12_takesTest_45 ?_
      obtain ⟨o18, h34⟩ := h34
      refine e_getI C [12] 12 (fg_of fg_X12_47) o18 dX12_takesTest_46 ?_
      refine e_iconst (v := 1) C dX12_takesTest_49 (by decide) ?_
      refine e_iadd C dX12_takesTest_50 ?_
      refine e_putI C [12] 12 false (fun z => by cases z) fp_X12_47 o18 dX12_takesTest_51 ?_
      refine nmE (fun M19 e20 => ?_)
      replace h34 := h34 M19 e20
      have o21 : isO M19 a0 [12] := by rw [e20]; exact o18
      refine e_aload_n C 2 dX12_takesTest_54 rfl rfl ?_
      refine e_callV (as := []) C wb_X12_takesNumber wv_X12_242 (ci := 12) rfl rfl (isO_1 o21) (m_X12_takesNumber h34) rfl ⟨Nat.le_of_ble_eq_true rfl, Nat.le_of_ble_eq_true rfl⟩ ⟨Nat.le_of_ble_eq_true rfl, Nat.le_of_ble_eq_true rfl⟩ (by first | exact Nat.le_of_ble_eq_true rfl | (simp only [List.map_cons, List.map_nil, va_cat, List.sum_cons, List.sum_nil]; exact Nat.le_of_ble_eq_true rfl)) dX12_takesTest_55 (kZ (fun w22 M23 h33 => ?_))
      refine e_if_ne (tgt := 63) C dX12_takesTest_58 (by decide) (fun q24 => ?_) (fun q24 => ?_)
      · replace h33 := ite_t h33 (bi_t q24)
        refine e_aload_n C 2 dX12_takesTest_63 rfl rfl ?_
        refine e_sipush (v := 1000) C dX12_takesTest_64 (by decide) ?_
        refine e_iload_n C 1 dX12_takesTest_67 rfl rfl ?_
        refine e_imul C dX12_takesTest_68 ?_
        refine e_bipush (v := 100) C dX12_takesTest_69 (by decide) ?_
        refine e_iload_n C 0 dX12_takesTest_71 rfl rfl ?_
        refine e_bipush (v := 60) C dX12_takesTest_72 (by decide) ?_
        refine e_isub C dX12_takesTest_74 ?_
        refine e_imul C dX12_takesTest_75 ?_
        refine e_iadd C dX12_takesTest_76 ?_
        refine e_aload_n C 2 dX12_takesTest_77 rfl rfl ?_
        obtain ⟨o25, h33⟩ := h33
        refine e_getI C [12] 13 (fg_of fg_X12_50) o25 dX12_takesTest_78 ?_
        refine e_iadd C dX12_takesTest_81 ?_
        refine e_callV (as := [.int ((((1000 : Int32) * w4) + ((100 : Int32) * (w12 - (60 : Int32)))) + (mI M23 a0 13))]) C wb_X12_put wv_X12_234 (ci := 12) rfl rfl (isO_1 o25) (m_X12_put h33) rfl ⟨Nat.le_of_ble_eq_true rfl, Nat.le_of_ble_eq_true rfl⟩ ⟨Nat.le_of_ble_eq_true rfl, Nat.le_of_ble_eq_true rfl⟩ (by first | exact Nat.le_of_ble_eq_true rfl | (simp only [List.map_cons, List.map_nil, va_cat, List.sum_cons, List.sum_nil]; exact Nat.le_of_ble_eq_true rfl)) dX12_takesTest_82 (kV (fun M27 h32 => ?_))
        refine e_aload_n C 2 dX12_takesTest_85 rfl rfl ?_
        obtain ⟨o30, h32⟩ := h32
        refine e_callV (as := []) C wb_X12_whole wv_X12_245 (ci := 12) rfl rfl (isO_1 o30) (m_X12_whole h32) rfl ⟨Nat.le_of_ble_eq_true rfl, Nat.le_of_ble_eq_true rfl⟩ ⟨Nat.le_of_ble_eq_true rfl, Nat.le_of_ble_eq_true rfl⟩ (by first | exact Nat.le_of_ble_eq_true rfl | (simp only [List.map_cons, List.map_nil, va_cat, List.sum_cons, List.sum_nil]; exact Nat.le_of_ble_eq_true rfl)) dX12_takesTest_86 (kV (fun M29 h31 => ?_))
        refine e_iconst (v := 1) C dX12_takesTest_89 (by decide) ?_
        exact e_zret C hr rfl hlk (Nat.le_refl _) (Nat.le_refl _) dX12_takesTest_90 ⟨true, rfl, h31⟩
      · replace h33 := ite_f h33 (bi_ne q24)
        refine e_iconst (v := 0) C dX12_takesTest_61 (by decide) ?_
        exact e_zret C hr rfl hlk (Nat.le_refl _) (Nat.le_refl _) dX12_takesTest_62 ⟨false, rfl, h33⟩
    · replace h34 := ite_f h34 (bi_ne q17)
      refine e_iconst (v := 0) C dX12_takesTest_42 (by decide) ?_
      exact e_zret C hr rfl hlk (Nat.le_refl _) (Nat.le_refl _) dX12_takesTest_43 ⟨false, rfl, h34⟩
  · replace h36 := ite_f h36 q7
    refine e_iconst (v := 0) C dX12_takesTest_13 (by decide) ?_
    exact e_zret C hr rfl hlk (Nat.le_refl _) (Nat.le_refl _) dX12_takesTest_14 ⟨false, rfl, h36⟩
theorem m_X12_takesTest  {a0 : Nat} {M : Mem} {Q : Bool → Mem → Prop} (h : f_X12_takesTest a0 M Q) : Con yX12_takesTest cX12_takesTest 3 (some .boolean) 4 0 0 [.ref a0] M (rZ Q) :=
  con_of2 (al := [(0, .ref a0)]) (by decide) (by exact Nat.le_of_ble_eq_true rfl) (by rfl) (fun p l e s m args below meth c g C hr hlk _ => w_X12_takesTest C hr hlk h)
set_option maxHeartbeats 4000000 in
set_option maxRecDepth 100000 in
theorem w_X12_takesE_J122 {p : Program} {l : Launch} {e : Env} {s : State} {m : MethodId} {args : Array Value} {below : List Frame} {meth : Method} {c : Code} {g : Geo} (C : Cx p s m args c cX12_takesE RX12 4 g) (hr : meth.sig.returnType = (some .boolean)) (hlk : meth.locks = false) {a0 : Nat} {x1 : Int32} {v3 : Int32} {M : Mem} {K22 : Int32 × Mem → Prop} {Q : Bool → Mem → Prop} (hK22 : ∀ z : Int32 × Mem, K22 z → E p l e (rmO 5 0 0) s m args below meth c g 4 (MQ below (QcM g (rZ Q)) args s 0 0 (gA g)) 0 0 22 [(0, .ref a0), (1, .int x1), (2, .int z.1)] [] (z.2)) (h : f_X12_takesE_J122 a0 x1 v3 M K22 Q) : E p l e (rmO 5 0 0) s m args below meth c g 4 (MQ below (QcM g (rZ Q)) args s 0 0 (gA g)) 0 0 122 [(0, .ref a0), (1, .int x1), (3, .int v3)] [] M := by
  unfold f_X12_takesE_J122 at h
  refine e_aload_n C 0 dX12_takesE_122 rfl rfl ?_
  refine e_iload_n C 2 dX12_takesE_123 rfl rfl ?_
  obtain ⟨o3, h⟩ := h
  refine e_callV (as := [.int v3]) C wb_X12_settle wv_X12_251 (ci := 12) rfl rfl (isO_1 o3) (m_X12_settle h) rfl ⟨Nat.le_of_ble_eq_true rfl, Nat.le_of_ble_eq_true rfl⟩ ⟨Nat.le_of_ble_eq_true rfl, Nat.le_of_ble_eq_true rfl⟩ (by first | exact Nat.le_of_ble_eq_true rfl | (simp only [List.map_cons, List.map_nil, va_cat, List.sum_cons, List.sum_nil]; exact Nat.le_of_ble_eq_true rfl)) dX12_takesE_124 (kV (fun M2 h20 => ?_))
  refine e_aload_n C 0 dX12_takesE_127 rfl rfl ?_
  obtain ⟨o4, h20⟩ := h20
  refine e_getR C [12] 22 (fg_of fg_X12_77) o4 dX12_takesE_128 ?_
  refine e_aload_n C 0 dX12_takesE_131 rfl rfl ?_
  refine e_getI C [12] 24 (fg_of fg_X12_83) o4 dX12_takesE_132 ?_
  refine e_iload_n C 2 dX12_takesE_135 rfl rfl ?_
  obtain ⟨b5, p6, h20⟩ := h20
  try rw [p6]
  obtain ⟨o7, h20⟩ := h20
  refine e_iast C o7 dX12_takesE_136 ?_
  refine nmE (fun M8 e9 => ?_)
  replace h20 := h20 M8 e9
  have o10 : isO M8 a0 [12] := by rw [e9]; exact o4
  have p11 : mP M8 a0 22 = some b5 := by rw [e9]; exact p6
  refine e_aload_n C 0 dX12_takesE_137 rfl rfl ?_
  refine e_dup C rfl dX12_takesE_138 ?_
  refine e_getI C [12] 24 (fg_of fg_X12_83) o10 dX12_takesE_139 ?_
  refine e_iconst (v := 1) C dX12_takesE_142 (by decide) ?_
  refine e_iadd C dX12_takesE_143 ?_
  refine e_putI C [12] 24 false (fun z => by cases z) fp_X12_83 o10 dX12_takesE_144 ?_
  refine nmE (fun M12 e13 => ?_)
  replace h20 := h20 M12 e13
  have o14 : isO M12 a0 [12] := by rw [e13]; exact o10
  have p15 : mP M12 a0 22 = some b5 := by rw [e13]; exact p11
  refine e_iconst (v := 1) C dX12_takesE_147 (by decide) ?_
  refine e_istore_n (al' := [(2, .int (1 : Int32)), (0, .ref a0), (1, .int x1), (3, .int v3)]) C dX12_takesE_148 rfl (by decide) rfl ?_
  refine e_aload_n C 1 dX12_takesE_149 rfl rfl ?_
  refine e_dup C rfl dX12_takesE_150 ?_
  refine e_getI C [12] 12 (fg_of fg_X12_47) o14 dX12_takesE_151 ?_
  refine e_iconst (v := 1) C dX12_takesE_154 (by decide) ?_
  refine e_iadd C dX12_takesE_155 ?_
  refine e_putI C [12] 12 false (fun z => by cases z) fp_X12_47 o14 dX12_takesE_156 ?_
  refine nmE (fun M16 e17 => ?_)
  replace h20 := h20 M16 e17
  have o18 : isO M16 a0 [12] := by rw [e17]; exact o14
  have p19 : mP M16 a0 22 = some b5 := by rw [e17]; exact p15
  refine e_goto (tgt := 22) C dX12_takesE_159 (by decide) ?_
  refine e_pick [1, 2, 0] rfl ?_
  exact hK22 ((1 : Int32), M16) h20
set_option maxHeartbeats 4000000 in
set_option maxRecDepth 100000 in
theorem w_X12_takesE_J43 {p : Program} {l : Launch} {e : Env} {s : State} {m : MethodId} {args : Array Value} {below : List Frame} {meth : Method} {c : Code} {g : Geo} (C : Cx p s m args c cX12_takesE RX12 4 g) (hr : meth.sig.returnType = (some .boolean)) (hlk : meth.locks = false) {a0 : Nat} {x1 : Int32} {v2 : Int32} {v3 : Int32} {M : Mem} {K22 : Int32 × Mem → Prop} {Q : Bool → Mem → Prop} (hK22 : ∀ z : Int32 × Mem, K22 z → E p l e (rmO 5 0 0) s m args below meth c g 4 (MQ below (QcM g (rZ Q)) args s 0 0 (gA g)) 0 0 22 [(0, .ref a0), (1, .int x1), (2, .int z.1)] [] (z.2)) (h : f_X12_takesE_J43 a0 x1 v2 v3 M K22 Q) : E p l e (rmO 5 0 0) s m args below meth c g 4 (MQ below (QcM g (rZ Q)) args s 0 0 (gA g)) 0 0 43 [(0, .ref a0), (1, .int x1), (2, .int v2), (3, .int v3)] [] M := by
  unfold f_X12_takesE_J43 at h
  refine e_aload_n C 0 dX12_takesE_43 rfl rfl ?_
  obtain ⟨o1, h⟩ := h
  refine e_getI C [12] 25 (fg_of fg_X12_86) o1 dX12_takesE_44 ?_
  refine e_iconst (v := 4) C dX12_takesE_47 (by decide) ?_
  refine e_icmp_ne (tgt := 53) C dX12_takesE_48 (by decide) (fun q2 => ?_) (fun q2 => ?_)
  · replace h := ite_f h q2
    refine e_aload_n C 0 dX12_takesE_53 rfl rfl ?_
    refine e_dup C rfl dX12_takesE_54 ?_
    refine e_getI C [12] 25 (fg_of fg_X12_86) o1 dX12_takesE_55 ?_
    refine e_iconst (v := 1) C dX12_takesE_58 (by decide) ?_
    refine e_iadd C dX12_takesE_59 ?_
    refine e_putI C [12] 25 false (fun z => by cases z) fp_X12_86 o1 dX12_takesE_60 ?_
    refine nmE (fun M3 e4 => ?_)
    replace h := h M3 e4
    have o5 : isO M3 a0 [12] := by rw [e4]; exact o1
    refine e_aload_n C 0 dX12_takesE_63 rfl rfl ?_
    refine e_getR C [12] 22 (fg_of fg_X12_77) o5 dX12_takesE_64 ?_
    refine e_aload_n C 0 dX12_takesE_67 rfl rfl ?_
    refine e_getI C [12] 24 (fg_of fg_X12_83) o5 dX12_takesE_68 ?_
    refine e_iload_n C 3 dX12_takesE_71 rfl rfl ?_
    obtain ⟨b6, p7, h⟩ := h
    try rw [p7]
    obtain ⟨o8, h⟩ := h
    refine e_iast C o8 dX12_takesE_72 ?_
    refine nmE (fun M9 e10 => ?_)
    replace h := h M9 e10
    have o11 : isO M9 a0 [12] := by rw [e10]; exact o5
    have p12 : mP M9 a0 22 = some b6 := by rw [e10]; exact p7
    refine e_aload_n C 0 dX12_takesE_73 rfl rfl ?_
    refine e_dup C rfl dX12_takesE_74 ?_
    refine e_getI C [12] 24 (fg_of fg_X12_83) o11 dX12_takesE_75 ?_
    refine e_iconst (v := 1) C dX12_takesE_78 (by decide) ?_
    refine e_iadd C dX12_takesE_79 ?_
    refine e_putI C [12] 24 false (fun z => by cases z) fp_X12_83 o11 dX12_takesE_80 ?_
    refine nmE (fun M13 e14 => ?_)
    replace h := h M13 e14
    have o15 : isO M13 a0 [12] := by rw [e14]; exact o11
    have p16 : mP M13 a0 22 = some b6 := by rw [e14]; exact p12
    refine e_aload_n C 0 dX12_takesE_83 rfl rfl ?_
    refine e_dup C rfl dX12_takesE_84 ?_
    refine e_getI C [12] 12 (fg_of fg_X12_47) o15 dX12_takesE_85 ?_
    refine e_iconst (v := 1) C dX12_takesE_88 (by decide) ?_
    refine e_iadd C dX12_takesE_89 ?_
    refine e_putI C [12] 12 false (fun z => by cases z) fp_X12_47 o15 dX12_takesE_90 ?_
    refine nmE (fun M17 e18 => ?_)
    replace h := h M17 e18
    have o19 : isO M17 a0 [12] := by rw [e18]; exact o15
    have p20 : mP M17 a0 22 = some b6 := by rw [e18]; exact p16
    refine e_goto (tgt := 22) C dX12_takesE_93 (by decide) ?_
    refine e_pick [0, 1, 2] rfl ?_
    exact hK22 (v2, M17) h
  · replace h := ite_t h q2
    refine e_iconst (v := 0) C dX12_takesE_51 (by decide) ?_
    exact e_zret C hr rfl hlk (Nat.le_refl _) (Nat.le_refl _) dX12_takesE_52 ⟨false, rfl, h⟩
set_option maxHeartbeats 4000000 in
set_option maxRecDepth 100000 in
theorem w_X12_takesE_B22 {p : Program} {l : Launch} {e : Env} {s : State} {m : MethodId} {args : Array Value} {below : List Frame} {meth : Method} {c : Code} {g : Geo} (C : Cx p s m args c cX12_takesE RX12 4 g) (hr : meth.sig.returnType = (some .boolean)) (hlk : meth.locks = false) {a0 : Nat} {x1 : Int32} {v2 : Int32} {M : Mem} {K22 : Int32 × Mem → Prop} {Q : Bool → Mem → Prop} (hK22 : ∀ z : Int32 × Mem, K22 z → E p l e (rmO 5 0 0) s m args below meth c g 4 (MQ below (QcM g (rZ Q)) args s 0 0 (gA g)) 0 0 22 [(0, .ref a0), (1, .int x1), (2, .int z.1)] [] (z.2)) (h : f_X12_takesE_B22 a0 x1 v2 M K22 Q) : E p l e (rmO 5 0 0) s m args below meth c g 4 (MQ below (QcM g (rZ Q)) args s 0 0 (gA g)) 0 0 22 [(0, .ref a0), (1, .int x1), (2, .int v2)] [] M := by
  unfold f_X12_takesE_B22 at h
  refine e_aload_n C 0 dX12_takesE_22 rfl rfl ?_
  obtain ⟨o3, h⟩ := h
  refine e_callV (as := []) C wb_X12_next wv_X12_223 (ci := 12) rfl rfl (isO_1 o3) (m_X12_next h) rfl ⟨Nat.le_of_ble_eq_true rfl, Nat.le_of_ble_eq_true rfl⟩ ⟨Nat.le_of_ble_eq_true rfl, Nat.le_of_ble_eq_true rfl⟩ (by first | exact Nat.le_of_ble_eq_true rfl | (simp only [List.map_cons, List.map_nil, va_cat, List.sum_cons, List.sum_nil]; exact Nat.le_of_ble_eq_true rfl)) dX12_takesE_23 (kI (fun w1 M2 h43 => ?_))
  refine e_istore_n (al' := [(3, .int w1), (0, .ref a0), (1, .int x1), (2, .int v2)]) C dX12_takesE_26 rfl (by decide) rfl ?_
  refine e_iload_n C 3 dX12_takesE_27 rfl rfl ?_
  refine e_if_eq (tgt := 110) C dX12_takesE_28 (by decide) (fun q4 => ?_) (fun q4 => ?_)
  · replace h43 := ite_t h43 q4
    refine e_iload_n C 0 dX12_takesE_110 rfl rfl ?_
    refine e_bipush (v := 38) C dX12_takesE_111 (by decide) ?_
    refine e_icmp_eq (tgt := 122) C dX12_takesE_113 (by decide) (fun q5 => ?_) (fun q5 => ?_)
    · replace h43 := ite_t h43 q5
      refine e_pick [1, 2, 0] rfl ?_
      exact w_X12_takesE_J122 C hr hlk hK22 h43
    · replace h43 := ite_f h43 q5
      refine e_iload_n C 0 dX12_takesE_116 rfl rfl ?_
      refine e_bipush (v := 124) C dX12_takesE_117 (by decide) ?_
      refine e_icmp_ne (tgt := 162) C dX12_takesE_119 (by decide) (fun q6 => ?_) (fun q6 => ?_)
      · replace h43 := ite_f h43 q6
        refine e_aload_n C 1 dX12_takesE_162 rfl rfl ?_
        refine e_bipush (v := 124) C dX12_takesE_163 (by decide) ?_
        obtain ⟨o9, h43⟩ := h43
        refine e_callV (as := [.int (124 : Int32)]) C wb_X12_settle wv_X12_251 (ci := 12) rfl rfl (isO_1 o9) (m_X12_settle h43) rfl ⟨Nat.le_of_ble_eq_true rfl, Nat.le_of_ble_eq_true rfl⟩ ⟨Nat.le_of_ble_eq_true rfl, Nat.le_of_ble_eq_true rfl⟩ (by first | exact Nat.le_of_ble_eq_true rfl | (simp only [List.map_cons, List.map_nil, va_cat, List.sum_cons, List.sum_nil]; exact Nat.le_of_ble_eq_true rfl)) dX12_takesE_165 (kV (fun M8 h35 => ?_))
        refine e_aload_n C 1 dX12_takesE_168 rfl rfl ?_
        obtain ⟨o10, h35⟩ := h35
        refine e_getR C [12] 20 (fg_of fg_X12_71) o10 dX12_takesE_169 ?_
        refine e_iload_n C 2 dX12_takesE_172 rfl rfl ?_
        refine e_aload_n C 1 dX12_takesE_173 rfl rfl ?_
        refine e_getI C [12] 23 (fg_of fg_X12_80) o10 dX12_takesE_174 ?_
        obtain ⟨b11, p12, h35⟩ := h35
        try rw [p12]
        obtain ⟨o13, h35⟩ := h35
        refine e_iast C o13 dX12_takesE_177 ?_
        refine nmE (fun M14 e15 => ?_)
        replace h35 := h35 M14 e15
        have o16 : isO M14 a0 [12] := by rw [e15]; exact o10
        have p17 : mP M14 a0 20 = some b11 := by rw [e15]; exact p12
        refine e_aload_n C 1 dX12_takesE_178 rfl rfl ?_
        refine e_getI C [12] 24 (fg_of fg_X12_83) o16 dX12_takesE_179 ?_
        refine e_if_ne (tgt := 187) C dX12_takesE_182 (by decide) (fun q18 => ?_) (fun q18 => ?_)
        · replace h35 := ite_f h35 q18
          refine e_iload_n C 0 dX12_takesE_187 rfl rfl ?_
          refine e_bipush (v := 41) C dX12_takesE_188 (by decide) ?_
          refine e_icmp_eq (tgt := 195) C dX12_takesE_190 (by decide) (fun q19 => ?_) (fun q19 => ?_)
          · replace h35 := ite_t h35 q19
            refine e_aload_n C 1 dX12_takesE_195 rfl rfl ?_
            refine e_dup C rfl dX12_takesE_196 ?_
            refine e_getI C [12] 24 (fg_of fg_X12_83) o16 dX12_takesE_197 ?_
            refine e_iconst (v := 1) C dX12_takesE_200 (by decide) ?_
            refine e_isub C dX12_takesE_201 ?_
            refine e_putI C [12] 24 false (fun z => by cases z) fp_X12_83 o16 dX12_takesE_202 ?_
            refine nmE (fun M20 e21 => ?_)
            replace h35 := h35 M20 e21
            have o22 : isO M20 a0 [12] := by rw [e21]; exact o16
            have p23 : mP M20 a0 20 = some b11 := by rw [e21]; exact p17
            refine e_aload_n C 1 dX12_takesE_205 rfl rfl ?_
            refine e_dup C rfl dX12_takesE_206 ?_
            refine e_getI C [12] 25 (fg_of fg_X12_86) o22 dX12_takesE_207 ?_
            refine e_iconst (v := 1) C dX12_takesE_210 (by decide) ?_
            refine e_isub C dX12_takesE_211 ?_
            refine e_putI C [12] 25 false (fun z => by cases z) fp_X12_86 o22 dX12_takesE_212 ?_
            refine nmE (fun M24 e25 => ?_)
            replace h35 := h35 M24 e25
            have o26 : isO M24 a0 [12] := by rw [e25]; exact o22
            have p27 : mP M24 a0 20 = some b11 := by rw [e25]; exact p23
            refine e_aload_n C 1 dX12_takesE_215 rfl rfl ?_
            refine e_dup C rfl dX12_takesE_216 ?_
            refine e_getI C [12] 12 (fg_of fg_X12_47) o26 dX12_takesE_217 ?_
            refine e_iconst (v := 1) C dX12_takesE_220 (by decide) ?_
            refine e_iadd C dX12_takesE_221 ?_
            refine e_putI C [12] 12 false (fun z => by cases z) fp_X12_47 o26 dX12_takesE_222 ?_
            refine nmE (fun M28 e29 => ?_)
            replace h35 := h35 M28 e29
            have o30 : isO M28 a0 [12] := by rw [e29]; exact o26
            have p31 : mP M28 a0 20 = some b11 := by rw [e29]; exact p27
            refine e_aload_n C 1 dX12_takesE_225 rfl rfl ?_
            refine e_callV (as := []) C wb_X12_whole wv_X12_245 (ci := 12) rfl rfl (isO_1 o30) (m_X12_whole h35) rfl ⟨Nat.le_of_ble_eq_true rfl, Nat.le_of_ble_eq_true rfl⟩ ⟨Nat.le_of_ble_eq_true rfl, Nat.le_of_ble_eq_true rfl⟩ (by first | exact Nat.le_of_ble_eq_true rfl | (simp only [List.map_cons, List.map_nil, va_cat, List.sum_cons, List.sum_nil]; exact Nat.le_of_ble_eq_true rfl)) dX12_takesE_226 (kV (fun M33 h34 => ?_))
            refine e_goto (tgt := 22) C dX12_takesE_229 (by decide) ?_
            refine e_pick [1, 2, 3] rfl ?_
            exact hK22 (v2, M33) h34
          · replace h35 := ite_f h35 q19
            refine e_iconst (v := 0) C dX12_takesE_193 (by decide) ?_
            exact e_zret C hr rfl hlk (Nat.le_refl _) (Nat.le_refl _) dX12_takesE_194 ⟨false, rfl, h35⟩
        · replace h35 := ite_t h35 q18
          refine e_iconst (v := 1) C dX12_takesE_185 (by decide) ?_
          exact e_zret C hr rfl hlk (Nat.le_refl _) (Nat.le_refl _) dX12_takesE_186 ⟨true, rfl, h35⟩
      · replace h43 := ite_t h43 q6
        refine e_pick [1, 2, 0] rfl ?_
        exact w_X12_takesE_J122 C hr hlk hK22 h43
  · replace h43 := ite_f h43 q4
    refine e_iload_n C 0 dX12_takesE_31 rfl rfl ?_
    refine e_bipush (v := 33) C dX12_takesE_32 (by decide) ?_
    refine e_icmp_eq (tgt := 43) C dX12_takesE_34 (by decide) (fun q36 => ?_) (fun q36 => ?_)
    · replace h43 := ite_t h43 q36
      refine e_pick [1, 2, 3, 0] rfl ?_
      exact w_X12_takesE_J43 C hr hlk hK22 h43
    · replace h43 := ite_f h43 q36
      refine e_iload_n C 0 dX12_takesE_37 rfl rfl ?_
      refine e_bipush (v := 40) C dX12_takesE_38 (by decide) ?_
      refine e_icmp_ne (tgt := 96) C dX12_takesE_40 (by decide) (fun q37 => ?_) (fun q37 => ?_)
      · replace h43 := ite_f h43 q37
        refine e_aload_n C 1 dX12_takesE_96 rfl rfl ?_
        obtain ⟨o40, h43⟩ := h43
        refine e_callV (as := []) C wb_X12_takesTest wv_X12_248 (ci := 12) rfl rfl (isO_1 o40) (m_X12_takesTest h43) rfl ⟨Nat.le_of_ble_eq_true rfl, Nat.le_of_ble_eq_true rfl⟩ ⟨Nat.le_of_ble_eq_true rfl, Nat.le_of_ble_eq_true rfl⟩ (by first | exact Nat.le_of_ble_eq_true rfl | (simp only [List.map_cons, List.map_nil, va_cat, List.sum_cons, List.sum_nil]; exact Nat.le_of_ble_eq_true rfl)) dX12_takesE_97 (kZ (fun w38 M39 h42 => ?_))
        refine e_if_eq (tgt := 108) C dX12_takesE_100 (by decide) (fun q41 => ?_) (fun q41 => ?_)
        · replace h42 := ite_f h42 (bi_ne q41)
          refine e_iconst (v := 0) C dX12_takesE_108 (by decide) ?_
          exact e_zret C hr rfl hlk (Nat.le_refl _) (Nat.le_refl _) dX12_takesE_109 ⟨false, rfl, h42⟩
        · replace h42 := ite_t h42 (bi_t q41)
          refine e_iconst (v := 0) C dX12_takesE_103 (by decide) ?_
          refine e_istore_n (al' := [(2, .int (0 : Int32)), (3, .int w1), (0, .ref a0), (1, .int x1)]) C dX12_takesE_104 rfl (by decide) rfl ?_
          refine e_goto (tgt := 22) C dX12_takesE_105 (by decide) ?_
          refine e_pick [2, 3, 0] rfl ?_
          exact hK22 ((0 : Int32), M39) h42
      · replace h43 := ite_t h43 q37
        refine e_pick [1, 2, 3, 0] rfl ?_
        exact w_X12_takesE_J43 C hr hlk hK22 h43
set_option maxHeartbeats 4000000 in
set_option maxRecDepth 100000 in
theorem w_X12_takesE_L22 {p : Program} {l : Launch} {e : Env} {s : State} {m : MethodId} {args : Array Value} {below : List Frame} {meth : Method} {c : Code} {g : Geo} (C : Cx p s m args c cX12_takesE RX12 4 g) (hr : meth.sig.returnType = (some .boolean)) (hlk : meth.locks = false) {a0 : Nat} {x1 : Int32} {v2 : Int32} {M : Mem} {Q : Bool → Mem → Prop} (h : f_X12_takesE_L22 a0 x1 v2 M Q) : E p l e (rmO 5 0 0) s m args below meth c g 4 (MQ below (QcM g (rZ Q)) args s 0 0 (gA g)) 0 0 22 [(0, .ref a0), (1, .int x1), (2, .int v2)] [] M := by
  unfold f_X12_takesE_L22 at h
  refine loop_E (W := fun z : Int32 × Mem => E p l e (rmO 5 0 0) s m args below meth c g 4 (MQ below (QcM g (rZ Q)) args s 0 0 (gA g)) 0 0 22 [(0, .ref a0), (1, .int x1), (2, .int z.1)] [] (z.2)) h (fun K z hK h => ?_)
  exact w_X12_takesE_B22 C hr hlk hK h
set_option maxHeartbeats 4000000 in
set_option maxRecDepth 100000 in
theorem w_X12_takesE {p : Program} {l : Launch} {e : Env} {s : State} {m : MethodId} {args : Array Value} {below : List Frame} {meth : Method} {c : Code} {g : Geo} (C : Cx p s m args c cX12_takesE RX12 4 g) (hr : meth.sig.returnType = (some .boolean)) (hlk : meth.locks = false) {a0 : Nat} {x1 : Int32} {M : Mem} {Q : Bool → Mem → Prop} (h : f_X12_takesE a0 x1 M Q) : E p l e (rmO 5 0 0) s m args below meth c g 4 (MQ below (QcM g (rZ Q)) args s 0 0 (gA g)) 0 0 0 [(0, .ref a0), (1, .int x1)] [] M := by
  unfold f_X12_takesE at h
  refine e_aload_n C 0 dX12_takesE_0 rfl rfl ?_
  refine e_iconst (v := 0) C dX12_takesE_1 (by decide) ?_
  obtain ⟨o1, h⟩ := h
  refine e_putI C [12] 24 false (fun z => by cases z) fp_X12_83 o1 dX12_takesE_2 ?_
  refine nmE (fun M2 e3 => ?_)
  replace h := h M2 e3
  have o4 : isO M2 a0 [12] := by rw [e3]; exact o1
  refine e_aload_n C 0 dX12_takesE_5 rfl rfl ?_
  refine e_iconst (v := 0) C dX12_takesE_6 (by decide) ?_
  refine e_putI C [12] 25 false (fun z => by cases z) fp_X12_86 o4 dX12_takesE_7 ?_
  refine nmE (fun M5 e6 => ?_)
  replace h := h M5 e6
  have o7 : isO M5 a0 [12] := by rw [e6]; exact o4
  refine e_aload_n C 0 dX12_takesE_10 rfl rfl ?_
  refine e_getR C [12] 19 (fg_of fg_X12_68) o7 dX12_takesE_11 ?_
  refine e_iload_n C 1 dX12_takesE_14 rfl rfl ?_
  refine e_aload_n C 0 dX12_takesE_15 rfl rfl ?_
  refine e_getI C [12] 23 (fg_of fg_X12_80) o7 dX12_takesE_16 ?_
  obtain ⟨b8, p9, h⟩ := h
  try rw [p9]
  obtain ⟨o10, h⟩ := h
  refine e_iast C o10 dX12_takesE_19 ?_
  refine nmE (fun M11 e12 => ?_)
  replace h := h M11 e12
  have o13 : isO M11 a0 [12] := by rw [e12]; exact o7
  have p14 : mP M11 a0 19 = some b8 := by rw [e12]; exact p9
  refine e_iconst (v := 1) C dX12_takesE_20 (by decide) ?_
  refine e_istore_n (al' := [(2, .int (1 : Int32)), (0, .ref a0), (1, .int x1)]) C dX12_takesE_21 rfl (by decide) rfl ?_
  refine e_pick [1, 2, 0] rfl ?_
  exact w_X12_takesE_L22 C hr hlk h
theorem m_X12_takesE  {a0 : Nat} {x1 : Int32} {M : Mem} {Q : Bool → Mem → Prop} (h : f_X12_takesE a0 x1 M Q) : Con yX12_takesE cX12_takesE 4 (some .boolean) 5 0 0 [.ref a0, .int x1] M (rZ Q) :=
  con_of2 (al := [(0, .ref a0), (1, .int x1)]) (by decide) (by exact Nat.le_of_ble_eq_true rfl) (by rfl) (fun p l e s m args below meth c g C hr hlk _ => w_X12_takesE C hr hlk h)
set_option maxHeartbeats 4000000 in
set_option maxRecDepth 100000 in
theorem w_X12_takesClause_J187 {p : Program} {l : Launch} {e : Env} {s : State} {m : MethodId} {args : Array Value} {below : List Frame} {meth : Method} {c : Code} {g : Geo} (C : Cx p s m args c cX12_takesClause RX12 3 g) (hr : meth.sig.returnType = (some .boolean)) (hlk : meth.locks = false) {a0 : Nat} {x1 : Int32} {M : Mem} {Q : Bool → Mem → Prop} (h : f_X12_takesClause_J187 a0 x1 M Q) : E p l e (rmO 6 0 0) s m args below meth c g 3 (MQ below (QcM g (rZ Q)) args s 0 0 (gA g)) 0 0 187 [(0, .ref a0), (1, .int x1)] [] M := by
  unfold f_X12_takesClause_J187 at h
  refine e_aload_n C 0 dX12_takesClause_187 rfl rfl ?_
  obtain ⟨o3, h⟩ := h
  refine e_callV (as := []) C wb_X12_takesNumber wv_X12_242 (ci := 12) rfl rfl (isO_1 o3) (m_X12_takesNumber h) rfl ⟨Nat.le_of_ble_eq_true rfl, Nat.le_of_ble_eq_true rfl⟩ ⟨Nat.le_of_ble_eq_true rfl, Nat.le_of_ble_eq_true rfl⟩ (by first | exact Nat.le_of_ble_eq_true rfl | (simp only [List.map_cons, List.map_nil, va_cat, List.sum_cons, List.sum_nil]; exact Nat.le_of_ble_eq_true rfl)) dX12_takesClause_188 (kZ (fun w1 M2 h13 => ?_))
  refine e_if_ne (tgt := 196) C dX12_takesClause_191 (by decide) (fun q4 => ?_) (fun q4 => ?_)
  · replace h13 := ite_t h13 (bi_t q4)
    refine e_aload_n C 0 dX12_takesClause_196 rfl rfl ?_
    obtain ⟨o5, h13⟩ := h13
    refine e_getR C [12] 18 (fg_of fg_X12_65) o5 dX12_takesClause_197 ?_
    refine e_iload_n C 1 dX12_takesClause_200 rfl rfl ?_
    refine e_aload_n C 0 dX12_takesClause_201 rfl rfl ?_
    refine e_getI C [12] 13 (fg_of fg_X12_50) o5 dX12_takesClause_202 ?_
    obtain ⟨b6, p7, h13⟩ := h13
    try rw [p7]
    obtain ⟨o8, h13⟩ := h13
    refine e_iast C o8 dX12_takesClause_205 ?_
    refine nmE (fun M9 e10 => ?_)
    replace h13 := h13 M9 e10
    have o11 : isO M9 a0 [12] := by rw [e10]; exact o5
    have p12 : mP M9 a0 18 = some b6 := by rw [e10]; exact p7
    refine e_iconst (v := 1) C dX12_takesClause_206 (by decide) ?_
    exact e_zret C hr rfl hlk (Nat.le_refl _) (Nat.le_refl _) dX12_takesClause_207 ⟨true, rfl, h13⟩
  · replace h13 := ite_f h13 (bi_ne q4)
    refine e_iconst (v := 0) C dX12_takesClause_194 (by decide) ?_
    exact e_zret C hr rfl hlk (Nat.le_refl _) (Nat.le_refl _) dX12_takesClause_195 ⟨false, rfl, h13⟩
set_option maxHeartbeats 4000000 in
set_option maxRecDepth 100000 in
theorem w_X12_takesClause_J133 {p : Program} {l : Launch} {e : Env} {s : State} {m : MethodId} {args : Array Value} {below : List Frame} {meth : Method} {c : Code} {g : Geo} (C : Cx p s m args c cX12_takesClause RX12 3 g) (hr : meth.sig.returnType = (some .boolean)) (hlk : meth.locks = false) {a0 : Nat} {x1 : Int32} {v2 : Int32} {t0 : Int32} {t1 : Int32} {t2 : Option Nat} {M : Mem} {Q : Bool → Mem → Prop} (h : f_X12_takesClause_J133 a0 x1 v2 t0 t1 t2 M Q) : E p l e (rmO 6 0 0) s m args below meth c g 3 (MQ below (QcM g (rZ Q)) args s 0 0 (gA g)) 0 0 133 [(0, .ref a0), (1, .int x1), (2, .int v2)] [.int t0, .int t1, va_rf t2] M := by
  unfold f_X12_takesClause_J133 at h
  obtain ⟨b1, rfl, h⟩ := h
  obtain ⟨o3, h⟩ := h
  refine e_iast C o3 dX12_takesClause_133 ?_
  refine nmE (fun M4 e5 => ?_)
  replace h := h M4 e5
  refine e_iload_n C 2 dX12_takesClause_134 rfl rfl ?_
  refine e_bipush (v := 115) C dX12_takesClause_135 (by decide) ?_
  refine e_icmp_ne (tgt := 154) C dX12_takesClause_137 (by decide) (fun q6 => ?_) (fun q6 => ?_)
  · replace h := ite_f h q6
    refine e_aload_n C 0 dX12_takesClause_154 rfl rfl ?_
    refine e_ldcw (v := 441925) C wd_1278 dX12_takesClause_155 ?_
    refine e_iconst (v := 4) C dX12_takesClause_158 (by decide) ?_
    obtain ⟨o9, h⟩ := h
    refine e_callV (as := [.int (441925 : Int32), .int (4 : Int32)]) C wb_X12_takesWord wv_X12_258 (ci := 12) rfl rfl (isO_1 o9) (m_X12_takesWord h) rfl ⟨Nat.le_of_ble_eq_true rfl, Nat.le_of_ble_eq_true rfl⟩ ⟨Nat.le_of_ble_eq_true rfl, Nat.le_of_ble_eq_true rfl⟩ (by first | exact Nat.le_of_ble_eq_true rfl | (simp only [List.map_cons, List.map_nil, va_cat, List.sum_cons, List.sum_nil]; exact Nat.le_of_ble_eq_true rfl)) dX12_takesClause_159 (kZ (fun w7 M8 h11 => ?_))
    refine e_if_ne (tgt := 187) C dX12_takesClause_162 (by decide) (fun q10 => ?_) (fun q10 => ?_)
    · replace h11 := ite_t h11 (bi_t q10)
      refine e_pick [0, 1] rfl ?_
      exact w_X12_takesClause_J187 C hr hlk h11
    · replace h11 := ite_f h11 (bi_ne q10)
      refine e_iconst (v := 0) C dX12_takesClause_165 (by decide) ?_
      exact e_zret C hr rfl hlk (Nat.le_refl _) (Nat.le_refl _) dX12_takesClause_166 ⟨false, rfl, h11⟩
  · replace h := ite_t h q6
    refine e_aload_n C 0 dX12_takesClause_140 rfl rfl ?_
    refine e_ldcw (v := 441972) C wd_1277 dX12_takesClause_141 ?_
    refine e_iconst (v := 4) C dX12_takesClause_144 (by decide) ?_
    obtain ⟨o14, h⟩ := h
    refine e_callV (as := [.int (441972 : Int32), .int (4 : Int32)]) C wb_X12_takesWord wv_X12_258 (ci := 12) rfl rfl (isO_1 o14) (m_X12_takesWord h) rfl ⟨Nat.le_of_ble_eq_true rfl, Nat.le_of_ble_eq_true rfl⟩ ⟨Nat.le_of_ble_eq_true rfl, Nat.le_of_ble_eq_true rfl⟩ (by first | exact Nat.le_of_ble_eq_true rfl | (simp only [List.map_cons, List.map_nil, va_cat, List.sum_cons, List.sum_nil]; exact Nat.le_of_ble_eq_true rfl)) dX12_takesClause_145 (kZ (fun w12 M13 h16 => ?_))
    refine e_if_eq (tgt := 165) C dX12_takesClause_148 (by decide) (fun q15 => ?_) (fun q15 => ?_)
    · replace h16 := ite_f h16 (bi_ne q15)
      refine e_iconst (v := 0) C dX12_takesClause_165 (by decide) ?_
      exact e_zret C hr rfl hlk (Nat.le_refl _) (Nat.le_refl _) dX12_takesClause_166 ⟨false, rfl, h16⟩
    · replace h16 := ite_t h16 (bi_t q15)
      refine e_goto (tgt := 187) C dX12_takesClause_151 (by decide) ?_
      refine e_pick [0, 1] rfl ?_
      exact w_X12_takesClause_J187 C hr hlk h16
set_option maxHeartbeats 4000000 in
set_option maxRecDepth 100000 in
theorem w_X12_takesClause {p : Program} {l : Launch} {e : Env} {s : State} {m : MethodId} {args : Array Value} {below : List Frame} {meth : Method} {c : Code} {g : Geo} (C : Cx p s m args c cX12_takesClause RX12 3 g) (hr : meth.sig.returnType = (some .boolean)) (hlk : meth.locks = false) {a0 : Nat} {x1 : Int32} {M : Mem} {Q : Bool → Mem → Prop} (h : f_X12_takesClause a0 x1 M Q) : E p l e (rmO 6 0 0) s m args below meth c g 3 (MQ below (QcM g (rZ Q)) args s 0 0 (gA g)) 0 0 0 [(0, .ref a0), (1, .int x1)] [] M := by
  unfold f_X12_takesClause at h
  refine e_aload_n C 0 dX12_takesClause_0 rfl rfl ?_
  obtain ⟨o3, h⟩ := h
  refine e_callV (as := []) C wb_X12_third wv_X12_254 (ci := 12) rfl rfl (isO_1 o3) (m_X12_third h) rfl ⟨Nat.le_of_ble_eq_true rfl, Nat.le_of_ble_eq_true rfl⟩ ⟨Nat.le_of_ble_eq_true rfl, Nat.le_of_ble_eq_true rfl⟩ (by first | exact Nat.le_of_ble_eq_true rfl | (simp only [List.map_cons, List.map_nil, va_cat, List.sum_cons, List.sum_nil]; exact Nat.le_of_ble_eq_true rfl)) dX12_takesClause_1 (kI (fun w1 M2 h67 => ?_))
  refine e_istore_n (al' := [(2, .int w1), (0, .ref a0), (1, .int x1)]) C dX12_takesClause_4 rfl (by decide) rfl ?_
  refine e_aload_n C 1 dX12_takesClause_5 rfl rfl ?_
  obtain ⟨o6, h67⟩ := h67
  refine e_callV (as := []) C wb_X12_next wv_X12_223 (ci := 12) rfl rfl (isO_1 o6) (m_X12_next h67) rfl ⟨Nat.le_of_ble_eq_true rfl, Nat.le_of_ble_eq_true rfl⟩ ⟨Nat.le_of_ble_eq_true rfl, Nat.le_of_ble_eq_true rfl⟩ (by first | exact Nat.le_of_ble_eq_true rfl | (simp only [List.map_cons, List.map_nil, va_cat, List.sum_cons, List.sum_nil]; exact Nat.le_of_ble_eq_true rfl)) dX12_takesClause_6 (kI (fun w4 M5 h66 => ?_))
  by_cases q7 : w4 = 99
  · replace h66 := ite_t h66 q7
    refine e_look (tgt := 36) C dX12_takesClause_9 (by decide) (by rw [q7] <;> rfl) (by decide) ?_
    refine e_aload_n C 1 dX12_takesClause_36 rfl rfl ?_
    obtain ⟨o8, h66⟩ := h66
    refine e_getR C [12] 16 (fg_of fg_X12_59) o8 dX12_takesClause_37 ?_
    refine e_iload_n C 2 dX12_takesClause_40 rfl rfl ?_
    refine e_iconst (v := 0) C dX12_takesClause_41 (by decide) ?_
    obtain ⟨b9, p10, h66⟩ := h66
    try rw [p10]
    obtain ⟨o11, h66⟩ := h66
    refine e_iast C o11 dX12_takesClause_42 ?_
    refine nmE (fun M12 e13 => ?_)
    replace h66 := h66 M12 e13
    have o14 : isO M12 a0 [12] := by rw [e13]; exact o8
    have p15 : mP M12 a0 16 = some b9 := by rw [e13]; exact p10
    refine e_aload_n C 1 dX12_takesClause_43 rfl rfl ?_
    refine e_ldcw (v := 114085) C wd_1236 dX12_takesClause_44 ?_
    refine e_iconst (v := 4) C dX12_takesClause_47 (by decide) ?_
    refine e_callV (as := [.int (114085 : Int32), .int (4 : Int32)]) C wb_X12_takesWord wv_X12_258 (ci := 12) rfl rfl (isO_1 o14) (m_X12_takesWord h66) rfl ⟨Nat.le_of_ble_eq_true rfl, Nat.le_of_ble_eq_true rfl⟩ ⟨Nat.le_of_ble_eq_true rfl, Nat.le_of_ble_eq_true rfl⟩ (by first | exact Nat.le_of_ble_eq_true rfl | (simp only [List.map_cons, List.map_nil, va_cat, List.sum_cons, List.sum_nil]; exact Nat.le_of_ble_eq_true rfl)) dX12_takesClause_48 (kZ (fun w16 M17 h50 => ?_))
    refine e_if_eq (tgt := 69) C dX12_takesClause_51 (by decide) (fun q18 => ?_) (fun q18 => ?_)
    · replace h50 := ite_f h50 (bi_ne q18)
      refine e_iconst (v := 0) C dX12_takesClause_69 (by decide) ?_
      exact e_zret C hr rfl hlk (Nat.le_refl _) (Nat.le_refl _) dX12_takesClause_70 ⟨false, rfl, h50⟩
    · replace h50 := ite_t h50 (bi_t q18)
      refine e_aload_n C 1 dX12_takesClause_54 rfl rfl ?_
      refine e_aload_n C 1 dX12_takesClause_55 rfl rfl ?_
      obtain ⟨o21, h50⟩ := h50
      refine e_callV (as := []) C wb_X12_next wv_X12_223 (ci := 12) rfl rfl (isO_1 o21) (m_X12_next h50) rfl ⟨Nat.le_of_ble_eq_true rfl, Nat.le_of_ble_eq_true rfl⟩ ⟨Nat.le_of_ble_eq_true rfl, Nat.le_of_ble_eq_true rfl⟩ (by first | exact Nat.le_of_ble_eq_true rfl | (simp only [List.map_cons, List.map_nil, va_cat, List.sum_cons, List.sum_nil]; exact Nat.le_of_ble_eq_true rfl)) dX12_takesClause_56 (kI (fun w19 M20 h49 => ?_))
      refine e_bipush (v := 48) C dX12_takesClause_59 (by decide) ?_
      refine e_bipush (v := 53) C dX12_takesClause_61 (by decide) ?_
      obtain ⟨o24, h49⟩ := h49
      refine e_callV (as := [.int w19, .int (48 : Int32), .int (53 : Int32)]) C wb_X12_in wv_X12_215 (ci := 12) rfl rfl (isO_1 o24) (m_X12_in h49) rfl ⟨Nat.le_of_ble_eq_true rfl, Nat.le_of_ble_eq_true rfl⟩ ⟨Nat.le_of_ble_eq_true rfl, Nat.le_of_ble_eq_true rfl⟩ (by first | exact Nat.le_of_ble_eq_true rfl | (simp only [List.map_cons, List.map_nil, va_cat, List.sum_cons, List.sum_nil]; exact Nat.le_of_ble_eq_true rfl)) dX12_takesClause_63 (kZ (fun w22 M23 h48 => ?_))
      refine e_if_ne (tgt := 71) C dX12_takesClause_66 (by decide) (fun q25 => ?_) (fun q25 => ?_)
      · replace h48 := ite_t h48 (bi_t q25)
        refine e_aload_n C 1 dX12_takesClause_71 rfl rfl ?_
        obtain ⟨o26, h48⟩ := h48
        refine e_getR C [12] 17 (fg_of fg_X12_62) o26 dX12_takesClause_72 ?_
        refine e_iload_n C 2 dX12_takesClause_75 rfl rfl ?_
        refine e_aload_n C 1 dX12_takesClause_76 rfl rfl ?_
        refine e_callV (as := []) C wb_X12_next wv_X12_223 (ci := 12) rfl rfl (isO_1 o26) (m_X12_next h48) rfl ⟨Nat.le_of_ble_eq_true rfl, Nat.le_of_ble_eq_true rfl⟩ ⟨Nat.le_of_ble_eq_true rfl, Nat.le_of_ble_eq_true rfl⟩ (by first | exact Nat.le_of_ble_eq_true rfl | (simp only [List.map_cons, List.map_nil, va_cat, List.sum_cons, List.sum_nil]; exact Nat.le_of_ble_eq_true rfl)) dX12_takesClause_77 (kI (fun w27 M28 h47 => ?_))
        refine e_bipush (v := 48) C dX12_takesClause_80 (by decide) ?_
        refine e_isub C dX12_takesClause_82 ?_
        obtain ⟨b29, p30, h47⟩ := h47
        try rw [p30]
        obtain ⟨o31, h47⟩ := h47
        refine e_iast C o31 dX12_takesClause_83 ?_
        refine nmE (fun M32 e33 => ?_)
        replace h47 := h47 M32 e33
        refine e_aload_n C 1 dX12_takesClause_84 rfl rfl ?_
        refine e_dup C rfl dX12_takesClause_85 ?_
        obtain ⟨o34, h47⟩ := h47
        refine e_getI C [12] 12 (fg_of fg_X12_47) o34 dX12_takesClause_86 ?_
        refine e_iconst (v := 1) C dX12_takesClause_89 (by decide) ?_
        refine e_iadd C dX12_takesClause_90 ?_
        refine e_putI C [12] 12 false (fun z => by cases z) fp_X12_47 o34 dX12_takesClause_91 ?_
        refine nmE (fun M35 e36 => ?_)
        replace h47 := h47 M35 e36
        have o37 : isO M35 a0 [12] := by rw [e36]; exact o34
        refine e_aload_n C 1 dX12_takesClause_94 rfl rfl ?_
        refine e_bipush (v := 32) C dX12_takesClause_95 (by decide) ?_
        refine e_callV (as := [.int (32 : Int32)]) C wb_X12_takesSign wv_X12_227 (ci := 12) rfl rfl (isO_1 o37) (m_X12_takesSign h47) rfl ⟨Nat.le_of_ble_eq_true rfl, Nat.le_of_ble_eq_true rfl⟩ ⟨Nat.le_of_ble_eq_true rfl, Nat.le_of_ble_eq_true rfl⟩ (by first | exact Nat.le_of_ble_eq_true rfl | (simp only [List.map_cons, List.map_nil, va_cat, List.sum_cons, List.sum_nil]; exact Nat.le_of_ble_eq_true rfl)) dX12_takesClause_97 (kZ (fun w38 M39 h46 => ?_))
        refine e_if_eq (tgt := 115) C dX12_takesClause_100 (by decide) (fun q40 => ?_) (fun q40 => ?_)
        · replace h46 := ite_f h46 (bi_ne q40)
          refine e_iconst (v := 0) C dX12_takesClause_115 (by decide) ?_
          exact e_zret C hr rfl hlk (Nat.le_refl _) (Nat.le_refl _) dX12_takesClause_116 ⟨false, rfl, h46⟩
        · replace h46 := ite_t h46 (bi_t q40)
          refine e_aload_n C 1 dX12_takesClause_103 rfl rfl ?_
          refine e_iload_n C 2 dX12_takesClause_104 rfl rfl ?_
          obtain ⟨o43, h46⟩ := h46
          refine e_callV (as := [.int x1]) C wb_X12_takesE wv_X12_262 (ci := 12) rfl rfl (isO_1 o43) (m_X12_takesE h46) rfl ⟨Nat.le_of_ble_eq_true rfl, Nat.le_of_ble_eq_true rfl⟩ ⟨Nat.le_of_ble_eq_true rfl, Nat.le_of_ble_eq_true rfl⟩ (by first | exact Nat.le_of_ble_eq_true rfl | (simp only [List.map_cons, List.map_nil, va_cat, List.sum_cons, List.sum_nil]; exact Nat.le_of_ble_eq_true rfl)) dX12_takesClause_105 (kZ (fun w41 M42 h45 => ?_))
          refine e_if_eq (tgt := 115) C dX12_takesClause_108 (by decide) (fun q44 => ?_) (fun q44 => ?_)
          · replace h45 := ite_f h45 (bi_ne q44)
            refine e_iconst (v := 0) C dX12_takesClause_115 (by decide) ?_
            exact e_zret C hr rfl hlk (Nat.le_refl _) (Nat.le_refl _) dX12_takesClause_116 ⟨false, rfl, h45⟩
          · replace h45 := ite_t h45 (bi_t q44)
            refine e_iconst (v := 1) C dX12_takesClause_111 (by decide) ?_
            refine e_goto (tgt := 116) C dX12_takesClause_112 (by decide) ?_
            exact e_zret C hr rfl hlk (Nat.le_refl _) (Nat.le_refl _) dX12_takesClause_116 ⟨true, rfl, h45⟩
      · replace h48 := ite_f h48 (bi_ne q25)
        refine e_iconst (v := 0) C dX12_takesClause_69 (by decide) ?_
        exact e_zret C hr rfl hlk (Nat.le_refl _) (Nat.le_refl _) dX12_takesClause_70 ⟨false, rfl, h48⟩
  · replace h66 := ite_f h66 q7
    by_cases q51 : w4 = 109
    · replace h66 := ite_t h66 q51
      refine e_look (tgt := 117) C dX12_takesClause_9 (by decide) (by rw [q51] <;> rfl) (by decide) ?_
      refine e_aload_n C 1 dX12_takesClause_117 rfl rfl ?_
      obtain ⟨o52, h66⟩ := h66
      refine e_getR C [12] 16 (fg_of fg_X12_59) o52 dX12_takesClause_118 ?_
      refine e_iload_n C 2 dX12_takesClause_121 rfl rfl ?_
      refine e_iload_n C 0 dX12_takesClause_122 rfl rfl ?_
      refine e_bipush (v := 115) C dX12_takesClause_123 (by decide) ?_
      refine e_icmp_ne (tgt := 132) C dX12_takesClause_125 (by decide) (fun q53 => ?_) (fun q53 => ?_)
      · replace h66 := ite_f h66 q53
        refine e_iconst (v := 2) C dX12_takesClause_132 (by decide) ?_
        refine e_pick [1, 2, 0] rfl ?_
        exact w_X12_takesClause_J133 C hr hlk h66
      · replace h66 := ite_t h66 q53
        refine e_iconst (v := 3) C dX12_takesClause_128 (by decide) ?_
        refine e_goto (tgt := 133) C dX12_takesClause_129 (by decide) ?_
        refine e_pick [1, 2, 0] rfl ?_
        exact w_X12_takesClause_J133 C hr hlk h66
    · replace h66 := ite_f h66 q51
      refine e_look (tgt := 167) (off := 158) C dX12_takesClause_9 (by decide) (show Op.lookupswitch.offset [(99, 27), (109, 108)] 158 _ = _ by rw [lv_osw q7 (by decide), lv_osw q51 (by decide)] <;> rfl) (by decide) ?_
      refine e_aload_n C 1 dX12_takesClause_167 rfl rfl ?_
      obtain ⟨o54, h66⟩ := h66
      refine e_getR C [12] 16 (fg_of fg_X12_59) o54 dX12_takesClause_168 ?_
      refine e_iload_n C 2 dX12_takesClause_171 rfl rfl ?_
      refine e_iconst (v := 1) C dX12_takesClause_172 (by decide) ?_
      obtain ⟨b55, p56, h66⟩ := h66
      try rw [p56]
      obtain ⟨o57, h66⟩ := h66
      refine e_iast C o57 dX12_takesClause_173 ?_
      refine nmE (fun M58 e59 => ?_)
      replace h66 := h66 M58 e59
      have o60 : isO M58 a0 [12] := by rw [e59]; exact o54
      have p61 : mP M58 a0 16 = some b55 := by rw [e59]; exact p56
      refine e_aload_n C 1 dX12_takesClause_174 rfl rfl ?_
      refine e_ldcw (v := 17376357) C wd_1279 dX12_takesClause_175 ?_
      refine e_iconst (v := 5) C dX12_takesClause_178 (by decide) ?_
      refine e_callV (as := [.int (17376357 : Int32), .int (5 : Int32)]) C wb_X12_takesWord wv_X12_258 (ci := 12) rfl rfl (isO_1 o60) (m_X12_takesWord h66) rfl ⟨Nat.le_of_ble_eq_true rfl, Nat.le_of_ble_eq_true rfl⟩ ⟨Nat.le_of_ble_eq_true rfl, Nat.le_of_ble_eq_true rfl⟩ (by first | exact Nat.le_of_ble_eq_true rfl | (simp only [List.map_cons, List.map_nil, va_cat, List.sum_cons, List.sum_nil]; exact Nat.le_of_ble_eq_true rfl)) dX12_takesClause_179 (kZ (fun w62 M63 h65 => ?_))
      refine e_if_ne (tgt := 187) C dX12_takesClause_182 (by decide) (fun q64 => ?_) (fun q64 => ?_)
      · replace h65 := ite_t h65 (bi_t q64)
        refine e_pick [1, 2] rfl ?_
        exact w_X12_takesClause_J187 C hr hlk h65
      · replace h65 := ite_f h65 (bi_ne q64)
        refine e_iconst (v := 0) C dX12_takesClause_185 (by decide) ?_
        exact e_zret C hr rfl hlk (Nat.le_refl _) (Nat.le_refl _) dX12_takesClause_186 ⟨false, rfl, h65⟩
theorem m_X12_takesClause  {a0 : Nat} {x1 : Int32} {M : Mem} {Q : Bool → Mem → Prop} (h : f_X12_takesClause a0 x1 M Q) : Con yX12_takesClause cX12_takesClause 3 (some .boolean) 6 0 0 [.ref a0, .int x1] M (rZ Q) :=
  con_of2 (al := [(0, .ref a0), (1, .int x1)]) (by decide) (by exact Nat.le_of_ble_eq_true rfl) (by rfl) (fun p l e s m args below meth c g C hr hlk _ => w_X12_takesClause C hr hlk h)
set_option maxHeartbeats 4000000 in
set_option maxRecDepth 100000 in
theorem w_X12_goesText_B15 {p : Program} {l : Launch} {e : Env} {s : State} {m : MethodId} {args : Array Value} {below : List Frame} {meth : Method} {c : Code} {g : Geo} (C : Cx p s m args c cX12_goesText RX12 3 g) (hr : meth.sig.returnType = (some .boolean)) (hlk : meth.locks = false) {a0 : Nat} {x1 : Int32} {v2 : Int32} {M : Mem} {K15 : Int32 × Mem → Prop} {Q : Bool → Mem → Prop} (hK15 : ∀ z : Int32 × Mem, K15 z → E p l e (rmO 7 0 0) s m args below meth c g 3 (MQ below (QcM g (rZ Q)) args s 0 0 (gA g)) 0 0 15 [(0, .ref a0), (1, .int x1), (2, .int z.1)] [] (z.2)) (h : f_X12_goesText_B15 a0 x1 v2 M K15 Q) : E p l e (rmO 7 0 0) s m args below meth c g 3 (MQ below (QcM g (rZ Q)) args s 0 0 (gA g)) 0 0 15 [(0, .ref a0), (1, .int x1), (2, .int v2)] [] M := by
  unfold f_X12_goesText_B15 at h
  refine e_aload_n C 0 dX12_goesText_15 rfl rfl ?_
  refine e_bipush (v := 8) C dX12_goesText_16 (by decide) ?_
  refine e_iload_n C 1 dX12_goesText_18 rfl rfl ?_
  refine e_imul C dX12_goesText_19 ?_
  refine e_iload_n C 2 dX12_goesText_20 rfl rfl ?_
  refine e_iadd C dX12_goesText_21 ?_
  obtain ⟨o3, h⟩ := h
  refine e_callV (as := [.int (((8 : Int32) * x1) + v2)]) C wb_X12_takesClause wv_X12_268 (ci := 12) rfl rfl (isO_1 o3) (m_X12_takesClause h) rfl ⟨Nat.le_of_ble_eq_true rfl, Nat.le_of_ble_eq_true rfl⟩ ⟨Nat.le_of_ble_eq_true rfl, Nat.le_of_ble_eq_true rfl⟩ (by first | exact Nat.le_of_ble_eq_true rfl | (simp only [List.map_cons, List.map_nil, va_cat, List.sum_cons, List.sum_nil]; exact Nat.le_of_ble_eq_true rfl)) dX12_goesText_22 (kZ (fun w1 M2 h19 => ?_))
  refine e_if_ne (tgt := 30) C dX12_goesText_25 (by decide) (fun q4 => ?_) (fun q4 => ?_)
  · replace h19 := ite_t h19 (bi_t q4)
    refine e_iinc (v := (v2 + 1)) (al' := [(2, .int (v2 + 1)), (0, .ref a0), (1, .int x1)]) C 2 dX12_goesText_30 rfl rfl (by decide) rfl ?_
    refine e_aload_n C 1 dX12_goesText_33 rfl rfl ?_
    obtain ⟨o5, h19⟩ := h19
    refine e_getR C [12] 15 (fg_of fg_X12_56) o5 dX12_goesText_34 ?_
    refine e_iload_n C 2 dX12_goesText_37 rfl rfl ?_
    refine e_iload_n C 0 dX12_goesText_38 rfl rfl ?_
    obtain ⟨b6, p7, h19⟩ := h19
    try rw [p7]
    obtain ⟨o8, h19⟩ := h19
    refine e_iast C o8 dX12_goesText_39 ?_
    refine nmE (fun M9 e10 => ?_)
    replace h19 := h19 M9 e10
    have o11 : isO M9 a0 [12] := by rw [e10]; exact o5
    have p12 : mP M9 a0 15 = some b6 := by rw [e10]; exact p7
    refine e_aload_n C 1 dX12_goesText_40 rfl rfl ?_
    refine e_getI C [12] 12 (fg_of fg_X12_47) o11 dX12_goesText_41 ?_
    refine e_aload_n C 1 dX12_goesText_44 rfl rfl ?_
    refine e_getI C [12] 11 (fg_of fg_X12_44) o11 dX12_goesText_45 ?_
    refine e_icmp_ne (tgt := 53) C dX12_goesText_48 (by decide) (fun q13 => ?_) (fun q13 => ?_)
    · replace h19 := ite_f h19 q13
      refine e_iload_n C 0 dX12_goesText_53 rfl rfl ?_
      refine e_bipush (v := 8) C dX12_goesText_54 (by decide) ?_
      refine e_icmp_eq (tgt := 68) C dX12_goesText_56 (by decide) (fun q14 => ?_) (fun q14 => ?_)
      · replace h19 := ite_t h19 q14
        refine e_iconst (v := 0) C dX12_goesText_68 (by decide) ?_
        exact e_zret C hr rfl hlk (Nat.le_refl _) (Nat.le_refl _) dX12_goesText_69 ⟨false, rfl, h19⟩
      · replace h19 := ite_f h19 q14
        refine e_aload_n C 1 dX12_goesText_59 rfl rfl ?_
        refine e_bipush (v := 59) C dX12_goesText_60 (by decide) ?_
        refine e_callV (as := [.int (59 : Int32)]) C wb_X12_takesSign wv_X12_227 (ci := 12) rfl rfl (isO_1 o11) (m_X12_takesSign h19) rfl ⟨Nat.le_of_ble_eq_true rfl, Nat.le_of_ble_eq_true rfl⟩ ⟨Nat.le_of_ble_eq_true rfl, Nat.le_of_ble_eq_true rfl⟩ (by first | exact Nat.le_of_ble_eq_true rfl | (simp only [List.map_cons, List.map_nil, va_cat, List.sum_cons, List.sum_nil]; exact Nat.le_of_ble_eq_true rfl)) dX12_goesText_62 (kZ (fun w15 M16 h18 => ?_))
        refine e_if_ne (tgt := 15) C dX12_goesText_65 (by decide) (fun q17 => ?_) (fun q17 => ?_)
        · replace h18 := ite_t h18 (bi_t q17)
          refine e_pick [1, 2, 0] rfl ?_
          exact hK15 ((v2 + 1), M16) h18
        · replace h18 := ite_f h18 (bi_ne q17)
          refine e_iconst (v := 0) C dX12_goesText_68 (by decide) ?_
          exact e_zret C hr rfl hlk (Nat.le_refl _) (Nat.le_refl _) dX12_goesText_69 ⟨false, rfl, h18⟩
    · replace h19 := ite_t h19 q13
      refine e_iconst (v := 1) C dX12_goesText_51 (by decide) ?_
      exact e_zret C hr rfl hlk (Nat.le_refl _) (Nat.le_refl _) dX12_goesText_52 ⟨true, rfl, h19⟩
  · replace h19 := ite_f h19 (bi_ne q4)
    refine e_iconst (v := 0) C dX12_goesText_28 (by decide) ?_
    exact e_zret C hr rfl hlk (Nat.le_refl _) (Nat.le_refl _) dX12_goesText_29 ⟨false, rfl, h19⟩
set_option maxHeartbeats 4000000 in
set_option maxRecDepth 100000 in
theorem w_X12_goesText_L15 {p : Program} {l : Launch} {e : Env} {s : State} {m : MethodId} {args : Array Value} {below : List Frame} {meth : Method} {c : Code} {g : Geo} (C : Cx p s m args c cX12_goesText RX12 3 g) (hr : meth.sig.returnType = (some .boolean)) (hlk : meth.locks = false) {a0 : Nat} {x1 : Int32} {v2 : Int32} {M : Mem} {Q : Bool → Mem → Prop} (h : f_X12_goesText_L15 a0 x1 v2 M Q) : E p l e (rmO 7 0 0) s m args below meth c g 3 (MQ below (QcM g (rZ Q)) args s 0 0 (gA g)) 0 0 15 [(0, .ref a0), (1, .int x1), (2, .int v2)] [] M := by
  unfold f_X12_goesText_L15 at h
  refine loop_E (W := fun z : Int32 × Mem => E p l e (rmO 7 0 0) s m args below meth c g 3 (MQ below (QcM g (rZ Q)) args s 0 0 (gA g)) 0 0 15 [(0, .ref a0), (1, .int x1), (2, .int z.1)] [] (z.2)) h (fun K z hK h => ?_)
  exact w_X12_goesText_B15 C hr hlk hK h
set_option maxHeartbeats 4000000 in
set_option maxRecDepth 100000 in
theorem w_X12_goesText {p : Program} {l : Launch} {e : Env} {s : State} {m : MethodId} {args : Array Value} {below : List Frame} {meth : Method} {c : Code} {g : Geo} (C : Cx p s m args c cX12_goesText RX12 3 g) (hr : meth.sig.returnType = (some .boolean)) (hlk : meth.locks = false) {a0 : Nat} {x1 : Int32} {M : Mem} {Q : Bool → Mem → Prop} (h : f_X12_goesText a0 x1 M Q) : E p l e (rmO 7 0 0) s m args below meth c g 3 (MQ below (QcM g (rZ Q)) args s 0 0 (gA g)) 0 0 0 [(0, .ref a0), (1, .int x1)] [] M := by
  unfold f_X12_goesText at h
  refine e_aload_n C 0 dX12_goesText_0 rfl rfl ?_
  refine e_iconst (v := 0) C dX12_goesText_1 (by decide) ?_
  obtain ⟨o1, h⟩ := h
  refine e_putI C [12] 12 false (fun z => by cases z) fp_X12_47 o1 dX12_goesText_2 ?_
  refine nmE (fun M2 e3 => ?_)
  replace h := h M2 e3
  have o4 : isO M2 a0 [12] := by rw [e3]; exact o1
  refine e_aload_n C 0 dX12_goesText_5 rfl rfl ?_
  refine e_bipush (v := 100) C dX12_goesText_6 (by decide) ?_
  refine e_iload_n C 1 dX12_goesText_8 rfl rfl ?_
  refine e_imul C dX12_goesText_9 ?_
  refine e_putI C [12] 23 false (fun z => by cases z) fp_X12_80 o4 dX12_goesText_10 ?_
  refine nmE (fun M5 e6 => ?_)
  replace h := h M5 e6
  have o7 : isO M5 a0 [12] := by rw [e6]; exact o4
  refine e_iconst (v := 0) C dX12_goesText_13 (by decide) ?_
  refine e_istore_n (al' := [(2, .int (0 : Int32)), (0, .ref a0), (1, .int x1)]) C dX12_goesText_14 rfl (by decide) rfl ?_
  refine e_pick [1, 2, 0] rfl ?_
  exact w_X12_goesText_L15 C hr hlk h
theorem m_X12_goesText  {a0 : Nat} {x1 : Int32} {M : Mem} {Q : Bool → Mem → Prop} (h : f_X12_goesText a0 x1 M Q) : Con yX12_goesText cX12_goesText 3 (some .boolean) 7 0 0 [.ref a0, .int x1] M (rZ Q) :=
  con_of2 (al := [(0, .ref a0), (1, .int x1)]) (by decide) (by exact Nat.le_of_ble_eq_true rfl) (by rfl) (fun p l e s m args below meth c g C hr hlk _ => w_X12_goesText C hr hlk h)
set_option maxHeartbeats 4000000 in
set_option maxRecDepth 100000 in
theorem w_X12_window {p : Program} {l : Launch} {e : Env} {s : State} {m : MethodId} {args : Array Value} {below : List Frame} {meth : Method} {c : Code} {g : Geo} (C : Cx p s m args c cX12_window RX12 2 g) (hr : meth.sig.returnType = (some .int)) (hlk : meth.locks = false) {a0 : Nat} {M : Mem} {Q : Int32 → Mem → Prop} (h : f_X12_window a0 M Q) : E p l e (rmO 8 0 0) s m args below meth c g 2 (MQ below (QcM g (rI Q)) args s 0 0 (gA g)) 0 0 0 [(0, .ref a0)] [] M := by
  unfold f_X12_window at h
  refine e_aload_n C 0 dX12_window_0 rfl rfl ?_
  obtain ⟨o1, h⟩ := h
  refine e_getI C [12] 9 (fg_of fg_X12_38) o1 dX12_window_1 ?_
  refine e_bipush (v := 6) C dX12_window_4 (by decide) ?_
  refine e_icmp_ne (tgt := 12) C dX12_window_6 (by decide) (fun q2 => ?_) (fun q2 => ?_)
  · replace h := ite_f h q2
    refine e_aload_n C 0 dX12_window_12 rfl rfl ?_
    refine e_aload_n C 0 dX12_window_13 rfl rfl ?_
    refine e_getI C [12] 9 (fg_of fg_X12_38) o1 dX12_window_14 ?_
    refine e_callV (as := [.int (mI M a0 9)]) C wb_X12_goesText wv_X12_271 (ci := 12) rfl rfl (isO_1 o1) (m_X12_goesText h) rfl ⟨Nat.le_of_ble_eq_true rfl, Nat.le_of_ble_eq_true rfl⟩ ⟨Nat.le_of_ble_eq_true rfl, Nat.le_of_ble_eq_true rfl⟩ (by first | exact Nat.le_of_ble_eq_true rfl | (simp only [List.map_cons, List.map_nil, va_cat, List.sum_cons, List.sum_nil]; exact Nat.le_of_ble_eq_true rfl)) dX12_window_17 (kZ (fun w3 M4 h16 => ?_))
    refine e_istore_n (al' := [(1, .int (bi w3)), (0, .ref a0)]) C dX12_window_20 rfl (by decide) rfl ?_
    refine e_aload_n C 1 dX12_window_21 rfl rfl ?_
    refine e_iconst (v := 0) C dX12_window_22 (by decide) ?_
    obtain ⟨o5, h16⟩ := h16
    refine e_putI C [12] 11 false (fun z => by cases z) fp_X12_44 o5 dX12_window_23 ?_
    refine nmE (fun M6 e7 => ?_)
    replace h16 := h16 M6 e7
    have o8 : isO M6 a0 [12] := by rw [e7]; exact o5
    refine e_iload_n C 0 dX12_window_26 rfl rfl ?_
    refine e_if_ne (tgt := 38) C dX12_window_27 (by decide) (fun q9 => ?_) (fun q9 => ?_)
    · replace h16 := ite_t h16 (bi_t q9)
      refine e_aload_n C 1 dX12_window_38 rfl rfl ?_
      refine e_aload_n C 1 dX12_window_39 rfl rfl ?_
      refine e_getI C [12] 9 (fg_of fg_X12_38) o8 dX12_window_40 ?_
      refine e_putI C [12] 10 false (fun z => by cases z) fp_X12_41 o8 dX12_window_43 ?_
      refine nmE (fun M10 e11 => ?_)
      replace h16 := h16 M10 e11
      have o12 : isO M10 a0 [12] := by rw [e11]; exact o8
      refine e_aload_n C 1 dX12_window_46 rfl rfl ?_
      refine e_dup C rfl dX12_window_47 ?_
      refine e_getI C [12] 9 (fg_of fg_X12_38) o12 dX12_window_48 ?_
      refine e_iconst (v := 1) C dX12_window_51 (by decide) ?_
      refine e_iadd C dX12_window_52 ?_
      refine e_putI C [12] 9 false (fun z => by cases z) fp_X12_38 o12 dX12_window_53 ?_
      refine nmE (fun M13 e14 => ?_)
      replace h16 := h16 M13 e14
      have o15 : isO M13 a0 [12] := by rw [e14]; exact o12
      refine e_aload_n C 1 dX12_window_56 rfl rfl ?_
      refine e_getI C [12] 10 (fg_of fg_X12_41) o15 dX12_window_57 ?_
      exact e_iret C hr hlk (Nat.le_refl _) (Nat.le_refl _) dX12_window_60 ⟨_, rfl, h16⟩
    · replace h16 := ite_f h16 (bi_ne q9)
      refine e_bipush (v := -10) C dX12_window_30 (by decide) ?_
      refine e_aload_n C 1 dX12_window_32 rfl rfl ?_
      refine e_getI C [12] 12 (fg_of fg_X12_47) o8 dX12_window_33 ?_
      refine e_isub C dX12_window_36 ?_
      exact e_iret C hr hlk (Nat.le_refl _) (Nat.le_refl _) dX12_window_37 ⟨_, rfl, h16⟩
  · replace h := ite_t h q2
    refine e_bipush (v := -4) C dX12_window_9 (by decide) ?_
    exact e_iret C hr hlk (Nat.le_refl _) (Nat.le_refl _) dX12_window_11 ⟨_, rfl, h⟩
theorem m_X12_window  {a0 : Nat} {M : Mem} {Q : Int32 → Mem → Prop} (h : f_X12_window a0 M Q) : Con yX12_window cX12_window 2 (some .int) 8 0 0 [.ref a0] M (rI Q) :=
  con_of2 (al := [(0, .ref a0)]) (by decide) (by exact Nat.le_of_ble_eq_true rfl) (by rfl) (fun p l e s m args below meth c g C hr hlk _ => w_X12_window C hr hlk h)
set_option maxHeartbeats 4000000 in
set_option maxRecDepth 100000 in
theorem w_X12_first {p : Program} {l : Launch} {e : Env} {s : State} {m : MethodId} {args : Array Value} {below : List Frame} {meth : Method} {c : Code} {g : Geo} (C : Cx p s m args c cX12_first RX12 1 g) (hr : meth.sig.returnType = (some .int)) (hlk : meth.locks = false) {a0 : Nat} {M : Mem} {Q : Int32 → Mem → Prop} (h : f_X12_first a0 M Q) : E p l e (rmO 1 0 0) s m args below meth c g 1 (MQ below (QcM g (rI Q)) args s 0 0 (gA g)) 0 0 0 [(0, .ref a0)] [] M := by
  unfold f_X12_first at h
  refine e_aload_n C 0 dX12_first_0 rfl rfl ?_
  obtain ⟨o1, h⟩ := h
  refine e_getI C [12] 10 (fg_of fg_X12_41) o1 dX12_first_1 ?_
  refine e_if_ge (tgt := 11) C dX12_first_4 (by decide) (fun q2 => ?_) (fun q2 => ?_)
  · replace h := ite_t h q2
    refine e_bipush (v := 8) C dX12_first_11 (by decide) ?_
    refine e_aload_n C 0 dX12_first_13 rfl rfl ?_
    refine e_getI C [12] 10 (fg_of fg_X12_41) o1 dX12_first_14 ?_
    refine e_imul C dX12_first_17 ?_
    exact e_iret C hr hlk (Nat.le_refl _) (Nat.le_refl _) dX12_first_18 ⟨_, rfl, h⟩
  · replace h := ite_f h q2
    refine e_iconst (v := 0) C dX12_first_7 (by decide) ?_
    refine e_goto (tgt := 18) C dX12_first_8 (by decide) ?_
    exact e_iret C hr hlk (Nat.le_refl _) (Nat.le_refl _) dX12_first_18 ⟨_, rfl, h⟩
theorem m_X12_first  {a0 : Nat} {M : Mem} {Q : Int32 → Mem → Prop} (h : f_X12_first a0 M Q) : Con yX12_first cX12_first 1 (some .int) 1 0 0 [.ref a0] M (rI Q) :=
  con_of2 (al := [(0, .ref a0)]) (by decide) (by exact Nat.le_of_ble_eq_true rfl) (by rfl) (fun p l e s m args below meth c g C hr hlk _ => w_X12_first C hr hlk h)
set_option maxHeartbeats 4000000 in
set_option maxRecDepth 100000 in
theorem w_X12_behind {p : Program} {l : Launch} {e : Env} {s : State} {m : MethodId} {args : Array Value} {below : List Frame} {meth : Method} {c : Code} {g : Geo} (C : Cx p s m args c cX12_behind RX12 1 g) (hr : meth.sig.returnType = (some .int)) (hlk : meth.locks = false) {a0 : Nat} {M : Mem} {Q : Int32 → Mem → Prop} (h : f_X12_behind a0 M Q) : E p l e (rmO 1 0 0) s m args below meth c g 1 (MQ below (QcM g (rI Q)) args s 0 0 (gA g)) 0 0 0 [(0, .ref a0)] [] M := by
  unfold f_X12_behind at h
  refine e_aload_n C 0 dX12_behind_0 rfl rfl ?_
  obtain ⟨o1, h⟩ := h
  refine e_getI C [12] 10 (fg_of fg_X12_41) o1 dX12_behind_1 ?_
  refine e_if_ge (tgt := 11) C dX12_behind_4 (by decide) (fun q2 => ?_) (fun q2 => ?_)
  · replace h := ite_t h q2
    refine e_bipush (v := 8) C dX12_behind_11 (by decide) ?_
    refine e_aload_n C 0 dX12_behind_13 rfl rfl ?_
    refine e_getI C [12] 10 (fg_of fg_X12_41) o1 dX12_behind_14 ?_
    refine e_imul C dX12_behind_17 ?_
    refine e_aload_n C 0 dX12_behind_18 rfl rfl ?_
    refine e_getR C [12] 15 (fg_of fg_X12_56) o1 dX12_behind_19 ?_
    refine e_aload_n C 0 dX12_behind_22 rfl rfl ?_
    refine e_getI C [12] 10 (fg_of fg_X12_41) o1 dX12_behind_23 ?_
    obtain ⟨b3, p4, h⟩ := h
    try rw [p4]
    obtain ⟨o5, h⟩ := h
    refine e_iald C o5 dX12_behind_26 ?_
    refine e_iadd C dX12_behind_27 ?_
    exact e_iret C hr hlk (Nat.le_refl _) (Nat.le_refl _) dX12_behind_28 ⟨_, rfl, h⟩
  · replace h := ite_f h q2
    refine e_iconst (v := 0) C dX12_behind_7 (by decide) ?_
    refine e_goto (tgt := 28) C dX12_behind_8 (by decide) ?_
    exact e_iret C hr hlk (Nat.le_refl _) (Nat.le_refl _) dX12_behind_28 ⟨_, rfl, h⟩
theorem m_X12_behind  {a0 : Nat} {M : Mem} {Q : Int32 → Mem → Prop} (h : f_X12_behind a0 M Q) : Con yX12_behind cX12_behind 1 (some .int) 1 0 0 [.ref a0] M (rI Q) :=
  con_of2 (al := [(0, .ref a0)]) (by decide) (by exact Nat.le_of_ble_eq_true rfl) (by rfl) (fun p l e s m args below meth c g C hr hlk _ => w_X12_behind C hr hlk h)
set_option maxHeartbeats 4000000 in
set_option maxRecDepth 100000 in
theorem w_X12_last_J41 {p : Program} {l : Launch} {e : Env} {s : State} {m : MethodId} {args : Array Value} {below : List Frame} {meth : Method} {c : Code} {g : Geo} (C : Cx p s m args c cX12_last RX12 6 g) (hr : meth.sig.returnType = (some .int)) (hlk : meth.locks = false) {a0 : Nat} {x1 : Int32} {x2 : Int32} {x3 : Int32} {v5 : Int32} {t0 : Int32} {M : Mem} {K9 : Int32 × Int32 × Mem → Prop} {Q : Int32 → Mem → Prop} (hK9 : ∀ z : Int32 × Int32 × Mem, K9 z → E p l e (rmO 2 0 0) s m args below meth c g 6 (MQ below (QcM g (rI Q)) args s 0 0 (gA g)) 0 0 9 [(0, .ref a0), (1, .int x1), (2, .int x2), (3, .int x3), (4, .int z.1), (5, .int z.2.1)] [] (z.2.2)) (h : f_X12_last_J41 a0 x1 x2 x3 v5 t0 M K9 Q) : E p l e (rmO 2 0 0) s m args below meth c g 6 (MQ below (QcM g (rI Q)) args s 0 0 (gA g)) 0 0 41 [(0, .ref a0), (1, .int x1), (2, .int x2), (3, .int x3), (5, .int v5)] [.int t0] M := by
  unfold f_X12_last_J41 at h
  refine e_istore (al' := [(4, .int t0), (0, .ref a0), (1, .int x1), (2, .int x2), (3, .int x3), (5, .int v5)]) C dX12_last_41 (by decide) rfl ?_
  refine e_iinc (v := (v5 + 1)) (al' := [(5, .int (v5 + 1)), (4, .int t0), (0, .ref a0), (1, .int x1), (2, .int x2), (3, .int x3)]) C 5 dX12_last_43 rfl rfl (by decide) rfl ?_
  refine e_goto (tgt := 9) C dX12_last_46 (by decide) ?_
  refine e_pick [2, 3, 4, 5, 1, 0] rfl ?_
  exact hK9 (t0, (v5 + 1), M) h
set_option maxHeartbeats 4000000 in
set_option maxRecDepth 100000 in
theorem w_X12_last_B9 {p : Program} {l : Launch} {e : Env} {s : State} {m : MethodId} {args : Array Value} {below : List Frame} {meth : Method} {c : Code} {g : Geo} (C : Cx p s m args c cX12_last RX12 6 g) (hr : meth.sig.returnType = (some .int)) (hlk : meth.locks = false) {a0 : Nat} {x1 : Int32} {x2 : Int32} {x3 : Int32} {v4 : Int32} {v5 : Int32} {M : Mem} {K9 : Int32 × Int32 × Mem → Prop} {Q : Int32 → Mem → Prop} (hK9 : ∀ z : Int32 × Int32 × Mem, K9 z → E p l e (rmO 2 0 0) s m args below meth c g 6 (MQ below (QcM g (rI Q)) args s 0 0 (gA g)) 0 0 9 [(0, .ref a0), (1, .int x1), (2, .int x2), (3, .int x3), (4, .int z.1), (5, .int z.2.1)] [] (z.2.2)) (h : f_X12_last_B9 a0 x1 x2 x3 v4 v5 M K9 Q) : E p l e (rmO 2 0 0) s m args below meth c g 6 (MQ below (QcM g (rI Q)) args s 0 0 (gA g)) 0 0 9 [(0, .ref a0), (1, .int x1), (2, .int x2), (3, .int x3), (4, .int v4), (5, .int v5)] [] M := by
  unfold f_X12_last_B9 at h
  refine e_iload C 5 dX12_last_9 rfl ?_
  refine e_aload_n C 0 dX12_last_11 rfl rfl ?_
  obtain ⟨o3, h⟩ := h
  refine e_callV (as := []) C wb_X12_behind wv_X12_277 (ci := 12) rfl rfl (isO_1 o3) (m_X12_behind h) rfl ⟨Nat.le_of_ble_eq_true rfl, Nat.le_of_ble_eq_true rfl⟩ ⟨Nat.le_of_ble_eq_true rfl, Nat.le_of_ble_eq_true rfl⟩ (by first | exact Nat.le_of_ble_eq_true rfl | (simp only [List.map_cons, List.map_nil, va_cat, List.sum_cons, List.sum_nil]; exact Nat.le_of_ble_eq_true rfl)) dX12_last_12 (kI (fun w1 M2 h17 => ?_))
  refine e_icmp_ge (tgt := 49) C dX12_last_15 (by decide) (fun q4 => ?_) (fun q4 => ?_)
  · replace h17 := ite_t h17 q4
    refine e_aload_n C 0 dX12_last_49 rfl rfl ?_
    refine e_iload C 4 dX12_last_50 rfl ?_
    refine e_iload_n C 3 dX12_last_52 rfl rfl ?_
    obtain ⟨o7, h17⟩ := h17
    refine e_callV (as := [.int v4, .int x3]) C wb_X12_min wv_X12_280 (ci := 12) rfl rfl (isO_1 o7) (m_X12_min h17) rfl ⟨Nat.le_of_ble_eq_true rfl, Nat.le_of_ble_eq_true rfl⟩ ⟨Nat.le_of_ble_eq_true rfl, Nat.le_of_ble_eq_true rfl⟩ (by first | exact Nat.le_of_ble_eq_true rfl | (simp only [List.map_cons, List.map_nil, va_cat, List.sum_cons, List.sum_nil]; exact Nat.le_of_ble_eq_true rfl)) dX12_last_53 (kI (fun w5 M6 h8 => ?_))
    exact e_iret C hr hlk (Nat.le_refl _) (Nat.le_refl _) dX12_last_56 ⟨_, rfl, h8⟩
  · replace h17 := ite_f h17 q4
    refine e_aload_n C 0 dX12_last_18 rfl rfl ?_
    obtain ⟨o9, h17⟩ := h17
    refine e_getR C [12] 16 (fg_of fg_X12_59) o9 dX12_last_19 ?_
    refine e_iload C 5 dX12_last_22 rfl ?_
    obtain ⟨b10, p11, h17⟩ := h17
    try rw [p11]
    obtain ⟨o12, h17⟩ := h17
    refine e_iald C o12 dX12_last_24 ?_
    refine e_iload_n C 1 dX12_last_25 rfl rfl ?_
    refine e_icmp_ne (tgt := 39) C dX12_last_26 (by decide) (fun q13 => ?_) (fun q13 => ?_)
    · replace h17 := ite_f h17 q13
      refine e_iload C 4 dX12_last_39 rfl ?_
      refine e_pick [0, 1, 2, 3, 5] rfl ?_
      exact w_X12_last_J41 C hr hlk hK9 h17
    · replace h17 := ite_t h17 q13
      refine e_aload_n C 0 dX12_last_29 rfl rfl ?_
      refine e_getR C [12] 18 (fg_of fg_X12_65) o9 dX12_last_30 ?_
      refine e_iload C 5 dX12_last_33 rfl ?_
      obtain ⟨b14, p15, h17⟩ := h17
      try rw [p15]
      obtain ⟨o16, h17⟩ := h17
      refine e_iald C o16 dX12_last_35 ?_
      refine e_goto (tgt := 41) C dX12_last_36 (by decide) ?_
      refine e_pick [0, 1, 2, 3, 5] rfl ?_
      exact w_X12_last_J41 C hr hlk hK9 h17
set_option maxHeartbeats 4000000 in
set_option maxRecDepth 100000 in
theorem w_X12_last_L9 {p : Program} {l : Launch} {e : Env} {s : State} {m : MethodId} {args : Array Value} {below : List Frame} {meth : Method} {c : Code} {g : Geo} (C : Cx p s m args c cX12_last RX12 6 g) (hr : meth.sig.returnType = (some .int)) (hlk : meth.locks = false) {a0 : Nat} {x1 : Int32} {x2 : Int32} {x3 : Int32} {v4 : Int32} {v5 : Int32} {M : Mem} {Q : Int32 → Mem → Prop} (h : f_X12_last_L9 a0 x1 x2 x3 v4 v5 M Q) : E p l e (rmO 2 0 0) s m args below meth c g 6 (MQ below (QcM g (rI Q)) args s 0 0 (gA g)) 0 0 9 [(0, .ref a0), (1, .int x1), (2, .int x2), (3, .int x3), (4, .int v4), (5, .int v5)] [] M := by
  unfold f_X12_last_L9 at h
  refine loop_E (W := fun z : Int32 × Int32 × Mem => E p l e (rmO 2 0 0) s m args below meth c g 6 (MQ below (QcM g (rI Q)) args s 0 0 (gA g)) 0 0 9 [(0, .ref a0), (1, .int x1), (2, .int x2), (3, .int x3), (4, .int z.1), (5, .int z.2.1)] [] (z.2.2)) h (fun K z hK h => ?_)
  exact w_X12_last_B9 C hr hlk hK h
set_option maxHeartbeats 4000000 in
set_option maxRecDepth 100000 in
theorem w_X12_last {p : Program} {l : Launch} {e : Env} {s : State} {m : MethodId} {args : Array Value} {below : List Frame} {meth : Method} {c : Code} {g : Geo} (C : Cx p s m args c cX12_last RX12 6 g) (hr : meth.sig.returnType = (some .int)) (hlk : meth.locks = false) {a0 : Nat} {x1 : Int32} {x2 : Int32} {x3 : Int32} {M : Mem} {Q : Int32 → Mem → Prop} (h : f_X12_last a0 x1 x2 x3 M Q) : E p l e (rmO 2 0 0) s m args below meth c g 6 (MQ below (QcM g (rI Q)) args s 0 0 (gA g)) 0 0 0 [(0, .ref a0), (1, .int x1), (2, .int x2), (3, .int x3)] [] M := by
  unfold f_X12_last at h
  refine e_iload_n C 2 dX12_last_0 rfl rfl ?_
  refine e_istore (al' := [(4, .int x2), (0, .ref a0), (1, .int x1), (2, .int x2), (3, .int x3)]) C dX12_last_1 (by decide) rfl ?_
  refine e_aload_n C 1 dX12_last_3 rfl rfl ?_
  obtain ⟨o3, h⟩ := h
  refine e_callV (as := []) C wb_X12_first wv_X12_274 (ci := 12) rfl rfl (isO_1 o3) (m_X12_first h) rfl ⟨Nat.le_of_ble_eq_true rfl, Nat.le_of_ble_eq_true rfl⟩ ⟨Nat.le_of_ble_eq_true rfl, Nat.le_of_ble_eq_true rfl⟩ (by first | exact Nat.le_of_ble_eq_true rfl | (simp only [List.map_cons, List.map_nil, va_cat, List.sum_cons, List.sum_nil]; exact Nat.le_of_ble_eq_true rfl)) dX12_last_4 (kI (fun w1 M2 h4 => ?_))
  refine e_istore (al' := [(5, .int w1), (4, .int x2), (0, .ref a0), (1, .int x1), (2, .int x2), (3, .int x3)]) C dX12_last_7 (by decide) rfl ?_
  refine e_pick [2, 3, 4, 5, 1, 0] rfl ?_
  exact w_X12_last_L9 C hr hlk h4
theorem m_X12_last  {a0 : Nat} {x1 : Int32} {x2 : Int32} {x3 : Int32} {M : Mem} {Q : Int32 → Mem → Prop} (h : f_X12_last a0 x1 x2 x3 M Q) : Con yX12_last cX12_last 6 (some .int) 2 0 0 [.ref a0, .int x1, .int x2, .int x3] M (rI Q) :=
  con_of2 (al := [(0, .ref a0), (1, .int x1), (2, .int x2), (3, .int x3)]) (by decide) (by exact Nat.le_of_ble_eq_true rfl) (by rfl) (fun p l e s m args below meth c g C hr hlk _ => w_X12_last C hr hlk h)
set_option maxHeartbeats 4000000 in
set_option maxRecDepth 100000 in
theorem w_X12_told {p : Program} {l : Launch} {e : Env} {s : State} {m : MethodId} {args : Array Value} {below : List Frame} {meth : Method} {c : Code} {g : Geo} (C : Cx p s m args c cX12_told RX12 2 g) (hr : meth.sig.returnType = (some .int)) (hlk : meth.locks = false) {a0 : Nat} {x1 : Int32} {M : Mem} {Q : Int32 → Mem → Prop} (h : f_X12_told a0 x1 M Q) : E p l e (rmO 3 0 0) s m args below meth c g 2 (MQ below (QcM g (rI Q)) args s 0 0 (gA g)) 0 0 0 [(0, .ref a0), (1, .int x1)] [] M := by
  unfold f_X12_told at h
  refine e_iload_n C 1 dX12_told_0 rfl rfl ?_
  by_cases q1 : x1 = 0
  · replace h := ite_t h q1
    refine e_tin (tgt := 28) C dX12_told_1 (by rw [q1]; decide) (by rw [q1]; decide) (by rw [q1] <;> rfl) (by decide) ?_
    refine e_aload_n C 0 dX12_told_28 rfl rfl ?_
    refine e_iconst (v := 1) C dX12_told_29 (by decide) ?_
    refine e_iconst (v := 0) C dX12_told_30 (by decide) ?_
    refine e_bipush (v := 20) C dX12_told_31 (by decide) ?_
    obtain ⟨o4, h⟩ := h
    refine e_callV (as := [.int (1 : Int32), .int (0 : Int32), .int (20 : Int32)]) C wb_X12_last wv_X12_284 (ci := 12) rfl rfl (isO_1 o4) (m_X12_last h) rfl ⟨Nat.le_of_ble_eq_true rfl, Nat.le_of_ble_eq_true rfl⟩ ⟨Nat.le_of_ble_eq_true rfl, Nat.le_of_ble_eq_true rfl⟩ (by first | exact Nat.le_of_ble_eq_true rfl | (simp only [List.map_cons, List.map_nil, va_cat, List.sum_cons, List.sum_nil]; exact Nat.le_of_ble_eq_true rfl)) dX12_told_33 (kI (fun w2 M3 h5 => ?_))
    exact e_iret C hr hlk (Nat.le_refl _) (Nat.le_refl _) dX12_told_36 ⟨_, rfl, h5⟩
  · replace h := ite_f h q1
    by_cases q6 : x1 = 1
    · replace h := ite_t h q6
      refine e_tin (tgt := 37) C dX12_told_1 (by rw [q6]; decide) (by rw [q6]; decide) (by rw [q6] <;> rfl) (by decide) ?_
      refine e_aload_n C 0 dX12_told_37 rfl rfl ?_
      refine e_iconst (v := 2) C dX12_told_38 (by decide) ?_
      refine e_iconst (v := 0) C dX12_told_39 (by decide) ?_
      refine e_bipush (v := 20) C dX12_told_40 (by decide) ?_
      obtain ⟨o9, h⟩ := h
      refine e_callV (as := [.int (2 : Int32), .int (0 : Int32), .int (20 : Int32)]) C wb_X12_last wv_X12_284 (ci := 12) rfl rfl (isO_1 o9) (m_X12_last h) rfl ⟨Nat.le_of_ble_eq_true rfl, Nat.le_of_ble_eq_true rfl⟩ ⟨Nat.le_of_ble_eq_true rfl, Nat.le_of_ble_eq_true rfl⟩ (by first | exact Nat.le_of_ble_eq_true rfl | (simp only [List.map_cons, List.map_nil, va_cat, List.sum_cons, List.sum_nil]; exact Nat.le_of_ble_eq_true rfl)) dX12_told_42 (kI (fun w7 M8 h10 => ?_))
      exact e_iret C hr hlk (Nat.le_refl _) (Nat.le_refl _) dX12_told_45 ⟨_, rfl, h10⟩
    · replace h := ite_f h q6
      by_cases q11 : x1 = 2
      · replace h := ite_t h q11
        refine e_tin (tgt := 46) C dX12_told_1 (by rw [q11]; decide) (by rw [q11]; decide) (by rw [q11] <;> rfl) (by decide) ?_
        refine e_aload_n C 0 dX12_told_46 rfl rfl ?_
        refine e_iconst (v := 3) C dX12_told_47 (by decide) ?_
        refine e_bipush (v := 30) C dX12_told_48 (by decide) ?_
        refine e_bipush (v := 40) C dX12_told_50 (by decide) ?_
        obtain ⟨o14, h⟩ := h
        refine e_callV (as := [.int (3 : Int32), .int (30 : Int32), .int (40 : Int32)]) C wb_X12_last wv_X12_284 (ci := 12) rfl rfl (isO_1 o14) (m_X12_last h) rfl ⟨Nat.le_of_ble_eq_true rfl, Nat.le_of_ble_eq_true rfl⟩ ⟨Nat.le_of_ble_eq_true rfl, Nat.le_of_ble_eq_true rfl⟩ (by first | exact Nat.le_of_ble_eq_true rfl | (simp only [List.map_cons, List.map_nil, va_cat, List.sum_cons, List.sum_nil]; exact Nat.le_of_ble_eq_true rfl)) dX12_told_52 (kI (fun w12 M13 h15 => ?_))
        exact e_iret C hr hlk (Nat.le_refl _) (Nat.le_refl _) dX12_told_55 ⟨_, rfl, h15⟩
      · replace h := ite_f h q11
        refine e_tout (tgt := 56) C dX12_told_1 (by have z0 := lv_neT (a := 0) q1 (by decide); have z1 := lv_neT (a := 1) q6 (by decide); have z2 := lv_neT (a := 2) q11 (by decide); omega) (by decide) ?_
        refine e_iconst (v := -1) C dX12_told_56 (by decide) ?_
        exact e_iret C hr hlk (Nat.le_refl _) (Nat.le_refl _) dX12_told_57 ⟨_, rfl, h⟩
theorem m_X12_told  {a0 : Nat} {x1 : Int32} {M : Mem} {Q : Int32 → Mem → Prop} (h : f_X12_told a0 x1 M Q) : Con yX12_told cX12_told 2 (some .int) 3 0 0 [.ref a0, .int x1] M (rI Q) :=
  con_of2 (al := [(0, .ref a0), (1, .int x1)]) (by decide) (by exact Nat.le_of_ble_eq_true rfl) (by rfl) (fun p l e s m args below meth c g C hr hlk _ => w_X12_told C hr hlk h)
set_option maxHeartbeats 4000000 in
set_option maxRecDepth 100000 in
theorem w_X12_standing {p : Program} {l : Launch} {e : Env} {s : State} {m : MethodId} {args : Array Value} {below : List Frame} {meth : Method} {c : Code} {g : Geo} (C : Cx p s m args c cX12_standing RX12 2 g) (hr : meth.sig.returnType = (some .int)) (hlk : meth.locks = false) {a0 : Nat} {x1 : Int32} {M : Mem} {Q : Int32 → Mem → Prop} (h : f_X12_standing a0 x1 M Q) : E p l e (rmO 1 0 0) s m args below meth c g 2 (MQ below (QcM g (rI Q)) args s 0 0 (gA g)) 0 0 0 [(0, .ref a0), (1, .int x1)] [] M := by
  unfold f_X12_standing at h
  refine e_aload_n C 0 dX12_standing_0 rfl rfl ?_
  obtain ⟨o1, h⟩ := h
  refine e_getR C [12] 49 (fg_of fg_X12_159) o1 dX12_standing_1 ?_
  refine e_iload_n C 1 dX12_standing_4 rfl rfl ?_
  obtain ⟨b2, p3, h⟩ := h
  try rw [p3]
  obtain ⟨o4, h⟩ := h
  refine e_iald C o4 dX12_standing_5 ?_
  refine e_aload_n C 0 dX12_standing_6 rfl rfl ?_
  refine e_getR C [12] 48 (fg_of fg_X12_156) o1 dX12_standing_7 ?_
  refine e_iload_n C 1 dX12_standing_10 rfl rfl ?_
  obtain ⟨b5, p6, h⟩ := h
  try rw [p6]
  obtain ⟨o7, h⟩ := h
  refine e_iald C o7 dX12_standing_11 ?_
  refine e_isub C dX12_standing_12 ?_
  exact e_iret C hr hlk (Nat.le_refl _) (Nat.le_refl _) dX12_standing_13 ⟨_, rfl, h⟩
theorem m_X12_standing  {a0 : Nat} {x1 : Int32} {M : Mem} {Q : Int32 → Mem → Prop} (h : f_X12_standing a0 x1 M Q) : Con yX12_standing cX12_standing 2 (some .int) 1 0 0 [.ref a0, .int x1] M (rI Q) :=
  con_of2 (al := [(0, .ref a0), (1, .int x1)]) (by decide) (by exact Nat.le_of_ble_eq_true rfl) (by rfl) (fun p l e s m args below meth c g C hr hlk _ => w_X12_standing C hr hlk h)
set_option maxHeartbeats 4000000 in
set_option maxRecDepth 100000 in
theorem w_X12_holds_J274 {p : Program} {l : Launch} {e : Env} {s : State} {m : MethodId} {args : Array Value} {below : List Frame} {meth : Method} {c : Code} {g : Geo} (C : Cx p s m args c cX12_holds RX12 8 g) (hr : meth.sig.returnType = (some .boolean)) (hlk : meth.locks = false) {a0 : Nat} {x1 : Int32} {x2 : Int32} {v3 : Int32} {v4 : Int32} {M : Mem} {K10 : Int32 × Int32 × Mem → Prop} {Q : Bool → Mem → Prop} (hK10 : ∀ z : Int32 × Int32 × Mem, K10 z → E p l e (rmO 2 0 0) s m args below meth c g 8 (MQ below (QcM g (rZ Q)) args s 0 0 (gA g)) 0 0 10 [(0, .ref a0), (1, .int x1), (2, .int x2), (3, .int z.1), (4, .int z.2.1)] [] (z.2.2)) (h : f_X12_holds_J274 a0 x1 x2 v3 v4 M K10 Q) : E p l e (rmO 2 0 0) s m args below meth c g 8 (MQ below (QcM g (rZ Q)) args s 0 0 (gA g)) 0 0 274 [(0, .ref a0), (1, .int x1), (2, .int x2), (3, .int v3), (4, .int v4)] [] M := by
  unfold f_X12_holds_J274 at h
  refine e_iinc (v := (v4 + 1)) (al' := [(4, .int (v4 + 1)), (0, .ref a0), (1, .int x1), (2, .int x2), (3, .int v3)]) C 4 dX12_holds_274 rfl rfl (by decide) rfl ?_
  refine e_goto (tgt := 10) C dX12_holds_277 (by decide) ?_
  refine e_pick [1, 2, 3, 4, 0] rfl ?_
  exact hK10 (v3, (v4 + 1), M) h
set_option maxHeartbeats 4000000 in
set_option maxRecDepth 100000 in
theorem w_X12_holds_J270 {p : Program} {l : Launch} {e : Env} {s : State} {m : MethodId} {args : Array Value} {below : List Frame} {meth : Method} {c : Code} {g : Geo} (C : Cx p s m args c cX12_holds RX12 8 g) (hr : meth.sig.returnType = (some .boolean)) (hlk : meth.locks = false) {a0 : Nat} {x1 : Int32} {x2 : Int32} {v3 : Int32} {v4 : Int32} {t0 : Int32} {t1 : Int32} {t2 : Option Nat} {M : Mem} {K10 : Int32 × Int32 × Mem → Prop} {Q : Bool → Mem → Prop} (hK10 : ∀ z : Int32 × Int32 × Mem, K10 z → E p l e (rmO 2 0 0) s m args below meth c g 8 (MQ below (QcM g (rZ Q)) args s 0 0 (gA g)) 0 0 10 [(0, .ref a0), (1, .int x1), (2, .int x2), (3, .int z.1), (4, .int z.2.1)] [] (z.2.2)) (h : f_X12_holds_J270 a0 x1 x2 v3 v4 t0 t1 t2 M K10 Q) : E p l e (rmO 2 0 0) s m args below meth c g 8 (MQ below (QcM g (rZ Q)) args s 0 0 (gA g)) 0 0 270 [(0, .ref a0), (1, .int x1), (2, .int x2), (3, .int v3), (4, .int v4)] [.int t0, .int t1, va_rf t2] M := by
  unfold f_X12_holds_J270 at h
  obtain ⟨b1, rfl, h⟩ := h
  obtain ⟨o3, h⟩ := h
  refine e_zast C o3 dX12_holds_270 ?_
  refine nmE (fun M4 e5 => ?_)
  replace h := h M4 e5
  refine e_iinc (v := (v3 + 1)) (al' := [(3, .int (v3 + 1)), (0, .ref a0), (1, .int x1), (2, .int x2), (4, .int v4)]) C 3 dX12_holds_271 rfl rfl (by decide) rfl ?_
  refine e_pick [1, 2, 3, 0, 4] rfl ?_
  exact w_X12_holds_J274 C hr hlk hK10 h
set_option maxHeartbeats 4000000 in
set_option maxRecDepth 100000 in
theorem w_X12_holds_J191 {p : Program} {l : Launch} {e : Env} {s : State} {m : MethodId} {args : Array Value} {below : List Frame} {meth : Method} {c : Code} {g : Geo} (C : Cx p s m args c cX12_holds RX12 8 g) (hr : meth.sig.returnType = (some .boolean)) (hlk : meth.locks = false) {a0 : Nat} {x1 : Int32} {x2 : Int32} {v3 : Int32} {v4 : Int32} {v5 : Int32} {t0 : Int32} {M : Mem} {K10 : Int32 × Int32 × Mem → Prop} {Q : Bool → Mem → Prop} (hK10 : ∀ z : Int32 × Int32 × Mem, K10 z → E p l e (rmO 2 0 0) s m args below meth c g 8 (MQ below (QcM g (rZ Q)) args s 0 0 (gA g)) 0 0 10 [(0, .ref a0), (1, .int x1), (2, .int x2), (3, .int z.1), (4, .int z.2.1)] [] (z.2.2)) (h : f_X12_holds_J191 a0 x1 x2 v3 v4 v5 t0 M K10 Q) : E p l e (rmO 2 0 0) s m args below meth c g 8 (MQ below (QcM g (rZ Q)) args s 0 0 (gA g)) 0 0 191 [(0, .ref a0), (1, .int x1), (2, .int x2), (3, .int v3), (4, .int v4), (5, .int v5)] [.int t0] M := by
  unfold f_X12_holds_J191 at h
  refine e_istore (al' := [(6, .int t0), (0, .ref a0), (1, .int x1), (2, .int x2), (3, .int v3), (4, .int v4), (5, .int v5)]) C dX12_holds_191 (by decide) rfl ?_
  refine e_iload C 6 dX12_holds_193 rfl ?_
  refine e_bipush (v := 100) C dX12_holds_195 (by decide) ?_
  obtain ⟨n1, h⟩ := h
  refine e_idiv C dX12_holds_197 n1 ?_
  refine e_bipush (v := 10) C dX12_holds_198 (by decide) ?_
  obtain ⟨n2, h⟩ := h
  refine e_irem C dX12_holds_200 n2 ?_
  refine e_istore (al' := [(7, .int ((v5 / (100 : Int32)) - (v5 / (100 : Int32)) / (10 : Int32) * (10 : Int32))), (6, .int t0), (0, .ref a0), (1, .int x1), (2, .int x2), (3, .int v3), (4, .int v4), (5, .int v5)]) C dX12_holds_201 (by decide) rfl ?_
  refine e_aload_n C 2 dX12_holds_203 rfl rfl ?_
  obtain ⟨o3, h⟩ := h
  refine e_getR C [12] 26 (fg_of fg_X12_89) o3 dX12_holds_204 ?_
  refine e_iload_n C 5 dX12_holds_207 rfl rfl ?_
  refine e_iload C 0 dX12_holds_208 rfl ?_
  refine e_if_ne (tgt := 231) C dX12_holds_210 (by decide) (fun q4 => ?_) (fun q4 => ?_)
  · replace h := ite_f h q4
    refine e_iload C 0 dX12_holds_231 rfl ?_
    refine e_iconst (v := 1) C dX12_holds_233 (by decide) ?_
    refine e_icmp_ne (tgt := 255) C dX12_holds_234 (by decide) (fun q5 => ?_) (fun q5 => ?_)
    · replace h := ite_f h q5
      refine e_iload C 1 dX12_holds_255 rfl ?_
      refine e_iload C 7 dX12_holds_257 rfl ?_
      refine e_bipush (v := 100) C dX12_holds_259 (by decide) ?_
      obtain ⟨n6, h⟩ := h
      refine e_irem C dX12_holds_261 n6 ?_
      refine e_icmp_le (tgt := 269) C dX12_holds_262 (by decide) (fun q7 => ?_) (fun q7 => ?_)
      · replace h := ite_t h q7
        refine e_iconst (v := 0) C dX12_holds_269 (by decide) ?_
        refine e_pick [2, 3, 4, 5, 6] rfl ?_
        exact w_X12_holds_J270 C hr hlk hK10 h
      · replace h := ite_f h q7
        refine e_iconst (v := 1) C dX12_holds_265 (by decide) ?_
        refine e_goto (tgt := 270) C dX12_holds_266 (by decide) ?_
        refine e_pick [2, 3, 4, 5, 6] rfl ?_
        exact w_X12_holds_J270 C hr hlk hK10 h
    · replace h := ite_t h q5
      refine e_iload C 1 dX12_holds_237 rfl ?_
      refine e_iload C 7 dX12_holds_239 rfl ?_
      refine e_bipush (v := 100) C dX12_holds_241 (by decide) ?_
      obtain ⟨n8, h⟩ := h
      refine e_irem C dX12_holds_243 n8 ?_
      refine e_icmp_ne (tgt := 251) C dX12_holds_244 (by decide) (fun q9 => ?_) (fun q9 => ?_)
      · replace h := ite_f h q9
        refine e_iconst (v := 0) C dX12_holds_251 (by decide) ?_
        refine e_goto (tgt := 270) C dX12_holds_252 (by decide) ?_
        refine e_pick [2, 3, 4, 5, 6] rfl ?_
        exact w_X12_holds_J270 C hr hlk hK10 h
      · replace h := ite_t h q9
        refine e_iconst (v := 1) C dX12_holds_247 (by decide) ?_
        refine e_goto (tgt := 270) C dX12_holds_248 (by decide) ?_
        refine e_pick [2, 3, 4, 5, 6] rfl ?_
        exact w_X12_holds_J270 C hr hlk hK10 h
  · replace h := ite_t h q4
    refine e_iload C 1 dX12_holds_213 rfl ?_
    refine e_iload C 7 dX12_holds_215 rfl ?_
    refine e_bipush (v := 100) C dX12_holds_217 (by decide) ?_
    obtain ⟨n10, h⟩ := h
    refine e_irem C dX12_holds_219 n10 ?_
    refine e_icmp_ge (tgt := 227) C dX12_holds_220 (by decide) (fun q11 => ?_) (fun q11 => ?_)
    · replace h := ite_t h q11
      refine e_iconst (v := 0) C dX12_holds_227 (by decide) ?_
      refine e_goto (tgt := 270) C dX12_holds_228 (by decide) ?_
      refine e_pick [2, 3, 4, 5, 6] rfl ?_
      exact w_X12_holds_J270 C hr hlk hK10 h
    · replace h := ite_f h q11
      refine e_iconst (v := 1) C dX12_holds_223 (by decide) ?_
      refine e_goto (tgt := 270) C dX12_holds_224 (by decide) ?_
      refine e_pick [2, 3, 4, 5, 6] rfl ?_
      exact w_X12_holds_J270 C hr hlk hK10 h
set_option maxHeartbeats 4000000 in
set_option maxRecDepth 100000 in
theorem w_X12_holds_J139 {p : Program} {l : Launch} {e : Env} {s : State} {m : MethodId} {args : Array Value} {below : List Frame} {meth : Method} {c : Code} {g : Geo} (C : Cx p s m args c cX12_holds RX12 8 g) (hr : meth.sig.returnType = (some .boolean)) (hlk : meth.locks = false) {a0 : Nat} {x1 : Int32} {x2 : Int32} {v3 : Int32} {v4 : Int32} {t0 : Int32} {t1 : Int32} {t2 : Option Nat} {M : Mem} {K10 : Int32 × Int32 × Mem → Prop} {Q : Bool → Mem → Prop} (hK10 : ∀ z : Int32 × Int32 × Mem, K10 z → E p l e (rmO 2 0 0) s m args below meth c g 8 (MQ below (QcM g (rZ Q)) args s 0 0 (gA g)) 0 0 10 [(0, .ref a0), (1, .int x1), (2, .int x2), (3, .int z.1), (4, .int z.2.1)] [] (z.2.2)) (h : f_X12_holds_J139 a0 x1 x2 v3 v4 t0 t1 t2 M K10 Q) : E p l e (rmO 2 0 0) s m args below meth c g 8 (MQ below (QcM g (rZ Q)) args s 0 0 (gA g)) 0 0 139 [(0, .ref a0), (1, .int x1), (2, .int x2), (3, .int v3), (4, .int v4)] [.int t0, .int t1, va_rf t2] M := by
  unfold f_X12_holds_J139 at h
  obtain ⟨b1, rfl, h⟩ := h
  obtain ⟨o3, h⟩ := h
  refine e_zast C o3 dX12_holds_139 ?_
  refine nmE (fun M4 e5 => ?_)
  replace h := h M4 e5
  refine e_goto (tgt := 274) C dX12_holds_140 (by decide) ?_
  exact w_X12_holds_J274 C hr hlk hK10 h
set_option maxHeartbeats 4000000 in
set_option maxRecDepth 100000 in
theorem w_X12_holds_J134 {p : Program} {l : Launch} {e : Env} {s : State} {m : MethodId} {args : Array Value} {below : List Frame} {meth : Method} {c : Code} {g : Geo} (C : Cx p s m args c cX12_holds RX12 8 g) (hr : meth.sig.returnType = (some .boolean)) (hlk : meth.locks = false) {a0 : Nat} {x1 : Int32} {x2 : Int32} {v3 : Int32} {v4 : Int32} {t0 : Int32} {t1 : Option Nat} {M : Mem} {K10 : Int32 × Int32 × Mem → Prop} {Q : Bool → Mem → Prop} (hK10 : ∀ z : Int32 × Int32 × Mem, K10 z → E p l e (rmO 2 0 0) s m args below meth c g 8 (MQ below (QcM g (rZ Q)) args s 0 0 (gA g)) 0 0 10 [(0, .ref a0), (1, .int x1), (2, .int x2), (3, .int z.1), (4, .int z.2.1)] [] (z.2.2)) (h : f_X12_holds_J134 a0 x1 x2 v3 v4 t0 t1 M K10 Q) : E p l e (rmO 2 0 0) s m args below meth c g 8 (MQ below (QcM g (rZ Q)) args s 0 0 (gA g)) 0 0 134 [(0, .ref a0), (1, .int x1), (2, .int x2), (3, .int v3), (4, .int v4)] [.int t0, va_rf t1] M := by
  unfold f_X12_holds_J134 at h
  refine e_iconst (v := 1) C dX12_holds_134 (by decide) ?_
  refine e_goto (tgt := 139) C dX12_holds_135 (by decide) ?_
  exact w_X12_holds_J139 C hr hlk hK10 h
set_option maxHeartbeats 4000000 in
set_option maxRecDepth 100000 in
theorem w_X12_holds_J110 {p : Program} {l : Launch} {e : Env} {s : State} {m : MethodId} {args : Array Value} {below : List Frame} {meth : Method} {c : Code} {g : Geo} (C : Cx p s m args c cX12_holds RX12 8 g) (hr : meth.sig.returnType = (some .boolean)) (hlk : meth.locks = false) {a0 : Nat} {x1 : Int32} {x2 : Int32} {v3 : Int32} {v4 : Int32} {t0 : Int32} {t1 : Option Nat} {M : Mem} {K10 : Int32 × Int32 × Mem → Prop} {Q : Bool → Mem → Prop} (hK10 : ∀ z : Int32 × Int32 × Mem, K10 z → E p l e (rmO 2 0 0) s m args below meth c g 8 (MQ below (QcM g (rZ Q)) args s 0 0 (gA g)) 0 0 10 [(0, .ref a0), (1, .int x1), (2, .int x2), (3, .int z.1), (4, .int z.2.1)] [] (z.2.2)) (h : f_X12_holds_J110 a0 x1 x2 v3 v4 t0 t1 M K10 Q) : E p l e (rmO 2 0 0) s m args below meth c g 8 (MQ below (QcM g (rZ Q)) args s 0 0 (gA g)) 0 0 110 [(0, .ref a0), (1, .int x1), (2, .int x2), (3, .int v3), (4, .int v4)] [.int t0, va_rf t1] M := by
  unfold f_X12_holds_J110 at h
  refine e_iconst (v := 0) C dX12_holds_110 (by decide) ?_
  refine e_goto (tgt := 139) C dX12_holds_111 (by decide) ?_
  exact w_X12_holds_J139 C hr hlk hK10 h
set_option maxHeartbeats 4000000 in
set_option maxRecDepth 100000 in
theorem w_X12_holds_J60 {p : Program} {l : Launch} {e : Env} {s : State} {m : MethodId} {args : Array Value} {below : List Frame} {meth : Method} {c : Code} {g : Geo} (C : Cx p s m args c cX12_holds RX12 8 g) (hr : meth.sig.returnType = (some .boolean)) (hlk : meth.locks = false) {a0 : Nat} {x1 : Int32} {x2 : Int32} {v3 : Int32} {v4 : Int32} {t0 : Int32} {t1 : Int32} {t2 : Option Nat} {M : Mem} {K10 : Int32 × Int32 × Mem → Prop} {Q : Bool → Mem → Prop} (hK10 : ∀ z : Int32 × Int32 × Mem, K10 z → E p l e (rmO 2 0 0) s m args below meth c g 8 (MQ below (QcM g (rZ Q)) args s 0 0 (gA g)) 0 0 10 [(0, .ref a0), (1, .int x1), (2, .int x2), (3, .int z.1), (4, .int z.2.1)] [] (z.2.2)) (h : f_X12_holds_J60 a0 x1 x2 v3 v4 t0 t1 t2 M K10 Q) : E p l e (rmO 2 0 0) s m args below meth c g 8 (MQ below (QcM g (rZ Q)) args s 0 0 (gA g)) 0 0 60 [(0, .ref a0), (1, .int x1), (2, .int x2), (3, .int v3), (4, .int v4)] [.int t0, .int t1, va_rf t2] M := by
  unfold f_X12_holds_J60 at h
  obtain ⟨b1, rfl, h⟩ := h
  obtain ⟨o3, h⟩ := h
  refine e_zast C o3 dX12_holds_60 ?_
  refine nmE (fun M4 e5 => ?_)
  replace h := h M4 e5
  refine e_goto (tgt := 274) C dX12_holds_61 (by decide) ?_
  exact w_X12_holds_J274 C hr hlk hK10 h
set_option maxHeartbeats 4000000 in
set_option maxRecDepth 100000 in
theorem w_X12_holds_B10 {p : Program} {l : Launch} {e : Env} {s : State} {m : MethodId} {args : Array Value} {below : List Frame} {meth : Method} {c : Code} {g : Geo} (C : Cx p s m args c cX12_holds RX12 8 g) (hr : meth.sig.returnType = (some .boolean)) (hlk : meth.locks = false) {a0 : Nat} {x1 : Int32} {x2 : Int32} {v3 : Int32} {v4 : Int32} {M : Mem} {K10 : Int32 × Int32 × Mem → Prop} {Q : Bool → Mem → Prop} (hK10 : ∀ z : Int32 × Int32 × Mem, K10 z → E p l e (rmO 2 0 0) s m args below meth c g 8 (MQ below (QcM g (rZ Q)) args s 0 0 (gA g)) 0 0 10 [(0, .ref a0), (1, .int x1), (2, .int x2), (3, .int z.1), (4, .int z.2.1)] [] (z.2.2)) (h : f_X12_holds_B10 a0 x1 x2 v3 v4 M K10 Q) : E p l e (rmO 2 0 0) s m args below meth c g 8 (MQ below (QcM g (rZ Q)) args s 0 0 (gA g)) 0 0 10 [(0, .ref a0), (1, .int x1), (2, .int x2), (3, .int v3), (4, .int v4)] [] M := by
  unfold f_X12_holds_B10 at h
  refine e_iload C 4 dX12_holds_10 rfl ?_
  refine e_aload_n C 0 dX12_holds_12 rfl rfl ?_
  obtain ⟨o1, h⟩ := h
  refine e_getR C [12] 20 (fg_of fg_X12_71) o1 dX12_holds_13 ?_
  refine e_iload_n C 1 dX12_holds_16 rfl rfl ?_
  obtain ⟨b2, p3, h⟩ := h
  try rw [p3]
  obtain ⟨o4, h⟩ := h
  refine e_iald C o4 dX12_holds_17 ?_
  refine e_icmp_ge (tgt := 280) C dX12_holds_18 (by decide) (fun q5 => ?_) (fun q5 => ?_)
  · replace h := ite_t h q5
    refine e_aload_n C 0 dX12_holds_280 rfl rfl ?_
    refine e_getR C [12] 26 (fg_of fg_X12_89) o1 dX12_holds_281 ?_
    refine e_iconst (v := 0) C dX12_holds_284 (by decide) ?_
    obtain ⟨b6, p7, h⟩ := h
    try rw [p7]
    obtain ⟨o8, h⟩ := h
    refine e_zald C o8 dX12_holds_285 ?_
    obtain ⟨b9, z10, h⟩ := h
    exact e_zret C hr (by rw [z10]; exact bi_nar _) hlk (Nat.le_refl _) (Nat.le_refl _) dX12_holds_286 ⟨b9, by rw [z10], h⟩
  · replace h := ite_f h q5
    refine e_aload_n C 0 dX12_holds_21 rfl rfl ?_
    refine e_getR C [12] 21 (fg_of fg_X12_74) o1 dX12_holds_22 ?_
    refine e_iload C 4 dX12_holds_25 rfl ?_
    obtain ⟨b11, p12, h⟩ := h
    try rw [p12]
    obtain ⟨o13, h⟩ := h
    refine e_iald C o13 dX12_holds_27 ?_
    refine e_istore (al' := [(5, .int (mI M b11 (v4).toNatClampNeg)), (0, .ref a0), (1, .int x1), (2, .int x2), (3, .int v3), (4, .int v4)]) C dX12_holds_28 (by decide) rfl ?_
    refine e_iload C 0 dX12_holds_30 rfl ?_
    refine e_bipush (v := -33) C dX12_holds_32 (by decide) ?_
    refine e_icmp_ne (tgt := 64) C dX12_holds_34 (by decide) (fun q14 => ?_) (fun q14 => ?_)
    · replace h := ite_f h q14
      refine e_iload C 0 dX12_holds_64 rfl ?_
      refine e_if_ge (tgt := 143) C dX12_holds_66 (by decide) (fun q15 => ?_) (fun q15 => ?_)
      · replace h := ite_t h q15
        refine e_iload C 0 dX12_holds_143 rfl ?_
        refine e_sipush (v := 1000) C dX12_holds_145 (by decide) ?_
        refine e_icmp_ge (tgt := 155) C dX12_holds_148 (by decide) (fun q16 => ?_) (fun q16 => ?_)
        · replace h := ite_t h q16
          refine e_iload C 0 dX12_holds_155 rfl ?_
          refine e_sipush (v := 2000) C dX12_holds_157 (by decide) ?_
          refine e_icmp_ge (tgt := 171) C dX12_holds_160 (by decide) (fun q17 => ?_) (fun q17 => ?_)
          · replace h := ite_t h q17
            refine e_iload C 0 dX12_holds_171 rfl ?_
            refine e_sipush (v := 3000) C dX12_holds_173 (by decide) ?_
            refine e_icmp_ge (tgt := 187) C dX12_holds_176 (by decide) (fun q18 => ?_) (fun q18 => ?_)
            · replace h := ite_t h q18
              refine e_aload_n C 1 dX12_holds_187 rfl rfl ?_
              refine e_getI C [12] 31 (fg_of fg_X12_105) o1 dX12_holds_188 ?_
              refine e_pick [1, 2, 3, 4, 5, 0] rfl ?_
              exact w_X12_holds_J191 C hr hlk hK10 h
            · replace h := ite_f h q18
              refine e_aload_n C 1 dX12_holds_179 rfl rfl ?_
              refine e_iconst (v := 0) C dX12_holds_180 (by decide) ?_
              refine e_callV (as := [.int (0 : Int32)]) C wb_X12_standing wv_X12_288 (ci := 12) rfl rfl (isO_1 o1) (m_X12_standing h) rfl ⟨Nat.le_of_ble_eq_true rfl, Nat.le_of_ble_eq_true rfl⟩ ⟨Nat.le_of_ble_eq_true rfl, Nat.le_of_ble_eq_true rfl⟩ (by first | exact Nat.le_of_ble_eq_true rfl | (simp only [List.map_cons, List.map_nil, va_cat, List.sum_cons, List.sum_nil]; exact Nat.le_of_ble_eq_true rfl)) dX12_holds_181 (kI (fun w19 M20 h21 => ?_))
              refine e_goto (tgt := 191) C dX12_holds_184 (by decide) ?_
              refine e_pick [1, 2, 3, 4, 5, 0] rfl ?_
              exact w_X12_holds_J191 C hr hlk hK10 h21
          · replace h := ite_f h q17
            refine e_aload_n C 1 dX12_holds_163 rfl rfl ?_
            refine e_iconst (v := 1) C dX12_holds_164 (by decide) ?_
            refine e_callV (as := [.int (1 : Int32)]) C wb_X12_standing wv_X12_288 (ci := 12) rfl rfl (isO_1 o1) (m_X12_standing h) rfl ⟨Nat.le_of_ble_eq_true rfl, Nat.le_of_ble_eq_true rfl⟩ ⟨Nat.le_of_ble_eq_true rfl, Nat.le_of_ble_eq_true rfl⟩ (by first | exact Nat.le_of_ble_eq_true rfl | (simp only [List.map_cons, List.map_nil, va_cat, List.sum_cons, List.sum_nil]; exact Nat.le_of_ble_eq_true rfl)) dX12_holds_165 (kI (fun w22 M23 h24 => ?_))
            refine e_goto (tgt := 191) C dX12_holds_168 (by decide) ?_
            refine e_pick [1, 2, 3, 4, 5, 0] rfl ?_
            exact w_X12_holds_J191 C hr hlk hK10 h24
        · replace h := ite_f h q16
          refine e_iload_n C 3 dX12_holds_151 rfl rfl ?_
          refine e_goto (tgt := 191) C dX12_holds_152 (by decide) ?_
          refine e_pick [1, 2, 3, 4, 5, 0] rfl ?_
          exact w_X12_holds_J191 C hr hlk hK10 h
      · replace h := ite_f h q15
        refine e_iinc (v := (v3 + -1)) (al' := [(3, .int (v3 + -1)), (5, .int (mI M b11 (v4).toNatClampNeg)), (0, .ref a0), (1, .int x1), (2, .int x2), (4, .int v4)]) C 4 dX12_holds_69 rfl rfl (by decide) rfl ?_
        refine e_aload_n C 2 dX12_holds_72 rfl rfl ?_
        refine e_getR C [12] 26 (fg_of fg_X12_89) o1 dX12_holds_73 ?_
        refine e_iload_n C 0 dX12_holds_76 rfl rfl ?_
        refine e_iconst (v := 1) C dX12_holds_77 (by decide) ?_
        refine e_isub C dX12_holds_78 ?_
        refine e_iload C 1 dX12_holds_79 rfl ?_
        refine e_bipush (v := -38) C dX12_holds_81 (by decide) ?_
        refine e_icmp_ne (tgt := 114) C dX12_holds_83 (by decide) (fun q25 => ?_) (fun q25 => ?_)
        · replace h := ite_f h q25
          refine e_aload_n C 2 dX12_holds_114 rfl rfl ?_
          refine e_getR C [12] 26 (fg_of fg_X12_89) o1 dX12_holds_115 ?_
          refine e_iload_n C 0 dX12_holds_118 rfl rfl ?_
          refine e_iconst (v := 1) C dX12_holds_119 (by decide) ?_
          refine e_isub C dX12_holds_120 ?_
          obtain ⟨b26, p27, h⟩ := h
          try rw [p27]
          obtain ⟨o28, h⟩ := h
          refine e_zald C o28 dX12_holds_121 ?_
          refine e_if_ne (tgt := 134) C dX12_holds_122 (by decide) (fun q29 => ?_) (fun q29 => ?_)
          · replace h := ite_f h q29
            refine e_pick [2, 3, 4, 0, 5] rfl ?_
            exact w_X12_holds_J134 C hr hlk hK10 h
          · replace h := ite_t h q29
            refine e_aload_n C 2 dX12_holds_125 rfl rfl ?_
            refine e_getR C [12] 26 (fg_of fg_X12_89) o1 dX12_holds_126 ?_
            rw [p27]
            refine e_iload_n C 0 dX12_holds_129 rfl rfl ?_
            obtain ⟨o30, h⟩ := h
            refine e_zald C o30 dX12_holds_130 ?_
            refine e_if_eq (tgt := 138) C dX12_holds_131 (by decide) (fun q31 => ?_) (fun q31 => ?_)
            · replace h := ite_t h q31
              refine e_iconst (v := 0) C dX12_holds_138 (by decide) ?_
              refine e_pick [2, 3, 4, 0, 5] rfl ?_
              exact w_X12_holds_J139 C hr hlk hK10 h
            · replace h := ite_f h q31
              refine e_pick [2, 3, 4, 0, 5] rfl ?_
              exact w_X12_holds_J134 C hr hlk hK10 h
        · replace h := ite_t h q25
          refine e_aload_n C 2 dX12_holds_86 rfl rfl ?_
          refine e_getR C [12] 26 (fg_of fg_X12_89) o1 dX12_holds_87 ?_
          refine e_iload_n C 0 dX12_holds_90 rfl rfl ?_
          refine e_iconst (v := 1) C dX12_holds_91 (by decide) ?_
          refine e_isub C dX12_holds_92 ?_
          obtain ⟨b32, p33, h⟩ := h
          try rw [p33]
          obtain ⟨o34, h⟩ := h
          refine e_zald C o34 dX12_holds_93 ?_
          refine e_if_eq (tgt := 110) C dX12_holds_94 (by decide) (fun q35 => ?_) (fun q35 => ?_)
          · replace h := ite_t h q35
            refine e_pick [2, 3, 4, 0, 5] rfl ?_
            exact w_X12_holds_J110 C hr hlk hK10 h
          · replace h := ite_f h q35
            refine e_aload_n C 2 dX12_holds_97 rfl rfl ?_
            refine e_getR C [12] 26 (fg_of fg_X12_89) o1 dX12_holds_98 ?_
            rw [p33]
            refine e_iload_n C 0 dX12_holds_101 rfl rfl ?_
            obtain ⟨o36, h⟩ := h
            refine e_zald C o36 dX12_holds_102 ?_
            refine e_if_eq (tgt := 110) C dX12_holds_103 (by decide) (fun q37 => ?_) (fun q37 => ?_)
            · replace h := ite_t h q37
              refine e_pick [2, 3, 4, 0, 5] rfl ?_
              exact w_X12_holds_J110 C hr hlk hK10 h
            · replace h := ite_f h q37
              refine e_iconst (v := 1) C dX12_holds_106 (by decide) ?_
              refine e_goto (tgt := 139) C dX12_holds_107 (by decide) ?_
              refine e_pick [2, 3, 4, 0, 5] rfl ?_
              exact w_X12_holds_J139 C hr hlk hK10 h
    · replace h := ite_t h q14
      refine e_aload_n C 1 dX12_holds_37 rfl rfl ?_
      refine e_getR C [12] 26 (fg_of fg_X12_89) o1 dX12_holds_38 ?_
      refine e_iload_n C 4 dX12_holds_41 rfl rfl ?_
      refine e_iconst (v := 1) C dX12_holds_42 (by decide) ?_
      refine e_isub C dX12_holds_43 ?_
      refine e_aload_n C 1 dX12_holds_44 rfl rfl ?_
      refine e_getR C [12] 26 (fg_of fg_X12_89) o1 dX12_holds_45 ?_
      refine e_iload_n C 4 dX12_holds_48 rfl rfl ?_
      refine e_iconst (v := 1) C dX12_holds_49 (by decide) ?_
      refine e_isub C dX12_holds_50 ?_
      obtain ⟨b38, p39, h⟩ := h
      try rw [p39]
      obtain ⟨o40, h⟩ := h
      refine e_zald C o40 dX12_holds_51 ?_
      refine e_if_ne (tgt := 59) C dX12_holds_52 (by decide) (fun q41 => ?_) (fun q41 => ?_)
      · replace h := ite_f h q41
        refine e_iconst (v := 0) C dX12_holds_59 (by decide) ?_
        refine e_pick [1, 2, 3, 4, 5] rfl ?_
        exact w_X12_holds_J60 C hr hlk hK10 h
      · replace h := ite_t h q41
        refine e_iconst (v := 1) C dX12_holds_55 (by decide) ?_
        refine e_goto (tgt := 60) C dX12_holds_56 (by decide) ?_
        refine e_pick [1, 2, 3, 4, 5] rfl ?_
        exact w_X12_holds_J60 C hr hlk hK10 h
set_option maxHeartbeats 4000000 in
set_option maxRecDepth 100000 in
theorem w_X12_holds_L10 {p : Program} {l : Launch} {e : Env} {s : State} {m : MethodId} {args : Array Value} {below : List Frame} {meth : Method} {c : Code} {g : Geo} (C : Cx p s m args c cX12_holds RX12 8 g) (hr : meth.sig.returnType = (some .boolean)) (hlk : meth.locks = false) {a0 : Nat} {x1 : Int32} {x2 : Int32} {v3 : Int32} {v4 : Int32} {M : Mem} {Q : Bool → Mem → Prop} (h : f_X12_holds_L10 a0 x1 x2 v3 v4 M Q) : E p l e (rmO 2 0 0) s m args below meth c g 8 (MQ below (QcM g (rZ Q)) args s 0 0 (gA g)) 0 0 10 [(0, .ref a0), (1, .int x1), (2, .int x2), (3, .int v3), (4, .int v4)] [] M := by
  unfold f_X12_holds_L10 at h
  refine loop_E (W := fun z : Int32 × Int32 × Mem => E p l e (rmO 2 0 0) s m args below meth c g 8 (MQ below (QcM g (rZ Q)) args s 0 0 (gA g)) 0 0 10 [(0, .ref a0), (1, .int x1), (2, .int x2), (3, .int z.1), (4, .int z.2.1)] [] (z.2.2)) h (fun K z hK h => ?_)
  exact w_X12_holds_B10 C hr hlk hK h
set_option maxHeartbeats 4000000 in
set_option maxRecDepth 100000 in
theorem w_X12_holds {p : Program} {l : Launch} {e : Env} {s : State} {m : MethodId} {args : Array Value} {below : List Frame} {meth : Method} {c : Code} {g : Geo} (C : Cx p s m args c cX12_holds RX12 8 g) (hr : meth.sig.returnType = (some .boolean)) (hlk : meth.locks = false) {a0 : Nat} {x1 : Int32} {x2 : Int32} {M : Mem} {Q : Bool → Mem → Prop} (h : f_X12_holds a0 x1 x2 M Q) : E p l e (rmO 2 0 0) s m args below meth c g 8 (MQ below (QcM g (rZ Q)) args s 0 0 (gA g)) 0 0 0 [(0, .ref a0), (1, .int x1), (2, .int x2)] [] M := by
  unfold f_X12_holds at h
  refine e_iconst (v := 0) C dX12_holds_0 (by decide) ?_
  refine e_istore_n (al' := [(3, .int (0 : Int32)), (0, .ref a0), (1, .int x1), (2, .int x2)]) C dX12_holds_1 rfl (by decide) rfl ?_
  refine e_aload_n C 1 dX12_holds_2 rfl rfl ?_
  obtain ⟨o1, h⟩ := h
  refine e_getR C [12] 19 (fg_of fg_X12_68) o1 dX12_holds_3 ?_
  refine e_iload_n C 2 dX12_holds_6 rfl rfl ?_
  obtain ⟨b2, p3, h⟩ := h
  try rw [p3]
  obtain ⟨o4, h⟩ := h
  refine e_iald C o4 dX12_holds_7 ?_
  refine e_istore (al' := [(4, .int (mI M b2 (x1).toNatClampNeg)), (3, .int (0 : Int32)), (0, .ref a0), (1, .int x1), (2, .int x2)]) C dX12_holds_8 (by decide) rfl ?_
  refine e_pick [2, 3, 4, 1, 0] rfl ?_
  exact w_X12_holds_L10 C hr hlk h
theorem m_X12_holds  {a0 : Nat} {x1 : Int32} {x2 : Int32} {M : Mem} {Q : Bool → Mem → Prop} (h : f_X12_holds a0 x1 x2 M Q) : Con yX12_holds cX12_holds 8 (some .boolean) 2 0 0 [.ref a0, .int x1, .int x2] M (rZ Q) :=
  con_of2 (al := [(0, .ref a0), (1, .int x1), (2, .int x2)]) (by decide) (by exact Nat.le_of_ble_eq_true rfl) (by rfl) (fun p l e s m args below meth c g C hr hlk _ => w_X12_holds C hr hlk h)
set_option maxHeartbeats 4000000 in
set_option maxRecDepth 100000 in
theorem w_X12_comes_J43 {p : Program} {l : Launch} {e : Env} {s : State} {m : MethodId} {args : Array Value} {below : List Frame} {meth : Method} {c : Code} {g : Geo} (C : Cx p s m args c cX12_comes RX12 4 g) (hr : meth.sig.returnType = (some .boolean)) (hlk : meth.locks = false) {a0 : Nat} {x1 : Int32} {x2 : Int32} {v3 : Int32} {M : Mem} {K5 : Int32 × Mem → Prop} {Q : Bool → Mem → Prop} (hK5 : ∀ z : Int32 × Mem, K5 z → E p l e (rmO 3 0 0) s m args below meth c g 4 (MQ below (QcM g (rZ Q)) args s 0 0 (gA g)) 0 0 5 [(0, .ref a0), (1, .int x1), (2, .int x2), (3, .int z.1)] [] (z.2)) (h : f_X12_comes_J43 a0 x1 x2 v3 M K5 Q) : E p l e (rmO 3 0 0) s m args below meth c g 4 (MQ below (QcM g (rZ Q)) args s 0 0 (gA g)) 0 0 43 [(0, .ref a0), (1, .int x1), (2, .int x2), (3, .int v3)] [] M := by
  unfold f_X12_comes_J43 at h
  refine e_iinc (v := (v3 + 1)) (al' := [(3, .int (v3 + 1)), (0, .ref a0), (1, .int x1), (2, .int x2)]) C 3 dX12_comes_43 rfl rfl (by decide) rfl ?_
  refine e_goto (tgt := 5) C dX12_comes_46 (by decide) ?_
  refine e_pick [1, 2, 3, 0] rfl ?_
  exact hK5 ((v3 + 1), M) h
set_option maxHeartbeats 4000000 in
set_option maxRecDepth 100000 in
theorem w_X12_comes_B5 {p : Program} {l : Launch} {e : Env} {s : State} {m : MethodId} {args : Array Value} {below : List Frame} {meth : Method} {c : Code} {g : Geo} (C : Cx p s m args c cX12_comes RX12 4 g) (hr : meth.sig.returnType = (some .boolean)) (hlk : meth.locks = false) {a0 : Nat} {x1 : Int32} {x2 : Int32} {v3 : Int32} {M : Mem} {K5 : Int32 × Mem → Prop} {Q : Bool → Mem → Prop} (hK5 : ∀ z : Int32 × Mem, K5 z → E p l e (rmO 3 0 0) s m args below meth c g 4 (MQ below (QcM g (rZ Q)) args s 0 0 (gA g)) 0 0 5 [(0, .ref a0), (1, .int x1), (2, .int x2), (3, .int z.1)] [] (z.2)) (h : f_X12_comes_B5 a0 x1 x2 v3 M K5 Q) : E p l e (rmO 3 0 0) s m args below meth c g 4 (MQ below (QcM g (rZ Q)) args s 0 0 (gA g)) 0 0 5 [(0, .ref a0), (1, .int x1), (2, .int x2), (3, .int v3)] [] M := by
  unfold f_X12_comes_B5 at h
  refine e_iload_n C 3 dX12_comes_5 rfl rfl ?_
  refine e_aload_n C 0 dX12_comes_6 rfl rfl ?_
  obtain ⟨o3, h⟩ := h
  refine e_callV (as := []) C wb_X12_behind wv_X12_277 (ci := 12) rfl rfl (isO_1 o3) (m_X12_behind h) rfl ⟨Nat.le_of_ble_eq_true rfl, Nat.le_of_ble_eq_true rfl⟩ ⟨Nat.le_of_ble_eq_true rfl, Nat.le_of_ble_eq_true rfl⟩ (by first | exact Nat.le_of_ble_eq_true rfl | (simp only [List.map_cons, List.map_nil, va_cat, List.sum_cons, List.sum_nil]; exact Nat.le_of_ble_eq_true rfl)) dX12_comes_7 (kI (fun w1 M2 h18 => ?_))
  refine e_icmp_ge (tgt := 49) C dX12_comes_10 (by decide) (fun q4 => ?_) (fun q4 => ?_)
  · replace h18 := ite_t h18 q4
    refine e_iconst (v := 0) C dX12_comes_49 (by decide) ?_
    exact e_zret C hr rfl hlk (Nat.le_refl _) (Nat.le_refl _) dX12_comes_50 ⟨false, rfl, h18⟩
  · replace h18 := ite_f h18 q4
    refine e_aload_n C 0 dX12_comes_13 rfl rfl ?_
    obtain ⟨o5, h18⟩ := h18
    refine e_getR C [12] 16 (fg_of fg_X12_59) o5 dX12_comes_14 ?_
    refine e_iload_n C 3 dX12_comes_17 rfl rfl ?_
    obtain ⟨b6, p7, h18⟩ := h18
    try rw [p7]
    obtain ⟨o8, h18⟩ := h18
    refine e_iald C o8 dX12_comes_18 ?_
    refine e_if_ne (tgt := 43) C dX12_comes_19 (by decide) (fun q9 => ?_) (fun q9 => ?_)
    · replace h18 := ite_f h18 q9
      exact w_X12_comes_J43 C hr hlk hK5 h18
    · replace h18 := ite_t h18 q9
      refine e_aload_n C 0 dX12_comes_22 rfl rfl ?_
      refine e_getR C [12] 17 (fg_of fg_X12_62) o5 dX12_comes_23 ?_
      refine e_iload_n C 3 dX12_comes_26 rfl rfl ?_
      obtain ⟨b10, p11, h18⟩ := h18
      try rw [p11]
      obtain ⟨o12, h18⟩ := h18
      refine e_iald C o12 dX12_comes_27 ?_
      refine e_iload_n C 1 dX12_comes_28 rfl rfl ?_
      refine e_icmp_ne (tgt := 43) C dX12_comes_29 (by decide) (fun q13 => ?_) (fun q13 => ?_)
      · replace h18 := ite_f h18 q13
        exact w_X12_comes_J43 C hr hlk hK5 h18
      · replace h18 := ite_t h18 q13
        refine e_aload_n C 0 dX12_comes_32 rfl rfl ?_
        refine e_iload_n C 3 dX12_comes_33 rfl rfl ?_
        refine e_iload_n C 2 dX12_comes_34 rfl rfl ?_
        refine e_callV (as := [.int v3, .int x2]) C wb_X12_holds wv_X12_291 (ci := 12) rfl rfl (isO_1 o5) (m_X12_holds h18) rfl ⟨Nat.le_of_ble_eq_true rfl, Nat.le_of_ble_eq_true rfl⟩ ⟨Nat.le_of_ble_eq_true rfl, Nat.le_of_ble_eq_true rfl⟩ (by first | exact Nat.le_of_ble_eq_true rfl | (simp only [List.map_cons, List.map_nil, va_cat, List.sum_cons, List.sum_nil]; exact Nat.le_of_ble_eq_true rfl)) dX12_comes_35 (kZ (fun w14 M15 h17 => ?_))
        refine e_if_eq (tgt := 43) C dX12_comes_38 (by decide) (fun q16 => ?_) (fun q16 => ?_)
        · replace h17 := ite_f h17 (bi_ne q16)
          exact w_X12_comes_J43 C hr hlk hK5 h17
        · replace h17 := ite_t h17 (bi_t q16)
          refine e_iconst (v := 1) C dX12_comes_41 (by decide) ?_
          exact e_zret C hr rfl hlk (Nat.le_refl _) (Nat.le_refl _) dX12_comes_42 ⟨true, rfl, h17⟩
set_option maxHeartbeats 4000000 in
set_option maxRecDepth 100000 in
theorem w_X12_comes_L5 {p : Program} {l : Launch} {e : Env} {s : State} {m : MethodId} {args : Array Value} {below : List Frame} {meth : Method} {c : Code} {g : Geo} (C : Cx p s m args c cX12_comes RX12 4 g) (hr : meth.sig.returnType = (some .boolean)) (hlk : meth.locks = false) {a0 : Nat} {x1 : Int32} {x2 : Int32} {v3 : Int32} {M : Mem} {Q : Bool → Mem → Prop} (h : f_X12_comes_L5 a0 x1 x2 v3 M Q) : E p l e (rmO 3 0 0) s m args below meth c g 4 (MQ below (QcM g (rZ Q)) args s 0 0 (gA g)) 0 0 5 [(0, .ref a0), (1, .int x1), (2, .int x2), (3, .int v3)] [] M := by
  unfold f_X12_comes_L5 at h
  refine loop_E (W := fun z : Int32 × Mem => E p l e (rmO 3 0 0) s m args below meth c g 4 (MQ below (QcM g (rZ Q)) args s 0 0 (gA g)) 0 0 5 [(0, .ref a0), (1, .int x1), (2, .int x2), (3, .int z.1)] [] (z.2)) h (fun K z hK h => ?_)
  exact w_X12_comes_B5 C hr hlk hK h
set_option maxHeartbeats 4000000 in
set_option maxRecDepth 100000 in
theorem w_X12_comes {p : Program} {l : Launch} {e : Env} {s : State} {m : MethodId} {args : Array Value} {below : List Frame} {meth : Method} {c : Code} {g : Geo} (C : Cx p s m args c cX12_comes RX12 4 g) (hr : meth.sig.returnType = (some .boolean)) (hlk : meth.locks = false) {a0 : Nat} {x1 : Int32} {x2 : Int32} {M : Mem} {Q : Bool → Mem → Prop} (h : f_X12_comes a0 x1 x2 M Q) : E p l e (rmO 3 0 0) s m args below meth c g 4 (MQ below (QcM g (rZ Q)) args s 0 0 (gA g)) 0 0 0 [(0, .ref a0), (1, .int x1), (2, .int x2)] [] M := by
  unfold f_X12_comes at h
  refine e_aload_n C 0 dX12_comes_0 rfl rfl ?_
  obtain ⟨o3, h⟩ := h
  refine e_callV (as := []) C wb_X12_first wv_X12_274 (ci := 12) rfl rfl (isO_1 o3) (m_X12_first h) rfl ⟨Nat.le_of_ble_eq_true rfl, Nat.le_of_ble_eq_true rfl⟩ ⟨Nat.le_of_ble_eq_true rfl, Nat.le_of_ble_eq_true rfl⟩ (by first | exact Nat.le_of_ble_eq_true rfl | (simp only [List.map_cons, List.map_nil, va_cat, List.sum_cons, List.sum_nil]; exact Nat.le_of_ble_eq_true rfl)) dX12_comes_1 (kI (fun w1 M2 h4 => ?_))
  refine e_istore_n (al' := [(3, .int w1), (0, .ref a0), (1, .int x1), (2, .int x2)]) C dX12_comes_4 rfl (by decide) rfl ?_
  refine e_pick [1, 2, 3, 0] rfl ?_
  exact w_X12_comes_L5 C hr hlk h4
theorem m_X12_comes  {a0 : Nat} {x1 : Int32} {x2 : Int32} {M : Mem} {Q : Bool → Mem → Prop} (h : f_X12_comes a0 x1 x2 M Q) : Con yX12_comes cX12_comes 4 (some .boolean) 3 0 0 [.ref a0, .int x1, .int x2] M (rZ Q) :=
  con_of2 (al := [(0, .ref a0), (1, .int x1), (2, .int x2)]) (by decide) (by exact Nat.le_of_ble_eq_true rfl) (by rfl) (fun p l e s m args below meth c g C hr hlk _ => w_X12_comes C hr hlk h)
set_option maxHeartbeats 4000000 in
set_option maxRecDepth 100000 in
theorem w_X12_isOrder {p : Program} {l : Launch} {e : Env} {s : State} {m : MethodId} {args : Array Value} {below : List Frame} {meth : Method} {c : Code} {g : Geo} (C : Cx p s m args c cX12_isOrder RX12 2 g) (hr : meth.sig.returnType = (some .boolean)) (hlk : meth.locks = false) {a0 : Nat} {x1 : Int32} {M : Mem} {Q : Bool → Mem → Prop} (h : f_X12_isOrder a0 x1 M Q) : E p l e (rmO 2 0 0) s m args below meth c g 2 (MQ below (QcM g (rZ Q)) args s 0 0 (gA g)) 0 0 0 [(0, .ref a0), (1, .int x1)] [] M := by
  unfold f_X12_isOrder at h
  refine e_aload_n C 0 dX12_isOrder_0 rfl rfl ?_
  refine e_iload_n C 1 dX12_isOrder_1 rfl rfl ?_
  refine e_iconst (v := 0) C dX12_isOrder_2 (by decide) ?_
  refine e_aload_n C 0 dX12_isOrder_3 rfl rfl ?_
  obtain ⟨o1, h⟩ := h
  refine e_getI C [12] 27 (fg_of fg_X12_93) o1 dX12_isOrder_4 ?_
  refine e_iconst (v := 1) C dX12_isOrder_7 (by decide) ?_
  refine e_isub C dX12_isOrder_8 ?_
  refine e_callV (as := [.int x1, .int (0 : Int32), .int ((mI M a0 27) - (1 : Int32))]) C wb_X12_in wv_X12_215 (ci := 12) rfl rfl (isO_1 o1) (m_X12_in h) rfl ⟨Nat.le_of_ble_eq_true rfl, Nat.le_of_ble_eq_true rfl⟩ ⟨Nat.le_of_ble_eq_true rfl, Nat.le_of_ble_eq_true rfl⟩ (by first | exact Nat.le_of_ble_eq_true rfl | (simp only [List.map_cons, List.map_nil, va_cat, List.sum_cons, List.sum_nil]; exact Nat.le_of_ble_eq_true rfl)) dX12_isOrder_9 (kZ (fun w2 M3 h4 => ?_))
  exact e_zret C hr (bi_nar _) hlk (Nat.le_refl _) (Nat.le_refl _) dX12_isOrder_12 ⟨_, rfl, h4⟩
theorem m_X12_isOrder  {a0 : Nat} {x1 : Int32} {M : Mem} {Q : Bool → Mem → Prop} (h : f_X12_isOrder a0 x1 M Q) : Con yX12_isOrder cX12_isOrder 2 (some .boolean) 2 0 0 [.ref a0, .int x1] M (rZ Q) :=
  con_of2 (al := [(0, .ref a0), (1, .int x1)]) (by decide) (by exact Nat.le_of_ble_eq_true rfl) (by rfl) (fun p l e s m args below meth c g C hr hlk _ => w_X12_isOrder C hr hlk h)
set_option maxHeartbeats 4000000 in
set_option maxRecDepth 100000 in
theorem w_X12_order_B61 {p : Program} {l : Launch} {e : Env} {s : State} {m : MethodId} {args : Array Value} {below : List Frame} {meth : Method} {c : Code} {g : Geo} (C : Cx p s m args c cX12_order RX12 4 g) (hr : meth.sig.returnType = (some .int)) (hlk : meth.locks = false) {a0 : Nat} {x1 : Int32} {x2 : Int32} {v3 : Int32} {M : Mem} {K61 : Int32 × Mem → Prop} {Q : Int32 → Mem → Prop} (hK61 : ∀ z : Int32 × Mem, K61 z → E p l e (rmO 2 0 0) s m args below meth c g 4 (MQ below (QcM g (rI Q)) args s 0 0 (gA g)) 0 0 61 [(0, .ref a0), (1, .int x1), (2, .int x2), (3, .int z.1)] [] (z.2)) (h : f_X12_order_B61 a0 x1 x2 v3 M K61 Q) : E p l e (rmO 2 0 0) s m args below meth c g 4 (MQ below (QcM g (rI Q)) args s 0 0 (gA g)) 0 0 61 [(0, .ref a0), (1, .int x1), (2, .int x2), (3, .int v3)] [] M := by
  unfold f_X12_order_B61 at h
  refine e_iload_n C 3 dX12_order_61 rfl rfl ?_
  refine e_bipush (v := 10) C dX12_order_62 (by decide) ?_
  refine e_icmp_ge (tgt := 88) C dX12_order_64 (by decide) (fun q1 => ?_) (fun q1 => ?_)
  · replace h := ite_t h q1
    refine e_aload_n C 0 dX12_order_88 rfl rfl ?_
    refine e_dup C rfl dX12_order_89 ?_
    obtain ⟨o2, h⟩ := h
    refine e_getI C [12] 27 (fg_of fg_X12_93) o2 dX12_order_90 ?_
    refine e_iconst (v := 1) C dX12_order_93 (by decide) ?_
    refine e_iadd C dX12_order_94 ?_
    refine e_putI C [12] 27 false (fun z => by cases z) fp_X12_93 o2 dX12_order_95 ?_
    refine nmE (fun M3 e4 => ?_)
    replace h := h M3 e4
    have o5 : isO M3 a0 [12] := by rw [e4]; exact o2
    refine e_aload_n C 0 dX12_order_98 rfl rfl ?_
    refine e_getI C [12] 27 (fg_of fg_X12_93) o5 dX12_order_99 ?_
    refine e_iconst (v := 1) C dX12_order_102 (by decide) ?_
    refine e_isub C dX12_order_103 ?_
    exact e_iret C hr hlk (Nat.le_refl _) (Nat.le_refl _) dX12_order_104 ⟨_, rfl, h⟩
  · replace h := ite_f h q1
    refine e_aload_n C 0 dX12_order_67 rfl rfl ?_
    obtain ⟨o6, h⟩ := h
    refine e_getR C [12] 30 (fg_of fg_X12_102) o6 dX12_order_68 ?_
    refine e_bipush (v := 10) C dX12_order_71 (by decide) ?_
    refine e_aload_n C 0 dX12_order_73 rfl rfl ?_
    refine e_getI C [12] 27 (fg_of fg_X12_93) o6 dX12_order_74 ?_
    refine e_imul C dX12_order_77 ?_
    refine e_iload_n C 3 dX12_order_78 rfl rfl ?_
    refine e_iadd C dX12_order_79 ?_
    refine e_iconst (v := -1) C dX12_order_80 (by decide) ?_
    obtain ⟨b7, p8, h⟩ := h
    try rw [p8]
    obtain ⟨o9, h⟩ := h
    refine e_iast C o9 dX12_order_81 ?_
    refine nmE (fun M10 e11 => ?_)
    replace h := h M10 e11
    have o12 : isO M10 a0 [12] := by rw [e11]; exact o6
    have p13 : mP M10 a0 30 = some b7 := by rw [e11]; exact p8
    refine e_iinc (v := (v3 + 1)) (al' := [(3, .int (v3 + 1)), (0, .ref a0), (1, .int x1), (2, .int x2)]) C 3 dX12_order_82 rfl rfl (by decide) rfl ?_
    refine e_goto (tgt := 61) C dX12_order_85 (by decide) ?_
    refine e_pick [1, 2, 3, 0] rfl ?_
    exact hK61 ((v3 + 1), M10) h
set_option maxHeartbeats 4000000 in
set_option maxRecDepth 100000 in
theorem w_X12_order_L61 {p : Program} {l : Launch} {e : Env} {s : State} {m : MethodId} {args : Array Value} {below : List Frame} {meth : Method} {c : Code} {g : Geo} (C : Cx p s m args c cX12_order RX12 4 g) (hr : meth.sig.returnType = (some .int)) (hlk : meth.locks = false) {a0 : Nat} {x1 : Int32} {x2 : Int32} {v3 : Int32} {M : Mem} {Q : Int32 → Mem → Prop} (h : f_X12_order_L61 a0 x1 x2 v3 M Q) : E p l e (rmO 2 0 0) s m args below meth c g 4 (MQ below (QcM g (rI Q)) args s 0 0 (gA g)) 0 0 61 [(0, .ref a0), (1, .int x1), (2, .int x2), (3, .int v3)] [] M := by
  unfold f_X12_order_L61 at h
  refine loop_E (W := fun z : Int32 × Mem => E p l e (rmO 2 0 0) s m args below meth c g 4 (MQ below (QcM g (rI Q)) args s 0 0 (gA g)) 0 0 61 [(0, .ref a0), (1, .int x1), (2, .int x2), (3, .int z.1)] [] (z.2)) h (fun K z hK h => ?_)
  exact w_X12_order_B61 C hr hlk hK h
set_option maxHeartbeats 4000000 in
set_option maxRecDepth 100000 in
theorem w_X12_order {p : Program} {l : Launch} {e : Env} {s : State} {m : MethodId} {args : Array Value} {below : List Frame} {meth : Method} {c : Code} {g : Geo} (C : Cx p s m args c cX12_order RX12 4 g) (hr : meth.sig.returnType = (some .int)) (hlk : meth.locks = false) {a0 : Nat} {x1 : Int32} {x2 : Int32} {M : Mem} {Q : Int32 → Mem → Prop} (h : f_X12_order a0 x1 x2 M Q) : E p l e (rmO 2 0 0) s m args below meth c g 4 (MQ below (QcM g (rI Q)) args s 0 0 (gA g)) 0 0 0 [(0, .ref a0), (1, .int x1), (2, .int x2)] [] M := by
  unfold f_X12_order at h
  refine e_aload_n C 0 dX12_order_0 rfl rfl ?_
  refine e_iload_n C 1 dX12_order_1 rfl rfl ?_
  refine e_iconst (v := 0) C dX12_order_2 (by decide) ?_
  refine e_bipush (v := 6) C dX12_order_3 (by decide) ?_
  obtain ⟨o3, h⟩ := h
  refine e_callV (as := [.int x1, .int (0 : Int32), .int (6 : Int32)]) C wb_X12_in wv_X12_215 (ci := 12) rfl rfl (isO_1 o3) (m_X12_in h) rfl ⟨Nat.le_of_ble_eq_true rfl, Nat.le_of_ble_eq_true rfl⟩ ⟨Nat.le_of_ble_eq_true rfl, Nat.le_of_ble_eq_true rfl⟩ (by first | exact Nat.le_of_ble_eq_true rfl | (simp only [List.map_cons, List.map_nil, va_cat, List.sum_cons, List.sum_nil]; exact Nat.le_of_ble_eq_true rfl)) dX12_order_5 (kZ (fun w1 M2 h27 => ?_))
  refine e_if_ne (tgt := 13) C dX12_order_8 (by decide) (fun q4 => ?_) (fun q4 => ?_)
  · replace h27 := ite_t h27 (bi_t q4)
    refine e_aload_n C 0 dX12_order_13 rfl rfl ?_
    refine e_iload_n C 2 dX12_order_14 rfl rfl ?_
    refine e_iconst (v := 1) C dX12_order_15 (by decide) ?_
    refine e_bipush (v := 9) C dX12_order_16 (by decide) ?_
    obtain ⟨o7, h27⟩ := h27
    refine e_callV (as := [.int x2, .int (1 : Int32), .int (9 : Int32)]) C wb_X12_in wv_X12_215 (ci := 12) rfl rfl (isO_1 o7) (m_X12_in h27) rfl ⟨Nat.le_of_ble_eq_true rfl, Nat.le_of_ble_eq_true rfl⟩ ⟨Nat.le_of_ble_eq_true rfl, Nat.le_of_ble_eq_true rfl⟩ (by first | exact Nat.le_of_ble_eq_true rfl | (simp only [List.map_cons, List.map_nil, va_cat, List.sum_cons, List.sum_nil]; exact Nat.le_of_ble_eq_true rfl)) dX12_order_18 (kZ (fun w5 M6 h26 => ?_))
    refine e_if_ne (tgt := 27) C dX12_order_21 (by decide) (fun q8 => ?_) (fun q8 => ?_)
    · replace h26 := ite_t h26 (bi_t q8)
      refine e_aload_n C 0 dX12_order_27 rfl rfl ?_
      obtain ⟨o9, h26⟩ := h26
      refine e_getI C [12] 27 (fg_of fg_X12_93) o9 dX12_order_28 ?_
      refine e_bipush (v := 10) C dX12_order_31 (by decide) ?_
      refine e_icmp_ne (tgt := 39) C dX12_order_33 (by decide) (fun q10 => ?_) (fun q10 => ?_)
      · replace h26 := ite_f h26 q10
        refine e_aload_n C 0 dX12_order_39 rfl rfl ?_
        refine e_getR C [12] 28 (fg_of fg_X12_96) o9 dX12_order_40 ?_
        refine e_aload_n C 0 dX12_order_43 rfl rfl ?_
        refine e_getI C [12] 27 (fg_of fg_X12_93) o9 dX12_order_44 ?_
        refine e_iload_n C 1 dX12_order_47 rfl rfl ?_
        obtain ⟨b11, p12, h26⟩ := h26
        try rw [p12]
        obtain ⟨o13, h26⟩ := h26
        refine e_iast C o13 dX12_order_48 ?_
        refine nmE (fun M14 e15 => ?_)
        replace h26 := h26 M14 e15
        have o16 : isO M14 a0 [12] := by rw [e15]; exact o9
        have p17 : mP M14 a0 28 = some b11 := by rw [e15]; exact p12
        refine e_aload_n C 0 dX12_order_49 rfl rfl ?_
        refine e_getR C [12] 29 (fg_of fg_X12_99) o16 dX12_order_50 ?_
        refine e_aload_n C 0 dX12_order_53 rfl rfl ?_
        refine e_getI C [12] 27 (fg_of fg_X12_93) o16 dX12_order_54 ?_
        refine e_iload_n C 2 dX12_order_57 rfl rfl ?_
        obtain ⟨b18, p19, h26⟩ := h26
        try rw [p19]
        obtain ⟨o20, h26⟩ := h26
        refine e_iast C o20 dX12_order_58 ?_
        refine nmE (fun M21 e22 => ?_)
        replace h26 := h26 M21 e22
        have o23 : isO M21 a0 [12] := by rw [e22]; exact o16
        have p24 : mP M21 a0 28 = some b11 := by rw [e22]; exact p17
        have p25 : mP M21 a0 29 = some b18 := by rw [e22]; exact p19
        refine e_iconst (v := 0) C dX12_order_59 (by decide) ?_
        refine e_istore_n (al' := [(3, .int (0 : Int32)), (0, .ref a0), (1, .int x1), (2, .int x2)]) C dX12_order_60 rfl (by decide) rfl ?_
        refine e_pick [1, 2, 3, 0] rfl ?_
        exact w_X12_order_L61 C hr hlk h26
      · replace h26 := ite_t h26 q10
        refine e_bipush (v := -4) C dX12_order_36 (by decide) ?_
        exact e_iret C hr hlk (Nat.le_refl _) (Nat.le_refl _) dX12_order_38 ⟨_, rfl, h26⟩
    · replace h26 := ite_f h26 (bi_ne q8)
      refine e_bipush (v := -2) C dX12_order_24 (by decide) ?_
      exact e_iret C hr hlk (Nat.le_refl _) (Nat.le_refl _) dX12_order_26 ⟨_, rfl, h26⟩
  · replace h27 := ite_f h27 (bi_ne q4)
    refine e_iconst (v := -1) C dX12_order_11 (by decide) ?_
    exact e_iret C hr hlk (Nat.le_refl _) (Nat.le_refl _) dX12_order_12 ⟨_, rfl, h27⟩
theorem m_X12_order  {a0 : Nat} {x1 : Int32} {x2 : Int32} {M : Mem} {Q : Int32 → Mem → Prop} (h : f_X12_order a0 x1 x2 M Q) : Con yX12_order cX12_order 4 (some .int) 2 0 0 [.ref a0, .int x1, .int x2] M (rI Q) :=
  con_of2 (al := [(0, .ref a0), (1, .int x1), (2, .int x2)]) (by decide) (by exact Nat.le_of_ble_eq_true rfl) (by rfl) (fun p l e s m args below meth c g C hr hlk _ => w_X12_order C hr hlk h)
set_option maxHeartbeats 4000000 in
set_option maxRecDepth 100000 in
theorem w_X12_row {p : Program} {l : Launch} {e : Env} {s : State} {m : MethodId} {args : Array Value} {below : List Frame} {meth : Method} {c : Code} {g : Geo} (C : Cx p s m args c cX12_row RX12 5 g) (hr : meth.sig.returnType = (some .int)) (hlk : meth.locks = false) {a0 : Nat} {x1 : Int32} {x2 : Int32} {x3 : Int32} {M : Mem} {Q : Int32 → Mem → Prop} (h : f_X12_row a0 x1 x2 x3 M Q) : E p l e (rmO 3 0 0) s m args below meth c g 5 (MQ below (QcM g (rI Q)) args s 0 0 (gA g)) 0 0 0 [(0, .ref a0), (1, .int x1), (2, .int x2), (3, .int x3)] [] M := by
  unfold f_X12_row at h
  refine e_aload_n C 0 dX12_row_0 rfl rfl ?_
  refine e_iload_n C 1 dX12_row_1 rfl rfl ?_
  obtain ⟨o3, h⟩ := h
  refine e_callV (as := [.int x1]) C wb_X12_isOrder wv_X12_294 (ci := 12) rfl rfl (isO_1 o3) (m_X12_isOrder h) rfl ⟨Nat.le_of_ble_eq_true rfl, Nat.le_of_ble_eq_true rfl⟩ ⟨Nat.le_of_ble_eq_true rfl, Nat.le_of_ble_eq_true rfl⟩ (by first | exact Nat.le_of_ble_eq_true rfl | (simp only [List.map_cons, List.map_nil, va_cat, List.sum_cons, List.sum_nil]; exact Nat.le_of_ble_eq_true rfl)) dX12_row_2 (kZ (fun w1 M2 h30 => ?_))
  refine e_if_eq (tgt := 19) C dX12_row_5 (by decide) (fun q4 => ?_) (fun q4 => ?_)
  · replace h30 := ite_f h30 (bi_ne q4)
    refine e_iconst (v := -1) C dX12_row_19 (by decide) ?_
    exact e_iret C hr hlk (Nat.le_refl _) (Nat.le_refl _) dX12_row_20 ⟨_, rfl, h30⟩
  · replace h30 := ite_t h30 (bi_t q4)
    refine e_aload_n C 0 dX12_row_8 rfl rfl ?_
    refine e_iload_n C 2 dX12_row_9 rfl rfl ?_
    refine e_iconst (v := 0) C dX12_row_10 (by decide) ?_
    refine e_bipush (v := 9) C dX12_row_11 (by decide) ?_
    obtain ⟨o7, h30⟩ := h30
    refine e_callV (as := [.int x2, .int (0 : Int32), .int (9 : Int32)]) C wb_X12_in wv_X12_215 (ci := 12) rfl rfl (isO_1 o7) (m_X12_in h30) rfl ⟨Nat.le_of_ble_eq_true rfl, Nat.le_of_ble_eq_true rfl⟩ ⟨Nat.le_of_ble_eq_true rfl, Nat.le_of_ble_eq_true rfl⟩ (by first | exact Nat.le_of_ble_eq_true rfl | (simp only [List.map_cons, List.map_nil, va_cat, List.sum_cons, List.sum_nil]; exact Nat.le_of_ble_eq_true rfl)) dX12_row_13 (kZ (fun w5 M6 h29 => ?_))
    refine e_if_ne (tgt := 21) C dX12_row_16 (by decide) (fun q8 => ?_) (fun q8 => ?_)
    · replace h29 := ite_t h29 (bi_t q8)
      refine e_aload_n C 0 dX12_row_21 rfl rfl ?_
      refine e_iload_n C 3 dX12_row_22 rfl rfl ?_
      refine e_iconst (v := -1) C dX12_row_23 (by decide) ?_
      refine e_iconst (v := 2) C dX12_row_24 (by decide) ?_
      obtain ⟨o11, h29⟩ := h29
      refine e_callV (as := [.int x3, .int (-1 : Int32), .int (2 : Int32)]) C wb_X12_in wv_X12_215 (ci := 12) rfl rfl (isO_1 o11) (m_X12_in h29) rfl ⟨Nat.le_of_ble_eq_true rfl, Nat.le_of_ble_eq_true rfl⟩ ⟨Nat.le_of_ble_eq_true rfl, Nat.le_of_ble_eq_true rfl⟩ (by first | exact Nat.le_of_ble_eq_true rfl | (simp only [List.map_cons, List.map_nil, va_cat, List.sum_cons, List.sum_nil]; exact Nat.le_of_ble_eq_true rfl)) dX12_row_25 (kZ (fun w9 M10 h28 => ?_))
      refine e_if_ne (tgt := 34) C dX12_row_28 (by decide) (fun q12 => ?_) (fun q12 => ?_)
      · replace h28 := ite_t h28 (bi_t q12)
        refine e_aload_n C 0 dX12_row_34 rfl rfl ?_
        obtain ⟨o13, h28⟩ := h28
        refine e_getR C [12] 28 (fg_of fg_X12_96) o13 dX12_row_35 ?_
        refine e_iload_n C 1 dX12_row_38 rfl rfl ?_
        obtain ⟨b14, p15, h28⟩ := h28
        try rw [p15]
        obtain ⟨o16, h28⟩ := h28
        refine e_iald C o16 dX12_row_39 ?_
        refine e_bipush (v := 6) C dX12_row_40 (by decide) ?_
        refine e_icmp_eq (tgt := 48) C dX12_row_42 (by decide) (fun q17 => ?_) (fun q17 => ?_)
        · replace h28 := ite_t h28 q17
          refine e_aload_n C 0 dX12_row_48 rfl rfl ?_
          refine e_getR C [12] 30 (fg_of fg_X12_102) o13 dX12_row_49 ?_
          refine e_bipush (v := 10) C dX12_row_52 (by decide) ?_
          refine e_iload_n C 1 dX12_row_54 rfl rfl ?_
          refine e_imul C dX12_row_55 ?_
          refine e_iload_n C 2 dX12_row_56 rfl rfl ?_
          refine e_iadd C dX12_row_57 ?_
          obtain ⟨b18, p19, h28⟩ := h28
          try rw [p19]
          obtain ⟨o20, h28⟩ := h28
          refine e_iald C o20 dX12_row_58 ?_
          refine e_istore (al' := [(4, .int (mI M10 b18 ((((10 : Int32) * x1) + x2)).toNatClampNeg)), (0, .ref a0), (1, .int x1), (2, .int x2), (3, .int x3)]) C dX12_row_59 (by decide) rfl ?_
          refine e_aload_n C 1 dX12_row_61 rfl rfl ?_
          refine e_getR C [12] 30 (fg_of fg_X12_102) o13 dX12_row_62 ?_
          rw [p19]
          refine e_bipush (v := 10) C dX12_row_65 (by decide) ?_
          refine e_iload_n C 2 dX12_row_67 rfl rfl ?_
          refine e_imul C dX12_row_68 ?_
          refine e_iload_n C 3 dX12_row_69 rfl rfl ?_
          refine e_iadd C dX12_row_70 ?_
          refine e_iload_n C 4 dX12_row_71 rfl rfl ?_
          obtain ⟨o21, h28⟩ := h28
          refine e_iast C o21 dX12_row_72 ?_
          refine nmE (fun M22 e23 => ?_)
          replace h28 := h28 M22 e23
          have o24 : isO M22 a0 [12] := by rw [e23]; exact o13
          have p25 : mP M22 a0 28 = some b14 := by rw [e23]; exact p15
          have p26 : mP M22 a0 30 = some b18 := by rw [e23]; exact p19
          refine e_iload C 0 dX12_row_73 rfl ?_
          refine e_if_ge (tgt := 83) C dX12_row_75 (by decide) (fun q27 => ?_) (fun q27 => ?_)
          · replace h28 := ite_t h28 q27
            refine e_iload C 0 dX12_row_83 rfl ?_
            exact e_iret C hr hlk (Nat.le_refl _) (Nat.le_refl _) dX12_row_85 ⟨_, rfl, h28⟩
          · replace h28 := ite_f h28 q27
            refine e_bipush (v := -5) C dX12_row_78 (by decide) ?_
            refine e_goto (tgt := 85) C dX12_row_80 (by decide) ?_
            exact e_iret C hr hlk (Nat.le_refl _) (Nat.le_refl _) dX12_row_85 ⟨_, rfl, h28⟩
        · replace h28 := ite_f h28 q17
          refine e_bipush (v := -3) C dX12_row_45 (by decide) ?_
          exact e_iret C hr hlk (Nat.le_refl _) (Nat.le_refl _) dX12_row_47 ⟨_, rfl, h28⟩
      · replace h28 := ite_f h28 (bi_ne q12)
        refine e_bipush (v := -2) C dX12_row_31 (by decide) ?_
        exact e_iret C hr hlk (Nat.le_refl _) (Nat.le_refl _) dX12_row_33 ⟨_, rfl, h28⟩
    · replace h29 := ite_f h29 (bi_ne q8)
      refine e_iconst (v := -1) C dX12_row_19 (by decide) ?_
      exact e_iret C hr hlk (Nat.le_refl _) (Nat.le_refl _) dX12_row_20 ⟨_, rfl, h29⟩
theorem m_X12_row  {a0 : Nat} {x1 : Int32} {x2 : Int32} {x3 : Int32} {M : Mem} {Q : Int32 → Mem → Prop} (h : f_X12_row a0 x1 x2 x3 M Q) : Con yX12_row cX12_row 5 (some .int) 3 0 0 [.ref a0, .int x1, .int x2, .int x3] M (rI Q) :=
  con_of2 (al := [(0, .ref a0), (1, .int x1), (2, .int x2), (3, .int x3)]) (by decide) (by exact Nat.le_of_ble_eq_true rfl) (by rfl) (fun p l e s m args below meth c g C hr hlk _ => w_X12_row C hr hlk h)
set_option maxHeartbeats 4000000 in
set_option maxRecDepth 100000 in
theorem w_X12_timeOf {p : Program} {l : Launch} {e : Env} {s : State} {m : MethodId} {args : Array Value} {below : List Frame} {meth : Method} {c : Code} {g : Geo} (C : Cx p s m args c cX12_timeOf RX12 2 g) (hr : meth.sig.returnType = (some .int)) (hlk : meth.locks = false) {a0 : Nat} {x1 : Int32} {M : Mem} {Q : Int32 → Mem → Prop} (h : f_X12_timeOf a0 x1 M Q) : E p l e (rmO 1 0 0) s m args below meth c g 2 (MQ below (QcM g (rI Q)) args s 0 0 (gA g)) 0 0 0 [(0, .ref a0), (1, .int x1)] [] M := by
  unfold f_X12_timeOf at h
  refine e_aload_n C 0 dX12_timeOf_0 rfl rfl ?_
  obtain ⟨o1, h⟩ := h
  refine e_getR C [12] 5 (fg_of fg_X12_26) o1 dX12_timeOf_1 ?_
  refine e_aload_n C 0 dX12_timeOf_4 rfl rfl ?_
  refine e_getR C [12] 41 (fg_of fg_X12_135) o1 dX12_timeOf_5 ?_
  refine e_iload_n C 1 dX12_timeOf_8 rfl rfl ?_
  obtain ⟨b2, p3, h⟩ := h
  try rw [p3]
  obtain ⟨o4, h⟩ := h
  refine e_iald C o4 dX12_timeOf_9 ?_
  obtain ⟨b5, p6, h⟩ := h
  try rw [p6]
  obtain ⟨o7, h⟩ := h
  refine e_iald C o7 dX12_timeOf_10 ?_
  refine e_aload_n C 0 dX12_timeOf_11 rfl rfl ?_
  refine e_getI C [12] 36 (fg_of fg_X12_120) o1 dX12_timeOf_12 ?_
  refine e_iadd C dX12_timeOf_15 ?_
  exact e_iret C hr hlk (Nat.le_refl _) (Nat.le_refl _) dX12_timeOf_16 ⟨_, rfl, h⟩
theorem m_X12_timeOf  {a0 : Nat} {x1 : Int32} {M : Mem} {Q : Int32 → Mem → Prop} (h : f_X12_timeOf a0 x1 M Q) : Con yX12_timeOf cX12_timeOf 2 (some .int) 1 0 0 [.ref a0, .int x1] M (rI Q) :=
  con_of2 (al := [(0, .ref a0), (1, .int x1)]) (by decide) (by exact Nat.le_of_ble_eq_true rfl) (by rfl) (fun p l e s m args below meth c g C hr hlk _ => w_X12_timeOf C hr hlk h)
set_option maxHeartbeats 4000000 in
set_option maxRecDepth 100000 in
theorem w_X12_timesIn_B9 {p : Program} {l : Launch} {e : Env} {s : State} {m : MethodId} {args : Array Value} {below : List Frame} {meth : Method} {c : Code} {g : Geo} (C : Cx p s m args c cX12_timesIn RX12 4 g) (hr : meth.sig.returnType = (some .int)) (hlk : meth.locks = false) {a0 : Nat} {x1 : Int32} {v2 : Int32} {v3 : Int32} {M : Mem} {K9 : Int32 × Int32 × Mem → Prop} {Q : Int32 → Mem → Prop} (hK9 : ∀ z : Int32 × Int32 × Mem, K9 z → E p l e (rmO 2 0 0) s m args below meth c g 4 (MQ below (QcM g (rI Q)) args s 0 0 (gA g)) 0 0 9 [(0, .ref a0), (1, .int x1), (2, .int z.1), (3, .int z.2.1)] [] (z.2.2)) (h : f_X12_timesIn_B9 a0 x1 v2 v3 M K9 Q) : E p l e (rmO 2 0 0) s m args below meth c g 4 (MQ below (QcM g (rI Q)) args s 0 0 (gA g)) 0 0 9 [(0, .ref a0), (1, .int x1), (2, .int v2), (3, .int v3)] [] M := by
  unfold f_X12_timesIn_B9 at h
  refine e_iload_n C 3 dX12_timesIn_9 rfl rfl ?_
  refine e_aload_n C 0 dX12_timesIn_10 rfl rfl ?_
  obtain ⟨o1, h⟩ := h
  refine e_getR C [12] 49 (fg_of fg_X12_159) o1 dX12_timesIn_11 ?_
  refine e_iload_n C 1 dX12_timesIn_14 rfl rfl ?_
  obtain ⟨b2, p3, h⟩ := h
  try rw [p3]
  obtain ⟨o4, h⟩ := h
  refine e_iald C o4 dX12_timesIn_15 ?_
  refine e_icmp_ge (tgt := 43) C dX12_timesIn_16 (by decide) (fun q5 => ?_) (fun q5 => ?_)
  · replace h := ite_t h q5
    refine e_iload_n C 2 dX12_timesIn_43 rfl rfl ?_
    exact e_iret C hr hlk (Nat.le_refl _) (Nat.le_refl _) dX12_timesIn_44 ⟨_, rfl, h⟩
  · replace h := ite_f h q5
    refine e_iload_n C 2 dX12_timesIn_19 rfl rfl ?_
    refine e_aload_n C 0 dX12_timesIn_20 rfl rfl ?_
    refine e_aload_n C 0 dX12_timesIn_21 rfl rfl ?_
    refine e_getR C [12] 47 (fg_of fg_X12_153) o1 dX12_timesIn_22 ?_
    refine e_bipush (v := 41) C dX12_timesIn_25 (by decide) ?_
    refine e_iload_n C 1 dX12_timesIn_27 rfl rfl ?_
    refine e_imul C dX12_timesIn_28 ?_
    refine e_iload_n C 3 dX12_timesIn_29 rfl rfl ?_
    refine e_iadd C dX12_timesIn_30 ?_
    obtain ⟨b6, p7, h⟩ := h
    try rw [p7]
    obtain ⟨o8, h⟩ := h
    refine e_iald C o8 dX12_timesIn_31 ?_
    refine e_callV (as := [.int (mI M b6 ((((41 : Int32) * x1) + v3)).toNatClampNeg)]) C wb_X12_timeOf wv_X12_297 (ci := 12) rfl rfl (isO_1 o1) (m_X12_timeOf h) rfl ⟨Nat.le_of_ble_eq_true rfl, Nat.le_of_ble_eq_true rfl⟩ ⟨Nat.le_of_ble_eq_true rfl, Nat.le_of_ble_eq_true rfl⟩ (by first | exact Nat.le_of_ble_eq_true rfl | (simp only [List.map_cons, List.map_nil, va_cat, List.sum_cons, List.sum_nil]; exact Nat.le_of_ble_eq_true rfl)) dX12_timesIn_32 (kI (fun w9 M10 h11 => ?_))
    refine e_iadd C dX12_timesIn_35 ?_
    refine e_istore_n (al' := [(2, .int (v2 + w9)), (0, .ref a0), (1, .int x1), (3, .int v3)]) C dX12_timesIn_36 rfl (by decide) rfl ?_
    refine e_iinc (v := (v3 + 1)) (al' := [(3, .int (v3 + 1)), (2, .int (v2 + w9)), (0, .ref a0), (1, .int x1)]) C 3 dX12_timesIn_37 rfl rfl (by decide) rfl ?_
    refine e_goto (tgt := 9) C dX12_timesIn_40 (by decide) ?_
    refine e_pick [2, 3, 1, 0] rfl ?_
    exact hK9 ((v2 + w9), (v3 + 1), M10) h11
set_option maxHeartbeats 4000000 in
set_option maxRecDepth 100000 in
theorem w_X12_timesIn_L9 {p : Program} {l : Launch} {e : Env} {s : State} {m : MethodId} {args : Array Value} {below : List Frame} {meth : Method} {c : Code} {g : Geo} (C : Cx p s m args c cX12_timesIn RX12 4 g) (hr : meth.sig.returnType = (some .int)) (hlk : meth.locks = false) {a0 : Nat} {x1 : Int32} {v2 : Int32} {v3 : Int32} {M : Mem} {Q : Int32 → Mem → Prop} (h : f_X12_timesIn_L9 a0 x1 v2 v3 M Q) : E p l e (rmO 2 0 0) s m args below meth c g 4 (MQ below (QcM g (rI Q)) args s 0 0 (gA g)) 0 0 9 [(0, .ref a0), (1, .int x1), (2, .int v2), (3, .int v3)] [] M := by
  unfold f_X12_timesIn_L9 at h
  refine loop_E (W := fun z : Int32 × Int32 × Mem => E p l e (rmO 2 0 0) s m args below meth c g 4 (MQ below (QcM g (rI Q)) args s 0 0 (gA g)) 0 0 9 [(0, .ref a0), (1, .int x1), (2, .int z.1), (3, .int z.2.1)] [] (z.2.2)) h (fun K z hK h => ?_)
  exact w_X12_timesIn_B9 C hr hlk hK h
set_option maxHeartbeats 4000000 in
set_option maxRecDepth 100000 in
theorem w_X12_timesIn {p : Program} {l : Launch} {e : Env} {s : State} {m : MethodId} {args : Array Value} {below : List Frame} {meth : Method} {c : Code} {g : Geo} (C : Cx p s m args c cX12_timesIn RX12 4 g) (hr : meth.sig.returnType = (some .int)) (hlk : meth.locks = false) {a0 : Nat} {x1 : Int32} {M : Mem} {Q : Int32 → Mem → Prop} (h : f_X12_timesIn a0 x1 M Q) : E p l e (rmO 2 0 0) s m args below meth c g 4 (MQ below (QcM g (rI Q)) args s 0 0 (gA g)) 0 0 0 [(0, .ref a0), (1, .int x1)] [] M := by
  unfold f_X12_timesIn at h
  refine e_iconst (v := 0) C dX12_timesIn_0 (by decide) ?_
  refine e_istore_n (al' := [(2, .int (0 : Int32)), (0, .ref a0), (1, .int x1)]) C dX12_timesIn_1 rfl (by decide) rfl ?_
  refine e_aload_n C 1 dX12_timesIn_2 rfl rfl ?_
  obtain ⟨o1, h⟩ := h
  refine e_getR C [12] 48 (fg_of fg_X12_156) o1 dX12_timesIn_3 ?_
  refine e_iload_n C 2 dX12_timesIn_6 rfl rfl ?_
  obtain ⟨b2, p3, h⟩ := h
  try rw [p3]
  obtain ⟨o4, h⟩ := h
  refine e_iald C o4 dX12_timesIn_7 ?_
  refine e_istore_n (al' := [(3, .int (mI M b2 (x1).toNatClampNeg)), (2, .int (0 : Int32)), (0, .ref a0), (1, .int x1)]) C dX12_timesIn_8 rfl (by decide) rfl ?_
  refine e_pick [2, 3, 1, 0] rfl ?_
  exact w_X12_timesIn_L9 C hr hlk h
theorem m_X12_timesIn  {a0 : Nat} {x1 : Int32} {M : Mem} {Q : Int32 → Mem → Prop} (h : f_X12_timesIn a0 x1 M Q) : Con yX12_timesIn cX12_timesIn 4 (some .int) 2 0 0 [.ref a0, .int x1] M (rI Q) :=
  con_of2 (al := [(0, .ref a0), (1, .int x1)]) (by decide) (by exact Nat.le_of_ble_eq_true rfl) (by rfl) (fun p l e s m args below meth c g C hr hlk _ => w_X12_timesIn C hr hlk h)
set_option maxHeartbeats 4000000 in
set_option maxRecDepth 100000 in
theorem w_X12_isFirst {p : Program} {l : Launch} {e : Env} {s : State} {m : MethodId} {args : Array Value} {below : List Frame} {meth : Method} {c : Code} {g : Geo} (C : Cx p s m args c cX12_isFirst RX12 2 g) (hr : meth.sig.returnType = (some .boolean)) (hlk : meth.locks = false) {a0 : Nat} {x1 : Int32} {M : Mem} {Q : Bool → Mem → Prop} (h : f_X12_isFirst a0 x1 M Q) : E p l e (rmO 1 0 0) s m args below meth c g 2 (MQ below (QcM g (rZ Q)) args s 0 0 (gA g)) 0 0 0 [(0, .ref a0), (1, .int x1)] [] M := by
  unfold f_X12_isFirst at h
  refine e_iload_n C 1 dX12_isFirst_0 rfl rfl ?_
  refine e_iconst (v := 1) C dX12_isFirst_1 (by decide) ?_
  refine e_icmp_eq (tgt := 16) C dX12_isFirst_2 (by decide) (fun q1 => ?_) (fun q1 => ?_)
  · replace h := ite_t h q1
    refine e_iconst (v := 1) C dX12_isFirst_16 (by decide) ?_
    refine e_goto (tgt := 21) C dX12_isFirst_17 (by decide) ?_
    exact e_zret C hr rfl hlk (Nat.le_refl _) (Nat.le_refl _) dX12_isFirst_21 ⟨true, rfl, h⟩
  · replace h := ite_f h q1
    refine e_iload_n C 1 dX12_isFirst_5 rfl rfl ?_
    refine e_iconst (v := 3) C dX12_isFirst_6 (by decide) ?_
    refine e_icmp_eq (tgt := 16) C dX12_isFirst_7 (by decide) (fun q2 => ?_) (fun q2 => ?_)
    · replace h := ite_t h q2
      refine e_iconst (v := 1) C dX12_isFirst_16 (by decide) ?_
      refine e_goto (tgt := 21) C dX12_isFirst_17 (by decide) ?_
      exact e_zret C hr rfl hlk (Nat.le_refl _) (Nat.le_refl _) dX12_isFirst_21 ⟨true, rfl, h⟩
    · replace h := ite_f h q2
      refine e_iload_n C 1 dX12_isFirst_10 rfl rfl ?_
      refine e_bipush (v := 6) C dX12_isFirst_11 (by decide) ?_
      refine e_icmp_ne (tgt := 20) C dX12_isFirst_13 (by decide) (fun q3 => ?_) (fun q3 => ?_)
      · replace h := ite_f h q3
        refine e_iconst (v := 0) C dX12_isFirst_20 (by decide) ?_
        exact e_zret C hr rfl hlk (Nat.le_refl _) (Nat.le_refl _) dX12_isFirst_21 ⟨false, rfl, h⟩
      · replace h := ite_t h q3
        refine e_iconst (v := 1) C dX12_isFirst_16 (by decide) ?_
        refine e_goto (tgt := 21) C dX12_isFirst_17 (by decide) ?_
        exact e_zret C hr rfl hlk (Nat.le_refl _) (Nat.le_refl _) dX12_isFirst_21 ⟨true, rfl, h⟩
theorem m_X12_isFirst  {a0 : Nat} {x1 : Int32} {M : Mem} {Q : Bool → Mem → Prop} (h : f_X12_isFirst a0 x1 M Q) : Con yX12_isFirst cX12_isFirst 2 (some .boolean) 1 0 0 [.ref a0, .int x1] M (rZ Q) :=
  con_of2 (al := [(0, .ref a0), (1, .int x1)]) (by decide) (by exact Nat.le_of_ble_eq_true rfl) (by rfl) (fun p l e s m args below meth c g C hr hlk _ => w_X12_isFirst C hr hlk h)
set_option maxHeartbeats 4000000 in
set_option maxRecDepth 100000 in
theorem w_X12_choose_J332 {p : Program} {l : Launch} {e : Env} {s : State} {m : MethodId} {args : Array Value} {below : List Frame} {meth : Method} {c : Code} {g : Geo} (C : Cx p s m args c cX12_choose RX12 13 g) (hr : meth.sig.returnType = (some .int)) (hlk : meth.locks = false) {a0 : Nat} {x1 : Int32} {x2 : Int32} {v3 : Int32} {v11 : Int32} {M : Mem} {Q : Int32 → Mem → Prop} (h : f_X12_choose_J332 a0 x1 x2 v3 v11 M Q) : E p l e (rmO 3 0 0) s m args below meth c g 13 (MQ below (QcM g (rI Q)) args s 0 0 (gA g)) 0 0 332 [(0, .ref a0), (1, .int x1), (2, .int x2), (3, .int v3), (11, .int v11)] [] M := by
  unfold f_X12_choose_J332 at h
  refine e_iload C 4 dX12_choose_332 rfl ?_
  refine e_aload_n C 0 dX12_choose_334 rfl rfl ?_
  obtain ⟨o1, h⟩ := h
  refine e_getR C [12] 3 (fg_of fg_X12_20) o1 dX12_choose_335 ?_
  refine e_iload_n C 3 dX12_choose_338 rfl rfl ?_
  obtain ⟨b2, p3, h⟩ := h
  try rw [p3]
  obtain ⟨o4, h⟩ := h
  refine e_iald C o4 dX12_choose_339 ?_
  refine e_icmp_le (tgt := 347) C dX12_choose_340 (by decide) (fun q5 => ?_) (fun q5 => ?_)
  · replace h := ite_t h q5
    refine e_iconst (v := 0) C dX12_choose_347 (by decide) ?_
    exact e_iret C hr hlk (Nat.le_refl _) (Nat.le_refl _) dX12_choose_348 ⟨_, rfl, h⟩
  · replace h := ite_f h q5
    refine e_iconst (v := 2) C dX12_choose_343 (by decide) ?_
    refine e_goto (tgt := 348) C dX12_choose_344 (by decide) ?_
    exact e_iret C hr hlk (Nat.le_refl _) (Nat.le_refl _) dX12_choose_348 ⟨_, rfl, h⟩
set_option maxHeartbeats 4000000 in
set_option maxRecDepth 100000 in
theorem w_X12_choose_J302 {p : Program} {l : Launch} {e : Env} {s : State} {m : MethodId} {args : Array Value} {below : List Frame} {meth : Method} {c : Code} {g : Geo} (C : Cx p s m args c cX12_choose RX12 13 g) (hr : meth.sig.returnType = (some .int)) (hlk : meth.locks = false) {a0 : Nat} {x1 : Int32} {x2 : Int32} {v3 : Int32} {v7 : Int32} {v11 : Int32} {v12 : Int32} {M : Mem} {Q : Int32 → Mem → Prop} (h : f_X12_choose_J302 a0 x1 x2 v3 v7 v11 v12 M Q) : E p l e (rmO 3 0 0) s m args below meth c g 13 (MQ below (QcM g (rI Q)) args s 0 0 (gA g)) 0 0 302 [(0, .ref a0), (1, .int x1), (2, .int x2), (3, .int v3), (7, .int v7), (11, .int v11), (12, .int v12)] [] M := by
  unfold f_X12_choose_J302 at h
  refine e_iload C 6 dX12_choose_302 rfl ?_
  refine e_iload C 5 dX12_choose_304 rfl ?_
  refine e_icmp_ge (tgt := 332) C dX12_choose_306 (by decide) (fun q1 => ?_) (fun q1 => ?_)
  · replace h := ite_t h q1
    refine e_pick [0, 1, 2, 3, 5] rfl ?_
    exact w_X12_choose_J332 C hr hlk h
  · replace h := ite_f h q1
    refine e_iload C 6 dX12_choose_309 rfl ?_
    refine e_aload_n C 0 dX12_choose_311 rfl rfl ?_
    obtain ⟨o2, h⟩ := h
    refine e_getR C [12] 3 (fg_of fg_X12_20) o2 dX12_choose_312 ?_
    refine e_iload_n C 3 dX12_choose_315 rfl rfl ?_
    obtain ⟨b3, p4, h⟩ := h
    try rw [p4]
    obtain ⟨o5, h⟩ := h
    refine e_iald C o5 dX12_choose_316 ?_
    refine e_icmp_le (tgt := 322) C dX12_choose_317 (by decide) (fun q6 => ?_) (fun q6 => ?_)
    · replace h := ite_t h q6
      refine e_aload_n C 0 dX12_choose_322 rfl rfl ?_
      refine e_getR C [12] 44 (fg_of fg_X12_144) o2 dX12_choose_323 ?_
      refine e_iload_n C 2 dX12_choose_326 rfl rfl ?_
      refine e_iload C 4 dX12_choose_327 rfl ?_
      obtain ⟨b7, p8, h⟩ := h
      try rw [p8]
      obtain ⟨o9, h⟩ := h
      refine e_iast C o9 dX12_choose_329 ?_
      refine nmE (fun M10 e11 => ?_)
      replace h := h M10 e11
      have o12 : isO M10 a0 [12] := by rw [e11]; exact o2
      have p13 : mP M10 a0 3 = some b3 := by rw [e11]; exact p4
      have p14 : mP M10 a0 44 = some b7 := by rw [e11]; exact p8
      refine e_iconst (v := 1) C dX12_choose_330 (by decide) ?_
      exact e_iret C hr hlk (Nat.le_refl _) (Nat.le_refl _) dX12_choose_331 ⟨_, rfl, h⟩
    · replace h := ite_f h q6
      refine e_iconst (v := 2) C dX12_choose_320 (by decide) ?_
      exact e_iret C hr hlk (Nat.le_refl _) (Nat.le_refl _) dX12_choose_321 ⟨_, rfl, h⟩
set_option maxHeartbeats 4000000 in
set_option maxRecDepth 100000 in
theorem w_X12_choose_J259 {p : Program} {l : Launch} {e : Env} {s : State} {m : MethodId} {args : Array Value} {below : List Frame} {meth : Method} {c : Code} {g : Geo} (C : Cx p s m args c cX12_choose RX12 13 g) (hr : meth.sig.returnType = (some .int)) (hlk : meth.locks = false) {a0 : Nat} {x1 : Int32} {x2 : Int32} {v3 : Int32} {v5 : Int32} {v6 : Int32} {v7 : Int32} {v9 : Int32} {t0 : Int32} {M : Mem} {Q : Int32 → Mem → Prop} (h : f_X12_choose_J259 a0 x1 x2 v3 v5 v6 v7 v9 t0 M Q) : E p l e (rmO 3 0 0) s m args below meth c g 13 (MQ below (QcM g (rI Q)) args s 0 0 (gA g)) 0 0 259 [(0, .ref a0), (1, .int x1), (2, .int x2), (3, .int v3), (5, .int v5), (6, .int v6), (7, .int v7), (9, .int v9)] [.int t0] M := by
  unfold f_X12_choose_J259 at h
  refine e_istore (al' := [(10, .int t0), (0, .ref a0), (1, .int x1), (2, .int x2), (3, .int v3), (5, .int v5), (6, .int v6), (7, .int v7), (9, .int v9)]) C dX12_choose_259 (by decide) rfl ?_
  refine e_aload_n C 1 dX12_choose_261 rfl rfl ?_
  obtain ⟨o1, h⟩ := h
  refine e_getR C [12] 2 (fg_of fg_X12_16) o1 dX12_choose_262 ?_
  refine e_iload_n C 4 dX12_choose_265 rfl rfl ?_
  obtain ⟨b2, p3, h⟩ := h
  try rw [p3]
  obtain ⟨o4, h⟩ := h
  refine e_iald C o4 dX12_choose_266 ?_
  refine e_iload C 8 dX12_choose_267 rfl ?_
  refine e_imul C dX12_choose_269 ?_
  refine e_istore (al' := [(11, .int ((mI M b2 (v3).toNatClampNeg) * v9)), (10, .int t0), (0, .ref a0), (1, .int x1), (2, .int x2), (3, .int v3), (5, .int v5), (6, .int v6), (7, .int v7), (9, .int v9)]) C dX12_choose_270 (by decide) rfl ?_
  refine e_aload_n C 2 dX12_choose_272 rfl rfl ?_
  refine e_getR C [12] 2 (fg_of fg_X12_16) o1 dX12_choose_273 ?_
  rw [p3]
  refine e_iload_n C 5 dX12_choose_276 rfl rfl ?_
  obtain ⟨o5, h⟩ := h
  refine e_iald C o5 dX12_choose_277 ?_
  refine e_iload C 1 dX12_choose_278 rfl ?_
  refine e_imul C dX12_choose_280 ?_
  refine e_iload C 8 dX12_choose_281 rfl ?_
  refine e_iadd C dX12_choose_283 ?_
  refine e_istore (al' := [(12, .int (((mI M b2 (v3).toNatClampNeg) * t0) + v7)), (11, .int ((mI M b2 (v3).toNatClampNeg) * v9)), (10, .int t0), (0, .ref a0), (1, .int x1), (2, .int x2), (3, .int v3), (5, .int v5), (6, .int v6), (7, .int v7), (9, .int v9)]) C dX12_choose_284 (by decide) rfl ?_
  refine e_iload C 8 dX12_choose_286 rfl ?_
  refine e_if_ne (tgt := 302) C dX12_choose_288 (by decide) (fun q6 => ?_) (fun q6 => ?_)
  · replace h := ite_f h q6
    refine e_pick [3, 4, 5, 6, 9, 1, 0] rfl ?_
    exact w_X12_choose_J302 C hr hlk h
  · replace h := ite_t h q6
    refine e_iload C 7 dX12_choose_291 rfl ?_
    refine e_aload_n C 3 dX12_choose_293 rfl rfl ?_
    refine e_getR C [12] 4 (fg_of fg_X12_23) o1 dX12_choose_294 ?_
    refine e_iload_n C 6 dX12_choose_297 rfl rfl ?_
    obtain ⟨b7, p8, h⟩ := h
    try rw [p8]
    obtain ⟨o9, h⟩ := h
    refine e_iald C o9 dX12_choose_298 ?_
    refine e_icmp_gt (tgt := 332) C dX12_choose_299 (by decide) (fun q10 => ?_) (fun q10 => ?_)
    · replace h := ite_t h q10
      refine e_pick [3, 4, 5, 6, 1] rfl ?_
      exact w_X12_choose_J332 C hr hlk h
    · replace h := ite_f h q10
      refine e_pick [3, 4, 5, 6, 9, 1, 0] rfl ?_
      exact w_X12_choose_J302 C hr hlk h
set_option maxHeartbeats 4000000 in
set_option maxRecDepth 100000 in
theorem w_X12_choose_J246 {p : Program} {l : Launch} {e : Env} {s : State} {m : MethodId} {args : Array Value} {below : List Frame} {meth : Method} {c : Code} {g : Geo} (C : Cx p s m args c cX12_choose RX12 13 g) (hr : meth.sig.returnType = (some .int)) (hlk : meth.locks = false) {a0 : Nat} {x1 : Int32} {x2 : Int32} {v3 : Int32} {v5 : Int32} {v6 : Int32} {v7 : Int32} {v9 : Int32} {M : Mem} {Q : Int32 → Mem → Prop} (h : f_X12_choose_J246 a0 x1 x2 v3 v5 v6 v7 v9 M Q) : E p l e (rmO 3 0 0) s m args below meth c g 13 (MQ below (QcM g (rI Q)) args s 0 0 (gA g)) 0 0 246 [(0, .ref a0), (1, .int x1), (2, .int x2), (3, .int v3), (5, .int v5), (6, .int v6), (7, .int v7), (9, .int v9)] [] M := by
  unfold f_X12_choose_J246 at h
  refine e_iload C 7 dX12_choose_246 rfl ?_
  refine e_goto (tgt := 259) C dX12_choose_248 (by decide) ?_
  exact w_X12_choose_J259 C hr hlk h
set_option maxHeartbeats 4000000 in
set_option maxRecDepth 100000 in
theorem w_X12_choose_J217 {p : Program} {l : Launch} {e : Env} {s : State} {m : MethodId} {args : Array Value} {below : List Frame} {meth : Method} {c : Code} {g : Geo} (C : Cx p s m args c cX12_choose RX12 13 g) (hr : meth.sig.returnType = (some .int)) (hlk : meth.locks = false) {a0 : Nat} {x1 : Int32} {x2 : Int32} {v3 : Int32} {v4 : Int32} {v5 : Int32} {v6 : Int32} {v7 : Int32} {t0 : Int32} {M : Mem} {Q : Int32 → Mem → Prop} (h : f_X12_choose_J217 a0 x1 x2 v3 v4 v5 v6 v7 t0 M Q) : E p l e (rmO 3 0 0) s m args below meth c g 13 (MQ below (QcM g (rI Q)) args s 0 0 (gA g)) 0 0 217 [(0, .ref a0), (1, .int x1), (2, .int x2), (3, .int v3), (4, .int v4), (5, .int v5), (6, .int v6), (7, .int v7)] [.int t0] M := by
  unfold f_X12_choose_J217 at h
  refine e_istore (al' := [(8, .int t0), (0, .ref a0), (1, .int x1), (2, .int x2), (3, .int v3), (4, .int v4), (5, .int v5), (6, .int v6), (7, .int v7)]) C dX12_choose_217 (by decide) rfl ?_
  refine e_iload C 0 dX12_choose_219 rfl ?_
  refine e_aload_n C 1 dX12_choose_221 rfl rfl ?_
  refine e_iconst (v := 0) C dX12_choose_222 (by decide) ?_
  obtain ⟨o3, h⟩ := h
  refine e_callV (as := [.int (0 : Int32)]) C wb_X12_timesIn wv_X12_300 (ci := 12) rfl rfl (isO_1 o3) (m_X12_timesIn h) rfl ⟨Nat.le_of_ble_eq_true rfl, Nat.le_of_ble_eq_true rfl⟩ ⟨Nat.le_of_ble_eq_true rfl, Nat.le_of_ble_eq_true rfl⟩ (by first | exact Nat.le_of_ble_eq_true rfl | (simp only [List.map_cons, List.map_nil, va_cat, List.sum_cons, List.sum_nil]; exact Nat.le_of_ble_eq_true rfl)) dX12_choose_223 (kI (fun w1 M2 h14 => ?_))
  refine e_iadd C dX12_choose_226 ?_
  refine e_aload_n C 1 dX12_choose_227 rfl rfl ?_
  refine e_iconst (v := 1) C dX12_choose_228 (by decide) ?_
  obtain ⟨o6, h14⟩ := h14
  refine e_callV (as := [.int (1 : Int32)]) C wb_X12_timesIn wv_X12_300 (ci := 12) rfl rfl (isO_1 o6) (m_X12_timesIn h14) rfl ⟨Nat.le_of_ble_eq_true rfl, Nat.le_of_ble_eq_true rfl⟩ ⟨Nat.le_of_ble_eq_true rfl, Nat.le_of_ble_eq_true rfl⟩ (by first | exact Nat.le_of_ble_eq_true rfl | (simp only [List.map_cons, List.map_nil, va_cat, List.sum_cons, List.sum_nil]; exact Nat.le_of_ble_eq_true rfl)) dX12_choose_229 (kI (fun w4 M5 h13 => ?_))
  refine e_iadd C dX12_choose_232 ?_
  refine e_istore (al' := [(9, .int ((t0 + w1) + w4)), (8, .int t0), (0, .ref a0), (1, .int x1), (2, .int x2), (3, .int v3), (4, .int v4), (5, .int v5), (6, .int v6), (7, .int v7)]) C dX12_choose_233 (by decide) rfl ?_
  refine e_iload C 6 dX12_choose_235 rfl ?_
  refine e_if_eq (tgt := 246) C dX12_choose_237 (by decide) (fun q7 => ?_) (fun q7 => ?_)
  · replace h13 := ite_t h13 q7
    refine e_pick [2, 3, 4, 5, 7, 8, 9, 0] rfl ?_
    exact w_X12_choose_J246 C hr hlk h13
  · replace h13 := ite_f h13 q7
    refine e_iload C 6 dX12_choose_240 rfl ?_
    refine e_iconst (v := 5) C dX12_choose_242 (by decide) ?_
    refine e_icmp_ne (tgt := 251) C dX12_choose_243 (by decide) (fun q8 => ?_) (fun q8 => ?_)
    · replace h13 := ite_f h13 q8
      refine e_iload C 1 dX12_choose_251 rfl ?_
      refine e_aload_n C 2 dX12_choose_253 rfl rfl ?_
      refine e_iconst (v := 1) C dX12_choose_254 (by decide) ?_
      obtain ⟨o11, h13⟩ := h13
      refine e_callV (as := [.int (1 : Int32)]) C wb_X12_timesIn wv_X12_300 (ci := 12) rfl rfl (isO_1 o11) (m_X12_timesIn h13) rfl ⟨Nat.le_of_ble_eq_true rfl, Nat.le_of_ble_eq_true rfl⟩ ⟨Nat.le_of_ble_eq_true rfl, Nat.le_of_ble_eq_true rfl⟩ (by first | exact Nat.le_of_ble_eq_true rfl | (simp only [List.map_cons, List.map_nil, va_cat, List.sum_cons, List.sum_nil]; exact Nat.le_of_ble_eq_true rfl)) dX12_choose_255 (kI (fun w9 M10 h12 => ?_))
      refine e_iadd C dX12_choose_258 ?_
      refine e_pick [2, 3, 4, 5, 7, 8, 9, 0] rfl ?_
      exact w_X12_choose_J259 C hr hlk h12
    · replace h13 := ite_t h13 q8
      refine e_pick [2, 3, 4, 5, 7, 8, 9, 0] rfl ?_
      exact w_X12_choose_J246 C hr hlk h13
set_option maxHeartbeats 4000000 in
set_option maxRecDepth 100000 in
theorem w_X12_choose_J193 {p : Program} {l : Launch} {e : Env} {s : State} {m : MethodId} {args : Array Value} {below : List Frame} {meth : Method} {c : Code} {g : Geo} (C : Cx p s m args c cX12_choose RX12 13 g) (hr : meth.sig.returnType = (some .int)) (hlk : meth.locks = false) {a0 : Nat} {x1 : Int32} {x2 : Int32} {v3 : Int32} {v4 : Int32} {v5 : Int32} {v6 : Int32} {v7 : Int32} {M : Mem} {Q : Int32 → Mem → Prop} (h : f_X12_choose_J193 a0 x1 x2 v3 v4 v5 v6 v7 M Q) : E p l e (rmO 3 0 0) s m args below meth c g 13 (MQ below (QcM g (rI Q)) args s 0 0 (gA g)) 0 0 193 [(0, .ref a0), (1, .int x1), (2, .int x2), (3, .int v3), (4, .int v4), (5, .int v5), (6, .int v6), (7, .int v7)] [] M := by
  unfold f_X12_choose_J193 at h
  refine e_aload_n C 0 dX12_choose_193 rfl rfl ?_
  obtain ⟨o1, h⟩ := h
  refine e_getI C [12] 33 (fg_of fg_X12_111) o1 dX12_choose_194 ?_
  refine e_aload_n C 0 dX12_choose_197 rfl rfl ?_
  refine e_getI C [12] 39 (fg_of fg_X12_129) o1 dX12_choose_198 ?_
  refine e_icmp_le (tgt := 216) C dX12_choose_201 (by decide) (fun q2 => ?_) (fun q2 => ?_)
  · replace h := ite_t h q2
    refine e_iconst (v := 0) C dX12_choose_216 (by decide) ?_
    exact w_X12_choose_J217 C hr hlk h
  · replace h := ite_f h q2
    refine e_aload_n C 0 dX12_choose_204 rfl rfl ?_
    refine e_getI C [12] 33 (fg_of fg_X12_111) o1 dX12_choose_205 ?_
    refine e_aload_n C 0 dX12_choose_208 rfl rfl ?_
    refine e_getI C [12] 39 (fg_of fg_X12_129) o1 dX12_choose_209 ?_
    refine e_isub C dX12_choose_212 ?_
    refine e_goto (tgt := 217) C dX12_choose_213 (by decide) ?_
    exact w_X12_choose_J217 C hr hlk h
set_option maxHeartbeats 4000000 in
set_option maxRecDepth 100000 in
theorem w_X12_choose_J165 {p : Program} {l : Launch} {e : Env} {s : State} {m : MethodId} {args : Array Value} {below : List Frame} {meth : Method} {c : Code} {g : Geo} (C : Cx p s m args c cX12_choose RX12 13 g) (hr : meth.sig.returnType = (some .int)) (hlk : meth.locks = false) {a0 : Nat} {x1 : Int32} {x2 : Int32} {v3 : Int32} {v4 : Int32} {v5 : Int32} {v6 : Int32} {v7 : Int32} {M : Mem} {Q : Int32 → Mem → Prop} (h : f_X12_choose_J165 a0 x1 x2 v3 v4 v5 v6 v7 M Q) : E p l e (rmO 3 0 0) s m args below meth c g 13 (MQ below (QcM g (rI Q)) args s 0 0 (gA g)) 0 0 165 [(0, .ref a0), (1, .int x1), (2, .int x2), (3, .int v3), (4, .int v4), (5, .int v5), (6, .int v6), (7, .int v7)] [] M := by
  unfold f_X12_choose_J165 at h
  refine e_iload C 4 dX12_choose_165 rfl ?_
  refine e_iconst (v := 5) C dX12_choose_167 (by decide) ?_
  refine e_icmp_ne (tgt := 193) C dX12_choose_168 (by decide) (fun q1 => ?_) (fun q1 => ?_)
  · replace h := ite_f h q1
    exact w_X12_choose_J193 C hr hlk h
  · replace h := ite_t h q1
    refine e_aload_n C 0 dX12_choose_171 rfl rfl ?_
    refine e_iconst (v := 0) C dX12_choose_172 (by decide) ?_
    obtain ⟨o4, h⟩ := h
    refine e_callV (as := [.int (0 : Int32)]) C wb_X12_standing wv_X12_288 (ci := 12) rfl rfl (isO_1 o4) (m_X12_standing h) rfl ⟨Nat.le_of_ble_eq_true rfl, Nat.le_of_ble_eq_true rfl⟩ ⟨Nat.le_of_ble_eq_true rfl, Nat.le_of_ble_eq_true rfl⟩ (by first | exact Nat.le_of_ble_eq_true rfl | (simp only [List.map_cons, List.map_nil, va_cat, List.sum_cons, List.sum_nil]; exact Nat.le_of_ble_eq_true rfl)) dX12_choose_173 (kI (fun w2 M3 h14 => ?_))
    refine e_aload_n C 0 dX12_choose_176 rfl rfl ?_
    refine e_iconst (v := 1) C dX12_choose_177 (by decide) ?_
    obtain ⟨o7, h14⟩ := h14
    refine e_callV (as := [.int (1 : Int32)]) C wb_X12_standing wv_X12_288 (ci := 12) rfl rfl (isO_1 o7) (m_X12_standing h14) rfl ⟨Nat.le_of_ble_eq_true rfl, Nat.le_of_ble_eq_true rfl⟩ ⟨Nat.le_of_ble_eq_true rfl, Nat.le_of_ble_eq_true rfl⟩ (by first | exact Nat.le_of_ble_eq_true rfl | (simp only [List.map_cons, List.map_nil, va_cat, List.sum_cons, List.sum_nil]; exact Nat.le_of_ble_eq_true rfl)) dX12_choose_178 (kI (fun w5 M6 h13 => ?_))
    refine e_iadd C dX12_choose_181 ?_
    refine e_aload_n C 0 dX12_choose_182 rfl rfl ?_
    obtain ⟨o8, h13⟩ := h13
    refine e_getR C [12] 29 (fg_of fg_X12_99) o8 dX12_choose_183 ?_
    refine e_iload_n C 1 dX12_choose_186 rfl rfl ?_
    obtain ⟨b9, p10, h13⟩ := h13
    try rw [p10]
    obtain ⟨o11, h13⟩ := h13
    refine e_iald C o11 dX12_choose_187 ?_
    refine e_icmp_lt (tgt := 193) C dX12_choose_188 (by decide) (fun q12 => ?_) (fun q12 => ?_)
    · replace h13 := ite_t h13 q12
      exact w_X12_choose_J193 C hr hlk h13
    · replace h13 := ite_f h13 q12
      refine e_iconst (v := 2) C dX12_choose_191 (by decide) ?_
      exact e_iret C hr hlk (Nat.le_refl _) (Nat.le_refl _) dX12_choose_192 ⟨_, rfl, h13⟩
set_option maxHeartbeats 4000000 in
set_option maxRecDepth 100000 in
theorem w_X12_choose_J89 {p : Program} {l : Launch} {e : Env} {s : State} {m : MethodId} {args : Array Value} {below : List Frame} {meth : Method} {c : Code} {g : Geo} (C : Cx p s m args c cX12_choose RX12 13 g) (hr : meth.sig.returnType = (some .int)) (hlk : meth.locks = false) {a0 : Nat} {x1 : Int32} {x2 : Int32} {v3 : Int32} {v4 : Int32} {v5 : Int32} {v6 : Int32} {t0 : Int32} {M : Mem} {Q : Int32 → Mem → Prop} (h : f_X12_choose_J89 a0 x1 x2 v3 v4 v5 v6 t0 M Q) : E p l e (rmO 3 0 0) s m args below meth c g 13 (MQ below (QcM g (rI Q)) args s 0 0 (gA g)) 0 0 89 [(0, .ref a0), (1, .int x1), (2, .int x2), (3, .int v3), (4, .int v4), (5, .int v5), (6, .int v6)] [.int t0] M := by
  unfold f_X12_choose_J89 at h
  refine e_istore (al' := [(7, .int t0), (0, .ref a0), (1, .int x1), (2, .int x2), (3, .int v3), (4, .int v4), (5, .int v5), (6, .int v6)]) C dX12_choose_89 (by decide) rfl ?_
  refine e_aload_n C 1 dX12_choose_91 rfl rfl ?_
  obtain ⟨o1, h⟩ := h
  refine e_getR C [12] 44 (fg_of fg_X12_144) o1 dX12_choose_92 ?_
  refine e_iload_n C 3 dX12_choose_95 rfl rfl ?_
  refine e_iconst (v := 0) C dX12_choose_96 (by decide) ?_
  obtain ⟨b2, p3, h⟩ := h
  try rw [p3]
  obtain ⟨o4, h⟩ := h
  refine e_iast C o4 dX12_choose_97 ?_
  refine nmE (fun M5 e6 => ?_)
  replace h := h M5 e6
  have o7 : isO M5 a0 [12] := by rw [e6]; exact o1
  have p8 : mP M5 a0 44 = some b2 := by rw [e6]; exact p3
  refine e_iload C 5 dX12_choose_98 rfl ?_
  refine e_bipush (v := 6) C dX12_choose_100 (by decide) ?_
  refine e_icmp_ne (tgt := 165) C dX12_choose_102 (by decide) (fun q9 => ?_) (fun q9 => ?_)
  · replace h := ite_f h q9
    refine e_pick [1, 2, 3, 4, 5, 6, 7, 0] rfl ?_
    exact w_X12_choose_J165 C hr hlk h
  · replace h := ite_t h q9
    refine e_iload_n C 3 dX12_choose_105 rfl rfl ?_
    refine e_bipush (v := 10) C dX12_choose_106 (by decide) ?_
    refine e_icmp_ge (tgt := 165) C dX12_choose_108 (by decide) (fun q10 => ?_) (fun q10 => ?_)
    · replace h := ite_t h q10
      refine e_pick [1, 2, 3, 4, 5, 6, 7, 0] rfl ?_
      exact w_X12_choose_J165 C hr hlk h
    · replace h := ite_f h q10
      refine e_aload_n C 1 dX12_choose_111 rfl rfl ?_
      refine e_getR C [12] 30 (fg_of fg_X12_102) o7 dX12_choose_112 ?_
      refine e_bipush (v := 10) C dX12_choose_115 (by decide) ?_
      refine e_iload_n C 2 dX12_choose_117 rfl rfl ?_
      refine e_imul C dX12_choose_118 ?_
      refine e_iload_n C 3 dX12_choose_119 rfl rfl ?_
      refine e_iadd C dX12_choose_120 ?_
      obtain ⟨b11, p12, h⟩ := h
      try rw [p12]
      obtain ⟨o13, h⟩ := h
      refine e_iald C o13 dX12_choose_121 ?_
      refine e_istore (al' := [(8, .int (mI M5 b11 ((((10 : Int32) * x1) + x2)).toNatClampNeg)), (7, .int t0), (0, .ref a0), (1, .int x1), (2, .int x2), (3, .int v3), (4, .int v4), (5, .int v5), (6, .int v6)]) C dX12_choose_122 (by decide) rfl ?_
      refine e_iload C 0 dX12_choose_124 rfl ?_
      refine e_if_eq (tgt := 135) C dX12_choose_126 (by decide) (fun q14 => ?_) (fun q14 => ?_)
      · replace h := ite_t h q14
        refine e_iload C 0 dX12_choose_135 rfl ?_
        exact e_iret C hr hlk (Nat.le_refl _) (Nat.le_refl _) dX12_choose_137 ⟨_, rfl, h⟩
      · replace h := ite_f h q14
        refine e_iload C 0 dX12_choose_129 rfl ?_
        refine e_iconst (v := 2) C dX12_choose_131 (by decide) ?_
        refine e_icmp_ne (tgt := 138) C dX12_choose_132 (by decide) (fun q15 => ?_) (fun q15 => ?_)
        · replace h := ite_f h q15
          refine e_iload C 0 dX12_choose_138 rfl ?_
          refine e_iconst (v := 1) C dX12_choose_140 (by decide) ?_
          refine e_icmp_ne (tgt := 165) C dX12_choose_141 (by decide) (fun q16 => ?_) (fun q16 => ?_)
          · replace h := ite_f h q16
            refine e_pick [2, 3, 4, 5, 6, 7, 8, 1] rfl ?_
            exact w_X12_choose_J165 C hr hlk h
          · replace h := ite_t h q16
            refine e_iload C 7 dX12_choose_144 rfl ?_
            refine e_aload_n C 2 dX12_choose_146 rfl rfl ?_
            refine e_getR C [12] 4 (fg_of fg_X12_23) o7 dX12_choose_147 ?_
            refine e_iload_n C 5 dX12_choose_150 rfl rfl ?_
            obtain ⟨b17, p18, h⟩ := h
            try rw [p18]
            obtain ⟨o19, h⟩ := h
            refine e_iald C o19 dX12_choose_151 ?_
            refine e_icmp_gt (tgt := 165) C dX12_choose_152 (by decide) (fun q20 => ?_) (fun q20 => ?_)
            · replace h := ite_t h q20
              refine e_pick [2, 3, 4, 5, 6, 7, 8, 1] rfl ?_
              exact w_X12_choose_J165 C hr hlk h
            · replace h := ite_f h q20
              refine e_aload_n C 2 dX12_choose_155 rfl rfl ?_
              refine e_getR C [12] 44 (fg_of fg_X12_144) o7 dX12_choose_156 ?_
              rw [p8]
              refine e_iload_n C 4 dX12_choose_159 rfl rfl ?_
              refine e_iload C 7 dX12_choose_160 rfl ?_
              obtain ⟨o21, h⟩ := h
              refine e_iast C o21 dX12_choose_162 ?_
              refine nmE (fun M22 e23 => ?_)
              replace h := h M22 e23
              have o24 : isO M22 a0 [12] := by rw [e23]; exact o7
              have p25 : mP M22 a0 44 = some b2 := by rw [e23]; exact p8
              have p26 : mP M22 a0 30 = some b11 := by rw [e23]; exact p12
              have p27 : mP M22 a0 4 = some b17 := by rw [e23]; exact p18
              refine e_iconst (v := 1) C dX12_choose_163 (by decide) ?_
              exact e_iret C hr hlk (Nat.le_refl _) (Nat.le_refl _) dX12_choose_164 ⟨_, rfl, h⟩
        · replace h := ite_t h q15
          refine e_iload C 0 dX12_choose_135 rfl ?_
          exact e_iret C hr hlk (Nat.le_refl _) (Nat.le_refl _) dX12_choose_137 ⟨_, rfl, h⟩
set_option maxHeartbeats 4000000 in
set_option maxRecDepth 100000 in
theorem w_X12_choose_J76 {p : Program} {l : Launch} {e : Env} {s : State} {m : MethodId} {args : Array Value} {below : List Frame} {meth : Method} {c : Code} {g : Geo} (C : Cx p s m args c cX12_choose RX12 13 g) (hr : meth.sig.returnType = (some .int)) (hlk : meth.locks = false) {a0 : Nat} {x1 : Int32} {x2 : Int32} {v3 : Int32} {v4 : Int32} {v5 : Int32} {t0 : Int32} {M : Mem} {Q : Int32 → Mem → Prop} (h : f_X12_choose_J76 a0 x1 x2 v3 v4 v5 t0 M Q) : E p l e (rmO 3 0 0) s m args below meth c g 13 (MQ below (QcM g (rI Q)) args s 0 0 (gA g)) 0 0 76 [(0, .ref a0), (1, .int x1), (2, .int x2), (3, .int v3), (4, .int v4), (5, .int v5)] [.int t0] M := by
  unfold f_X12_choose_J76 at h
  refine e_istore (al' := [(6, .int t0), (0, .ref a0), (1, .int x1), (2, .int x2), (3, .int v3), (4, .int v4), (5, .int v5)]) C dX12_choose_76 (by decide) rfl ?_
  refine e_iload C 0 dX12_choose_78 rfl ?_
  refine e_if_eq (tgt := 87) C dX12_choose_80 (by decide) (fun q1 => ?_) (fun q1 => ?_)
  · replace h := ite_t h q1
    refine e_iload C 6 dX12_choose_87 rfl ?_
    refine e_pick [1, 2, 3, 4, 5, 6, 0] rfl ?_
    exact w_X12_choose_J89 C hr hlk h
  · replace h := ite_f h q1
    refine e_iconst (v := 0) C dX12_choose_83 (by decide) ?_
    refine e_goto (tgt := 89) C dX12_choose_84 (by decide) ?_
    refine e_pick [1, 2, 3, 4, 5, 6, 0] rfl ?_
    exact w_X12_choose_J89 C hr hlk h
set_option maxHeartbeats 4000000 in
set_option maxRecDepth 100000 in
theorem w_X12_choose_J75 {p : Program} {l : Launch} {e : Env} {s : State} {m : MethodId} {args : Array Value} {below : List Frame} {meth : Method} {c : Code} {g : Geo} (C : Cx p s m args c cX12_choose RX12 13 g) (hr : meth.sig.returnType = (some .int)) (hlk : meth.locks = false) {a0 : Nat} {x1 : Int32} {x2 : Int32} {v3 : Int32} {v4 : Int32} {v5 : Int32} {M : Mem} {Q : Int32 → Mem → Prop} (h : f_X12_choose_J75 a0 x1 x2 v3 v4 v5 M Q) : E p l e (rmO 3 0 0) s m args below meth c g 13 (MQ below (QcM g (rI Q)) args s 0 0 (gA g)) 0 0 75 [(0, .ref a0), (1, .int x1), (2, .int x2), (3, .int v3), (4, .int v4), (5, .int v5)] [] M := by
  unfold f_X12_choose_J75 at h
  refine e_iconst (v := 0) C dX12_choose_75 (by decide) ?_
  exact w_X12_choose_J76 C hr hlk h
set_option maxHeartbeats 4000000 in
set_option maxRecDepth 100000 in
theorem w_X12_choose_J51 {p : Program} {l : Launch} {e : Env} {s : State} {m : MethodId} {args : Array Value} {below : List Frame} {meth : Method} {c : Code} {g : Geo} (C : Cx p s m args c cX12_choose RX12 13 g) (hr : meth.sig.returnType = (some .int)) (hlk : meth.locks = false) {a0 : Nat} {x1 : Int32} {x2 : Int32} {v3 : Int32} {v4 : Int32} {t0 : Int32} {t1 : Int32} {M : Mem} {Q : Int32 → Mem → Prop} (h : f_X12_choose_J51 a0 x1 x2 v3 v4 t0 t1 M Q) : E p l e (rmO 3 0 0) s m args below meth c g 13 (MQ below (QcM g (rI Q)) args s 0 0 (gA g)) 0 0 51 [(0, .ref a0), (1, .int x1), (2, .int x2), (3, .int v3), (4, .int v4)] [.int t0, .int t1] M := by
  unfold f_X12_choose_J51 at h
  refine e_iadd C dX12_choose_51 ?_
  refine e_istore (al' := [(5, .int (t1 + t0)), (0, .ref a0), (1, .int x1), (2, .int x2), (3, .int v3), (4, .int v4)]) C dX12_choose_52 (by decide) rfl ?_
  refine e_iload C 5 dX12_choose_54 rfl ?_
  refine e_iconst (v := 4) C dX12_choose_56 (by decide) ?_
  refine e_icmp_ne (tgt := 75) C dX12_choose_57 (by decide) (fun q1 => ?_) (fun q1 => ?_)
  · replace h := ite_f h q1
    refine e_pick [1, 2, 3, 4, 5, 0] rfl ?_
    exact w_X12_choose_J75 C hr hlk h
  · replace h := ite_t h q1
    refine e_aload_n C 1 dX12_choose_60 rfl rfl ?_
    obtain ⟨o2, h⟩ := h
    refine e_getR C [12] 4 (fg_of fg_X12_23) o2 dX12_choose_61 ?_
    refine e_iload_n C 4 dX12_choose_64 rfl rfl ?_
    obtain ⟨b3, p4, h⟩ := h
    try rw [p4]
    obtain ⟨o5, h⟩ := h
    refine e_iald C o5 dX12_choose_65 ?_
    refine e_iload C 0 dX12_choose_66 rfl ?_
    refine e_icmp_ge (tgt := 75) C dX12_choose_68 (by decide) (fun q6 => ?_) (fun q6 => ?_)
    · replace h := ite_t h q6
      refine e_pick [1, 2, 3, 4, 5, 0] rfl ?_
      exact w_X12_choose_J75 C hr hlk h
    · replace h := ite_f h q6
      refine e_iconst (v := 1) C dX12_choose_71 (by decide) ?_
      refine e_goto (tgt := 76) C dX12_choose_72 (by decide) ?_
      refine e_pick [1, 2, 3, 4, 5, 0] rfl ?_
      exact w_X12_choose_J76 C hr hlk h
set_option maxHeartbeats 4000000 in
set_option maxRecDepth 100000 in
theorem w_X12_choose_J23 {p : Program} {l : Launch} {e : Env} {s : State} {m : MethodId} {args : Array Value} {below : List Frame} {meth : Method} {c : Code} {g : Geo} (C : Cx p s m args c cX12_choose RX12 13 g) (hr : meth.sig.returnType = (some .int)) (hlk : meth.locks = false) {a0 : Nat} {x1 : Int32} {x2 : Int32} {v3 : Int32} {t0 : Int32} {M : Mem} {Q : Int32 → Mem → Prop} (h : f_X12_choose_J23 a0 x1 x2 v3 t0 M Q) : E p l e (rmO 3 0 0) s m args below meth c g 13 (MQ below (QcM g (rI Q)) args s 0 0 (gA g)) 0 0 23 [(0, .ref a0), (1, .int x1), (2, .int x2), (3, .int v3)] [.int t0] M := by
  unfold f_X12_choose_J23 at h
  refine e_istore (al' := [(4, .int t0), (0, .ref a0), (1, .int x1), (2, .int x2), (3, .int v3)]) C dX12_choose_23 (by decide) rfl ?_
  refine e_aload_n C 1 dX12_choose_25 rfl rfl ?_
  obtain ⟨o1, h⟩ := h
  refine e_getI C [12] 35 (fg_of fg_X12_117) o1 dX12_choose_26 ?_
  refine e_iload C 0 dX12_choose_29 rfl ?_
  refine e_iconst (v := 3) C dX12_choose_31 (by decide) ?_
  refine e_icmp_ne (tgt := 50) C dX12_choose_32 (by decide) (fun q2 => ?_) (fun q2 => ?_)
  · replace h := ite_f h q2
    refine e_iconst (v := 0) C dX12_choose_50 (by decide) ?_
    refine e_pick [1, 2, 3, 4, 0] rfl ?_
    exact w_X12_choose_J51 C hr hlk h
  · replace h := ite_t h q2
    refine e_aload_n C 1 dX12_choose_35 rfl rfl ?_
    refine e_getR C [12] 29 (fg_of fg_X12_99) o1 dX12_choose_36 ?_
    refine e_iload_n C 2 dX12_choose_39 rfl rfl ?_
    obtain ⟨b3, p4, h⟩ := h
    try rw [p4]
    obtain ⟨o5, h⟩ := h
    refine e_iald C o5 dX12_choose_40 ?_
    refine e_aload_n C 1 dX12_choose_41 rfl rfl ?_
    refine e_iconst (v := 1) C dX12_choose_42 (by decide) ?_
    refine e_callV (as := [.int (1 : Int32)]) C wb_X12_standing wv_X12_288 (ci := 12) rfl rfl (isO_1 o1) (m_X12_standing h) rfl ⟨Nat.le_of_ble_eq_true rfl, Nat.le_of_ble_eq_true rfl⟩ ⟨Nat.le_of_ble_eq_true rfl, Nat.le_of_ble_eq_true rfl⟩ (by first | exact Nat.le_of_ble_eq_true rfl | (simp only [List.map_cons, List.map_nil, va_cat, List.sum_cons, List.sum_nil]; exact Nat.le_of_ble_eq_true rfl)) dX12_choose_43 (kI (fun w6 M7 h8 => ?_))
    refine e_imul C dX12_choose_46 ?_
    refine e_goto (tgt := 51) C dX12_choose_47 (by decide) ?_
    refine e_pick [1, 2, 3, 4, 0] rfl ?_
    exact w_X12_choose_J51 C hr hlk h8
set_option maxHeartbeats 4000000 in
set_option maxRecDepth 100000 in
theorem w_X12_choose {p : Program} {l : Launch} {e : Env} {s : State} {m : MethodId} {args : Array Value} {below : List Frame} {meth : Method} {c : Code} {g : Geo} (C : Cx p s m args c cX12_choose RX12 13 g) (hr : meth.sig.returnType = (some .int)) (hlk : meth.locks = false) {a0 : Nat} {x1 : Int32} {x2 : Int32} {M : Mem} {Q : Int32 → Mem → Prop} (h : f_X12_choose a0 x1 x2 M Q) : E p l e (rmO 3 0 0) s m args below meth c g 13 (MQ below (QcM g (rI Q)) args s 0 0 (gA g)) 0 0 0 [(0, .ref a0), (1, .int x1), (2, .int x2)] [] M := by
  unfold f_X12_choose at h
  refine e_aload_n C 0 dX12_choose_0 rfl rfl ?_
  obtain ⟨o1, h⟩ := h
  refine e_getR C [12] 41 (fg_of fg_X12_135) o1 dX12_choose_1 ?_
  refine e_iload_n C 2 dX12_choose_4 rfl rfl ?_
  obtain ⟨b2, p3, h⟩ := h
  try rw [p3]
  obtain ⟨o4, h⟩ := h
  refine e_iald C o4 dX12_choose_5 ?_
  refine e_istore_n (al' := [(3, .int (mI M b2 (x2).toNatClampNeg)), (0, .ref a0), (1, .int x1), (2, .int x2)]) C dX12_choose_6 rfl (by decide) rfl ?_
  refine e_iload_n C 2 dX12_choose_7 rfl rfl ?_
  refine e_bipush (v := 10) C dX12_choose_8 (by decide) ?_
  refine e_icmp_ne (tgt := 17) C dX12_choose_10 (by decide) (fun q5 => ?_) (fun q5 => ?_)
  · replace h := ite_f h q5
    refine e_aload_n C 1 dX12_choose_17 rfl rfl ?_
    refine e_getR C [12] 28 (fg_of fg_X12_96) o1 dX12_choose_18 ?_
    refine e_iload_n C 2 dX12_choose_21 rfl rfl ?_
    obtain ⟨b6, p7, h⟩ := h
    try rw [p7]
    obtain ⟨o8, h⟩ := h
    refine e_iald C o8 dX12_choose_22 ?_
    refine e_pick [1, 2, 3, 0] rfl ?_
    exact w_X12_choose_J23 C hr hlk h
  · replace h := ite_t h q5
    refine e_iconst (v := 0) C dX12_choose_13 (by decide) ?_
    refine e_goto (tgt := 23) C dX12_choose_14 (by decide) ?_
    refine e_pick [1, 2, 3, 0] rfl ?_
    exact w_X12_choose_J23 C hr hlk h
theorem m_X12_choose  {a0 : Nat} {x1 : Int32} {x2 : Int32} {M : Mem} {Q : Int32 → Mem → Prop} (h : f_X12_choose a0 x1 x2 M Q) : Con yX12_choose cX12_choose 13 (some .int) 3 0 0 [.ref a0, .int x1, .int x2] M (rI Q) :=
  con_of2 (al := [(0, .ref a0), (1, .int x1), (2, .int x2)]) (by decide) (by exact Nat.le_of_ble_eq_true rfl) (by rfl) (fun p l e s m args below meth c g C hr hlk _ => w_X12_choose C hr hlk h)
set_option maxHeartbeats 4000000 in
set_option maxRecDepth 100000 in
theorem w_X12_joins {p : Program} {l : Launch} {e : Env} {s : State} {m : MethodId} {args : Array Value} {below : List Frame} {meth : Method} {c : Code} {g : Geo} (C : Cx p s m args c cX12_joins RX12 5 g) (hr : meth.sig.returnType = none) (hlk : meth.locks = false) {a0 : Nat} {x1 : Int32} {x2 : Int32} {M : Mem} {Q : Mem → Prop} (h : f_X12_joins a0 x1 x2 M Q) : E p l e (rmO 4 0 0) s m args below meth c g 5 (MQ below (QcM g (rV Q)) args s 0 0 (gA g)) 0 0 0 [(0, .ref a0), (1, .int x1), (2, .int x2)] [] M := by
  unfold f_X12_joins at h
  refine e_aload_n C 0 dX12_joins_0 rfl rfl ?_
  obtain ⟨o1, h⟩ := h
  refine e_getI C [12] 31 (fg_of fg_X12_105) o1 dX12_joins_1 ?_
  refine e_aload_n C 0 dX12_joins_4 rfl rfl ?_
  refine e_getI C [12] 37 (fg_of fg_X12_123) o1 dX12_joins_5 ?_
  refine e_icmp_ne (tgt := 12) C dX12_joins_8 (by decide) (fun q2 => ?_) (fun q2 => ?_)
  · replace h := ite_f h q2
    refine e_aload_n C 0 dX12_joins_12 rfl rfl ?_
    refine e_getI C [12] 31 (fg_of fg_X12_105) o1 dX12_joins_13 ?_
    refine e_istore_n (al' := [(3, .int (mI M a0 31)), (0, .ref a0), (1, .int x1), (2, .int x2)]) C dX12_joins_16 rfl (by decide) rfl ?_
    refine e_aload_n C 1 dX12_joins_17 rfl rfl ?_
    refine e_getR C [12] 41 (fg_of fg_X12_135) o1 dX12_joins_18 ?_
    refine e_iload_n C 0 dX12_joins_21 rfl rfl ?_
    refine e_iload_n C 3 dX12_joins_22 rfl rfl ?_
    obtain ⟨b3, p4, h⟩ := h
    try rw [p4]
    obtain ⟨o5, h⟩ := h
    refine e_iast C o5 dX12_joins_23 ?_
    refine nmE (fun M6 e7 => ?_)
    replace h := h M6 e7
    have o8 : isO M6 a0 [12] := by rw [e7]; exact o1
    have p9 : mP M6 a0 41 = some b3 := by rw [e7]; exact p4
    refine e_aload_n C 1 dX12_joins_24 rfl rfl ?_
    refine e_getR C [12] 42 (fg_of fg_X12_138) o8 dX12_joins_25 ?_
    refine e_iload_n C 0 dX12_joins_28 rfl rfl ?_
    refine e_aload_n C 1 dX12_joins_29 rfl rfl ?_
    refine e_getI C [12] 39 (fg_of fg_X12_129) o8 dX12_joins_30 ?_
    obtain ⟨b10, p11, h⟩ := h
    try rw [p11]
    obtain ⟨o12, h⟩ := h
    refine e_iast C o12 dX12_joins_33 ?_
    refine nmE (fun M13 e14 => ?_)
    replace h := h M13 e14
    have o15 : isO M13 a0 [12] := by rw [e14]; exact o8
    have p16 : mP M13 a0 41 = some b3 := by rw [e14]; exact p9
    have p17 : mP M13 a0 42 = some b10 := by rw [e14]; exact p11
    refine e_aload_n C 1 dX12_joins_34 rfl rfl ?_
    refine e_getR C [12] 45 (fg_of fg_X12_147) o15 dX12_joins_35 ?_
    refine e_iload_n C 0 dX12_joins_38 rfl rfl ?_
    refine e_bipush (v := -5) C dX12_joins_39 (by decide) ?_
    obtain ⟨b18, p19, h⟩ := h
    try rw [p19]
    obtain ⟨o20, h⟩ := h
    refine e_iast C o20 dX12_joins_41 ?_
    refine nmE (fun M21 e22 => ?_)
    replace h := h M21 e22
    have o23 : isO M21 a0 [12] := by rw [e22]; exact o15
    have p24 : mP M21 a0 41 = some b3 := by rw [e22]; exact p16
    have p25 : mP M21 a0 42 = some b10 := by rw [e22]; exact p17
    have p26 : mP M21 a0 45 = some b18 := by rw [e22]; exact p19
    refine e_aload_n C 1 dX12_joins_42 rfl rfl ?_
    refine e_getR C [12] 46 (fg_of fg_X12_150) o23 dX12_joins_43 ?_
    refine e_iload_n C 0 dX12_joins_46 rfl rfl ?_
    refine e_bipush (v := -5) C dX12_joins_47 (by decide) ?_
    obtain ⟨b27, p28, h⟩ := h
    try rw [p28]
    obtain ⟨o29, h⟩ := h
    refine e_iast C o29 dX12_joins_49 ?_
    refine nmE (fun M30 e31 => ?_)
    replace h := h M30 e31
    have o32 : isO M30 a0 [12] := by rw [e31]; exact o23
    have p33 : mP M30 a0 41 = some b3 := by rw [e31]; exact p24
    have p34 : mP M30 a0 42 = some b10 := by rw [e31]; exact p25
    have p35 : mP M30 a0 45 = some b18 := by rw [e31]; exact p26
    have p36 : mP M30 a0 46 = some b27 := by rw [e31]; exact p28
    refine e_aload_n C 1 dX12_joins_50 rfl rfl ?_
    refine e_iload_n C 2 dX12_joins_51 rfl rfl ?_
    refine e_iload_n C 0 dX12_joins_52 rfl rfl ?_
    refine e_callV (as := [.int x1, .int (mI M a0 31)]) C wb_X12_choose wv_X12_303 (ci := 12) rfl rfl (isO_1 o32) (m_X12_choose h) rfl ⟨Nat.le_of_ble_eq_true rfl, Nat.le_of_ble_eq_true rfl⟩ ⟨Nat.le_of_ble_eq_true rfl, Nat.le_of_ble_eq_true rfl⟩ (by first | exact Nat.le_of_ble_eq_true rfl | (simp only [List.map_cons, List.map_nil, va_cat, List.sum_cons, List.sum_nil]; exact Nat.le_of_ble_eq_true rfl)) dX12_joins_53 (kI (fun w37 M38 h72 => ?_))
    refine e_istore (al' := [(4, .int w37), (3, .int (mI M a0 31)), (0, .ref a0), (1, .int x1), (2, .int x2)]) C dX12_joins_56 (by decide) rfl ?_
    refine e_aload_n C 2 dX12_joins_58 rfl rfl ?_
    obtain ⟨o39, h72⟩ := h72
    refine e_getR C [12] 43 (fg_of fg_X12_141) o39 dX12_joins_59 ?_
    refine e_iload_n C 1 dX12_joins_62 rfl rfl ?_
    refine e_iload C 0 dX12_joins_63 rfl ?_
    obtain ⟨b40, p41, h72⟩ := h72
    try rw [p41]
    obtain ⟨o42, h72⟩ := h72
    refine e_iast C o42 dX12_joins_65 ?_
    refine nmE (fun M43 e44 => ?_)
    replace h72 := h72 M43 e44
    have o45 : isO M43 a0 [12] := by rw [e44]; exact o39
    have p46 : mP M43 a0 43 = some b40 := by rw [e44]; exact p41
    refine e_aload_n C 2 dX12_joins_66 rfl rfl ?_
    refine e_dup C rfl dX12_joins_67 ?_
    refine e_getI C [12] 31 (fg_of fg_X12_105) o45 dX12_joins_68 ?_
    refine e_iconst (v := 1) C dX12_joins_71 (by decide) ?_
    refine e_iadd C dX12_joins_72 ?_
    refine e_putI C [12] 31 false (fun z => by cases z) fp_X12_105 o45 dX12_joins_73 ?_
    refine nmE (fun M47 e48 => ?_)
    replace h72 := h72 M47 e48
    have o49 : isO M47 a0 [12] := by rw [e48]; exact o45
    have p50 : mP M47 a0 43 = some b40 := by rw [e48]; exact p46
    refine e_iload C 0 dX12_joins_76 rfl ?_
    refine e_iconst (v := 2) C dX12_joins_78 (by decide) ?_
    refine e_icmp_ne (tgt := 83) C dX12_joins_79 (by decide) (fun q51 => ?_) (fun q51 => ?_)
    · replace h72 := ite_f h72 q51
      refine e_aload_n C 2 dX12_joins_83 rfl rfl ?_
      refine e_getR C [12] 47 (fg_of fg_X12_153) o49 dX12_joins_84 ?_
      refine e_bipush (v := 41) C dX12_joins_87 (by decide) ?_
      refine e_iload C 0 dX12_joins_89 rfl ?_
      refine e_imul C dX12_joins_91 ?_
      refine e_aload_n C 2 dX12_joins_92 rfl rfl ?_
      refine e_getR C [12] 49 (fg_of fg_X12_159) o49 dX12_joins_93 ?_
      refine e_iload C 0 dX12_joins_96 rfl ?_
      obtain ⟨b52, p53, h72⟩ := h72
      try rw [p53]
      obtain ⟨o54, h72⟩ := h72
      refine e_iald C o54 dX12_joins_98 ?_
      refine e_iadd C dX12_joins_99 ?_
      refine e_iload_n C 1 dX12_joins_100 rfl rfl ?_
      obtain ⟨b55, p56, h72⟩ := h72
      try rw [p56]
      obtain ⟨o57, h72⟩ := h72
      refine e_iast C o57 dX12_joins_101 ?_
      refine nmE (fun M58 e59 => ?_)
      replace h72 := h72 M58 e59
      have o60 : isO M58 a0 [12] := by rw [e59]; exact o49
      have p61 : mP M58 a0 43 = some b40 := by rw [e59]; exact p50
      have p62 : mP M58 a0 49 = some b52 := by rw [e59]; exact p53
      have p63 : mP M58 a0 47 = some b55 := by rw [e59]; exact p56
      refine e_aload_n C 2 dX12_joins_102 rfl rfl ?_
      refine e_getR C [12] 49 (fg_of fg_X12_159) o60 dX12_joins_103 ?_
      rw [p62]
      refine e_iload C 0 dX12_joins_106 rfl ?_
      refine e_dup2 C rfl rfl dX12_joins_108 ?_
      obtain ⟨o64, h72⟩ := h72
      refine e_iald C o64 dX12_joins_109 ?_
      refine e_iconst (v := 1) C dX12_joins_110 (by decide) ?_
      refine e_iadd C dX12_joins_111 ?_
      obtain ⟨o65, h72⟩ := h72
      refine e_iast C o65 dX12_joins_112 ?_
      refine nmE (fun M66 e67 => ?_)
      replace h72 := h72 M66 e67
      have o68 : isO M66 a0 [12] := by rw [e67]; exact o60
      have p69 : mP M66 a0 43 = some b40 := by rw [e67]; exact p61
      have p70 : mP M66 a0 49 = some b52 := by rw [e67]; exact p62
      have p71 : mP M66 a0 47 = some b55 := by rw [e67]; exact p63
      exact e_vret C hr hlk (Nat.le_refl _) (Nat.le_refl _) dX12_joins_113 ⟨rfl, h72⟩
    · replace h72 := ite_t h72 q51
      exact e_vret C hr hlk (Nat.le_refl _) (Nat.le_refl _) dX12_joins_82 ⟨rfl, h72⟩
  · replace h := ite_t h q2
    exact e_vret C hr hlk (Nat.le_refl _) (Nat.le_refl _) dX12_joins_11 ⟨rfl, h⟩
theorem m_X12_joins  {a0 : Nat} {x1 : Int32} {x2 : Int32} {M : Mem} {Q : Mem → Prop} (h : f_X12_joins a0 x1 x2 M Q) : Con yX12_joins cX12_joins 5 none 4 0 0 [.ref a0, .int x1, .int x2] M (rV Q) :=
  con_of2 (al := [(0, .ref a0), (1, .int x1), (2, .int x2)]) (by decide) (by exact Nat.le_of_ble_eq_true rfl) (by rfl) (fun p l e s m args below meth c g C hr hlk _ => w_X12_joins C hr hlk h)
