/-! ===== generated: the machine keeps f_ ===== -/
set_option maxHeartbeats 4000000 in
set_option maxRecDepth 100000 in
theorem w_X11_outside {p : Program} {l : Launch} {e : Env} {s : State} {m : MethodId} {args : Array Value} {below : List Frame} {meth : Method} {c : Code} {g : Geo} (C : Cx p s m args c cX11_outside RX11 3 g) (hr : meth.sig.returnType = (some .boolean)) (hlk : meth.locks = false) {x0 : Int32} {x1 : Int32} {x2 : Int32} {M : Mem} {Q : Bool → Mem → Prop} (h : f_X11_outside x0 x1 x2 M Q) : E p l e (rmO 1 0 0) s m args below meth c g 3 (MQ below (QcM g (rZ Q)) args s 0 0 (gA g)) 0 0 0 [(0, .int x0), (1, .int x1), (2, .int x2)] [] M := by
  unfold f_X11_outside at h
  refine e_iload_n C 0 dX11_outside_0 rfl rfl ?_
  refine e_iload_n C 1 dX11_outside_1 rfl rfl ?_
  refine e_icmp_lt (tgt := 10) C dX11_outside_2 (by decide) (fun q1 => ?_) (fun q1 => ?_)
  · replace h := ite_t h q1
    refine e_iconst (v := 1) C dX11_outside_10 (by decide) ?_
    refine e_goto (tgt := 15) C dX11_outside_11 (by decide) ?_
    exact e_zret C hr rfl hlk (Nat.le_refl _) (Nat.le_refl _) dX11_outside_15 ⟨true, rfl, h⟩
  · replace h := ite_f h q1
    refine e_iload_n C 0 dX11_outside_5 rfl rfl ?_
    refine e_iload_n C 2 dX11_outside_6 rfl rfl ?_
    refine e_icmp_le (tgt := 14) C dX11_outside_7 (by decide) (fun q2 => ?_) (fun q2 => ?_)
    · replace h := ite_t h q2
      refine e_iconst (v := 0) C dX11_outside_14 (by decide) ?_
      exact e_zret C hr rfl hlk (Nat.le_refl _) (Nat.le_refl _) dX11_outside_15 ⟨false, rfl, h⟩
    · replace h := ite_f h q2
      refine e_iconst (v := 1) C dX11_outside_10 (by decide) ?_
      refine e_goto (tgt := 15) C dX11_outside_11 (by decide) ?_
      exact e_zret C hr rfl hlk (Nat.le_refl _) (Nat.le_refl _) dX11_outside_15 ⟨true, rfl, h⟩
theorem m_X11_outside  {x0 : Int32} {x1 : Int32} {x2 : Int32} {M : Mem} {Q : Bool → Mem → Prop} (h : f_X11_outside x0 x1 x2 M Q) : Con yX11_outside cX11_outside 3 (some .boolean) 1 0 0 [.int x0, .int x1, .int x2] M (rZ Q) :=
  con_of2 (al := [(0, .int x0), (1, .int x1), (2, .int x2)]) (by decide) (by exact Nat.le_of_ble_eq_true rfl) (by rfl) (fun p l e s m args below meth c g C hr hlk _ => w_X11_outside C hr hlk h)
set_option maxHeartbeats 4000000 in
set_option maxRecDepth 100000 in
theorem w_X11_sort {p : Program} {l : Launch} {e : Env} {s : State} {m : MethodId} {args : Array Value} {below : List Frame} {meth : Method} {c : Code} {g : Geo} (C : Cx p s m args c cX11_sort RX11 6 g) (hr : meth.sig.returnType = (some .int)) (hlk : meth.locks = false) {a0 : Nat} {x1 : Int32} {x2 : Int32} {x3 : Int32} {x4 : Int32} {M : Mem} {Q : Int32 → Mem → Prop} (h : f_X11_sort a0 x1 x2 x3 x4 M Q) : E p l e (rmO 2 0 0) s m args below meth c g 6 (MQ below (QcM g (rI Q)) args s 0 0 (gA g)) 0 0 0 [(0, .ref a0), (1, .int x1), (2, .int x2), (3, .int x3), (4, .int x4)] [] M := by
  unfold f_X11_sort at h
  refine e_iload_n C 1 dX11_sort_0 rfl rfl ?_
  refine e_iconst (v := 0) C dX11_sort_1 (by decide) ?_
  refine e_bipush (v := 9) C dX11_sort_2 (by decide) ?_
  refine e_callS (as := [.int x1, .int (0 : Int32), .int (9 : Int32)]) C wb_X11_outside wt_X11_77 (m_X11_outside h) rfl ⟨Nat.le_of_ble_eq_true rfl, Nat.le_of_ble_eq_true rfl⟩ ⟨Nat.le_of_ble_eq_true rfl, Nat.le_of_ble_eq_true rfl⟩ (by first | exact Nat.le_of_ble_eq_true rfl | (simp only [List.map_cons, List.map_nil, va_cat, List.sum_cons, List.sum_nil]; exact Nat.le_of_ble_eq_true rfl)) dX11_sort_4 (kZ (fun w1 M2 h63 => ?_))
  refine e_if_ne (tgt := 41) C dX11_sort_7 (by decide) (fun q3 => ?_) (fun q3 => ?_)
  · replace h63 := ite_t h63 (bi_t q3)
    refine e_bipush (v := -2) C dX11_sort_41 (by decide) ?_
    exact e_iret C hr hlk (Nat.le_refl _) (Nat.le_refl _) dX11_sort_43 ⟨_, rfl, h63⟩
  · replace h63 := ite_f h63 (bi_ne q3)
    refine e_iload_n C 2 dX11_sort_10 rfl rfl ?_
    refine e_iconst (v := 0) C dX11_sort_11 (by decide) ?_
    refine e_bipush (v := 99) C dX11_sort_12 (by decide) ?_
    refine e_callS (as := [.int x2, .int (0 : Int32), .int (99 : Int32)]) C wb_X11_outside wt_X11_77 (m_X11_outside h63) rfl ⟨Nat.le_of_ble_eq_true rfl, Nat.le_of_ble_eq_true rfl⟩ ⟨Nat.le_of_ble_eq_true rfl, Nat.le_of_ble_eq_true rfl⟩ (by first | exact Nat.le_of_ble_eq_true rfl | (simp only [List.map_cons, List.map_nil, va_cat, List.sum_cons, List.sum_nil]; exact Nat.le_of_ble_eq_true rfl)) dX11_sort_14 (kZ (fun w4 M5 h62 => ?_))
    refine e_if_ne (tgt := 41) C dX11_sort_17 (by decide) (fun q6 => ?_) (fun q6 => ?_)
    · replace h62 := ite_t h62 (bi_t q6)
      refine e_bipush (v := -2) C dX11_sort_41 (by decide) ?_
      exact e_iret C hr hlk (Nat.le_refl _) (Nat.le_refl _) dX11_sort_43 ⟨_, rfl, h62⟩
    · replace h62 := ite_f h62 (bi_ne q6)
      refine e_iload_n C 3 dX11_sort_20 rfl rfl ?_
      refine e_iconst (v := 0) C dX11_sort_21 (by decide) ?_
      refine e_bipush (v := 20) C dX11_sort_22 (by decide) ?_
      refine e_callS (as := [.int x3, .int (0 : Int32), .int (20 : Int32)]) C wb_X11_outside wt_X11_77 (m_X11_outside h62) rfl ⟨Nat.le_of_ble_eq_true rfl, Nat.le_of_ble_eq_true rfl⟩ ⟨Nat.le_of_ble_eq_true rfl, Nat.le_of_ble_eq_true rfl⟩ (by first | exact Nat.le_of_ble_eq_true rfl | (simp only [List.map_cons, List.map_nil, va_cat, List.sum_cons, List.sum_nil]; exact Nat.le_of_ble_eq_true rfl)) dX11_sort_24 (kZ (fun w7 M8 h61 => ?_))
      refine e_if_ne (tgt := 41) C dX11_sort_27 (by decide) (fun q9 => ?_) (fun q9 => ?_)
      · replace h61 := ite_t h61 (bi_t q9)
        refine e_bipush (v := -2) C dX11_sort_41 (by decide) ?_
        exact e_iret C hr hlk (Nat.le_refl _) (Nat.le_refl _) dX11_sort_43 ⟨_, rfl, h61⟩
      · replace h61 := ite_f h61 (bi_ne q9)
        refine e_iload C 4 dX11_sort_30 rfl ?_
        refine e_iconst (v := 1) C dX11_sort_32 (by decide) ?_
        refine e_bipush (v := 9) C dX11_sort_33 (by decide) ?_
        refine e_callS (as := [.int x4, .int (1 : Int32), .int (9 : Int32)]) C wb_X11_outside wt_X11_77 (m_X11_outside h61) rfl ⟨Nat.le_of_ble_eq_true rfl, Nat.le_of_ble_eq_true rfl⟩ ⟨Nat.le_of_ble_eq_true rfl, Nat.le_of_ble_eq_true rfl⟩ (by first | exact Nat.le_of_ble_eq_true rfl | (simp only [List.map_cons, List.map_nil, va_cat, List.sum_cons, List.sum_nil]; exact Nat.le_of_ble_eq_true rfl)) dX11_sort_35 (kZ (fun w10 M11 h60 => ?_))
        refine e_if_eq (tgt := 44) C dX11_sort_38 (by decide) (fun q12 => ?_) (fun q12 => ?_)
        · replace h60 := ite_f h60 (bi_ne q12)
          refine e_aload_n C 0 dX11_sort_44 rfl rfl ?_
          obtain ⟨o13, h60⟩ := h60
          refine e_getI C [11] 1 (fg_of fg_X11_81) o13 dX11_sort_45 ?_
          refine e_bipush (v := 6) C dX11_sort_48 (by decide) ?_
          refine e_icmp_lt (tgt := 56) C dX11_sort_50 (by decide) (fun q14 => ?_) (fun q14 => ?_)
          · replace h60 := ite_t h60 q14
            refine e_aload_n C 0 dX11_sort_56 rfl rfl ?_
            refine e_getR C [11] 0 (fg_of fg_X11_13) o13 dX11_sort_57 ?_
            refine e_aload_n C 0 dX11_sort_60 rfl rfl ?_
            refine e_getI C [11] 1 (fg_of fg_X11_81) o13 dX11_sort_61 ?_
            obtain ⟨b15, p16, h60⟩ := h60
            try rw [p16]
            obtain ⟨o17, h60⟩ := h60
            refine e_aald C 4 (by decide) o17 dX11_sort_64 ?_
            refine e_rstore (al' := [(5, va_rf (mP M11 b15 ((mI M11 a0 1)).toNatClampNeg)), (0, .ref a0), (1, .int x1), (2, .int x2), (3, .int x3), (4, .int x4)]) C dX11_sort_65 (by decide) rfl ?_
            refine e_rload C 0 dX11_sort_67 rfl ?_
            refine e_iconst (v := 0) C dX11_sort_69 (by decide) ?_
            refine e_iload_n C 2 dX11_sort_70 rfl rfl ?_
            obtain ⟨b18, p19, h60⟩ := h60
            try rw [p19]
            obtain ⟨o20, h60⟩ := h60
            refine e_iast C o20 dX11_sort_71 ?_
            refine nmE (fun M21 e22 => ?_)
            replace h60 := h60 M21 e22
            have o23 : isO M21 a0 [11] := by rw [e22]; exact o13
            have p24 : mP M21 a0 0 = some b15 := by rw [e22]; exact p16
            refine e_aload C 0 dX11_sort_72 rfl ?_
            refine e_iconst (v := 1) C dX11_sort_74 (by decide) ?_
            refine e_iload_n C 3 dX11_sort_75 rfl rfl ?_
            obtain ⟨o25, h60⟩ := h60
            refine e_iast C o25 dX11_sort_76 ?_
            refine nmE (fun M26 e27 => ?_)
            replace h60 := h60 M26 e27
            have o28 : isO M26 a0 [11] := by rw [e27]; exact o23
            have p29 : mP M26 a0 0 = some b15 := by rw [e27]; exact p24
            refine e_aload C 0 dX11_sort_77 rfl ?_
            refine e_iconst (v := 2) C dX11_sort_79 (by decide) ?_
            refine e_iload_n C 4 dX11_sort_80 rfl rfl ?_
            obtain ⟨o30, h60⟩ := h60
            refine e_iast C o30 dX11_sort_81 ?_
            refine nmE (fun M31 e32 => ?_)
            replace h60 := h60 M31 e32
            have o33 : isO M31 a0 [11] := by rw [e32]; exact o28
            have p34 : mP M31 a0 0 = some b15 := by rw [e32]; exact p29
            refine e_aload C 0 dX11_sort_82 rfl ?_
            refine e_iconst (v := 3) C dX11_sort_84 (by decide) ?_
            refine e_iload C 5 dX11_sort_85 rfl ?_
            obtain ⟨o35, h60⟩ := h60
            refine e_iast C o35 dX11_sort_87 ?_
            refine nmE (fun M36 e37 => ?_)
            replace h60 := h60 M36 e37
            have o38 : isO M36 a0 [11] := by rw [e37]; exact o33
            have p39 : mP M36 a0 0 = some b15 := by rw [e37]; exact p34
            refine e_aload_n C 1 dX11_sort_88 rfl rfl ?_
            refine e_getR C [11] 11 (fg_of fg_X11_47) o38 dX11_sort_89 ?_
            obtain ⟨b40, p41, h60⟩ := h60
            try rw [p41]
            obtain ⟨o42, h60⟩ := h60
            refine e_getR C [0] 1 (fg_of fg_X11_85) o42 dX11_sort_92 ?_
            refine e_aload_n C 1 dX11_sort_95 rfl rfl ?_
            refine e_getI C [11] 1 (fg_of fg_X11_81) o38 dX11_sort_96 ?_
            refine e_bipush (v := 10) C dX11_sort_99 (by decide) ?_
            obtain ⟨b43, p44, h60⟩ := h60
            try rw [p44]
            obtain ⟨o45, h60⟩ := h60
            refine e_iast C o45 dX11_sort_101 ?_
            refine nmE (fun M46 e47 => ?_)
            replace h60 := h60 M46 e47
            have o48 : isO M46 a0 [11] := by rw [e47]; exact o38
            have p49 : mP M46 a0 0 = some b15 := by rw [e47]; exact p39
            have p50 : mP M46 a0 11 = some b40 := by rw [e47]; exact p41
            have o51 : isO M46 b40 [0] := by rw [e47]; exact o42
            have p52 : mP M46 b40 1 = some b43 := by rw [e47]; exact p44
            refine e_aload_n C 1 dX11_sort_102 rfl rfl ?_
            refine e_dup C rfl dX11_sort_103 ?_
            refine e_getI C [11] 1 (fg_of fg_X11_81) o48 dX11_sort_104 ?_
            refine e_iconst (v := 1) C dX11_sort_107 (by decide) ?_
            refine e_iadd C dX11_sort_108 ?_
            refine e_putI C [11] 1 false (fun z => by cases z) fp_X11_81 o48 dX11_sort_109 ?_
            refine nmE (fun M53 e54 => ?_)
            replace h60 := h60 M53 e54
            have o55 : isO M53 a0 [11] := by rw [e54]; exact o48
            have p56 : mP M53 a0 0 = some b15 := by rw [e54]; exact p49
            have p57 : mP M53 a0 11 = some b40 := by rw [e54]; exact p50
            have o58 : isO M53 b40 [0] := by rw [e54]; exact o51
            have p59 : mP M53 b40 1 = some b43 := by rw [e54]; exact p52
            refine e_aload_n C 1 dX11_sort_112 rfl rfl ?_
            refine e_getI C [11] 1 (fg_of fg_X11_81) o55 dX11_sort_113 ?_
            refine e_iconst (v := 1) C dX11_sort_116 (by decide) ?_
            refine e_isub C dX11_sort_117 ?_
            exact e_iret C hr hlk (Nat.le_refl _) (Nat.le_refl _) dX11_sort_118 ⟨_, rfl, h60⟩
          · replace h60 := ite_f h60 q14
            refine e_bipush (v := -4) C dX11_sort_53 (by decide) ?_
            exact e_iret C hr hlk (Nat.le_refl _) (Nat.le_refl _) dX11_sort_55 ⟨_, rfl, h60⟩
        · replace h60 := ite_t h60 (bi_t q12)
          refine e_bipush (v := -2) C dX11_sort_41 (by decide) ?_
          exact e_iret C hr hlk (Nat.le_refl _) (Nat.le_refl _) dX11_sort_43 ⟨_, rfl, h60⟩
theorem m_X11_sort  {a0 : Nat} {x1 : Int32} {x2 : Int32} {x3 : Int32} {x4 : Int32} {M : Mem} {Q : Int32 → Mem → Prop} (h : f_X11_sort a0 x1 x2 x3 x4 M Q) : Con yX11_sort cX11_sort 6 (some .int) 2 0 0 [.ref a0, .int x1, .int x2, .int x3, .int x4] M (rI Q) :=
  con_of2 (al := [(0, .ref a0), (1, .int x1), (2, .int x2), (3, .int x3), (4, .int x4)]) (by decide) (by exact Nat.le_of_ble_eq_true rfl) (by rfl) (fun p l e s m args below meth c g C hr hlk _ => w_X11_sort C hr hlk h)
set_option maxHeartbeats 4000000 in
set_option maxRecDepth 100000 in
theorem w_X11_noSort {p : Program} {l : Launch} {e : Env} {s : State} {m : MethodId} {args : Array Value} {below : List Frame} {meth : Method} {c : Code} {g : Geo} (C : Cx p s m args c cX11_noSort RX11 2 g) (hr : meth.sig.returnType = (some .boolean)) (hlk : meth.locks = false) {a0 : Nat} {x1 : Int32} {M : Mem} {Q : Bool → Mem → Prop} (h : f_X11_noSort a0 x1 M Q) : E p l e (rmO 1 0 0) s m args below meth c g 2 (MQ below (QcM g (rZ Q)) args s 0 0 (gA g)) 0 0 0 [(0, .ref a0), (1, .int x1)] [] M := by
  unfold f_X11_noSort at h
  refine e_iload_n C 1 dX11_noSort_0 rfl rfl ?_
  refine e_if_lt (tgt := 12) C dX11_noSort_1 (by decide) (fun q1 => ?_) (fun q1 => ?_)
  · replace h := ite_t h q1
    refine e_iconst (v := 1) C dX11_noSort_12 (by decide) ?_
    refine e_goto (tgt := 17) C dX11_noSort_13 (by decide) ?_
    exact e_zret C hr rfl hlk (Nat.le_refl _) (Nat.le_refl _) dX11_noSort_17 ⟨true, rfl, h⟩
  · replace h := ite_f h q1
    refine e_iload_n C 1 dX11_noSort_4 rfl rfl ?_
    refine e_aload_n C 0 dX11_noSort_5 rfl rfl ?_
    obtain ⟨o2, h⟩ := h
    refine e_getI C [11] 1 (fg_of fg_X11_81) o2 dX11_noSort_6 ?_
    refine e_icmp_lt (tgt := 16) C dX11_noSort_9 (by decide) (fun q3 => ?_) (fun q3 => ?_)
    · replace h := ite_t h q3
      refine e_iconst (v := 0) C dX11_noSort_16 (by decide) ?_
      exact e_zret C hr rfl hlk (Nat.le_refl _) (Nat.le_refl _) dX11_noSort_17 ⟨false, rfl, h⟩
    · replace h := ite_f h q3
      refine e_iconst (v := 1) C dX11_noSort_12 (by decide) ?_
      refine e_goto (tgt := 17) C dX11_noSort_13 (by decide) ?_
      exact e_zret C hr rfl hlk (Nat.le_refl _) (Nat.le_refl _) dX11_noSort_17 ⟨true, rfl, h⟩
theorem m_X11_noSort  {a0 : Nat} {x1 : Int32} {M : Mem} {Q : Bool → Mem → Prop} (h : f_X11_noSort a0 x1 M Q) : Con yX11_noSort cX11_noSort 2 (some .boolean) 1 0 0 [.ref a0, .int x1] M (rZ Q) :=
  con_of2 (al := [(0, .ref a0), (1, .int x1)]) (by decide) (by exact Nat.le_of_ble_eq_true rfl) (by rfl) (fun p l e s m args below meth c g C hr hlk _ => w_X11_noSort C hr hlk h)
set_option maxHeartbeats 4000000 in
set_option maxRecDepth 100000 in
theorem w_X11_of {p : Program} {l : Launch} {e : Env} {s : State} {m : MethodId} {args : Array Value} {below : List Frame} {meth : Method} {c : Code} {g : Geo} (C : Cx p s m args c cX11_of RX11 3 g) (hr : meth.sig.returnType = (some .int)) (hlk : meth.locks = false) {a0 : Nat} {x1 : Int32} {x2 : Int32} {M : Mem} {Q : Int32 → Mem → Prop} (h : f_X11_of a0 x1 x2 M Q) : E p l e (rmO 2 0 0) s m args below meth c g 3 (MQ below (QcM g (rI Q)) args s 0 0 (gA g)) 0 0 0 [(0, .ref a0), (1, .int x1), (2, .int x2)] [] M := by
  unfold f_X11_of at h
  refine e_aload_n C 0 dX11_of_0 rfl rfl ?_
  refine e_iload_n C 1 dX11_of_1 rfl rfl ?_
  obtain ⟨o3, h⟩ := h
  refine e_callV (as := [.int x1]) C wb_X11_noSort wv_X11_88 (ci := 11) rfl rfl (isO_1 o3) (m_X11_noSort h) rfl ⟨Nat.le_of_ble_eq_true rfl, Nat.le_of_ble_eq_true rfl⟩ ⟨Nat.le_of_ble_eq_true rfl, Nat.le_of_ble_eq_true rfl⟩ (by first | exact Nat.le_of_ble_eq_true rfl | (simp only [List.map_cons, List.map_nil, va_cat, List.sum_cons, List.sum_nil]; exact Nat.le_of_ble_eq_true rfl)) dX11_of_2 (kZ (fun w1 M2 h24 => ?_))
  refine e_if_ne (tgt := 17) C dX11_of_5 (by decide) (fun q4 => ?_) (fun q4 => ?_)
  · replace h24 := ite_t h24 (bi_t q4)
    refine e_iconst (v := -1) C dX11_of_17 (by decide) ?_
    exact e_iret C hr hlk (Nat.le_refl _) (Nat.le_refl _) dX11_of_18 ⟨_, rfl, h24⟩
  · replace h24 := ite_f h24 (bi_ne q4)
    refine e_iload_n C 2 dX11_of_8 rfl rfl ?_
    refine e_iconst (v := 0) C dX11_of_9 (by decide) ?_
    refine e_iconst (v := 4) C dX11_of_10 (by decide) ?_
    refine e_callS (as := [.int x2, .int (0 : Int32), .int (4 : Int32)]) C wb_X11_outside wt_X11_77 (m_X11_outside h24) rfl ⟨Nat.le_of_ble_eq_true rfl, Nat.le_of_ble_eq_true rfl⟩ ⟨Nat.le_of_ble_eq_true rfl, Nat.le_of_ble_eq_true rfl⟩ (by first | exact Nat.le_of_ble_eq_true rfl | (simp only [List.map_cons, List.map_nil, va_cat, List.sum_cons, List.sum_nil]; exact Nat.le_of_ble_eq_true rfl)) dX11_of_11 (kZ (fun w5 M6 h23 => ?_))
    refine e_if_eq (tgt := 19) C dX11_of_14 (by decide) (fun q7 => ?_) (fun q7 => ?_)
    · replace h23 := ite_f h23 (bi_ne q7)
      refine e_iload_n C 2 dX11_of_19 rfl rfl ?_
      refine e_iconst (v := 4) C dX11_of_20 (by decide) ?_
      refine e_icmp_ne (tgt := 36) C dX11_of_21 (by decide) (fun q8 => ?_) (fun q8 => ?_)
      · replace h23 := ite_f h23 q8
        refine e_aload_n C 0 dX11_of_36 rfl rfl ?_
        obtain ⟨o9, h23⟩ := h23
        refine e_getR C [11] 0 (fg_of fg_X11_13) o9 dX11_of_37 ?_
        refine e_iload_n C 1 dX11_of_40 rfl rfl ?_
        obtain ⟨b10, p11, h23⟩ := h23
        try rw [p11]
        obtain ⟨o12, h23⟩ := h23
        refine e_aald C 4 (by decide) o12 dX11_of_41 ?_
        refine e_iload_n C 2 dX11_of_42 rfl rfl ?_
        obtain ⟨b13, p14, h23⟩ := h23
        try rw [p14]
        obtain ⟨o15, h23⟩ := h23
        refine e_iald C o15 dX11_of_43 ?_
        exact e_iret C hr hlk (Nat.le_refl _) (Nat.le_refl _) dX11_of_44 ⟨_, rfl, h23⟩
      · replace h23 := ite_t h23 q8
        refine e_aload_n C 0 dX11_of_24 rfl rfl ?_
        obtain ⟨o16, h23⟩ := h23
        refine e_getR C [11] 11 (fg_of fg_X11_47) o16 dX11_of_25 ?_
        obtain ⟨b17, p18, h23⟩ := h23
        try rw [p18]
        obtain ⟨o19, h23⟩ := h23
        refine e_getR C [0] 1 (fg_of fg_X11_85) o19 dX11_of_28 ?_
        refine e_iload_n C 1 dX11_of_31 rfl rfl ?_
        obtain ⟨b20, p21, h23⟩ := h23
        try rw [p21]
        obtain ⟨o22, h23⟩ := h23
        refine e_iald C o22 dX11_of_32 ?_
        refine e_goto (tgt := 44) C dX11_of_33 (by decide) ?_
        exact e_iret C hr hlk (Nat.le_refl _) (Nat.le_refl _) dX11_of_44 ⟨_, rfl, h23⟩
    · replace h23 := ite_t h23 (bi_t q7)
      refine e_iconst (v := -1) C dX11_of_17 (by decide) ?_
      exact e_iret C hr hlk (Nat.le_refl _) (Nat.le_refl _) dX11_of_18 ⟨_, rfl, h23⟩
theorem m_X11_of  {a0 : Nat} {x1 : Int32} {x2 : Int32} {M : Mem} {Q : Int32 → Mem → Prop} (h : f_X11_of a0 x1 x2 M Q) : Con yX11_of cX11_of 3 (some .int) 2 0 0 [.ref a0, .int x1, .int x2] M (rI Q) :=
  con_of2 (al := [(0, .ref a0), (1, .int x1), (2, .int x2)]) (by decide) (by exact Nat.le_of_ble_eq_true rfl) (by rfl) (fun p l e s m args below meth c g C hr hlk _ => w_X11_of C hr hlk h)
set_option maxHeartbeats 4000000 in
set_option maxRecDepth 100000 in
theorem w_X11_odds {p : Program} {l : Launch} {e : Env} {s : State} {m : MethodId} {args : Array Value} {below : List Frame} {meth : Method} {c : Code} {g : Geo} (C : Cx p s m args c cX11_odds RX11 4 g) (hr : meth.sig.returnType = (some .int)) (hlk : meth.locks = false) {a0 : Nat} {x1 : Int32} {x2 : Int32} {M : Mem} {Q : Int32 → Mem → Prop} (h : f_X11_odds a0 x1 x2 M Q) : E p l e (rmO 2 0 0) s m args below meth c g 4 (MQ below (QcM g (rI Q)) args s 0 0 (gA g)) 0 0 0 [(0, .ref a0), (1, .int x1), (2, .int x2)] [] M := by
  unfold f_X11_odds at h
  refine e_aload_n C 0 dX11_odds_0 rfl rfl ?_
  refine e_iload_n C 1 dX11_odds_1 rfl rfl ?_
  obtain ⟨o3, h⟩ := h
  refine e_callV (as := [.int x1]) C wb_X11_noSort wv_X11_88 (ci := 11) rfl rfl (isO_1 o3) (m_X11_noSort h) rfl ⟨Nat.le_of_ble_eq_true rfl, Nat.le_of_ble_eq_true rfl⟩ ⟨Nat.le_of_ble_eq_true rfl, Nat.le_of_ble_eq_true rfl⟩ (by first | exact Nat.le_of_ble_eq_true rfl | (simp only [List.map_cons, List.map_nil, va_cat, List.sum_cons, List.sum_nil]; exact Nat.le_of_ble_eq_true rfl)) dX11_odds_2 (kZ (fun w1 M2 h23 => ?_))
  refine e_if_eq (tgt := 10) C dX11_odds_5 (by decide) (fun q4 => ?_) (fun q4 => ?_)
  · replace h23 := ite_f h23 (bi_ne q4)
    refine e_iload_n C 2 dX11_odds_10 rfl rfl ?_
    refine e_iconst (v := 0) C dX11_odds_11 (by decide) ?_
    refine e_bipush (v := 10) C dX11_odds_12 (by decide) ?_
    refine e_callS (as := [.int x2, .int (0 : Int32), .int (10 : Int32)]) C wb_X11_outside wt_X11_77 (m_X11_outside h23) rfl ⟨Nat.le_of_ble_eq_true rfl, Nat.le_of_ble_eq_true rfl⟩ ⟨Nat.le_of_ble_eq_true rfl, Nat.le_of_ble_eq_true rfl⟩ (by first | exact Nat.le_of_ble_eq_true rfl | (simp only [List.map_cons, List.map_nil, va_cat, List.sum_cons, List.sum_nil]; exact Nat.le_of_ble_eq_true rfl)) dX11_odds_14 (kZ (fun w5 M6 h22 => ?_))
    refine e_if_eq (tgt := 23) C dX11_odds_17 (by decide) (fun q7 => ?_) (fun q7 => ?_)
    · replace h22 := ite_f h22 (bi_ne q7)
      refine e_aload_n C 0 dX11_odds_23 rfl rfl ?_
      obtain ⟨o8, h22⟩ := h22
      refine e_getR C [11] 11 (fg_of fg_X11_47) o8 dX11_odds_24 ?_
      obtain ⟨b9, p10, h22⟩ := h22
      try rw [p10]
      obtain ⟨o11, h22⟩ := h22
      refine e_getR C [0] 1 (fg_of fg_X11_85) o11 dX11_odds_27 ?_
      refine e_iload_n C 1 dX11_odds_30 rfl rfl ?_
      obtain ⟨b12, p13, h22⟩ := h22
      try rw [p13]
      obtain ⟨o14, h22⟩ := h22
      refine e_iald C o14 dX11_odds_31 ?_
      refine e_istore_n (al' := [(3, .int (mI M6 b12 (x1).toNatClampNeg)), (0, .ref a0), (1, .int x1), (2, .int x2)]) C dX11_odds_32 rfl (by decide) rfl ?_
      refine e_aload_n C 1 dX11_odds_33 rfl rfl ?_
      refine e_getR C [11] 11 (fg_of fg_X11_47) o8 dX11_odds_34 ?_
      rw [p10]
      refine e_getR C [0] 1 (fg_of fg_X11_85) o11 dX11_odds_37 ?_
      rw [p13]
      refine e_iload_n C 2 dX11_odds_40 rfl rfl ?_
      refine e_iload_n C 3 dX11_odds_41 rfl rfl ?_
      obtain ⟨o15, h22⟩ := h22
      refine e_iast C o15 dX11_odds_42 ?_
      refine nmE (fun M16 e17 => ?_)
      replace h22 := h22 M16 e17
      have o18 : isO M16 a0 [11] := by rw [e17]; exact o8
      have p19 : mP M16 a0 11 = some b9 := by rw [e17]; exact p10
      have o20 : isO M16 b9 [0] := by rw [e17]; exact o11
      have p21 : mP M16 b9 1 = some b12 := by rw [e17]; exact p13
      refine e_iload_n C 0 dX11_odds_43 rfl rfl ?_
      exact e_iret C hr hlk (Nat.le_refl _) (Nat.le_refl _) dX11_odds_44 ⟨_, rfl, h22⟩
    · replace h22 := ite_t h22 (bi_t q7)
      refine e_bipush (v := -2) C dX11_odds_20 (by decide) ?_
      exact e_iret C hr hlk (Nat.le_refl _) (Nat.le_refl _) dX11_odds_22 ⟨_, rfl, h22⟩
  · replace h23 := ite_t h23 (bi_t q4)
    refine e_iconst (v := -1) C dX11_odds_8 (by decide) ?_
    exact e_iret C hr hlk (Nat.le_refl _) (Nat.le_refl _) dX11_odds_9 ⟨_, rfl, h23⟩
theorem m_X11_odds  {a0 : Nat} {x1 : Int32} {x2 : Int32} {M : Mem} {Q : Int32 → Mem → Prop} (h : f_X11_odds a0 x1 x2 M Q) : Con yX11_odds cX11_odds 4 (some .int) 2 0 0 [.ref a0, .int x1, .int x2] M (rI Q) :=
  con_of2 (al := [(0, .ref a0), (1, .int x1), (2, .int x2)]) (by decide) (by exact Nat.le_of_ble_eq_true rfl) (by rfl) (fun p l e s m args below meth c g C hr hlk _ => w_X11_odds C hr hlk h)
set_option maxHeartbeats 4000000 in
set_option maxRecDepth 100000 in
theorem w_X11_feed_B30 {p : Program} {l : Launch} {e : Env} {s : State} {m : MethodId} {args : Array Value} {below : List Frame} {meth : Method} {c : Code} {g : Geo} (C : Cx p s m args c cX11_feed RX11 4 g) (hr : meth.sig.returnType = (some .int)) (hlk : meth.locks = false) {a0 : Nat} {x1 : Int32} {x2 : Int32} {v3 : Int32} {M : Mem} {K30 : Int32 × Mem → Prop} {Q : Int32 → Mem → Prop} (hK30 : ∀ z : Int32 × Mem, K30 z → E p l e (rmO 2 0 0) s m args below meth c g 4 (MQ below (QcM g (rI Q)) args s 0 0 (gA g)) 0 0 30 [(0, .ref a0), (1, .int x1), (2, .int x2), (3, .int z.1)] [] (z.2)) (h : f_X11_feed_B30 a0 x1 x2 v3 M K30 Q) : E p l e (rmO 2 0 0) s m args below meth c g 4 (MQ below (QcM g (rI Q)) args s 0 0 (gA g)) 0 0 30 [(0, .ref a0), (1, .int x1), (2, .int x2), (3, .int v3)] [] M := by
  unfold f_X11_feed_B30 at h
  refine e_iload_n C 3 dX11_feed_30 rfl rfl ?_
  refine e_if_lt (tgt := 66) C dX11_feed_31 (by decide) (fun q1 => ?_) (fun q1 => ?_)
  · replace h := ite_t h q1
    refine e_aload_n C 0 dX11_feed_66 rfl rfl ?_
    obtain ⟨o2, h⟩ := h
    refine e_getI C [11] 3 (fg_of fg_X11_92) o2 dX11_feed_67 ?_
    exact e_iret C hr hlk (Nat.le_refl _) (Nat.le_refl _) dX11_feed_70 ⟨_, rfl, h⟩
  · replace h := ite_f h q1
    refine e_aload_n C 0 dX11_feed_34 rfl rfl ?_
    obtain ⟨o3, h⟩ := h
    refine e_getR C [11] 2 (fg_of fg_X11_16) o3 dX11_feed_35 ?_
    refine e_aload_n C 0 dX11_feed_38 rfl rfl ?_
    refine e_getI C [11] 3 (fg_of fg_X11_92) o3 dX11_feed_39 ?_
    refine e_iload_n C 1 dX11_feed_42 rfl rfl ?_
    refine e_bipush (v := 8) C dX11_feed_43 (by decide) ?_
    refine e_iload_n C 3 dX11_feed_45 rfl rfl ?_
    refine e_imul C dX11_feed_46 ?_
    refine e_iushr C dX11_feed_47 ?_
    refine e_i2b C dX11_feed_48 ?_
    obtain ⟨b4, p5, h⟩ := h
    try rw [p5]
    obtain ⟨o6, h⟩ := h
    refine e_bast C o6 dX11_feed_49 ?_
    refine nmE (fun M7 e8 => ?_)
    replace h := h M7 e8
    have o9 : isO M7 a0 [11] := by rw [e8]; exact o3
    have p10 : mP M7 a0 2 = some b4 := by rw [e8]; exact p5
    refine e_aload_n C 0 dX11_feed_50 rfl rfl ?_
    refine e_dup C rfl dX11_feed_51 ?_
    refine e_getI C [11] 3 (fg_of fg_X11_92) o9 dX11_feed_52 ?_
    refine e_iconst (v := 1) C dX11_feed_55 (by decide) ?_
    refine e_iadd C dX11_feed_56 ?_
    refine e_putI C [11] 3 false (fun z => by cases z) fp_X11_92 o9 dX11_feed_57 ?_
    refine nmE (fun M11 e12 => ?_)
    replace h := h M11 e12
    have o13 : isO M11 a0 [11] := by rw [e12]; exact o9
    have p14 : mP M11 a0 2 = some b4 := by rw [e12]; exact p10
    refine e_iinc (v := (v3 + -1)) (al' := [(3, .int (v3 + -1)), (0, .ref a0), (1, .int x1), (2, .int x2)]) C 3 dX11_feed_60 rfl rfl (by decide) rfl ?_
    refine e_goto (tgt := 30) C dX11_feed_63 (by decide) ?_
    refine e_pick [1, 2, 3, 0] rfl ?_
    exact hK30 ((v3 + -1), M11) h
set_option maxHeartbeats 4000000 in
set_option maxRecDepth 100000 in
theorem w_X11_feed_L30 {p : Program} {l : Launch} {e : Env} {s : State} {m : MethodId} {args : Array Value} {below : List Frame} {meth : Method} {c : Code} {g : Geo} (C : Cx p s m args c cX11_feed RX11 4 g) (hr : meth.sig.returnType = (some .int)) (hlk : meth.locks = false) {a0 : Nat} {x1 : Int32} {x2 : Int32} {v3 : Int32} {M : Mem} {Q : Int32 → Mem → Prop} (h : f_X11_feed_L30 a0 x1 x2 v3 M Q) : E p l e (rmO 2 0 0) s m args below meth c g 4 (MQ below (QcM g (rI Q)) args s 0 0 (gA g)) 0 0 30 [(0, .ref a0), (1, .int x1), (2, .int x2), (3, .int v3)] [] M := by
  unfold f_X11_feed_L30 at h
  refine loop_E (W := fun z : Int32 × Mem => E p l e (rmO 2 0 0) s m args below meth c g 4 (MQ below (QcM g (rI Q)) args s 0 0 (gA g)) 0 0 30 [(0, .ref a0), (1, .int x1), (2, .int x2), (3, .int z.1)] [] (z.2)) h (fun K z hK h => ?_)
  exact w_X11_feed_B30 C hr hlk hK h
set_option maxHeartbeats 4000000 in
set_option maxRecDepth 100000 in
theorem w_X11_feed {p : Program} {l : Launch} {e : Env} {s : State} {m : MethodId} {args : Array Value} {below : List Frame} {meth : Method} {c : Code} {g : Geo} (C : Cx p s m args c cX11_feed RX11 4 g) (hr : meth.sig.returnType = (some .int)) (hlk : meth.locks = false) {a0 : Nat} {x1 : Int32} {x2 : Int32} {M : Mem} {Q : Int32 → Mem → Prop} (h : f_X11_feed a0 x1 x2 M Q) : E p l e (rmO 2 0 0) s m args below meth c g 4 (MQ below (QcM g (rI Q)) args s 0 0 (gA g)) 0 0 0 [(0, .ref a0), (1, .int x1), (2, .int x2)] [] M := by
  unfold f_X11_feed at h
  refine e_iload_n C 2 dX11_feed_0 rfl rfl ?_
  refine e_iconst (v := 0) C dX11_feed_1 (by decide) ?_
  refine e_iconst (v := 4) C dX11_feed_2 (by decide) ?_
  refine e_callS (as := [.int x2, .int (0 : Int32), .int (4 : Int32)]) C wb_X11_outside wt_X11_77 (m_X11_outside h) rfl ⟨Nat.le_of_ble_eq_true rfl, Nat.le_of_ble_eq_true rfl⟩ ⟨Nat.le_of_ble_eq_true rfl, Nat.le_of_ble_eq_true rfl⟩ (by first | exact Nat.le_of_ble_eq_true rfl | (simp only [List.map_cons, List.map_nil, va_cat, List.sum_cons, List.sum_nil]; exact Nat.le_of_ble_eq_true rfl)) dX11_feed_3 (kZ (fun w1 M2 h6 => ?_))
  refine e_if_eq (tgt := 12) C dX11_feed_6 (by decide) (fun q3 => ?_) (fun q3 => ?_)
  · replace h6 := ite_f h6 (bi_ne q3)
    refine e_aload_n C 0 dX11_feed_12 rfl rfl ?_
    obtain ⟨o4, h6⟩ := h6
    refine e_getI C [11] 3 (fg_of fg_X11_92) o4 dX11_feed_13 ?_
    refine e_iload_n C 2 dX11_feed_16 rfl rfl ?_
    refine e_iadd C dX11_feed_17 ?_
    refine e_bipush (v := 100) C dX11_feed_18 (by decide) ?_
    refine e_icmp_le (tgt := 26) C dX11_feed_20 (by decide) (fun q5 => ?_) (fun q5 => ?_)
    · replace h6 := ite_t h6 q5
      refine e_iload_n C 2 dX11_feed_26 rfl rfl ?_
      refine e_iconst (v := 1) C dX11_feed_27 (by decide) ?_
      refine e_isub C dX11_feed_28 ?_
      refine e_istore_n (al' := [(3, .int (x2 - (1 : Int32))), (0, .ref a0), (1, .int x1), (2, .int x2)]) C dX11_feed_29 rfl (by decide) rfl ?_
      refine e_pick [1, 2, 3, 0] rfl ?_
      exact w_X11_feed_L30 C hr hlk h6
    · replace h6 := ite_f h6 q5
      refine e_bipush (v := -4) C dX11_feed_23 (by decide) ?_
      exact e_iret C hr hlk (Nat.le_refl _) (Nat.le_refl _) dX11_feed_25 ⟨_, rfl, h6⟩
  · replace h6 := ite_t h6 (bi_t q3)
    refine e_bipush (v := -2) C dX11_feed_9 (by decide) ?_
    exact e_iret C hr hlk (Nat.le_refl _) (Nat.le_refl _) dX11_feed_11 ⟨_, rfl, h6⟩
theorem m_X11_feed  {a0 : Nat} {x1 : Int32} {x2 : Int32} {M : Mem} {Q : Int32 → Mem → Prop} (h : f_X11_feed a0 x1 x2 M Q) : Con yX11_feed cX11_feed 4 (some .int) 2 0 0 [.ref a0, .int x1, .int x2] M (rI Q) :=
  con_of2 (al := [(0, .ref a0), (1, .int x1), (2, .int x2)]) (by decide) (by exact Nat.le_of_ble_eq_true rfl) (by rfl) (fun p l e s m args below meth c g C hr hlk _ => w_X11_feed C hr hlk h)
set_option maxHeartbeats 4000000 in
set_option maxRecDepth 100000 in
theorem w_X11_window {p : Program} {l : Launch} {e : Env} {s : State} {m : MethodId} {args : Array Value} {below : List Frame} {meth : Method} {c : Code} {g : Geo} (C : Cx p s m args c cX11_window RX11 2 g) (hr : meth.sig.returnType = (some .int)) (hlk : meth.locks = false) {a0 : Nat} {M : Mem} {Q : Int32 → Mem → Prop} (h : f_X11_window a0 M Q) : E p l e (rmO 33 0 0) s m args below meth c g 2 (MQ below (QcM g (rI Q)) args s 0 0 (gA g)) 0 0 0 [(0, .ref a0)] [] M := by
  unfold f_X11_window at h
  refine e_aload_n C 0 dX11_window_0 rfl rfl ?_
  obtain ⟨o1, h⟩ := h
  refine e_getI C [11] 6 (fg_of fg_X11_95) o1 dX11_window_1 ?_
  refine e_bipush (v := 6) C dX11_window_4 (by decide) ?_
  refine e_icmp_lt (tgt := 12) C dX11_window_6 (by decide) (fun q2 => ?_) (fun q2 => ?_)
  · replace h := ite_t h q2
    refine e_aload_n C 0 dX11_window_12 rfl rfl ?_
    refine e_getR C [11] 4 (fg_of fg_X11_22) o1 dX11_window_13 ?_
    refine e_aload_n C 0 dX11_window_16 rfl rfl ?_
    refine e_getI C [11] 6 (fg_of fg_X11_95) o1 dX11_window_17 ?_
    obtain ⟨b3, p4, h⟩ := h
    try rw [p4]
    obtain ⟨o5, h⟩ := h
    refine e_aald C 5 (by decide) o5 dX11_window_20 ?_
    refine e_aload_n C 0 dX11_window_21 rfl rfl ?_
    refine e_getR C [11] 2 (fg_of fg_X11_16) o1 dX11_window_22 ?_
    refine e_aload_n C 0 dX11_window_25 rfl rfl ?_
    refine e_getI C [11] 3 (fg_of fg_X11_92) o1 dX11_window_26 ?_
    obtain ⟨b6, p7, h⟩ := h
    try rw [p7]
    obtain ⟨o10, h⟩ := h
    refine e_callV (as := [va_rf (mP M a0 2), .int (mI M a0 3)]) C wb_X10_parse wv_X11_98 (ci := 10) rfl rfl (isO_1 o10) (m_X10_parse h) rfl ⟨Nat.le_of_ble_eq_true rfl, Nat.le_of_ble_eq_true rfl⟩ ⟨Nat.le_of_ble_eq_true rfl, Nat.le_of_ble_eq_true rfl⟩ (by first | exact Nat.le_of_ble_eq_true rfl | (simp only [List.map_cons, List.map_nil, va_cat, List.sum_cons, List.sum_nil]; exact Nat.le_of_ble_eq_true rfl)) dX11_window_29 (kI (fun w8 M9 h29 => ?_))
    refine e_istore_n (al' := [(1, .int w8), (0, .ref a0)]) C dX11_window_32 rfl (by decide) rfl ?_
    refine e_aload_n C 1 dX11_window_33 rfl rfl ?_
    refine e_iconst (v := 0) C dX11_window_34 (by decide) ?_
    obtain ⟨o11, h29⟩ := h29
    refine e_putI C [11] 3 false (fun z => by cases z) fp_X11_92 o11 dX11_window_35 ?_
    refine nmE (fun M12 e13 => ?_)
    replace h29 := h29 M12 e13
    have o14 : isO M12 a0 [11] := by rw [e13]; exact o11
    refine e_iload_n C 0 dX11_window_38 rfl rfl ?_
    refine e_if_lt (tgt := 47) C dX11_window_39 (by decide) (fun q15 => ?_) (fun q15 => ?_)
    · replace h29 := ite_t h29 q15
      refine e_aload_n C 1 dX11_window_47 rfl rfl ?_
      refine e_getR C [11] 11 (fg_of fg_X11_47) o14 dX11_window_48 ?_
      refine e_aload_n C 1 dX11_window_51 rfl rfl ?_
      refine e_getI C [11] 6 (fg_of fg_X11_95) o14 dX11_window_52 ?_
      obtain ⟨b16, p17, h29⟩ := h29
      try rw [p17]
      obtain ⟨o18, h29⟩ := h29
      refine e_putI C [0] 0 false (fun z => by cases z) fp_X11_102 o18 dX11_window_55 ?_
      refine nmE (fun M19 e20 => ?_)
      replace h29 := h29 M19 e20
      have o21 : isO M19 a0 [11] := by rw [e20]; exact o14
      have p22 : mP M19 a0 11 = some b16 := by rw [e20]; exact p17
      have o23 : isO M19 b16 [0] := by rw [e20]; exact o18
      refine e_aload_n C 1 dX11_window_58 rfl rfl ?_
      refine e_dup C rfl dX11_window_59 ?_
      refine e_getI C [11] 6 (fg_of fg_X11_95) o21 dX11_window_60 ?_
      refine e_iconst (v := 1) C dX11_window_63 (by decide) ?_
      refine e_iadd C dX11_window_64 ?_
      refine e_putI C [11] 6 false (fun z => by cases z) fp_X11_95 o21 dX11_window_65 ?_
      refine nmE (fun M24 e25 => ?_)
      replace h29 := h29 M24 e25
      have o26 : isO M24 a0 [11] := by rw [e25]; exact o21
      have p27 : mP M24 a0 11 = some b16 := by rw [e25]; exact p22
      have o28 : isO M24 b16 [0] := by rw [e25]; exact o23
      refine e_aload_n C 1 dX11_window_68 rfl rfl ?_
      refine e_getR C [11] 11 (fg_of fg_X11_47) o26 dX11_window_69 ?_
      rw [p27]
      refine e_getI C [0] 0 (fg_of fg_X11_102) o28 dX11_window_72 ?_
      exact e_iret C hr hlk (Nat.le_refl _) (Nat.le_refl _) dX11_window_75 ⟨_, rfl, h29⟩
    · replace h29 := ite_f h29 q15
      refine e_bipush (v := -10) C dX11_window_42 (by decide) ?_
      refine e_iload_n C 0 dX11_window_44 rfl rfl ?_
      refine e_isub C dX11_window_45 ?_
      exact e_iret C hr hlk (Nat.le_refl _) (Nat.le_refl _) dX11_window_46 ⟨_, rfl, h29⟩
  · replace h := ite_f h q2
    refine e_bipush (v := -4) C dX11_window_9 (by decide) ?_
    exact e_iret C hr hlk (Nat.le_refl _) (Nat.le_refl _) dX11_window_11 ⟨_, rfl, h⟩
theorem m_X11_window  {a0 : Nat} {M : Mem} {Q : Int32 → Mem → Prop} (h : f_X11_window a0 M Q) : Con yX11_window cX11_window 2 (some .int) 33 0 0 [.ref a0] M (rI Q) :=
  con_of2 (al := [(0, .ref a0)]) (by decide) (by exact Nat.le_of_ble_eq_true rfl) (by rfl) (fun p l e s m args below meth c g C hr hlk _ => w_X11_window C hr hlk h)
set_option maxHeartbeats 4000000 in
set_option maxRecDepth 100000 in
theorem w_X11_held_J24 {p : Program} {l : Launch} {e : Env} {s : State} {m : MethodId} {args : Array Value} {below : List Frame} {meth : Method} {c : Code} {g : Geo} (C : Cx p s m args c cX11_held RX11 1 g) (hr : meth.sig.returnType = (some (.object "PennyQueue$Window"))) (hlk : meth.locks = false) {a0 : Nat} {M : Mem} {Q : Option Nat → Mem → Prop} (h : f_X11_held_J24 a0 M Q) : E p l e (rmO 1 0 0) s m args below meth c g 1 (MQ below (QcM g (rA Q)) args s 0 0 (gA g)) 0 0 24 [(0, .ref a0)] [] M := by
  unfold f_X11_held_J24 at h
  refine e_aload_n C 0 dX11_held_24 rfl rfl ?_
  obtain ⟨o1, h⟩ := h
  refine e_getR C [11] 5 (fg_of fg_X11_27) o1 dX11_held_25 ?_
  refine e_goto (tgt := 43) C dX11_held_28 (by decide) ?_
  exact e_aret (x := (mP M a0 5)) C hr hlk (Nat.le_refl _) (Nat.le_refl _) dX11_held_43 ⟨_, rfl, h⟩
set_option maxHeartbeats 4000000 in
set_option maxRecDepth 100000 in
theorem w_X11_held {p : Program} {l : Launch} {e : Env} {s : State} {m : MethodId} {args : Array Value} {below : List Frame} {meth : Method} {c : Code} {g : Geo} (C : Cx p s m args c cX11_held RX11 1 g) (hr : meth.sig.returnType = (some (.object "PennyQueue$Window"))) (hlk : meth.locks = false) {a0 : Nat} {M : Mem} {Q : Option Nat → Mem → Prop} (h : f_X11_held a0 M Q) : E p l e (rmO 1 0 0) s m args below meth c g 1 (MQ below (QcM g (rA Q)) args s 0 0 (gA g)) 0 0 0 [(0, .ref a0)] [] M := by
  unfold f_X11_held at h
  refine e_aload_n C 0 dX11_held_0 rfl rfl ?_
  obtain ⟨o1, h⟩ := h
  refine e_getR C [11] 11 (fg_of fg_X11_47) o1 dX11_held_1 ?_
  obtain ⟨b2, p3, h⟩ := h
  try rw [p3]
  obtain ⟨o4, h⟩ := h
  refine e_getI C [0] 0 (fg_of fg_X11_102) o4 dX11_held_4 ?_
  refine e_if_lt (tgt := 24) C dX11_held_7 (by decide) (fun q5 => ?_) (fun q5 => ?_)
  · replace h := ite_t h q5
    exact w_X11_held_J24 C hr hlk h
  · replace h := ite_f h q5
    refine e_aload_n C 0 dX11_held_10 rfl rfl ?_
    refine e_getR C [11] 11 (fg_of fg_X11_47) o1 dX11_held_11 ?_
    rw [p3]
    refine e_getI C [0] 0 (fg_of fg_X11_102) o4 dX11_held_14 ?_
    refine e_aload_n C 0 dX11_held_17 rfl rfl ?_
    refine e_getI C [11] 6 (fg_of fg_X11_95) o1 dX11_held_18 ?_
    refine e_icmp_lt (tgt := 31) C dX11_held_21 (by decide) (fun q6 => ?_) (fun q6 => ?_)
    · replace h := ite_t h q6
      refine e_aload_n C 0 dX11_held_31 rfl rfl ?_
      refine e_getR C [11] 4 (fg_of fg_X11_22) o1 dX11_held_32 ?_
      refine e_aload_n C 0 dX11_held_35 rfl rfl ?_
      refine e_getR C [11] 11 (fg_of fg_X11_47) o1 dX11_held_36 ?_
      rw [p3]
      refine e_getI C [0] 0 (fg_of fg_X11_102) o4 dX11_held_39 ?_
      obtain ⟨b7, p8, h⟩ := h
      try rw [p8]
      obtain ⟨o9, h⟩ := h
      refine e_aald C 5 (by decide) o9 dX11_held_42 ?_
      exact e_aret (x := (mP M b7 ((mI M b2 0)).toNatClampNeg)) C hr hlk (Nat.le_refl _) (Nat.le_refl _) dX11_held_43 ⟨_, rfl, h⟩
    · replace h := ite_f h q6
      exact w_X11_held_J24 C hr hlk h
theorem m_X11_held  {a0 : Nat} {M : Mem} {Q : Option Nat → Mem → Prop} (h : f_X11_held a0 M Q) : Con yX11_held cX11_held 1 (some (.object "PennyQueue$Window")) 1 0 0 [.ref a0] M (rA Q) :=
  con_of2 (al := [(0, .ref a0)]) (by decide) (by exact Nat.le_of_ble_eq_true rfl) (by rfl) (fun p l e s m args below meth c g C hr hlk _ => w_X11_held C hr hlk h)
set_option maxHeartbeats 4000000 in
set_option maxRecDepth 100000 in
theorem w_X11_told {p : Program} {l : Launch} {e : Env} {s : State} {m : MethodId} {args : Array Value} {below : List Frame} {meth : Method} {c : Code} {g : Geo} (C : Cx p s m args c cX11_told RX11 2 g) (hr : meth.sig.returnType = (some .int)) (hlk : meth.locks = false) {a0 : Nat} {x1 : Int32} {M : Mem} {Q : Int32 → Mem → Prop} (h : f_X11_told a0 x1 M Q) : E p l e (rmO 2 0 0) s m args below meth c g 2 (MQ below (QcM g (rI Q)) args s 0 0 (gA g)) 0 0 0 [(0, .ref a0), (1, .int x1)] [] M := by
  unfold f_X11_told at h
  refine e_iload_n C 1 dX11_told_0 rfl rfl ?_
  by_cases q1 : x1 = 0
  · replace h := ite_t h q1
    refine e_tin (tgt := 28) C dX11_told_1 (by rw [q1]; decide) (by rw [q1]; decide) (by rw [q1] <;> rfl) (by decide) ?_
    refine e_aload_n C 0 dX11_told_28 rfl rfl ?_
    obtain ⟨o4, h⟩ := h
    refine e_callV (as := []) C wb_X11_held wv_X11_105 (ci := 11) rfl rfl (isO_1 o4) (m_X11_held h) rfl ⟨Nat.le_of_ble_eq_true rfl, Nat.le_of_ble_eq_true rfl⟩ ⟨Nat.le_of_ble_eq_true rfl, Nat.le_of_ble_eq_true rfl⟩ (by first | exact Nat.le_of_ble_eq_true rfl | (simp only [List.map_cons, List.map_nil, va_cat, List.sum_cons, List.sum_nil]; exact Nat.le_of_ble_eq_true rfl)) dX11_told_29 (kA (fun w2 M3 h8 => ?_))
    obtain ⟨b5, rfl, h8⟩ := h8
    obtain ⟨o7, h8⟩ := h8
    refine e_getI C [10] 0 (fg_of fg_X11_109) o7 dX11_told_32 ?_
    exact e_iret C hr hlk (Nat.le_refl _) (Nat.le_refl _) dX11_told_35 ⟨_, rfl, h8⟩
  · replace h := ite_f h q1
    by_cases q9 : x1 = 1
    · replace h := ite_t h q9
      refine e_tin (tgt := 36) C dX11_told_1 (by rw [q9]; decide) (by rw [q9]; decide) (by rw [q9] <;> rfl) (by decide) ?_
      refine e_aload_n C 0 dX11_told_36 rfl rfl ?_
      obtain ⟨o12, h⟩ := h
      refine e_callV (as := []) C wb_X11_held wv_X11_105 (ci := 11) rfl rfl (isO_1 o12) (m_X11_held h) rfl ⟨Nat.le_of_ble_eq_true rfl, Nat.le_of_ble_eq_true rfl⟩ ⟨Nat.le_of_ble_eq_true rfl, Nat.le_of_ble_eq_true rfl⟩ (by first | exact Nat.le_of_ble_eq_true rfl | (simp only [List.map_cons, List.map_nil, va_cat, List.sum_cons, List.sum_nil]; exact Nat.le_of_ble_eq_true rfl)) dX11_told_37 (kA (fun w10 M11 h16 => ?_))
      obtain ⟨b13, rfl, h16⟩ := h16
      obtain ⟨o15, h16⟩ := h16
      refine e_getI C [10] 1 (fg_of fg_X11_112) o15 dX11_told_40 ?_
      exact e_iret C hr hlk (Nat.le_refl _) (Nat.le_refl _) dX11_told_43 ⟨_, rfl, h16⟩
    · replace h := ite_f h q9
      by_cases q17 : x1 = 2
      · replace h := ite_t h q17
        refine e_tin (tgt := 44) C dX11_told_1 (by rw [q17]; decide) (by rw [q17]; decide) (by rw [q17] <;> rfl) (by decide) ?_
        refine e_aload_n C 0 dX11_told_44 rfl rfl ?_
        obtain ⟨o20, h⟩ := h
        refine e_callV (as := []) C wb_X11_held wv_X11_105 (ci := 11) rfl rfl (isO_1 o20) (m_X11_held h) rfl ⟨Nat.le_of_ble_eq_true rfl, Nat.le_of_ble_eq_true rfl⟩ ⟨Nat.le_of_ble_eq_true rfl, Nat.le_of_ble_eq_true rfl⟩ (by first | exact Nat.le_of_ble_eq_true rfl | (simp only [List.map_cons, List.map_nil, va_cat, List.sum_cons, List.sum_nil]; exact Nat.le_of_ble_eq_true rfl)) dX11_told_45 (kA (fun w18 M19 h24 => ?_))
        obtain ⟨b21, rfl, h24⟩ := h24
        obtain ⟨o23, h24⟩ := h24
        refine e_getI C [10] 2 (fg_of fg_X11_115) o23 dX11_told_48 ?_
        exact e_iret C hr hlk (Nat.le_refl _) (Nat.le_refl _) dX11_told_51 ⟨_, rfl, h24⟩
      · replace h := ite_f h q17
        refine e_tout (tgt := 52) C dX11_told_1 (by have z0 := lv_neT (a := 0) q1 (by decide); have z1 := lv_neT (a := 1) q9 (by decide); have z2 := lv_neT (a := 2) q17 (by decide); omega) (by decide) ?_
        refine e_iconst (v := -1) C dX11_told_52 (by decide) ?_
        exact e_iret C hr hlk (Nat.le_refl _) (Nat.le_refl _) dX11_told_53 ⟨_, rfl, h⟩
theorem m_X11_told  {a0 : Nat} {x1 : Int32} {M : Mem} {Q : Int32 → Mem → Prop} (h : f_X11_told a0 x1 M Q) : Con yX11_told cX11_told 2 (some .int) 2 0 0 [.ref a0, .int x1] M (rI Q) :=
  con_of2 (al := [(0, .ref a0), (1, .int x1)]) (by decide) (by exact Nat.le_of_ble_eq_true rfl) (by rfl) (fun p l e s m args below meth c g C hr hlk _ => w_X11_told C hr hlk h)
set_option maxHeartbeats 4000000 in
set_option maxRecDepth 100000 in
theorem w_X11_come {p : Program} {l : Launch} {e : Env} {s : State} {m : MethodId} {args : Array Value} {below : List Frame} {meth : Method} {c : Code} {g : Geo} (C : Cx p s m args c cX11_come RX11 3 g) (hr : meth.sig.returnType = (some .int)) (hlk : meth.locks = false) {a0 : Nat} {x1 : Int32} {x2 : Int32} {M : Mem} {Q : Int32 → Mem → Prop} (h : f_X11_come a0 x1 x2 M Q) : E p l e (rmO 2 0 0) s m args below meth c g 3 (MQ below (QcM g (rI Q)) args s 0 0 (gA g)) 0 0 0 [(0, .ref a0), (1, .int x1), (2, .int x2)] [] M := by
  unfold f_X11_come at h
  refine e_aload_n C 0 dX11_come_0 rfl rfl ?_
  refine e_iload_n C 1 dX11_come_1 rfl rfl ?_
  obtain ⟨o3, h⟩ := h
  refine e_callV (as := [.int x1]) C wb_X11_noSort wv_X11_88 (ci := 11) rfl rfl (isO_1 o3) (m_X11_noSort h) rfl ⟨Nat.le_of_ble_eq_true rfl, Nat.le_of_ble_eq_true rfl⟩ ⟨Nat.le_of_ble_eq_true rfl, Nat.le_of_ble_eq_true rfl⟩ (by first | exact Nat.le_of_ble_eq_true rfl | (simp only [List.map_cons, List.map_nil, va_cat, List.sum_cons, List.sum_nil]; exact Nat.le_of_ble_eq_true rfl)) dX11_come_2 (kZ (fun w1 M2 h21 => ?_))
  refine e_if_ne (tgt := 18) C dX11_come_5 (by decide) (fun q4 => ?_) (fun q4 => ?_)
  · replace h21 := ite_t h21 (bi_t q4)
    refine e_iconst (v := -1) C dX11_come_18 (by decide) ?_
    exact e_iret C hr hlk (Nat.le_refl _) (Nat.le_refl _) dX11_come_19 ⟨_, rfl, h21⟩
  · replace h21 := ite_f h21 (bi_ne q4)
    refine e_iload_n C 2 dX11_come_8 rfl rfl ?_
    refine e_iconst (v := 0) C dX11_come_9 (by decide) ?_
    refine e_bipush (v := 59) C dX11_come_10 (by decide) ?_
    refine e_callS (as := [.int x2, .int (0 : Int32), .int (59 : Int32)]) C wb_X11_outside wt_X11_77 (m_X11_outside h21) rfl ⟨Nat.le_of_ble_eq_true rfl, Nat.le_of_ble_eq_true rfl⟩ ⟨Nat.le_of_ble_eq_true rfl, Nat.le_of_ble_eq_true rfl⟩ (by first | exact Nat.le_of_ble_eq_true rfl | (simp only [List.map_cons, List.map_nil, va_cat, List.sum_cons, List.sum_nil]; exact Nat.le_of_ble_eq_true rfl)) dX11_come_12 (kZ (fun w5 M6 h20 => ?_))
    refine e_if_eq (tgt := 20) C dX11_come_15 (by decide) (fun q7 => ?_) (fun q7 => ?_)
    · replace h20 := ite_f h20 (bi_ne q7)
      refine e_aload_n C 0 dX11_come_20 rfl rfl ?_
      obtain ⟨o8, h20⟩ := h20
      refine e_getR C [11] 11 (fg_of fg_X11_47) o8 dX11_come_21 ?_
      obtain ⟨b9, p10, h20⟩ := h20
      try rw [p10]
      obtain ⟨o11, h20⟩ := h20
      refine e_getI C [0] 4 (fg_of fg_X11_118) o11 dX11_come_24 ?_
      refine e_bipush (v := 12) C dX11_come_27 (by decide) ?_
      refine e_icmp_lt (tgt := 35) C dX11_come_29 (by decide) (fun q12 => ?_) (fun q12 => ?_)
      · replace h20 := ite_t h20 q12
        refine e_aload_n C 0 dX11_come_35 rfl rfl ?_
        refine e_getR C [11] 11 (fg_of fg_X11_47) o8 dX11_come_36 ?_
        rw [p10]
        refine e_iload_n C 1 dX11_come_39 rfl rfl ?_
        refine e_iload_n C 2 dX11_come_40 rfl rfl ?_
        refine e_callV (as := [.int x1, .int x2]) C wb_X0_tell wv_X11_121 (ci := 0) rfl rfl (isO_1 o11) (m_X0_tell h20) rfl ⟨Nat.le_of_ble_eq_true rfl, Nat.le_of_ble_eq_true rfl⟩ ⟨Nat.le_of_ble_eq_true rfl, Nat.le_of_ble_eq_true rfl⟩ (by first | exact Nat.le_of_ble_eq_true rfl | (simp only [List.map_cons, List.map_nil, va_cat, List.sum_cons, List.sum_nil]; exact Nat.le_of_ble_eq_true rfl)) dX11_come_41 (kV (fun M14 h19 => ?_))
        refine e_aload_n C 0 dX11_come_44 rfl rfl ?_
        obtain ⟨o15, h19⟩ := h19
        refine e_getR C [11] 11 (fg_of fg_X11_47) o15 dX11_come_45 ?_
        obtain ⟨b16, p17, h19⟩ := h19
        try rw [p17]
        obtain ⟨o18, h19⟩ := h19
        refine e_getI C [0] 4 (fg_of fg_X11_118) o18 dX11_come_48 ?_
        exact e_iret C hr hlk (Nat.le_refl _) (Nat.le_refl _) dX11_come_51 ⟨_, rfl, h19⟩
      · replace h20 := ite_f h20 q12
        refine e_bipush (v := -4) C dX11_come_32 (by decide) ?_
        exact e_iret C hr hlk (Nat.le_refl _) (Nat.le_refl _) dX11_come_34 ⟨_, rfl, h20⟩
    · replace h20 := ite_t h20 (bi_t q7)
      refine e_iconst (v := -1) C dX11_come_18 (by decide) ?_
      exact e_iret C hr hlk (Nat.le_refl _) (Nat.le_refl _) dX11_come_19 ⟨_, rfl, h20⟩
theorem m_X11_come  {a0 : Nat} {x1 : Int32} {x2 : Int32} {M : Mem} {Q : Int32 → Mem → Prop} (h : f_X11_come a0 x1 x2 M Q) : Con yX11_come cX11_come 3 (some .int) 2 0 0 [.ref a0, .int x1, .int x2] M (rI Q) :=
  con_of2 (al := [(0, .ref a0), (1, .int x1), (2, .int x2)]) (by decide) (by exact Nat.le_of_ble_eq_true rfl) (by rfl) (fun p l e s m args below meth c g C hr hlk _ => w_X11_come C hr hlk h)
set_option maxHeartbeats 4000000 in
set_option maxRecDepth 100000 in
theorem w_X11_clear {p : Program} {l : Launch} {e : Env} {s : State} {m : MethodId} {args : Array Value} {below : List Frame} {meth : Method} {c : Code} {g : Geo} (C : Cx p s m args c cX11_clear RX11 2 g) (hr : meth.sig.returnType = (some .int)) (hlk : meth.locks = false) {a0 : Nat} {M : Mem} {Q : Int32 → Mem → Prop} (h : f_X11_clear a0 M Q) : E p l e (rmO 1 0 0) s m args below meth c g 2 (MQ below (QcM g (rI Q)) args s 0 0 (gA g)) 0 0 0 [(0, .ref a0)] [] M := by
  unfold f_X11_clear at h
  refine e_aload_n C 0 dX11_clear_0 rfl rfl ?_
  obtain ⟨o1, h⟩ := h
  refine e_getR C [11] 11 (fg_of fg_X11_47) o1 dX11_clear_1 ?_
  obtain ⟨b2, p3, h⟩ := h
  try rw [p3]
  obtain ⟨o4, h⟩ := h
  refine e_getI C [0] 4 (fg_of fg_X11_118) o4 dX11_clear_4 ?_
  refine e_istore_n (al' := [(1, .int (mI M b2 4)), (0, .ref a0)]) C dX11_clear_7 rfl (by decide) rfl ?_
  refine e_aload_n C 1 dX11_clear_8 rfl rfl ?_
  refine e_getR C [11] 11 (fg_of fg_X11_47) o1 dX11_clear_9 ?_
  rw [p3]
  refine e_iconst (v := 0) C dX11_clear_12 (by decide) ?_
  refine e_putI C [0] 4 false (fun z => by cases z) fp_X11_118 o4 dX11_clear_13 ?_
  refine nmE (fun M5 e6 => ?_)
  replace h := h M5 e6
  have o7 : isO M5 a0 [11] := by rw [e6]; exact o1
  have p8 : mP M5 a0 11 = some b2 := by rw [e6]; exact p3
  have o9 : isO M5 b2 [0] := by rw [e6]; exact o4
  refine e_iload_n C 0 dX11_clear_16 rfl rfl ?_
  exact e_iret C hr hlk (Nat.le_refl _) (Nat.le_refl _) dX11_clear_17 ⟨_, rfl, h⟩
theorem m_X11_clear  {a0 : Nat} {M : Mem} {Q : Int32 → Mem → Prop} (h : f_X11_clear a0 M Q) : Con yX11_clear cX11_clear 2 (some .int) 1 0 0 [.ref a0] M (rI Q) :=
  con_of2 (al := [(0, .ref a0)]) (by decide) (by exact Nat.le_of_ble_eq_true rfl) (by rfl) (fun p l e s m args below meth c g C hr hlk _ => w_X11_clear C hr hlk h)
set_option maxHeartbeats 4000000 in
set_option maxRecDepth 100000 in
theorem w_X11_made {p : Program} {l : Launch} {e : Env} {s : State} {m : MethodId} {args : Array Value} {below : List Frame} {meth : Method} {c : Code} {g : Geo} (C : Cx p s m args c cX11_made RX11 3 g) (hr : meth.sig.returnType = (some (.object "PennyQueue$Order"))) (hlk : meth.locks = false) {x0 : Int32} {x1 : Int32} {x2 : Int32} {M : Mem} {Q : Option Nat → Mem → Prop} (h : f_X11_made x0 x1 x2 M Q) : E p l e (rmO 5 3 35) s m args below meth c g 3 (MQ below (QcM g (rA Q)) args s 3 35 (gA g)) 0 0 0 [(0, .int x0), (1, .int x1), (2, .int x2)] [] M := by
  unfold f_X11_made at h
  refine e_iload_n C 0 dX11_made_0 rfl rfl ?_
  by_cases q1 : x0 = 1
  · replace h := ite_t h q1
    refine e_tin (tgt := 40) C dX11_made_1 (by rw [q1]; decide) (by rw [q1]; decide) (by rw [q1] <;> rfl) (by decide) ?_
    refine e_new C 1 (K := RX1) (T := TX1) (N := 4) rfl rfl uwX1 tyX1_ok nt_1 wd_461 wd_462 wd_13 (Nat.le_of_ble_eq_true rfl) (Nat.le_of_ble_eq_true rfl) dX11_made_40 ?_
    refine nmE (fun M2 e3 => ?_)
    replace h := h M2 e3
    have o4 : isO M2 (mN M) [1] := ⟨1, List.mem_singleton.mpr rfl, by rw [e3]; exact u1_same _ _ _⟩
    refine e_dup C rfl dX11_made_43 ?_
    refine e_iload_n C 1 dX11_made_44 rfl rfl ?_
    refine e_iload_n C 2 dX11_made_45 rfl rfl ?_
    refine e_callI (as := [.int x1, .int x2]) C wb_X1_init rfl wi_X11_306 (m_X1_init h) rfl ⟨Nat.le_of_ble_eq_true rfl, Nat.le_of_ble_eq_true rfl⟩ ⟨Nat.le_of_ble_eq_true rfl, Nat.le_of_ble_eq_true rfl⟩ (by first | exact Nat.le_of_ble_eq_true rfl | (simp only [List.map_cons, List.map_nil, va_cat, List.sum_cons, List.sum_nil]; exact Nat.le_of_ble_eq_true rfl)) dX11_made_46 (kV (fun M6 h7 => ?_))
    exact e_aret (x := (some (mN M))) C hr hlk (Nat.le_of_ble_eq_true rfl) (Nat.le_of_ble_eq_true rfl) dX11_made_49 ⟨_, rfl, h7⟩
  · replace h := ite_f h q1
    by_cases q8 : x0 = 2
    · replace h := ite_t h q8
      refine e_tin (tgt := 50) C dX11_made_1 (by rw [q8]; decide) (by rw [q8]; decide) (by rw [q8] <;> rfl) (by decide) ?_
      refine e_new C 7 (K := RX7) (T := TX7) (N := 4) rfl rfl uwX7 tyX7_ok nt_7 wd_472 wd_473 wd_14 (Nat.le_of_ble_eq_true rfl) (Nat.le_of_ble_eq_true rfl) dX11_made_50 ?_
      refine nmE (fun M9 e10 => ?_)
      replace h := h M9 e10
      have o11 : isO M9 (mN M) [7] := ⟨7, List.mem_singleton.mpr rfl, by rw [e10]; exact u1_same _ _ _⟩
      refine e_dup C rfl dX11_made_53 ?_
      refine e_iload_n C 1 dX11_made_54 rfl rfl ?_
      refine e_iload_n C 2 dX11_made_55 rfl rfl ?_
      refine e_callI (as := [.int x1, .int x2]) C wb_X7_init rfl wi_X11_309 (m_X7_init h) rfl ⟨Nat.le_of_ble_eq_true rfl, Nat.le_of_ble_eq_true rfl⟩ ⟨Nat.le_of_ble_eq_true rfl, Nat.le_of_ble_eq_true rfl⟩ (by first | exact Nat.le_of_ble_eq_true rfl | (simp only [List.map_cons, List.map_nil, va_cat, List.sum_cons, List.sum_nil]; exact Nat.le_of_ble_eq_true rfl)) dX11_made_56 (kV (fun M13 h14 => ?_))
      exact e_aret (x := (some (mN M))) C hr hlk (Nat.le_of_ble_eq_true rfl) (Nat.le_of_ble_eq_true rfl) dX11_made_59 ⟨_, rfl, h14⟩
    · replace h := ite_f h q8
      by_cases q15 : x0 = 3
      · replace h := ite_t h q15
        refine e_tin (tgt := 60) C dX11_made_1 (by rw [q15]; decide) (by rw [q15]; decide) (by rw [q15] <;> rfl) (by decide) ?_
        refine e_new C 4 (K := RX4) (T := TX4) (N := 4) rfl rfl uwX4 tyX4_ok nt_4 wd_483 wd_484 wd_15 (Nat.le_of_ble_eq_true rfl) (Nat.le_of_ble_eq_true rfl) dX11_made_60 ?_
        refine nmE (fun M16 e17 => ?_)
        replace h := h M16 e17
        have o18 : isO M16 (mN M) [4] := ⟨4, List.mem_singleton.mpr rfl, by rw [e17]; exact u1_same _ _ _⟩
        refine e_dup C rfl dX11_made_63 ?_
        refine e_iload_n C 1 dX11_made_64 rfl rfl ?_
        refine e_iload_n C 2 dX11_made_65 rfl rfl ?_
        refine e_callI (as := [.int x1, .int x2]) C wb_X4_init rfl wi_X11_312 (m_X4_init h) rfl ⟨Nat.le_of_ble_eq_true rfl, Nat.le_of_ble_eq_true rfl⟩ ⟨Nat.le_of_ble_eq_true rfl, Nat.le_of_ble_eq_true rfl⟩ (by first | exact Nat.le_of_ble_eq_true rfl | (simp only [List.map_cons, List.map_nil, va_cat, List.sum_cons, List.sum_nil]; exact Nat.le_of_ble_eq_true rfl)) dX11_made_66 (kV (fun M20 h21 => ?_))
        exact e_aret (x := (some (mN M))) C hr hlk (Nat.le_of_ble_eq_true rfl) (Nat.le_of_ble_eq_true rfl) dX11_made_69 ⟨_, rfl, h21⟩
      · replace h := ite_f h q15
        by_cases q22 : x0 = 4
        · replace h := ite_t h q22
          refine e_tin (tgt := 70) C dX11_made_1 (by rw [q22]; decide) (by rw [q22]; decide) (by rw [q22] <;> rfl) (by decide) ?_
          refine e_new C 6 (K := RX6) (T := TX6) (N := 4) rfl rfl uwX6 tyX6_ok nt_6 wd_494 wd_495 wd_16 (Nat.le_of_ble_eq_true rfl) (Nat.le_of_ble_eq_true rfl) dX11_made_70 ?_
          refine nmE (fun M23 e24 => ?_)
          replace h := h M23 e24
          have o25 : isO M23 (mN M) [6] := ⟨6, List.mem_singleton.mpr rfl, by rw [e24]; exact u1_same _ _ _⟩
          refine e_dup C rfl dX11_made_73 ?_
          refine e_iload_n C 1 dX11_made_74 rfl rfl ?_
          refine e_iload_n C 2 dX11_made_75 rfl rfl ?_
          refine e_callI (as := [.int x1, .int x2]) C wb_X6_init rfl wi_X11_315 (m_X6_init h) rfl ⟨Nat.le_of_ble_eq_true rfl, Nat.le_of_ble_eq_true rfl⟩ ⟨Nat.le_of_ble_eq_true rfl, Nat.le_of_ble_eq_true rfl⟩ (by first | exact Nat.le_of_ble_eq_true rfl | (simp only [List.map_cons, List.map_nil, va_cat, List.sum_cons, List.sum_nil]; exact Nat.le_of_ble_eq_true rfl)) dX11_made_76 (kV (fun M27 h28 => ?_))
          exact e_aret (x := (some (mN M))) C hr hlk (Nat.le_of_ble_eq_true rfl) (Nat.le_of_ble_eq_true rfl) dX11_made_79 ⟨_, rfl, h28⟩
        · replace h := ite_f h q22
          by_cases q29 : x0 = 5
          · replace h := ite_t h q29
            refine e_tin (tgt := 80) C dX11_made_1 (by rw [q29]; decide) (by rw [q29]; decide) (by rw [q29] <;> rfl) (by decide) ?_
            refine e_new C 2 (K := RX2) (T := TX2) (N := 4) rfl rfl uwX2 tyX2_ok nt_2 wd_505 wd_506 wd_17 (Nat.le_of_ble_eq_true rfl) (Nat.le_of_ble_eq_true rfl) dX11_made_80 ?_
            refine nmE (fun M30 e31 => ?_)
            replace h := h M30 e31
            have o32 : isO M30 (mN M) [2] := ⟨2, List.mem_singleton.mpr rfl, by rw [e31]; exact u1_same _ _ _⟩
            refine e_dup C rfl dX11_made_83 ?_
            refine e_iload_n C 1 dX11_made_84 rfl rfl ?_
            refine e_iload_n C 2 dX11_made_85 rfl rfl ?_
            refine e_callI (as := [.int x1, .int x2]) C wb_X2_init rfl wi_X11_318 (m_X2_init h) rfl ⟨Nat.le_of_ble_eq_true rfl, Nat.le_of_ble_eq_true rfl⟩ ⟨Nat.le_of_ble_eq_true rfl, Nat.le_of_ble_eq_true rfl⟩ (by first | exact Nat.le_of_ble_eq_true rfl | (simp only [List.map_cons, List.map_nil, va_cat, List.sum_cons, List.sum_nil]; exact Nat.le_of_ble_eq_true rfl)) dX11_made_86 (kV (fun M34 h35 => ?_))
            exact e_aret (x := (some (mN M))) C hr hlk (Nat.le_of_ble_eq_true rfl) (Nat.le_of_ble_eq_true rfl) dX11_made_89 ⟨_, rfl, h35⟩
          · replace h := ite_f h q29
            by_cases q36 : x0 = 6
            · replace h := ite_t h q36
              refine e_tin (tgt := 90) C dX11_made_1 (by rw [q36]; decide) (by rw [q36]; decide) (by rw [q36] <;> rfl) (by decide) ?_
              refine e_new C 9 (K := RX9) (T := TX9) (N := 5) rfl rfl uwX9 tyX9_ok nt_9 wd_516 wd_517 wd_18 (Nat.le_of_ble_eq_true rfl) (Nat.le_of_ble_eq_true rfl) dX11_made_90 ?_
              refine nmE (fun M37 e38 => ?_)
              replace h := h M37 e38
              have o39 : isO M37 (mN M) [9] := ⟨9, List.mem_singleton.mpr rfl, by rw [e38]; exact u1_same _ _ _⟩
              refine e_dup C rfl dX11_made_93 ?_
              refine e_iload_n C 1 dX11_made_94 rfl rfl ?_
              refine e_iload_n C 2 dX11_made_95 rfl rfl ?_
              refine e_callI (as := [.int x1, .int x2]) C wb_X9_init rfl wi_X11_319 (m_X9_init h) rfl ⟨Nat.le_of_ble_eq_true rfl, Nat.le_of_ble_eq_true rfl⟩ ⟨Nat.le_of_ble_eq_true rfl, Nat.le_of_ble_eq_true rfl⟩ (by first | exact Nat.le_of_ble_eq_true rfl | (simp only [List.map_cons, List.map_nil, va_cat, List.sum_cons, List.sum_nil]; exact Nat.le_of_ble_eq_true rfl)) dX11_made_96 (kV (fun M41 h42 => ?_))
              exact e_aret (x := (some (mN M))) C hr hlk (Nat.le_of_ble_eq_true rfl) (Nat.le_of_ble_eq_true rfl) dX11_made_99 ⟨_, rfl, h42⟩
            · replace h := ite_f h q36
              refine e_tout (tgt := 100) C dX11_made_1 (by have z1 := lv_neT (a := 1) q1 (by decide); have z2 := lv_neT (a := 2) q8 (by decide); have z3 := lv_neT (a := 3) q15 (by decide); have z4 := lv_neT (a := 4) q22 (by decide); have z5 := lv_neT (a := 5) q29 (by decide); have z6 := lv_neT (a := 6) q36 (by decide); omega) (by decide) ?_
              refine e_new C 5 (K := RX5) (T := TX5) (N := 4) rfl rfl uwX5 tyX5_ok nt_5 wd_78 wd_80 wd_3 (Nat.le_of_ble_eq_true rfl) (Nat.le_of_ble_eq_true rfl) dX11_made_100 ?_
              refine nmE (fun M43 e44 => ?_)
              replace h := h M43 e44
              have o45 : isO M43 (mN M) [5] := ⟨5, List.mem_singleton.mpr rfl, by rw [e44]; exact u1_same _ _ _⟩
              refine e_dup C rfl dX11_made_103 ?_
              refine e_iload_n C 1 dX11_made_104 rfl rfl ?_
              refine e_iload_n C 2 dX11_made_105 rfl rfl ?_
              refine e_callI (as := [.int x1, .int x2]) C wb_X5_init rfl wi_X11_37 (m_X5_init h) rfl ⟨Nat.le_of_ble_eq_true rfl, Nat.le_of_ble_eq_true rfl⟩ ⟨Nat.le_of_ble_eq_true rfl, Nat.le_of_ble_eq_true rfl⟩ (by first | exact Nat.le_of_ble_eq_true rfl | (simp only [List.map_cons, List.map_nil, va_cat, List.sum_cons, List.sum_nil]; exact Nat.le_of_ble_eq_true rfl)) dX11_made_106 (kV (fun M47 h48 => ?_))
              exact e_aret (x := (some (mN M))) C hr hlk (Nat.le_of_ble_eq_true rfl) (Nat.le_of_ble_eq_true rfl) dX11_made_109 ⟨_, rfl, h48⟩
theorem m_X11_made  {x0 : Int32} {x1 : Int32} {x2 : Int32} {M : Mem} {Q : Option Nat → Mem → Prop} (h : f_X11_made x0 x1 x2 M Q) : Con yX11_made cX11_made 3 (some (.object "PennyQueue$Order")) 5 3 35 [.int x0, .int x1, .int x2] M (rA Q) :=
  con_of2 (al := [(0, .int x0), (1, .int x1), (2, .int x2)]) (by decide) (by exact Nat.le_of_ble_eq_true rfl) (by rfl) (fun p l e s m args below meth c g C hr hlk _ => w_X11_made C hr hlk h)
set_option maxHeartbeats 4000000 in
set_option maxRecDepth 100000 in
theorem w_X11_order {p : Program} {l : Launch} {e : Env} {s : State} {m : MethodId} {args : Array Value} {below : List Frame} {meth : Method} {c : Code} {g : Geo} (C : Cx p s m args c cX11_order RX11 3 g) (hr : meth.sig.returnType = (some .int)) (hlk : meth.locks = false) {a0 : Nat} {x1 : Int32} {x2 : Int32} {M : Mem} {Q : Int32 → Mem → Prop} (h : f_X11_order a0 x1 x2 M Q) : E p l e (rmO 6 3 35) s m args below meth c g 3 (MQ below (QcM g (rI Q)) args s 3 35 (gA g)) 0 0 0 [(0, .ref a0), (1, .int x1), (2, .int x2)] [] M := by
  unfold f_X11_order at h
  refine e_iload_n C 1 dX11_order_0 rfl rfl ?_
  refine e_iconst (v := 0) C dX11_order_1 (by decide) ?_
  refine e_bipush (v := 6) C dX11_order_2 (by decide) ?_
  refine e_callS (as := [.int x1, .int (0 : Int32), .int (6 : Int32)]) C wb_X11_outside wt_X11_77 (m_X11_outside h) rfl ⟨Nat.le_of_ble_eq_true rfl, Nat.le_of_ble_eq_true rfl⟩ ⟨Nat.le_of_ble_eq_true rfl, Nat.le_of_ble_eq_true rfl⟩ (by first | exact Nat.le_of_ble_eq_true rfl | (simp only [List.map_cons, List.map_nil, va_cat, List.sum_cons, List.sum_nil]; exact Nat.le_of_ble_eq_true rfl)) dX11_order_4 (kZ (fun w1 M2 h27 => ?_))
  refine e_if_eq (tgt := 12) C dX11_order_7 (by decide) (fun q3 => ?_) (fun q3 => ?_)
  · replace h27 := ite_f h27 (bi_ne q3)
    refine e_iload_n C 2 dX11_order_12 rfl rfl ?_
    refine e_iconst (v := 1) C dX11_order_13 (by decide) ?_
    refine e_bipush (v := 9) C dX11_order_14 (by decide) ?_
    refine e_callS (as := [.int x2, .int (1 : Int32), .int (9 : Int32)]) C wb_X11_outside wt_X11_77 (m_X11_outside h27) rfl ⟨Nat.le_of_ble_eq_true rfl, Nat.le_of_ble_eq_true rfl⟩ ⟨Nat.le_of_ble_eq_true rfl, Nat.le_of_ble_eq_true rfl⟩ (by first | exact Nat.le_of_ble_eq_true rfl | (simp only [List.map_cons, List.map_nil, va_cat, List.sum_cons, List.sum_nil]; exact Nat.le_of_ble_eq_true rfl)) dX11_order_16 (kZ (fun w4 M5 h26 => ?_))
    refine e_if_eq (tgt := 25) C dX11_order_19 (by decide) (fun q6 => ?_) (fun q6 => ?_)
    · replace h26 := ite_f h26 (bi_ne q6)
      refine e_aload_n C 0 dX11_order_25 rfl rfl ?_
      obtain ⟨o7, h26⟩ := h26
      refine e_getI C [11] 9 (fg_of fg_X11_124) o7 dX11_order_26 ?_
      refine e_bipush (v := 10) C dX11_order_29 (by decide) ?_
      refine e_icmp_lt (tgt := 37) C dX11_order_31 (by decide) (fun q8 => ?_) (fun q8 => ?_)
      · replace h26 := ite_t h26 q8
        refine e_aload_n C 0 dX11_order_37 rfl rfl ?_
        refine e_getR C [11] 7 (fg_of fg_X11_33) o7 dX11_order_38 ?_
        refine e_aload_n C 0 dX11_order_41 rfl rfl ?_
        refine e_getI C [11] 9 (fg_of fg_X11_124) o7 dX11_order_42 ?_
        refine e_iload_n C 1 dX11_order_45 rfl rfl ?_
        refine e_aload_n C 0 dX11_order_46 rfl rfl ?_
        refine e_getI C [11] 9 (fg_of fg_X11_124) o7 dX11_order_47 ?_
        refine e_iload_n C 2 dX11_order_50 rfl rfl ?_
        refine e_callS (as := [.int x1, .int (mI M5 a0 9), .int x2]) C wb_X11_made wt_X11_127 (m_X11_made h26) rfl ⟨Nat.le_of_ble_eq_true rfl, Nat.le_of_ble_eq_true rfl⟩ ⟨Nat.le_of_ble_eq_true rfl, Nat.le_of_ble_eq_true rfl⟩ (by first | exact Nat.le_of_ble_eq_true rfl | (simp only [List.map_cons, List.map_nil, va_cat, List.sum_cons, List.sum_nil]; exact Nat.le_of_ble_eq_true rfl)) dX11_order_51 (kA (fun w9 M10 h25 => ?_))
        obtain ⟨b11, p12, h25⟩ := h25
        try rw [p12]
        obtain ⟨b13, rfl, h25⟩ := h25
        obtain ⟨o15, h25⟩ := h25
        obtain ⟨o16, h25⟩ := h25
        refine e_aast C 6 (by decide) rfl o15 [5, 1, 2, 4, 6, 7, 9] o16 ac_6 dX11_order_54 ?_
        refine nmE (fun M17 e18 => ?_)
        replace h25 := h25 M17 e18
        have o19 : isO M17 b13 [5, 1, 2, 4, 6, 7, 9] := by rw [e18]; exact o16
        refine e_aload_n C 0 dX11_order_55 rfl rfl ?_
        refine e_dup C rfl dX11_order_56 ?_
        obtain ⟨o20, h25⟩ := h25
        refine e_getI C [11] 9 (fg_of fg_X11_124) o20 dX11_order_57 ?_
        refine e_iconst (v := 1) C dX11_order_60 (by decide) ?_
        refine e_iadd C dX11_order_61 ?_
        refine e_putI C [11] 9 false (fun z => by cases z) fp_X11_124 o20 dX11_order_62 ?_
        refine nmE (fun M21 e22 => ?_)
        replace h25 := h25 M21 e22
        have o23 : isO M21 b13 [5, 1, 2, 4, 6, 7, 9] := by rw [e22]; exact o19
        have o24 : isO M21 a0 [11] := by rw [e22]; exact o20
        refine e_aload_n C 0 dX11_order_65 rfl rfl ?_
        refine e_getI C [11] 9 (fg_of fg_X11_124) o24 dX11_order_66 ?_
        refine e_iconst (v := 1) C dX11_order_69 (by decide) ?_
        refine e_isub C dX11_order_70 ?_
        exact e_iret C hr hlk (Nat.le_of_ble_eq_true rfl) (Nat.le_of_ble_eq_true rfl) dX11_order_71 ⟨_, rfl, h25⟩
      · replace h26 := ite_f h26 q8
        refine e_bipush (v := -4) C dX11_order_34 (by decide) ?_
        exact e_iret C hr hlk (Nat.le_of_ble_eq_true rfl) (Nat.le_of_ble_eq_true rfl) dX11_order_36 ⟨_, rfl, h26⟩
    · replace h26 := ite_t h26 (bi_t q6)
      refine e_bipush (v := -2) C dX11_order_22 (by decide) ?_
      exact e_iret C hr hlk (Nat.le_of_ble_eq_true rfl) (Nat.le_of_ble_eq_true rfl) dX11_order_24 ⟨_, rfl, h26⟩
  · replace h27 := ite_t h27 (bi_t q3)
    refine e_iconst (v := -1) C dX11_order_10 (by decide) ?_
    exact e_iret C hr hlk (Nat.le_of_ble_eq_true rfl) (Nat.le_of_ble_eq_true rfl) dX11_order_11 ⟨_, rfl, h27⟩
theorem m_X11_order  {a0 : Nat} {x1 : Int32} {x2 : Int32} {M : Mem} {Q : Int32 → Mem → Prop} (h : f_X11_order a0 x1 x2 M Q) : Con yX11_order cX11_order 3 (some .int) 6 3 35 [.ref a0, .int x1, .int x2] M (rI Q) :=
  con_of2 (al := [(0, .ref a0), (1, .int x1), (2, .int x2)]) (by decide) (by exact Nat.le_of_ble_eq_true rfl) (by rfl) (fun p l e s m args below meth c g C hr hlk _ => w_X11_order C hr hlk h)
set_option maxHeartbeats 4000000 in
set_option maxRecDepth 100000 in
theorem w_X11_orderAt_J12 {p : Program} {l : Launch} {e : Env} {s : State} {m : MethodId} {args : Array Value} {below : List Frame} {meth : Method} {c : Code} {g : Geo} (C : Cx p s m args c cX11_orderAt RX11 2 g) (hr : meth.sig.returnType = (some (.object "PennyQueue$Order"))) (hlk : meth.locks = false) {a0 : Nat} {x1 : Int32} {M : Mem} {Q : Option Nat → Mem → Prop} (h : f_X11_orderAt_J12 a0 x1 M Q) : E p l e (rmO 1 0 0) s m args below meth c g 2 (MQ below (QcM g (rA Q)) args s 0 0 (gA g)) 0 0 12 [(0, .ref a0), (1, .int x1)] [] M := by
  unfold f_X11_orderAt_J12 at h
  refine e_null C dX11_orderAt_12 ?_
  refine e_goto (tgt := 22) C dX11_orderAt_13 (by decide) ?_
  exact e_aret (x := none) C hr hlk (Nat.le_refl _) (Nat.le_refl _) dX11_orderAt_22 ⟨_, rfl, h⟩
set_option maxHeartbeats 4000000 in
set_option maxRecDepth 100000 in
theorem w_X11_orderAt {p : Program} {l : Launch} {e : Env} {s : State} {m : MethodId} {args : Array Value} {below : List Frame} {meth : Method} {c : Code} {g : Geo} (C : Cx p s m args c cX11_orderAt RX11 2 g) (hr : meth.sig.returnType = (some (.object "PennyQueue$Order"))) (hlk : meth.locks = false) {a0 : Nat} {x1 : Int32} {M : Mem} {Q : Option Nat → Mem → Prop} (h : f_X11_orderAt a0 x1 M Q) : E p l e (rmO 1 0 0) s m args below meth c g 2 (MQ below (QcM g (rA Q)) args s 0 0 (gA g)) 0 0 0 [(0, .ref a0), (1, .int x1)] [] M := by
  unfold f_X11_orderAt at h
  refine e_iload_n C 1 dX11_orderAt_0 rfl rfl ?_
  refine e_if_lt (tgt := 12) C dX11_orderAt_1 (by decide) (fun q1 => ?_) (fun q1 => ?_)
  · replace h := ite_t h q1
    exact w_X11_orderAt_J12 C hr hlk h
  · replace h := ite_f h q1
    refine e_iload_n C 1 dX11_orderAt_4 rfl rfl ?_
    refine e_aload_n C 0 dX11_orderAt_5 rfl rfl ?_
    obtain ⟨o2, h⟩ := h
    refine e_getI C [11] 9 (fg_of fg_X11_124) o2 dX11_orderAt_6 ?_
    refine e_icmp_lt (tgt := 16) C dX11_orderAt_9 (by decide) (fun q3 => ?_) (fun q3 => ?_)
    · replace h := ite_t h q3
      refine e_aload_n C 0 dX11_orderAt_16 rfl rfl ?_
      refine e_getR C [11] 7 (fg_of fg_X11_33) o2 dX11_orderAt_17 ?_
      refine e_iload_n C 1 dX11_orderAt_20 rfl rfl ?_
      obtain ⟨b4, p5, h⟩ := h
      try rw [p5]
      obtain ⟨o6, h⟩ := h
      refine e_aald C 6 (by decide) o6 dX11_orderAt_21 ?_
      exact e_aret (x := (mP M b4 (x1).toNatClampNeg)) C hr hlk (Nat.le_refl _) (Nat.le_refl _) dX11_orderAt_22 ⟨_, rfl, h⟩
    · replace h := ite_f h q3
      exact w_X11_orderAt_J12 C hr hlk h
theorem m_X11_orderAt  {a0 : Nat} {x1 : Int32} {M : Mem} {Q : Option Nat → Mem → Prop} (h : f_X11_orderAt a0 x1 M Q) : Con yX11_orderAt cX11_orderAt 2 (some (.object "PennyQueue$Order")) 1 0 0 [.ref a0, .int x1] M (rA Q) :=
  con_of2 (al := [(0, .ref a0), (1, .int x1)]) (by decide) (by exact Nat.le_of_ble_eq_true rfl) (by rfl) (fun p l e s m args below meth c g C hr hlk _ => w_X11_orderAt C hr hlk h)
set_option maxHeartbeats 4000000 in
set_option maxRecDepth 100000 in
theorem w_X11_row {p : Program} {l : Launch} {e : Env} {s : State} {m : MethodId} {args : Array Value} {below : List Frame} {meth : Method} {c : Code} {g : Geo} (C : Cx p s m args c cX11_row RX11 7 g) (hr : meth.sig.returnType = (some .int)) (hlk : meth.locks = false) {a0 : Nat} {x1 : Int32} {x2 : Int32} {x3 : Int32} {M : Mem} {Q : Int32 → Mem → Prop} (h : f_X11_row a0 x1 x2 x3 M Q) : E p l e (rmO 2 0 0) s m args below meth c g 7 (MQ below (QcM g (rI Q)) args s 0 0 (gA g)) 0 0 0 [(0, .ref a0), (1, .int x1), (2, .int x2), (3, .int x3)] [] M := by
  unfold f_X11_row at h
  refine e_aload_n C 0 dX11_row_0 rfl rfl ?_
  refine e_iload_n C 1 dX11_row_1 rfl rfl ?_
  obtain ⟨o3, h⟩ := h
  refine e_callV (as := [.int x1]) C wb_X11_orderAt wv_X11_131 (ci := 11) rfl rfl (isO_1 o3) (m_X11_orderAt h) rfl ⟨Nat.le_of_ble_eq_true rfl, Nat.le_of_ble_eq_true rfl⟩ ⟨Nat.le_of_ble_eq_true rfl, Nat.le_of_ble_eq_true rfl⟩ (by first | exact Nat.le_of_ble_eq_true rfl | (simp only [List.map_cons, List.map_nil, va_cat, List.sum_cons, List.sum_nil]; exact Nat.le_of_ble_eq_true rfl)) dX11_row_2 (kA (fun w1 M2 h26 => ?_))
  refine e_rstore (al' := [(4, va_rf w1), (0, .ref a0), (1, .int x1), (2, .int x2), (3, .int x3)]) C dX11_row_5 (by decide) rfl ?_
  refine e_rload C 0 dX11_row_7 rfl ?_
  refine e_ifnull (tgt := 22) C dX11_row_9 (by decide) (fun q4 => ?_) (fun b5 q4 => ?_)
  · replace h26 := h26.1 q4
    subst q4
    refine e_iconst (v := -1) C dX11_row_22 (by decide) ?_
    exact e_iret C hr hlk (Nat.le_refl _) (Nat.le_refl _) dX11_row_23 ⟨_, rfl, h26⟩
  · replace h26 := h26.2 b5 q4
    subst q4
    refine e_iload_n C 3 dX11_row_12 rfl rfl ?_
    refine e_iconst (v := 0) C dX11_row_13 (by decide) ?_
    refine e_bipush (v := 9) C dX11_row_14 (by decide) ?_
    refine e_callS (as := [.int x2, .int (0 : Int32), .int (9 : Int32)]) C wb_X11_outside wt_X11_77 (m_X11_outside h26) rfl ⟨Nat.le_of_ble_eq_true rfl, Nat.le_of_ble_eq_true rfl⟩ ⟨Nat.le_of_ble_eq_true rfl, Nat.le_of_ble_eq_true rfl⟩ (by first | exact Nat.le_of_ble_eq_true rfl | (simp only [List.map_cons, List.map_nil, va_cat, List.sum_cons, List.sum_nil]; exact Nat.le_of_ble_eq_true rfl)) dX11_row_16 (kZ (fun w6 M7 h25 => ?_))
    refine e_if_eq (tgt := 24) C dX11_row_19 (by decide) (fun q8 => ?_) (fun q8 => ?_)
    · replace h25 := ite_f h25 (bi_ne q8)
      refine e_iload_n C 4 dX11_row_24 rfl rfl ?_
      refine e_iconst (v := -1) C dX11_row_25 (by decide) ?_
      refine e_iconst (v := 2) C dX11_row_26 (by decide) ?_
      refine e_callS (as := [.int x3, .int (-1 : Int32), .int (2 : Int32)]) C wb_X11_outside wt_X11_77 (m_X11_outside h25) rfl ⟨Nat.le_of_ble_eq_true rfl, Nat.le_of_ble_eq_true rfl⟩ ⟨Nat.le_of_ble_eq_true rfl, Nat.le_of_ble_eq_true rfl⟩ (by first | exact Nat.le_of_ble_eq_true rfl | (simp only [List.map_cons, List.map_nil, va_cat, List.sum_cons, List.sum_nil]; exact Nat.le_of_ble_eq_true rfl)) dX11_row_27 (kZ (fun w9 M10 h24 => ?_))
      refine e_if_eq (tgt := 36) C dX11_row_30 (by decide) (fun q11 => ?_) (fun q11 => ?_)
      · replace h24 := ite_f h24 (bi_ne q11)
        refine e_aload C 0 dX11_row_36 rfl ?_
        obtain ⟨o12, h24⟩ := h24
        refine e_inst C [5, 1, 2, 4, 6, 7, 9] [9] wd_516 o12 ic_9 dX11_row_38 (fun q13 => ?_) (fun q13 => ?_)
        · replace h24 := h24.1 q13
          refine e_if_eq (tgt := 81) C dX11_row_41 (by decide) (fun q => absurd q (by decide)) (fun _ => ?_)
          refine e_aload C 0 dX11_row_44 rfl ?_
          refine e_cast C 9 (K := "PennyQueue$Told") wd_516 rfl rfl q13 dX11_row_46 ?_
          refine e_astore (al' := [(5, .ref b5), (4, .ref b5), (0, .ref a0), (1, .int x1), (2, .int x2), (3, .int x3)]) C dX11_row_49 (by decide) rfl ?_
          refine e_aload C 0 dX11_row_51 rfl ?_
          refine e_getR C [9] 4 (fg_of fg_X11_137) q13 dX11_row_53 ?_
          refine e_iload_n C 4 dX11_row_56 rfl rfl ?_
          obtain ⟨b14, p15, h24⟩ := h24
          try rw [p15]
          obtain ⟨o16, h24⟩ := h24
          refine e_iald C o16 dX11_row_57 ?_
          refine e_istore (al' := [(6, .int (mI M10 b14 (x2).toNatClampNeg)), (5, .ref b5), (4, .ref b5), (0, .ref a0), (1, .int x1), (2, .int x2), (3, .int x3)]) C dX11_row_58 (by decide) rfl ?_
          refine e_aload C 1 dX11_row_60 rfl ?_
          refine e_getR C [9] 4 (fg_of fg_X11_137) q13 dX11_row_62 ?_
          rw [p15]
          refine e_iload_n C 5 dX11_row_65 rfl rfl ?_
          refine e_iload_n C 6 dX11_row_66 rfl rfl ?_
          obtain ⟨o17, h24⟩ := h24
          refine e_iast C o17 dX11_row_67 ?_
          refine nmE (fun M18 e19 => ?_)
          replace h24 := h24 M18 e19
          have o20 : isO M18 b5 [5, 1, 2, 4, 6, 7, 9] := by rw [e19]; exact o12
          have o21 : isO M18 b5 [9] := by rw [e19]; exact q13
          have p22 : mP M18 b5 4 = some b14 := by rw [e19]; exact p15
          refine e_iload C 0 dX11_row_68 rfl ?_
          refine e_if_ge (tgt := 78) C dX11_row_70 (by decide) (fun q23 => ?_) (fun q23 => ?_)
          · replace h24 := ite_t h24 q23
            refine e_iload C 0 dX11_row_78 rfl ?_
            exact e_iret C hr hlk (Nat.le_refl _) (Nat.le_refl _) dX11_row_80 ⟨_, rfl, h24⟩
          · replace h24 := ite_f h24 q23
            refine e_bipush (v := -5) C dX11_row_73 (by decide) ?_
            refine e_goto (tgt := 80) C dX11_row_75 (by decide) ?_
            exact e_iret C hr hlk (Nat.le_refl _) (Nat.le_refl _) dX11_row_80 ⟨_, rfl, h24⟩
        · replace h24 := h24.2 q13
          refine e_if_eq (tgt := 81) C dX11_row_41 (by decide) (fun _ => ?_) (fun q => absurd q (by decide))
          refine e_bipush (v := -3) C dX11_row_81 (by decide) ?_
          exact e_iret C hr hlk (Nat.le_refl _) (Nat.le_refl _) dX11_row_83 ⟨_, rfl, h24⟩
      · replace h24 := ite_t h24 (bi_t q11)
        refine e_bipush (v := -2) C dX11_row_33 (by decide) ?_
        exact e_iret C hr hlk (Nat.le_refl _) (Nat.le_refl _) dX11_row_35 ⟨_, rfl, h24⟩
    · replace h25 := ite_t h25 (bi_t q8)
      refine e_iconst (v := -1) C dX11_row_22 (by decide) ?_
      exact e_iret C hr hlk (Nat.le_refl _) (Nat.le_refl _) dX11_row_23 ⟨_, rfl, h25⟩
theorem m_X11_row  {a0 : Nat} {x1 : Int32} {x2 : Int32} {x3 : Int32} {M : Mem} {Q : Int32 → Mem → Prop} (h : f_X11_row a0 x1 x2 x3 M Q) : Con yX11_row cX11_row 7 (some .int) 2 0 0 [.ref a0, .int x1, .int x2, .int x3] M (rI Q) :=
  con_of2 (al := [(0, .ref a0), (1, .int x1), (2, .int x2), (3, .int x3)]) (by decide) (by exact Nat.le_of_ble_eq_true rfl) (by rfl) (fun p l e s m args below meth c g C hr hlk _ => w_X11_row C hr hlk h)
set_option maxHeartbeats 4000000 in
set_option maxRecDepth 100000 in
theorem w_X11_goThroughWith {p : Program} {l : Launch} {e : Env} {s : State} {m : MethodId} {args : Array Value} {below : List Frame} {meth : Method} {c : Code} {g : Geo} (C : Cx p s m args c cX11_goThroughWith RX11 5 g) (hr : meth.sig.returnType = none) (hlk : meth.locks = false) {a0 : Nat} {r1 : Option Nat} {r2 : Option Nat} {x3 : Int32} {x4 : Int32} {M : Mem} {Q : Mem → Prop} (h : f_X11_goThroughWith a0 r1 r2 x3 x4 M Q) : E p l e (rmO 6 0 0) s m args below meth c g 5 (MQ below (QcM g (rV Q)) args s 0 0 (gA g)) 0 0 0 [(0, .ref a0), (1, va_rf r1), (2, va_rf r2), (3, .int x3), (4, .int x4)] [] M := by
  unfold f_X11_goThroughWith at h
  refine e_aload_n C 0 dX11_goThroughWith_0 rfl rfl ?_
  obtain ⟨o1, h⟩ := h
  refine e_getR C [11] 16 (fg_of fg_X11_62) o1 dX11_goThroughWith_1 ?_
  refine e_rload_n C 1 dX11_goThroughWith_4 rfl rfl ?_
  refine e_aload_n C 0 dX11_goThroughWith_5 rfl rfl ?_
  refine e_callV (as := []) C wb_X11_held wv_X11_105 (ci := 11) rfl rfl (isO_1 o1) (m_X11_held h) rfl ⟨Nat.le_of_ble_eq_true rfl, Nat.le_of_ble_eq_true rfl⟩ ⟨Nat.le_of_ble_eq_true rfl, Nat.le_of_ble_eq_true rfl⟩ (by first | exact Nat.le_of_ble_eq_true rfl | (simp only [List.map_cons, List.map_nil, va_cat, List.sum_cons, List.sum_nil]; exact Nat.le_of_ble_eq_true rfl)) dX11_goThroughWith_6 (kA (fun w2 M3 h11 => ?_))
  refine e_iload_n C 3 dX11_goThroughWith_9 rfl rfl ?_
  refine e_iload C 4 dX11_goThroughWith_10 rfl ?_
  refine e_rload_n C 2 dX11_goThroughWith_12 rfl rfl ?_
  refine e_aload_n C 0 dX11_goThroughWith_13 rfl rfl ?_
  obtain ⟨o4, h11⟩ := h11
  refine e_getI C [11] 1 (fg_of fg_X11_81) o4 dX11_goThroughWith_14 ?_
  obtain ⟨b5, p6, h11⟩ := h11
  try rw [p6]
  obtain ⟨o9, h11⟩ := h11
  refine e_callV (as := [va_rf r1, va_rf w2, .int x3, .int x4, va_rf r2, .int (mI M3 a0 1)]) C wb_X3_pass wv_X11_291 (ci := 3) rfl rfl (isO_1 o9) (m_X3_pass h11) rfl ⟨Nat.le_of_ble_eq_true rfl, Nat.le_of_ble_eq_true rfl⟩ ⟨Nat.le_of_ble_eq_true rfl, Nat.le_of_ble_eq_true rfl⟩ (by first | exact Nat.le_of_ble_eq_true rfl | (simp only [List.map_cons, List.map_nil, va_cat, List.sum_cons, List.sum_nil]; exact Nat.le_of_ble_eq_true rfl)) dX11_goThroughWith_17 (kV (fun M8 h10 => ?_))
  exact e_vret C hr hlk (Nat.le_refl _) (Nat.le_refl _) dX11_goThroughWith_20 ⟨rfl, h10⟩
theorem m_X11_goThroughWith  {a0 : Nat} {r1 : Option Nat} {r2 : Option Nat} {x3 : Int32} {x4 : Int32} {M : Mem} {Q : Mem → Prop} (h : f_X11_goThroughWith a0 r1 r2 x3 x4 M Q) : Con yX11_goThroughWith cX11_goThroughWith 5 none 6 0 0 [.ref a0, va_rf r1, va_rf r2, .int x3, .int x4] M (rV Q) :=
  con_of2 (al := [(0, .ref a0), (1, va_rf r1), (2, va_rf r2), (3, .int x3), (4, .int x4)]) (by decide) (by cases r1 <;> cases r2 <;> exact Nat.le_of_ble_eq_true rfl) (by cases r1 <;> cases r2 <;> rfl) (fun p l e s m args below meth c g C hr hlk _ => w_X11_goThroughWith C hr hlk h)
set_option maxHeartbeats 4000000 in
set_option maxRecDepth 100000 in
theorem w_X11_goThrough {p : Program} {l : Launch} {e : Env} {s : State} {m : MethodId} {args : Array Value} {below : List Frame} {meth : Method} {c : Code} {g : Geo} (C : Cx p s m args c cX11_goThrough RX11 2 g) (hr : meth.sig.returnType = none) (hlk : meth.locks = false) {a0 : Nat} {r1 : Option Nat} {M : Mem} {Q : Mem → Prop} (h : f_X11_goThrough a0 r1 M Q) : E p l e (rmO 7 0 0) s m args below meth c g 2 (MQ below (QcM g (rV Q)) args s 0 0 (gA g)) 0 0 0 [(0, .ref a0), (1, va_rf r1)] [] M := by
  unfold f_X11_goThrough at h
  refine e_aload_n C 0 dX11_goThrough_0 rfl rfl ?_
  refine e_rload_n C 1 dX11_goThrough_1 rfl rfl ?_
  refine e_aload_n C 0 dX11_goThrough_2 rfl rfl ?_
  obtain ⟨o1, h⟩ := h
  refine e_getR C [11] 11 (fg_of fg_X11_47) o1 dX11_goThrough_3 ?_
  refine e_aload_n C 0 dX11_goThrough_6 rfl rfl ?_
  refine e_callV (as := []) C wb_X11_held wv_X11_105 (ci := 11) rfl rfl (isO_1 o1) (m_X11_held h) rfl ⟨Nat.le_of_ble_eq_true rfl, Nat.le_of_ble_eq_true rfl⟩ ⟨Nat.le_of_ble_eq_true rfl, Nat.le_of_ble_eq_true rfl⟩ (by first | exact Nat.le_of_ble_eq_true rfl | (simp only [List.map_cons, List.map_nil, va_cat, List.sum_cons, List.sum_nil]; exact Nat.le_of_ble_eq_true rfl)) dX11_goThrough_7 (kA (fun w2 M3 h18 => ?_))
  obtain ⟨b4, rfl, h18⟩ := h18
  obtain ⟨o6, h18⟩ := h18
  refine e_getI C [10] 0 (fg_of fg_X11_109) o6 dX11_goThrough_10 ?_
  refine e_aload_n C 0 dX11_goThrough_13 rfl rfl ?_
  obtain ⟨o9, h18⟩ := h18
  refine e_callV (as := []) C wb_X11_held wv_X11_105 (ci := 11) rfl rfl (isO_1 o9) (m_X11_held h18) rfl ⟨Nat.le_of_ble_eq_true rfl, Nat.le_of_ble_eq_true rfl⟩ ⟨Nat.le_of_ble_eq_true rfl, Nat.le_of_ble_eq_true rfl⟩ (by first | exact Nat.le_of_ble_eq_true rfl | (simp only [List.map_cons, List.map_nil, va_cat, List.sum_cons, List.sum_nil]; exact Nat.le_of_ble_eq_true rfl)) dX11_goThrough_14 (kA (fun w7 M8 h17 => ?_))
  obtain ⟨b10, rfl, h17⟩ := h17
  obtain ⟨o12, h17⟩ := h17
  refine e_getI C [10] 1 (fg_of fg_X11_112) o12 dX11_goThrough_17 ?_
  obtain ⟨o15, h17⟩ := h17
  refine e_callV (as := [va_rf r1, va_rf (mP M a0 11), .int (mI M3 b4 0), .int (mI M8 b10 1)]) C wb_X11_goThroughWith wv_X11_198 (ci := 11) rfl rfl (isO_1 o15) (m_X11_goThroughWith h17) rfl ⟨Nat.le_of_ble_eq_true rfl, Nat.le_of_ble_eq_true rfl⟩ ⟨Nat.le_of_ble_eq_true rfl, Nat.le_of_ble_eq_true rfl⟩ (by first | exact Nat.le_of_ble_eq_true rfl | (simp only [List.map_cons, List.map_nil, va_cat, List.sum_cons, List.sum_nil]; exact Nat.le_of_ble_eq_true rfl)) dX11_goThrough_20 (kV (fun M14 h16 => ?_))
  exact e_vret C hr hlk (Nat.le_refl _) (Nat.le_refl _) dX11_goThrough_23 ⟨rfl, h16⟩
theorem m_X11_goThrough  {a0 : Nat} {r1 : Option Nat} {M : Mem} {Q : Mem → Prop} (h : f_X11_goThrough a0 r1 M Q) : Con yX11_goThrough cX11_goThrough 2 none 7 0 0 [.ref a0, va_rf r1] M (rV Q) :=
  con_of2 (al := [(0, .ref a0), (1, va_rf r1)]) (by decide) (by cases r1 <;> exact Nat.le_of_ble_eq_true rfl) (by cases r1 <;> rfl) (fun p l e s m args below meth c g C hr hlk _ => w_X11_goThrough C hr hlk h)
set_option maxHeartbeats 4000000 in
set_option maxRecDepth 100000 in
theorem w_X11_comer {p : Program} {l : Launch} {e : Env} {s : State} {m : MethodId} {args : Array Value} {below : List Frame} {meth : Method} {c : Code} {g : Geo} (C : Cx p s m args c cX11_comer RX11 5 g) (hr : meth.sig.returnType = (some .int)) (hlk : meth.locks = false) {a0 : Nat} {x1 : Int32} {x2 : Int32} {x3 : Int32} {M : Mem} {Q : Int32 → Mem → Prop} (h : f_X11_comer a0 x1 x2 x3 M Q) : E p l e (rmO 8 0 0) s m args below meth c g 5 (MQ below (QcM g (rI Q)) args s 0 0 (gA g)) 0 0 0 [(0, .ref a0), (1, .int x1), (2, .int x2), (3, .int x3)] [] M := by
  unfold f_X11_comer at h
  refine e_aload_n C 0 dX11_comer_0 rfl rfl ?_
  refine e_iload_n C 1 dX11_comer_1 rfl rfl ?_
  obtain ⟨o3, h⟩ := h
  refine e_callV (as := [.int x1]) C wb_X11_orderAt wv_X11_131 (ci := 11) rfl rfl (isO_1 o3) (m_X11_orderAt h) rfl ⟨Nat.le_of_ble_eq_true rfl, Nat.le_of_ble_eq_true rfl⟩ ⟨Nat.le_of_ble_eq_true rfl, Nat.le_of_ble_eq_true rfl⟩ (by first | exact Nat.le_of_ble_eq_true rfl | (simp only [List.map_cons, List.map_nil, va_cat, List.sum_cons, List.sum_nil]; exact Nat.le_of_ble_eq_true rfl)) dX11_comer_2 (kA (fun w1 M2 h40 => ?_))
  refine e_rstore (al' := [(4, va_rf w1), (0, .ref a0), (1, .int x1), (2, .int x2), (3, .int x3)]) C dX11_comer_5 (by decide) rfl ?_
  refine e_rload C 0 dX11_comer_7 rfl ?_
  refine e_ifnonnull (tgt := 16) C dX11_comer_9 (by decide) (fun b5 q4 => ?_) (fun q4 => ?_)
  · replace h40 := h40.2 b5 q4
    subst q4
    refine e_aload_n C 1 dX11_comer_16 rfl rfl ?_
    refine e_aload C 0 dX11_comer_17 rfl ?_
    obtain ⟨o8, h40⟩ := h40
    refine e_callV (as := [.ref b5]) C wb_X11_goThrough wv_X11_140 (ci := 11) rfl rfl (isO_1 o8) (m_X11_goThrough h40) rfl ⟨Nat.le_of_ble_eq_true rfl, Nat.le_of_ble_eq_true rfl⟩ ⟨Nat.le_of_ble_eq_true rfl, Nat.le_of_ble_eq_true rfl⟩ (by first | exact Nat.le_of_ble_eq_true rfl | (simp only [List.map_cons, List.map_nil, va_cat, List.sum_cons, List.sum_nil]; exact Nat.le_of_ble_eq_true rfl)) dX11_comer_19 (kV (fun M7 h39 => ?_))
    refine e_iload_n C 3 dX11_comer_22 rfl rfl ?_
    refine e_if_lt (tgt := 37) C dX11_comer_23 (by decide) (fun q9 => ?_) (fun q9 => ?_)
    · replace h39 := ite_t h39 q9
      refine e_sipush (v := -1001) C dX11_comer_37 (by decide) ?_
      exact e_iret C hr hlk (Nat.le_refl _) (Nat.le_refl _) dX11_comer_40 ⟨_, rfl, h39⟩
    · replace h39 := ite_f h39 q9
      refine e_iload_n C 3 dX11_comer_26 rfl rfl ?_
      refine e_aload_n C 1 dX11_comer_27 rfl rfl ?_
      obtain ⟨o10, h39⟩ := h39
      refine e_getR C [11] 16 (fg_of fg_X11_62) o10 dX11_comer_28 ?_
      obtain ⟨b11, p12, h39⟩ := h39
      try rw [p12]
      obtain ⟨o13, h39⟩ := h39
      refine e_getI C [3] 6 (fg_of fg_X11_144) o13 dX11_comer_31 ?_
      refine e_icmp_lt (tgt := 41) C dX11_comer_34 (by decide) (fun q14 => ?_) (fun q14 => ?_)
      · replace h39 := ite_t h39 q14
        refine e_iload_n C 4 dX11_comer_41 rfl rfl ?_
        by_cases q15 : x3 = 0
        · replace h39 := ite_t h39 q15
          refine e_tin (tgt := 80) C dX11_comer_42 (by rw [q15]; decide) (by rw [q15]; decide) (by rw [q15] <;> rfl) (by decide) ?_
          refine e_aload_n C 1 dX11_comer_80 rfl rfl ?_
          refine e_getR C [11] 16 (fg_of fg_X11_62) o10 dX11_comer_81 ?_
          rw [p12]
          refine e_getR C [3] 0 (fg_of fg_X11_147) o13 dX11_comer_84 ?_
          refine e_iload_n C 3 dX11_comer_87 rfl rfl ?_
          obtain ⟨b16, p17, h39⟩ := h39
          try rw [p17]
          obtain ⟨o18, h39⟩ := h39
          refine e_iald C o18 dX11_comer_88 ?_
          exact e_iret C hr hlk (Nat.le_refl _) (Nat.le_refl _) dX11_comer_89 ⟨_, rfl, h39⟩
        · replace h39 := ite_f h39 q15
          by_cases q19 : x3 = 1
          · replace h39 := ite_t h39 q19
            refine e_tin (tgt := 90) C dX11_comer_42 (by rw [q19]; decide) (by rw [q19]; decide) (by rw [q19] <;> rfl) (by decide) ?_
            refine e_aload_n C 1 dX11_comer_90 rfl rfl ?_
            refine e_getR C [11] 16 (fg_of fg_X11_62) o10 dX11_comer_91 ?_
            rw [p12]
            refine e_getR C [3] 1 (fg_of fg_X11_150) o13 dX11_comer_94 ?_
            refine e_iload_n C 3 dX11_comer_97 rfl rfl ?_
            obtain ⟨b20, p21, h39⟩ := h39
            try rw [p21]
            obtain ⟨o22, h39⟩ := h39
            refine e_iald C o22 dX11_comer_98 ?_
            exact e_iret C hr hlk (Nat.le_refl _) (Nat.le_refl _) dX11_comer_99 ⟨_, rfl, h39⟩
          · replace h39 := ite_f h39 q19
            by_cases q23 : x3 = 2
            · replace h39 := ite_t h39 q23
              refine e_tin (tgt := 100) C dX11_comer_42 (by rw [q23]; decide) (by rw [q23]; decide) (by rw [q23] <;> rfl) (by decide) ?_
              refine e_aload_n C 1 dX11_comer_100 rfl rfl ?_
              refine e_getR C [11] 16 (fg_of fg_X11_62) o10 dX11_comer_101 ?_
              rw [p12]
              refine e_getR C [3] 2 (fg_of fg_X11_153) o13 dX11_comer_104 ?_
              refine e_iload_n C 3 dX11_comer_107 rfl rfl ?_
              obtain ⟨b24, p25, h39⟩ := h39
              try rw [p25]
              obtain ⟨o26, h39⟩ := h39
              refine e_iald C o26 dX11_comer_108 ?_
              exact e_iret C hr hlk (Nat.le_refl _) (Nat.le_refl _) dX11_comer_109 ⟨_, rfl, h39⟩
            · replace h39 := ite_f h39 q23
              by_cases q27 : x3 = 3
              · replace h39 := ite_t h39 q27
                refine e_tin (tgt := 110) C dX11_comer_42 (by rw [q27]; decide) (by rw [q27]; decide) (by rw [q27] <;> rfl) (by decide) ?_
                refine e_aload_n C 1 dX11_comer_110 rfl rfl ?_
                refine e_getR C [11] 16 (fg_of fg_X11_62) o10 dX11_comer_111 ?_
                rw [p12]
                refine e_getR C [3] 3 (fg_of fg_X11_156) o13 dX11_comer_114 ?_
                refine e_iload_n C 3 dX11_comer_117 rfl rfl ?_
                obtain ⟨b28, p29, h39⟩ := h39
                try rw [p29]
                obtain ⟨o30, h39⟩ := h39
                refine e_iald C o30 dX11_comer_118 ?_
                exact e_iret C hr hlk (Nat.le_refl _) (Nat.le_refl _) dX11_comer_119 ⟨_, rfl, h39⟩
              · replace h39 := ite_f h39 q27
                by_cases q31 : x3 = 4
                · replace h39 := ite_t h39 q31
                  refine e_tin (tgt := 120) C dX11_comer_42 (by rw [q31]; decide) (by rw [q31]; decide) (by rw [q31] <;> rfl) (by decide) ?_
                  refine e_aload_n C 1 dX11_comer_120 rfl rfl ?_
                  refine e_getR C [11] 16 (fg_of fg_X11_62) o10 dX11_comer_121 ?_
                  rw [p12]
                  refine e_iload_n C 3 dX11_comer_124 rfl rfl ?_
                  refine e_callV (as := [.int x2]) C wb_X3_waits wv_X11_159 (ci := 3) rfl rfl (isO_1 o13) (m_X3_waits h39) rfl ⟨Nat.le_of_ble_eq_true rfl, Nat.le_of_ble_eq_true rfl⟩ ⟨Nat.le_of_ble_eq_true rfl, Nat.le_of_ble_eq_true rfl⟩ (by first | exact Nat.le_of_ble_eq_true rfl | (simp only [List.map_cons, List.map_nil, va_cat, List.sum_cons, List.sum_nil]; exact Nat.le_of_ble_eq_true rfl)) dX11_comer_125 (kI (fun w32 M33 h34 => ?_))
                  exact e_iret C hr hlk (Nat.le_refl _) (Nat.le_refl _) dX11_comer_128 ⟨_, rfl, h34⟩
                · replace h39 := ite_f h39 q31
                  by_cases q35 : x3 = 5
                  · replace h39 := ite_t h39 q35
                    refine e_tin (tgt := 129) C dX11_comer_42 (by rw [q35]; decide) (by rw [q35]; decide) (by rw [q35] <;> rfl) (by decide) ?_
                    refine e_aload_n C 1 dX11_comer_129 rfl rfl ?_
                    refine e_getR C [11] 16 (fg_of fg_X11_62) o10 dX11_comer_130 ?_
                    rw [p12]
                    refine e_iload_n C 3 dX11_comer_133 rfl rfl ?_
                    refine e_callV (as := [.int x2]) C wb_X3_rank wv_X11_163 (ci := 3) rfl rfl (isO_1 o13) (m_X3_rank h39) rfl ⟨Nat.le_of_ble_eq_true rfl, Nat.le_of_ble_eq_true rfl⟩ ⟨Nat.le_of_ble_eq_true rfl, Nat.le_of_ble_eq_true rfl⟩ (by first | exact Nat.le_of_ble_eq_true rfl | (simp only [List.map_cons, List.map_nil, va_cat, List.sum_cons, List.sum_nil]; exact Nat.le_of_ble_eq_true rfl)) dX11_comer_134 (kI (fun w36 M37 h38 => ?_))
                    exact e_iret C hr hlk (Nat.le_refl _) (Nat.le_refl _) dX11_comer_137 ⟨_, rfl, h38⟩
                  · replace h39 := ite_f h39 q35
                    refine e_tout (tgt := 138) C dX11_comer_42 (by have z0 := lv_neT (a := 0) q15 (by decide); have z1 := lv_neT (a := 1) q19 (by decide); have z2 := lv_neT (a := 2) q23 (by decide); have z3 := lv_neT (a := 3) q27 (by decide); have z4 := lv_neT (a := 4) q31 (by decide); have z5 := lv_neT (a := 5) q35 (by decide); omega) (by decide) ?_
                    refine e_sipush (v := -1001) C dX11_comer_138 (by decide) ?_
                    exact e_iret C hr hlk (Nat.le_refl _) (Nat.le_refl _) dX11_comer_141 ⟨_, rfl, h39⟩
      · replace h39 := ite_f h39 q14
        refine e_sipush (v := -1001) C dX11_comer_37 (by decide) ?_
        exact e_iret C hr hlk (Nat.le_refl _) (Nat.le_refl _) dX11_comer_40 ⟨_, rfl, h39⟩
  · replace h40 := h40.1 q4
    subst q4
    refine e_sipush (v := -1001) C dX11_comer_12 (by decide) ?_
    exact e_iret C hr hlk (Nat.le_refl _) (Nat.le_refl _) dX11_comer_15 ⟨_, rfl, h40⟩
theorem m_X11_comer  {a0 : Nat} {x1 : Int32} {x2 : Int32} {x3 : Int32} {M : Mem} {Q : Int32 → Mem → Prop} (h : f_X11_comer a0 x1 x2 x3 M Q) : Con yX11_comer cX11_comer 5 (some .int) 8 0 0 [.ref a0, .int x1, .int x2, .int x3] M (rI Q) :=
  con_of2 (al := [(0, .ref a0), (1, .int x1), (2, .int x2), (3, .int x3)]) (by decide) (by exact Nat.le_of_ble_eq_true rfl) (by rfl) (fun p l e s m args below meth c g C hr hlk _ => w_X11_comer C hr hlk h)
set_option maxHeartbeats 4000000 in
set_option maxRecDepth 100000 in
theorem w_X11_served {p : Program} {l : Launch} {e : Env} {s : State} {m : MethodId} {args : Array Value} {below : List Frame} {meth : Method} {c : Code} {g : Geo} (C : Cx p s m args c cX11_served RX11 6 g) (hr : meth.sig.returnType = (some .int)) (hlk : meth.locks = false) {a0 : Nat} {x1 : Int32} {x2 : Int32} {x3 : Int32} {M : Mem} {Q : Int32 → Mem → Prop} (h : f_X11_served a0 x1 x2 x3 M Q) : E p l e (rmO 8 0 0) s m args below meth c g 6 (MQ below (QcM g (rI Q)) args s 0 0 (gA g)) 0 0 0 [(0, .ref a0), (1, .int x1), (2, .int x2), (3, .int x3)] [] M := by
  unfold f_X11_served at h
  refine e_aload_n C 0 dX11_served_0 rfl rfl ?_
  refine e_iload_n C 1 dX11_served_1 rfl rfl ?_
  obtain ⟨o3, h⟩ := h
  refine e_callV (as := [.int x1]) C wb_X11_orderAt wv_X11_131 (ci := 11) rfl rfl (isO_1 o3) (m_X11_orderAt h) rfl ⟨Nat.le_of_ble_eq_true rfl, Nat.le_of_ble_eq_true rfl⟩ ⟨Nat.le_of_ble_eq_true rfl, Nat.le_of_ble_eq_true rfl⟩ (by first | exact Nat.le_of_ble_eq_true rfl | (simp only [List.map_cons, List.map_nil, va_cat, List.sum_cons, List.sum_nil]; exact Nat.le_of_ble_eq_true rfl)) dX11_served_2 (kA (fun w1 M2 h27 => ?_))
  refine e_rstore (al' := [(4, va_rf w1), (0, .ref a0), (1, .int x1), (2, .int x2), (3, .int x3)]) C dX11_served_5 (by decide) rfl ?_
  refine e_rload C 0 dX11_served_7 rfl ?_
  refine e_ifnull (tgt := 21) C dX11_served_9 (by decide) (fun q4 => ?_) (fun b5 q4 => ?_)
  · replace h27 := h27.1 q4
    subst q4
    refine e_iconst (v := -1) C dX11_served_21 (by decide) ?_
    exact e_iret C hr hlk (Nat.le_refl _) (Nat.le_refl _) dX11_served_22 ⟨_, rfl, h27⟩
  · replace h27 := h27.2 b5 q4
    subst q4
    refine e_iload_n C 4 dX11_served_12 rfl rfl ?_
    refine e_iconst (v := 0) C dX11_served_13 (by decide) ?_
    refine e_iconst (v := 1) C dX11_served_14 (by decide) ?_
    refine e_callS (as := [.int x3, .int (0 : Int32), .int (1 : Int32)]) C wb_X11_outside wt_X11_77 (m_X11_outside h27) rfl ⟨Nat.le_of_ble_eq_true rfl, Nat.le_of_ble_eq_true rfl⟩ ⟨Nat.le_of_ble_eq_true rfl, Nat.le_of_ble_eq_true rfl⟩ (by first | exact Nat.le_of_ble_eq_true rfl | (simp only [List.map_cons, List.map_nil, va_cat, List.sum_cons, List.sum_nil]; exact Nat.le_of_ble_eq_true rfl)) dX11_served_15 (kZ (fun w6 M7 h26 => ?_))
    refine e_if_eq (tgt := 23) C dX11_served_18 (by decide) (fun q8 => ?_) (fun q8 => ?_)
    · replace h26 := ite_f h26 (bi_ne q8)
      refine e_aload_n C 1 dX11_served_23 rfl rfl ?_
      refine e_aload C 0 dX11_served_24 rfl ?_
      obtain ⟨o11, h26⟩ := h26
      refine e_callV (as := [.ref b5]) C wb_X11_goThrough wv_X11_140 (ci := 11) rfl rfl (isO_1 o11) (m_X11_goThrough h26) rfl ⟨Nat.le_of_ble_eq_true rfl, Nat.le_of_ble_eq_true rfl⟩ ⟨Nat.le_of_ble_eq_true rfl, Nat.le_of_ble_eq_true rfl⟩ (by first | exact Nat.le_of_ble_eq_true rfl | (simp only [List.map_cons, List.map_nil, va_cat, List.sum_cons, List.sum_nil]; exact Nat.le_of_ble_eq_true rfl)) dX11_served_26 (kV (fun M10 h25 => ?_))
      refine e_iload_n C 3 dX11_served_29 rfl rfl ?_
      refine e_if_lt (tgt := 44) C dX11_served_30 (by decide) (fun q12 => ?_) (fun q12 => ?_)
      · replace h25 := ite_t h25 q12
        refine e_iconst (v := -1) C dX11_served_44 (by decide) ?_
        exact e_iret C hr hlk (Nat.le_refl _) (Nat.le_refl _) dX11_served_45 ⟨_, rfl, h25⟩
      · replace h25 := ite_f h25 q12
        refine e_iload_n C 3 dX11_served_33 rfl rfl ?_
        refine e_aload_n C 1 dX11_served_34 rfl rfl ?_
        obtain ⟨o13, h25⟩ := h25
        refine e_getR C [11] 16 (fg_of fg_X11_62) o13 dX11_served_35 ?_
        obtain ⟨b14, p15, h25⟩ := h25
        try rw [p15]
        obtain ⟨o16, h25⟩ := h25
        refine e_getI C [3] 7 (fg_of fg_X11_166) o16 dX11_served_38 ?_
        refine e_icmp_lt (tgt := 46) C dX11_served_41 (by decide) (fun q17 => ?_) (fun q17 => ?_)
        · replace h25 := ite_t h25 q17
          refine e_aload_n C 1 dX11_served_46 rfl rfl ?_
          refine e_getR C [11] 16 (fg_of fg_X11_62) o13 dX11_served_47 ?_
          rw [p15]
          refine e_getR C [3] 5 (fg_of fg_X11_169) o16 dX11_served_50 ?_
          refine e_iload_n C 3 dX11_served_53 rfl rfl ?_
          obtain ⟨b18, p19, h25⟩ := h25
          try rw [p19]
          obtain ⟨o20, h25⟩ := h25
          refine e_iald C o20 dX11_served_54 ?_
          refine e_istore (al' := [(5, .int (mI M10 b18 (x2).toNatClampNeg)), (4, .ref b5), (0, .ref a0), (1, .int x1), (2, .int x2), (3, .int x3)]) C dX11_served_55 (by decide) rfl ?_
          refine e_iload_n C 5 dX11_served_57 rfl rfl ?_
          refine e_if_ne (tgt := 66) C dX11_served_58 (by decide) (fun q21 => ?_) (fun q21 => ?_)
          · replace h25 := ite_f h25 q21
            refine e_aload_n C 2 dX11_served_66 rfl rfl ?_
            refine e_getR C [11] 16 (fg_of fg_X11_62) o13 dX11_served_67 ?_
            rw [p15]
            refine e_getR C [3] 4 (fg_of fg_X11_172) o16 dX11_served_70 ?_
            refine e_iload C 0 dX11_served_73 rfl ?_
            obtain ⟨b22, p23, h25⟩ := h25
            try rw [p23]
            obtain ⟨o24, h25⟩ := h25
            refine e_iald C o24 dX11_served_75 ?_
            exact e_iret C hr hlk (Nat.le_refl _) (Nat.le_refl _) dX11_served_76 ⟨_, rfl, h25⟩
          · replace h25 := ite_t h25 q21
            refine e_iload C 0 dX11_served_61 rfl ?_
            refine e_goto (tgt := 76) C dX11_served_63 (by decide) ?_
            exact e_iret C hr hlk (Nat.le_refl _) (Nat.le_refl _) dX11_served_76 ⟨_, rfl, h25⟩
        · replace h25 := ite_f h25 q17
          refine e_iconst (v := -1) C dX11_served_44 (by decide) ?_
          exact e_iret C hr hlk (Nat.le_refl _) (Nat.le_refl _) dX11_served_45 ⟨_, rfl, h25⟩
    · replace h26 := ite_t h26 (bi_t q8)
      refine e_iconst (v := -1) C dX11_served_21 (by decide) ?_
      exact e_iret C hr hlk (Nat.le_refl _) (Nat.le_refl _) dX11_served_22 ⟨_, rfl, h26⟩
theorem m_X11_served  {a0 : Nat} {x1 : Int32} {x2 : Int32} {x3 : Int32} {M : Mem} {Q : Int32 → Mem → Prop} (h : f_X11_served a0 x1 x2 x3 M Q) : Con yX11_served cX11_served 6 (some .int) 8 0 0 [.ref a0, .int x1, .int x2, .int x3] M (rI Q) :=
  con_of2 (al := [(0, .ref a0), (1, .int x1), (2, .int x2), (3, .int x3)]) (by decide) (by exact Nat.le_of_ble_eq_true rfl) (by rfl) (fun p l e s m args below meth c g C hr hlk _ => w_X11_served C hr hlk h)
set_option maxHeartbeats 4000000 in
set_option maxRecDepth 100000 in
theorem w_X11_all {p : Program} {l : Launch} {e : Env} {s : State} {m : MethodId} {args : Array Value} {below : List Frame} {meth : Method} {c : Code} {g : Geo} (C : Cx p s m args c cX11_all RX11 4 g) (hr : meth.sig.returnType = (some .int)) (hlk : meth.locks = false) {a0 : Nat} {x1 : Int32} {x2 : Int32} {M : Mem} {Q : Int32 → Mem → Prop} (h : f_X11_all a0 x1 x2 M Q) : E p l e (rmO 8 0 0) s m args below meth c g 4 (MQ below (QcM g (rI Q)) args s 0 0 (gA g)) 0 0 0 [(0, .ref a0), (1, .int x1), (2, .int x2)] [] M := by
  unfold f_X11_all at h
  refine e_aload_n C 0 dX11_all_0 rfl rfl ?_
  refine e_iload_n C 1 dX11_all_1 rfl rfl ?_
  obtain ⟨o3, h⟩ := h
  refine e_callV (as := [.int x1]) C wb_X11_orderAt wv_X11_131 (ci := 11) rfl rfl (isO_1 o3) (m_X11_orderAt h) rfl ⟨Nat.le_of_ble_eq_true rfl, Nat.le_of_ble_eq_true rfl⟩ ⟨Nat.le_of_ble_eq_true rfl, Nat.le_of_ble_eq_true rfl⟩ (by first | exact Nat.le_of_ble_eq_true rfl | (simp only [List.map_cons, List.map_nil, va_cat, List.sum_cons, List.sum_nil]; exact Nat.le_of_ble_eq_true rfl)) dX11_all_2 (kA (fun w1 M2 h68 => ?_))
  refine e_rstore_n (al' := [(3, va_rf w1), (0, .ref a0), (1, .int x1), (2, .int x2)]) C dX11_all_5 rfl (by decide) rfl ?_
  refine e_rload_n C 0 dX11_all_6 rfl rfl ?_
  refine e_ifnull (tgt := 20) C dX11_all_7 (by decide) (fun q4 => ?_) (fun b5 q4 => ?_)
  · replace h68 := h68.1 q4
    subst q4
    refine e_iconst (v := -1) C dX11_all_20 (by decide) ?_
    exact e_iret C hr hlk (Nat.le_refl _) (Nat.le_refl _) dX11_all_21 ⟨_, rfl, h68⟩
  · replace h68 := h68.2 b5 q4
    subst q4
    refine e_iload_n C 3 dX11_all_10 rfl rfl ?_
    refine e_iconst (v := 0) C dX11_all_11 (by decide) ?_
    refine e_bipush (v := 7) C dX11_all_12 (by decide) ?_
    refine e_callS (as := [.int x2, .int (0 : Int32), .int (7 : Int32)]) C wb_X11_outside wt_X11_77 (m_X11_outside h68) rfl ⟨Nat.le_of_ble_eq_true rfl, Nat.le_of_ble_eq_true rfl⟩ ⟨Nat.le_of_ble_eq_true rfl, Nat.le_of_ble_eq_true rfl⟩ (by first | exact Nat.le_of_ble_eq_true rfl | (simp only [List.map_cons, List.map_nil, va_cat, List.sum_cons, List.sum_nil]; exact Nat.le_of_ble_eq_true rfl)) dX11_all_14 (kZ (fun w6 M7 h67 => ?_))
    refine e_if_eq (tgt := 22) C dX11_all_17 (by decide) (fun q8 => ?_) (fun q8 => ?_)
    · replace h67 := ite_f h67 (bi_ne q8)
      refine e_aload_n C 1 dX11_all_22 rfl rfl ?_
      refine e_aload_n C 0 dX11_all_23 rfl rfl ?_
      obtain ⟨o11, h67⟩ := h67
      refine e_callV (as := [.ref b5]) C wb_X11_goThrough wv_X11_140 (ci := 11) rfl rfl (isO_1 o11) (m_X11_goThrough h67) rfl ⟨Nat.le_of_ble_eq_true rfl, Nat.le_of_ble_eq_true rfl⟩ ⟨Nat.le_of_ble_eq_true rfl, Nat.le_of_ble_eq_true rfl⟩ (by first | exact Nat.le_of_ble_eq_true rfl | (simp only [List.map_cons, List.map_nil, va_cat, List.sum_cons, List.sum_nil]; exact Nat.le_of_ble_eq_true rfl)) dX11_all_24 (kV (fun M10 h66 => ?_))
      refine e_iload_n C 3 dX11_all_27 rfl rfl ?_
      by_cases q12 : x2 = 0
      · replace h66 := ite_t h66 q12
        refine e_tin (tgt := 72) C dX11_all_28 (by rw [q12]; decide) (by rw [q12]; decide) (by rw [q12] <;> rfl) (by decide) ?_
        refine e_aload_n C 1 dX11_all_72 rfl rfl ?_
        obtain ⟨o13, h66⟩ := h66
        refine e_getR C [11] 16 (fg_of fg_X11_62) o13 dX11_all_73 ?_
        obtain ⟨b14, p15, h66⟩ := h66
        try rw [p15]
        obtain ⟨o16, h66⟩ := h66
        refine e_getI C [3] 6 (fg_of fg_X11_144) o16 dX11_all_76 ?_
        exact e_iret C hr hlk (Nat.le_refl _) (Nat.le_refl _) dX11_all_79 ⟨_, rfl, h66⟩
      · replace h66 := ite_f h66 q12
        by_cases q17 : x2 = 1
        · replace h66 := ite_t h66 q17
          refine e_tin (tgt := 80) C dX11_all_28 (by rw [q17]; decide) (by rw [q17]; decide) (by rw [q17] <;> rfl) (by decide) ?_
          refine e_aload_n C 1 dX11_all_80 rfl rfl ?_
          obtain ⟨o18, h66⟩ := h66
          refine e_getR C [11] 16 (fg_of fg_X11_62) o18 dX11_all_81 ?_
          obtain ⟨b19, p20, h66⟩ := h66
          try rw [p20]
          obtain ⟨o21, h66⟩ := h66
          refine e_getI C [3] 7 (fg_of fg_X11_166) o21 dX11_all_84 ?_
          exact e_iret C hr hlk (Nat.le_refl _) (Nat.le_refl _) dX11_all_87 ⟨_, rfl, h66⟩
        · replace h66 := ite_f h66 q17
          by_cases q22 : x2 = 2
          · replace h66 := ite_t h66 q22
            refine e_tin (tgt := 88) C dX11_all_28 (by rw [q22]; decide) (by rw [q22]; decide) (by rw [q22] <;> rfl) (by decide) ?_
            refine e_aload_n C 1 dX11_all_88 rfl rfl ?_
            obtain ⟨o23, h66⟩ := h66
            refine e_getR C [11] 16 (fg_of fg_X11_62) o23 dX11_all_89 ?_
            refine e_iconst (v := 0) C dX11_all_92 (by decide) ?_
            obtain ⟨b24, p25, h66⟩ := h66
            try rw [p25]
            obtain ⟨o28, h66⟩ := h66
            refine e_callV (as := [.int (0 : Int32)]) C wb_X3_howMany wv_X11_175 (ci := 3) rfl rfl (isO_1 o28) (m_X3_howMany h66) rfl ⟨Nat.le_of_ble_eq_true rfl, Nat.le_of_ble_eq_true rfl⟩ ⟨Nat.le_of_ble_eq_true rfl, Nat.le_of_ble_eq_true rfl⟩ (by first | exact Nat.le_of_ble_eq_true rfl | (simp only [List.map_cons, List.map_nil, va_cat, List.sum_cons, List.sum_nil]; exact Nat.le_of_ble_eq_true rfl)) dX11_all_93 (kI (fun w26 M27 h29 => ?_))
            exact e_iret C hr hlk (Nat.le_refl _) (Nat.le_refl _) dX11_all_96 ⟨_, rfl, h29⟩
          · replace h66 := ite_f h66 q22
            by_cases q30 : x2 = 3
            · replace h66 := ite_t h66 q30
              refine e_tin (tgt := 97) C dX11_all_28 (by rw [q30]; decide) (by rw [q30]; decide) (by rw [q30] <;> rfl) (by decide) ?_
              refine e_aload_n C 1 dX11_all_97 rfl rfl ?_
              obtain ⟨o31, h66⟩ := h66
              refine e_getR C [11] 16 (fg_of fg_X11_62) o31 dX11_all_98 ?_
              refine e_iconst (v := 2) C dX11_all_101 (by decide) ?_
              obtain ⟨b32, p33, h66⟩ := h66
              try rw [p33]
              obtain ⟨o36, h66⟩ := h66
              refine e_callV (as := [.int (2 : Int32)]) C wb_X3_howMany wv_X11_175 (ci := 3) rfl rfl (isO_1 o36) (m_X3_howMany h66) rfl ⟨Nat.le_of_ble_eq_true rfl, Nat.le_of_ble_eq_true rfl⟩ ⟨Nat.le_of_ble_eq_true rfl, Nat.le_of_ble_eq_true rfl⟩ (by first | exact Nat.le_of_ble_eq_true rfl | (simp only [List.map_cons, List.map_nil, va_cat, List.sum_cons, List.sum_nil]; exact Nat.le_of_ble_eq_true rfl)) dX11_all_102 (kI (fun w34 M35 h37 => ?_))
              exact e_iret C hr hlk (Nat.le_refl _) (Nat.le_refl _) dX11_all_105 ⟨_, rfl, h37⟩
            · replace h66 := ite_f h66 q30
              by_cases q38 : x2 = 4
              · replace h66 := ite_t h66 q38
                refine e_tin (tgt := 106) C dX11_all_28 (by rw [q38]; decide) (by rw [q38]; decide) (by rw [q38] <;> rfl) (by decide) ?_
                refine e_aload_n C 1 dX11_all_106 rfl rfl ?_
                obtain ⟨o39, h66⟩ := h66
                refine e_getR C [11] 16 (fg_of fg_X11_62) o39 dX11_all_107 ?_
                obtain ⟨b40, p41, h66⟩ := h66
                try rw [p41]
                obtain ⟨o44, h66⟩ := h66
                refine e_callV (as := []) C wb_X3_lost wv_X11_178 (ci := 3) rfl rfl (isO_1 o44) (m_X3_lost h66) rfl ⟨Nat.le_of_ble_eq_true rfl, Nat.le_of_ble_eq_true rfl⟩ ⟨Nat.le_of_ble_eq_true rfl, Nat.le_of_ble_eq_true rfl⟩ (by first | exact Nat.le_of_ble_eq_true rfl | (simp only [List.map_cons, List.map_nil, va_cat, List.sum_cons, List.sum_nil]; exact Nat.le_of_ble_eq_true rfl)) dX11_all_110 (kI (fun w42 M43 h45 => ?_))
                exact e_iret C hr hlk (Nat.le_refl _) (Nat.le_refl _) dX11_all_113 ⟨_, rfl, h45⟩
              · replace h66 := ite_f h66 q38
                by_cases q46 : x2 = 5
                · replace h66 := ite_t h66 q46
                  refine e_tin (tgt := 114) C dX11_all_28 (by rw [q46]; decide) (by rw [q46]; decide) (by rw [q46] <;> rfl) (by decide) ?_
                  refine e_aload_n C 1 dX11_all_114 rfl rfl ?_
                  obtain ⟨o47, h66⟩ := h66
                  refine e_getR C [11] 16 (fg_of fg_X11_62) o47 dX11_all_115 ?_
                  obtain ⟨b48, p49, h66⟩ := h66
                  try rw [p49]
                  obtain ⟨o52, h66⟩ := h66
                  refine e_callV (as := []) C wb_X3_pence wv_X11_182 (ci := 3) rfl rfl (isO_1 o52) (m_X3_pence h66) rfl ⟨Nat.le_of_ble_eq_true rfl, Nat.le_of_ble_eq_true rfl⟩ ⟨Nat.le_of_ble_eq_true rfl, Nat.le_of_ble_eq_true rfl⟩ (by first | exact Nat.le_of_ble_eq_true rfl | (simp only [List.map_cons, List.map_nil, va_cat, List.sum_cons, List.sum_nil]; exact Nat.le_of_ble_eq_true rfl)) dX11_all_118 (kI (fun w50 M51 h53 => ?_))
                  exact e_iret C hr hlk (Nat.le_refl _) (Nat.le_refl _) dX11_all_121 ⟨_, rfl, h53⟩
                · replace h66 := ite_f h66 q46
                  by_cases q54 : x2 = 6
                  · replace h66 := ite_t h66 q54
                    refine e_tin (tgt := 122) C dX11_all_28 (by rw [q54]; decide) (by rw [q54]; decide) (by rw [q54] <;> rfl) (by decide) ?_
                    refine e_aload_n C 1 dX11_all_122 rfl rfl ?_
                    obtain ⟨o55, h66⟩ := h66
                    refine e_getR C [11] 16 (fg_of fg_X11_62) o55 dX11_all_123 ?_
                    obtain ⟨b56, p57, h66⟩ := h66
                    try rw [p57]
                    obtain ⟨o58, h66⟩ := h66
                    refine e_getI C [3] 9 (fg_of fg_X11_185) o58 dX11_all_126 ?_
                    exact e_iret C hr hlk (Nat.le_refl _) (Nat.le_refl _) dX11_all_129 ⟨_, rfl, h66⟩
                  · replace h66 := ite_f h66 q54
                    refine e_tout (tgt := 130) C dX11_all_28 (by have z0 := lv_neT (a := 0) q12 (by decide); have z1 := lv_neT (a := 1) q17 (by decide); have z2 := lv_neT (a := 2) q22 (by decide); have z3 := lv_neT (a := 3) q30 (by decide); have z4 := lv_neT (a := 4) q38 (by decide); have z5 := lv_neT (a := 5) q46 (by decide); have z6 := lv_neT (a := 6) q54 (by decide); omega) (by decide) ?_
                    refine e_aload_n C 1 dX11_all_130 rfl rfl ?_
                    obtain ⟨o59, h66⟩ := h66
                    refine e_getR C [11] 16 (fg_of fg_X11_62) o59 dX11_all_131 ?_
                    obtain ⟨b60, p61, h66⟩ := h66
                    try rw [p61]
                    obtain ⟨o64, h66⟩ := h66
                    refine e_callV (as := []) C wb_X3_back wv_X11_188 (ci := 3) rfl rfl (isO_1 o64) (m_X3_back h66) rfl ⟨Nat.le_of_ble_eq_true rfl, Nat.le_of_ble_eq_true rfl⟩ ⟨Nat.le_of_ble_eq_true rfl, Nat.le_of_ble_eq_true rfl⟩ (by first | exact Nat.le_of_ble_eq_true rfl | (simp only [List.map_cons, List.map_nil, va_cat, List.sum_cons, List.sum_nil]; exact Nat.le_of_ble_eq_true rfl)) dX11_all_134 (kI (fun w62 M63 h65 => ?_))
                    exact e_iret C hr hlk (Nat.le_refl _) (Nat.le_refl _) dX11_all_137 ⟨_, rfl, h65⟩
    · replace h67 := ite_t h67 (bi_t q8)
      refine e_iconst (v := -1) C dX11_all_20 (by decide) ?_
      exact e_iret C hr hlk (Nat.le_refl _) (Nat.le_refl _) dX11_all_21 ⟨_, rfl, h67⟩
theorem m_X11_all  {a0 : Nat} {x1 : Int32} {x2 : Int32} {M : Mem} {Q : Int32 → Mem → Prop} (h : f_X11_all a0 x1 x2 M Q) : Con yX11_all cX11_all 4 (some .int) 8 0 0 [.ref a0, .int x1, .int x2] M (rI Q) :=
  con_of2 (al := [(0, .ref a0), (1, .int x1), (2, .int x2)]) (by decide) (by exact Nat.le_of_ble_eq_true rfl) (by rfl) (fun p l e s m args below meth c g C hr hlk _ => w_X11_all C hr hlk h)
set_option maxHeartbeats 4000000 in
set_option maxRecDepth 100000 in
theorem w_X11_stand {p : Program} {l : Launch} {e : Env} {s : State} {m : MethodId} {args : Array Value} {below : List Frame} {meth : Method} {c : Code} {g : Geo} (C : Cx p s m args c cX11_stand RX11 5 g) (hr : meth.sig.returnType = (some .int)) (hlk : meth.locks = false) {a0 : Nat} {x1 : Int32} {x2 : Int32} {x3 : Int32} {M : Mem} {Q : Int32 → Mem → Prop} (h : f_X11_stand a0 x1 x2 x3 M Q) : E p l e (rmO 8 0 0) s m args below meth c g 5 (MQ below (QcM g (rI Q)) args s 0 0 (gA g)) 0 0 0 [(0, .ref a0), (1, .int x1), (2, .int x2), (3, .int x3)] [] M := by
  unfold f_X11_stand at h
  refine e_aload_n C 0 dX11_stand_0 rfl rfl ?_
  refine e_iload_n C 1 dX11_stand_1 rfl rfl ?_
  obtain ⟨o3, h⟩ := h
  refine e_callV (as := [.int x1]) C wb_X11_orderAt wv_X11_131 (ci := 11) rfl rfl (isO_1 o3) (m_X11_orderAt h) rfl ⟨Nat.le_of_ble_eq_true rfl, Nat.le_of_ble_eq_true rfl⟩ ⟨Nat.le_of_ble_eq_true rfl, Nat.le_of_ble_eq_true rfl⟩ (by first | exact Nat.le_of_ble_eq_true rfl | (simp only [List.map_cons, List.map_nil, va_cat, List.sum_cons, List.sum_nil]; exact Nat.le_of_ble_eq_true rfl)) dX11_stand_2 (kA (fun w1 M2 h25 => ?_))
  refine e_rstore (al' := [(4, va_rf w1), (0, .ref a0), (1, .int x1), (2, .int x2), (3, .int x3)]) C dX11_stand_5 (by decide) rfl ?_
  refine e_rload C 0 dX11_stand_7 rfl ?_
  refine e_ifnull (tgt := 21) C dX11_stand_9 (by decide) (fun q4 => ?_) (fun b5 q4 => ?_)
  · replace h25 := h25.1 q4
    subst q4
    refine e_iconst (v := -1) C dX11_stand_21 (by decide) ?_
    exact e_iret C hr hlk (Nat.le_refl _) (Nat.le_refl _) dX11_stand_22 ⟨_, rfl, h25⟩
  · replace h25 := h25.2 b5 q4
    subst q4
    refine e_iload_n C 3 dX11_stand_12 rfl rfl ?_
    refine e_iconst (v := 0) C dX11_stand_13 (by decide) ?_
    refine e_iconst (v := 1) C dX11_stand_14 (by decide) ?_
    refine e_callS (as := [.int x2, .int (0 : Int32), .int (1 : Int32)]) C wb_X11_outside wt_X11_77 (m_X11_outside h25) rfl ⟨Nat.le_of_ble_eq_true rfl, Nat.le_of_ble_eq_true rfl⟩ ⟨Nat.le_of_ble_eq_true rfl, Nat.le_of_ble_eq_true rfl⟩ (by first | exact Nat.le_of_ble_eq_true rfl | (simp only [List.map_cons, List.map_nil, va_cat, List.sum_cons, List.sum_nil]; exact Nat.le_of_ble_eq_true rfl)) dX11_stand_15 (kZ (fun w6 M7 h24 => ?_))
    refine e_if_eq (tgt := 23) C dX11_stand_18 (by decide) (fun q8 => ?_) (fun q8 => ?_)
    · replace h24 := ite_f h24 (bi_ne q8)
      refine e_iload_n C 4 dX11_stand_23 rfl rfl ?_
      refine e_iconst (v := 0) C dX11_stand_24 (by decide) ?_
      refine e_bipush (v := 99) C dX11_stand_25 (by decide) ?_
      refine e_callS (as := [.int x3, .int (0 : Int32), .int (99 : Int32)]) C wb_X11_outside wt_X11_77 (m_X11_outside h24) rfl ⟨Nat.le_of_ble_eq_true rfl, Nat.le_of_ble_eq_true rfl⟩ ⟨Nat.le_of_ble_eq_true rfl, Nat.le_of_ble_eq_true rfl⟩ (by first | exact Nat.le_of_ble_eq_true rfl | (simp only [List.map_cons, List.map_nil, va_cat, List.sum_cons, List.sum_nil]; exact Nat.le_of_ble_eq_true rfl)) dX11_stand_27 (kZ (fun w9 M10 h23 => ?_))
      refine e_if_eq (tgt := 36) C dX11_stand_30 (by decide) (fun q11 => ?_) (fun q11 => ?_)
      · replace h23 := ite_f h23 (bi_ne q11)
        refine e_aload_n C 1 dX11_stand_36 rfl rfl ?_
        refine e_aload C 0 dX11_stand_37 rfl ?_
        obtain ⟨o14, h23⟩ := h23
        refine e_callV (as := [.ref b5]) C wb_X11_goThrough wv_X11_140 (ci := 11) rfl rfl (isO_1 o14) (m_X11_goThrough h23) rfl ⟨Nat.le_of_ble_eq_true rfl, Nat.le_of_ble_eq_true rfl⟩ ⟨Nat.le_of_ble_eq_true rfl, Nat.le_of_ble_eq_true rfl⟩ (by first | exact Nat.le_of_ble_eq_true rfl | (simp only [List.map_cons, List.map_nil, va_cat, List.sum_cons, List.sum_nil]; exact Nat.le_of_ble_eq_true rfl)) dX11_stand_39 (kV (fun M13 h22 => ?_))
        refine e_aload_n C 1 dX11_stand_42 rfl rfl ?_
        obtain ⟨o15, h22⟩ := h22
        refine e_getR C [11] 16 (fg_of fg_X11_62) o15 dX11_stand_43 ?_
        refine e_iload_n C 3 dX11_stand_46 rfl rfl ?_
        refine e_iload_n C 4 dX11_stand_47 rfl rfl ?_
        obtain ⟨b16, p17, h22⟩ := h22
        try rw [p17]
        obtain ⟨o20, h22⟩ := h22
        refine e_callV (as := [.int x2, .int x3]) C wb_X3_stoodAt wv_X11_191 (ci := 3) rfl rfl (isO_1 o20) (m_X3_stoodAt h22) rfl ⟨Nat.le_of_ble_eq_true rfl, Nat.le_of_ble_eq_true rfl⟩ ⟨Nat.le_of_ble_eq_true rfl, Nat.le_of_ble_eq_true rfl⟩ (by first | exact Nat.le_of_ble_eq_true rfl | (simp only [List.map_cons, List.map_nil, va_cat, List.sum_cons, List.sum_nil]; exact Nat.le_of_ble_eq_true rfl)) dX11_stand_48 (kI (fun w18 M19 h21 => ?_))
        exact e_iret C hr hlk (Nat.le_refl _) (Nat.le_refl _) dX11_stand_51 ⟨_, rfl, h21⟩
      · replace h23 := ite_t h23 (bi_t q11)
        refine e_bipush (v := -2) C dX11_stand_33 (by decide) ?_
        exact e_iret C hr hlk (Nat.le_refl _) (Nat.le_refl _) dX11_stand_35 ⟨_, rfl, h23⟩
    · replace h24 := ite_t h24 (bi_t q8)
      refine e_iconst (v := -1) C dX11_stand_21 (by decide) ?_
      exact e_iret C hr hlk (Nat.le_refl _) (Nat.le_refl _) dX11_stand_22 ⟨_, rfl, h24⟩
theorem m_X11_stand  {a0 : Nat} {x1 : Int32} {x2 : Int32} {x3 : Int32} {M : Mem} {Q : Int32 → Mem → Prop} (h : f_X11_stand a0 x1 x2 x3 M Q) : Con yX11_stand cX11_stand 5 (some .int) 8 0 0 [.ref a0, .int x1, .int x2, .int x3] M (rI Q) :=
  con_of2 (al := [(0, .ref a0), (1, .int x1), (2, .int x2), (3, .int x3)]) (by decide) (by exact Nat.le_of_ble_eq_true rfl) (by rfl) (fun p l e s m args below meth c g C hr hlk _ => w_X11_stand C hr hlk h)
