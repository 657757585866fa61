/-! ===== generated: the machine keeps f_ ===== -/
set_option maxHeartbeats 4000000 in
set_option maxRecDepth 100000 in
theorem w_X12_isTape {p : Program} {l : Launch} {e : Env} {s : State} {m : MethodId} {args : Array Value} {below : List Frame} {meth : Method} {c : Code} {g : Geo} (C : Cx p s m args c cX12_isTape RX12 2 g) (hr : meth.sig.returnType = (some .boolean)) (hlk : meth.locks = false) {a0 : Nat} {x1 : Int32} {M : Mem} {Q : Bool → Mem → Prop} (h : f_X12_isTape a0 x1 M Q) : E p l e (rmO 2 0 0) s m args below meth c g 2 (MQ below (QcM g (rZ Q)) args s 0 0 (gA g)) 0 0 0 [(0, .ref a0), (1, .int x1)] [] M := by
  unfold f_X12_isTape at h
  refine e_aload_n C 0 dX12_isTape_0 rfl rfl ?_
  refine e_iload_n C 1 dX12_isTape_1 rfl rfl ?_
  refine e_iconst (v := 0) C dX12_isTape_2 (by decide) ?_
  refine e_iconst (v := 5) C dX12_isTape_3 (by decide) ?_
  obtain ⟨o3, h⟩ := h
  refine e_callV (as := [.int x1, .int (0 : Int32), .int (5 : Int32)]) C wb_X12_in wv_X12_215 (ci := 12) rfl rfl (isO_1 o3) (m_X12_in h) rfl ⟨Nat.le_of_ble_eq_true rfl, Nat.le_of_ble_eq_true rfl⟩ ⟨Nat.le_of_ble_eq_true rfl, Nat.le_of_ble_eq_true rfl⟩ (by first | exact Nat.le_of_ble_eq_true rfl | (simp only [List.map_cons, List.map_nil, va_cat, List.sum_cons, List.sum_nil]; exact Nat.le_of_ble_eq_true rfl)) dX12_isTape_4 (kZ (fun w1 M2 h4 => ?_))
  exact e_zret C hr (bi_nar _) hlk (Nat.le_refl _) (Nat.le_refl _) dX12_isTape_7 ⟨_, rfl, h4⟩
theorem m_X12_isTape  {a0 : Nat} {x1 : Int32} {M : Mem} {Q : Bool → Mem → Prop} (h : f_X12_isTape a0 x1 M Q) : Con yX12_isTape cX12_isTape 2 (some .boolean) 2 0 0 [.ref a0, .int x1] M (rZ Q) :=
  con_of2 (al := [(0, .ref a0), (1, .int x1)]) (by decide) (by exact Nat.le_of_ble_eq_true rfl) (by rfl) (fun p l e s m args below meth c g C hr hlk _ => w_X12_isTape C hr hlk h)
set_option maxHeartbeats 4000000 in
set_option maxRecDepth 100000 in
theorem w_X12_judge_J88 {p : Program} {l : Launch} {e : Env} {s : State} {m : MethodId} {args : Array Value} {below : List Frame} {meth : Method} {c : Code} {g : Geo} (C : Cx p s m args c cX12_judge RX12 6 g) (hr : meth.sig.returnType = (some .int)) (hlk : meth.locks = false) {a0 : Nat} {x1 : Int32} {x2 : Int32} {x3 : Int32} {x4 : Int32} {v5 : Int32} {M : Mem} {Q : Int32 → Mem → Prop} (h : f_X12_judge_J88 a0 x1 x2 x3 x4 v5 M Q) : E p l e (rmO 7 0 0) s m args below meth c g 6 (MQ below (QcM g (rI Q)) args s 0 0 (gA g)) 0 0 88 [(0, .ref a0), (1, .int x1), (2, .int x2), (3, .int x3), (4, .int x4), (5, .int v5)] [] M := by
  unfold f_X12_judge_J88 at h
  refine e_bipush (v := 100) C dX12_judge_88 (by decide) ?_
  refine e_iload C 5 dX12_judge_90 rfl ?_
  refine e_iadd C dX12_judge_92 ?_
  exact e_iret C hr hlk (Nat.le_refl _) (Nat.le_refl _) dX12_judge_93 ⟨_, rfl, h⟩
set_option maxHeartbeats 4000000 in
set_option maxRecDepth 100000 in
theorem w_X12_judge_B54 {p : Program} {l : Launch} {e : Env} {s : State} {m : MethodId} {args : Array Value} {below : List Frame} {meth : Method} {c : Code} {g : Geo} (C : Cx p s m args c cX12_judge RX12 6 g) (hr : meth.sig.returnType = (some .int)) (hlk : meth.locks = false) {a0 : Nat} {x1 : Int32} {x2 : Int32} {x3 : Int32} {x4 : Int32} {v5 : Int32} {M : Mem} {K54 : Int32 × Mem → Prop} {Q : Int32 → Mem → Prop} (hK54 : ∀ z : Int32 × Mem, K54 z → E p l e (rmO 7 0 0) s m args below meth c g 6 (MQ below (QcM g (rI Q)) args s 0 0 (gA g)) 0 0 54 [(0, .ref a0), (1, .int x1), (2, .int x2), (3, .int x3), (4, .int x4), (5, .int z.1)] [] (z.2)) (h : f_X12_judge_B54 a0 x1 x2 x3 x4 v5 M K54 Q) : E p l e (rmO 7 0 0) s m args below meth c g 6 (MQ below (QcM g (rI Q)) args s 0 0 (gA g)) 0 0 54 [(0, .ref a0), (1, .int x1), (2, .int x2), (3, .int x3), (4, .int x4), (5, .int v5)] [] M := by
  unfold f_X12_judge_B54 at h
  refine e_iload C 5 dX12_judge_54 rfl ?_
  refine e_iload_n C 3 dX12_judge_56 rfl rfl ?_
  refine e_icmp_ge (tgt := 143) C dX12_judge_57 (by decide) (fun q1 => ?_) (fun q1 => ?_)
  · replace h := ite_t h q1
    refine e_bipush (v := -5) C dX12_judge_143 (by decide) ?_
    exact e_iret C hr hlk (Nat.le_refl _) (Nat.le_refl _) dX12_judge_145 ⟨_, rfl, h⟩
  · replace h := ite_f h q1
    refine e_aload_n C 0 dX12_judge_60 rfl rfl ?_
    obtain ⟨o2, h⟩ := h
    refine e_getR C [12] 63 (fg_of fg_X12_202) o2 dX12_judge_61 ?_
    refine e_iload_n C 1 dX12_judge_64 rfl rfl ?_
    obtain ⟨b3, p4, h⟩ := h
    try rw [p4]
    obtain ⟨o5, h⟩ := h
    refine e_iald C o5 dX12_judge_65 ?_
    refine e_if_lt (tgt := 88) C dX12_judge_66 (by decide) (fun q6 => ?_) (fun q6 => ?_)
    · replace h := ite_t h q6
      exact w_X12_judge_J88 C hr hlk h
    · replace h := ite_f h q6
      refine e_iload_n C 2 dX12_judge_69 rfl rfl ?_
      refine e_if_lt (tgt := 88) C dX12_judge_70 (by decide) (fun q7 => ?_) (fun q7 => ?_)
      · replace h := ite_t h q7
        exact w_X12_judge_J88 C hr hlk h
      · replace h := ite_f h q7
        refine e_iload_n C 2 dX12_judge_73 rfl rfl ?_
        refine e_aload_n C 0 dX12_judge_74 rfl rfl ?_
        refine e_getR C [12] 64 (fg_of fg_X12_205) o2 dX12_judge_75 ?_
        refine e_iload_n C 1 dX12_judge_78 rfl rfl ?_
        obtain ⟨b8, p9, h⟩ := h
        try rw [p9]
        obtain ⟨o10, h⟩ := h
        refine e_iald C o10 dX12_judge_79 ?_
        refine e_iload C 5 dX12_judge_80 rfl ?_
        refine e_isub C dX12_judge_82 ?_
        refine e_iconst (v := 1) C dX12_judge_83 (by decide) ?_
        refine e_isub C dX12_judge_84 ?_
        refine e_icmp_le (tgt := 94) C dX12_judge_85 (by decide) (fun q11 => ?_) (fun q11 => ?_)
        · replace h := ite_t h q11
          refine e_iload C 5 dX12_judge_94 rfl ?_
          refine e_aload_n C 0 dX12_judge_96 rfl rfl ?_
          refine e_getI C [12] 32 (fg_of fg_X12_108) o2 dX12_judge_97 ?_
          refine e_icmp_ge (tgt := 134) C dX12_judge_100 (by decide) (fun q12 => ?_) (fun q12 => ?_)
          · replace h := ite_t h q12
            refine e_iload C 5 dX12_judge_134 rfl ?_
            exact e_iret C hr hlk (Nat.le_refl _) (Nat.le_refl _) dX12_judge_136 ⟨_, rfl, h⟩
          · replace h := ite_f h q12
            refine e_aload_n C 0 dX12_judge_103 rfl rfl ?_
            refine e_getR C [12] 65 (fg_of fg_X12_208) o2 dX12_judge_104 ?_
            refine e_bipush (v := 60) C dX12_judge_107 (by decide) ?_
            refine e_iload_n C 1 dX12_judge_109 rfl rfl ?_
            refine e_imul C dX12_judge_110 ?_
            refine e_iload_n C 2 dX12_judge_111 rfl rfl ?_
            refine e_iadd C dX12_judge_112 ?_
            refine e_iload C 5 dX12_judge_113 rfl ?_
            refine e_iadd C dX12_judge_115 ?_
            obtain ⟨b13, p14, h⟩ := h
            try rw [p14]
            obtain ⟨o15, h⟩ := h
            refine e_lald C o15 dX12_judge_116 ?_
            refine e_aload_n C 0 dX12_judge_117 rfl rfl ?_
            refine e_getR C [12] 41 (fg_of fg_X12_135) o2 dX12_judge_118 ?_
            refine e_aload_n C 0 dX12_judge_121 rfl rfl ?_
            refine e_getR C [12] 50 (fg_of fg_X12_162) o2 dX12_judge_122 ?_
            refine e_iload C 5 dX12_judge_125 rfl ?_
            obtain ⟨b16, p17, h⟩ := h
            try rw [p17]
            obtain ⟨o18, h⟩ := h
            refine e_iald C o18 dX12_judge_127 ?_
            obtain ⟨b19, p20, h⟩ := h
            try rw [p20]
            obtain ⟨o21, h⟩ := h
            refine e_iald C o21 dX12_judge_128 ?_
            refine e_i2l C dX12_judge_129 ?_
            refine e_lcmp C dX12_judge_130 ?_
            refine e_if_eq (tgt := 137) C dX12_judge_131 (by decide) (fun q22 => ?_) (fun q22 => ?_)
            · replace h := ite_t h q22
              refine e_iinc (v := (v5 + 1)) (al' := [(5, .int (v5 + 1)), (0, .ref a0), (1, .int x1), (2, .int x2), (3, .int x3), (4, .int x4)]) C 5 dX12_judge_137 rfl rfl (by decide) rfl ?_
              refine e_goto (tgt := 54) C dX12_judge_140 (by decide) ?_
              refine e_pick [1, 2, 3, 4, 5, 0] rfl ?_
              exact hK54 ((v5 + 1), M) h
            · replace h := ite_f h q22
              refine e_iload C 5 dX12_judge_134 rfl ?_
              exact e_iret C hr hlk (Nat.le_refl _) (Nat.le_refl _) dX12_judge_136 ⟨_, rfl, h⟩
        · replace h := ite_f h q11
          exact w_X12_judge_J88 C hr hlk h
set_option maxHeartbeats 4000000 in
set_option maxRecDepth 100000 in
theorem w_X12_judge_L54 {p : Program} {l : Launch} {e : Env} {s : State} {m : MethodId} {args : Array Value} {below : List Frame} {meth : Method} {c : Code} {g : Geo} (C : Cx p s m args c cX12_judge RX12 6 g) (hr : meth.sig.returnType = (some .int)) (hlk : meth.locks = false) {a0 : Nat} {x1 : Int32} {x2 : Int32} {x3 : Int32} {x4 : Int32} {v5 : Int32} {M : Mem} {Q : Int32 → Mem → Prop} (h : f_X12_judge_L54 a0 x1 x2 x3 x4 v5 M Q) : E p l e (rmO 7 0 0) s m args below meth c g 6 (MQ below (QcM g (rI Q)) args s 0 0 (gA g)) 0 0 54 [(0, .ref a0), (1, .int x1), (2, .int x2), (3, .int x3), (4, .int x4), (5, .int v5)] [] M := by
  unfold f_X12_judge_L54 at h
  refine loop_E (W := fun z : Int32 × Mem => E p l e (rmO 7 0 0) s m args below meth c g 6 (MQ below (QcM g (rI Q)) args s 0 0 (gA g)) 0 0 54 [(0, .ref a0), (1, .int x1), (2, .int x2), (3, .int x3), (4, .int x4), (5, .int z.1)] [] (z.2)) h (fun K z hK h => ?_)
  exact w_X12_judge_B54 C hr hlk hK h
set_option maxHeartbeats 4000000 in
set_option maxRecDepth 100000 in
theorem w_X12_judge {p : Program} {l : Launch} {e : Env} {s : State} {m : MethodId} {args : Array Value} {below : List Frame} {meth : Method} {c : Code} {g : Geo} (C : Cx p s m args c cX12_judge RX12 6 g) (hr : meth.sig.returnType = (some .int)) (hlk : meth.locks = false) {a0 : Nat} {x1 : Int32} {x2 : Int32} {x3 : Int32} {x4 : Int32} {M : Mem} {Q : Int32 → Mem → Prop} (h : f_X12_judge a0 x1 x2 x3 x4 M Q) : E p l e (rmO 7 0 0) s m args below meth c g 6 (MQ below (QcM g (rI Q)) args s 0 0 (gA g)) 0 0 0 [(0, .ref a0), (1, .int x1), (2, .int x2), (3, .int x3), (4, .int x4)] [] M := by
  unfold f_X12_judge at h
  refine e_aload_n C 0 dX12_judge_0 rfl rfl ?_
  refine e_iload_n C 1 dX12_judge_1 rfl rfl ?_
  obtain ⟨o3, h⟩ := h
  refine e_callV (as := [.int x1]) C wb_X12_isTape wv_X12_354 (ci := 12) rfl rfl (isO_1 o3) (m_X12_isTape h) rfl ⟨Nat.le_of_ble_eq_true rfl, Nat.le_of_ble_eq_true rfl⟩ ⟨Nat.le_of_ble_eq_true rfl, Nat.le_of_ble_eq_true rfl⟩ (by first | exact Nat.le_of_ble_eq_true rfl | (simp only [List.map_cons, List.map_nil, va_cat, List.sum_cons, List.sum_nil]; exact Nat.le_of_ble_eq_true rfl)) dX12_judge_2 (kZ (fun w1 M2 h23 => ?_))
  refine e_if_eq (tgt := 17) C dX12_judge_5 (by decide) (fun q4 => ?_) (fun q4 => ?_)
  · replace h23 := ite_f h23 (bi_ne q4)
    refine e_iconst (v := -1) C dX12_judge_17 (by decide) ?_
    exact e_iret C hr hlk (Nat.le_refl _) (Nat.le_refl _) dX12_judge_18 ⟨_, rfl, h23⟩
  · replace h23 := ite_t h23 (bi_t q4)
    refine e_aload_n C 0 dX12_judge_8 rfl rfl ?_
    refine e_iload C 4 dX12_judge_9 rfl ?_
    obtain ⟨o7, h23⟩ := h23
    refine e_callV (as := [.int x4]) C wb_X12_isOrder wv_X12_294 (ci := 12) rfl rfl (isO_1 o7) (m_X12_isOrder h23) rfl ⟨Nat.le_of_ble_eq_true rfl, Nat.le_of_ble_eq_true rfl⟩ ⟨Nat.le_of_ble_eq_true rfl, Nat.le_of_ble_eq_true rfl⟩ (by first | exact Nat.le_of_ble_eq_true rfl | (simp only [List.map_cons, List.map_nil, va_cat, List.sum_cons, List.sum_nil]; exact Nat.le_of_ble_eq_true rfl)) dX12_judge_11 (kZ (fun w5 M6 h22 => ?_))
    refine e_if_ne (tgt := 19) C dX12_judge_14 (by decide) (fun q8 => ?_) (fun q8 => ?_)
    · replace h22 := ite_t h22 (bi_t q8)
      refine e_aload_n C 0 dX12_judge_19 rfl rfl ?_
      refine e_iload_n C 3 dX12_judge_20 rfl rfl ?_
      refine e_iconst (v := 0) C dX12_judge_21 (by decide) ?_
      refine e_bipush (v := 40) C dX12_judge_22 (by decide) ?_
      obtain ⟨o11, h22⟩ := h22
      refine e_callV (as := [.int x3, .int (0 : Int32), .int (40 : Int32)]) C wb_X12_in wv_X12_215 (ci := 12) rfl rfl (isO_1 o11) (m_X12_in h22) rfl ⟨Nat.le_of_ble_eq_true rfl, Nat.le_of_ble_eq_true rfl⟩ ⟨Nat.le_of_ble_eq_true rfl, Nat.le_of_ble_eq_true rfl⟩ (by first | exact Nat.le_of_ble_eq_true rfl | (simp only [List.map_cons, List.map_nil, va_cat, List.sum_cons, List.sum_nil]; exact Nat.le_of_ble_eq_true rfl)) dX12_judge_24 (kZ (fun w9 M10 h21 => ?_))
      refine e_if_ne (tgt := 33) C dX12_judge_27 (by decide) (fun q12 => ?_) (fun q12 => ?_)
      · replace h21 := ite_t h21 (bi_t q12)
        refine e_aload_n C 0 dX12_judge_33 rfl rfl ?_
        obtain ⟨o13, h21⟩ := h21
        refine e_getR C [12] 63 (fg_of fg_X12_202) o13 dX12_judge_34 ?_
        refine e_iload_n C 1 dX12_judge_37 rfl rfl ?_
        obtain ⟨b14, p15, h21⟩ := h21
        try rw [p15]
        obtain ⟨o16, h21⟩ := h21
        refine e_iald C o16 dX12_judge_38 ?_
        refine e_if_le (tgt := 45) C dX12_judge_39 (by decide) (fun q17 => ?_) (fun q17 => ?_)
        · replace h21 := ite_t h21 q17
          refine e_aload_n C 0 dX12_judge_45 rfl rfl ?_
          refine e_iload C 4 dX12_judge_46 rfl ?_
          refine e_callV (as := [.int x4]) C wb_X12_goPlainly wv_X12_329 (ci := 12) rfl rfl (isO_1 o13) (m_X12_goPlainly h21) rfl ⟨Nat.le_of_ble_eq_true rfl, Nat.le_of_ble_eq_true rfl⟩ ⟨Nat.le_of_ble_eq_true rfl, Nat.le_of_ble_eq_true rfl⟩ (by first | exact Nat.le_of_ble_eq_true rfl | (simp only [List.map_cons, List.map_nil, va_cat, List.sum_cons, List.sum_nil]; exact Nat.le_of_ble_eq_true rfl)) dX12_judge_48 (kV (fun M19 h20 => ?_))
          refine e_iconst (v := 0) C dX12_judge_51 (by decide) ?_
          refine e_istore (al' := [(5, .int (0 : Int32)), (0, .ref a0), (1, .int x1), (2, .int x2), (3, .int x3), (4, .int x4)]) C dX12_judge_52 (by decide) rfl ?_
          refine e_pick [1, 2, 3, 4, 5, 0] rfl ?_
          exact w_X12_judge_L54 C hr hlk h20
        · replace h21 := ite_f h21 q17
          refine e_bipush (v := -12) C dX12_judge_42 (by decide) ?_
          exact e_iret C hr hlk (Nat.le_refl _) (Nat.le_refl _) dX12_judge_44 ⟨_, rfl, h21⟩
      · replace h21 := ite_f h21 (bi_ne q12)
        refine e_bipush (v := -2) C dX12_judge_30 (by decide) ?_
        exact e_iret C hr hlk (Nat.le_refl _) (Nat.le_refl _) dX12_judge_32 ⟨_, rfl, h21⟩
    · replace h22 := ite_f h22 (bi_ne q8)
      refine e_iconst (v := -1) C dX12_judge_17 (by decide) ?_
      exact e_iret C hr hlk (Nat.le_refl _) (Nat.le_refl _) dX12_judge_18 ⟨_, rfl, h22⟩
theorem m_X12_judge  {a0 : Nat} {x1 : Int32} {x2 : Int32} {x3 : Int32} {x4 : Int32} {M : Mem} {Q : Int32 → Mem → Prop} (h : f_X12_judge a0 x1 x2 x3 x4 M Q) : Con yX12_judge cX12_judge 6 (some .int) 7 0 0 [.ref a0, .int x1, .int x2, .int x3, .int x4] M (rI Q) :=
  con_of2 (al := [(0, .ref a0), (1, .int x1), (2, .int x2), (3, .int x3), (4, .int x4)]) (by decide) (by exact Nat.le_of_ble_eq_true rfl) (by rfl) (fun p l e s m args below meth c g C hr hlk _ => w_X12_judge C hr hlk h)
set_option maxHeartbeats 4000000 in
set_option maxRecDepth 100000 in
theorem w_X12_image_B57 {p : Program} {l : Launch} {e : Env} {s : State} {m : MethodId} {args : Array Value} {below : List Frame} {meth : Method} {c : Code} {g : Geo} (C : Cx p s m args c cX12_image RX12 2 g) (hr : meth.sig.returnType = (some .int)) (hlk : meth.locks = false) {a0 : Nat} {v1 : Int32} {M : Mem} {K57 : Int32 × Mem → Prop} {Q : Int32 → Mem → Prop} (hK57 : ∀ z : Int32 × Mem, K57 z → E p l e (rmO 1 0 0) s m args below meth c g 2 (MQ below (QcM g (rI Q)) args s 0 0 (gA g)) 0 0 57 [(0, .ref a0), (1, .int z.1)] [] (z.2)) (h : f_X12_image_B57 a0 v1 M K57 Q) : E p l e (rmO 1 0 0) s m args below meth c g 2 (MQ below (QcM g (rI Q)) args s 0 0 (gA g)) 0 0 57 [(0, .ref a0), (1, .int v1)] [] M := by
  unfold f_X12_image_B57 at h
  refine e_iload_n C 1 dX12_image_57 rfl rfl ?_
  refine e_bipush (v := 12) C dX12_image_58 (by decide) ?_
  refine e_icmp_ge (tgt := 93) C dX12_image_60 (by decide) (fun q1 => ?_) (fun q1 => ?_)
  · replace h := ite_t h q1
    refine e_aload_n C 0 dX12_image_93 rfl rfl ?_
    obtain ⟨o2, h⟩ := h
    refine e_getI C [12] 1 (fg_of fg_X12_13) o2 dX12_image_94 ?_
    exact e_iret C hr hlk (Nat.le_refl _) (Nat.le_refl _) dX12_image_97 ⟨_, rfl, h⟩
  · replace h := ite_f h q1
    refine e_aload_n C 0 dX12_image_63 rfl rfl ?_
    obtain ⟨o3, h⟩ := h
    refine e_getR C [12] 59 (fg_of fg_X12_190) o3 dX12_image_64 ?_
    refine e_iload_n C 1 dX12_image_67 rfl rfl ?_
    refine e_aload_n C 0 dX12_image_68 rfl rfl ?_
    refine e_getR C [12] 7 (fg_of fg_X12_32) o3 dX12_image_69 ?_
    refine e_iload_n C 1 dX12_image_72 rfl rfl ?_
    obtain ⟨b4, p5, h⟩ := h
    try rw [p5]
    obtain ⟨o6, h⟩ := h
    refine e_iald C o6 dX12_image_73 ?_
    obtain ⟨b7, p8, h⟩ := h
    try rw [p8]
    obtain ⟨o9, h⟩ := h
    refine e_iast C o9 dX12_image_74 ?_
    refine nmE (fun M10 e11 => ?_)
    replace h := h M10 e11
    have o12 : isO M10 a0 [12] := by rw [e11]; exact o3
    have p13 : mP M10 a0 7 = some b4 := by rw [e11]; exact p5
    have p14 : mP M10 a0 59 = some b7 := by rw [e11]; exact p8
    refine e_aload_n C 0 dX12_image_75 rfl rfl ?_
    refine e_getR C [12] 60 (fg_of fg_X12_193) o12 dX12_image_76 ?_
    refine e_iload_n C 1 dX12_image_79 rfl rfl ?_
    refine e_aload_n C 0 dX12_image_80 rfl rfl ?_
    refine e_getR C [12] 8 (fg_of fg_X12_35) o12 dX12_image_81 ?_
    refine e_iload_n C 1 dX12_image_84 rfl rfl ?_
    obtain ⟨b15, p16, h⟩ := h
    try rw [p16]
    obtain ⟨o17, h⟩ := h
    refine e_iald C o17 dX12_image_85 ?_
    obtain ⟨b18, p19, h⟩ := h
    try rw [p19]
    obtain ⟨o20, h⟩ := h
    refine e_iast C o20 dX12_image_86 ?_
    refine nmE (fun M21 e22 => ?_)
    replace h := h M21 e22
    have o23 : isO M21 a0 [12] := by rw [e22]; exact o12
    have p24 : mP M21 a0 7 = some b4 := by rw [e22]; exact p13
    have p25 : mP M21 a0 59 = some b7 := by rw [e22]; exact p14
    have p26 : mP M21 a0 8 = some b15 := by rw [e22]; exact p16
    have p27 : mP M21 a0 60 = some b18 := by rw [e22]; exact p19
    refine e_iinc (v := (v1 + 1)) (al' := [(1, .int (v1 + 1)), (0, .ref a0)]) C 1 dX12_image_87 rfl rfl (by decide) rfl ?_
    refine e_goto (tgt := 57) C dX12_image_90 (by decide) ?_
    refine e_pick [1, 0] rfl ?_
    exact hK57 ((v1 + 1), M21) h
set_option maxHeartbeats 4000000 in
set_option maxRecDepth 100000 in
theorem w_X12_image_L57 {p : Program} {l : Launch} {e : Env} {s : State} {m : MethodId} {args : Array Value} {below : List Frame} {meth : Method} {c : Code} {g : Geo} (C : Cx p s m args c cX12_image RX12 2 g) (hr : meth.sig.returnType = (some .int)) (hlk : meth.locks = false) {a0 : Nat} {v1 : Int32} {M : Mem} {Q : Int32 → Mem → Prop} (h : f_X12_image_L57 a0 v1 M Q) : E p l e (rmO 1 0 0) s m args below meth c g 2 (MQ below (QcM g (rI Q)) args s 0 0 (gA g)) 0 0 57 [(0, .ref a0), (1, .int v1)] [] M := by
  unfold f_X12_image_L57 at h
  refine loop_E (W := fun z : Int32 × Mem => E p l e (rmO 1 0 0) s m args below meth c g 2 (MQ below (QcM g (rI Q)) args s 0 0 (gA g)) 0 0 57 [(0, .ref a0), (1, .int z.1)] [] (z.2)) h (fun K z hK h => ?_)
  exact w_X12_image_B57 C hr hlk hK h
set_option maxHeartbeats 4000000 in
set_option maxRecDepth 100000 in
theorem w_X12_image_B31 {p : Program} {l : Launch} {e : Env} {s : State} {m : MethodId} {args : Array Value} {below : List Frame} {meth : Method} {c : Code} {g : Geo} (C : Cx p s m args c cX12_image RX12 2 g) (hr : meth.sig.returnType = (some .int)) (hlk : meth.locks = false) {a0 : Nat} {v1 : Int32} {M : Mem} {K31 : Int32 × Mem → Prop} {Q : Int32 → Mem → Prop} (hK31 : ∀ z : Int32 × Mem, K31 z → E p l e (rmO 1 0 0) s m args below meth c g 2 (MQ below (QcM g (rI Q)) args s 0 0 (gA g)) 0 0 31 [(0, .ref a0), (1, .int z.1)] [] (z.2)) (h : f_X12_image_B31 a0 v1 M K31 Q) : E p l e (rmO 1 0 0) s m args below meth c g 2 (MQ below (QcM g (rI Q)) args s 0 0 (gA g)) 0 0 31 [(0, .ref a0), (1, .int v1)] [] M := by
  unfold f_X12_image_B31 at h
  refine e_iload_n C 1 dX12_image_31 rfl rfl ?_
  refine e_bipush (v := 6) C dX12_image_32 (by decide) ?_
  refine e_icmp_ge (tgt := 55) C dX12_image_34 (by decide) (fun q1 => ?_) (fun q1 => ?_)
  · replace h := ite_t h q1
    refine e_iconst (v := 0) C dX12_image_55 (by decide) ?_
    refine e_istore_n (al' := [(1, .int (0 : Int32)), (0, .ref a0)]) C dX12_image_56 rfl (by decide) rfl ?_
    refine e_pick [1, 0] rfl ?_
    exact w_X12_image_L57 C hr hlk h
  · replace h := ite_f h q1
    refine e_aload_n C 0 dX12_image_37 rfl rfl ?_
    obtain ⟨o2, h⟩ := h
    refine e_getR C [12] 58 (fg_of fg_X12_187) o2 dX12_image_38 ?_
    refine e_iload_n C 1 dX12_image_41 rfl rfl ?_
    refine e_aload_n C 0 dX12_image_42 rfl rfl ?_
    refine e_getR C [12] 6 (fg_of fg_X12_29) o2 dX12_image_43 ?_
    refine e_iload_n C 1 dX12_image_46 rfl rfl ?_
    obtain ⟨b3, p4, h⟩ := h
    try rw [p4]
    obtain ⟨o5, h⟩ := h
    refine e_iald C o5 dX12_image_47 ?_
    obtain ⟨b6, p7, h⟩ := h
    try rw [p7]
    obtain ⟨o8, h⟩ := h
    refine e_iast C o8 dX12_image_48 ?_
    refine nmE (fun M9 e10 => ?_)
    replace h := h M9 e10
    have o11 : isO M9 a0 [12] := by rw [e10]; exact o2
    have p12 : mP M9 a0 6 = some b3 := by rw [e10]; exact p4
    have p13 : mP M9 a0 58 = some b6 := by rw [e10]; exact p7
    refine e_iinc (v := (v1 + 1)) (al' := [(1, .int (v1 + 1)), (0, .ref a0)]) C 1 dX12_image_49 rfl rfl (by decide) rfl ?_
    refine e_goto (tgt := 31) C dX12_image_52 (by decide) ?_
    refine e_pick [1, 0] rfl ?_
    exact hK31 ((v1 + 1), M9) h
set_option maxHeartbeats 4000000 in
set_option maxRecDepth 100000 in
theorem w_X12_image_L31 {p : Program} {l : Launch} {e : Env} {s : State} {m : MethodId} {args : Array Value} {below : List Frame} {meth : Method} {c : Code} {g : Geo} (C : Cx p s m args c cX12_image RX12 2 g) (hr : meth.sig.returnType = (some .int)) (hlk : meth.locks = false) {a0 : Nat} {v1 : Int32} {M : Mem} {Q : Int32 → Mem → Prop} (h : f_X12_image_L31 a0 v1 M Q) : E p l e (rmO 1 0 0) s m args below meth c g 2 (MQ below (QcM g (rI Q)) args s 0 0 (gA g)) 0 0 31 [(0, .ref a0), (1, .int v1)] [] M := by
  unfold f_X12_image_L31 at h
  refine loop_E (W := fun z : Int32 × Mem => E p l e (rmO 1 0 0) s m args below meth c g 2 (MQ below (QcM g (rI Q)) args s 0 0 (gA g)) 0 0 31 [(0, .ref a0), (1, .int z.1)] [] (z.2)) h (fun K z hK h => ?_)
  exact w_X12_image_B31 C hr hlk hK h
set_option maxHeartbeats 4000000 in
set_option maxRecDepth 100000 in
theorem w_X12_image {p : Program} {l : Launch} {e : Env} {s : State} {m : MethodId} {args : Array Value} {below : List Frame} {meth : Method} {c : Code} {g : Geo} (C : Cx p s m args c cX12_image RX12 2 g) (hr : meth.sig.returnType = (some .int)) (hlk : meth.locks = false) {a0 : Nat} {M : Mem} {Q : Int32 → Mem → Prop} (h : f_X12_image a0 M Q) : E p l e (rmO 1 0 0) s m args below meth c g 2 (MQ below (QcM g (rI Q)) args s 0 0 (gA g)) 0 0 0 [(0, .ref a0)] [] M := by
  unfold f_X12_image at h
  refine e_aload_n C 0 dX12_image_0 rfl rfl ?_
  refine e_iconst (v := 1) C dX12_image_1 (by decide) ?_
  obtain ⟨o1, h⟩ := h
  refine e_putZ C [12] 54 false (fun z => by cases z) (fp_z fp_X12_174 rfl rfl) o1 dX12_image_2 ?_
  refine nmE (fun M2 e3 => ?_)
  replace h := h M2 e3
  have o4 : isO M2 a0 [12] := by rw [e3]; exact o1
  refine e_aload_n C 0 dX12_image_5 rfl rfl ?_
  refine e_aload_n C 0 dX12_image_6 rfl rfl ?_
  refine e_getI C [12] 10 (fg_of fg_X12_41) o4 dX12_image_7 ?_
  refine e_putI C [12] 55 false (fun z => by cases z) fp_X12_178 o4 dX12_image_10 ?_
  refine nmE (fun M5 e6 => ?_)
  replace h := h M5 e6
  have o7 : isO M5 a0 [12] := by rw [e6]; exact o4
  refine e_aload_n C 0 dX12_image_13 rfl rfl ?_
  refine e_aload_n C 0 dX12_image_14 rfl rfl ?_
  refine e_getI C [12] 0 (fg_of fg_X12_7) o7 dX12_image_15 ?_
  refine e_putI C [12] 56 false (fun z => by cases z) fp_X12_181 o7 dX12_image_18 ?_
  refine nmE (fun M8 e9 => ?_)
  replace h := h M8 e9
  have o10 : isO M8 a0 [12] := by rw [e9]; exact o7
  refine e_aload_n C 0 dX12_image_21 rfl rfl ?_
  refine e_aload_n C 0 dX12_image_22 rfl rfl ?_
  refine e_getI C [12] 1 (fg_of fg_X12_13) o10 dX12_image_23 ?_
  refine e_putI C [12] 57 false (fun z => by cases z) fp_X12_184 o10 dX12_image_26 ?_
  refine nmE (fun M11 e12 => ?_)
  replace h := h M11 e12
  have o13 : isO M11 a0 [12] := by rw [e12]; exact o10
  refine e_iconst (v := 0) C dX12_image_29 (by decide) ?_
  refine e_istore_n (al' := [(1, .int (0 : Int32)), (0, .ref a0)]) C dX12_image_30 rfl (by decide) rfl ?_
  refine e_pick [1, 0] rfl ?_
  exact w_X12_image_L31 C hr hlk h
theorem m_X12_image  {a0 : Nat} {M : Mem} {Q : Int32 → Mem → Prop} (h : f_X12_image a0 M Q) : Con yX12_image cX12_image 2 (some .int) 1 0 0 [.ref a0] M (rI Q) :=
  con_of2 (al := [(0, .ref a0)]) (by decide) (by exact Nat.le_of_ble_eq_true rfl) (by rfl) (fun p l e s m args below meth c g C hr hlk _ => w_X12_image C hr hlk h)
set_option maxHeartbeats 4000000 in
set_option maxRecDepth 100000 in
theorem w_X12_undo_B56 {p : Program} {l : Launch} {e : Env} {s : State} {m : MethodId} {args : Array Value} {below : List Frame} {meth : Method} {c : Code} {g : Geo} (C : Cx p s m args c cX12_undo RX12 2 g) (hr : meth.sig.returnType = (some .int)) (hlk : meth.locks = false) {a0 : Nat} {v1 : Int32} {M : Mem} {K56 : Int32 × Mem → Prop} {Q : Int32 → Mem → Prop} (hK56 : ∀ z : Int32 × Mem, K56 z → E p l e (rmO 1 0 0) s m args below meth c g 2 (MQ below (QcM g (rI Q)) args s 0 0 (gA g)) 0 0 56 [(0, .ref a0), (1, .int z.1)] [] (z.2)) (h : f_X12_undo_B56 a0 v1 M K56 Q) : E p l e (rmO 1 0 0) s m args below meth c g 2 (MQ below (QcM g (rI Q)) args s 0 0 (gA g)) 0 0 56 [(0, .ref a0), (1, .int v1)] [] M := by
  unfold f_X12_undo_B56 at h
  refine e_iload_n C 1 dX12_undo_56 rfl rfl ?_
  refine e_bipush (v := 12) C dX12_undo_57 (by decide) ?_
  refine e_icmp_ge (tgt := 92) C dX12_undo_59 (by decide) (fun q1 => ?_) (fun q1 => ?_)
  · replace h := ite_t h q1
    refine e_aload_n C 0 dX12_undo_92 rfl rfl ?_
    obtain ⟨o2, h⟩ := h
    refine e_getI C [12] 1 (fg_of fg_X12_13) o2 dX12_undo_93 ?_
    exact e_iret C hr hlk (Nat.le_refl _) (Nat.le_refl _) dX12_undo_96 ⟨_, rfl, h⟩
  · replace h := ite_f h q1
    refine e_aload_n C 0 dX12_undo_62 rfl rfl ?_
    obtain ⟨o3, h⟩ := h
    refine e_getR C [12] 7 (fg_of fg_X12_32) o3 dX12_undo_63 ?_
    refine e_iload_n C 1 dX12_undo_66 rfl rfl ?_
    refine e_aload_n C 0 dX12_undo_67 rfl rfl ?_
    refine e_getR C [12] 59 (fg_of fg_X12_190) o3 dX12_undo_68 ?_
    refine e_iload_n C 1 dX12_undo_71 rfl rfl ?_
    obtain ⟨b4, p5, h⟩ := h
    try rw [p5]
    obtain ⟨o6, h⟩ := h
    refine e_iald C o6 dX12_undo_72 ?_
    obtain ⟨b7, p8, h⟩ := h
    try rw [p8]
    obtain ⟨o9, h⟩ := h
    refine e_iast C o9 dX12_undo_73 ?_
    refine nmE (fun M10 e11 => ?_)
    replace h := h M10 e11
    have o12 : isO M10 a0 [12] := by rw [e11]; exact o3
    have p13 : mP M10 a0 59 = some b4 := by rw [e11]; exact p5
    have p14 : mP M10 a0 7 = some b7 := by rw [e11]; exact p8
    refine e_aload_n C 0 dX12_undo_74 rfl rfl ?_
    refine e_getR C [12] 8 (fg_of fg_X12_35) o12 dX12_undo_75 ?_
    refine e_iload_n C 1 dX12_undo_78 rfl rfl ?_
    refine e_aload_n C 0 dX12_undo_79 rfl rfl ?_
    refine e_getR C [12] 60 (fg_of fg_X12_193) o12 dX12_undo_80 ?_
    refine e_iload_n C 1 dX12_undo_83 rfl rfl ?_
    obtain ⟨b15, p16, h⟩ := h
    try rw [p16]
    obtain ⟨o17, h⟩ := h
    refine e_iald C o17 dX12_undo_84 ?_
    obtain ⟨b18, p19, h⟩ := h
    try rw [p19]
    obtain ⟨o20, h⟩ := h
    refine e_iast C o20 dX12_undo_85 ?_
    refine nmE (fun M21 e22 => ?_)
    replace h := h M21 e22
    have o23 : isO M21 a0 [12] := by rw [e22]; exact o12
    have p24 : mP M21 a0 59 = some b4 := by rw [e22]; exact p13
    have p25 : mP M21 a0 7 = some b7 := by rw [e22]; exact p14
    have p26 : mP M21 a0 60 = some b15 := by rw [e22]; exact p16
    have p27 : mP M21 a0 8 = some b18 := by rw [e22]; exact p19
    refine e_iinc (v := (v1 + 1)) (al' := [(1, .int (v1 + 1)), (0, .ref a0)]) C 1 dX12_undo_86 rfl rfl (by decide) rfl ?_
    refine e_goto (tgt := 56) C dX12_undo_89 (by decide) ?_
    refine e_pick [1, 0] rfl ?_
    exact hK56 ((v1 + 1), M21) h
set_option maxHeartbeats 4000000 in
set_option maxRecDepth 100000 in
theorem w_X12_undo_L56 {p : Program} {l : Launch} {e : Env} {s : State} {m : MethodId} {args : Array Value} {below : List Frame} {meth : Method} {c : Code} {g : Geo} (C : Cx p s m args c cX12_undo RX12 2 g) (hr : meth.sig.returnType = (some .int)) (hlk : meth.locks = false) {a0 : Nat} {v1 : Int32} {M : Mem} {Q : Int32 → Mem → Prop} (h : f_X12_undo_L56 a0 v1 M Q) : E p l e (rmO 1 0 0) s m args below meth c g 2 (MQ below (QcM g (rI Q)) args s 0 0 (gA g)) 0 0 56 [(0, .ref a0), (1, .int v1)] [] M := by
  unfold f_X12_undo_L56 at h
  refine loop_E (W := fun z : Int32 × Mem => E p l e (rmO 1 0 0) s m args below meth c g 2 (MQ below (QcM g (rI Q)) args s 0 0 (gA g)) 0 0 56 [(0, .ref a0), (1, .int z.1)] [] (z.2)) h (fun K z hK h => ?_)
  exact w_X12_undo_B56 C hr hlk hK h
set_option maxHeartbeats 4000000 in
set_option maxRecDepth 100000 in
theorem w_X12_undo_B28 {p : Program} {l : Launch} {e : Env} {s : State} {m : MethodId} {args : Array Value} {below : List Frame} {meth : Method} {c : Code} {g : Geo} (C : Cx p s m args c cX12_undo RX12 2 g) (hr : meth.sig.returnType = (some .int)) (hlk : meth.locks = false) {a0 : Nat} {v1 : Int32} {M : Mem} {K28 : Int32 × Mem → Prop} {Q : Int32 → Mem → Prop} (hK28 : ∀ z : Int32 × Mem, K28 z → E p l e (rmO 1 0 0) s m args below meth c g 2 (MQ below (QcM g (rI Q)) args s 0 0 (gA g)) 0 0 28 [(0, .ref a0), (1, .int z.1)] [] (z.2)) (h : f_X12_undo_B28 a0 v1 M K28 Q) : E p l e (rmO 1 0 0) s m args below meth c g 2 (MQ below (QcM g (rI Q)) args s 0 0 (gA g)) 0 0 28 [(0, .ref a0), (1, .int v1)] [] M := by
  unfold f_X12_undo_B28 at h
  refine e_iload_n C 1 dX12_undo_28 rfl rfl ?_
  refine e_aload_n C 0 dX12_undo_29 rfl rfl ?_
  obtain ⟨o1, h⟩ := h
  refine e_getI C [12] 56 (fg_of fg_X12_181) o1 dX12_undo_30 ?_
  refine e_icmp_ge (tgt := 54) C dX12_undo_33 (by decide) (fun q2 => ?_) (fun q2 => ?_)
  · replace h := ite_t h q2
    refine e_iconst (v := 0) C dX12_undo_54 (by decide) ?_
    refine e_istore_n (al' := [(1, .int (0 : Int32)), (0, .ref a0)]) C dX12_undo_55 rfl (by decide) rfl ?_
    refine e_pick [1, 0] rfl ?_
    exact w_X12_undo_L56 C hr hlk h
  · replace h := ite_f h q2
    refine e_aload_n C 0 dX12_undo_36 rfl rfl ?_
    refine e_getR C [12] 6 (fg_of fg_X12_29) o1 dX12_undo_37 ?_
    refine e_iload_n C 1 dX12_undo_40 rfl rfl ?_
    refine e_aload_n C 0 dX12_undo_41 rfl rfl ?_
    refine e_getR C [12] 58 (fg_of fg_X12_187) o1 dX12_undo_42 ?_
    refine e_iload_n C 1 dX12_undo_45 rfl rfl ?_
    obtain ⟨b3, p4, h⟩ := h
    try rw [p4]
    obtain ⟨o5, h⟩ := h
    refine e_iald C o5 dX12_undo_46 ?_
    obtain ⟨b6, p7, h⟩ := h
    try rw [p7]
    obtain ⟨o8, h⟩ := h
    refine e_iast C o8 dX12_undo_47 ?_
    refine nmE (fun M9 e10 => ?_)
    replace h := h M9 e10
    have o11 : isO M9 a0 [12] := by rw [e10]; exact o1
    have p12 : mP M9 a0 58 = some b3 := by rw [e10]; exact p4
    have p13 : mP M9 a0 6 = some b6 := by rw [e10]; exact p7
    refine e_iinc (v := (v1 + 1)) (al' := [(1, .int (v1 + 1)), (0, .ref a0)]) C 1 dX12_undo_48 rfl rfl (by decide) rfl ?_
    refine e_goto (tgt := 28) C dX12_undo_51 (by decide) ?_
    refine e_pick [1, 0] rfl ?_
    exact hK28 ((v1 + 1), M9) h
set_option maxHeartbeats 4000000 in
set_option maxRecDepth 100000 in
theorem w_X12_undo_L28 {p : Program} {l : Launch} {e : Env} {s : State} {m : MethodId} {args : Array Value} {below : List Frame} {meth : Method} {c : Code} {g : Geo} (C : Cx p s m args c cX12_undo RX12 2 g) (hr : meth.sig.returnType = (some .int)) (hlk : meth.locks = false) {a0 : Nat} {v1 : Int32} {M : Mem} {Q : Int32 → Mem → Prop} (h : f_X12_undo_L28 a0 v1 M Q) : E p l e (rmO 1 0 0) s m args below meth c g 2 (MQ below (QcM g (rI Q)) args s 0 0 (gA g)) 0 0 28 [(0, .ref a0), (1, .int v1)] [] M := by
  unfold f_X12_undo_L28 at h
  refine loop_E (W := fun z : Int32 × Mem => E p l e (rmO 1 0 0) s m args below meth c g 2 (MQ below (QcM g (rI Q)) args s 0 0 (gA g)) 0 0 28 [(0, .ref a0), (1, .int z.1)] [] (z.2)) h (fun K z hK h => ?_)
  exact w_X12_undo_B28 C hr hlk hK h
set_option maxHeartbeats 4000000 in
set_option maxRecDepth 100000 in
theorem w_X12_undo {p : Program} {l : Launch} {e : Env} {s : State} {m : MethodId} {args : Array Value} {below : List Frame} {meth : Method} {c : Code} {g : Geo} (C : Cx p s m args c cX12_undo RX12 2 g) (hr : meth.sig.returnType = (some .int)) (hlk : meth.locks = false) {a0 : Nat} {M : Mem} {Q : Int32 → Mem → Prop} (h : f_X12_undo a0 M Q) : E p l e (rmO 1 0 0) s m args below meth c g 2 (MQ below (QcM g (rI Q)) args s 0 0 (gA g)) 0 0 0 [(0, .ref a0)] [] M := by
  unfold f_X12_undo at h
  refine e_aload_n C 0 dX12_undo_0 rfl rfl ?_
  obtain ⟨o1, h⟩ := h
  refine e_getI C [12] 54 (fg_of fg_X12_174) o1 dX12_undo_1 ?_
  refine e_if_ne (tgt := 10) C dX12_undo_4 (by decide) (fun q2 => ?_) (fun q2 => ?_)
  · replace h := ite_f h q2
    refine e_aload_n C 0 dX12_undo_10 rfl rfl ?_
    refine e_aload_n C 0 dX12_undo_11 rfl rfl ?_
    refine e_getI C [12] 55 (fg_of fg_X12_178) o1 dX12_undo_12 ?_
    refine e_putI C [12] 10 false (fun z => by cases z) fp_X12_41 o1 dX12_undo_15 ?_
    refine nmE (fun M3 e4 => ?_)
    replace h := h M3 e4
    have o5 : isO M3 a0 [12] := by rw [e4]; exact o1
    refine e_aload_n C 0 dX12_undo_18 rfl rfl ?_
    refine e_aload_n C 0 dX12_undo_19 rfl rfl ?_
    refine e_getI C [12] 57 (fg_of fg_X12_184) o5 dX12_undo_20 ?_
    refine e_putI C [12] 1 false (fun z => by cases z) fp_X12_13 o5 dX12_undo_23 ?_
    refine nmE (fun M6 e7 => ?_)
    replace h := h M6 e7
    have o8 : isO M6 a0 [12] := by rw [e7]; exact o5
    refine e_iconst (v := 0) C dX12_undo_26 (by decide) ?_
    refine e_istore_n (al' := [(1, .int (0 : Int32)), (0, .ref a0)]) C dX12_undo_27 rfl (by decide) rfl ?_
    refine e_pick [1, 0] rfl ?_
    exact w_X12_undo_L28 C hr hlk h
  · replace h := ite_t h q2
    refine e_bipush (v := -3) C dX12_undo_7 (by decide) ?_
    exact e_iret C hr hlk (Nat.le_refl _) (Nat.le_refl _) dX12_undo_9 ⟨_, rfl, h⟩
theorem m_X12_undo  {a0 : Nat} {M : Mem} {Q : Int32 → Mem → Prop} (h : f_X12_undo a0 M Q) : Con yX12_undo cX12_undo 2 (some .int) 1 0 0 [.ref a0] M (rI Q) :=
  con_of2 (al := [(0, .ref a0)]) (by decide) (by exact Nat.le_of_ble_eq_true rfl) (by rfl) (fun p l e s m args below meth c g C hr hlk _ => w_X12_undo C hr hlk h)
set_option maxHeartbeats 4000000 in
set_option maxRecDepth 100000 in
theorem w_X12_body_J19 {p : Program} {l : Launch} {e : Env} {s : State} {m : MethodId} {args : Array Value} {below : List Frame} {meth : Method} {c : Code} {g : Geo} (C : Cx p s m args c cX12_body RX12 2 g) (hr : meth.sig.returnType = none) (hlk : meth.locks = false) {a0 : Nat} {x1 : Int32} {M : Mem} {Q : Mem → Prop} (h : f_X12_body_J19 a0 x1 M Q) : E p l e (rmO 1 0 0) s m args below meth c g 2 (MQ below (QcM g (rV Q)) args s 0 0 (gA g)) 0 0 19 [(0, .ref a0), (1, .int x1)] [] M := by
  unfold f_X12_body_J19 at h
  refine e_aload_n C 0 dX12_body_19 rfl rfl ?_
  refine e_dup C rfl dX12_body_20 ?_
  obtain ⟨o1, h⟩ := h
  refine e_getI C [12] 61 (fg_of fg_X12_196) o1 dX12_body_21 ?_
  refine e_iconst (v := 1) C dX12_body_24 (by decide) ?_
  refine e_iadd C dX12_body_25 ?_
  refine e_putI C [12] 61 false (fun z => by cases z) fp_X12_196 o1 dX12_body_26 ?_
  refine nmE (fun M2 e3 => ?_)
  replace h := h M2 e3
  have o4 : isO M2 a0 [12] := by rw [e3]; exact o1
  exact e_vret C hr hlk (Nat.le_refl _) (Nat.le_refl _) dX12_body_29 ⟨rfl, h⟩
set_option maxHeartbeats 4000000 in
set_option maxRecDepth 100000 in
theorem w_X12_body {p : Program} {l : Launch} {e : Env} {s : State} {m : MethodId} {args : Array Value} {below : List Frame} {meth : Method} {c : Code} {g : Geo} (C : Cx p s m args c cX12_body RX12 2 g) (hr : meth.sig.returnType = none) (hlk : meth.locks = false) {a0 : Nat} {x1 : Int32} {M : Mem} {Q : Mem → Prop} (h : f_X12_body a0 x1 M Q) : E p l e (rmO 1 0 0) s m args below meth c g 2 (MQ below (QcM g (rV Q)) args s 0 0 (gA g)) 0 0 0 [(0, .ref a0), (1, .int x1)] [] M := by
  unfold f_X12_body at h
  refine e_aload_n C 0 dX12_body_0 rfl rfl ?_
  obtain ⟨o1, h⟩ := h
  refine e_getI C [12] 61 (fg_of fg_X12_196) o1 dX12_body_1 ?_
  refine e_bipush (v := 20) C dX12_body_4 (by decide) ?_
  refine e_icmp_ge (tgt := 19) C dX12_body_6 (by decide) (fun q2 => ?_) (fun q2 => ?_)
  · replace h := ite_t h q2
    exact w_X12_body_J19 C hr hlk h
  · replace h := ite_f h q2
    refine e_aload_n C 0 dX12_body_9 rfl rfl ?_
    refine e_getR C [12] 62 (fg_of fg_X12_199) o1 dX12_body_10 ?_
    refine e_aload_n C 0 dX12_body_13 rfl rfl ?_
    refine e_getI C [12] 61 (fg_of fg_X12_196) o1 dX12_body_14 ?_
    refine e_iload_n C 1 dX12_body_17 rfl rfl ?_
    obtain ⟨b3, p4, h⟩ := h
    try rw [p4]
    obtain ⟨o5, h⟩ := h
    refine e_iast C o5 dX12_body_18 ?_
    refine nmE (fun M6 e7 => ?_)
    replace h := h M6 e7
    have o8 : isO M6 a0 [12] := by rw [e7]; exact o1
    have p9 : mP M6 a0 62 = some b3 := by rw [e7]; exact p4
    exact w_X12_body_J19 C hr hlk h
theorem m_X12_body  {a0 : Nat} {x1 : Int32} {M : Mem} {Q : Mem → Prop} (h : f_X12_body a0 x1 M Q) : Con yX12_body cX12_body 2 none 1 0 0 [.ref a0, .int x1] M (rV Q) :=
  con_of2 (al := [(0, .ref a0), (1, .int x1)]) (by decide) (by exact Nat.le_of_ble_eq_true rfl) (by rfl) (fun p l e s m args below meth c g C hr hlk _ => w_X12_body C hr hlk h)
set_option maxHeartbeats 4000000 in
set_option maxRecDepth 100000 in
theorem w_X12_plainJoins {p : Program} {l : Launch} {e : Env} {s : State} {m : MethodId} {args : Array Value} {below : List Frame} {meth : Method} {c : Code} {g : Geo} (C : Cx p s m args c cX12_plainJoins RX12 3 g) (hr : meth.sig.returnType = (some .int)) (hlk : meth.locks = false) {a0 : Nat} {x1 : Int32} {x2 : Int32} {M : Mem} {Q : Int32 → Mem → Prop} (h : f_X12_plainJoins a0 x1 x2 M Q) : E p l e (rmO 2 0 0) s m args below meth c g 3 (MQ below (QcM g (rI Q)) args s 0 0 (gA g)) 0 0 0 [(0, .ref a0), (1, .int x1), (2, .int x2)] [] M := by
  unfold f_X12_plainJoins at h
  refine e_aload_n C 0 dX12_plainJoins_0 rfl rfl ?_
  refine e_bipush (v := 10) C dX12_plainJoins_1 (by decide) ?_
  obtain ⟨o3, h⟩ := h
  refine e_callV (as := [.int (10 : Int32)]) C wb_X12_body wv_X12_357 (ci := 12) rfl rfl (isO_1 o3) (m_X12_body h) rfl ⟨Nat.le_of_ble_eq_true rfl, Nat.le_of_ble_eq_true rfl⟩ ⟨Nat.le_of_ble_eq_true rfl, Nat.le_of_ble_eq_true rfl⟩ (by first | exact Nat.le_of_ble_eq_true rfl | (simp only [List.map_cons, List.map_nil, va_cat, List.sum_cons, List.sum_nil]; exact Nat.le_of_ble_eq_true rfl)) dX12_plainJoins_3 (kV (fun M2 h4 => ?_))
  refine e_iload_n C 2 dX12_plainJoins_6 rfl rfl ?_
  refine e_iload_n C 1 dX12_plainJoins_7 rfl rfl ?_
  refine e_iadd C dX12_plainJoins_8 ?_
  exact e_iret C hr hlk (Nat.le_refl _) (Nat.le_refl _) dX12_plainJoins_9 ⟨_, rfl, h4⟩
theorem m_X12_plainJoins  {a0 : Nat} {x1 : Int32} {x2 : Int32} {M : Mem} {Q : Int32 → Mem → Prop} (h : f_X12_plainJoins a0 x1 x2 M Q) : Con yX12_plainJoins cX12_plainJoins 3 (some .int) 2 0 0 [.ref a0, .int x1, .int x2] M (rI Q) :=
  con_of2 (al := [(0, .ref a0), (1, .int x1), (2, .int x2)]) (by decide) (by exact Nat.le_of_ble_eq_true rfl) (by rfl) (fun p l e s m args below meth c g C hr hlk _ => w_X12_plainJoins C hr hlk h)
set_option maxHeartbeats 4000000 in
set_option maxRecDepth 100000 in
theorem w_X12_joinsAct {p : Program} {l : Launch} {e : Env} {s : State} {m : MethodId} {args : Array Value} {below : List Frame} {meth : Method} {c : Code} {g : Geo} (C : Cx p s m args c cX12_joinsAct RX12 3 g) (hr : meth.sig.returnType = (some .int)) (hlk : meth.locks = false) {a0 : Nat} {x1 : Int32} {x2 : Int32} {M : Mem} {Q : Int32 → Mem → Prop} (h : f_X12_joinsAct a0 x1 x2 M Q) : E p l e (rmO 3 0 0) s m args below meth c g 3 (MQ below (QcM g (rI Q)) args s 0 0 (gA g)) 0 0 0 [(0, .ref a0), (1, .int x1), (2, .int x2)] [] M := by
  unfold f_X12_joinsAct at h
  refine e_aload_n C 0 dX12_joinsAct_0 rfl rfl ?_
  obtain ⟨o1, h⟩ := h
  refine e_getR C [12] 28 (fg_of fg_X12_96) o1 dX12_joinsAct_1 ?_
  refine e_iload_n C 1 dX12_joinsAct_4 rfl rfl ?_
  obtain ⟨b2, p3, h⟩ := h
  try rw [p3]
  obtain ⟨o4, h⟩ := h
  refine e_iald C o4 dX12_joinsAct_5 ?_
  by_cases q5 : (mI M b2 (x1).toNatClampNeg) = 2
  · replace h := ite_t h q5
    refine e_tin (tgt := 40) C dX12_joinsAct_6 (by rw [q5]; decide) (by rw [q5]; decide) (by rw [q5] <;> rfl) (by decide) ?_
    refine e_aload_n C 0 dX12_joinsAct_40 rfl rfl ?_
    refine e_bipush (v := 30) C dX12_joinsAct_41 (by decide) ?_
    refine e_callV (as := [.int (30 : Int32)]) C wb_X12_body wv_X12_357 (ci := 12) rfl rfl (isO_1 o1) (m_X12_body h) rfl ⟨Nat.le_of_ble_eq_true rfl, Nat.le_of_ble_eq_true rfl⟩ ⟨Nat.le_of_ble_eq_true rfl, Nat.le_of_ble_eq_true rfl⟩ (by first | exact Nat.le_of_ble_eq_true rfl | (simp only [List.map_cons, List.map_nil, va_cat, List.sum_cons, List.sum_nil]; exact Nat.le_of_ble_eq_true rfl)) dX12_joinsAct_43 (kV (fun M7 h12 => ?_))
    refine e_aload_n C 0 dX12_joinsAct_46 rfl rfl ?_
    refine e_iload_n C 1 dX12_joinsAct_47 rfl rfl ?_
    refine e_iload_n C 2 dX12_joinsAct_48 rfl rfl ?_
    refine e_iconst (v := 3) C dX12_joinsAct_49 (by decide) ?_
    refine e_imul C dX12_joinsAct_50 ?_
    obtain ⟨o10, h12⟩ := h12
    refine e_callV (as := [.int x1, .int (x2 * (3 : Int32))]) C wb_X12_plainJoins wv_X12_360 (ci := 12) rfl rfl (isO_1 o10) (m_X12_plainJoins h12) rfl ⟨Nat.le_of_ble_eq_true rfl, Nat.le_of_ble_eq_true rfl⟩ ⟨Nat.le_of_ble_eq_true rfl, Nat.le_of_ble_eq_true rfl⟩ (by first | exact Nat.le_of_ble_eq_true rfl | (simp only [List.map_cons, List.map_nil, va_cat, List.sum_cons, List.sum_nil]; exact Nat.le_of_ble_eq_true rfl)) dX12_joinsAct_51 (kI (fun w8 M9 h11 => ?_))
    exact e_iret C hr hlk (Nat.le_refl _) (Nat.le_refl _) dX12_joinsAct_54 ⟨_, rfl, h11⟩
  · replace h := ite_f h q5
    by_cases q13 : (mI M b2 (x1).toNatClampNeg) = 3
    · replace h := ite_t h q13
      refine e_tin (tgt := 55) C dX12_joinsAct_6 (by rw [q13]; decide) (by rw [q13]; decide) (by rw [q13] <;> rfl) (by decide) ?_
      refine e_aload_n C 0 dX12_joinsAct_55 rfl rfl ?_
      refine e_bipush (v := 50) C dX12_joinsAct_56 (by decide) ?_
      refine e_callV (as := [.int (50 : Int32)]) C wb_X12_body wv_X12_357 (ci := 12) rfl rfl (isO_1 o1) (m_X12_body h) rfl ⟨Nat.le_of_ble_eq_true rfl, Nat.le_of_ble_eq_true rfl⟩ ⟨Nat.le_of_ble_eq_true rfl, Nat.le_of_ble_eq_true rfl⟩ (by first | exact Nat.le_of_ble_eq_true rfl | (simp only [List.map_cons, List.map_nil, va_cat, List.sum_cons, List.sum_nil]; exact Nat.le_of_ble_eq_true rfl)) dX12_joinsAct_58 (kV (fun M15 h20 => ?_))
      refine e_aload_n C 0 dX12_joinsAct_61 rfl rfl ?_
      refine e_iload_n C 1 dX12_joinsAct_62 rfl rfl ?_
      refine e_iload_n C 2 dX12_joinsAct_63 rfl rfl ?_
      obtain ⟨o18, h20⟩ := h20
      refine e_callV (as := [.int x1, .int x2]) C wb_X12_plainJoins wv_X12_360 (ci := 12) rfl rfl (isO_1 o18) (m_X12_plainJoins h20) rfl ⟨Nat.le_of_ble_eq_true rfl, Nat.le_of_ble_eq_true rfl⟩ ⟨Nat.le_of_ble_eq_true rfl, Nat.le_of_ble_eq_true rfl⟩ (by first | exact Nat.le_of_ble_eq_true rfl | (simp only [List.map_cons, List.map_nil, va_cat, List.sum_cons, List.sum_nil]; exact Nat.le_of_ble_eq_true rfl)) dX12_joinsAct_64 (kI (fun w16 M17 h19 => ?_))
      refine e_ineg C dX12_joinsAct_67 ?_
      exact e_iret C hr hlk (Nat.le_refl _) (Nat.le_refl _) dX12_joinsAct_68 ⟨_, rfl, h19⟩
    · replace h := ite_f h q13
      by_cases q21 : (mI M b2 (x1).toNatClampNeg) = 4
      · replace h := ite_t h q21
        refine e_tin (tgt := 40) C dX12_joinsAct_6 (by rw [q21]; decide) (by rw [q21]; decide) (by rw [q21] <;> rfl) (by decide) ?_
        refine e_aload_n C 0 dX12_joinsAct_40 rfl rfl ?_
        refine e_bipush (v := 30) C dX12_joinsAct_41 (by decide) ?_
        refine e_callV (as := [.int (30 : Int32)]) C wb_X12_body wv_X12_357 (ci := 12) rfl rfl (isO_1 o1) (m_X12_body h) rfl ⟨Nat.le_of_ble_eq_true rfl, Nat.le_of_ble_eq_true rfl⟩ ⟨Nat.le_of_ble_eq_true rfl, Nat.le_of_ble_eq_true rfl⟩ (by first | exact Nat.le_of_ble_eq_true rfl | (simp only [List.map_cons, List.map_nil, va_cat, List.sum_cons, List.sum_nil]; exact Nat.le_of_ble_eq_true rfl)) dX12_joinsAct_43 (kV (fun M23 h28 => ?_))
        refine e_aload_n C 0 dX12_joinsAct_46 rfl rfl ?_
        refine e_iload_n C 1 dX12_joinsAct_47 rfl rfl ?_
        refine e_iload_n C 2 dX12_joinsAct_48 rfl rfl ?_
        refine e_iconst (v := 3) C dX12_joinsAct_49 (by decide) ?_
        refine e_imul C dX12_joinsAct_50 ?_
        obtain ⟨o26, h28⟩ := h28
        refine e_callV (as := [.int x1, .int (x2 * (3 : Int32))]) C wb_X12_plainJoins wv_X12_360 (ci := 12) rfl rfl (isO_1 o26) (m_X12_plainJoins h28) rfl ⟨Nat.le_of_ble_eq_true rfl, Nat.le_of_ble_eq_true rfl⟩ ⟨Nat.le_of_ble_eq_true rfl, Nat.le_of_ble_eq_true rfl⟩ (by first | exact Nat.le_of_ble_eq_true rfl | (simp only [List.map_cons, List.map_nil, va_cat, List.sum_cons, List.sum_nil]; exact Nat.le_of_ble_eq_true rfl)) dX12_joinsAct_51 (kI (fun w24 M25 h27 => ?_))
        exact e_iret C hr hlk (Nat.le_refl _) (Nat.le_refl _) dX12_joinsAct_54 ⟨_, rfl, h27⟩
      · replace h := ite_f h q21
        by_cases q29 : (mI M b2 (x1).toNatClampNeg) = 5
        · replace h := ite_t h q29
          refine e_tin (tgt := 89) C dX12_joinsAct_6 (by rw [q29]; decide) (by rw [q29]; decide) (by rw [q29] <;> rfl) (by decide) ?_
          refine e_aload_n C 0 dX12_joinsAct_89 rfl rfl ?_
          refine e_iload_n C 1 dX12_joinsAct_90 rfl rfl ?_
          refine e_iload_n C 2 dX12_joinsAct_91 rfl rfl ?_
          refine e_callV (as := [.int x1, .int x2]) C wb_X12_plainJoins wv_X12_360 (ci := 12) rfl rfl (isO_1 o1) (m_X12_plainJoins h) rfl ⟨Nat.le_of_ble_eq_true rfl, Nat.le_of_ble_eq_true rfl⟩ ⟨Nat.le_of_ble_eq_true rfl, Nat.le_of_ble_eq_true rfl⟩ (by first | exact Nat.le_of_ble_eq_true rfl | (simp only [List.map_cons, List.map_nil, va_cat, List.sum_cons, List.sum_nil]; exact Nat.le_of_ble_eq_true rfl)) dX12_joinsAct_92 (kI (fun w30 M31 h32 => ?_))
          exact e_iret C hr hlk (Nat.le_refl _) (Nat.le_refl _) dX12_joinsAct_95 ⟨_, rfl, h32⟩
        · replace h := ite_f h q29
          by_cases q33 : (mI M b2 (x1).toNatClampNeg) = 6
          · replace h := ite_t h q33
            refine e_tin (tgt := 69) C dX12_joinsAct_6 (by rw [q33]; decide) (by rw [q33]; decide) (by rw [q33] <;> rfl) (by decide) ?_
            refine e_aload_n C 0 dX12_joinsAct_69 rfl rfl ?_
            refine e_bipush (v := 71) C dX12_joinsAct_70 (by decide) ?_
            refine e_callV (as := [.int (71 : Int32)]) C wb_X12_body wv_X12_357 (ci := 12) rfl rfl (isO_1 o1) (m_X12_body h) rfl ⟨Nat.le_of_ble_eq_true rfl, Nat.le_of_ble_eq_true rfl⟩ ⟨Nat.le_of_ble_eq_true rfl, Nat.le_of_ble_eq_true rfl⟩ (by first | exact Nat.le_of_ble_eq_true rfl | (simp only [List.map_cons, List.map_nil, va_cat, List.sum_cons, List.sum_nil]; exact Nat.le_of_ble_eq_true rfl)) dX12_joinsAct_72 (kV (fun M35 h44 => ?_))
            refine e_aload_n C 0 dX12_joinsAct_75 rfl rfl ?_
            refine e_iload_n C 1 dX12_joinsAct_76 rfl rfl ?_
            refine e_iload_n C 2 dX12_joinsAct_77 rfl rfl ?_
            obtain ⟨o38, h44⟩ := h44
            refine e_callV (as := [.int x1, .int x2]) C wb_X12_plainJoins wv_X12_360 (ci := 12) rfl rfl (isO_1 o38) (m_X12_plainJoins h44) rfl ⟨Nat.le_of_ble_eq_true rfl, Nat.le_of_ble_eq_true rfl⟩ ⟨Nat.le_of_ble_eq_true rfl, Nat.le_of_ble_eq_true rfl⟩ (by first | exact Nat.le_of_ble_eq_true rfl | (simp only [List.map_cons, List.map_nil, va_cat, List.sum_cons, List.sum_nil]; exact Nat.le_of_ble_eq_true rfl)) dX12_joinsAct_78 (kI (fun w36 M37 h43 => ?_))
            refine e_aload_n C 0 dX12_joinsAct_81 rfl rfl ?_
            obtain ⟨o39, h43⟩ := h43
            refine e_getR C [12] 29 (fg_of fg_X12_99) o39 dX12_joinsAct_82 ?_
            refine e_iload_n C 1 dX12_joinsAct_85 rfl rfl ?_
            obtain ⟨b40, p41, h43⟩ := h43
            try rw [p41]
            obtain ⟨o42, h43⟩ := h43
            refine e_iald C o42 dX12_joinsAct_86 ?_
            refine e_ixor C dX12_joinsAct_87 ?_
            exact e_iret C hr hlk (Nat.le_refl _) (Nat.le_refl _) dX12_joinsAct_88 ⟨_, rfl, h43⟩
          · replace h := ite_f h q33
            refine e_tout (tgt := 89) C dX12_joinsAct_6 (by have z2 := lv_neT (a := 2) q5 (by decide); have z3 := lv_neT (a := 3) q13 (by decide); have z4 := lv_neT (a := 4) q21 (by decide); have z5 := lv_neT (a := 5) q29 (by decide); have z6 := lv_neT (a := 6) q33 (by decide); omega) (by decide) ?_
            refine e_aload_n C 0 dX12_joinsAct_89 rfl rfl ?_
            refine e_iload_n C 1 dX12_joinsAct_90 rfl rfl ?_
            refine e_iload_n C 2 dX12_joinsAct_91 rfl rfl ?_
            refine e_callV (as := [.int x1, .int x2]) C wb_X12_plainJoins wv_X12_360 (ci := 12) rfl rfl (isO_1 o1) (m_X12_plainJoins h) rfl ⟨Nat.le_of_ble_eq_true rfl, Nat.le_of_ble_eq_true rfl⟩ ⟨Nat.le_of_ble_eq_true rfl, Nat.le_of_ble_eq_true rfl⟩ (by first | exact Nat.le_of_ble_eq_true rfl | (simp only [List.map_cons, List.map_nil, va_cat, List.sum_cons, List.sum_nil]; exact Nat.le_of_ble_eq_true rfl)) dX12_joinsAct_92 (kI (fun w45 M46 h47 => ?_))
            exact e_iret C hr hlk (Nat.le_refl _) (Nat.le_refl _) dX12_joinsAct_95 ⟨_, rfl, h47⟩
theorem m_X12_joinsAct  {a0 : Nat} {x1 : Int32} {x2 : Int32} {M : Mem} {Q : Int32 → Mem → Prop} (h : f_X12_joinsAct a0 x1 x2 M Q) : Con yX12_joinsAct cX12_joinsAct 3 (some .int) 3 0 0 [.ref a0, .int x1, .int x2] M (rI Q) :=
  con_of2 (al := [(0, .ref a0), (1, .int x1), (2, .int x2)]) (by decide) (by exact Nat.le_of_ble_eq_true rfl) (by rfl) (fun p l e s m args below meth c g C hr hlk _ => w_X12_joinsAct C hr hlk h)
set_option maxHeartbeats 4000000 in
set_option maxRecDepth 100000 in
theorem w_X12_plainTakes {p : Program} {l : Launch} {e : Env} {s : State} {m : MethodId} {args : Array Value} {below : List Frame} {meth : Method} {c : Code} {g : Geo} (C : Cx p s m args c cX12_plainTakes RX12 3 g) (hr : meth.sig.returnType = (some .int)) (hlk : meth.locks = false) {a0 : Nat} {x1 : Int32} {x2 : Int32} {M : Mem} {Q : Int32 → Mem → Prop} (h : f_X12_plainTakes a0 x1 x2 M Q) : E p l e (rmO 4 0 0) s m args below meth c g 3 (MQ below (QcM g (rI Q)) args s 0 0 (gA g)) 0 0 0 [(0, .ref a0), (1, .int x1), (2, .int x2)] [] M := by
  unfold f_X12_plainTakes at h
  refine e_aload_n C 0 dX12_plainTakes_0 rfl rfl ?_
  refine e_bipush (v := 11) C dX12_plainTakes_1 (by decide) ?_
  obtain ⟨o3, h⟩ := h
  refine e_callV (as := [.int (11 : Int32)]) C wb_X12_body wv_X12_357 (ci := 12) rfl rfl (isO_1 o3) (m_X12_body h) rfl ⟨Nat.le_of_ble_eq_true rfl, Nat.le_of_ble_eq_true rfl⟩ ⟨Nat.le_of_ble_eq_true rfl, Nat.le_of_ble_eq_true rfl⟩ (by first | exact Nat.le_of_ble_eq_true rfl | (simp only [List.map_cons, List.map_nil, va_cat, List.sum_cons, List.sum_nil]; exact Nat.le_of_ble_eq_true rfl)) dX12_plainTakes_3 (kV (fun M2 h12 => ?_))
  refine e_aload_n C 0 dX12_plainTakes_6 rfl rfl ?_
  refine e_iload_n C 1 dX12_plainTakes_7 rfl rfl ?_
  refine e_iload_n C 2 dX12_plainTakes_8 rfl rfl ?_
  obtain ⟨o6, h12⟩ := h12
  refine e_callV (as := [.int x1, .int x2]) C wb_X12_joinsAct wv_X12_363 (ci := 12) rfl rfl (isO_1 o6) (m_X12_joinsAct h12) rfl ⟨Nat.le_of_ble_eq_true rfl, Nat.le_of_ble_eq_true rfl⟩ ⟨Nat.le_of_ble_eq_true rfl, Nat.le_of_ble_eq_true rfl⟩ (by first | exact Nat.le_of_ble_eq_true rfl | (simp only [List.map_cons, List.map_nil, va_cat, List.sum_cons, List.sum_nil]; exact Nat.le_of_ble_eq_true rfl)) dX12_plainTakes_9 (kI (fun w4 M5 h11 => ?_))
  refine e_aload_n C 0 dX12_plainTakes_12 rfl rfl ?_
  obtain ⟨o7, h11⟩ := h11
  refine e_getR C [12] 29 (fg_of fg_X12_99) o7 dX12_plainTakes_13 ?_
  refine e_iload_n C 1 dX12_plainTakes_16 rfl rfl ?_
  obtain ⟨b8, p9, h11⟩ := h11
  try rw [p9]
  obtain ⟨o10, h11⟩ := h11
  refine e_iald C o10 dX12_plainTakes_17 ?_
  refine e_isub C dX12_plainTakes_18 ?_
  exact e_iret C hr hlk (Nat.le_refl _) (Nat.le_refl _) dX12_plainTakes_19 ⟨_, rfl, h11⟩
theorem m_X12_plainTakes  {a0 : Nat} {x1 : Int32} {x2 : Int32} {M : Mem} {Q : Int32 → Mem → Prop} (h : f_X12_plainTakes a0 x1 x2 M Q) : Con yX12_plainTakes cX12_plainTakes 3 (some .int) 4 0 0 [.ref a0, .int x1, .int x2] M (rI Q) :=
  con_of2 (al := [(0, .ref a0), (1, .int x1), (2, .int x2)]) (by decide) (by exact Nat.le_of_ble_eq_true rfl) (by rfl) (fun p l e s m args below meth c g C hr hlk _ => w_X12_plainTakes C hr hlk h)
set_option maxHeartbeats 4000000 in
set_option maxRecDepth 100000 in
theorem w_X12_firstTakes {p : Program} {l : Launch} {e : Env} {s : State} {m : MethodId} {args : Array Value} {below : List Frame} {meth : Method} {c : Code} {g : Geo} (C : Cx p s m args c cX12_firstTakes RX12 3 g) (hr : meth.sig.returnType = (some .int)) (hlk : meth.locks = false) {a0 : Nat} {x1 : Int32} {x2 : Int32} {M : Mem} {Q : Int32 → Mem → Prop} (h : f_X12_firstTakes a0 x1 x2 M Q) : E p l e (rmO 5 0 0) s m args below meth c g 3 (MQ below (QcM g (rI Q)) args s 0 0 (gA g)) 0 0 0 [(0, .ref a0), (1, .int x1), (2, .int x2)] [] M := by
  unfold f_X12_firstTakes at h
  refine e_aload_n C 0 dX12_firstTakes_0 rfl rfl ?_
  refine e_bipush (v := 20) C dX12_firstTakes_1 (by decide) ?_
  obtain ⟨o3, h⟩ := h
  refine e_callV (as := [.int (20 : Int32)]) C wb_X12_body wv_X12_357 (ci := 12) rfl rfl (isO_1 o3) (m_X12_body h) rfl ⟨Nat.le_of_ble_eq_true rfl, Nat.le_of_ble_eq_true rfl⟩ ⟨Nat.le_of_ble_eq_true rfl, Nat.le_of_ble_eq_true rfl⟩ (by first | exact Nat.le_of_ble_eq_true rfl | (simp only [List.map_cons, List.map_nil, va_cat, List.sum_cons, List.sum_nil]; exact Nat.le_of_ble_eq_true rfl)) dX12_firstTakes_3 (kV (fun M2 h8 => ?_))
  refine e_aload_n C 0 dX12_firstTakes_6 rfl rfl ?_
  refine e_iload_n C 1 dX12_firstTakes_7 rfl rfl ?_
  refine e_iload_n C 2 dX12_firstTakes_8 rfl rfl ?_
  obtain ⟨o6, h8⟩ := h8
  refine e_callV (as := [.int x1, .int x2]) C wb_X12_plainTakes wv_X12_366 (ci := 12) rfl rfl (isO_1 o6) (m_X12_plainTakes h8) rfl ⟨Nat.le_of_ble_eq_true rfl, Nat.le_of_ble_eq_true rfl⟩ ⟨Nat.le_of_ble_eq_true rfl, Nat.le_of_ble_eq_true rfl⟩ (by first | exact Nat.le_of_ble_eq_true rfl | (simp only [List.map_cons, List.map_nil, va_cat, List.sum_cons, List.sum_nil]; exact Nat.le_of_ble_eq_true rfl)) dX12_firstTakes_9 (kI (fun w4 M5 h7 => ?_))
  refine e_bipush (v := 6) C dX12_firstTakes_12 (by decide) ?_
  refine e_ixor C dX12_firstTakes_14 ?_
  exact e_iret C hr hlk (Nat.le_refl _) (Nat.le_refl _) dX12_firstTakes_15 ⟨_, rfl, h7⟩
theorem m_X12_firstTakes  {a0 : Nat} {x1 : Int32} {x2 : Int32} {M : Mem} {Q : Int32 → Mem → Prop} (h : f_X12_firstTakes a0 x1 x2 M Q) : Con yX12_firstTakes cX12_firstTakes 3 (some .int) 5 0 0 [.ref a0, .int x1, .int x2] M (rI Q) :=
  con_of2 (al := [(0, .ref a0), (1, .int x1), (2, .int x2)]) (by decide) (by exact Nat.le_of_ble_eq_true rfl) (by rfl) (fun p l e s m args below meth c g C hr hlk _ => w_X12_firstTakes C hr hlk h)
set_option maxHeartbeats 4000000 in
set_option maxRecDepth 100000 in
theorem w_X12_takesAct {p : Program} {l : Launch} {e : Env} {s : State} {m : MethodId} {args : Array Value} {below : List Frame} {meth : Method} {c : Code} {g : Geo} (C : Cx p s m args c cX12_takesAct RX12 4 g) (hr : meth.sig.returnType = (some .int)) (hlk : meth.locks = false) {a0 : Nat} {x1 : Int32} {x2 : Int32} {M : Mem} {Q : Int32 → Mem → Prop} (h : f_X12_takesAct a0 x1 x2 M Q) : E p l e (rmO 6 0 0) s m args below meth c g 4 (MQ below (QcM g (rI Q)) args s 0 0 (gA g)) 0 0 0 [(0, .ref a0), (1, .int x1), (2, .int x2)] [] M := by
  unfold f_X12_takesAct at h
  refine e_aload_n C 0 dX12_takesAct_0 rfl rfl ?_
  obtain ⟨o1, h⟩ := h
  refine e_getR C [12] 28 (fg_of fg_X12_96) o1 dX12_takesAct_1 ?_
  refine e_iload_n C 1 dX12_takesAct_4 rfl rfl ?_
  obtain ⟨b2, p3, h⟩ := h
  try rw [p3]
  obtain ⟨o4, h⟩ := h
  refine e_iald C o4 dX12_takesAct_5 ?_
  by_cases q5 : (mI M b2 (x1).toNatClampNeg) = 1
  · replace h := ite_t h q5
    refine e_look (tgt := 40) C dX12_takesAct_6 (by decide) (by rw [q5] <;> rfl) (by decide) ?_
    refine e_aload_n C 0 dX12_takesAct_40 rfl rfl ?_
    refine e_iload_n C 1 dX12_takesAct_41 rfl rfl ?_
    refine e_iload_n C 2 dX12_takesAct_42 rfl rfl ?_
    refine e_callV (as := [.int x1, .int x2]) C wb_X12_firstTakes wv_X12_369 (ci := 12) rfl rfl (isO_1 o1) (m_X12_firstTakes h) rfl ⟨Nat.le_of_ble_eq_true rfl, Nat.le_of_ble_eq_true rfl⟩ ⟨Nat.le_of_ble_eq_true rfl, Nat.le_of_ble_eq_true rfl⟩ (by first | exact Nat.le_of_ble_eq_true rfl | (simp only [List.map_cons, List.map_nil, va_cat, List.sum_cons, List.sum_nil]; exact Nat.le_of_ble_eq_true rfl)) dX12_takesAct_43 (kI (fun w6 M7 h8 => ?_))
    exact e_iret C hr hlk (Nat.le_refl _) (Nat.le_refl _) dX12_takesAct_46 ⟨_, rfl, h8⟩
  · replace h := ite_f h q5
    by_cases q9 : (mI M b2 (x1).toNatClampNeg) = 3
    · replace h := ite_t h q9
      refine e_look (tgt := 47) C dX12_takesAct_6 (by decide) (by rw [q9] <;> rfl) (by decide) ?_
      refine e_aload_n C 0 dX12_takesAct_47 rfl rfl ?_
      refine e_bipush (v := 51) C dX12_takesAct_48 (by decide) ?_
      refine e_callV (as := [.int (51 : Int32)]) C wb_X12_body wv_X12_357 (ci := 12) rfl rfl (isO_1 o1) (m_X12_body h) rfl ⟨Nat.le_of_ble_eq_true rfl, Nat.le_of_ble_eq_true rfl⟩ ⟨Nat.le_of_ble_eq_true rfl, Nat.le_of_ble_eq_true rfl⟩ (by first | exact Nat.le_of_ble_eq_true rfl | (simp only [List.map_cons, List.map_nil, va_cat, List.sum_cons, List.sum_nil]; exact Nat.le_of_ble_eq_true rfl)) dX12_takesAct_50 (kV (fun M11 h16 => ?_))
      refine e_aload_n C 0 dX12_takesAct_53 rfl rfl ?_
      refine e_iload_n C 1 dX12_takesAct_54 rfl rfl ?_
      refine e_iload_n C 2 dX12_takesAct_55 rfl rfl ?_
      refine e_iconst (v := 1) C dX12_takesAct_56 (by decide) ?_
      refine e_iadd C dX12_takesAct_57 ?_
      obtain ⟨o14, h16⟩ := h16
      refine e_callV (as := [.int x1, .int (x2 + (1 : Int32))]) C wb_X12_firstTakes wv_X12_369 (ci := 12) rfl rfl (isO_1 o14) (m_X12_firstTakes h16) rfl ⟨Nat.le_of_ble_eq_true rfl, Nat.le_of_ble_eq_true rfl⟩ ⟨Nat.le_of_ble_eq_true rfl, Nat.le_of_ble_eq_true rfl⟩ (by first | exact Nat.le_of_ble_eq_true rfl | (simp only [List.map_cons, List.map_nil, va_cat, List.sum_cons, List.sum_nil]; exact Nat.le_of_ble_eq_true rfl)) dX12_takesAct_58 (kI (fun w12 M13 h15 => ?_))
      exact e_iret C hr hlk (Nat.le_refl _) (Nat.le_refl _) dX12_takesAct_61 ⟨_, rfl, h15⟩
    · replace h := ite_f h q9
      by_cases q17 : (mI M b2 (x1).toNatClampNeg) = 6
      · replace h := ite_t h q17
        refine e_look (tgt := 62) C dX12_takesAct_6 (by decide) (by rw [q17] <;> rfl) (by decide) ?_
        refine e_aload_n C 0 dX12_takesAct_62 rfl rfl ?_
        refine e_bipush (v := 70) C dX12_takesAct_63 (by decide) ?_
        refine e_callV (as := [.int (70 : Int32)]) C wb_X12_body wv_X12_357 (ci := 12) rfl rfl (isO_1 o1) (m_X12_body h) rfl ⟨Nat.le_of_ble_eq_true rfl, Nat.le_of_ble_eq_true rfl⟩ ⟨Nat.le_of_ble_eq_true rfl, Nat.le_of_ble_eq_true rfl⟩ (by first | exact Nat.le_of_ble_eq_true rfl | (simp only [List.map_cons, List.map_nil, va_cat, List.sum_cons, List.sum_nil]; exact Nat.le_of_ble_eq_true rfl)) dX12_takesAct_65 (kV (fun M19 h28 => ?_))
        refine e_aload_n C 0 dX12_takesAct_68 rfl rfl ?_
        refine e_iload_n C 1 dX12_takesAct_69 rfl rfl ?_
        refine e_iload_n C 2 dX12_takesAct_70 rfl rfl ?_
        obtain ⟨o22, h28⟩ := h28
        refine e_callV (as := [.int x1, .int x2]) C wb_X12_firstTakes wv_X12_369 (ci := 12) rfl rfl (isO_1 o22) (m_X12_firstTakes h28) rfl ⟨Nat.le_of_ble_eq_true rfl, Nat.le_of_ble_eq_true rfl⟩ ⟨Nat.le_of_ble_eq_true rfl, Nat.le_of_ble_eq_true rfl⟩ (by first | exact Nat.le_of_ble_eq_true rfl | (simp only [List.map_cons, List.map_nil, va_cat, List.sum_cons, List.sum_nil]; exact Nat.le_of_ble_eq_true rfl)) dX12_takesAct_71 (kI (fun w20 M21 h27 => ?_))
        refine e_istore_n (al' := [(3, .int w20), (0, .ref a0), (1, .int x1), (2, .int x2)]) C dX12_takesAct_74 rfl (by decide) rfl ?_
        refine e_iload_n C 0 dX12_takesAct_75 rfl rfl ?_
        refine e_aload_n C 1 dX12_takesAct_76 rfl rfl ?_
        refine e_iload_n C 2 dX12_takesAct_77 rfl rfl ?_
        refine e_iconst (v := 2) C dX12_takesAct_78 (by decide) ?_
        obtain ⟨o25, h27⟩ := h27
        refine e_callV (as := [.int x1, .int (2 : Int32)]) C wb_X12_plainJoins wv_X12_360 (ci := 12) rfl rfl (isO_1 o25) (m_X12_plainJoins h27) rfl ⟨Nat.le_of_ble_eq_true rfl, Nat.le_of_ble_eq_true rfl⟩ ⟨Nat.le_of_ble_eq_true rfl, Nat.le_of_ble_eq_true rfl⟩ (by first | exact Nat.le_of_ble_eq_true rfl | (simp only [List.map_cons, List.map_nil, va_cat, List.sum_cons, List.sum_nil]; exact Nat.le_of_ble_eq_true rfl)) dX12_takesAct_79 (kI (fun w23 M24 h26 => ?_))
        refine e_iadd C dX12_takesAct_82 ?_
        exact e_iret C hr hlk (Nat.le_refl _) (Nat.le_refl _) dX12_takesAct_83 ⟨_, rfl, h26⟩
      · replace h := ite_f h q17
        refine e_look (tgt := 84) (off := 78) C dX12_takesAct_6 (by decide) (show Op.lookupswitch.offset [(1, 34), (3, 41), (6, 56)] 78 _ = _ by rw [lv_osw q5 (by decide), lv_osw q9 (by decide), lv_osw q17 (by decide)] <;> rfl) (by decide) ?_
        refine e_aload_n C 0 dX12_takesAct_84 rfl rfl ?_
        refine e_iload_n C 1 dX12_takesAct_85 rfl rfl ?_
        refine e_iload_n C 2 dX12_takesAct_86 rfl rfl ?_
        refine e_callV (as := [.int x1, .int x2]) C wb_X12_plainTakes wv_X12_366 (ci := 12) rfl rfl (isO_1 o1) (m_X12_plainTakes h) rfl ⟨Nat.le_of_ble_eq_true rfl, Nat.le_of_ble_eq_true rfl⟩ ⟨Nat.le_of_ble_eq_true rfl, Nat.le_of_ble_eq_true rfl⟩ (by first | exact Nat.le_of_ble_eq_true rfl | (simp only [List.map_cons, List.map_nil, va_cat, List.sum_cons, List.sum_nil]; exact Nat.le_of_ble_eq_true rfl)) dX12_takesAct_87 (kI (fun w29 M30 h31 => ?_))
        exact e_iret C hr hlk (Nat.le_refl _) (Nat.le_refl _) dX12_takesAct_90 ⟨_, rfl, h31⟩
theorem m_X12_takesAct  {a0 : Nat} {x1 : Int32} {x2 : Int32} {M : Mem} {Q : Int32 → Mem → Prop} (h : f_X12_takesAct a0 x1 x2 M Q) : Con yX12_takesAct cX12_takesAct 4 (some .int) 6 0 0 [.ref a0, .int x1, .int x2] M (rI Q) :=
  con_of2 (al := [(0, .ref a0), (1, .int x1), (2, .int x2)]) (by decide) (by exact Nat.le_of_ble_eq_true rfl) (by rfl) (fun p l e s m args below meth c g C hr hlk _ => w_X12_takesAct C hr hlk h)
set_option maxHeartbeats 4000000 in
set_option maxRecDepth 100000 in
theorem w_X12_plainTells {p : Program} {l : Launch} {e : Env} {s : State} {m : MethodId} {args : Array Value} {below : List Frame} {meth : Method} {c : Code} {g : Geo} (C : Cx p s m args c cX12_plainTells RX12 3 g) (hr : meth.sig.returnType = (some .int)) (hlk : meth.locks = false) {a0 : Nat} {x1 : Int32} {x2 : Int32} {M : Mem} {Q : Int32 → Mem → Prop} (h : f_X12_plainTells a0 x1 x2 M Q) : E p l e (rmO 7 0 0) s m args below meth c g 3 (MQ below (QcM g (rI Q)) args s 0 0 (gA g)) 0 0 0 [(0, .ref a0), (1, .int x1), (2, .int x2)] [] M := by
  unfold f_X12_plainTells at h
  refine e_aload_n C 0 dX12_plainTells_0 rfl rfl ?_
  refine e_bipush (v := 12) C dX12_plainTells_1 (by decide) ?_
  obtain ⟨o3, h⟩ := h
  refine e_callV (as := [.int (12 : Int32)]) C wb_X12_body wv_X12_357 (ci := 12) rfl rfl (isO_1 o3) (m_X12_body h) rfl ⟨Nat.le_of_ble_eq_true rfl, Nat.le_of_ble_eq_true rfl⟩ ⟨Nat.le_of_ble_eq_true rfl, Nat.le_of_ble_eq_true rfl⟩ (by first | exact Nat.le_of_ble_eq_true rfl | (simp only [List.map_cons, List.map_nil, va_cat, List.sum_cons, List.sum_nil]; exact Nat.le_of_ble_eq_true rfl)) dX12_plainTells_3 (kV (fun M2 h8 => ?_))
  refine e_aload_n C 0 dX12_plainTells_6 rfl rfl ?_
  refine e_iload_n C 1 dX12_plainTells_7 rfl rfl ?_
  refine e_iload_n C 2 dX12_plainTells_8 rfl rfl ?_
  obtain ⟨o6, h8⟩ := h8
  refine e_callV (as := [.int x1, .int x2]) C wb_X12_takesAct wv_X12_372 (ci := 12) rfl rfl (isO_1 o6) (m_X12_takesAct h8) rfl ⟨Nat.le_of_ble_eq_true rfl, Nat.le_of_ble_eq_true rfl⟩ ⟨Nat.le_of_ble_eq_true rfl, Nat.le_of_ble_eq_true rfl⟩ (by first | exact Nat.le_of_ble_eq_true rfl | (simp only [List.map_cons, List.map_nil, va_cat, List.sum_cons, List.sum_nil]; exact Nat.le_of_ble_eq_true rfl)) dX12_plainTells_9 (kI (fun w4 M5 h7 => ?_))
  refine e_iconst (v := 2) C dX12_plainTells_12 (by decide) ?_
  refine e_imul C dX12_plainTells_13 ?_
  exact e_iret C hr hlk (Nat.le_refl _) (Nat.le_refl _) dX12_plainTells_14 ⟨_, rfl, h7⟩
theorem m_X12_plainTells  {a0 : Nat} {x1 : Int32} {x2 : Int32} {M : Mem} {Q : Int32 → Mem → Prop} (h : f_X12_plainTells a0 x1 x2 M Q) : Con yX12_plainTells cX12_plainTells 3 (some .int) 7 0 0 [.ref a0, .int x1, .int x2] M (rI Q) :=
  con_of2 (al := [(0, .ref a0), (1, .int x1), (2, .int x2)]) (by decide) (by exact Nat.le_of_ble_eq_true rfl) (by rfl) (fun p l e s m args below meth c g C hr hlk _ => w_X12_plainTells C hr hlk h)
set_option maxHeartbeats 4000000 in
set_option maxRecDepth 100000 in
theorem w_X12_tellsAct {p : Program} {l : Launch} {e : Env} {s : State} {m : MethodId} {args : Array Value} {below : List Frame} {meth : Method} {c : Code} {g : Geo} (C : Cx p s m args c cX12_tellsAct RX12 4 g) (hr : meth.sig.returnType = (some .int)) (hlk : meth.locks = false) {a0 : Nat} {x1 : Int32} {x2 : Int32} {M : Mem} {Q : Int32 → Mem → Prop} (h : f_X12_tellsAct a0 x1 x2 M Q) : E p l e (rmO 8 0 0) s m args below meth c g 4 (MQ below (QcM g (rI Q)) args s 0 0 (gA g)) 0 0 0 [(0, .ref a0), (1, .int x1), (2, .int x2)] [] M := by
  unfold f_X12_tellsAct at h
  refine e_aload_n C 0 dX12_tellsAct_0 rfl rfl ?_
  obtain ⟨o1, h⟩ := h
  refine e_getR C [12] 28 (fg_of fg_X12_96) o1 dX12_tellsAct_1 ?_
  refine e_iload_n C 1 dX12_tellsAct_4 rfl rfl ?_
  obtain ⟨b2, p3, h⟩ := h
  try rw [p3]
  obtain ⟨o4, h⟩ := h
  refine e_iald C o4 dX12_tellsAct_5 ?_
  by_cases q5 : (mI M b2 (x1).toNatClampNeg) = 4
  · replace h := ite_t h q5
    refine e_look (tgt := 54) C dX12_tellsAct_6 (by decide) (by rw [q5] <;> rfl) (by decide) ?_
    refine e_aload_n C 0 dX12_tellsAct_54 rfl rfl ?_
    refine e_bipush (v := 60) C dX12_tellsAct_55 (by decide) ?_
    refine e_callV (as := [.int (60 : Int32)]) C wb_X12_body wv_X12_357 (ci := 12) rfl rfl (isO_1 o1) (m_X12_body h) rfl ⟨Nat.le_of_ble_eq_true rfl, Nat.le_of_ble_eq_true rfl⟩ ⟨Nat.le_of_ble_eq_true rfl, Nat.le_of_ble_eq_true rfl⟩ (by first | exact Nat.le_of_ble_eq_true rfl | (simp only [List.map_cons, List.map_nil, va_cat, List.sum_cons, List.sum_nil]; exact Nat.le_of_ble_eq_true rfl)) dX12_tellsAct_57 (kV (fun M7 h12 => ?_))
    refine e_aload_n C 0 dX12_tellsAct_60 rfl rfl ?_
    refine e_iload_n C 1 dX12_tellsAct_61 rfl rfl ?_
    refine e_iload_n C 2 dX12_tellsAct_62 rfl rfl ?_
    refine e_iload_n C 1 dX12_tellsAct_63 rfl rfl ?_
    refine e_isub C dX12_tellsAct_64 ?_
    obtain ⟨o10, h12⟩ := h12
    refine e_callV (as := [.int x1, .int (x2 - x1)]) C wb_X12_plainTells wv_X12_375 (ci := 12) rfl rfl (isO_1 o10) (m_X12_plainTells h12) rfl ⟨Nat.le_of_ble_eq_true rfl, Nat.le_of_ble_eq_true rfl⟩ ⟨Nat.le_of_ble_eq_true rfl, Nat.le_of_ble_eq_true rfl⟩ (by first | exact Nat.le_of_ble_eq_true rfl | (simp only [List.map_cons, List.map_nil, va_cat, List.sum_cons, List.sum_nil]; exact Nat.le_of_ble_eq_true rfl)) dX12_tellsAct_65 (kI (fun w8 M9 h11 => ?_))
    exact e_iret C hr hlk (Nat.le_refl _) (Nat.le_refl _) dX12_tellsAct_68 ⟨_, rfl, h11⟩
  · replace h := ite_f h q5
    by_cases q13 : (mI M b2 (x1).toNatClampNeg) = 5
    · replace h := ite_t h q13
      refine e_look (tgt := 32) C dX12_tellsAct_6 (by decide) (by rw [q13] <;> rfl) (by decide) ?_
      refine e_aload_n C 0 dX12_tellsAct_32 rfl rfl ?_
      refine e_bipush (v := 40) C dX12_tellsAct_33 (by decide) ?_
      refine e_callV (as := [.int (40 : Int32)]) C wb_X12_body wv_X12_357 (ci := 12) rfl rfl (isO_1 o1) (m_X12_body h) rfl ⟨Nat.le_of_ble_eq_true rfl, Nat.le_of_ble_eq_true rfl⟩ ⟨Nat.le_of_ble_eq_true rfl, Nat.le_of_ble_eq_true rfl⟩ (by first | exact Nat.le_of_ble_eq_true rfl | (simp only [List.map_cons, List.map_nil, va_cat, List.sum_cons, List.sum_nil]; exact Nat.le_of_ble_eq_true rfl)) dX12_tellsAct_35 (kV (fun M15 h24 => ?_))
      refine e_aload_n C 0 dX12_tellsAct_38 rfl rfl ?_
      refine e_iload_n C 1 dX12_tellsAct_39 rfl rfl ?_
      refine e_iload_n C 2 dX12_tellsAct_40 rfl rfl ?_
      obtain ⟨o18, h24⟩ := h24
      refine e_callV (as := [.int x1, .int x2]) C wb_X12_plainTells wv_X12_375 (ci := 12) rfl rfl (isO_1 o18) (m_X12_plainTells h24) rfl ⟨Nat.le_of_ble_eq_true rfl, Nat.le_of_ble_eq_true rfl⟩ ⟨Nat.le_of_ble_eq_true rfl, Nat.le_of_ble_eq_true rfl⟩ (by first | exact Nat.le_of_ble_eq_true rfl | (simp only [List.map_cons, List.map_nil, va_cat, List.sum_cons, List.sum_nil]; exact Nat.le_of_ble_eq_true rfl)) dX12_tellsAct_41 (kI (fun w16 M17 h23 => ?_))
      refine e_istore_n (al' := [(3, .int w16), (0, .ref a0), (1, .int x1), (2, .int x2)]) C dX12_tellsAct_44 rfl (by decide) rfl ?_
      refine e_iload_n C 0 dX12_tellsAct_45 rfl rfl ?_
      refine e_aload_n C 1 dX12_tellsAct_46 rfl rfl ?_
      refine e_iload_n C 2 dX12_tellsAct_47 rfl rfl ?_
      refine e_iconst (v := 1) C dX12_tellsAct_48 (by decide) ?_
      obtain ⟨o21, h23⟩ := h23
      refine e_callV (as := [.int x1, .int (1 : Int32)]) C wb_X12_takesAct wv_X12_372 (ci := 12) rfl rfl (isO_1 o21) (m_X12_takesAct h23) rfl ⟨Nat.le_of_ble_eq_true rfl, Nat.le_of_ble_eq_true rfl⟩ ⟨Nat.le_of_ble_eq_true rfl, Nat.le_of_ble_eq_true rfl⟩ (by first | exact Nat.le_of_ble_eq_true rfl | (simp only [List.map_cons, List.map_nil, va_cat, List.sum_cons, List.sum_nil]; exact Nat.le_of_ble_eq_true rfl)) dX12_tellsAct_49 (kI (fun w19 M20 h22 => ?_))
      refine e_iadd C dX12_tellsAct_52 ?_
      exact e_iret C hr hlk (Nat.le_refl _) (Nat.le_refl _) dX12_tellsAct_53 ⟨_, rfl, h22⟩
    · replace h := ite_f h q13
      refine e_look (tgt := 69) (off := 63) C dX12_tellsAct_6 (by decide) (show Op.lookupswitch.offset [(4, 48), (5, 26)] 63 _ = _ by rw [lv_osw q5 (by decide), lv_osw q13 (by decide)] <;> rfl) (by decide) ?_
      refine e_aload_n C 0 dX12_tellsAct_69 rfl rfl ?_
      refine e_iload_n C 1 dX12_tellsAct_70 rfl rfl ?_
      refine e_iload_n C 2 dX12_tellsAct_71 rfl rfl ?_
      refine e_callV (as := [.int x1, .int x2]) C wb_X12_plainTells wv_X12_375 (ci := 12) rfl rfl (isO_1 o1) (m_X12_plainTells h) rfl ⟨Nat.le_of_ble_eq_true rfl, Nat.le_of_ble_eq_true rfl⟩ ⟨Nat.le_of_ble_eq_true rfl, Nat.le_of_ble_eq_true rfl⟩ (by first | exact Nat.le_of_ble_eq_true rfl | (simp only [List.map_cons, List.map_nil, va_cat, List.sum_cons, List.sum_nil]; exact Nat.le_of_ble_eq_true rfl)) dX12_tellsAct_72 (kI (fun w25 M26 h27 => ?_))
      exact e_iret C hr hlk (Nat.le_refl _) (Nat.le_refl _) dX12_tellsAct_75 ⟨_, rfl, h27⟩
theorem m_X12_tellsAct  {a0 : Nat} {x1 : Int32} {x2 : Int32} {M : Mem} {Q : Int32 → Mem → Prop} (h : f_X12_tellsAct a0 x1 x2 M Q) : Con yX12_tellsAct cX12_tellsAct 4 (some .int) 8 0 0 [.ref a0, .int x1, .int x2] M (rI Q) :=
  con_of2 (al := [(0, .ref a0), (1, .int x1), (2, .int x2)]) (by decide) (by exact Nat.le_of_ble_eq_true rfl) (by rfl) (fun p l e s m args below meth c g C hr hlk _ => w_X12_tellsAct C hr hlk h)
set_option maxHeartbeats 4000000 in
set_option maxRecDepth 100000 in
theorem w_X12_act {p : Program} {l : Launch} {e : Env} {s : State} {m : MethodId} {args : Array Value} {below : List Frame} {meth : Method} {c : Code} {g : Geo} (C : Cx p s m args c cX12_act RX12 4 g) (hr : meth.sig.returnType = (some .int)) (hlk : meth.locks = false) {a0 : Nat} {x1 : Int32} {x2 : Int32} {x3 : Int32} {M : Mem} {Q : Int32 → Mem → Prop} (h : f_X12_act a0 x1 x2 x3 M Q) : E p l e (rmO 9 0 0) s m args below meth c g 4 (MQ below (QcM g (rI Q)) args s 0 0 (gA g)) 0 0 0 [(0, .ref a0), (1, .int x1), (2, .int x2), (3, .int x3)] [] M := by
  unfold f_X12_act at h
  refine e_aload_n C 0 dX12_act_0 rfl rfl ?_
  refine e_iconst (v := 0) C dX12_act_1 (by decide) ?_
  obtain ⟨o1, h⟩ := h
  refine e_putI C [12] 61 false (fun z => by cases z) fp_X12_196 o1 dX12_act_2 ?_
  refine nmE (fun M2 e3 => ?_)
  replace h := h M2 e3
  have o4 : isO M2 a0 [12] := by rw [e3]; exact o1
  refine e_aload_n C 0 dX12_act_5 rfl rfl ?_
  refine e_iload_n C 1 dX12_act_6 rfl rfl ?_
  refine e_callV (as := [.int x1]) C wb_X12_isOrder wv_X12_294 (ci := 12) rfl rfl (isO_1 o4) (m_X12_isOrder h) rfl ⟨Nat.le_of_ble_eq_true rfl, Nat.le_of_ble_eq_true rfl⟩ ⟨Nat.le_of_ble_eq_true rfl, Nat.le_of_ble_eq_true rfl⟩ (by first | exact Nat.le_of_ble_eq_true rfl | (simp only [List.map_cons, List.map_nil, va_cat, List.sum_cons, List.sum_nil]; exact Nat.le_of_ble_eq_true rfl)) dX12_act_7 (kZ (fun w5 M6 h27 => ?_))
  refine e_if_eq (tgt := 23) C dX12_act_10 (by decide) (fun q7 => ?_) (fun q7 => ?_)
  · replace h27 := ite_f h27 (bi_ne q7)
    refine e_iconst (v := 0) C dX12_act_23 (by decide) ?_
    exact e_iret C hr hlk (Nat.le_refl _) (Nat.le_refl _) dX12_act_24 ⟨_, rfl, h27⟩
  · replace h27 := ite_t h27 (bi_t q7)
    refine e_aload_n C 0 dX12_act_13 rfl rfl ?_
    refine e_iload_n C 2 dX12_act_14 rfl rfl ?_
    refine e_iconst (v := 0) C dX12_act_15 (by decide) ?_
    refine e_iconst (v := 2) C dX12_act_16 (by decide) ?_
    obtain ⟨o10, h27⟩ := h27
    refine e_callV (as := [.int x2, .int (0 : Int32), .int (2 : Int32)]) C wb_X12_in wv_X12_215 (ci := 12) rfl rfl (isO_1 o10) (m_X12_in h27) rfl ⟨Nat.le_of_ble_eq_true rfl, Nat.le_of_ble_eq_true rfl⟩ ⟨Nat.le_of_ble_eq_true rfl, Nat.le_of_ble_eq_true rfl⟩ (by first | exact Nat.le_of_ble_eq_true rfl | (simp only [List.map_cons, List.map_nil, va_cat, List.sum_cons, List.sum_nil]; exact Nat.le_of_ble_eq_true rfl)) dX12_act_17 (kZ (fun w8 M9 h26 => ?_))
    refine e_if_ne (tgt := 25) C dX12_act_20 (by decide) (fun q11 => ?_) (fun q11 => ?_)
    · replace h26 := ite_t h26 (bi_t q11)
      refine e_iload_n C 2 dX12_act_25 rfl rfl ?_
      refine e_if_ne (tgt := 38) C dX12_act_26 (by decide) (fun q12 => ?_) (fun q12 => ?_)
      · replace h26 := ite_f h26 q12
        refine e_iload_n C 2 dX12_act_38 rfl rfl ?_
        refine e_iconst (v := 1) C dX12_act_39 (by decide) ?_
        refine e_icmp_ne (tgt := 52) C dX12_act_40 (by decide) (fun q13 => ?_) (fun q13 => ?_)
        · replace h26 := ite_f h26 q13
          refine e_aload_n C 0 dX12_act_52 rfl rfl ?_
          refine e_iload_n C 1 dX12_act_53 rfl rfl ?_
          refine e_iload_n C 3 dX12_act_54 rfl rfl ?_
          obtain ⟨o16, h26⟩ := h26
          refine e_callV (as := [.int x1, .int x3]) C wb_X12_tellsAct wv_X12_378 (ci := 12) rfl rfl (isO_1 o16) (m_X12_tellsAct h26) rfl ⟨Nat.le_of_ble_eq_true rfl, Nat.le_of_ble_eq_true rfl⟩ ⟨Nat.le_of_ble_eq_true rfl, Nat.le_of_ble_eq_true rfl⟩ (by first | exact Nat.le_of_ble_eq_true rfl | (simp only [List.map_cons, List.map_nil, va_cat, List.sum_cons, List.sum_nil]; exact Nat.le_of_ble_eq_true rfl)) dX12_act_55 (kI (fun w14 M15 h17 => ?_))
          exact e_iret C hr hlk (Nat.le_refl _) (Nat.le_refl _) dX12_act_58 ⟨_, rfl, h17⟩
        · replace h26 := ite_t h26 q13
          refine e_aload_n C 0 dX12_act_43 rfl rfl ?_
          refine e_iload_n C 1 dX12_act_44 rfl rfl ?_
          refine e_iload_n C 3 dX12_act_45 rfl rfl ?_
          obtain ⟨o20, h26⟩ := h26
          refine e_callV (as := [.int x1, .int x3]) C wb_X12_takesAct wv_X12_372 (ci := 12) rfl rfl (isO_1 o20) (m_X12_takesAct h26) rfl ⟨Nat.le_of_ble_eq_true rfl, Nat.le_of_ble_eq_true rfl⟩ ⟨Nat.le_of_ble_eq_true rfl, Nat.le_of_ble_eq_true rfl⟩ (by first | exact Nat.le_of_ble_eq_true rfl | (simp only [List.map_cons, List.map_nil, va_cat, List.sum_cons, List.sum_nil]; exact Nat.le_of_ble_eq_true rfl)) dX12_act_46 (kI (fun w18 M19 h21 => ?_))
          refine e_goto (tgt := 58) C dX12_act_49 (by decide) ?_
          exact e_iret C hr hlk (Nat.le_refl _) (Nat.le_refl _) dX12_act_58 ⟨_, rfl, h21⟩
      · replace h26 := ite_t h26 q12
        refine e_aload_n C 0 dX12_act_29 rfl rfl ?_
        refine e_iload_n C 1 dX12_act_30 rfl rfl ?_
        refine e_iload_n C 3 dX12_act_31 rfl rfl ?_
        obtain ⟨o24, h26⟩ := h26
        refine e_callV (as := [.int x1, .int x3]) C wb_X12_joinsAct wv_X12_363 (ci := 12) rfl rfl (isO_1 o24) (m_X12_joinsAct h26) rfl ⟨Nat.le_of_ble_eq_true rfl, Nat.le_of_ble_eq_true rfl⟩ ⟨Nat.le_of_ble_eq_true rfl, Nat.le_of_ble_eq_true rfl⟩ (by first | exact Nat.le_of_ble_eq_true rfl | (simp only [List.map_cons, List.map_nil, va_cat, List.sum_cons, List.sum_nil]; exact Nat.le_of_ble_eq_true rfl)) dX12_act_32 (kI (fun w22 M23 h25 => ?_))
        refine e_goto (tgt := 58) C dX12_act_35 (by decide) ?_
        exact e_iret C hr hlk (Nat.le_refl _) (Nat.le_refl _) dX12_act_58 ⟨_, rfl, h25⟩
    · replace h26 := ite_f h26 (bi_ne q11)
      refine e_iconst (v := 0) C dX12_act_23 (by decide) ?_
      exact e_iret C hr hlk (Nat.le_refl _) (Nat.le_refl _) dX12_act_24 ⟨_, rfl, h26⟩
theorem m_X12_act  {a0 : Nat} {x1 : Int32} {x2 : Int32} {x3 : Int32} {M : Mem} {Q : Int32 → Mem → Prop} (h : f_X12_act a0 x1 x2 x3 M Q) : Con yX12_act cX12_act 4 (some .int) 9 0 0 [.ref a0, .int x1, .int x2, .int x3] M (rI Q) :=
  con_of2 (al := [(0, .ref a0), (1, .int x1), (2, .int x2), (3, .int x3)]) (by decide) (by exact Nat.le_of_ble_eq_true rfl) (by rfl) (fun p l e s m args below meth c g C hr hlk _ => w_X12_act C hr hlk h)
set_option maxHeartbeats 4000000 in
set_option maxRecDepth 100000 in
theorem w_X12_trace {p : Program} {l : Launch} {e : Env} {s : State} {m : MethodId} {args : Array Value} {below : List Frame} {meth : Method} {c : Code} {g : Geo} (C : Cx p s m args c cX12_trace RX12 2 g) (hr : meth.sig.returnType = (some .int)) (hlk : meth.locks = false) {a0 : Nat} {x1 : Int32} {M : Mem} {Q : Int32 → Mem → Prop} (h : f_X12_trace a0 x1 M Q) : E p l e (rmO 2 0 0) s m args below meth c g 2 (MQ below (QcM g (rI Q)) args s 0 0 (gA g)) 0 0 0 [(0, .ref a0), (1, .int x1)] [] M := by
  unfold f_X12_trace at h
  refine e_aload_n C 0 dX12_trace_0 rfl rfl ?_
  refine e_iload_n C 1 dX12_trace_1 rfl rfl ?_
  refine e_iconst (v := 0) C dX12_trace_2 (by decide) ?_
  refine e_bipush (v := 19) C dX12_trace_3 (by decide) ?_
  obtain ⟨o3, h⟩ := h
  refine e_callV (as := [.int x1, .int (0 : Int32), .int (19 : Int32)]) C wb_X12_in wv_X12_215 (ci := 12) rfl rfl (isO_1 o3) (m_X12_in h) rfl ⟨Nat.le_of_ble_eq_true rfl, Nat.le_of_ble_eq_true rfl⟩ ⟨Nat.le_of_ble_eq_true rfl, Nat.le_of_ble_eq_true rfl⟩ (by first | exact Nat.le_of_ble_eq_true rfl | (simp only [List.map_cons, List.map_nil, va_cat, List.sum_cons, List.sum_nil]; exact Nat.le_of_ble_eq_true rfl)) dX12_trace_5 (kZ (fun w1 M2 h10 => ?_))
  refine e_if_eq (tgt := 28) C dX12_trace_8 (by decide) (fun q4 => ?_) (fun q4 => ?_)
  · replace h10 := ite_f h10 (bi_ne q4)
    refine e_iconst (v := -1) C dX12_trace_28 (by decide) ?_
    exact e_iret C hr hlk (Nat.le_refl _) (Nat.le_refl _) dX12_trace_29 ⟨_, rfl, h10⟩
  · replace h10 := ite_t h10 (bi_t q4)
    refine e_iload_n C 1 dX12_trace_11 rfl rfl ?_
    refine e_aload_n C 0 dX12_trace_12 rfl rfl ?_
    obtain ⟨o5, h10⟩ := h10
    refine e_getI C [12] 61 (fg_of fg_X12_196) o5 dX12_trace_13 ?_
    refine e_icmp_ge (tgt := 28) C dX12_trace_16 (by decide) (fun q6 => ?_) (fun q6 => ?_)
    · replace h10 := ite_t h10 q6
      refine e_iconst (v := -1) C dX12_trace_28 (by decide) ?_
      exact e_iret C hr hlk (Nat.le_refl _) (Nat.le_refl _) dX12_trace_29 ⟨_, rfl, h10⟩
    · replace h10 := ite_f h10 q6
      refine e_aload_n C 0 dX12_trace_19 rfl rfl ?_
      refine e_getR C [12] 62 (fg_of fg_X12_199) o5 dX12_trace_20 ?_
      refine e_iload_n C 1 dX12_trace_23 rfl rfl ?_
      obtain ⟨b7, p8, h10⟩ := h10
      try rw [p8]
      obtain ⟨o9, h10⟩ := h10
      refine e_iald C o9 dX12_trace_24 ?_
      refine e_goto (tgt := 29) C dX12_trace_25 (by decide) ?_
      exact e_iret C hr hlk (Nat.le_refl _) (Nat.le_refl _) dX12_trace_29 ⟨_, rfl, h10⟩
theorem m_X12_trace  {a0 : Nat} {x1 : Int32} {M : Mem} {Q : Int32 → Mem → Prop} (h : f_X12_trace a0 x1 M Q) : Con yX12_trace cX12_trace 2 (some .int) 2 0 0 [.ref a0, .int x1] M (rI Q) :=
  con_of2 (al := [(0, .ref a0), (1, .int x1)]) (by decide) (by exact Nat.le_of_ble_eq_true rfl) (by rfl) (fun p l e s m args below meth c g C hr hlk _ => w_X12_trace C hr hlk h)
set_option maxHeartbeats 4000000 in
set_option maxRecDepth 100000 in
theorem w_X12_taken_J57 {p : Program} {l : Launch} {e : Env} {s : State} {m : MethodId} {args : Array Value} {below : List Frame} {meth : Method} {c : Code} {g : Geo} (C : Cx p s m args c cX12_taken RX12 4 g) (hr : meth.sig.returnType = (some .int)) (hlk : meth.locks = false) {a0 : Nat} {x1 : Int32} {x2 : Int32} {v3 : Int32} {M : Mem} {Q : Int32 → Mem → Prop} (h : f_X12_taken_J57 a0 x1 x2 v3 M Q) : E p l e (rmO 3 0 0) s m args below meth c g 4 (MQ below (QcM g (rI Q)) args s 0 0 (gA g)) 0 0 57 [(0, .ref a0), (1, .int x1), (2, .int x2), (3, .int v3)] [] M := by
  unfold f_X12_taken_J57 at h
  refine e_iload_n C 2 dX12_taken_57 rfl rfl ?_
  refine e_iconst (v := 2) C dX12_taken_58 (by decide) ?_
  refine e_icmp_ne (tgt := 71) C dX12_taken_59 (by decide) (fun q1 => ?_) (fun q1 => ?_)
  · replace h := ite_f h q1
    refine e_bipush (v := -12) C dX12_taken_71 (by decide) ?_
    exact e_iret C hr hlk (Nat.le_refl _) (Nat.le_refl _) dX12_taken_73 ⟨_, rfl, h⟩
  · replace h := ite_t h q1
    refine e_iload_n C 3 dX12_taken_62 rfl rfl ?_
    refine e_iconst (v := 4) C dX12_taken_63 (by decide) ?_
    refine e_icmp_ne (tgt := 71) C dX12_taken_64 (by decide) (fun q2 => ?_) (fun q2 => ?_)
    · replace h := ite_f h q2
      refine e_bipush (v := -12) C dX12_taken_71 (by decide) ?_
      exact e_iret C hr hlk (Nat.le_refl _) (Nat.le_refl _) dX12_taken_73 ⟨_, rfl, h⟩
    · replace h := ite_t h q2
      refine e_iload_n C 3 dX12_taken_67 rfl rfl ?_
      refine e_goto (tgt := 73) C dX12_taken_68 (by decide) ?_
      exact e_iret C hr hlk (Nat.le_refl _) (Nat.le_refl _) dX12_taken_73 ⟨_, rfl, h⟩
set_option maxHeartbeats 4000000 in
set_option maxRecDepth 100000 in
theorem w_X12_taken {p : Program} {l : Launch} {e : Env} {s : State} {m : MethodId} {args : Array Value} {below : List Frame} {meth : Method} {c : Code} {g : Geo} (C : Cx p s m args c cX12_taken RX12 4 g) (hr : meth.sig.returnType = (some .int)) (hlk : meth.locks = false) {a0 : Nat} {x1 : Int32} {x2 : Int32} {M : Mem} {Q : Int32 → Mem → Prop} (h : f_X12_taken a0 x1 x2 M Q) : E p l e (rmO 3 0 0) s m args below meth c g 4 (MQ below (QcM g (rI Q)) args s 0 0 (gA g)) 0 0 0 [(0, .ref a0), (1, .int x1), (2, .int x2)] [] M := by
  unfold f_X12_taken at h
  refine e_aload_n C 0 dX12_taken_0 rfl rfl ?_
  refine e_iload_n C 2 dX12_taken_1 rfl rfl ?_
  refine e_iconst (v := 0) C dX12_taken_2 (by decide) ?_
  refine e_bipush (v := 6) C dX12_taken_3 (by decide) ?_
  obtain ⟨o3, h⟩ := h
  refine e_callV (as := [.int x2, .int (0 : Int32), .int (6 : Int32)]) C wb_X12_in wv_X12_215 (ci := 12) rfl rfl (isO_1 o3) (m_X12_in h) rfl ⟨Nat.le_of_ble_eq_true rfl, Nat.le_of_ble_eq_true rfl⟩ ⟨Nat.le_of_ble_eq_true rfl, Nat.le_of_ble_eq_true rfl⟩ (by first | exact Nat.le_of_ble_eq_true rfl | (simp only [List.map_cons, List.map_nil, va_cat, List.sum_cons, List.sum_nil]; exact Nat.le_of_ble_eq_true rfl)) dX12_taken_5 (kZ (fun w1 M2 h19 => ?_))
  refine e_if_ne (tgt := 14) C dX12_taken_8 (by decide) (fun q4 => ?_) (fun q4 => ?_)
  · replace h19 := ite_t h19 (bi_t q4)
    refine e_aload_n C 0 dX12_taken_14 rfl rfl ?_
    refine e_iload_n C 1 dX12_taken_15 rfl rfl ?_
    obtain ⟨o7, h19⟩ := h19
    refine e_callV (as := [.int x1]) C wb_X12_isOrder wv_X12_294 (ci := 12) rfl rfl (isO_1 o7) (m_X12_isOrder h19) rfl ⟨Nat.le_of_ble_eq_true rfl, Nat.le_of_ble_eq_true rfl⟩ ⟨Nat.le_of_ble_eq_true rfl, Nat.le_of_ble_eq_true rfl⟩ (by first | exact Nat.le_of_ble_eq_true rfl | (simp only [List.map_cons, List.map_nil, va_cat, List.sum_cons, List.sum_nil]; exact Nat.le_of_ble_eq_true rfl)) dX12_taken_16 (kZ (fun w5 M6 h18 => ?_))
    refine e_if_ne (tgt := 25) C dX12_taken_19 (by decide) (fun q8 => ?_) (fun q8 => ?_)
    · replace h18 := ite_t h18 (bi_t q8)
      refine e_aload_n C 0 dX12_taken_25 rfl rfl ?_
      obtain ⟨o9, h18⟩ := h18
      refine e_getR C [12] 28 (fg_of fg_X12_96) o9 dX12_taken_26 ?_
      refine e_iload_n C 1 dX12_taken_29 rfl rfl ?_
      obtain ⟨b10, p11, h18⟩ := h18
      try rw [p11]
      obtain ⟨o12, h18⟩ := h18
      refine e_iald C o12 dX12_taken_30 ?_
      refine e_istore_n (al' := [(3, .int (mI M6 b10 (x1).toNatClampNeg)), (0, .ref a0), (1, .int x1), (2, .int x2)]) C dX12_taken_31 rfl (by decide) rfl ?_
      refine e_iload_n C 3 dX12_taken_32 rfl rfl ?_
      refine e_if_eq (tgt := 67) C dX12_taken_33 (by decide) (fun q13 => ?_) (fun q13 => ?_)
      · replace h18 := ite_t h18 q13
        refine e_iload_n C 0 dX12_taken_67 rfl rfl ?_
        refine e_goto (tgt := 73) C dX12_taken_68 (by decide) ?_
        exact e_iret C hr hlk (Nat.le_refl _) (Nat.le_refl _) dX12_taken_73 ⟨_, rfl, h18⟩
      · replace h18 := ite_f h18 q13
        refine e_iload_n C 0 dX12_taken_36 rfl rfl ?_
        refine e_iload_n C 3 dX12_taken_37 rfl rfl ?_
        refine e_icmp_eq (tgt := 67) C dX12_taken_38 (by decide) (fun q14 => ?_) (fun q14 => ?_)
        · replace h18 := ite_t h18 q14
          refine e_iload_n C 0 dX12_taken_67 rfl rfl ?_
          refine e_goto (tgt := 73) C dX12_taken_68 (by decide) ?_
          exact e_iret C hr hlk (Nat.le_refl _) (Nat.le_refl _) dX12_taken_73 ⟨_, rfl, h18⟩
        · replace h18 := ite_f h18 q14
          refine e_iload_n C 3 dX12_taken_41 rfl rfl ?_
          refine e_iconst (v := 1) C dX12_taken_42 (by decide) ?_
          refine e_icmp_ne (tgt := 57) C dX12_taken_43 (by decide) (fun q15 => ?_) (fun q15 => ?_)
          · replace h18 := ite_f h18 q15
            refine e_pick [1, 2, 3, 0] rfl ?_
            exact w_X12_taken_J57 C hr hlk h18
          · replace h18 := ite_t h18 q15
            refine e_iload_n C 0 dX12_taken_46 rfl rfl ?_
            refine e_iconst (v := 3) C dX12_taken_47 (by decide) ?_
            refine e_icmp_eq (tgt := 67) C dX12_taken_48 (by decide) (fun q16 => ?_) (fun q16 => ?_)
            · replace h18 := ite_t h18 q16
              refine e_iload_n C 0 dX12_taken_67 rfl rfl ?_
              refine e_goto (tgt := 73) C dX12_taken_68 (by decide) ?_
              exact e_iret C hr hlk (Nat.le_refl _) (Nat.le_refl _) dX12_taken_73 ⟨_, rfl, h18⟩
            · replace h18 := ite_f h18 q16
              refine e_iload_n C 0 dX12_taken_51 rfl rfl ?_
              refine e_bipush (v := 6) C dX12_taken_52 (by decide) ?_
              refine e_icmp_eq (tgt := 67) C dX12_taken_54 (by decide) (fun q17 => ?_) (fun q17 => ?_)
              · replace h18 := ite_t h18 q17
                refine e_iload_n C 0 dX12_taken_67 rfl rfl ?_
                refine e_goto (tgt := 73) C dX12_taken_68 (by decide) ?_
                exact e_iret C hr hlk (Nat.le_refl _) (Nat.le_refl _) dX12_taken_73 ⟨_, rfl, h18⟩
              · replace h18 := ite_f h18 q17
                refine e_pick [1, 2, 3, 0] rfl ?_
                exact w_X12_taken_J57 C hr hlk h18
    · replace h18 := ite_f h18 (bi_ne q8)
      refine e_bipush (v := -11) C dX12_taken_22 (by decide) ?_
      exact e_iret C hr hlk (Nat.le_refl _) (Nat.le_refl _) dX12_taken_24 ⟨_, rfl, h18⟩
  · replace h19 := ite_f h19 (bi_ne q4)
    refine e_bipush (v := -2) C dX12_taken_11 (by decide) ?_
    exact e_iret C hr hlk (Nat.le_refl _) (Nat.le_refl _) dX12_taken_13 ⟨_, rfl, h19⟩
theorem m_X12_taken  {a0 : Nat} {x1 : Int32} {x2 : Int32} {M : Mem} {Q : Int32 → Mem → Prop} (h : f_X12_taken a0 x1 x2 M Q) : Con yX12_taken cX12_taken 4 (some .int) 3 0 0 [.ref a0, .int x1, .int x2] M (rI Q) :=
  con_of2 (al := [(0, .ref a0), (1, .int x1), (2, .int x2)]) (by decide) (by exact Nat.le_of_ble_eq_true rfl) (by rfl) (fun p l e s m args below meth c g C hr hlk _ => w_X12_taken C hr hlk h)
set_option maxHeartbeats 4000000 in
set_option maxRecDepth 100000 in
theorem w_X12_count {p : Program} {l : Launch} {e : Env} {s : State} {m : MethodId} {args : Array Value} {below : List Frame} {meth : Method} {c : Code} {g : Geo} (C : Cx p s m args c cX12_count RX12 2 g) (hr : meth.sig.returnType = (some .int)) (hlk : meth.locks = false) {a0 : Nat} {x1 : Int32} {M : Mem} {Q : Int32 → Mem → Prop} (h : f_X12_count a0 x1 M Q) : E p l e (rmO 1 0 0) s m args below meth c g 2 (MQ below (QcM g (rI Q)) args s 0 0 (gA g)) 0 0 0 [(0, .ref a0), (1, .int x1)] [] M := by
  unfold f_X12_count at h
  refine e_iload_n C 1 dX12_count_0 rfl rfl ?_
  by_cases q1 : x1 = 0
  · replace h := ite_t h q1
    refine e_tin (tgt := 40) C dX12_count_1 (by rw [q1]; decide) (by rw [q1]; decide) (by rw [q1] <;> rfl) (by decide) ?_
    refine e_aload_n C 0 dX12_count_40 rfl rfl ?_
    obtain ⟨o2, h⟩ := h
    refine e_getI C [12] 0 (fg_of fg_X12_7) o2 dX12_count_41 ?_
    exact e_iret C hr hlk (Nat.le_refl _) (Nat.le_refl _) dX12_count_44 ⟨_, rfl, h⟩
  · replace h := ite_f h q1
    by_cases q3 : x1 = 1
    · replace h := ite_t h q3
      refine e_tin (tgt := 45) C dX12_count_1 (by rw [q3]; decide) (by rw [q3]; decide) (by rw [q3] <;> rfl) (by decide) ?_
      refine e_aload_n C 0 dX12_count_45 rfl rfl ?_
      obtain ⟨o4, h⟩ := h
      refine e_getI C [12] 9 (fg_of fg_X12_38) o4 dX12_count_46 ?_
      exact e_iret C hr hlk (Nat.le_refl _) (Nat.le_refl _) dX12_count_49 ⟨_, rfl, h⟩
    · replace h := ite_f h q3
      by_cases q5 : x1 = 2
      · replace h := ite_t h q5
        refine e_tin (tgt := 50) C dX12_count_1 (by rw [q5]; decide) (by rw [q5]; decide) (by rw [q5] <;> rfl) (by decide) ?_
        refine e_aload_n C 0 dX12_count_50 rfl rfl ?_
        obtain ⟨o6, h⟩ := h
        refine e_getI C [12] 27 (fg_of fg_X12_93) o6 dX12_count_51 ?_
        exact e_iret C hr hlk (Nat.le_refl _) (Nat.le_refl _) dX12_count_54 ⟨_, rfl, h⟩
      · replace h := ite_f h q5
        by_cases q7 : x1 = 3
        · replace h := ite_t h q7
          refine e_tin (tgt := 55) C dX12_count_1 (by rw [q7]; decide) (by rw [q7]; decide) (by rw [q7] <;> rfl) (by decide) ?_
          refine e_aload_n C 0 dX12_count_55 rfl rfl ?_
          obtain ⟨o8, h⟩ := h
          refine e_getI C [12] 1 (fg_of fg_X12_13) o8 dX12_count_56 ?_
          exact e_iret C hr hlk (Nat.le_refl _) (Nat.le_refl _) dX12_count_59 ⟨_, rfl, h⟩
        · replace h := ite_f h q7
          by_cases q9 : x1 = 4
          · replace h := ite_t h q9
            refine e_tin (tgt := 60) C dX12_count_1 (by rw [q9]; decide) (by rw [q9]; decide) (by rw [q9] <;> rfl) (by decide) ?_
            refine e_aload_n C 0 dX12_count_60 rfl rfl ?_
            obtain ⟨o10, h⟩ := h
            refine e_getI C [12] 11 (fg_of fg_X12_44) o10 dX12_count_61 ?_
            exact e_iret C hr hlk (Nat.le_refl _) (Nat.le_refl _) dX12_count_64 ⟨_, rfl, h⟩
          · replace h := ite_f h q9
            by_cases q11 : x1 = 5
            · replace h := ite_t h q11
              refine e_tin (tgt := 65) C dX12_count_1 (by rw [q11]; decide) (by rw [q11]; decide) (by rw [q11] <;> rfl) (by decide) ?_
              refine e_aload_n C 0 dX12_count_65 rfl rfl ?_
              obtain ⟨o12, h⟩ := h
              refine e_getI C [12] 61 (fg_of fg_X12_196) o12 dX12_count_66 ?_
              exact e_iret C hr hlk (Nat.le_refl _) (Nat.le_refl _) dX12_count_69 ⟨_, rfl, h⟩
            · replace h := ite_f h q11
              refine e_tout (tgt := 70) C dX12_count_1 (by have z0 := lv_neT (a := 0) q1 (by decide); have z1 := lv_neT (a := 1) q3 (by decide); have z2 := lv_neT (a := 2) q5 (by decide); have z3 := lv_neT (a := 3) q7 (by decide); have z4 := lv_neT (a := 4) q9 (by decide); have z5 := lv_neT (a := 5) q11 (by decide); omega) (by decide) ?_
              refine e_bipush (v := -2) C dX12_count_70 (by decide) ?_
              exact e_iret C hr hlk (Nat.le_refl _) (Nat.le_refl _) dX12_count_72 ⟨_, rfl, h⟩
theorem m_X12_count  {a0 : Nat} {x1 : Int32} {M : Mem} {Q : Int32 → Mem → Prop} (h : f_X12_count a0 x1 M Q) : Con yX12_count cX12_count 2 (some .int) 1 0 0 [.ref a0, .int x1] M (rI Q) :=
  con_of2 (al := [(0, .ref a0), (1, .int x1)]) (by decide) (by exact Nat.le_of_ble_eq_true rfl) (by rfl) (fun p l e s m args below meth c g C hr hlk _ => w_X12_count C hr hlk h)
set_option maxHeartbeats 4000000 in
set_option maxRecDepth 100000 in
theorem w_X12_tape_B69 {p : Program} {l : Launch} {e : Env} {s : State} {m : MethodId} {args : Array Value} {below : List Frame} {meth : Method} {c : Code} {g : Geo} (C : Cx p s m args c cX12_tape RX12 5 g) (hr : meth.sig.returnType = (some .int)) (hlk : meth.locks = false) {a0 : Nat} {x1 : Int32} {x2 : Int32} {x3 : Int32} {v4 : Int32} {M : Mem} {K69 : Int32 × Mem → Prop} {Q : Int32 → Mem → Prop} (hK69 : ∀ z : Int32 × Mem, K69 z → E p l e (rmO 3 0 0) s m args below meth c g 5 (MQ below (QcM g (rI Q)) args s 0 0 (gA g)) 0 0 69 [(0, .ref a0), (1, .int x1), (2, .int x2), (3, .int x3), (4, .int z.1)] [] (z.2)) (h : f_X12_tape_B69 a0 x1 x2 x3 v4 M K69 Q) : E p l e (rmO 3 0 0) s m args below meth c g 5 (MQ below (QcM g (rI Q)) args s 0 0 (gA g)) 0 0 69 [(0, .ref a0), (1, .int x1), (2, .int x2), (3, .int x3), (4, .int v4)] [] M := by
  unfold f_X12_tape_B69 at h
  refine e_iload C 4 dX12_tape_69 rfl ?_
  refine e_bipush (v := 60) C dX12_tape_71 (by decide) ?_
  refine e_icmp_ge (tgt := 95) C dX12_tape_73 (by decide) (fun q1 => ?_) (fun q1 => ?_)
  · replace h := ite_t h q1
    refine e_iconst (v := 1) C dX12_tape_95 (by decide) ?_
    exact e_iret C hr hlk (Nat.le_refl _) (Nat.le_refl _) dX12_tape_96 ⟨_, rfl, h⟩
  · replace h := ite_f h q1
    refine e_aload_n C 0 dX12_tape_76 rfl rfl ?_
    obtain ⟨o2, h⟩ := h
    refine e_getR C [12] 65 (fg_of fg_X12_208) o2 dX12_tape_77 ?_
    refine e_bipush (v := 60) C dX12_tape_80 (by decide) ?_
    refine e_iload_n C 1 dX12_tape_82 rfl rfl ?_
    refine e_imul C dX12_tape_83 ?_
    refine e_iload C 4 dX12_tape_84 rfl ?_
    refine e_iadd C dX12_tape_86 ?_
    refine e_lconst (v := 0) C dX12_tape_87 (by decide) ?_
    obtain ⟨b3, p4, h⟩ := h
    try rw [p4]
    obtain ⟨o5, h⟩ := h
    refine e_last C o5 dX12_tape_88 ?_
    refine nmE (fun M6 e7 => ?_)
    replace h := h M6 e7
    have o8 : isO M6 a0 [12] := by rw [e7]; exact o2
    have p9 : mP M6 a0 65 = some b3 := by rw [e7]; exact p4
    refine e_iinc (v := (v4 + 1)) (al' := [(4, .int (v4 + 1)), (0, .ref a0), (1, .int x1), (2, .int x2), (3, .int x3)]) C 4 dX12_tape_89 rfl rfl (by decide) rfl ?_
    refine e_goto (tgt := 69) C dX12_tape_92 (by decide) ?_
    refine e_pick [1, 2, 3, 4, 0] rfl ?_
    exact hK69 ((v4 + 1), M6) h
set_option maxHeartbeats 4000000 in
set_option maxRecDepth 100000 in
theorem w_X12_tape_L69 {p : Program} {l : Launch} {e : Env} {s : State} {m : MethodId} {args : Array Value} {below : List Frame} {meth : Method} {c : Code} {g : Geo} (C : Cx p s m args c cX12_tape RX12 5 g) (hr : meth.sig.returnType = (some .int)) (hlk : meth.locks = false) {a0 : Nat} {x1 : Int32} {x2 : Int32} {x3 : Int32} {v4 : Int32} {M : Mem} {Q : Int32 → Mem → Prop} (h : f_X12_tape_L69 a0 x1 x2 x3 v4 M Q) : E p l e (rmO 3 0 0) s m args below meth c g 5 (MQ below (QcM g (rI Q)) args s 0 0 (gA g)) 0 0 69 [(0, .ref a0), (1, .int x1), (2, .int x2), (3, .int x3), (4, .int v4)] [] M := by
  unfold f_X12_tape_L69 at h
  refine loop_E (W := fun z : Int32 × Mem => E p l e (rmO 3 0 0) s m args below meth c g 5 (MQ below (QcM g (rI Q)) args s 0 0 (gA g)) 0 0 69 [(0, .ref a0), (1, .int x1), (2, .int x2), (3, .int x3), (4, .int z.1)] [] (z.2)) h (fun K z hK h => ?_)
  exact w_X12_tape_B69 C hr hlk hK h
set_option maxHeartbeats 4000000 in
set_option maxRecDepth 100000 in
theorem w_X12_tape_J65 {p : Program} {l : Launch} {e : Env} {s : State} {m : MethodId} {args : Array Value} {below : List Frame} {meth : Method} {c : Code} {g : Geo} (C : Cx p s m args c cX12_tape RX12 5 g) (hr : meth.sig.returnType = (some .int)) (hlk : meth.locks = false) {a0 : Nat} {x1 : Int32} {x2 : Int32} {x3 : Int32} {t0 : Int32} {t1 : Int32} {t2 : Option Nat} {M : Mem} {Q : Int32 → Mem → Prop} (h : f_X12_tape_J65 a0 x1 x2 x3 t0 t1 t2 M Q) : E p l e (rmO 3 0 0) s m args below meth c g 5 (MQ below (QcM g (rI Q)) args s 0 0 (gA g)) 0 0 65 [(0, .ref a0), (1, .int x1), (2, .int x2), (3, .int x3)] [.int t0, .int t1, va_rf t2] M := by
  unfold f_X12_tape_J65 at h
  obtain ⟨b1, rfl, h⟩ := h
  obtain ⟨o3, h⟩ := h
  refine e_iast C o3 dX12_tape_65 ?_
  refine nmE (fun M4 e5 => ?_)
  replace h := h M4 e5
  refine e_iconst (v := 0) C dX12_tape_66 (by decide) ?_
  refine e_istore (al' := [(4, .int (0 : Int32)), (0, .ref a0), (1, .int x1), (2, .int x2), (3, .int x3)]) C dX12_tape_67 (by decide) rfl ?_
  refine e_pick [1, 2, 3, 4, 0] rfl ?_
  exact w_X12_tape_L69 C hr hlk h
set_option maxHeartbeats 4000000 in
set_option maxRecDepth 100000 in
theorem w_X12_tape_J44 {p : Program} {l : Launch} {e : Env} {s : State} {m : MethodId} {args : Array Value} {below : List Frame} {meth : Method} {c : Code} {g : Geo} (C : Cx p s m args c cX12_tape RX12 5 g) (hr : meth.sig.returnType = (some .int)) (hlk : meth.locks = false) {a0 : Nat} {x1 : Int32} {x2 : Int32} {x3 : Int32} {M : Mem} {Q : Int32 → Mem → Prop} (h : f_X12_tape_J44 a0 x1 x2 x3 M Q) : E p l e (rmO 3 0 0) s m args below meth c g 5 (MQ below (QcM g (rI Q)) args s 0 0 (gA g)) 0 0 44 [(0, .ref a0), (1, .int x1), (2, .int x2), (3, .int x3)] [] M := by
  unfold f_X12_tape_J44 at h
  refine e_aload_n C 0 dX12_tape_44 rfl rfl ?_
  obtain ⟨o1, h⟩ := h
  refine e_getR C [12] 63 (fg_of fg_X12_202) o1 dX12_tape_45 ?_
  refine e_iload_n C 1 dX12_tape_48 rfl rfl ?_
  refine e_iload_n C 2 dX12_tape_49 rfl rfl ?_
  obtain ⟨b2, p3, h⟩ := h
  try rw [p3]
  obtain ⟨o4, h⟩ := h
  refine e_iast C o4 dX12_tape_50 ?_
  refine nmE (fun M5 e6 => ?_)
  replace h := h M5 e6
  have o7 : isO M5 a0 [12] := by rw [e6]; exact o1
  have p8 : mP M5 a0 63 = some b2 := by rw [e6]; exact p3
  refine e_aload_n C 0 dX12_tape_51 rfl rfl ?_
  refine e_getR C [12] 64 (fg_of fg_X12_205) o7 dX12_tape_52 ?_
  refine e_iload_n C 1 dX12_tape_55 rfl rfl ?_
  refine e_iload_n C 2 dX12_tape_56 rfl rfl ?_
  refine e_if_ge (tgt := 64) C dX12_tape_57 (by decide) (fun q9 => ?_) (fun q9 => ?_)
  · replace h := ite_t h q9
    refine e_iload_n C 3 dX12_tape_64 rfl rfl ?_
    exact w_X12_tape_J65 C hr hlk h
  · replace h := ite_f h q9
    refine e_iconst (v := 0) C dX12_tape_60 (by decide) ?_
    refine e_goto (tgt := 65) C dX12_tape_61 (by decide) ?_
    exact w_X12_tape_J65 C hr hlk h
set_option maxHeartbeats 4000000 in
set_option maxRecDepth 100000 in
theorem w_X12_tape_J33 {p : Program} {l : Launch} {e : Env} {s : State} {m : MethodId} {args : Array Value} {below : List Frame} {meth : Method} {c : Code} {g : Geo} (C : Cx p s m args c cX12_tape RX12 5 g) (hr : meth.sig.returnType = (some .int)) (hlk : meth.locks = false) {a0 : Nat} {x1 : Int32} {x2 : Int32} {x3 : Int32} {M : Mem} {Q : Int32 → Mem → Prop} (h : f_X12_tape_J33 a0 x1 x2 x3 M Q) : E p l e (rmO 3 0 0) s m args below meth c g 5 (MQ below (QcM g (rI Q)) args s 0 0 (gA g)) 0 0 33 [(0, .ref a0), (1, .int x1), (2, .int x2), (3, .int x3)] [] M := by
  unfold f_X12_tape_J33 at h
  refine e_iload_n C 2 dX12_tape_33 rfl rfl ?_
  refine e_if_lt (tgt := 44) C dX12_tape_34 (by decide) (fun q1 => ?_) (fun q1 => ?_)
  · replace h := ite_t h q1
    exact w_X12_tape_J44 C hr hlk h
  · replace h := ite_f h q1
    refine e_iload_n C 3 dX12_tape_37 rfl rfl ?_
    refine e_if_ge (tgt := 44) C dX12_tape_38 (by decide) (fun q2 => ?_) (fun q2 => ?_)
    · replace h := ite_t h q2
      exact w_X12_tape_J44 C hr hlk h
    · replace h := ite_f h q2
      refine e_bipush (v := -14) C dX12_tape_41 (by decide) ?_
      exact e_iret C hr hlk (Nat.le_refl _) (Nat.le_refl _) dX12_tape_43 ⟨_, rfl, h⟩
set_option maxHeartbeats 4000000 in
set_option maxRecDepth 100000 in
theorem w_X12_tape {p : Program} {l : Launch} {e : Env} {s : State} {m : MethodId} {args : Array Value} {below : List Frame} {meth : Method} {c : Code} {g : Geo} (C : Cx p s m args c cX12_tape RX12 5 g) (hr : meth.sig.returnType = (some .int)) (hlk : meth.locks = false) {a0 : Nat} {x1 : Int32} {x2 : Int32} {x3 : Int32} {M : Mem} {Q : Int32 → Mem → Prop} (h : f_X12_tape a0 x1 x2 x3 M Q) : E p l e (rmO 3 0 0) s m args below meth c g 5 (MQ below (QcM g (rI Q)) args s 0 0 (gA g)) 0 0 0 [(0, .ref a0), (1, .int x1), (2, .int x2), (3, .int x3)] [] M := by
  unfold f_X12_tape at h
  refine e_aload_n C 0 dX12_tape_0 rfl rfl ?_
  refine e_iload_n C 1 dX12_tape_1 rfl rfl ?_
  obtain ⟨o3, h⟩ := h
  refine e_callV (as := [.int x1]) C wb_X12_isTape wv_X12_354 (ci := 12) rfl rfl (isO_1 o3) (m_X12_isTape h) rfl ⟨Nat.le_of_ble_eq_true rfl, Nat.le_of_ble_eq_true rfl⟩ ⟨Nat.le_of_ble_eq_true rfl, Nat.le_of_ble_eq_true rfl⟩ (by first | exact Nat.le_of_ble_eq_true rfl | (simp only [List.map_cons, List.map_nil, va_cat, List.sum_cons, List.sum_nil]; exact Nat.le_of_ble_eq_true rfl)) dX12_tape_2 (kZ (fun w1 M2 h12 => ?_))
  refine e_if_ne (tgt := 10) C dX12_tape_5 (by decide) (fun q4 => ?_) (fun q4 => ?_)
  · replace h12 := ite_t h12 (bi_t q4)
    refine e_aload_n C 0 dX12_tape_10 rfl rfl ?_
    refine e_iload_n C 2 dX12_tape_11 rfl rfl ?_
    refine e_iconst (v := -1) C dX12_tape_12 (by decide) ?_
    refine e_iconst (v := 4) C dX12_tape_13 (by decide) ?_
    obtain ⟨o7, h12⟩ := h12
    refine e_callV (as := [.int x2, .int (-1 : Int32), .int (4 : Int32)]) C wb_X12_in wv_X12_215 (ci := 12) rfl rfl (isO_1 o7) (m_X12_in h12) rfl ⟨Nat.le_of_ble_eq_true rfl, Nat.le_of_ble_eq_true rfl⟩ ⟨Nat.le_of_ble_eq_true rfl, Nat.le_of_ble_eq_true rfl⟩ (by first | exact Nat.le_of_ble_eq_true rfl | (simp only [List.map_cons, List.map_nil, va_cat, List.sum_cons, List.sum_nil]; exact Nat.le_of_ble_eq_true rfl)) dX12_tape_14 (kZ (fun w5 M6 h11 => ?_))
    refine e_if_eq (tgt := 30) C dX12_tape_17 (by decide) (fun q8 => ?_) (fun q8 => ?_)
    · replace h11 := ite_f h11 (bi_ne q8)
      refine e_bipush (v := -2) C dX12_tape_30 (by decide) ?_
      exact e_iret C hr hlk (Nat.le_refl _) (Nat.le_refl _) dX12_tape_32 ⟨_, rfl, h11⟩
    · replace h11 := ite_t h11 (bi_t q8)
      refine e_iload_n C 2 dX12_tape_20 rfl rfl ?_
      refine e_if_lt (tgt := 33) C dX12_tape_21 (by decide) (fun q9 => ?_) (fun q9 => ?_)
      · replace h11 := ite_t h11 q9
        exact w_X12_tape_J33 C hr hlk h11
      · replace h11 := ite_f h11 q9
        refine e_iload_n C 3 dX12_tape_24 rfl rfl ?_
        refine e_bipush (v := 60) C dX12_tape_25 (by decide) ?_
        refine e_icmp_le (tgt := 33) C dX12_tape_27 (by decide) (fun q10 => ?_) (fun q10 => ?_)
        · replace h11 := ite_t h11 q10
          exact w_X12_tape_J33 C hr hlk h11
        · replace h11 := ite_f h11 q10
          refine e_bipush (v := -2) C dX12_tape_30 (by decide) ?_
          exact e_iret C hr hlk (Nat.le_refl _) (Nat.le_refl _) dX12_tape_32 ⟨_, rfl, h11⟩
  · replace h12 := ite_f h12 (bi_ne q4)
    refine e_iconst (v := -1) C dX12_tape_8 (by decide) ?_
    exact e_iret C hr hlk (Nat.le_refl _) (Nat.le_refl _) dX12_tape_9 ⟨_, rfl, h12⟩
theorem m_X12_tape  {a0 : Nat} {x1 : Int32} {x2 : Int32} {x3 : Int32} {M : Mem} {Q : Int32 → Mem → Prop} (h : f_X12_tape a0 x1 x2 x3 M Q) : Con yX12_tape cX12_tape 5 (some .int) 3 0 0 [.ref a0, .int x1, .int x2, .int x3] M (rI Q) :=
  con_of2 (al := [(0, .ref a0), (1, .int x1), (2, .int x2), (3, .int x3)]) (by decide) (by exact Nat.le_of_ble_eq_true rfl) (by rfl) (fun p l e s m args below meth c g C hr hlk _ => w_X12_tape C hr hlk h)
set_option maxHeartbeats 4000000 in
set_option maxRecDepth 100000 in
theorem w_X12_narrow {p : Program} {l : Launch} {e : Env} {s : State} {m : MethodId} {args : Array Value} {below : List Frame} {meth : Method} {c : Code} {g : Geo} (C : Cx p s m args c cX12_narrow RX12 4 g) (hr : meth.sig.returnType = (some .long)) (hlk : meth.locks = false) {a0 : Nat} {x1 : Int32} {y2 : Int64} {M : Mem} {Q : Int64 → Mem → Prop} (h : f_X12_narrow a0 x1 y2 M Q) : E p l e (rmO 1 0 0) s m args below meth c g 4 (MQ below (QcM g (rJ Q)) args s 0 0 (gA g)) 0 0 0 [(0, .ref a0), (1, .int x1), (2, .long y2)] [] M := by
  unfold f_X12_narrow at h
  refine e_iload_n C 1 dX12_narrow_0 rfl rfl ?_
  refine e_if_ne (tgt := 11) C dX12_narrow_1 (by decide) (fun q1 => ?_) (fun q1 => ?_)
  · replace h := ite_f h q1
    refine e_iload_n C 1 dX12_narrow_11 rfl rfl ?_
    refine e_iconst (v := 1) C dX12_narrow_12 (by decide) ?_
    refine e_icmp_ne (tgt := 23) C dX12_narrow_13 (by decide) (fun q2 => ?_) (fun q2 => ?_)
    · replace h := ite_f h q2
      refine e_iload_n C 1 dX12_narrow_23 rfl rfl ?_
      refine e_iconst (v := 2) C dX12_narrow_24 (by decide) ?_
      refine e_icmp_ne (tgt := 34) C dX12_narrow_25 (by decide) (fun q3 => ?_) (fun q3 => ?_)
      · replace h := ite_f h q3
        refine e_iload_n C 1 dX12_narrow_34 rfl rfl ?_
        refine e_iconst (v := 4) C dX12_narrow_35 (by decide) ?_
        refine e_icmp_ne (tgt := 53) C dX12_narrow_36 (by decide) (fun q4 => ?_) (fun q4 => ?_)
        · replace h := ite_f h q4
          refine e_lload_n C 2 dX12_narrow_53 rfl rfl ?_
          exact e_lret C hr hlk (Nat.le_refl _) (Nat.le_refl _) dX12_narrow_54 ⟨_, rfl, h⟩
        · replace h := ite_t h q4
          refine e_lload_n C 2 dX12_narrow_39 rfl rfl ?_
          refine e_lconst (v := 0) C dX12_narrow_40 (by decide) ?_
          refine e_lcmp C dX12_narrow_41 ?_
          refine e_if_eq (tgt := 49) C dX12_narrow_42 (by decide) (fun q5 => ?_) (fun q5 => ?_)
          · replace h := ite_t h q5
            refine e_lconst (v := 0) C dX12_narrow_49 (by decide) ?_
            refine e_goto (tgt := 54) C dX12_narrow_50 (by decide) ?_
            exact e_lret C hr hlk (Nat.le_refl _) (Nat.le_refl _) dX12_narrow_54 ⟨_, rfl, h⟩
          · replace h := ite_f h q5
            refine e_lconst (v := 1) C dX12_narrow_45 (by decide) ?_
            refine e_goto (tgt := 54) C dX12_narrow_46 (by decide) ?_
            exact e_lret C hr hlk (Nat.le_refl _) (Nat.le_refl _) dX12_narrow_54 ⟨_, rfl, h⟩
      · replace h := ite_t h q3
        refine e_lload_n C 2 dX12_narrow_28 rfl rfl ?_
        refine e_l2i C dX12_narrow_29 ?_
        refine e_i2l C dX12_narrow_30 ?_
        refine e_goto (tgt := 54) C dX12_narrow_31 (by decide) ?_
        exact e_lret C hr hlk (Nat.le_refl _) (Nat.le_refl _) dX12_narrow_54 ⟨_, rfl, h⟩
    · replace h := ite_t h q2
      refine e_lload_n C 2 dX12_narrow_16 rfl rfl ?_
      refine e_l2i C dX12_narrow_17 ?_
      refine e_i2s C dX12_narrow_18 ?_
      refine e_i2l C dX12_narrow_19 ?_
      refine e_goto (tgt := 54) C dX12_narrow_20 (by decide) ?_
      exact e_lret C hr hlk (Nat.le_refl _) (Nat.le_refl _) dX12_narrow_54 ⟨_, rfl, h⟩
  · replace h := ite_t h q1
    refine e_lload_n C 2 dX12_narrow_4 rfl rfl ?_
    refine e_l2i C dX12_narrow_5 ?_
    refine e_i2b C dX12_narrow_6 ?_
    refine e_i2l C dX12_narrow_7 ?_
    refine e_goto (tgt := 54) C dX12_narrow_8 (by decide) ?_
    exact e_lret C hr hlk (Nat.le_refl _) (Nat.le_refl _) dX12_narrow_54 ⟨_, rfl, h⟩
theorem m_X12_narrow  {a0 : Nat} {x1 : Int32} {y2 : Int64} {M : Mem} {Q : Int64 → Mem → Prop} (h : f_X12_narrow a0 x1 y2 M Q) : Con yX12_narrow cX12_narrow 4 (some .long) 1 0 0 [.ref a0, .int x1, .long y2] M (rJ Q) :=
  con_of2 (al := [(0, .ref a0), (1, .int x1), (2, .long y2)]) (by decide) (by exact Nat.le_of_ble_eq_true rfl) (by rfl) (fun p l e s m args below meth c g C hr hlk _ => w_X12_narrow C hr hlk h)
set_option maxHeartbeats 4000000 in
set_option maxRecDepth 100000 in
theorem w_X12_item {p : Program} {l : Launch} {e : Env} {s : State} {m : MethodId} {args : Array Value} {below : List Frame} {meth : Method} {c : Code} {g : Geo} (C : Cx p s m args c cX12_item RX12 5 g) (hr : meth.sig.returnType = (some .int)) (hlk : meth.locks = false) {a0 : Nat} {x1 : Int32} {x2 : Int32} {y3 : Int64} {M : Mem} {Q : Int32 → Mem → Prop} (h : f_X12_item a0 x1 x2 y3 M Q) : E p l e (rmO 3 0 0) s m args below meth c g 5 (MQ below (QcM g (rI Q)) args s 0 0 (gA g)) 0 0 0 [(0, .ref a0), (1, .int x1), (2, .int x2), (3, .long y3)] [] M := by
  unfold f_X12_item at h
  refine e_aload_n C 0 dX12_item_0 rfl rfl ?_
  refine e_iload_n C 1 dX12_item_1 rfl rfl ?_
  obtain ⟨o3, h⟩ := h
  refine e_callV (as := [.int x1]) C wb_X12_isTape wv_X12_354 (ci := 12) rfl rfl (isO_1 o3) (m_X12_isTape h) rfl ⟨Nat.le_of_ble_eq_true rfl, Nat.le_of_ble_eq_true rfl⟩ ⟨Nat.le_of_ble_eq_true rfl, Nat.le_of_ble_eq_true rfl⟩ (by first | exact Nat.le_of_ble_eq_true rfl | (simp only [List.map_cons, List.map_nil, va_cat, List.sum_cons, List.sum_nil]; exact Nat.le_of_ble_eq_true rfl)) dX12_item_2 (kZ (fun w1 M2 h29 => ?_))
  refine e_if_ne (tgt := 10) C dX12_item_5 (by decide) (fun q4 => ?_) (fun q4 => ?_)
  · replace h29 := ite_t h29 (bi_t q4)
    refine e_aload_n C 0 dX12_item_10 rfl rfl ?_
    obtain ⟨o5, h29⟩ := h29
    refine e_getR C [12] 63 (fg_of fg_X12_202) o5 dX12_item_11 ?_
    refine e_iload_n C 1 dX12_item_14 rfl rfl ?_
    obtain ⟨b6, p7, h29⟩ := h29
    try rw [p7]
    obtain ⟨o8, h29⟩ := h29
    refine e_iald C o8 dX12_item_15 ?_
    refine e_if_ge (tgt := 22) C dX12_item_16 (by decide) (fun q9 => ?_) (fun q9 => ?_)
    · replace h29 := ite_t h29 q9
      refine e_aload_n C 0 dX12_item_22 rfl rfl ?_
      refine e_iload_n C 2 dX12_item_23 rfl rfl ?_
      refine e_iconst (v := 0) C dX12_item_24 (by decide) ?_
      refine e_aload_n C 0 dX12_item_25 rfl rfl ?_
      refine e_getR C [12] 64 (fg_of fg_X12_205) o5 dX12_item_26 ?_
      refine e_iload_n C 1 dX12_item_29 rfl rfl ?_
      obtain ⟨b10, p11, h29⟩ := h29
      try rw [p11]
      obtain ⟨o12, h29⟩ := h29
      refine e_iald C o12 dX12_item_30 ?_
      refine e_iconst (v := 1) C dX12_item_31 (by decide) ?_
      refine e_isub C dX12_item_32 ?_
      refine e_callV (as := [.int x2, .int (0 : Int32), .int ((mI M2 b10 (x1).toNatClampNeg) - (1 : Int32))]) C wb_X12_in wv_X12_215 (ci := 12) rfl rfl (isO_1 o5) (m_X12_in h29) rfl ⟨Nat.le_of_ble_eq_true rfl, Nat.le_of_ble_eq_true rfl⟩ ⟨Nat.le_of_ble_eq_true rfl, Nat.le_of_ble_eq_true rfl⟩ (by first | exact Nat.le_of_ble_eq_true rfl | (simp only [List.map_cons, List.map_nil, va_cat, List.sum_cons, List.sum_nil]; exact Nat.le_of_ble_eq_true rfl)) dX12_item_33 (kZ (fun w13 M14 h28 => ?_))
      refine e_if_ne (tgt := 42) C dX12_item_36 (by decide) (fun q15 => ?_) (fun q15 => ?_)
      · replace h28 := ite_t h28 (bi_t q15)
        refine e_aload_n C 0 dX12_item_42 rfl rfl ?_
        obtain ⟨o16, h28⟩ := h28
        refine e_getR C [12] 65 (fg_of fg_X12_208) o16 dX12_item_43 ?_
        refine e_bipush (v := 60) C dX12_item_46 (by decide) ?_
        refine e_iload_n C 1 dX12_item_48 rfl rfl ?_
        refine e_imul C dX12_item_49 ?_
        refine e_iload_n C 2 dX12_item_50 rfl rfl ?_
        refine e_iadd C dX12_item_51 ?_
        refine e_aload_n C 0 dX12_item_52 rfl rfl ?_
        refine e_aload_n C 0 dX12_item_53 rfl rfl ?_
        refine e_getR C [12] 63 (fg_of fg_X12_202) o16 dX12_item_54 ?_
        refine e_iload_n C 1 dX12_item_57 rfl rfl ?_
        obtain ⟨b17, p18, h28⟩ := h28
        try rw [p18]
        obtain ⟨o19, h28⟩ := h28
        refine e_iald C o19 dX12_item_58 ?_
        refine e_lload_n C 3 dX12_item_59 rfl rfl ?_
        refine e_callV (as := [.int (mI M14 b17 (x1).toNatClampNeg), .long y3]) C wb_X12_narrow wv_X12_381 (ci := 12) rfl rfl (isO_1 o16) (m_X12_narrow h28) rfl ⟨Nat.le_of_ble_eq_true rfl, Nat.le_of_ble_eq_true rfl⟩ ⟨Nat.le_of_ble_eq_true rfl, Nat.le_of_ble_eq_true rfl⟩ (by first | exact Nat.le_of_ble_eq_true rfl | (simp only [List.map_cons, List.map_nil, va_cat, List.sum_cons, List.sum_nil]; exact Nat.le_of_ble_eq_true rfl)) dX12_item_60 (kJ (fun w20 M21 h27 => ?_))
        obtain ⟨b22, p23, h27⟩ := h27
        try rw [p23]
        obtain ⟨o24, h27⟩ := h27
        refine e_last C o24 dX12_item_63 ?_
        refine nmE (fun M25 e26 => ?_)
        replace h27 := h27 M25 e26
        refine e_iconst (v := 1) C dX12_item_64 (by decide) ?_
        exact e_iret C hr hlk (Nat.le_refl _) (Nat.le_refl _) dX12_item_65 ⟨_, rfl, h27⟩
      · replace h28 := ite_f h28 (bi_ne q15)
        refine e_bipush (v := -13) C dX12_item_39 (by decide) ?_
        exact e_iret C hr hlk (Nat.le_refl _) (Nat.le_refl _) dX12_item_41 ⟨_, rfl, h28⟩
    · replace h29 := ite_f h29 q9
      refine e_bipush (v := -11) C dX12_item_19 (by decide) ?_
      exact e_iret C hr hlk (Nat.le_refl _) (Nat.le_refl _) dX12_item_21 ⟨_, rfl, h29⟩
  · replace h29 := ite_f h29 (bi_ne q4)
    refine e_iconst (v := -1) C dX12_item_8 (by decide) ?_
    exact e_iret C hr hlk (Nat.le_refl _) (Nat.le_refl _) dX12_item_9 ⟨_, rfl, h29⟩
theorem m_X12_item  {a0 : Nat} {x1 : Int32} {x2 : Int32} {y3 : Int64} {M : Mem} {Q : Int32 → Mem → Prop} (h : f_X12_item a0 x1 x2 y3 M Q) : Con yX12_item cX12_item 5 (some .int) 3 0 0 [.ref a0, .int x1, .int x2, .long y3] M (rI Q) :=
  con_of2 (al := [(0, .ref a0), (1, .int x1), (2, .int x2), (3, .long y3)]) (by decide) (by exact Nat.le_of_ble_eq_true rfl) (by rfl) (fun p l e s m args below meth c g C hr hlk _ => w_X12_item C hr hlk h)
set_option maxHeartbeats 4000000 in
set_option maxRecDepth 100000 in
theorem w_X12_read {p : Program} {l : Launch} {e : Env} {s : State} {m : MethodId} {args : Array Value} {below : List Frame} {meth : Method} {c : Code} {g : Geo} (C : Cx p s m args c cX12_read RX12 3 g) (hr : meth.sig.returnType = (some .long)) (hlk : meth.locks = false) {a0 : Nat} {x1 : Int32} {x2 : Int32} {M : Mem} {Q : Int64 → Mem → Prop} (h : f_X12_read a0 x1 x2 M Q) : E p l e (rmO 3 0 0) s m args below meth c g 3 (MQ below (QcM g (rJ Q)) args s 0 0 (gA g)) 0 0 0 [(0, .ref a0), (1, .int x1), (2, .int x2)] [] M := by
  unfold f_X12_read at h
  refine e_aload_n C 0 dX12_read_0 rfl rfl ?_
  refine e_iload_n C 1 dX12_read_1 rfl rfl ?_
  obtain ⟨o3, h⟩ := h
  refine e_callV (as := [.int x1]) C wb_X12_isTape wv_X12_354 (ci := 12) rfl rfl (isO_1 o3) (m_X12_isTape h) rfl ⟨Nat.le_of_ble_eq_true rfl, Nat.le_of_ble_eq_true rfl⟩ ⟨Nat.le_of_ble_eq_true rfl, Nat.le_of_ble_eq_true rfl⟩ (by first | exact Nat.le_of_ble_eq_true rfl | (simp only [List.map_cons, List.map_nil, va_cat, List.sum_cons, List.sum_nil]; exact Nat.le_of_ble_eq_true rfl)) dX12_read_2 (kZ (fun w1 M2 h21 => ?_))
  refine e_if_eq (tgt := 34) C dX12_read_5 (by decide) (fun q4 => ?_) (fun q4 => ?_)
  · replace h21 := ite_f h21 (bi_ne q4)
    refine e_ldc2 (v := -9223372036854775808) C wd_1423 dX12_read_34 ?_
    refine e_goto (tgt := 51) C dX12_read_37 (by decide) ?_
    exact e_lret C hr hlk (Nat.le_refl _) (Nat.le_refl _) dX12_read_51 ⟨_, rfl, h21⟩
  · replace h21 := ite_t h21 (bi_t q4)
    refine e_aload_n C 0 dX12_read_8 rfl rfl ?_
    obtain ⟨o5, h21⟩ := h21
    refine e_getR C [12] 63 (fg_of fg_X12_202) o5 dX12_read_9 ?_
    refine e_iload_n C 1 dX12_read_12 rfl rfl ?_
    obtain ⟨b6, p7, h21⟩ := h21
    try rw [p7]
    obtain ⟨o8, h21⟩ := h21
    refine e_iald C o8 dX12_read_13 ?_
    refine e_if_lt (tgt := 34) C dX12_read_14 (by decide) (fun q9 => ?_) (fun q9 => ?_)
    · replace h21 := ite_t h21 q9
      refine e_ldc2 (v := -9223372036854775808) C wd_1423 dX12_read_34 ?_
      refine e_goto (tgt := 51) C dX12_read_37 (by decide) ?_
      exact e_lret C hr hlk (Nat.le_refl _) (Nat.le_refl _) dX12_read_51 ⟨_, rfl, h21⟩
    · replace h21 := ite_f h21 q9
      refine e_aload_n C 0 dX12_read_17 rfl rfl ?_
      refine e_iload_n C 2 dX12_read_18 rfl rfl ?_
      refine e_iconst (v := 0) C dX12_read_19 (by decide) ?_
      refine e_aload_n C 0 dX12_read_20 rfl rfl ?_
      refine e_getR C [12] 64 (fg_of fg_X12_205) o5 dX12_read_21 ?_
      refine e_iload_n C 1 dX12_read_24 rfl rfl ?_
      obtain ⟨b10, p11, h21⟩ := h21
      try rw [p11]
      obtain ⟨o12, h21⟩ := h21
      refine e_iald C o12 dX12_read_25 ?_
      refine e_iconst (v := 1) C dX12_read_26 (by decide) ?_
      refine e_isub C dX12_read_27 ?_
      refine e_callV (as := [.int x2, .int (0 : Int32), .int ((mI M2 b10 (x1).toNatClampNeg) - (1 : Int32))]) C wb_X12_in wv_X12_215 (ci := 12) rfl rfl (isO_1 o5) (m_X12_in h21) rfl ⟨Nat.le_of_ble_eq_true rfl, Nat.le_of_ble_eq_true rfl⟩ ⟨Nat.le_of_ble_eq_true rfl, Nat.le_of_ble_eq_true rfl⟩ (by first | exact Nat.le_of_ble_eq_true rfl | (simp only [List.map_cons, List.map_nil, va_cat, List.sum_cons, List.sum_nil]; exact Nat.le_of_ble_eq_true rfl)) dX12_read_28 (kZ (fun w13 M14 h20 => ?_))
      refine e_if_ne (tgt := 40) C dX12_read_31 (by decide) (fun q15 => ?_) (fun q15 => ?_)
      · replace h20 := ite_t h20 (bi_t q15)
        refine e_aload_n C 0 dX12_read_40 rfl rfl ?_
        obtain ⟨o16, h20⟩ := h20
        refine e_getR C [12] 65 (fg_of fg_X12_208) o16 dX12_read_41 ?_
        refine e_bipush (v := 60) C dX12_read_44 (by decide) ?_
        refine e_iload_n C 1 dX12_read_46 rfl rfl ?_
        refine e_imul C dX12_read_47 ?_
        refine e_iload_n C 2 dX12_read_48 rfl rfl ?_
        refine e_iadd C dX12_read_49 ?_
        obtain ⟨b17, p18, h20⟩ := h20
        try rw [p18]
        obtain ⟨o19, h20⟩ := h20
        refine e_lald C o19 dX12_read_50 ?_
        exact e_lret C hr hlk (Nat.le_refl _) (Nat.le_refl _) dX12_read_51 ⟨_, rfl, h20⟩
      · replace h20 := ite_f h20 (bi_ne q15)
        refine e_ldc2 (v := -9223372036854775808) C wd_1423 dX12_read_34 ?_
        refine e_goto (tgt := 51) C dX12_read_37 (by decide) ?_
        exact e_lret C hr hlk (Nat.le_refl _) (Nat.le_refl _) dX12_read_51 ⟨_, rfl, h20⟩
theorem m_X12_read  {a0 : Nat} {x1 : Int32} {x2 : Int32} {M : Mem} {Q : Int64 → Mem → Prop} (h : f_X12_read a0 x1 x2 M Q) : Con yX12_read cX12_read 3 (some .long) 3 0 0 [.ref a0, .int x1, .int x2] M (rJ Q) :=
  con_of2 (al := [(0, .ref a0), (1, .int x1), (2, .int x2)]) (by decide) (by exact Nat.le_of_ble_eq_true rfl) (by rfl) (fun p l e s m args below meth c g C hr hlk _ => w_X12_read C hr hlk h)
set_option maxHeartbeats 4000000 in
set_option maxRecDepth 100000 in
theorem w_X12_shift_B141 {p : Program} {l : Launch} {e : Env} {s : State} {m : MethodId} {args : Array Value} {below : List Frame} {meth : Method} {c : Code} {g : Geo} (C : Cx p s m args c cX12_shift RX12 7 g) (hr : meth.sig.returnType = (some .int)) (hlk : meth.locks = false) {a0 : Nat} {x1 : Int32} {x2 : Int32} {x3 : Int32} {x4 : Int32} {x5 : Int32} {v6 : Int32} {M : Mem} {K141 : Int32 × Mem → Prop} {Q : Int32 → Mem → Prop} (hK141 : ∀ z : Int32 × Mem, K141 z → E p l e (rmO 3 0 0) s m args below meth c g 7 (MQ below (QcM g (rI Q)) args s 0 0 (gA g)) 0 0 141 [(0, .ref a0), (1, .int x1), (2, .int x2), (3, .int x3), (4, .int x4), (5, .int x5), (6, .int z.1)] [] (z.2)) (h : f_X12_shift_B141 a0 x1 x2 x3 x4 x5 v6 M K141 Q) : E p l e (rmO 3 0 0) s m args below meth c g 7 (MQ below (QcM g (rI Q)) args s 0 0 (gA g)) 0 0 141 [(0, .ref a0), (1, .int x1), (2, .int x2), (3, .int x3), (4, .int x4), (5, .int x5), (6, .int v6)] [] M := by
  unfold f_X12_shift_B141 at h
  refine e_iload C 6 dX12_shift_141 rfl ?_
  refine e_iload C 5 dX12_shift_143 rfl ?_
  refine e_icmp_ge (tgt := 176) C dX12_shift_145 (by decide) (fun q1 => ?_) (fun q1 => ?_)
  · replace h := ite_t h q1
    refine e_iload C 5 dX12_shift_176 rfl ?_
    exact e_iret C hr hlk (Nat.le_refl _) (Nat.le_refl _) dX12_shift_178 ⟨_, rfl, h⟩
  · replace h := ite_f h q1
    refine e_aload_n C 0 dX12_shift_148 rfl rfl ?_
    obtain ⟨o2, h⟩ := h
    refine e_getR C [12] 65 (fg_of fg_X12_208) o2 dX12_shift_149 ?_
    refine e_bipush (v := 60) C dX12_shift_152 (by decide) ?_
    refine e_iload_n C 3 dX12_shift_154 rfl rfl ?_
    refine e_imul C dX12_shift_155 ?_
    refine e_iload C 4 dX12_shift_156 rfl ?_
    refine e_iadd C dX12_shift_158 ?_
    refine e_iload C 6 dX12_shift_159 rfl ?_
    refine e_iadd C dX12_shift_161 ?_
    refine e_aload_n C 0 dX12_shift_162 rfl rfl ?_
    refine e_getR C [12] 66 (fg_of fg_X12_212) o2 dX12_shift_163 ?_
    refine e_iload C 6 dX12_shift_166 rfl ?_
    obtain ⟨b3, p4, h⟩ := h
    try rw [p4]
    obtain ⟨o5, h⟩ := h
    refine e_lald C o5 dX12_shift_168 ?_
    obtain ⟨b6, p7, h⟩ := h
    try rw [p7]
    obtain ⟨o8, h⟩ := h
    refine e_last C o8 dX12_shift_169 ?_
    refine nmE (fun M9 e10 => ?_)
    replace h := h M9 e10
    have o11 : isO M9 a0 [12] := by rw [e10]; exact o2
    have p12 : mP M9 a0 66 = some b3 := by rw [e10]; exact p4
    have p13 : mP M9 a0 65 = some b6 := by rw [e10]; exact p7
    refine e_iinc (v := (v6 + 1)) (al' := [(6, .int (v6 + 1)), (0, .ref a0), (1, .int x1), (2, .int x2), (3, .int x3), (4, .int x4), (5, .int x5)]) C 6 dX12_shift_170 rfl rfl (by decide) rfl ?_
    refine e_goto (tgt := 141) C dX12_shift_173 (by decide) ?_
    refine e_pick [1, 2, 3, 4, 5, 6, 0] rfl ?_
    exact hK141 ((v6 + 1), M9) h
set_option maxHeartbeats 4000000 in
set_option maxRecDepth 100000 in
theorem w_X12_shift_L141 {p : Program} {l : Launch} {e : Env} {s : State} {m : MethodId} {args : Array Value} {below : List Frame} {meth : Method} {c : Code} {g : Geo} (C : Cx p s m args c cX12_shift RX12 7 g) (hr : meth.sig.returnType = (some .int)) (hlk : meth.locks = false) {a0 : Nat} {x1 : Int32} {x2 : Int32} {x3 : Int32} {x4 : Int32} {x5 : Int32} {v6 : Int32} {M : Mem} {Q : Int32 → Mem → Prop} (h : f_X12_shift_L141 a0 x1 x2 x3 x4 x5 v6 M Q) : E p l e (rmO 3 0 0) s m args below meth c g 7 (MQ below (QcM g (rI Q)) args s 0 0 (gA g)) 0 0 141 [(0, .ref a0), (1, .int x1), (2, .int x2), (3, .int x3), (4, .int x4), (5, .int x5), (6, .int v6)] [] M := by
  unfold f_X12_shift_L141 at h
  refine loop_E (W := fun z : Int32 × Mem => E p l e (rmO 3 0 0) s m args below meth c g 7 (MQ below (QcM g (rI Q)) args s 0 0 (gA g)) 0 0 141 [(0, .ref a0), (1, .int x1), (2, .int x2), (3, .int x3), (4, .int x4), (5, .int x5), (6, .int z.1)] [] (z.2)) h (fun K z hK h => ?_)
  exact w_X12_shift_B141 C hr hlk hK h
set_option maxHeartbeats 4000000 in
set_option maxRecDepth 100000 in
theorem w_X12_shift_B104 {p : Program} {l : Launch} {e : Env} {s : State} {m : MethodId} {args : Array Value} {below : List Frame} {meth : Method} {c : Code} {g : Geo} (C : Cx p s m args c cX12_shift RX12 7 g) (hr : meth.sig.returnType = (some .int)) (hlk : meth.locks = false) {a0 : Nat} {x1 : Int32} {x2 : Int32} {x3 : Int32} {x4 : Int32} {x5 : Int32} {v6 : Int32} {M : Mem} {K104 : Int32 × Mem → Prop} {Q : Int32 → Mem → Prop} (hK104 : ∀ z : Int32 × Mem, K104 z → E p l e (rmO 3 0 0) s m args below meth c g 7 (MQ below (QcM g (rI Q)) args s 0 0 (gA g)) 0 0 104 [(0, .ref a0), (1, .int x1), (2, .int x2), (3, .int x3), (4, .int x4), (5, .int x5), (6, .int z.1)] [] (z.2)) (h : f_X12_shift_B104 a0 x1 x2 x3 x4 x5 v6 M K104 Q) : E p l e (rmO 3 0 0) s m args below meth c g 7 (MQ below (QcM g (rI Q)) args s 0 0 (gA g)) 0 0 104 [(0, .ref a0), (1, .int x1), (2, .int x2), (3, .int x3), (4, .int x4), (5, .int x5), (6, .int v6)] [] M := by
  unfold f_X12_shift_B104 at h
  refine e_iload C 6 dX12_shift_104 rfl ?_
  refine e_iload C 5 dX12_shift_106 rfl ?_
  refine e_icmp_ge (tgt := 138) C dX12_shift_108 (by decide) (fun q1 => ?_) (fun q1 => ?_)
  · replace h := ite_t h q1
    refine e_iconst (v := 0) C dX12_shift_138 (by decide) ?_
    refine e_istore (al' := [(6, .int (0 : Int32)), (0, .ref a0), (1, .int x1), (2, .int x2), (3, .int x3), (4, .int x4), (5, .int x5)]) C dX12_shift_139 (by decide) rfl ?_
    refine e_pick [1, 2, 3, 4, 5, 6, 0] rfl ?_
    exact w_X12_shift_L141 C hr hlk h
  · replace h := ite_f h q1
    refine e_aload_n C 0 dX12_shift_111 rfl rfl ?_
    obtain ⟨o2, h⟩ := h
    refine e_getR C [12] 66 (fg_of fg_X12_212) o2 dX12_shift_112 ?_
    refine e_iload C 6 dX12_shift_115 rfl ?_
    refine e_aload_n C 0 dX12_shift_117 rfl rfl ?_
    refine e_getR C [12] 65 (fg_of fg_X12_208) o2 dX12_shift_118 ?_
    refine e_bipush (v := 60) C dX12_shift_121 (by decide) ?_
    refine e_iload_n C 1 dX12_shift_123 rfl rfl ?_
    refine e_imul C dX12_shift_124 ?_
    refine e_iload_n C 2 dX12_shift_125 rfl rfl ?_
    refine e_iadd C dX12_shift_126 ?_
    refine e_iload C 6 dX12_shift_127 rfl ?_
    refine e_iadd C dX12_shift_129 ?_
    obtain ⟨b3, p4, h⟩ := h
    try rw [p4]
    obtain ⟨o5, h⟩ := h
    refine e_lald C o5 dX12_shift_130 ?_
    obtain ⟨b6, p7, h⟩ := h
    try rw [p7]
    obtain ⟨o8, h⟩ := h
    refine e_last C o8 dX12_shift_131 ?_
    refine nmE (fun M9 e10 => ?_)
    replace h := h M9 e10
    have o11 : isO M9 a0 [12] := by rw [e10]; exact o2
    have p12 : mP M9 a0 65 = some b3 := by rw [e10]; exact p4
    have p13 : mP M9 a0 66 = some b6 := by rw [e10]; exact p7
    refine e_iinc (v := (v6 + 1)) (al' := [(6, .int (v6 + 1)), (0, .ref a0), (1, .int x1), (2, .int x2), (3, .int x3), (4, .int x4), (5, .int x5)]) C 6 dX12_shift_132 rfl rfl (by decide) rfl ?_
    refine e_goto (tgt := 104) C dX12_shift_135 (by decide) ?_
    refine e_pick [1, 2, 3, 4, 5, 6, 0] rfl ?_
    exact hK104 ((v6 + 1), M9) h
set_option maxHeartbeats 4000000 in
set_option maxRecDepth 100000 in
theorem w_X12_shift_L104 {p : Program} {l : Launch} {e : Env} {s : State} {m : MethodId} {args : Array Value} {below : List Frame} {meth : Method} {c : Code} {g : Geo} (C : Cx p s m args c cX12_shift RX12 7 g) (hr : meth.sig.returnType = (some .int)) (hlk : meth.locks = false) {a0 : Nat} {x1 : Int32} {x2 : Int32} {x3 : Int32} {x4 : Int32} {x5 : Int32} {v6 : Int32} {M : Mem} {Q : Int32 → Mem → Prop} (h : f_X12_shift_L104 a0 x1 x2 x3 x4 x5 v6 M Q) : E p l e (rmO 3 0 0) s m args below meth c g 7 (MQ below (QcM g (rI Q)) args s 0 0 (gA g)) 0 0 104 [(0, .ref a0), (1, .int x1), (2, .int x2), (3, .int x3), (4, .int x4), (5, .int x5), (6, .int v6)] [] M := by
  unfold f_X12_shift_L104 at h
  refine loop_E (W := fun z : Int32 × Mem => E p l e (rmO 3 0 0) s m args below meth c g 7 (MQ below (QcM g (rI Q)) args s 0 0 (gA g)) 0 0 104 [(0, .ref a0), (1, .int x1), (2, .int x2), (3, .int x3), (4, .int x4), (5, .int x5), (6, .int z.1)] [] (z.2)) h (fun K z hK h => ?_)
  exact w_X12_shift_B104 C hr hlk hK h
set_option maxHeartbeats 4000000 in
set_option maxRecDepth 100000 in
theorem w_X12_shift {p : Program} {l : Launch} {e : Env} {s : State} {m : MethodId} {args : Array Value} {below : List Frame} {meth : Method} {c : Code} {g : Geo} (C : Cx p s m args c cX12_shift RX12 7 g) (hr : meth.sig.returnType = (some .int)) (hlk : meth.locks = false) {a0 : Nat} {x1 : Int32} {x2 : Int32} {x3 : Int32} {x4 : Int32} {x5 : Int32} {M : Mem} {Q : Int32 → Mem → Prop} (h : f_X12_shift a0 x1 x2 x3 x4 x5 M Q) : E p l e (rmO 3 0 0) s m args below meth c g 7 (MQ below (QcM g (rI Q)) args s 0 0 (gA g)) 0 0 0 [(0, .ref a0), (1, .int x1), (2, .int x2), (3, .int x3), (4, .int x4), (5, .int x5)] [] M := by
  unfold f_X12_shift at h
  refine e_aload_n C 0 dX12_shift_0 rfl rfl ?_
  refine e_iload_n C 1 dX12_shift_1 rfl rfl ?_
  obtain ⟨o3, h⟩ := h
  refine e_callV (as := [.int x1]) C wb_X12_isTape wv_X12_354 (ci := 12) rfl rfl (isO_1 o3) (m_X12_isTape h) rfl ⟨Nat.le_of_ble_eq_true rfl, Nat.le_of_ble_eq_true rfl⟩ ⟨Nat.le_of_ble_eq_true rfl, Nat.le_of_ble_eq_true rfl⟩ (by first | exact Nat.le_of_ble_eq_true rfl | (simp only [List.map_cons, List.map_nil, va_cat, List.sum_cons, List.sum_nil]; exact Nat.le_of_ble_eq_true rfl)) dX12_shift_2 (kZ (fun w1 M2 h29 => ?_))
  refine e_if_eq (tgt := 16) C dX12_shift_5 (by decide) (fun q4 => ?_) (fun q4 => ?_)
  · replace h29 := ite_f h29 (bi_ne q4)
    refine e_iconst (v := -1) C dX12_shift_16 (by decide) ?_
    exact e_iret C hr hlk (Nat.le_refl _) (Nat.le_refl _) dX12_shift_17 ⟨_, rfl, h29⟩
  · replace h29 := ite_t h29 (bi_t q4)
    refine e_aload_n C 0 dX12_shift_8 rfl rfl ?_
    refine e_iload_n C 3 dX12_shift_9 rfl rfl ?_
    obtain ⟨o7, h29⟩ := h29
    refine e_callV (as := [.int x3]) C wb_X12_isTape wv_X12_354 (ci := 12) rfl rfl (isO_1 o7) (m_X12_isTape h29) rfl ⟨Nat.le_of_ble_eq_true rfl, Nat.le_of_ble_eq_true rfl⟩ ⟨Nat.le_of_ble_eq_true rfl, Nat.le_of_ble_eq_true rfl⟩ (by first | exact Nat.le_of_ble_eq_true rfl | (simp only [List.map_cons, List.map_nil, va_cat, List.sum_cons, List.sum_nil]; exact Nat.le_of_ble_eq_true rfl)) dX12_shift_10 (kZ (fun w5 M6 h28 => ?_))
    refine e_if_ne (tgt := 18) C dX12_shift_13 (by decide) (fun q8 => ?_) (fun q8 => ?_)
    · replace h28 := ite_t h28 (bi_t q8)
      refine e_aload_n C 0 dX12_shift_18 rfl rfl ?_
      obtain ⟨o9, h28⟩ := h28
      refine e_getR C [12] 63 (fg_of fg_X12_202) o9 dX12_shift_19 ?_
      refine e_iload_n C 1 dX12_shift_22 rfl rfl ?_
      obtain ⟨b10, p11, h28⟩ := h28
      try rw [p11]
      obtain ⟨o12, h28⟩ := h28
      refine e_iald C o12 dX12_shift_23 ?_
      refine e_if_lt (tgt := 36) C dX12_shift_24 (by decide) (fun q13 => ?_) (fun q13 => ?_)
      · replace h28 := ite_t h28 q13
        refine e_bipush (v := -11) C dX12_shift_36 (by decide) ?_
        exact e_iret C hr hlk (Nat.le_refl _) (Nat.le_refl _) dX12_shift_38 ⟨_, rfl, h28⟩
      · replace h28 := ite_f h28 q13
        refine e_aload_n C 0 dX12_shift_27 rfl rfl ?_
        refine e_getR C [12] 63 (fg_of fg_X12_202) o9 dX12_shift_28 ?_
        rw [p11]
        refine e_iload_n C 3 dX12_shift_31 rfl rfl ?_
        obtain ⟨o14, h28⟩ := h28
        refine e_iald C o14 dX12_shift_32 ?_
        refine e_if_ge (tgt := 39) C dX12_shift_33 (by decide) (fun q15 => ?_) (fun q15 => ?_)
        · replace h28 := ite_t h28 q15
          refine e_aload_n C 0 dX12_shift_39 rfl rfl ?_
          refine e_getR C [12] 63 (fg_of fg_X12_202) o9 dX12_shift_40 ?_
          rw [p11]
          refine e_iload_n C 1 dX12_shift_43 rfl rfl ?_
          obtain ⟨o16, h28⟩ := h28
          refine e_iald C o16 dX12_shift_44 ?_
          refine e_aload_n C 0 dX12_shift_45 rfl rfl ?_
          refine e_getR C [12] 63 (fg_of fg_X12_202) o9 dX12_shift_46 ?_
          rw [p11]
          refine e_iload_n C 3 dX12_shift_49 rfl rfl ?_
          obtain ⟨o17, h28⟩ := h28
          refine e_iald C o17 dX12_shift_50 ?_
          refine e_icmp_eq (tgt := 57) C dX12_shift_51 (by decide) (fun q18 => ?_) (fun q18 => ?_)
          · replace h28 := ite_t h28 q18
            refine e_iload C 5 dX12_shift_57 rfl ?_
            refine e_if_lt (tgt := 98) C dX12_shift_59 (by decide) (fun q19 => ?_) (fun q19 => ?_)
            · replace h28 := ite_t h28 q19
              refine e_bipush (v := -13) C dX12_shift_98 (by decide) ?_
              exact e_iret C hr hlk (Nat.le_refl _) (Nat.le_refl _) dX12_shift_100 ⟨_, rfl, h28⟩
            · replace h28 := ite_f h28 q19
              refine e_iload_n C 2 dX12_shift_62 rfl rfl ?_
              refine e_if_lt (tgt := 98) C dX12_shift_63 (by decide) (fun q20 => ?_) (fun q20 => ?_)
              · replace h28 := ite_t h28 q20
                refine e_bipush (v := -13) C dX12_shift_98 (by decide) ?_
                exact e_iret C hr hlk (Nat.le_refl _) (Nat.le_refl _) dX12_shift_100 ⟨_, rfl, h28⟩
              · replace h28 := ite_f h28 q20
                refine e_iload C 4 dX12_shift_66 rfl ?_
                refine e_if_lt (tgt := 98) C dX12_shift_68 (by decide) (fun q21 => ?_) (fun q21 => ?_)
                · replace h28 := ite_t h28 q21
                  refine e_bipush (v := -13) C dX12_shift_98 (by decide) ?_
                  exact e_iret C hr hlk (Nat.le_refl _) (Nat.le_refl _) dX12_shift_100 ⟨_, rfl, h28⟩
                · replace h28 := ite_f h28 q21
                  refine e_iload_n C 2 dX12_shift_71 rfl rfl ?_
                  refine e_aload_n C 0 dX12_shift_72 rfl rfl ?_
                  refine e_getR C [12] 64 (fg_of fg_X12_205) o9 dX12_shift_73 ?_
                  refine e_iload_n C 1 dX12_shift_76 rfl rfl ?_
                  obtain ⟨b22, p23, h28⟩ := h28
                  try rw [p23]
                  obtain ⟨o24, h28⟩ := h28
                  refine e_iald C o24 dX12_shift_77 ?_
                  refine e_iload C 5 dX12_shift_78 rfl ?_
                  refine e_isub C dX12_shift_80 ?_
                  refine e_icmp_gt (tgt := 98) C dX12_shift_81 (by decide) (fun q25 => ?_) (fun q25 => ?_)
                  · replace h28 := ite_t h28 q25
                    refine e_bipush (v := -13) C dX12_shift_98 (by decide) ?_
                    exact e_iret C hr hlk (Nat.le_refl _) (Nat.le_refl _) dX12_shift_100 ⟨_, rfl, h28⟩
                  · replace h28 := ite_f h28 q25
                    refine e_iload C 4 dX12_shift_84 rfl ?_
                    refine e_aload_n C 0 dX12_shift_86 rfl rfl ?_
                    refine e_getR C [12] 64 (fg_of fg_X12_205) o9 dX12_shift_87 ?_
                    rw [p23]
                    refine e_iload_n C 3 dX12_shift_90 rfl rfl ?_
                    obtain ⟨o26, h28⟩ := h28
                    refine e_iald C o26 dX12_shift_91 ?_
                    refine e_iload C 5 dX12_shift_92 rfl ?_
                    refine e_isub C dX12_shift_94 ?_
                    refine e_icmp_le (tgt := 101) C dX12_shift_95 (by decide) (fun q27 => ?_) (fun q27 => ?_)
                    · replace h28 := ite_t h28 q27
                      refine e_iconst (v := 0) C dX12_shift_101 (by decide) ?_
                      refine e_istore (al' := [(6, .int (0 : Int32)), (0, .ref a0), (1, .int x1), (2, .int x2), (3, .int x3), (4, .int x4), (5, .int x5)]) C dX12_shift_102 (by decide) rfl ?_
                      refine e_pick [1, 2, 3, 4, 5, 6, 0] rfl ?_
                      exact w_X12_shift_L104 C hr hlk h28
                    · replace h28 := ite_f h28 q27
                      refine e_bipush (v := -13) C dX12_shift_98 (by decide) ?_
                      exact e_iret C hr hlk (Nat.le_refl _) (Nat.le_refl _) dX12_shift_100 ⟨_, rfl, h28⟩
          · replace h28 := ite_f h28 q18
            refine e_bipush (v := -12) C dX12_shift_54 (by decide) ?_
            exact e_iret C hr hlk (Nat.le_refl _) (Nat.le_refl _) dX12_shift_56 ⟨_, rfl, h28⟩
        · replace h28 := ite_f h28 q15
          refine e_bipush (v := -11) C dX12_shift_36 (by decide) ?_
          exact e_iret C hr hlk (Nat.le_refl _) (Nat.le_refl _) dX12_shift_38 ⟨_, rfl, h28⟩
    · replace h28 := ite_f h28 (bi_ne q8)
      refine e_iconst (v := -1) C dX12_shift_16 (by decide) ?_
      exact e_iret C hr hlk (Nat.le_refl _) (Nat.le_refl _) dX12_shift_17 ⟨_, rfl, h28⟩
theorem m_X12_shift  {a0 : Nat} {x1 : Int32} {x2 : Int32} {x3 : Int32} {x4 : Int32} {x5 : Int32} {M : Mem} {Q : Int32 → Mem → Prop} (h : f_X12_shift a0 x1 x2 x3 x4 x5 M Q) : Con yX12_shift cX12_shift 7 (some .int) 3 0 0 [.ref a0, .int x1, .int x2, .int x3, .int x4, .int x5] M (rI Q) :=
  con_of2 (al := [(0, .ref a0), (1, .int x1), (2, .int x2), (3, .int x3), (4, .int x4), (5, .int x5)]) (by decide) (by exact Nat.le_of_ble_eq_true rfl) (by rfl) (fun p l e s m args below meth c g C hr hlk _ => w_X12_shift C hr hlk h)
