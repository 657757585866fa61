/-! ===== generated: the machine keeps f_ ===== -/
set_option maxHeartbeats 4000000 in
set_option maxRecDepth 100000 in
theorem w_X10_tested {p : Program} {l : Launch} {e : Env} {s : State} {m : MethodId} {args : Array Value} {below : List Frame} {meth : Method} {c : Code} {g : Geo} (C : Cx p s m args c cX10_tested RX10 3 g) (hr : meth.sig.returnType = (some .boolean)) (hlk : meth.locks = false) {x0 : Int32} {x1 : Int32} {x2 : Int32} {M : Mem} {Q : Bool → Mem → Prop} (h : f_X10_tested x0 x1 x2 M Q) : E p l e (rmO 1 0 0) s m args below meth c g 3 (MQ below (QcM g (rZ Q)) args s 0 0 (gA g)) 0 0 0 [(0, .int x0), (1, .int x1), (2, .int x2)] [] M := by
  unfold f_X10_tested at h
  refine e_iload_n C 1 dX10_tested_0 rfl rfl ?_
  refine e_if_ne (tgt := 17) C dX10_tested_1 (by decide) (fun q1 => ?_) (fun q1 => ?_)
  · replace h := ite_f h q1
    refine e_iload_n C 1 dX10_tested_17 rfl rfl ?_
    refine e_iconst (v := 1) C dX10_tested_18 (by decide) ?_
    refine e_icmp_ne (tgt := 35) C dX10_tested_19 (by decide) (fun q2 => ?_) (fun q2 => ?_)
    · replace h := ite_f h q2
      refine e_iload_n C 0 dX10_tested_35 rfl rfl ?_
      refine e_iload_n C 2 dX10_tested_36 rfl rfl ?_
      refine e_icmp_le (tgt := 44) C dX10_tested_37 (by decide) (fun q3 => ?_) (fun q3 => ?_)
      · replace h := ite_t h q3
        refine e_iconst (v := 0) C dX10_tested_44 (by decide) ?_
        exact e_zret C hr rfl hlk (Nat.le_refl _) (Nat.le_refl _) dX10_tested_45 ⟨false, rfl, h⟩
      · replace h := ite_f h q3
        refine e_iconst (v := 1) C dX10_tested_40 (by decide) ?_
        refine e_goto (tgt := 45) C dX10_tested_41 (by decide) ?_
        exact e_zret C hr rfl hlk (Nat.le_refl _) (Nat.le_refl _) dX10_tested_45 ⟨true, rfl, h⟩
    · replace h := ite_t h q2
      refine e_iload_n C 0 dX10_tested_22 rfl rfl ?_
      refine e_iload_n C 2 dX10_tested_23 rfl rfl ?_
      refine e_icmp_ne (tgt := 31) C dX10_tested_24 (by decide) (fun q4 => ?_) (fun q4 => ?_)
      · replace h := ite_f h q4
        refine e_iconst (v := 0) C dX10_tested_31 (by decide) ?_
        refine e_goto (tgt := 45) C dX10_tested_32 (by decide) ?_
        exact e_zret C hr rfl hlk (Nat.le_refl _) (Nat.le_refl _) dX10_tested_45 ⟨false, rfl, h⟩
      · replace h := ite_t h q4
        refine e_iconst (v := 1) C dX10_tested_27 (by decide) ?_
        refine e_goto (tgt := 45) C dX10_tested_28 (by decide) ?_
        exact e_zret C hr rfl hlk (Nat.le_refl _) (Nat.le_refl _) dX10_tested_45 ⟨true, rfl, h⟩
  · replace h := ite_t h q1
    refine e_iload_n C 0 dX10_tested_4 rfl rfl ?_
    refine e_iload_n C 2 dX10_tested_5 rfl rfl ?_
    refine e_icmp_ge (tgt := 13) C dX10_tested_6 (by decide) (fun q5 => ?_) (fun q5 => ?_)
    · replace h := ite_t h q5
      refine e_iconst (v := 0) C dX10_tested_13 (by decide) ?_
      refine e_goto (tgt := 45) C dX10_tested_14 (by decide) ?_
      exact e_zret C hr rfl hlk (Nat.le_refl _) (Nat.le_refl _) dX10_tested_45 ⟨false, rfl, h⟩
    · replace h := ite_f h q5
      refine e_iconst (v := 1) C dX10_tested_9 (by decide) ?_
      refine e_goto (tgt := 45) C dX10_tested_10 (by decide) ?_
      exact e_zret C hr rfl hlk (Nat.le_refl _) (Nat.le_refl _) dX10_tested_45 ⟨true, rfl, h⟩
theorem m_X10_tested  {x0 : Int32} {x1 : Int32} {x2 : Int32} {M : Mem} {Q : Bool → Mem → Prop} (h : f_X10_tested x0 x1 x2 M Q) : Con yX10_tested cX10_tested 3 (some .boolean) 1 0 0 [.int x0, .int x1, .int x2] M (rZ Q) :=
  con_of2 (al := [(0, .int x0), (1, .int x1), (2, .int x2)]) (by decide) (by exact Nat.le_of_ble_eq_true rfl) (by rfl) (fun p l e s m args below meth c g C hr hlk _ => w_X10_tested C hr hlk h)
set_option maxHeartbeats 4000000 in
set_option maxRecDepth 100000 in
theorem w_X10_holds_J158 {p : Program} {l : Launch} {e : Env} {s : State} {m : MethodId} {args : Array Value} {below : List Frame} {meth : Method} {c : Code} {g : Geo} (C : Cx p s m args c cX10_holds RX10 13 g) (hr : meth.sig.returnType = (some .boolean)) (hlk : meth.locks = false) {a0 : Nat} {x1 : Int32} {x2 : Int32} {x3 : Int32} {x4 : Int32} {x5 : Int32} {x6 : Int32} {v7 : Int32} {v8 : Int32} {M : Mem} {K6 : Int32 × Int32 × Mem → Prop} {Q : Bool → Mem → Prop} (hK6 : ∀ z : Int32 × Int32 × Mem, K6 z → E p l e (rmO 2 0 0) s m args below meth c g 13 (MQ below (QcM g (rZ Q)) args s 0 0 (gA g)) 0 0 6 [(0, .ref a0), (1, .int x1), (2, .int x2), (3, .int x3), (4, .int x4), (5, .int x5), (6, .int x6), (7, .int z.1), (8, .int z.2.1)] [] (z.2.2)) (h : f_X10_holds_J158 a0 x1 x2 x3 x4 x5 x6 v7 v8 M K6 Q) : E p l e (rmO 2 0 0) s m args below meth c g 13 (MQ below (QcM g (rZ Q)) args s 0 0 (gA g)) 0 0 158 [(0, .ref a0), (1, .int x1), (2, .int x2), (3, .int x3), (4, .int x4), (5, .int x5), (6, .int x6), (7, .int v7), (8, .int v8)] [] M := by
  unfold f_X10_holds_J158 at h
  refine e_iinc (v := (v8 + 1)) (al' := [(8, .int (v8 + 1)), (0, .ref a0), (1, .int x1), (2, .int x2), (3, .int x3), (4, .int x4), (5, .int x5), (6, .int x6), (7, .int v7)]) C 8 dX10_holds_158 rfl rfl (by decide) rfl ?_
  refine e_goto (tgt := 6) C dX10_holds_161 (by decide) ?_
  refine e_pick [1, 2, 3, 4, 5, 6, 7, 8, 0] rfl ?_
  exact hK6 (v7, (v8 + 1), M) h
set_option maxHeartbeats 4000000 in
set_option maxRecDepth 100000 in
theorem w_X10_holds_J155 {p : Program} {l : Launch} {e : Env} {s : State} {m : MethodId} {args : Array Value} {below : List Frame} {meth : Method} {c : Code} {g : Geo} (C : Cx p s m args c cX10_holds RX10 13 g) (hr : meth.sig.returnType = (some .boolean)) (hlk : meth.locks = false) {a0 : Nat} {x1 : Int32} {x2 : Int32} {x3 : Int32} {x4 : Int32} {x5 : Int32} {x6 : Int32} {v8 : Int32} {t0 : Int32} {t1 : Int32} {M : Mem} {K6 : Int32 × Int32 × Mem → Prop} {Q : Bool → Mem → Prop} (hK6 : ∀ z : Int32 × Int32 × Mem, K6 z → E p l e (rmO 2 0 0) s m args below meth c g 13 (MQ below (QcM g (rZ Q)) args s 0 0 (gA g)) 0 0 6 [(0, .ref a0), (1, .int x1), (2, .int x2), (3, .int x3), (4, .int x4), (5, .int x5), (6, .int x6), (7, .int z.1), (8, .int z.2.1)] [] (z.2.2)) (h : f_X10_holds_J155 a0 x1 x2 x3 x4 x5 x6 v8 t0 t1 M K6 Q) : E p l e (rmO 2 0 0) s m args below meth c g 13 (MQ below (QcM g (rZ Q)) args s 0 0 (gA g)) 0 0 155 [(0, .ref a0), (1, .int x1), (2, .int x2), (3, .int x3), (4, .int x4), (5, .int x5), (6, .int x6), (8, .int v8)] [.int t0, .int t1] M := by
  unfold f_X10_holds_J155 at h
  refine e_ior C dX10_holds_155 ?_
  refine e_istore (al' := [(7, .int (t1 ||| t0)), (0, .ref a0), (1, .int x1), (2, .int x2), (3, .int x3), (4, .int x4), (5, .int x5), (6, .int x6), (8, .int v8)]) C dX10_holds_156 (by decide) rfl ?_
  refine e_pick [1, 2, 3, 4, 5, 6, 7, 0, 8] rfl ?_
  exact w_X10_holds_J158 C hr hlk hK6 h
set_option maxHeartbeats 4000000 in
set_option maxRecDepth 100000 in
theorem w_X10_holds_J129 {p : Program} {l : Launch} {e : Env} {s : State} {m : MethodId} {args : Array Value} {below : List Frame} {meth : Method} {c : Code} {g : Geo} (C : Cx p s m args c cX10_holds RX10 13 g) (hr : meth.sig.returnType = (some .boolean)) (hlk : meth.locks = false) {a0 : Nat} {x1 : Int32} {x2 : Int32} {x3 : Int32} {x4 : Int32} {x5 : Int32} {x6 : Int32} {v7 : Int32} {v8 : Int32} {v9 : Int32} {v11 : Int32} {t0 : Int32} {M : Mem} {K6 : Int32 × Int32 × Mem → Prop} {Q : Bool → Mem → Prop} (hK6 : ∀ z : Int32 × Int32 × Mem, K6 z → E p l e (rmO 2 0 0) s m args below meth c g 13 (MQ below (QcM g (rZ Q)) args s 0 0 (gA g)) 0 0 6 [(0, .ref a0), (1, .int x1), (2, .int x2), (3, .int x3), (4, .int x4), (5, .int x5), (6, .int x6), (7, .int z.1), (8, .int z.2.1)] [] (z.2.2)) (h : f_X10_holds_J129 a0 x1 x2 x3 x4 x5 x6 v7 v8 v9 v11 t0 M K6 Q) : E p l e (rmO 2 0 0) s m args below meth c g 13 (MQ below (QcM g (rZ Q)) args s 0 0 (gA g)) 0 0 129 [(0, .ref a0), (1, .int x1), (2, .int x2), (3, .int x3), (4, .int x4), (5, .int x5), (6, .int x6), (7, .int v7), (8, .int v8), (9, .int v9), (11, .int v11)] [.int t0] M := by
  unfold f_X10_holds_J129 at h
  refine e_istore (al' := [(12, .int t0), (0, .ref a0), (1, .int x1), (2, .int x2), (3, .int x3), (4, .int x4), (5, .int x5), (6, .int x6), (7, .int v7), (8, .int v8), (9, .int v9), (11, .int v11)]) C dX10_holds_129 (by decide) rfl ?_
  refine e_iload C 8 dX10_holds_131 rfl ?_
  refine e_iconst (v := 1) C dX10_holds_133 (by decide) ?_
  refine e_ishl C dX10_holds_134 ?_
  refine e_iload C 0 dX10_holds_135 rfl ?_
  refine e_iload C 11 dX10_holds_137 rfl ?_
  refine e_iload C 10 dX10_holds_139 rfl ?_
  refine e_bipush (v := 100) C dX10_holds_141 (by decide) ?_
  obtain ⟨n1, h⟩ := h
  refine e_irem C dX10_holds_143 n1 ?_
  refine e_callS (as := [.int t0, .int v11, .int (v9 - v9 / (100 : Int32) * (100 : Int32))]) C wb_X10_tested wt_X10_62 (m_X10_tested h) rfl ⟨Nat.le_of_ble_eq_true rfl, Nat.le_of_ble_eq_true rfl⟩ ⟨Nat.le_of_ble_eq_true rfl, Nat.le_of_ble_eq_true rfl⟩ (by first | exact Nat.le_of_ble_eq_true rfl | (simp only [List.map_cons, List.map_nil, va_cat, List.sum_cons, List.sum_nil]; exact Nat.le_of_ble_eq_true rfl)) dX10_holds_144 (kZ (fun w2 M3 h5 => ?_))
  refine e_if_eq (tgt := 154) C dX10_holds_147 (by decide) (fun q4 => ?_) (fun q4 => ?_)
  · replace h5 := ite_f h5 (bi_ne q4)
    refine e_iconst (v := 0) C dX10_holds_154 (by decide) ?_
    refine e_pick [1, 2, 3, 4, 5, 6, 7, 9] rfl ?_
    exact w_X10_holds_J155 C hr hlk hK6 h5
  · replace h5 := ite_t h5 (bi_t q4)
    refine e_iconst (v := 1) C dX10_holds_150 (by decide) ?_
    refine e_goto (tgt := 155) C dX10_holds_151 (by decide) ?_
    refine e_pick [1, 2, 3, 4, 5, 6, 7, 9] rfl ?_
    exact w_X10_holds_J155 C hr hlk hK6 h5
set_option maxHeartbeats 4000000 in
set_option maxRecDepth 100000 in
theorem w_X10_holds_B6 {p : Program} {l : Launch} {e : Env} {s : State} {m : MethodId} {args : Array Value} {below : List Frame} {meth : Method} {c : Code} {g : Geo} (C : Cx p s m args c cX10_holds RX10 13 g) (hr : meth.sig.returnType = (some .boolean)) (hlk : meth.locks = false) {a0 : Nat} {x1 : Int32} {x2 : Int32} {x3 : Int32} {x4 : Int32} {x5 : Int32} {x6 : Int32} {v7 : Int32} {v8 : Int32} {M : Mem} {K6 : Int32 × Int32 × Mem → Prop} {Q : Bool → Mem → Prop} (hK6 : ∀ z : Int32 × Int32 × Mem, K6 z → E p l e (rmO 2 0 0) s m args below meth c g 13 (MQ below (QcM g (rZ Q)) args s 0 0 (gA g)) 0 0 6 [(0, .ref a0), (1, .int x1), (2, .int x2), (3, .int x3), (4, .int x4), (5, .int x5), (6, .int x6), (7, .int z.1), (8, .int z.2.1)] [] (z.2.2)) (h : f_X10_holds_B6 a0 x1 x2 x3 x4 x5 x6 v7 v8 M K6 Q) : E p l e (rmO 2 0 0) s m args below meth c g 13 (MQ below (QcM g (rZ Q)) args s 0 0 (gA g)) 0 0 6 [(0, .ref a0), (1, .int x1), (2, .int x2), (3, .int x3), (4, .int x4), (5, .int x5), (6, .int x6), (7, .int v7), (8, .int v8)] [] M := by
  unfold f_X10_holds_B6 at h
  refine e_iload C 8 dX10_holds_6 rfl ?_
  refine e_iload_n C 2 dX10_holds_8 rfl rfl ?_
  refine e_icmp_ge (tgt := 164) C dX10_holds_9 (by decide) (fun q1 => ?_) (fun q1 => ?_)
  · replace h := ite_t h q1
    refine e_iload C 7 dX10_holds_164 rfl ?_
    refine e_iconst (v := 1) C dX10_holds_166 (by decide) ?_
    refine e_iand C dX10_holds_167 ?_
    refine e_iconst (v := 1) C dX10_holds_168 (by decide) ?_
    refine e_icmp_ne (tgt := 176) C dX10_holds_169 (by decide) (fun q2 => ?_) (fun q2 => ?_)
    · replace h := ite_f h q2
      refine e_iconst (v := 0) C dX10_holds_176 (by decide) ?_
      exact e_zret C hr rfl hlk (Nat.le_refl _) (Nat.le_refl _) dX10_holds_177 ⟨false, rfl, h⟩
    · replace h := ite_t h q2
      refine e_iconst (v := 1) C dX10_holds_172 (by decide) ?_
      refine e_goto (tgt := 177) C dX10_holds_173 (by decide) ?_
      exact e_zret C hr rfl hlk (Nat.le_refl _) (Nat.le_refl _) dX10_holds_177 ⟨true, rfl, h⟩
  · replace h := ite_f h q1
    refine e_aload_n C 0 dX10_holds_12 rfl rfl ?_
    obtain ⟨o3, h⟩ := h
    refine e_getR C [10] 6 (fg_of fg_X10_22) o3 dX10_holds_13 ?_
    refine e_iload C 8 dX10_holds_16 rfl ?_
    obtain ⟨b4, p5, h⟩ := h
    try rw [p5]
    obtain ⟨o6, h⟩ := h
    refine e_iald C o6 dX10_holds_18 ?_
    refine e_istore (al' := [(9, .int (mI M b4 (v8).toNatClampNeg)), (0, .ref a0), (1, .int x1), (2, .int x2), (3, .int x3), (4, .int x4), (5, .int x5), (6, .int x6), (7, .int v7), (8, .int v8)]) C dX10_holds_19 (by decide) rfl ?_
    refine e_iload C 0 dX10_holds_21 rfl ?_
    refine e_bipush (v := -3) C dX10_holds_23 (by decide) ?_
    refine e_icmp_ne (tgt := 37) C dX10_holds_25 (by decide) (fun q7 => ?_) (fun q7 => ?_)
    · replace h := ite_f h q7
      refine e_iload C 0 dX10_holds_37 rfl ?_
      refine e_iconst (v := -1) C dX10_holds_39 (by decide) ?_
      refine e_icmp_ne (tgt := 58) C dX10_holds_40 (by decide) (fun q8 => ?_) (fun q8 => ?_)
      · replace h := ite_f h q8
        refine e_iload C 0 dX10_holds_58 rfl ?_
        refine e_bipush (v := -2) C dX10_holds_60 (by decide) ?_
        refine e_icmp_ne (tgt := 79) C dX10_holds_62 (by decide) (fun q9 => ?_) (fun q9 => ?_)
        · replace h := ite_f h q9
          refine e_iload C 0 dX10_holds_79 rfl ?_
          refine e_sipush (v := 300) C dX10_holds_81 (by decide) ?_
          obtain ⟨n10, h⟩ := h
          refine e_idiv C dX10_holds_84 n10 ?_
          refine e_istore (al' := [(10, .int ((mI M b4 (v8).toNatClampNeg) / (300 : Int32))), (9, .int (mI M b4 (v8).toNatClampNeg)), (0, .ref a0), (1, .int x1), (2, .int x2), (3, .int x3), (4, .int x4), (5, .int x5), (6, .int x6), (7, .int v7), (8, .int v8)]) C dX10_holds_85 (by decide) rfl ?_
          refine e_iload C 1 dX10_holds_87 rfl ?_
          refine e_bipush (v := 100) C dX10_holds_89 (by decide) ?_
          obtain ⟨n11, h⟩ := h
          refine e_idiv C dX10_holds_91 n11 ?_
          refine e_iconst (v := 3) C dX10_holds_92 (by decide) ?_
          obtain ⟨n12, h⟩ := h
          refine e_irem C dX10_holds_93 n12 ?_
          refine e_istore (al' := [(11, .int (((mI M b4 (v8).toNatClampNeg) / (100 : Int32)) - ((mI M b4 (v8).toNatClampNeg) / (100 : Int32)) / (3 : Int32) * (3 : Int32))), (10, .int ((mI M b4 (v8).toNatClampNeg) / (300 : Int32))), (9, .int (mI M b4 (v8).toNatClampNeg)), (0, .ref a0), (1, .int x1), (2, .int x2), (3, .int x3), (4, .int x4), (5, .int x5), (6, .int x6), (7, .int v7), (8, .int v8)]) C dX10_holds_94 (by decide) rfl ?_
          refine e_iload C 1 dX10_holds_96 rfl ?_
          refine e_if_ne (tgt := 105) C dX10_holds_98 (by decide) (fun q13 => ?_) (fun q13 => ?_)
          · replace h := ite_f h q13
            refine e_iload C 1 dX10_holds_105 rfl ?_
            refine e_iconst (v := 1) C dX10_holds_107 (by decide) ?_
            refine e_icmp_ne (tgt := 116) C dX10_holds_108 (by decide) (fun q14 => ?_) (fun q14 => ?_)
            · replace h := ite_f h q14
              refine e_iload C 1 dX10_holds_116 rfl ?_
              refine e_iconst (v := 2) C dX10_holds_118 (by decide) ?_
              refine e_icmp_ne (tgt := 127) C dX10_holds_119 (by decide) (fun q15 => ?_) (fun q15 => ?_)
              · replace h := ite_f h q15
                refine e_iload C 9 dX10_holds_127 rfl ?_
                refine e_pick [3, 4, 5, 6, 7, 8, 9, 10, 11, 2, 0] rfl ?_
                exact w_X10_holds_J129 C hr hlk hK6 h
              · replace h := ite_t h q15
                refine e_iload C 8 dX10_holds_122 rfl ?_
                refine e_goto (tgt := 129) C dX10_holds_124 (by decide) ?_
                refine e_pick [3, 4, 5, 6, 7, 8, 9, 10, 11, 2, 0] rfl ?_
                exact w_X10_holds_J129 C hr hlk hK6 h
            · replace h := ite_t h q14
              refine e_iload C 7 dX10_holds_111 rfl ?_
              refine e_goto (tgt := 129) C dX10_holds_113 (by decide) ?_
              refine e_pick [3, 4, 5, 6, 7, 8, 9, 10, 11, 2, 0] rfl ?_
              exact w_X10_holds_J129 C hr hlk hK6 h
          · replace h := ite_t h q13
            refine e_iload_n C 6 dX10_holds_101 rfl rfl ?_
            refine e_goto (tgt := 129) C dX10_holds_102 (by decide) ?_
            refine e_pick [3, 4, 5, 6, 7, 8, 9, 10, 11, 2, 0] rfl ?_
            exact w_X10_holds_J129 C hr hlk hK6 h
        · replace h := ite_t h q9
          refine e_iload C 8 dX10_holds_65 rfl ?_
          refine e_iconst (v := 1) C dX10_holds_67 (by decide) ?_
          refine e_ishr C dX10_holds_68 ?_
          refine e_iload C 8 dX10_holds_69 rfl ?_
          refine e_iconst (v := 1) C dX10_holds_71 (by decide) ?_
          refine e_iand C dX10_holds_72 ?_
          refine e_ior C dX10_holds_73 ?_
          refine e_istore (al' := [(7, .int ((v7 >>> ((1 : Int32) &&& 31)) ||| (v7 &&& (1 : Int32)))), (9, .int (mI M b4 (v8).toNatClampNeg)), (0, .ref a0), (1, .int x1), (2, .int x2), (3, .int x3), (4, .int x4), (5, .int x5), (6, .int x6), (8, .int v8)]) C dX10_holds_74 (by decide) rfl ?_
          refine e_goto (tgt := 158) C dX10_holds_76 (by decide) ?_
          refine e_pick [2, 3, 4, 5, 6, 7, 8, 0, 9] rfl ?_
          exact w_X10_holds_J158 C hr hlk hK6 h
      · replace h := ite_t h q8
        refine e_iload C 8 dX10_holds_43 rfl ?_
        refine e_iconst (v := 1) C dX10_holds_45 (by decide) ?_
        refine e_ishr C dX10_holds_46 ?_
        refine e_iload C 8 dX10_holds_47 rfl ?_
        refine e_bipush (v := -2) C dX10_holds_49 (by decide) ?_
        refine e_ior C dX10_holds_51 ?_
        refine e_iand C dX10_holds_52 ?_
        refine e_istore (al' := [(7, .int ((v7 >>> ((1 : Int32) &&& 31)) &&& (v7 ||| (-2 : Int32)))), (9, .int (mI M b4 (v8).toNatClampNeg)), (0, .ref a0), (1, .int x1), (2, .int x2), (3, .int x3), (4, .int x4), (5, .int x5), (6, .int x6), (8, .int v8)]) C dX10_holds_53 (by decide) rfl ?_
        refine e_goto (tgt := 158) C dX10_holds_55 (by decide) ?_
        refine e_pick [2, 3, 4, 5, 6, 7, 8, 0, 9] rfl ?_
        exact w_X10_holds_J158 C hr hlk hK6 h
    · replace h := ite_t h q7
      refine e_iload C 8 dX10_holds_28 rfl ?_
      refine e_iconst (v := 1) C dX10_holds_30 (by decide) ?_
      refine e_ixor C dX10_holds_31 ?_
      refine e_istore (al' := [(7, .int (v7 ^^^ (1 : Int32))), (9, .int (mI M b4 (v8).toNatClampNeg)), (0, .ref a0), (1, .int x1), (2, .int x2), (3, .int x3), (4, .int x4), (5, .int x5), (6, .int x6), (8, .int v8)]) C dX10_holds_32 (by decide) rfl ?_
      refine e_goto (tgt := 158) C dX10_holds_34 (by decide) ?_
      refine e_pick [2, 3, 4, 5, 6, 7, 8, 0, 9] rfl ?_
      exact w_X10_holds_J158 C hr hlk hK6 h
set_option maxHeartbeats 4000000 in
set_option maxRecDepth 100000 in
theorem w_X10_holds_L6 {p : Program} {l : Launch} {e : Env} {s : State} {m : MethodId} {args : Array Value} {below : List Frame} {meth : Method} {c : Code} {g : Geo} (C : Cx p s m args c cX10_holds RX10 13 g) (hr : meth.sig.returnType = (some .boolean)) (hlk : meth.locks = false) {a0 : Nat} {x1 : Int32} {x2 : Int32} {x3 : Int32} {x4 : Int32} {x5 : Int32} {x6 : Int32} {v7 : Int32} {v8 : Int32} {M : Mem} {Q : Bool → Mem → Prop} (h : f_X10_holds_L6 a0 x1 x2 x3 x4 x5 x6 v7 v8 M Q) : E p l e (rmO 2 0 0) s m args below meth c g 13 (MQ below (QcM g (rZ Q)) args s 0 0 (gA g)) 0 0 6 [(0, .ref a0), (1, .int x1), (2, .int x2), (3, .int x3), (4, .int x4), (5, .int x5), (6, .int x6), (7, .int v7), (8, .int v8)] [] M := by
  unfold f_X10_holds_L6 at h
  refine loop_E (W := fun z : Int32 × Int32 × Mem => E p l e (rmO 2 0 0) s m args below meth c g 13 (MQ below (QcM g (rZ Q)) args s 0 0 (gA g)) 0 0 6 [(0, .ref a0), (1, .int x1), (2, .int x2), (3, .int x3), (4, .int x4), (5, .int x5), (6, .int x6), (7, .int z.1), (8, .int z.2.1)] [] (z.2.2)) h (fun K z hK h => ?_)
  exact w_X10_holds_B6 C hr hlk hK h
set_option maxHeartbeats 4000000 in
set_option maxRecDepth 100000 in
theorem w_X10_holds {p : Program} {l : Launch} {e : Env} {s : State} {m : MethodId} {args : Array Value} {below : List Frame} {meth : Method} {c : Code} {g : Geo} (C : Cx p s m args c cX10_holds RX10 13 g) (hr : meth.sig.returnType = (some .boolean)) (hlk : meth.locks = false) {a0 : Nat} {x1 : Int32} {x2 : Int32} {x3 : Int32} {x4 : Int32} {x5 : Int32} {x6 : Int32} {M : Mem} {Q : Bool → Mem → Prop} (h : f_X10_holds a0 x1 x2 x3 x4 x5 x6 M Q) : E p l e (rmO 2 0 0) s m args below meth c g 13 (MQ below (QcM g (rZ Q)) args s 0 0 (gA g)) 0 0 0 [(0, .ref a0), (1, .int x1), (2, .int x2), (3, .int x3), (4, .int x4), (5, .int x5), (6, .int x6)] [] M := by
  unfold f_X10_holds at h
  refine e_iconst (v := 0) C dX10_holds_0 (by decide) ?_
  refine e_istore (al' := [(7, .int (0 : Int32)), (0, .ref a0), (1, .int x1), (2, .int x2), (3, .int x3), (4, .int x4), (5, .int x5), (6, .int x6)]) C dX10_holds_1 (by decide) rfl ?_
  refine e_iload_n C 2 dX10_holds_3 rfl rfl ?_
  refine e_istore (al' := [(8, .int x1), (7, .int (0 : Int32)), (0, .ref a0), (1, .int x1), (2, .int x2), (3, .int x3), (4, .int x4), (5, .int x5), (6, .int x6)]) C dX10_holds_4 (by decide) rfl ?_
  refine e_pick [2, 3, 4, 5, 6, 7, 8, 1, 0] rfl ?_
  exact w_X10_holds_L6 C hr hlk h
theorem m_X10_holds  {a0 : Nat} {x1 : Int32} {x2 : Int32} {x3 : Int32} {x4 : Int32} {x5 : Int32} {x6 : Int32} {M : Mem} {Q : Bool → Mem → Prop} (h : f_X10_holds a0 x1 x2 x3 x4 x5 x6 M Q) : Con yX10_holds cX10_holds 13 (some .boolean) 2 0 0 [.ref a0, .int x1, .int x2, .int x3, .int x4, .int x5, .int x6] M (rZ Q) :=
  con_of2 (al := [(0, .ref a0), (1, .int x1), (2, .int x2), (3, .int x3), (4, .int x4), (5, .int x5), (6, .int x6)]) (by decide) (by exact Nat.le_of_ble_eq_true rfl) (by rfl) (fun p l e s m args below meth c g C hr hlk _ => w_X10_holds C hr hlk h)
set_option maxHeartbeats 4000000 in
set_option maxRecDepth 100000 in
theorem w_X10_calls_J67 {p : Program} {l : Launch} {e : Env} {s : State} {m : MethodId} {args : Array Value} {below : List Frame} {meth : Method} {c : Code} {g : Geo} (C : Cx p s m args c cX10_calls RX10 8 g) (hr : meth.sig.returnType = (some .boolean)) (hlk : meth.locks = false) {a0 : Nat} {x1 : Int32} {x2 : Int32} {x3 : Int32} {x4 : Int32} {x5 : Int32} {v6 : Int32} {M : Mem} {K3 : Int32 × Mem → Prop} {Q : Bool → Mem → Prop} (hK3 : ∀ z : Int32 × Mem, K3 z → E p l e (rmO 3 0 0) s m args below meth c g 8 (MQ below (QcM g (rZ Q)) args s 0 0 (gA g)) 0 0 3 [(0, .ref a0), (1, .int x1), (2, .int x2), (3, .int x3), (4, .int x4), (5, .int x5), (6, .int z.1)] [] (z.2)) (h : f_X10_calls_J67 a0 x1 x2 x3 x4 x5 v6 M K3 Q) : E p l e (rmO 3 0 0) s m args below meth c g 8 (MQ below (QcM g (rZ Q)) args s 0 0 (gA g)) 0 0 67 [(0, .ref a0), (1, .int x1), (2, .int x2), (3, .int x3), (4, .int x4), (5, .int x5), (6, .int v6)] [] M := by
  unfold f_X10_calls_J67 at h
  refine e_iinc (v := (v6 + 1)) (al' := [(6, .int (v6 + 1)), (0, .ref a0), (1, .int x1), (2, .int x2), (3, .int x3), (4, .int x4), (5, .int x5)]) C 6 dX10_calls_67 rfl rfl (by decide) rfl ?_
  refine e_goto (tgt := 3) C dX10_calls_70 (by decide) ?_
  refine e_pick [1, 2, 3, 4, 5, 6, 0] rfl ?_
  exact hK3 ((v6 + 1), M) h
set_option maxHeartbeats 4000000 in
set_option maxRecDepth 100000 in
theorem w_X10_calls_J30 {p : Program} {l : Launch} {e : Env} {s : State} {m : MethodId} {args : Array Value} {below : List Frame} {meth : Method} {c : Code} {g : Geo} (C : Cx p s m args c cX10_calls RX10 8 g) (hr : meth.sig.returnType = (some .boolean)) (hlk : meth.locks = false) {a0 : Nat} {x1 : Int32} {x2 : Int32} {x3 : Int32} {x4 : Int32} {x5 : Int32} {v6 : Int32} {t0 : Int32} {M : Mem} {K3 : Int32 × Mem → Prop} {Q : Bool → Mem → Prop} (hK3 : ∀ z : Int32 × Mem, K3 z → E p l e (rmO 3 0 0) s m args below meth c g 8 (MQ below (QcM g (rZ Q)) args s 0 0 (gA g)) 0 0 3 [(0, .ref a0), (1, .int x1), (2, .int x2), (3, .int x3), (4, .int x4), (5, .int x5), (6, .int z.1)] [] (z.2)) (h : f_X10_calls_J30 a0 x1 x2 x3 x4 x5 v6 t0 M K3 Q) : E p l e (rmO 3 0 0) s m args below meth c g 8 (MQ below (QcM g (rZ Q)) args s 0 0 (gA g)) 0 0 30 [(0, .ref a0), (1, .int x1), (2, .int x2), (3, .int x3), (4, .int x4), (5, .int x5), (6, .int v6)] [.int t0] M := by
  unfold f_X10_calls_J30 at h
  refine e_istore (al' := [(7, .int t0), (0, .ref a0), (1, .int x1), (2, .int x2), (3, .int x3), (4, .int x4), (5, .int x5), (6, .int v6)]) C dX10_calls_30 (by decide) rfl ?_
  refine e_aload_n C 1 dX10_calls_32 rfl rfl ?_
  obtain ⟨o1, h⟩ := h
  refine e_getR C [10] 4 (fg_of fg_X10_15) o1 dX10_calls_33 ?_
  refine e_iload C 7 dX10_calls_36 rfl ?_
  obtain ⟨b2, p3, h⟩ := h
  try rw [p3]
  obtain ⟨o4, h⟩ := h
  refine e_iald C o4 dX10_calls_38 ?_
  refine e_iload_n C 2 dX10_calls_39 rfl rfl ?_
  refine e_icmp_ne (tgt := 67) C dX10_calls_40 (by decide) (fun q5 => ?_) (fun q5 => ?_)
  · replace h := ite_f h q5
    refine e_pick [1, 2, 3, 4, 5, 6, 7] rfl ?_
    exact w_X10_calls_J67 C hr hlk hK3 h
  · replace h := ite_t h q5
    refine e_aload_n C 1 dX10_calls_43 rfl rfl ?_
    refine e_iload C 0 dX10_calls_44 rfl ?_
    refine e_aload_n C 1 dX10_calls_46 rfl rfl ?_
    refine e_getR C [10] 5 (fg_of fg_X10_19) o1 dX10_calls_47 ?_
    refine e_iload C 7 dX10_calls_50 rfl ?_
    obtain ⟨b6, p7, h⟩ := h
    try rw [p7]
    obtain ⟨o8, h⟩ := h
    refine e_iald C o8 dX10_calls_52 ?_
    refine e_iload_n C 3 dX10_calls_53 rfl rfl ?_
    refine e_iload_n C 4 dX10_calls_54 rfl rfl ?_
    refine e_iload C 5 dX10_calls_55 rfl ?_
    refine e_iload C 6 dX10_calls_57 rfl ?_
    refine e_callV (as := [.int t0, .int (mI M b6 (v6).toNatClampNeg), .int x2, .int x3, .int x4, .int x5]) C wb_X10_holds wv_X10_58 (ci := 10) rfl rfl (isO_1 o1) (m_X10_holds h) rfl ⟨Nat.le_of_ble_eq_true rfl, Nat.le_of_ble_eq_true rfl⟩ ⟨Nat.le_of_ble_eq_true rfl, Nat.le_of_ble_eq_true rfl⟩ (by first | exact Nat.le_of_ble_eq_true rfl | (simp only [List.map_cons, List.map_nil, va_cat, List.sum_cons, List.sum_nil]; exact Nat.le_of_ble_eq_true rfl)) dX10_calls_59 (kZ (fun w9 M10 h12 => ?_))
    refine e_if_eq (tgt := 67) C dX10_calls_62 (by decide) (fun q11 => ?_) (fun q11 => ?_)
    · replace h12 := ite_f h12 (bi_ne q11)
      refine e_pick [1, 2, 3, 4, 5, 6, 7] rfl ?_
      exact w_X10_calls_J67 C hr hlk hK3 h12
    · replace h12 := ite_t h12 (bi_t q11)
      refine e_iconst (v := 1) C dX10_calls_65 (by decide) ?_
      exact e_zret C hr rfl hlk (Nat.le_refl _) (Nat.le_refl _) dX10_calls_66 ⟨true, rfl, h12⟩
set_option maxHeartbeats 4000000 in
set_option maxRecDepth 100000 in
theorem w_X10_calls_B3 {p : Program} {l : Launch} {e : Env} {s : State} {m : MethodId} {args : Array Value} {below : List Frame} {meth : Method} {c : Code} {g : Geo} (C : Cx p s m args c cX10_calls RX10 8 g) (hr : meth.sig.returnType = (some .boolean)) (hlk : meth.locks = false) {a0 : Nat} {x1 : Int32} {x2 : Int32} {x3 : Int32} {x4 : Int32} {x5 : Int32} {v6 : Int32} {M : Mem} {K3 : Int32 × Mem → Prop} {Q : Bool → Mem → Prop} (hK3 : ∀ z : Int32 × Mem, K3 z → E p l e (rmO 3 0 0) s m args below meth c g 8 (MQ below (QcM g (rZ Q)) args s 0 0 (gA g)) 0 0 3 [(0, .ref a0), (1, .int x1), (2, .int x2), (3, .int x3), (4, .int x4), (5, .int x5), (6, .int z.1)] [] (z.2)) (h : f_X10_calls_B3 a0 x1 x2 x3 x4 x5 v6 M K3 Q) : E p l e (rmO 3 0 0) s m args below meth c g 8 (MQ below (QcM g (rZ Q)) args s 0 0 (gA g)) 0 0 3 [(0, .ref a0), (1, .int x1), (2, .int x2), (3, .int x3), (4, .int x4), (5, .int x5), (6, .int v6)] [] M := by
  unfold f_X10_calls_B3 at h
  refine e_iload C 6 dX10_calls_3 rfl ?_
  refine e_aload_n C 0 dX10_calls_5 rfl rfl ?_
  obtain ⟨o1, h⟩ := h
  refine e_getI C [10] 3 (fg_of fg_X10_31) o1 dX10_calls_6 ?_
  refine e_icmp_ge (tgt := 73) C dX10_calls_9 (by decide) (fun q2 => ?_) (fun q2 => ?_)
  · replace h := ite_t h q2
    refine e_iconst (v := 0) C dX10_calls_73 (by decide) ?_
    exact e_zret C hr rfl hlk (Nat.le_refl _) (Nat.le_refl _) dX10_calls_74 ⟨false, rfl, h⟩
  · replace h := ite_f h q2
    refine e_iload C 6 dX10_calls_12 rfl ?_
    refine e_if_ne (tgt := 21) C dX10_calls_14 (by decide) (fun q3 => ?_) (fun q3 => ?_)
    · replace h := ite_f h q3
      refine e_aload_n C 0 dX10_calls_21 rfl rfl ?_
      refine e_getR C [10] 5 (fg_of fg_X10_19) o1 dX10_calls_22 ?_
      refine e_iload C 6 dX10_calls_25 rfl ?_
      refine e_iconst (v := 1) C dX10_calls_27 (by decide) ?_
      refine e_isub C dX10_calls_28 ?_
      obtain ⟨b4, p5, h⟩ := h
      try rw [p5]
      obtain ⟨o6, h⟩ := h
      refine e_iald C o6 dX10_calls_29 ?_
      exact w_X10_calls_J30 C hr hlk hK3 h
    · replace h := ite_t h q3
      refine e_iconst (v := 0) C dX10_calls_17 (by decide) ?_
      refine e_goto (tgt := 30) C dX10_calls_18 (by decide) ?_
      exact w_X10_calls_J30 C hr hlk hK3 h
set_option maxHeartbeats 4000000 in
set_option maxRecDepth 100000 in
theorem w_X10_calls_L3 {p : Program} {l : Launch} {e : Env} {s : State} {m : MethodId} {args : Array Value} {below : List Frame} {meth : Method} {c : Code} {g : Geo} (C : Cx p s m args c cX10_calls RX10 8 g) (hr : meth.sig.returnType = (some .boolean)) (hlk : meth.locks = false) {a0 : Nat} {x1 : Int32} {x2 : Int32} {x3 : Int32} {x4 : Int32} {x5 : Int32} {v6 : Int32} {M : Mem} {Q : Bool → Mem → Prop} (h : f_X10_calls_L3 a0 x1 x2 x3 x4 x5 v6 M Q) : E p l e (rmO 3 0 0) s m args below meth c g 8 (MQ below (QcM g (rZ Q)) args s 0 0 (gA g)) 0 0 3 [(0, .ref a0), (1, .int x1), (2, .int x2), (3, .int x3), (4, .int x4), (5, .int x5), (6, .int v6)] [] M := by
  unfold f_X10_calls_L3 at h
  refine loop_E (W := fun z : Int32 × Mem => E p l e (rmO 3 0 0) s m args below meth c g 8 (MQ below (QcM g (rZ Q)) args s 0 0 (gA g)) 0 0 3 [(0, .ref a0), (1, .int x1), (2, .int x2), (3, .int x3), (4, .int x4), (5, .int x5), (6, .int z.1)] [] (z.2)) h (fun K z hK h => ?_)
  exact w_X10_calls_B3 C hr hlk hK h
set_option maxHeartbeats 4000000 in
set_option maxRecDepth 100000 in
theorem w_X10_calls {p : Program} {l : Launch} {e : Env} {s : State} {m : MethodId} {args : Array Value} {below : List Frame} {meth : Method} {c : Code} {g : Geo} (C : Cx p s m args c cX10_calls RX10 8 g) (hr : meth.sig.returnType = (some .boolean)) (hlk : meth.locks = false) {a0 : Nat} {x1 : Int32} {x2 : Int32} {x3 : Int32} {x4 : Int32} {x5 : Int32} {M : Mem} {Q : Bool → Mem → Prop} (h : f_X10_calls a0 x1 x2 x3 x4 x5 M Q) : E p l e (rmO 3 0 0) s m args below meth c g 8 (MQ below (QcM g (rZ Q)) args s 0 0 (gA g)) 0 0 0 [(0, .ref a0), (1, .int x1), (2, .int x2), (3, .int x3), (4, .int x4), (5, .int x5)] [] M := by
  unfold f_X10_calls at h
  refine e_iconst (v := 0) C dX10_calls_0 (by decide) ?_
  refine e_istore (al' := [(6, .int (0 : Int32)), (0, .ref a0), (1, .int x1), (2, .int x2), (3, .int x3), (4, .int x4), (5, .int x5)]) C dX10_calls_1 (by decide) rfl ?_
  refine e_pick [1, 2, 3, 4, 5, 6, 0] rfl ?_
  exact w_X10_calls_L3 C hr hlk h
theorem m_X10_calls  {a0 : Nat} {x1 : Int32} {x2 : Int32} {x3 : Int32} {x4 : Int32} {x5 : Int32} {M : Mem} {Q : Bool → Mem → Prop} (h : f_X10_calls a0 x1 x2 x3 x4 x5 M Q) : Con yX10_calls cX10_calls 8 (some .boolean) 3 0 0 [.ref a0, .int x1, .int x2, .int x3, .int x4, .int x5] M (rZ Q) :=
  con_of2 (al := [(0, .ref a0), (1, .int x1), (2, .int x2), (3, .int x3), (4, .int x4), (5, .int x5)]) (by decide) (by exact Nat.le_of_ble_eq_true rfl) (by rfl) (fun p l e s m args below meth c g C hr hlk _ => w_X10_calls C hr hlk h)
set_option maxHeartbeats 4000000 in
set_option maxRecDepth 100000 in
theorem w_X10_init {p : Program} {l : Launch} {e : Env} {s : State} {m : MethodId} {args : Array Value} {below : List Frame} {meth : Method} {c : Code} {g : Geo} (C : Cx p s m args c cX10_init RX10 1 g) (hr : meth.sig.returnType = none) (hlk : meth.locks = false) (hnm : meth.name = "<init>") {a0 : Nat} {M : Mem} {Q : Mem → Prop} (h : f_X10_init a0 M Q) : E p l e (rmO 2 3 116) s m args below meth c g 1 (MQ below (QcM g (rV Q)) args s 3 116 (gA g)) 0 0 0 [(0, .ref a0)] [] M := by
  unfold f_X10_init at h
  refine e_aload_n C 0 dX10_init_0 rfl rfl ?_
  refine e_obj C wd_37 wd_27 wd_28 ⟨Nat.le_of_ble_eq_true rfl, Nat.le_of_ble_eq_true rfl⟩ (by first | exact Nat.le_of_ble_eq_true rfl | (simp only [List.map_cons, List.map_nil, va_cat, List.sum_cons, List.sum_nil]; exact Nat.le_of_ble_eq_true rfl)) dX10_init_1 ?_
  refine e_aload_n C 0 dX10_init_4 rfl rfl ?_
  refine e_bipush (v := 30) C dX10_init_5 (by decide) ?_
  obtain ⟨o1, h⟩ := h
  refine e_putI C [10] 2 false (fun z => by cases z) fp_X10_11 o1 dX10_init_7 ?_
  refine nmE (fun M2 e3 => ?_)
  replace h := h M2 e3
  have o4 : isO M2 a0 [10] := by rw [e3]; exact o1
  refine e_aload_n C 0 dX10_init_10 rfl rfl ?_
  refine e_bipush (v := 8) C dX10_init_11 (by decide) ?_
  refine e_newa C 0 (N := 8) (by decide) (by decide) (by decide) rfl wd_76 (Nat.le_of_ble_eq_true rfl) (Nat.le_of_ble_eq_true rfl) dX10_init_13 ?_
  refine nmE (fun M5 e6 => ?_)
  replace h := h M5 e6
  obtain ⟨o7, h⟩ := h
  refine e_putR (x := (some (mN M2))) C [10] 4 true (fun _ => hnm) fp_X10_15 o7 dX10_init_15 ?_
  refine nmE (fun M8 e9 => ?_)
  replace h := h M8 e9
  have o10 : isO M8 a0 [10] := by rw [e9]; exact o7
  refine e_aload_n C 0 dX10_init_18 rfl rfl ?_
  refine e_bipush (v := 8) C dX10_init_19 (by decide) ?_
  refine e_newa C 0 (N := 8) (by decide) (by decide) (by decide) rfl wd_76 (Nat.le_of_ble_eq_true rfl) (Nat.le_of_ble_eq_true rfl) dX10_init_21 ?_
  refine nmE (fun M11 e12 => ?_)
  replace h := h M11 e12
  obtain ⟨o13, h⟩ := h
  refine e_putR (x := (some (mN M8))) C [10] 5 true (fun _ => hnm) fp_X10_19 o13 dX10_init_23 ?_
  refine nmE (fun M14 e15 => ?_)
  replace h := h M14 e15
  have o16 : isO M14 a0 [10] := by rw [e15]; exact o13
  refine e_aload_n C 0 dX10_init_26 rfl rfl ?_
  refine e_bipush (v := 100) C dX10_init_27 (by decide) ?_
  refine e_newa C 0 (N := 100) (by decide) (by decide) (by decide) rfl wd_76 (Nat.le_of_ble_eq_true rfl) (Nat.le_of_ble_eq_true rfl) dX10_init_29 ?_
  refine nmE (fun M17 e18 => ?_)
  replace h := h M17 e18
  obtain ⟨o19, h⟩ := h
  refine e_putR (x := (some (mN M14))) C [10] 6 true (fun _ => hnm) fp_X10_22 o19 dX10_init_31 ?_
  refine nmE (fun M20 e21 => ?_)
  replace h := h M20 e21
  have o22 : isO M20 a0 [10] := by rw [e21]; exact o19
  exact e_vret C hr hlk (Nat.le_of_ble_eq_true rfl) (Nat.le_of_ble_eq_true rfl) dX10_init_34 ⟨rfl, h⟩
theorem m_X10_init  {a0 : Nat} {M : Mem} {Q : Mem → Prop} (h : f_X10_init a0 M Q) : Con yX10_init cX10_init 1 none 2 3 116 [.ref a0] M (rV Q) :=
  con_of2 (al := [(0, .ref a0)]) (by decide) (by exact Nat.le_of_ble_eq_true rfl) (by rfl) (fun p l e s m args below meth c g C hr hlk hnm => w_X10_init C hr hlk hnm h)
set_option maxHeartbeats 4000000 in
set_option maxRecDepth 100000 in
theorem w_X10_skip {p : Program} {l : Launch} {e : Env} {s : State} {m : MethodId} {args : Array Value} {below : List Frame} {meth : Method} {c : Code} {g : Geo} (C : Cx p s m args c cX10_skip RX10 2 g) (hr : meth.sig.returnType = (some .boolean)) (hlk : meth.locks = false) {a0 : Nat} {x1 : Int32} {M : Mem} {Q : Bool → Mem → Prop} (h : f_X10_skip a0 x1 M Q) : E p l e (rmO 1 0 0) s m args below meth c g 2 (MQ below (QcM g (rZ Q)) args s 0 0 (gA g)) 0 0 0 [(0, .ref a0), (1, .int x1)] [] M := by
  unfold f_X10_skip at h
  refine e_aload_n C 0 dX10_skip_0 rfl rfl ?_
  obtain ⟨o1, h⟩ := h
  refine e_getI C [10] 10 (fg_of fg_X10_44) o1 dX10_skip_1 ?_
  refine e_aload_n C 0 dX10_skip_4 rfl rfl ?_
  refine e_getI C [10] 9 (fg_of fg_X10_41) o1 dX10_skip_5 ?_
  refine e_icmp_ge (tgt := 24) C dX10_skip_8 (by decide) (fun q2 => ?_) (fun q2 => ?_)
  · replace h := ite_t h q2
    refine e_iconst (v := 0) C dX10_skip_24 (by decide) ?_
    exact e_zret C hr rfl hlk (Nat.le_refl _) (Nat.le_refl _) dX10_skip_25 ⟨false, rfl, h⟩
  · replace h := ite_f h q2
    refine e_aload_n C 0 dX10_skip_11 rfl rfl ?_
    refine e_getR C [10] 8 (fg_of fg_X10_37) o1 dX10_skip_12 ?_
    refine e_aload_n C 0 dX10_skip_15 rfl rfl ?_
    refine e_getI C [10] 10 (fg_of fg_X10_44) o1 dX10_skip_16 ?_
    obtain ⟨b3, p4, h⟩ := h
    try rw [p4]
    obtain ⟨o5, h⟩ := h
    refine e_bald C o5 dX10_skip_19 ?_
    refine e_iload_n C 1 dX10_skip_20 rfl rfl ?_
    refine e_icmp_eq (tgt := 26) C dX10_skip_21 (by decide) (fun q6 => ?_) (fun q6 => ?_)
    · replace h := ite_t h q6
      refine e_aload_n C 0 dX10_skip_26 rfl rfl ?_
      refine e_dup C rfl dX10_skip_27 ?_
      refine e_getI C [10] 10 (fg_of fg_X10_44) o1 dX10_skip_28 ?_
      refine e_iconst (v := 1) C dX10_skip_31 (by decide) ?_
      refine e_iadd C dX10_skip_32 ?_
      refine e_putI C [10] 10 false (fun z => by cases z) fp_X10_44 o1 dX10_skip_33 ?_
      refine nmE (fun M7 e8 => ?_)
      replace h := h M7 e8
      have o9 : isO M7 a0 [10] := by rw [e8]; exact o1
      have p10 : mP M7 a0 8 = some b3 := by rw [e8]; exact p4
      refine e_iconst (v := 1) C dX10_skip_36 (by decide) ?_
      exact e_zret C hr rfl hlk (Nat.le_refl _) (Nat.le_refl _) dX10_skip_37 ⟨true, rfl, h⟩
    · replace h := ite_f h q6
      refine e_iconst (v := 0) C dX10_skip_24 (by decide) ?_
      exact e_zret C hr rfl hlk (Nat.le_refl _) (Nat.le_refl _) dX10_skip_25 ⟨false, rfl, h⟩
theorem m_X10_skip  {a0 : Nat} {x1 : Int32} {M : Mem} {Q : Bool → Mem → Prop} (h : f_X10_skip a0 x1 M Q) : Con yX10_skip cX10_skip 2 (some .boolean) 1 0 0 [.ref a0, .int x1] M (rZ Q) :=
  con_of2 (al := [(0, .ref a0), (1, .int x1)]) (by decide) (by exact Nat.le_of_ble_eq_true rfl) (by rfl) (fun p l e s m args below meth c g C hr hlk _ => w_X10_skip C hr hlk h)
set_option maxHeartbeats 4000000 in
set_option maxRecDepth 100000 in
theorem w_X10_word_B2 {p : Program} {l : Launch} {e : Env} {s : State} {m : MethodId} {args : Array Value} {below : List Frame} {meth : Method} {c : Code} {g : Geo} (C : Cx p s m args c cX10_word RX10 3 g) (hr : meth.sig.returnType = (some .boolean)) (hlk : meth.locks = false) {a0 : Nat} {s1 : Nat} {v2 : Int32} {M : Mem} {K2 : Int32 × Mem → Prop} {Q : Bool → Mem → Prop} (hK2 : ∀ z : Int32 × Mem, K2 z → E p l e (rmO 5 0 0) s m args below meth c g 3 (MQ below (QcM g (rZ Q)) args s 0 0 (gA g)) 0 0 2 [(0, .ref a0), (1, .retAddr s1), (2, .int z.1)] [] (z.2)) (h : f_X10_word_B2 a0 s1 v2 M K2 Q) : E p l e (rmO 5 0 0) s m args below meth c g 3 (MQ below (QcM g (rZ Q)) args s 0 0 (gA g)) 0 0 2 [(0, .ref a0), (1, .retAddr s1), (2, .int v2)] [] M := by
  unfold f_X10_word_B2 at h
  refine e_iload_n C 2 dX10_word_2 rfl rfl ?_
  refine e_sload_n C 1 dX10_word_3 rfl rfl ?_
  obtain ⟨o1, h⟩ := h
  refine e_callStr (as := []) C o1 wb_J0_length_8abf5 wv_X10_121 rfl (m_J0_length_8abf5 h) rfl ⟨Nat.le_of_ble_eq_true rfl, Nat.le_of_ble_eq_true rfl⟩ ⟨Nat.le_of_ble_eq_true rfl, Nat.le_of_ble_eq_true rfl⟩ (by first | exact Nat.le_of_ble_eq_true rfl | (simp only [List.map_cons, List.map_nil, va_cat, List.sum_cons, List.sum_nil]; exact Nat.le_of_ble_eq_true rfl)) dX10_word_4 (kI (fun w2 M3 h14 => ?_))
  refine e_icmp_ge (tgt := 30) C dX10_word_7 (by decide) (fun q4 => ?_) (fun q4 => ?_)
  · replace h14 := ite_t h14 q4
    refine e_iconst (v := 1) C dX10_word_30 (by decide) ?_
    exact e_zret C hr rfl hlk (Nat.le_refl _) (Nat.le_refl _) dX10_word_31 ⟨true, rfl, h14⟩
  · replace h14 := ite_f h14 q4
    refine e_aload_n C 0 dX10_word_10 rfl rfl ?_
    refine e_sload_n C 1 dX10_word_11 rfl rfl ?_
    refine e_iload_n C 2 dX10_word_12 rfl rfl ?_
    obtain ⟨o5, h14⟩ := h14
    refine e_callStr (as := [.int v2]) C o5 wb_J0_charAt_5068e wv_X10_125 rfl (m_J0_charAt_5068e h14) rfl ⟨Nat.le_of_ble_eq_true rfl, Nat.le_of_ble_eq_true rfl⟩ ⟨Nat.le_of_ble_eq_true rfl, Nat.le_of_ble_eq_true rfl⟩ (by first | exact Nat.le_of_ble_eq_true rfl | (simp only [List.map_cons, List.map_nil, va_cat, List.sum_cons, List.sum_nil]; exact Nat.le_of_ble_eq_true rfl)) dX10_word_13 (kI (fun w6 M7 h13 => ?_))
    obtain ⟨o10, h13⟩ := h13
    refine e_callV (as := [.int w6]) C wb_X10_skip wv_X10_47 (ci := 10) rfl rfl (isO_1 o10) (m_X10_skip h13) rfl ⟨Nat.le_of_ble_eq_true rfl, Nat.le_of_ble_eq_true rfl⟩ ⟨Nat.le_of_ble_eq_true rfl, Nat.le_of_ble_eq_true rfl⟩ (by first | exact Nat.le_of_ble_eq_true rfl | (simp only [List.map_cons, List.map_nil, va_cat, List.sum_cons, List.sum_nil]; exact Nat.le_of_ble_eq_true rfl)) dX10_word_16 (kZ (fun w8 M9 h12 => ?_))
    refine e_if_ne (tgt := 24) C dX10_word_19 (by decide) (fun q11 => ?_) (fun q11 => ?_)
    · replace h12 := ite_t h12 (bi_t q11)
      refine e_iinc (v := (v2 + 1)) (al' := [(2, .int (v2 + 1)), (0, .ref a0), (1, .retAddr s1)]) C 2 dX10_word_24 rfl rfl (by decide) rfl ?_
      refine e_goto (tgt := 2) C dX10_word_27 (by decide) ?_
      refine e_pick [1, 2, 0] rfl ?_
      exact hK2 ((v2 + 1), M9) h12
    · replace h12 := ite_f h12 (bi_ne q11)
      refine e_iconst (v := 0) C dX10_word_22 (by decide) ?_
      exact e_zret C hr rfl hlk (Nat.le_refl _) (Nat.le_refl _) dX10_word_23 ⟨false, rfl, h12⟩
set_option maxHeartbeats 4000000 in
set_option maxRecDepth 100000 in
theorem w_X10_word_L2 {p : Program} {l : Launch} {e : Env} {s : State} {m : MethodId} {args : Array Value} {below : List Frame} {meth : Method} {c : Code} {g : Geo} (C : Cx p s m args c cX10_word RX10 3 g) (hr : meth.sig.returnType = (some .boolean)) (hlk : meth.locks = false) {a0 : Nat} {s1 : Nat} {v2 : Int32} {M : Mem} {Q : Bool → Mem → Prop} (h : f_X10_word_L2 a0 s1 v2 M Q) : E p l e (rmO 5 0 0) s m args below meth c g 3 (MQ below (QcM g (rZ Q)) args s 0 0 (gA g)) 0 0 2 [(0, .ref a0), (1, .retAddr s1), (2, .int v2)] [] M := by
  unfold f_X10_word_L2 at h
  refine loop_E (W := fun z : Int32 × Mem => E p l e (rmO 5 0 0) s m args below meth c g 3 (MQ below (QcM g (rZ Q)) args s 0 0 (gA g)) 0 0 2 [(0, .ref a0), (1, .retAddr s1), (2, .int z.1)] [] (z.2)) h (fun K z hK h => ?_)
  exact w_X10_word_B2 C hr hlk hK h
set_option maxHeartbeats 4000000 in
set_option maxRecDepth 100000 in
theorem w_X10_word {p : Program} {l : Launch} {e : Env} {s : State} {m : MethodId} {args : Array Value} {below : List Frame} {meth : Method} {c : Code} {g : Geo} (C : Cx p s m args c cX10_word RX10 3 g) (hr : meth.sig.returnType = (some .boolean)) (hlk : meth.locks = false) {a0 : Nat} {s1 : Nat} {M : Mem} {Q : Bool → Mem → Prop} (h : f_X10_word a0 s1 M Q) : E p l e (rmO 5 0 0) s m args below meth c g 3 (MQ below (QcM g (rZ Q)) args s 0 0 (gA g)) 0 0 0 [(0, .ref a0), (1, .retAddr s1)] [] M := by
  unfold f_X10_word at h
  refine e_iconst (v := 0) C dX10_word_0 (by decide) ?_
  refine e_istore_n (al' := [(2, .int (0 : Int32)), (0, .ref a0), (1, .retAddr s1)]) C dX10_word_1 rfl (by decide) rfl ?_
  refine e_pick [1, 2, 0] rfl ?_
  exact w_X10_word_L2 C hr hlk h
theorem m_X10_word  {a0 : Nat} {s1 : Nat} {M : Mem} {Q : Bool → Mem → Prop} (h : f_X10_word a0 s1 M Q) : Con yX10_word cX10_word 3 (some .boolean) 5 0 0 [.ref a0, .retAddr s1] M (rZ Q) :=
  con_of2 (al := [(0, .ref a0), (1, .retAddr s1)]) (by decide) (by exact Nat.le_of_ble_eq_true rfl) (by rfl) (fun p l e s m args below meth c g C hr hlk _ => w_X10_word C hr hlk h)
set_option maxHeartbeats 4000000 in
set_option maxRecDepth 100000 in
theorem w_X10_digit {p : Program} {l : Launch} {e : Env} {s : State} {m : MethodId} {args : Array Value} {below : List Frame} {meth : Method} {c : Code} {g : Geo} (C : Cx p s m args c cX10_digit RX10 1 g) (hr : meth.sig.returnType = (some .int)) (hlk : meth.locks = false) {a0 : Nat} {M : Mem} {Q : Int32 → Mem → Prop} (h : f_X10_digit a0 M Q) : E p l e (rmO 1 0 0) s m args below meth c g 1 (MQ below (QcM g (rI Q)) args s 0 0 (gA g)) 0 0 0 [(0, .ref a0)] [] M := by
  unfold f_X10_digit at h
  refine e_aload_n C 0 dX10_digit_0 rfl rfl ?_
  obtain ⟨o1, h⟩ := h
  refine e_getI C [10] 10 (fg_of fg_X10_44) o1 dX10_digit_1 ?_
  refine e_aload_n C 0 dX10_digit_4 rfl rfl ?_
  refine e_getI C [10] 9 (fg_of fg_X10_41) o1 dX10_digit_5 ?_
  refine e_icmp_ge (tgt := 39) C dX10_digit_8 (by decide) (fun q2 => ?_) (fun q2 => ?_)
  · replace h := ite_t h q2
    refine e_iconst (v := -1) C dX10_digit_39 (by decide) ?_
    exact e_iret C hr hlk (Nat.le_refl _) (Nat.le_refl _) dX10_digit_40 ⟨_, rfl, h⟩
  · replace h := ite_f h q2
    refine e_aload_n C 0 dX10_digit_11 rfl rfl ?_
    refine e_getR C [10] 8 (fg_of fg_X10_37) o1 dX10_digit_12 ?_
    refine e_aload_n C 0 dX10_digit_15 rfl rfl ?_
    refine e_getI C [10] 10 (fg_of fg_X10_44) o1 dX10_digit_16 ?_
    obtain ⟨b3, p4, h⟩ := h
    try rw [p4]
    obtain ⟨o5, h⟩ := h
    refine e_bald C o5 dX10_digit_19 ?_
    refine e_bipush (v := 48) C dX10_digit_20 (by decide) ?_
    refine e_icmp_lt (tgt := 39) C dX10_digit_22 (by decide) (fun q6 => ?_) (fun q6 => ?_)
    · replace h := ite_t h q6
      refine e_iconst (v := -1) C dX10_digit_39 (by decide) ?_
      exact e_iret C hr hlk (Nat.le_refl _) (Nat.le_refl _) dX10_digit_40 ⟨_, rfl, h⟩
    · replace h := ite_f h q6
      refine e_aload_n C 0 dX10_digit_25 rfl rfl ?_
      refine e_getR C [10] 8 (fg_of fg_X10_37) o1 dX10_digit_26 ?_
      rw [p4]
      refine e_aload_n C 0 dX10_digit_29 rfl rfl ?_
      refine e_getI C [10] 10 (fg_of fg_X10_44) o1 dX10_digit_30 ?_
      obtain ⟨o7, h⟩ := h
      refine e_bald C o7 dX10_digit_33 ?_
      refine e_bipush (v := 57) C dX10_digit_34 (by decide) ?_
      refine e_icmp_le (tgt := 41) C dX10_digit_36 (by decide) (fun q8 => ?_) (fun q8 => ?_)
      · replace h := ite_t h q8
        refine e_aload_n C 0 dX10_digit_41 rfl rfl ?_
        refine e_getR C [10] 8 (fg_of fg_X10_37) o1 dX10_digit_42 ?_
        rw [p4]
        refine e_aload_n C 0 dX10_digit_45 rfl rfl ?_
        refine e_getI C [10] 10 (fg_of fg_X10_44) o1 dX10_digit_46 ?_
        obtain ⟨o9, h⟩ := h
        refine e_bald C o9 dX10_digit_49 ?_
        refine e_bipush (v := 48) C dX10_digit_50 (by decide) ?_
        refine e_isub C dX10_digit_52 ?_
        exact e_iret C hr hlk (Nat.le_refl _) (Nat.le_refl _) dX10_digit_53 ⟨_, rfl, h⟩
      · replace h := ite_f h q8
        refine e_iconst (v := -1) C dX10_digit_39 (by decide) ?_
        exact e_iret C hr hlk (Nat.le_refl _) (Nat.le_refl _) dX10_digit_40 ⟨_, rfl, h⟩
theorem m_X10_digit  {a0 : Nat} {M : Mem} {Q : Int32 → Mem → Prop} (h : f_X10_digit a0 M Q) : Con yX10_digit cX10_digit 1 (some .int) 1 0 0 [.ref a0] M (rI Q) :=
  con_of2 (al := [(0, .ref a0)]) (by decide) (by exact Nat.le_of_ble_eq_true rfl) (by rfl) (fun p l e s m args below meth c g C hr hlk _ => w_X10_digit C hr hlk h)
set_option maxHeartbeats 4000000 in
set_option maxRecDepth 100000 in
theorem w_X10_step {p : Program} {l : Launch} {e : Env} {s : State} {m : MethodId} {args : Array Value} {below : List Frame} {meth : Method} {c : Code} {g : Geo} (C : Cx p s m args c cX10_step RX10 2 g) (hr : meth.sig.returnType = none) (hlk : meth.locks = false) {a0 : Nat} {x1 : Int32} {M : Mem} {Q : Mem → Prop} (h : f_X10_step a0 x1 M Q) : E p l e (rmO 1 0 0) s m args below meth c g 2 (MQ below (QcM g (rV Q)) args s 0 0 (gA g)) 0 0 0 [(0, .ref a0), (1, .int x1)] [] M := by
  unfold f_X10_step at h
  refine e_aload_n C 0 dX10_step_0 rfl rfl ?_
  obtain ⟨o1, h⟩ := h
  refine e_getI C [10] 7 (fg_of fg_X10_34) o1 dX10_step_1 ?_
  refine e_bipush (v := 100) C dX10_step_4 (by decide) ?_
  refine e_icmp_ge (tgt := 29) C dX10_step_6 (by decide) (fun q2 => ?_) (fun q2 => ?_)
  · replace h := ite_t h q2
    exact e_vret C hr hlk (Nat.le_refl _) (Nat.le_refl _) dX10_step_29 ⟨rfl, h⟩
  · replace h := ite_f h q2
    refine e_aload_n C 0 dX10_step_9 rfl rfl ?_
    refine e_getR C [10] 6 (fg_of fg_X10_22) o1 dX10_step_10 ?_
    refine e_aload_n C 0 dX10_step_13 rfl rfl ?_
    refine e_getI C [10] 7 (fg_of fg_X10_34) o1 dX10_step_14 ?_
    refine e_iload_n C 1 dX10_step_17 rfl rfl ?_
    obtain ⟨b3, p4, h⟩ := h
    try rw [p4]
    obtain ⟨o5, h⟩ := h
    refine e_iast C o5 dX10_step_18 ?_
    refine nmE (fun M6 e7 => ?_)
    replace h := h M6 e7
    have o8 : isO M6 a0 [10] := by rw [e7]; exact o1
    have p9 : mP M6 a0 6 = some b3 := by rw [e7]; exact p4
    refine e_aload_n C 0 dX10_step_19 rfl rfl ?_
    refine e_dup C rfl dX10_step_20 ?_
    refine e_getI C [10] 7 (fg_of fg_X10_34) o8 dX10_step_21 ?_
    refine e_iconst (v := 1) C dX10_step_24 (by decide) ?_
    refine e_iadd C dX10_step_25 ?_
    refine e_putI C [10] 7 false (fun z => by cases z) fp_X10_34 o8 dX10_step_26 ?_
    refine nmE (fun M10 e11 => ?_)
    replace h := h M10 e11
    have o12 : isO M10 a0 [10] := by rw [e11]; exact o8
    have p13 : mP M10 a0 6 = some b3 := by rw [e11]; exact p9
    exact e_vret C hr hlk (Nat.le_refl _) (Nat.le_refl _) dX10_step_29 ⟨rfl, h⟩
theorem m_X10_step  {a0 : Nat} {x1 : Int32} {M : Mem} {Q : Mem → Prop} (h : f_X10_step a0 x1 M Q) : Con yX10_step cX10_step 2 none 1 0 0 [.ref a0, .int x1] M (rV Q) :=
  con_of2 (al := [(0, .ref a0), (1, .int x1)]) (by decide) (by exact Nat.le_of_ble_eq_true rfl) (by rfl) (fun p l e s m args below meth c g C hr hlk _ => w_X10_step C hr hlk h)
set_option maxHeartbeats 4000000 in
set_option maxRecDepth 100000 in
theorem w_X10_oneOf_B2 {p : Program} {l : Launch} {e : Env} {s : State} {m : MethodId} {args : Array Value} {below : List Frame} {meth : Method} {c : Code} {g : Geo} (C : Cx p s m args c cX10_oneOf RX10 3 g) (hr : meth.sig.returnType = (some .int)) (hlk : meth.locks = false) {a0 : Nat} {s1 : Nat} {v2 : Int32} {M : Mem} {K2 : Int32 × Mem → Prop} {Q : Int32 → Mem → Prop} (hK2 : ∀ z : Int32 × Mem, K2 z → E p l e (rmO 5 0 0) s m args below meth c g 3 (MQ below (QcM g (rI Q)) args s 0 0 (gA g)) 0 0 2 [(0, .ref a0), (1, .retAddr s1), (2, .int z.1)] [] (z.2)) (h : f_X10_oneOf_B2 a0 s1 v2 M K2 Q) : E p l e (rmO 5 0 0) s m args below meth c g 3 (MQ below (QcM g (rI Q)) args s 0 0 (gA g)) 0 0 2 [(0, .ref a0), (1, .retAddr s1), (2, .int v2)] [] M := by
  unfold f_X10_oneOf_B2 at h
  refine e_iload_n C 2 dX10_oneOf_2 rfl rfl ?_
  refine e_sload_n C 1 dX10_oneOf_3 rfl rfl ?_
  obtain ⟨o1, h⟩ := h
  refine e_callStr (as := []) C o1 wb_J0_length_8abf5 wv_X10_121 rfl (m_J0_length_8abf5 h) rfl ⟨Nat.le_of_ble_eq_true rfl, Nat.le_of_ble_eq_true rfl⟩ ⟨Nat.le_of_ble_eq_true rfl, Nat.le_of_ble_eq_true rfl⟩ (by first | exact Nat.le_of_ble_eq_true rfl | (simp only [List.map_cons, List.map_nil, va_cat, List.sum_cons, List.sum_nil]; exact Nat.le_of_ble_eq_true rfl)) dX10_oneOf_4 (kI (fun w2 M3 h14 => ?_))
  refine e_icmp_ge (tgt := 30) C dX10_oneOf_7 (by decide) (fun q4 => ?_) (fun q4 => ?_)
  · replace h14 := ite_t h14 q4
    refine e_iconst (v := -1) C dX10_oneOf_30 (by decide) ?_
    exact e_iret C hr hlk (Nat.le_refl _) (Nat.le_refl _) dX10_oneOf_31 ⟨_, rfl, h14⟩
  · replace h14 := ite_f h14 q4
    refine e_aload_n C 0 dX10_oneOf_10 rfl rfl ?_
    refine e_sload_n C 1 dX10_oneOf_11 rfl rfl ?_
    refine e_iload_n C 2 dX10_oneOf_12 rfl rfl ?_
    obtain ⟨o5, h14⟩ := h14
    refine e_callStr (as := [.int v2]) C o5 wb_J0_charAt_5068e wv_X10_125 rfl (m_J0_charAt_5068e h14) rfl ⟨Nat.le_of_ble_eq_true rfl, Nat.le_of_ble_eq_true rfl⟩ ⟨Nat.le_of_ble_eq_true rfl, Nat.le_of_ble_eq_true rfl⟩ (by first | exact Nat.le_of_ble_eq_true rfl | (simp only [List.map_cons, List.map_nil, va_cat, List.sum_cons, List.sum_nil]; exact Nat.le_of_ble_eq_true rfl)) dX10_oneOf_13 (kI (fun w6 M7 h13 => ?_))
    obtain ⟨o10, h13⟩ := h13
    refine e_callV (as := [.int w6]) C wb_X10_skip wv_X10_47 (ci := 10) rfl rfl (isO_1 o10) (m_X10_skip h13) rfl ⟨Nat.le_of_ble_eq_true rfl, Nat.le_of_ble_eq_true rfl⟩ ⟨Nat.le_of_ble_eq_true rfl, Nat.le_of_ble_eq_true rfl⟩ (by first | exact Nat.le_of_ble_eq_true rfl | (simp only [List.map_cons, List.map_nil, va_cat, List.sum_cons, List.sum_nil]; exact Nat.le_of_ble_eq_true rfl)) dX10_oneOf_16 (kZ (fun w8 M9 h12 => ?_))
    refine e_if_eq (tgt := 24) C dX10_oneOf_19 (by decide) (fun q11 => ?_) (fun q11 => ?_)
    · replace h12 := ite_f h12 (bi_ne q11)
      refine e_iinc (v := (v2 + 1)) (al' := [(2, .int (v2 + 1)), (0, .ref a0), (1, .retAddr s1)]) C 2 dX10_oneOf_24 rfl rfl (by decide) rfl ?_
      refine e_goto (tgt := 2) C dX10_oneOf_27 (by decide) ?_
      refine e_pick [1, 2, 0] rfl ?_
      exact hK2 ((v2 + 1), M9) h12
    · replace h12 := ite_t h12 (bi_t q11)
      refine e_iload_n C 2 dX10_oneOf_22 rfl rfl ?_
      exact e_iret C hr hlk (Nat.le_refl _) (Nat.le_refl _) dX10_oneOf_23 ⟨_, rfl, h12⟩
set_option maxHeartbeats 4000000 in
set_option maxRecDepth 100000 in
theorem w_X10_oneOf_L2 {p : Program} {l : Launch} {e : Env} {s : State} {m : MethodId} {args : Array Value} {below : List Frame} {meth : Method} {c : Code} {g : Geo} (C : Cx p s m args c cX10_oneOf RX10 3 g) (hr : meth.sig.returnType = (some .int)) (hlk : meth.locks = false) {a0 : Nat} {s1 : Nat} {v2 : Int32} {M : Mem} {Q : Int32 → Mem → Prop} (h : f_X10_oneOf_L2 a0 s1 v2 M Q) : E p l e (rmO 5 0 0) s m args below meth c g 3 (MQ below (QcM g (rI Q)) args s 0 0 (gA g)) 0 0 2 [(0, .ref a0), (1, .retAddr s1), (2, .int v2)] [] M := by
  unfold f_X10_oneOf_L2 at h
  refine loop_E (W := fun z : Int32 × Mem => E p l e (rmO 5 0 0) s m args below meth c g 3 (MQ below (QcM g (rI Q)) args s 0 0 (gA g)) 0 0 2 [(0, .ref a0), (1, .retAddr s1), (2, .int z.1)] [] (z.2)) h (fun K z hK h => ?_)
  exact w_X10_oneOf_B2 C hr hlk hK h
set_option maxHeartbeats 4000000 in
set_option maxRecDepth 100000 in
theorem w_X10_oneOf {p : Program} {l : Launch} {e : Env} {s : State} {m : MethodId} {args : Array Value} {below : List Frame} {meth : Method} {c : Code} {g : Geo} (C : Cx p s m args c cX10_oneOf RX10 3 g) (hr : meth.sig.returnType = (some .int)) (hlk : meth.locks = false) {a0 : Nat} {s1 : Nat} {M : Mem} {Q : Int32 → Mem → Prop} (h : f_X10_oneOf a0 s1 M Q) : E p l e (rmO 5 0 0) s m args below meth c g 3 (MQ below (QcM g (rI Q)) args s 0 0 (gA g)) 0 0 0 [(0, .ref a0), (1, .retAddr s1)] [] M := by
  unfold f_X10_oneOf at h
  refine e_iconst (v := 0) C dX10_oneOf_0 (by decide) ?_
  refine e_istore_n (al' := [(2, .int (0 : Int32)), (0, .ref a0), (1, .retAddr s1)]) C dX10_oneOf_1 rfl (by decide) rfl ?_
  refine e_pick [1, 2, 0] rfl ?_
  exact w_X10_oneOf_L2 C hr hlk h
theorem m_X10_oneOf  {a0 : Nat} {s1 : Nat} {M : Mem} {Q : Int32 → Mem → Prop} (h : f_X10_oneOf a0 s1 M Q) : Con yX10_oneOf cX10_oneOf 3 (some .int) 5 0 0 [.ref a0, .retAddr s1] M (rI Q) :=
  con_of2 (al := [(0, .ref a0), (1, .retAddr s1)]) (by decide) (by exact Nat.le_of_ble_eq_true rfl) (by rfl) (fun p l e s m args below meth c g C hr hlk _ => w_X10_oneOf C hr hlk h)
set_option maxHeartbeats 4000000 in
set_option maxRecDepth 100000 in
theorem w_X10_number {p : Program} {l : Launch} {e : Env} {s : State} {m : MethodId} {args : Array Value} {below : List Frame} {meth : Method} {c : Code} {g : Geo} (C : Cx p s m args c cX10_number RX10 3 g) (hr : meth.sig.returnType = (some .int)) (hlk : meth.locks = false) {a0 : Nat} {M : Mem} {Q : Int32 → Mem → Prop} (h : f_X10_number a0 M Q) : E p l e (rmO 2 0 0) s m args below meth c g 3 (MQ below (QcM g (rI Q)) args s 0 0 (gA g)) 0 0 0 [(0, .ref a0)] [] M := by
  unfold f_X10_number at h
  refine e_aload_n C 0 dX10_number_0 rfl rfl ?_
  obtain ⟨o3, h⟩ := h
  refine e_callV (as := []) C wb_X10_digit wv_X10_72 (ci := 10) rfl rfl (isO_1 o3) (m_X10_digit h) rfl ⟨Nat.le_of_ble_eq_true rfl, Nat.le_of_ble_eq_true rfl⟩ ⟨Nat.le_of_ble_eq_true rfl, Nat.le_of_ble_eq_true rfl⟩ (by first | exact Nat.le_of_ble_eq_true rfl | (simp only [List.map_cons, List.map_nil, va_cat, List.sum_cons, List.sum_nil]; exact Nat.le_of_ble_eq_true rfl)) dX10_number_1 (kI (fun w1 M2 h17 => ?_))
  refine e_istore_n (al' := [(1, .int w1), (0, .ref a0)]) C dX10_number_4 rfl (by decide) rfl ?_
  refine e_iload_n C 0 dX10_number_5 rfl rfl ?_
  refine e_if_ge (tgt := 11) C dX10_number_6 (by decide) (fun q4 => ?_) (fun q4 => ?_)
  · replace h17 := ite_t h17 q4
    refine e_aload_n C 1 dX10_number_11 rfl rfl ?_
    refine e_dup C rfl dX10_number_12 ?_
    obtain ⟨o5, h17⟩ := h17
    refine e_getI C [10] 10 (fg_of fg_X10_44) o5 dX10_number_13 ?_
    refine e_iconst (v := 1) C dX10_number_16 (by decide) ?_
    refine e_iadd C dX10_number_17 ?_
    refine e_putI C [10] 10 false (fun z => by cases z) fp_X10_44 o5 dX10_number_18 ?_
    refine nmE (fun M6 e7 => ?_)
    replace h17 := h17 M6 e7
    have o8 : isO M6 a0 [10] := by rw [e7]; exact o5
    refine e_aload_n C 1 dX10_number_21 rfl rfl ?_
    refine e_callV (as := []) C wb_X10_digit wv_X10_72 (ci := 10) rfl rfl (isO_1 o8) (m_X10_digit h17) rfl ⟨Nat.le_of_ble_eq_true rfl, Nat.le_of_ble_eq_true rfl⟩ ⟨Nat.le_of_ble_eq_true rfl, Nat.le_of_ble_eq_true rfl⟩ (by first | exact Nat.le_of_ble_eq_true rfl | (simp only [List.map_cons, List.map_nil, va_cat, List.sum_cons, List.sum_nil]; exact Nat.le_of_ble_eq_true rfl)) dX10_number_22 (kI (fun w9 M10 h16 => ?_))
    refine e_istore_n (al' := [(2, .int w9), (1, .int w1), (0, .ref a0)]) C dX10_number_25 rfl (by decide) rfl ?_
    refine e_iload_n C 0 dX10_number_26 rfl rfl ?_
    refine e_if_ge (tgt := 32) C dX10_number_27 (by decide) (fun q11 => ?_) (fun q11 => ?_)
    · replace h16 := ite_t h16 q11
      refine e_aload_n C 2 dX10_number_32 rfl rfl ?_
      refine e_dup C rfl dX10_number_33 ?_
      obtain ⟨o12, h16⟩ := h16
      refine e_getI C [10] 10 (fg_of fg_X10_44) o12 dX10_number_34 ?_
      refine e_iconst (v := 1) C dX10_number_37 (by decide) ?_
      refine e_iadd C dX10_number_38 ?_
      refine e_putI C [10] 10 false (fun z => by cases z) fp_X10_44 o12 dX10_number_39 ?_
      refine nmE (fun M13 e14 => ?_)
      replace h16 := h16 M13 e14
      have o15 : isO M13 a0 [10] := by rw [e14]; exact o12
      refine e_iload_n C 1 dX10_number_42 rfl rfl ?_
      refine e_bipush (v := 10) C dX10_number_43 (by decide) ?_
      refine e_imul C dX10_number_45 ?_
      refine e_iload_n C 0 dX10_number_46 rfl rfl ?_
      refine e_iadd C dX10_number_47 ?_
      exact e_iret C hr hlk (Nat.le_refl _) (Nat.le_refl _) dX10_number_48 ⟨_, rfl, h16⟩
    · replace h16 := ite_f h16 q11
      refine e_iload_n C 1 dX10_number_30 rfl rfl ?_
      exact e_iret C hr hlk (Nat.le_refl _) (Nat.le_refl _) dX10_number_31 ⟨_, rfl, h16⟩
  · replace h17 := ite_f h17 q4
    refine e_iconst (v := -1) C dX10_number_9 (by decide) ?_
    exact e_iret C hr hlk (Nat.le_refl _) (Nat.le_refl _) dX10_number_10 ⟨_, rfl, h17⟩
theorem m_X10_number  {a0 : Nat} {M : Mem} {Q : Int32 → Mem → Prop} (h : f_X10_number a0 M Q) : Con yX10_number cX10_number 3 (some .int) 2 0 0 [.ref a0] M (rI Q) :=
  con_of2 (al := [(0, .ref a0)]) (by decide) (by exact Nat.le_of_ble_eq_true rfl) (by rfl) (fun p l e s m args below meth c g C hr hlk _ => w_X10_number C hr hlk h)
set_option maxHeartbeats 4000000 in
set_option maxRecDepth 100000 in
theorem w_X10_test {p : Program} {l : Launch} {e : Env} {s : State} {m : MethodId} {args : Array Value} {below : List Frame} {meth : Method} {c : Code} {g : Geo} (C : Cx p s m args c cX10_test RX10 4 g) (hr : meth.sig.returnType = (some .boolean)) (hlk : meth.locks = false) {a0 : Nat} {M : Mem} {Q : Bool → Mem → Prop} (h : f_X10_test a0 M Q) : E p l e (rmO 6 0 0) s m args below meth c g 4 (MQ below (QcM g (rZ Q)) args s 0 0 (gA g)) 0 0 0 [(0, .ref a0)] [] M := by
  unfold f_X10_test at h
  refine e_aload_n C 0 dX10_test_0 rfl rfl ?_
  refine e_ldcS C 1 (by decide) rfl dX10_test_1 ?_
  obtain ⟨o3, h⟩ := h
  refine e_callV (as := [.retAddr 1]) C wb_X10_oneOf wv_X10_115 (ci := 10) rfl rfl (isO_1 o3) (m_X10_oneOf h) rfl ⟨Nat.le_of_ble_eq_true rfl, Nat.le_of_ble_eq_true rfl⟩ ⟨Nat.le_of_ble_eq_true rfl, Nat.le_of_ble_eq_true rfl⟩ (by first | exact Nat.le_of_ble_eq_true rfl | (simp only [List.map_cons, List.map_nil, va_cat, List.sum_cons, List.sum_nil]; exact Nat.le_of_ble_eq_true rfl)) dX10_test_3 (kI (fun w1 M2 h19 => ?_))
  refine e_istore_n (al' := [(1, .int w1), (0, .ref a0)]) C dX10_test_6 rfl (by decide) rfl ?_
  refine e_iload_n C 0 dX10_test_7 rfl rfl ?_
  refine e_if_ge (tgt := 13) C dX10_test_8 (by decide) (fun q4 => ?_) (fun q4 => ?_)
  · replace h19 := ite_t h19 q4
    refine e_aload_n C 1 dX10_test_13 rfl rfl ?_
    refine e_ldcS C 2 (by decide) rfl dX10_test_14 ?_
    obtain ⟨o7, h19⟩ := h19
    refine e_callV (as := [.retAddr 2]) C wb_X10_oneOf wv_X10_115 (ci := 10) rfl rfl (isO_1 o7) (m_X10_oneOf h19) rfl ⟨Nat.le_of_ble_eq_true rfl, Nat.le_of_ble_eq_true rfl⟩ ⟨Nat.le_of_ble_eq_true rfl, Nat.le_of_ble_eq_true rfl⟩ (by first | exact Nat.le_of_ble_eq_true rfl | (simp only [List.map_cons, List.map_nil, va_cat, List.sum_cons, List.sum_nil]; exact Nat.le_of_ble_eq_true rfl)) dX10_test_16 (kI (fun w5 M6 h18 => ?_))
    refine e_istore_n (al' := [(2, .int w5), (1, .int w1), (0, .ref a0)]) C dX10_test_19 rfl (by decide) rfl ?_
    refine e_iload_n C 0 dX10_test_20 rfl rfl ?_
    refine e_if_ge (tgt := 26) C dX10_test_21 (by decide) (fun q8 => ?_) (fun q8 => ?_)
    · replace h18 := ite_t h18 q8
      refine e_aload_n C 2 dX10_test_26 rfl rfl ?_
      obtain ⟨o11, h18⟩ := h18
      refine e_callV (as := []) C wb_X10_number wv_X10_83 (ci := 10) rfl rfl (isO_1 o11) (m_X10_number h18) rfl ⟨Nat.le_of_ble_eq_true rfl, Nat.le_of_ble_eq_true rfl⟩ ⟨Nat.le_of_ble_eq_true rfl, Nat.le_of_ble_eq_true rfl⟩ (by first | exact Nat.le_of_ble_eq_true rfl | (simp only [List.map_cons, List.map_nil, va_cat, List.sum_cons, List.sum_nil]; exact Nat.le_of_ble_eq_true rfl)) dX10_test_27 (kI (fun w9 M10 h17 => ?_))
      refine e_istore_n (al' := [(3, .int w9), (2, .int w5), (1, .int w1), (0, .ref a0)]) C dX10_test_30 rfl (by decide) rfl ?_
      refine e_iload_n C 0 dX10_test_31 rfl rfl ?_
      refine e_if_ge (tgt := 37) C dX10_test_32 (by decide) (fun q12 => ?_) (fun q12 => ?_)
      · replace h17 := ite_t h17 q12
        refine e_aload_n C 3 dX10_test_37 rfl rfl ?_
        refine e_iload_n C 2 dX10_test_38 rfl rfl ?_
        refine e_iconst (v := 3) C dX10_test_39 (by decide) ?_
        refine e_imul C dX10_test_40 ?_
        refine e_iload_n C 1 dX10_test_41 rfl rfl ?_
        refine e_iadd C dX10_test_42 ?_
        refine e_bipush (v := 100) C dX10_test_43 (by decide) ?_
        refine e_imul C dX10_test_45 ?_
        refine e_iload_n C 0 dX10_test_46 rfl rfl ?_
        refine e_iadd C dX10_test_47 ?_
        obtain ⟨o15, h17⟩ := h17
        refine e_callV (as := [.int ((((w1 * (3 : Int32)) + w5) * (100 : Int32)) + w9)]) C wb_X10_step wv_X10_103 (ci := 10) rfl rfl (isO_1 o15) (m_X10_step h17) rfl ⟨Nat.le_of_ble_eq_true rfl, Nat.le_of_ble_eq_true rfl⟩ ⟨Nat.le_of_ble_eq_true rfl, Nat.le_of_ble_eq_true rfl⟩ (by first | exact Nat.le_of_ble_eq_true rfl | (simp only [List.map_cons, List.map_nil, va_cat, List.sum_cons, List.sum_nil]; exact Nat.le_of_ble_eq_true rfl)) dX10_test_48 (kV (fun M14 h16 => ?_))
        refine e_iconst (v := 1) C dX10_test_51 (by decide) ?_
        exact e_zret C hr rfl hlk (Nat.le_refl _) (Nat.le_refl _) dX10_test_52 ⟨true, rfl, h16⟩
      · replace h17 := ite_f h17 q12
        refine e_iconst (v := 0) C dX10_test_35 (by decide) ?_
        exact e_zret C hr rfl hlk (Nat.le_refl _) (Nat.le_refl _) dX10_test_36 ⟨false, rfl, h17⟩
    · replace h18 := ite_f h18 q8
      refine e_iconst (v := 0) C dX10_test_24 (by decide) ?_
      exact e_zret C hr rfl hlk (Nat.le_refl _) (Nat.le_refl _) dX10_test_25 ⟨false, rfl, h18⟩
  · replace h19 := ite_f h19 q4
    refine e_iconst (v := 0) C dX10_test_11 (by decide) ?_
    exact e_zret C hr rfl hlk (Nat.le_refl _) (Nat.le_refl _) dX10_test_12 ⟨false, rfl, h19⟩
theorem m_X10_test  {a0 : Nat} {M : Mem} {Q : Bool → Mem → Prop} (h : f_X10_test a0 M Q) : Con yX10_test cX10_test 4 (some .boolean) 6 0 0 [.ref a0] M (rZ Q) :=
  con_of2 (al := [(0, .ref a0)]) (by decide) (by exact Nat.le_of_ble_eq_true rfl) (by rfl) (fun p l e s m args below meth c g C hr hlk _ => w_X10_test C hr hlk h)
set_option maxHeartbeats 4000000 in
set_option maxRecDepth 100000 in
theorem w_X10_factor_J73 {d dE dF : Nat} {p : Program} {l : Launch} {e : Env} {s : State} {m : MethodId} {args : Array Value} {below : List Frame} {meth : Method} {c : Code} {g : Geo} (C : Cx p s m args c cX10_factor RX10 2 g) (hr : meth.sig.returnType = (some .boolean)) (hlk : meth.locks = false) {a0 : Nat} {x1 : Int32} {M : Mem} {fE : Nat → Int32 → Mem → (Bool → Mem → Prop) → Prop} {fF : Nat → Int32 → Mem → (Bool → Mem → Prop) → Prop} {Q : Bool → Mem → Prop} (h1 : dE + 1 ≤ d) (h2 : dF + 1 ≤ d) (h3 : 8 ≤ d) (hE : ∀ (a : Nat) (x : Int32) (M : Mem) (Q : Bool → Mem → Prop), fE a x M Q → Con yX10_either cX10_either 3 (some .boolean) dE 0 0 [.ref a, .int x] M (rZ Q)) (hF : ∀ (a : Nat) (x : Int32) (M : Mem) (Q : Bool → Mem → Prop), fF a x M Q → Con yX10_factor cX10_factor 2 (some .boolean) dF 0 0 [.ref a, .int x] M (rZ Q)) (h : f_X10_factor_J73 a0 x1 M fE fF Q) : E p l e (rmO d 0 0) s m args below meth c g 2 (MQ below (QcM g (rZ Q)) args s 0 0 (gA g)) 0 0 73 [(0, .ref a0), (1, .int x1)] [] M := by
  unfold f_X10_factor_J73 at h
  refine e_aload_n C 0 dX10_factor_73 rfl rfl ?_
  obtain ⟨o3, h⟩ := h
  refine e_callV (as := []) C wb_X10_test wv_X10_110 (ci := 10) rfl rfl (isO_1 o3) (m_X10_test h) rfl ⟨by show _ ≤ d; omega, by show _ ≤ 48 * d; omega⟩ ⟨Nat.le_of_ble_eq_true rfl, Nat.le_of_ble_eq_true rfl⟩ (by first | exact Nat.le_of_ble_eq_true rfl | (simp only [List.map_cons, List.map_nil, va_cat, List.sum_cons, List.sum_nil]; exact Nat.le_of_ble_eq_true rfl)) dX10_factor_74 (kZ (fun w1 M2 h4 => ?_))
  exact e_zret C hr (bi_nar _) hlk (Nat.le_refl _) (Nat.le_refl _) dX10_factor_77 ⟨_, rfl, h4⟩
set_option maxHeartbeats 4000000 in
set_option maxRecDepth 100000 in
theorem w_X10_factor_J34 {d dE dF : Nat} {p : Program} {l : Launch} {e : Env} {s : State} {m : MethodId} {args : Array Value} {below : List Frame} {meth : Method} {c : Code} {g : Geo} (C : Cx p s m args c cX10_factor RX10 2 g) (hr : meth.sig.returnType = (some .boolean)) (hlk : meth.locks = false) {a0 : Nat} {x1 : Int32} {M : Mem} {fE : Nat → Int32 → Mem → (Bool → Mem → Prop) → Prop} {fF : Nat → Int32 → Mem → (Bool → Mem → Prop) → Prop} {Q : Bool → Mem → Prop} (h1 : dE + 1 ≤ d) (h2 : dF + 1 ≤ d) (h3 : 8 ≤ d) (hE : ∀ (a : Nat) (x : Int32) (M : Mem) (Q : Bool → Mem → Prop), fE a x M Q → Con yX10_either cX10_either 3 (some .boolean) dE 0 0 [.ref a, .int x] M (rZ Q)) (hF : ∀ (a : Nat) (x : Int32) (M : Mem) (Q : Bool → Mem → Prop), fF a x M Q → Con yX10_factor cX10_factor 2 (some .boolean) dF 0 0 [.ref a, .int x] M (rZ Q)) (h : f_X10_factor_J34 a0 x1 M fE fF Q) : E p l e (rmO d 0 0) s m args below meth c g 2 (MQ below (QcM g (rZ Q)) args s 0 0 (gA g)) 0 0 34 [(0, .ref a0), (1, .int x1)] [] M := by
  unfold f_X10_factor_J34 at h
  refine e_iload_n C 1 dX10_factor_34 rfl rfl ?_
  refine e_iconst (v := 4) C dX10_factor_35 (by decide) ?_
  refine e_icmp_ge (tgt := 73) C dX10_factor_36 (by decide) (fun q1 => ?_) (fun q1 => ?_)
  · replace h := ite_t h q1
    exact w_X10_factor_J73 C hr hlk h1 h2 h3 hE hF h
  · replace h := ite_f h q1
    refine e_aload_n C 0 dX10_factor_39 rfl rfl ?_
    refine e_bipush (v := 40) C dX10_factor_40 (by decide) ?_
    obtain ⟨o4, h⟩ := h
    refine e_callV (as := [.int (40 : Int32)]) C wb_X10_skip wv_X10_47 (ci := 10) rfl rfl (isO_1 o4) (m_X10_skip h) rfl ⟨by show _ ≤ d; omega, by show _ ≤ 48 * d; omega⟩ ⟨Nat.le_of_ble_eq_true rfl, Nat.le_of_ble_eq_true rfl⟩ (by first | exact Nat.le_of_ble_eq_true rfl | (simp only [List.map_cons, List.map_nil, va_cat, List.sum_cons, List.sum_nil]; exact Nat.le_of_ble_eq_true rfl)) dX10_factor_42 (kZ (fun w2 M3 h16 => ?_))
    refine e_if_eq (tgt := 73) C dX10_factor_45 (by decide) (fun q5 => ?_) (fun q5 => ?_)
    · replace h16 := ite_f h16 (bi_ne q5)
      exact w_X10_factor_J73 C hr hlk h1 h2 h3 hE hF h16
    · replace h16 := ite_t h16 (bi_t q5)
      refine e_aload_n C 0 dX10_factor_48 rfl rfl ?_
      refine e_iload_n C 1 dX10_factor_49 rfl rfl ?_
      refine e_iconst (v := 1) C dX10_factor_50 (by decide) ?_
      refine e_iadd C dX10_factor_51 ?_
      obtain ⟨o8, h16⟩ := h16
      refine e_callV (as := [.int (x1 + (1 : Int32))]) C wb_X10_either wv_X10_76 (ci := 10) rfl rfl (isO_1 o8) (hE _ _ _ _ h16) rfl ⟨by show _ ≤ d; omega, by show _ ≤ 48 * d; omega⟩ ⟨Nat.le_of_ble_eq_true rfl, Nat.le_of_ble_eq_true rfl⟩ (by first | exact Nat.le_of_ble_eq_true rfl | (simp only [List.map_cons, List.map_nil, va_cat, List.sum_cons, List.sum_nil]; exact Nat.le_of_ble_eq_true rfl)) dX10_factor_52 (kZ (fun w6 M7 h15 => ?_))
      refine e_if_eq (tgt := 71) C dX10_factor_55 (by decide) (fun q9 => ?_) (fun q9 => ?_)
      · replace h15 := ite_f h15 (bi_ne q9)
        refine e_iconst (v := 0) C dX10_factor_71 (by decide) ?_
        exact e_zret C hr rfl hlk (Nat.le_refl _) (Nat.le_refl _) dX10_factor_72 ⟨false, rfl, h15⟩
      · replace h15 := ite_t h15 (bi_t q9)
        refine e_aload_n C 0 dX10_factor_58 rfl rfl ?_
        refine e_bipush (v := 41) C dX10_factor_59 (by decide) ?_
        obtain ⟨o12, h15⟩ := h15
        refine e_callV (as := [.int (41 : Int32)]) C wb_X10_skip wv_X10_47 (ci := 10) rfl rfl (isO_1 o12) (m_X10_skip h15) rfl ⟨by show _ ≤ d; omega, by show _ ≤ 48 * d; omega⟩ ⟨Nat.le_of_ble_eq_true rfl, Nat.le_of_ble_eq_true rfl⟩ (by first | exact Nat.le_of_ble_eq_true rfl | (simp only [List.map_cons, List.map_nil, va_cat, List.sum_cons, List.sum_nil]; exact Nat.le_of_ble_eq_true rfl)) dX10_factor_61 (kZ (fun w10 M11 h14 => ?_))
        refine e_if_eq (tgt := 71) C dX10_factor_64 (by decide) (fun q13 => ?_) (fun q13 => ?_)
        · replace h14 := ite_f h14 (bi_ne q13)
          refine e_iconst (v := 0) C dX10_factor_71 (by decide) ?_
          exact e_zret C hr rfl hlk (Nat.le_refl _) (Nat.le_refl _) dX10_factor_72 ⟨false, rfl, h14⟩
        · replace h14 := ite_t h14 (bi_t q13)
          refine e_iconst (v := 1) C dX10_factor_67 (by decide) ?_
          refine e_goto (tgt := 72) C dX10_factor_68 (by decide) ?_
          exact e_zret C hr rfl hlk (Nat.le_refl _) (Nat.le_refl _) dX10_factor_72 ⟨true, rfl, h14⟩
set_option maxHeartbeats 4000000 in
set_option maxRecDepth 100000 in
theorem w_X10_factor {d dE dF : Nat} {p : Program} {l : Launch} {e : Env} {s : State} {m : MethodId} {args : Array Value} {below : List Frame} {meth : Method} {c : Code} {g : Geo} (C : Cx p s m args c cX10_factor RX10 2 g) (hr : meth.sig.returnType = (some .boolean)) (hlk : meth.locks = false) {a0 : Nat} {x1 : Int32} {M : Mem} {fE : Nat → Int32 → Mem → (Bool → Mem → Prop) → Prop} {fF : Nat → Int32 → Mem → (Bool → Mem → Prop) → Prop} {Q : Bool → Mem → Prop} (h1 : dE + 1 ≤ d) (h2 : dF + 1 ≤ d) (h3 : 8 ≤ d) (hE : ∀ (a : Nat) (x : Int32) (M : Mem) (Q : Bool → Mem → Prop), fE a x M Q → Con yX10_either cX10_either 3 (some .boolean) dE 0 0 [.ref a, .int x] M (rZ Q)) (hF : ∀ (a : Nat) (x : Int32) (M : Mem) (Q : Bool → Mem → Prop), fF a x M Q → Con yX10_factor cX10_factor 2 (some .boolean) dF 0 0 [.ref a, .int x] M (rZ Q)) (h : f_X10_factor a0 x1 M fE fF Q) : E p l e (rmO d 0 0) s m args below meth c g 2 (MQ below (QcM g (rZ Q)) args s 0 0 (gA g)) 0 0 0 [(0, .ref a0), (1, .int x1)] [] M := by
  unfold f_X10_factor at h
  refine e_iload_n C 1 dX10_factor_0 rfl rfl ?_
  refine e_iconst (v := 4) C dX10_factor_1 (by decide) ?_
  refine e_icmp_ge (tgt := 34) C dX10_factor_2 (by decide) (fun q1 => ?_) (fun q1 => ?_)
  · replace h := ite_t h q1
    exact w_X10_factor_J34 C hr hlk h1 h2 h3 hE hF h
  · replace h := ite_f h q1
    refine e_aload_n C 0 dX10_factor_5 rfl rfl ?_
    refine e_bipush (v := 33) C dX10_factor_6 (by decide) ?_
    obtain ⟨o4, h⟩ := h
    refine e_callV (as := [.int (33 : Int32)]) C wb_X10_skip wv_X10_47 (ci := 10) rfl rfl (isO_1 o4) (m_X10_skip h) rfl ⟨by show _ ≤ d; omega, by show _ ≤ 48 * d; omega⟩ ⟨Nat.le_of_ble_eq_true rfl, Nat.le_of_ble_eq_true rfl⟩ (by first | exact Nat.le_of_ble_eq_true rfl | (simp only [List.map_cons, List.map_nil, va_cat, List.sum_cons, List.sum_nil]; exact Nat.le_of_ble_eq_true rfl)) dX10_factor_8 (kZ (fun w2 M3 h15 => ?_))
    refine e_if_eq (tgt := 34) C dX10_factor_11 (by decide) (fun q5 => ?_) (fun q5 => ?_)
    · replace h15 := ite_f h15 (bi_ne q5)
      exact w_X10_factor_J34 C hr hlk h1 h2 h3 hE hF h15
    · replace h15 := ite_t h15 (bi_t q5)
      refine e_aload_n C 0 dX10_factor_14 rfl rfl ?_
      refine e_iload_n C 1 dX10_factor_15 rfl rfl ?_
      refine e_iconst (v := 1) C dX10_factor_16 (by decide) ?_
      refine e_iadd C dX10_factor_17 ?_
      obtain ⟨o8, h15⟩ := h15
      refine e_callV (as := [.int (x1 + (1 : Int32))]) C wb_X10_factor wv_X10_107 (ci := 10) rfl rfl (isO_1 o8) (hF _ _ _ _ h15) rfl ⟨by show _ ≤ d; omega, by show _ ≤ 48 * d; omega⟩ ⟨Nat.le_of_ble_eq_true rfl, Nat.le_of_ble_eq_true rfl⟩ (by first | exact Nat.le_of_ble_eq_true rfl | (simp only [List.map_cons, List.map_nil, va_cat, List.sum_cons, List.sum_nil]; exact Nat.le_of_ble_eq_true rfl)) dX10_factor_18 (kZ (fun w6 M7 h14 => ?_))
      refine e_if_ne (tgt := 26) C dX10_factor_21 (by decide) (fun q9 => ?_) (fun q9 => ?_)
      · replace h14 := ite_t h14 (bi_t q9)
        refine e_aload_n C 0 dX10_factor_26 rfl rfl ?_
        refine e_bipush (v := -3) C dX10_factor_27 (by decide) ?_
        obtain ⟨o12, h14⟩ := h14
        refine e_callV (as := [.int (-3 : Int32)]) C wb_X10_step wv_X10_103 (ci := 10) rfl rfl (isO_1 o12) (m_X10_step h14) rfl ⟨by show _ ≤ d; omega, by show _ ≤ 48 * d; omega⟩ ⟨Nat.le_of_ble_eq_true rfl, Nat.le_of_ble_eq_true rfl⟩ (by first | exact Nat.le_of_ble_eq_true rfl | (simp only [List.map_cons, List.map_nil, va_cat, List.sum_cons, List.sum_nil]; exact Nat.le_of_ble_eq_true rfl)) dX10_factor_29 (kV (fun M11 h13 => ?_))
        refine e_iconst (v := 1) C dX10_factor_32 (by decide) ?_
        exact e_zret C hr rfl hlk (Nat.le_refl _) (Nat.le_refl _) dX10_factor_33 ⟨true, rfl, h13⟩
      · replace h14 := ite_f h14 (bi_ne q9)
        refine e_iconst (v := 0) C dX10_factor_24 (by decide) ?_
        exact e_zret C hr rfl hlk (Nat.le_refl _) (Nat.le_refl _) dX10_factor_25 ⟨false, rfl, h14⟩
theorem m_X10_factor {d dE dF : Nat}  {a0 : Nat} {x1 : Int32} {M : Mem} {fE : Nat → Int32 → Mem → (Bool → Mem → Prop) → Prop} {fF : Nat → Int32 → Mem → (Bool → Mem → Prop) → Prop} {Q : Bool → Mem → Prop} (h1 : dE + 1 ≤ d) (h2 : dF + 1 ≤ d) (h3 : 8 ≤ d) (hE : ∀ (a : Nat) (x : Int32) (M : Mem) (Q : Bool → Mem → Prop), fE a x M Q → Con yX10_either cX10_either 3 (some .boolean) dE 0 0 [.ref a, .int x] M (rZ Q)) (hF : ∀ (a : Nat) (x : Int32) (M : Mem) (Q : Bool → Mem → Prop), fF a x M Q → Con yX10_factor cX10_factor 2 (some .boolean) dF 0 0 [.ref a, .int x] M (rZ Q)) (h : f_X10_factor a0 x1 M fE fF Q) : Con yX10_factor cX10_factor 2 (some .boolean) d 0 0 [.ref a0, .int x1] M (rZ Q) :=
  con_of2 (al := [(0, .ref a0), (1, .int x1)]) (by decide) (by exact Nat.le_of_ble_eq_true rfl) (by rfl) (fun p l e s m args below meth c g C hr hlk _ => w_X10_factor C hr hlk h1 h2 h3 hE hF h)
set_option maxHeartbeats 4000000 in
set_option maxRecDepth 100000 in
theorem w_X10_both_J27 {d dF : Nat} {p : Program} {l : Launch} {e : Env} {s : State} {m : MethodId} {args : Array Value} {below : List Frame} {meth : Method} {c : Code} {g : Geo} (C : Cx p s m args c cX10_both RX10 3 g) (hr : meth.sig.returnType = (some .boolean)) (hlk : meth.locks = false) {a0 : Nat} {x1 : Int32} {v2 : Int32} {M : Mem} {K2 : Int32 × Mem → Prop} {fF : Nat → Int32 → Mem → (Bool → Mem → Prop) → Prop} {Q : Bool → Mem → Prop} (hK2 : ∀ z : Int32 × Mem, K2 z → E p l e (rmO d 0 0) s m args below meth c g 3 (MQ below (QcM g (rZ Q)) args s 0 0 (gA g)) 0 0 2 [(0, .ref a0), (1, .int x1), (2, .int z.1)] [] (z.2)) (h2 : dF + 1 ≤ d) (h3 : 8 ≤ d) (hF : ∀ (a : Nat) (x : Int32) (M : Mem) (Q : Bool → Mem → Prop), fF a x M Q → Con yX10_factor cX10_factor 2 (some .boolean) dF 0 0 [.ref a, .int x] M (rZ Q)) (h : f_X10_both_J27 a0 x1 v2 M K2 fF Q) : E p l e (rmO d 0 0) s m args below meth c g 3 (MQ below (QcM g (rZ Q)) args s 0 0 (gA g)) 0 0 27 [(0, .ref a0), (1, .int x1), (2, .int v2)] [] M := by
  unfold f_X10_both_J27 at h
  refine e_aload_n C 0 dX10_both_27 rfl rfl ?_
  refine e_bipush (v := 38) C dX10_both_28 (by decide) ?_
  obtain ⟨o3, h⟩ := h
  refine e_callV (as := [.int (38 : Int32)]) C wb_X10_skip wv_X10_47 (ci := 10) rfl rfl (isO_1 o3) (m_X10_skip h) rfl ⟨by show _ ≤ d; omega, by show _ ≤ 48 * d; omega⟩ ⟨Nat.le_of_ble_eq_true rfl, Nat.le_of_ble_eq_true rfl⟩ (by first | exact Nat.le_of_ble_eq_true rfl | (simp only [List.map_cons, List.map_nil, va_cat, List.sum_cons, List.sum_nil]; exact Nat.le_of_ble_eq_true rfl)) dX10_both_30 (kZ (fun w1 M2 h5 => ?_))
  refine e_if_ne (tgt := 38) C dX10_both_33 (by decide) (fun q4 => ?_) (fun q4 => ?_)
  · replace h5 := ite_t h5 (bi_t q4)
    refine e_iinc (v := (v2 + 1)) (al' := [(2, .int (v2 + 1)), (0, .ref a0), (1, .int x1)]) C 2 dX10_both_38 rfl rfl (by decide) rfl ?_
    refine e_goto (tgt := 2) C dX10_both_41 (by decide) ?_
    refine e_pick [1, 2, 0] rfl ?_
    exact hK2 ((v2 + 1), M2) h5
  · replace h5 := ite_f h5 (bi_ne q4)
    refine e_iconst (v := 1) C dX10_both_36 (by decide) ?_
    exact e_zret C hr rfl hlk (Nat.le_refl _) (Nat.le_refl _) dX10_both_37 ⟨true, rfl, h5⟩
set_option maxHeartbeats 4000000 in
set_option maxRecDepth 100000 in
theorem w_X10_both_B2 {d dF : Nat} {p : Program} {l : Launch} {e : Env} {s : State} {m : MethodId} {args : Array Value} {below : List Frame} {meth : Method} {c : Code} {g : Geo} (C : Cx p s m args c cX10_both RX10 3 g) (hr : meth.sig.returnType = (some .boolean)) (hlk : meth.locks = false) {a0 : Nat} {x1 : Int32} {v2 : Int32} {M : Mem} {K2 : Int32 × Mem → Prop} {fF : Nat → Int32 → Mem → (Bool → Mem → Prop) → Prop} {Q : Bool → Mem → Prop} (hK2 : ∀ z : Int32 × Mem, K2 z → E p l e (rmO d 0 0) s m args below meth c g 3 (MQ below (QcM g (rZ Q)) args s 0 0 (gA g)) 0 0 2 [(0, .ref a0), (1, .int x1), (2, .int z.1)] [] (z.2)) (h2 : dF + 1 ≤ d) (h3 : 8 ≤ d) (hF : ∀ (a : Nat) (x : Int32) (M : Mem) (Q : Bool → Mem → Prop), fF a x M Q → Con yX10_factor cX10_factor 2 (some .boolean) dF 0 0 [.ref a, .int x] M (rZ Q)) (h : f_X10_both_B2 a0 x1 v2 M K2 fF Q) : E p l e (rmO d 0 0) s m args below meth c g 3 (MQ below (QcM g (rZ Q)) args s 0 0 (gA g)) 0 0 2 [(0, .ref a0), (1, .int x1), (2, .int v2)] [] M := by
  unfold f_X10_both_B2 at h
  refine e_iload_n C 2 dX10_both_2 rfl rfl ?_
  refine e_bipush (v := 100) C dX10_both_3 (by decide) ?_
  refine e_icmp_ge (tgt := 44) C dX10_both_5 (by decide) (fun q1 => ?_) (fun q1 => ?_)
  · replace h := ite_t h q1
    refine e_iconst (v := 0) C dX10_both_44 (by decide) ?_
    exact e_zret C hr rfl hlk (Nat.le_refl _) (Nat.le_refl _) dX10_both_45 ⟨false, rfl, h⟩
  · replace h := ite_f h q1
    refine e_aload_n C 0 dX10_both_8 rfl rfl ?_
    refine e_iload_n C 1 dX10_both_9 rfl rfl ?_
    obtain ⟨o4, h⟩ := h
    refine e_callV (as := [.int x1]) C wb_X10_factor wv_X10_107 (ci := 10) rfl rfl (isO_1 o4) (hF _ _ _ _ h) rfl ⟨by show _ ≤ d; omega, by show _ ≤ 48 * d; omega⟩ ⟨Nat.le_of_ble_eq_true rfl, Nat.le_of_ble_eq_true rfl⟩ (by first | exact Nat.le_of_ble_eq_true rfl | (simp only [List.map_cons, List.map_nil, va_cat, List.sum_cons, List.sum_nil]; exact Nat.le_of_ble_eq_true rfl)) dX10_both_10 (kZ (fun w2 M3 h11 => ?_))
    refine e_if_ne (tgt := 18) C dX10_both_13 (by decide) (fun q5 => ?_) (fun q5 => ?_)
    · replace h11 := ite_t h11 (bi_t q5)
      refine e_iload_n C 2 dX10_both_18 rfl rfl ?_
      refine e_if_le (tgt := 27) C dX10_both_19 (by decide) (fun q6 => ?_) (fun q6 => ?_)
      · replace h11 := ite_t h11 q6
        exact w_X10_both_J27 C hr hlk hK2 h2 h3 hF h11
      · replace h11 := ite_f h11 q6
        refine e_aload_n C 0 dX10_both_22 rfl rfl ?_
        refine e_iconst (v := -1) C dX10_both_23 (by decide) ?_
        obtain ⟨o9, h11⟩ := h11
        refine e_callV (as := [.int (-1 : Int32)]) C wb_X10_step wv_X10_103 (ci := 10) rfl rfl (isO_1 o9) (m_X10_step h11) rfl ⟨by show _ ≤ d; omega, by show _ ≤ 48 * d; omega⟩ ⟨Nat.le_of_ble_eq_true rfl, Nat.le_of_ble_eq_true rfl⟩ (by first | exact Nat.le_of_ble_eq_true rfl | (simp only [List.map_cons, List.map_nil, va_cat, List.sum_cons, List.sum_nil]; exact Nat.le_of_ble_eq_true rfl)) dX10_both_24 (kV (fun M8 h10 => ?_))
        exact w_X10_both_J27 C hr hlk hK2 h2 h3 hF h10
    · replace h11 := ite_f h11 (bi_ne q5)
      refine e_iconst (v := 0) C dX10_both_16 (by decide) ?_
      exact e_zret C hr rfl hlk (Nat.le_refl _) (Nat.le_refl _) dX10_both_17 ⟨false, rfl, h11⟩
set_option maxHeartbeats 4000000 in
set_option maxRecDepth 100000 in
theorem w_X10_both_L2 {d dF : Nat} {p : Program} {l : Launch} {e : Env} {s : State} {m : MethodId} {args : Array Value} {below : List Frame} {meth : Method} {c : Code} {g : Geo} (C : Cx p s m args c cX10_both RX10 3 g) (hr : meth.sig.returnType = (some .boolean)) (hlk : meth.locks = false) {a0 : Nat} {x1 : Int32} {v2 : Int32} {M : Mem} {fF : Nat → Int32 → Mem → (Bool → Mem → Prop) → Prop} {Q : Bool → Mem → Prop} (h2 : dF + 1 ≤ d) (h3 : 8 ≤ d) (hF : ∀ (a : Nat) (x : Int32) (M : Mem) (Q : Bool → Mem → Prop), fF a x M Q → Con yX10_factor cX10_factor 2 (some .boolean) dF 0 0 [.ref a, .int x] M (rZ Q)) (h : f_X10_both_L2 a0 x1 v2 M fF Q) : E p l e (rmO d 0 0) s m args below meth c g 3 (MQ below (QcM g (rZ Q)) args s 0 0 (gA g)) 0 0 2 [(0, .ref a0), (1, .int x1), (2, .int v2)] [] M := by
  unfold f_X10_both_L2 at h
  refine loop_E (W := fun z : Int32 × Mem => E p l e (rmO d 0 0) s m args below meth c g 3 (MQ below (QcM g (rZ Q)) args s 0 0 (gA g)) 0 0 2 [(0, .ref a0), (1, .int x1), (2, .int z.1)] [] (z.2)) h (fun K z hK h => ?_)
  exact w_X10_both_B2 C hr hlk hK h2 h3 hF h
set_option maxHeartbeats 4000000 in
set_option maxRecDepth 100000 in
theorem w_X10_both {d dF : Nat} {p : Program} {l : Launch} {e : Env} {s : State} {m : MethodId} {args : Array Value} {below : List Frame} {meth : Method} {c : Code} {g : Geo} (C : Cx p s m args c cX10_both RX10 3 g) (hr : meth.sig.returnType = (some .boolean)) (hlk : meth.locks = false) {a0 : Nat} {x1 : Int32} {M : Mem} {fF : Nat → Int32 → Mem → (Bool → Mem → Prop) → Prop} {Q : Bool → Mem → Prop} (h2 : dF + 1 ≤ d) (h3 : 8 ≤ d) (hF : ∀ (a : Nat) (x : Int32) (M : Mem) (Q : Bool → Mem → Prop), fF a x M Q → Con yX10_factor cX10_factor 2 (some .boolean) dF 0 0 [.ref a, .int x] M (rZ Q)) (h : f_X10_both a0 x1 M fF Q) : E p l e (rmO d 0 0) s m args below meth c g 3 (MQ below (QcM g (rZ Q)) args s 0 0 (gA g)) 0 0 0 [(0, .ref a0), (1, .int x1)] [] M := by
  unfold f_X10_both at h
  refine e_iconst (v := 0) C dX10_both_0 (by decide) ?_
  refine e_istore_n (al' := [(2, .int (0 : Int32)), (0, .ref a0), (1, .int x1)]) C dX10_both_1 rfl (by decide) rfl ?_
  refine e_pick [1, 2, 0] rfl ?_
  exact w_X10_both_L2 C hr hlk h2 h3 hF h
theorem m_X10_both {d dF : Nat}  {a0 : Nat} {x1 : Int32} {M : Mem} {fF : Nat → Int32 → Mem → (Bool → Mem → Prop) → Prop} {Q : Bool → Mem → Prop} (h2 : dF + 1 ≤ d) (h3 : 8 ≤ d) (hF : ∀ (a : Nat) (x : Int32) (M : Mem) (Q : Bool → Mem → Prop), fF a x M Q → Con yX10_factor cX10_factor 2 (some .boolean) dF 0 0 [.ref a, .int x] M (rZ Q)) (h : f_X10_both a0 x1 M fF Q) : Con yX10_both cX10_both 3 (some .boolean) d 0 0 [.ref a0, .int x1] M (rZ Q) :=
  con_of2 (al := [(0, .ref a0), (1, .int x1)]) (by decide) (by exact Nat.le_of_ble_eq_true rfl) (by rfl) (fun p l e s m args below meth c g C hr hlk _ => w_X10_both C hr hlk h2 h3 hF h)
set_option maxHeartbeats 4000000 in
set_option maxRecDepth 100000 in
theorem w_X10_either_J28 {d dF : Nat} {p : Program} {l : Launch} {e : Env} {s : State} {m : MethodId} {args : Array Value} {below : List Frame} {meth : Method} {c : Code} {g : Geo} (C : Cx p s m args c cX10_either RX10 3 g) (hr : meth.sig.returnType = (some .boolean)) (hlk : meth.locks = false) {a0 : Nat} {x1 : Int32} {v2 : Int32} {M : Mem} {K2 : Int32 × Mem → Prop} {fF : Nat → Int32 → Mem → (Bool → Mem → Prop) → Prop} {Q : Bool → Mem → Prop} (hK2 : ∀ z : Int32 × Mem, K2 z → E p l e (rmO d 0 0) s m args below meth c g 3 (MQ below (QcM g (rZ Q)) args s 0 0 (gA g)) 0 0 2 [(0, .ref a0), (1, .int x1), (2, .int z.1)] [] (z.2)) (h2 : dF + 1 ≤ d) (h3 : 8 ≤ d) (hF : ∀ (a : Nat) (x : Int32) (M : Mem) (Q : Bool → Mem → Prop), fF a x M Q → Con yX10_both cX10_both 3 (some .boolean) dF 0 0 [.ref a, .int x] M (rZ Q)) (h : f_X10_either_J28 a0 x1 v2 M K2 fF Q) : E p l e (rmO d 0 0) s m args below meth c g 3 (MQ below (QcM g (rZ Q)) args s 0 0 (gA g)) 0 0 28 [(0, .ref a0), (1, .int x1), (2, .int v2)] [] M := by
  unfold f_X10_either_J28 at h
  refine e_aload_n C 0 dX10_either_28 rfl rfl ?_
  refine e_bipush (v := 124) C dX10_either_29 (by decide) ?_
  obtain ⟨o3, h⟩ := h
  refine e_callV (as := [.int (124 : Int32)]) C wb_X10_skip wv_X10_47 (ci := 10) rfl rfl (isO_1 o3) (m_X10_skip h) rfl ⟨by show _ ≤ d; omega, by show _ ≤ 48 * d; omega⟩ ⟨Nat.le_of_ble_eq_true rfl, Nat.le_of_ble_eq_true rfl⟩ (by first | exact Nat.le_of_ble_eq_true rfl | (simp only [List.map_cons, List.map_nil, va_cat, List.sum_cons, List.sum_nil]; exact Nat.le_of_ble_eq_true rfl)) dX10_either_31 (kZ (fun w1 M2 h5 => ?_))
  refine e_if_ne (tgt := 39) C dX10_either_34 (by decide) (fun q4 => ?_) (fun q4 => ?_)
  · replace h5 := ite_t h5 (bi_t q4)
    refine e_iinc (v := (v2 + 1)) (al' := [(2, .int (v2 + 1)), (0, .ref a0), (1, .int x1)]) C 2 dX10_either_39 rfl rfl (by decide) rfl ?_
    refine e_goto (tgt := 2) C dX10_either_42 (by decide) ?_
    refine e_pick [1, 2, 0] rfl ?_
    exact hK2 ((v2 + 1), M2) h5
  · replace h5 := ite_f h5 (bi_ne q4)
    refine e_iconst (v := 1) C dX10_either_37 (by decide) ?_
    exact e_zret C hr rfl hlk (Nat.le_refl _) (Nat.le_refl _) dX10_either_38 ⟨true, rfl, h5⟩
set_option maxHeartbeats 4000000 in
set_option maxRecDepth 100000 in
theorem w_X10_either_B2 {d dF : Nat} {p : Program} {l : Launch} {e : Env} {s : State} {m : MethodId} {args : Array Value} {below : List Frame} {meth : Method} {c : Code} {g : Geo} (C : Cx p s m args c cX10_either RX10 3 g) (hr : meth.sig.returnType = (some .boolean)) (hlk : meth.locks = false) {a0 : Nat} {x1 : Int32} {v2 : Int32} {M : Mem} {K2 : Int32 × Mem → Prop} {fF : Nat → Int32 → Mem → (Bool → Mem → Prop) → Prop} {Q : Bool → Mem → Prop} (hK2 : ∀ z : Int32 × Mem, K2 z → E p l e (rmO d 0 0) s m args below meth c g 3 (MQ below (QcM g (rZ Q)) args s 0 0 (gA g)) 0 0 2 [(0, .ref a0), (1, .int x1), (2, .int z.1)] [] (z.2)) (h2 : dF + 1 ≤ d) (h3 : 8 ≤ d) (hF : ∀ (a : Nat) (x : Int32) (M : Mem) (Q : Bool → Mem → Prop), fF a x M Q → Con yX10_both cX10_both 3 (some .boolean) dF 0 0 [.ref a, .int x] M (rZ Q)) (h : f_X10_either_B2 a0 x1 v2 M K2 fF Q) : E p l e (rmO d 0 0) s m args below meth c g 3 (MQ below (QcM g (rZ Q)) args s 0 0 (gA g)) 0 0 2 [(0, .ref a0), (1, .int x1), (2, .int v2)] [] M := by
  unfold f_X10_either_B2 at h
  refine e_iload_n C 2 dX10_either_2 rfl rfl ?_
  refine e_bipush (v := 100) C dX10_either_3 (by decide) ?_
  refine e_icmp_ge (tgt := 45) C dX10_either_5 (by decide) (fun q1 => ?_) (fun q1 => ?_)
  · replace h := ite_t h q1
    refine e_iconst (v := 0) C dX10_either_45 (by decide) ?_
    exact e_zret C hr rfl hlk (Nat.le_refl _) (Nat.le_refl _) dX10_either_46 ⟨false, rfl, h⟩
  · replace h := ite_f h q1
    refine e_aload_n C 0 dX10_either_8 rfl rfl ?_
    refine e_iload_n C 1 dX10_either_9 rfl rfl ?_
    obtain ⟨o4, h⟩ := h
    refine e_callV (as := [.int x1]) C wb_X10_both wv_X10_100 (ci := 10) rfl rfl (isO_1 o4) (hF _ _ _ _ h) rfl ⟨by show _ ≤ d; omega, by show _ ≤ 48 * d; omega⟩ ⟨Nat.le_of_ble_eq_true rfl, Nat.le_of_ble_eq_true rfl⟩ (by first | exact Nat.le_of_ble_eq_true rfl | (simp only [List.map_cons, List.map_nil, va_cat, List.sum_cons, List.sum_nil]; exact Nat.le_of_ble_eq_true rfl)) dX10_either_10 (kZ (fun w2 M3 h11 => ?_))
    refine e_if_ne (tgt := 18) C dX10_either_13 (by decide) (fun q5 => ?_) (fun q5 => ?_)
    · replace h11 := ite_t h11 (bi_t q5)
      refine e_iload_n C 2 dX10_either_18 rfl rfl ?_
      refine e_if_le (tgt := 28) C dX10_either_19 (by decide) (fun q6 => ?_) (fun q6 => ?_)
      · replace h11 := ite_t h11 q6
        exact w_X10_either_J28 C hr hlk hK2 h2 h3 hF h11
      · replace h11 := ite_f h11 q6
        refine e_aload_n C 0 dX10_either_22 rfl rfl ?_
        refine e_bipush (v := -2) C dX10_either_23 (by decide) ?_
        obtain ⟨o9, h11⟩ := h11
        refine e_callV (as := [.int (-2 : Int32)]) C wb_X10_step wv_X10_103 (ci := 10) rfl rfl (isO_1 o9) (m_X10_step h11) rfl ⟨by show _ ≤ d; omega, by show _ ≤ 48 * d; omega⟩ ⟨Nat.le_of_ble_eq_true rfl, Nat.le_of_ble_eq_true rfl⟩ (by first | exact Nat.le_of_ble_eq_true rfl | (simp only [List.map_cons, List.map_nil, va_cat, List.sum_cons, List.sum_nil]; exact Nat.le_of_ble_eq_true rfl)) dX10_either_25 (kV (fun M8 h10 => ?_))
        exact w_X10_either_J28 C hr hlk hK2 h2 h3 hF h10
    · replace h11 := ite_f h11 (bi_ne q5)
      refine e_iconst (v := 0) C dX10_either_16 (by decide) ?_
      exact e_zret C hr rfl hlk (Nat.le_refl _) (Nat.le_refl _) dX10_either_17 ⟨false, rfl, h11⟩
set_option maxHeartbeats 4000000 in
set_option maxRecDepth 100000 in
theorem w_X10_either_L2 {d dF : Nat} {p : Program} {l : Launch} {e : Env} {s : State} {m : MethodId} {args : Array Value} {below : List Frame} {meth : Method} {c : Code} {g : Geo} (C : Cx p s m args c cX10_either RX10 3 g) (hr : meth.sig.returnType = (some .boolean)) (hlk : meth.locks = false) {a0 : Nat} {x1 : Int32} {v2 : Int32} {M : Mem} {fF : Nat → Int32 → Mem → (Bool → Mem → Prop) → Prop} {Q : Bool → Mem → Prop} (h2 : dF + 1 ≤ d) (h3 : 8 ≤ d) (hF : ∀ (a : Nat) (x : Int32) (M : Mem) (Q : Bool → Mem → Prop), fF a x M Q → Con yX10_both cX10_both 3 (some .boolean) dF 0 0 [.ref a, .int x] M (rZ Q)) (h : f_X10_either_L2 a0 x1 v2 M fF Q) : E p l e (rmO d 0 0) s m args below meth c g 3 (MQ below (QcM g (rZ Q)) args s 0 0 (gA g)) 0 0 2 [(0, .ref a0), (1, .int x1), (2, .int v2)] [] M := by
  unfold f_X10_either_L2 at h
  refine loop_E (W := fun z : Int32 × Mem => E p l e (rmO d 0 0) s m args below meth c g 3 (MQ below (QcM g (rZ Q)) args s 0 0 (gA g)) 0 0 2 [(0, .ref a0), (1, .int x1), (2, .int z.1)] [] (z.2)) h (fun K z hK h => ?_)
  exact w_X10_either_B2 C hr hlk hK h2 h3 hF h
set_option maxHeartbeats 4000000 in
set_option maxRecDepth 100000 in
theorem w_X10_either {d dF : Nat} {p : Program} {l : Launch} {e : Env} {s : State} {m : MethodId} {args : Array Value} {below : List Frame} {meth : Method} {c : Code} {g : Geo} (C : Cx p s m args c cX10_either RX10 3 g) (hr : meth.sig.returnType = (some .boolean)) (hlk : meth.locks = false) {a0 : Nat} {x1 : Int32} {M : Mem} {fF : Nat → Int32 → Mem → (Bool → Mem → Prop) → Prop} {Q : Bool → Mem → Prop} (h2 : dF + 1 ≤ d) (h3 : 8 ≤ d) (hF : ∀ (a : Nat) (x : Int32) (M : Mem) (Q : Bool → Mem → Prop), fF a x M Q → Con yX10_both cX10_both 3 (some .boolean) dF 0 0 [.ref a, .int x] M (rZ Q)) (h : f_X10_either a0 x1 M fF Q) : E p l e (rmO d 0 0) s m args below meth c g 3 (MQ below (QcM g (rZ Q)) args s 0 0 (gA g)) 0 0 0 [(0, .ref a0), (1, .int x1)] [] M := by
  unfold f_X10_either at h
  refine e_iconst (v := 0) C dX10_either_0 (by decide) ?_
  refine e_istore_n (al' := [(2, .int (0 : Int32)), (0, .ref a0), (1, .int x1)]) C dX10_either_1 rfl (by decide) rfl ?_
  refine e_pick [1, 2, 0] rfl ?_
  exact w_X10_either_L2 C hr hlk h2 h3 hF h
theorem m_X10_either {d dF : Nat}  {a0 : Nat} {x1 : Int32} {M : Mem} {fF : Nat → Int32 → Mem → (Bool → Mem → Prop) → Prop} {Q : Bool → Mem → Prop} (h2 : dF + 1 ≤ d) (h3 : 8 ≤ d) (hF : ∀ (a : Nat) (x : Int32) (M : Mem) (Q : Bool → Mem → Prop), fF a x M Q → Con yX10_both cX10_both 3 (some .boolean) dF 0 0 [.ref a, .int x] M (rZ Q)) (h : f_X10_either a0 x1 M fF Q) : Con yX10_either cX10_either 3 (some .boolean) d 0 0 [.ref a0, .int x1] M (rZ Q) :=
  con_of2 (al := [(0, .ref a0), (1, .int x1)]) (by decide) (by exact Nat.le_of_ble_eq_true rfl) (by rfl) (fun p l e s m args below meth c g C hr hlk _ => w_X10_either C hr hlk h2 h3 hF h)
theorem m_fBo {t : Nat} (hF : ∀ (a : Nat) (x : Int32) (M : Mem) (Q : Bool → Mem → Prop), fFac t a x M Q → Con yX10_factor cX10_factor 2 (some .boolean) (9 + 3 * t) 0 0 [.ref a, .int x] M (rZ Q)) : ∀ (a : Nat) (x : Int32) (M : Mem) (Q : Bool → Mem → Prop), fBo t a x M Q → Con yX10_both cX10_both 3 (some .boolean) (10 + 3 * t) 0 0 [.ref a, .int x] M (rZ Q) := fun a x M Q h => m_X10_both (by omega) (by omega) hF h
theorem m_fEit {t : Nat} (hF : ∀ (a : Nat) (x : Int32) (M : Mem) (Q : Bool → Mem → Prop), fFac t a x M Q → Con yX10_factor cX10_factor 2 (some .boolean) (9 + 3 * t) 0 0 [.ref a, .int x] M (rZ Q)) : ∀ (a : Nat) (x : Int32) (M : Mem) (Q : Bool → Mem → Prop), fEit t a x M Q → Con yX10_either cX10_either 3 (some .boolean) (11 + 3 * t) 0 0 [.ref a, .int x] M (rZ Q) := fun a x M Q h => m_X10_either (by omega) (by omega) (m_fBo hF) h
theorem m_fFac : ∀ (t : Nat) (a : Nat) (x : Int32) (M : Mem) (Q : Bool → Mem → Prop), fFac t a x M Q → Con yX10_factor cX10_factor 2 (some .boolean) (9 + 3 * t) 0 0 [.ref a, .int x] M (rZ Q)
  | 0, _, _, _, _, h => h.elim
  | t + 1, a, x, M, Q, h => m_X10_factor (d := 9 + 3 * (t + 1)) (by omega) (by omega) (by omega) (m_fEit (m_fFac t)) (m_fFac t) h
theorem m_fEi {a : Nat} {x : Int32} {M : Mem} {Q : Bool → Mem → Prop} (h : fEi a x M Q) : Con yX10_either cX10_either 3 (some .boolean) 29 0 0 [.ref a, .int x] M (rZ Q) := m_fEit (m_fFac 6) a x M Q h
set_option maxHeartbeats 4000000 in
set_option maxRecDepth 100000 in
theorem w_X10_comeClause {p : Program} {l : Launch} {e : Env} {s : State} {m : MethodId} {args : Array Value} {below : List Frame} {meth : Method} {c : Code} {g : Geo} (C : Cx p s m args c cX10_comeClause RX10 2 g) (hr : meth.sig.returnType = (some .boolean)) (hlk : meth.locks = false) {a0 : Nat} {M : Mem} {Q : Bool → Mem → Prop} (h : f_X10_comeClause a0 M Q) : E p l e (rmO 31 0 0) s m args below meth c g 2 (MQ below (QcM g (rZ Q)) args s 0 0 (gA g)) 0 0 0 [(0, .ref a0)] [] M := by
  unfold f_X10_comeClause at h
  refine e_aload_n C 0 dX10_comeClause_0 rfl rfl ?_
  obtain ⟨o1, h⟩ := h
  refine e_getI C [10] 3 (fg_of fg_X10_31) o1 dX10_comeClause_1 ?_
  refine e_bipush (v := 8) C dX10_comeClause_4 (by decide) ?_
  refine e_icmp_ge (tgt := 18) C dX10_comeClause_6 (by decide) (fun q2 => ?_) (fun q2 => ?_)
  · replace h := ite_t h q2
    refine e_iconst (v := 0) C dX10_comeClause_18 (by decide) ?_
    exact e_zret C hr rfl hlk (Nat.le_refl _) (Nat.le_refl _) dX10_comeClause_19 ⟨false, rfl, h⟩
  · replace h := ite_f h q2
    refine e_aload_n C 0 dX10_comeClause_9 rfl rfl ?_
    refine e_ldcS C 0 (by decide) rfl dX10_comeClause_10 ?_
    refine e_callV (as := [.retAddr 0]) C wb_X10_word wv_X10_68 (ci := 10) rfl rfl (isO_1 o1) (m_X10_word h) rfl ⟨Nat.le_of_ble_eq_true rfl, Nat.le_of_ble_eq_true rfl⟩ ⟨Nat.le_of_ble_eq_true rfl, Nat.le_of_ble_eq_true rfl⟩ (by first | exact Nat.le_of_ble_eq_true rfl | (simp only [List.map_cons, List.map_nil, va_cat, List.sum_cons, List.sum_nil]; exact Nat.le_of_ble_eq_true rfl)) dX10_comeClause_12 (kZ (fun w3 M4 h46 => ?_))
    refine e_if_ne (tgt := 20) C dX10_comeClause_15 (by decide) (fun q5 => ?_) (fun q5 => ?_)
    · replace h46 := ite_t h46 (bi_t q5)
      refine e_aload_n C 0 dX10_comeClause_20 rfl rfl ?_
      obtain ⟨o8, h46⟩ := h46
      refine e_callV (as := []) C wb_X10_digit wv_X10_72 (ci := 10) rfl rfl (isO_1 o8) (m_X10_digit h46) rfl ⟨Nat.le_of_ble_eq_true rfl, Nat.le_of_ble_eq_true rfl⟩ ⟨Nat.le_of_ble_eq_true rfl, Nat.le_of_ble_eq_true rfl⟩ (by first | exact Nat.le_of_ble_eq_true rfl | (simp only [List.map_cons, List.map_nil, va_cat, List.sum_cons, List.sum_nil]; exact Nat.le_of_ble_eq_true rfl)) dX10_comeClause_21 (kI (fun w6 M7 h45 => ?_))
      refine e_istore_n (al' := [(1, .int w6), (0, .ref a0)]) C dX10_comeClause_24 rfl (by decide) rfl ?_
      refine e_iload_n C 0 dX10_comeClause_25 rfl rfl ?_
      refine e_if_lt (tgt := 35) C dX10_comeClause_26 (by decide) (fun q9 => ?_) (fun q9 => ?_)
      · replace h45 := ite_t h45 q9
        refine e_iconst (v := 0) C dX10_comeClause_35 (by decide) ?_
        exact e_zret C hr rfl hlk (Nat.le_refl _) (Nat.le_refl _) dX10_comeClause_36 ⟨false, rfl, h45⟩
      · replace h45 := ite_f h45 q9
        refine e_iload_n C 0 dX10_comeClause_29 rfl rfl ?_
        refine e_bipush (v := 6) C dX10_comeClause_30 (by decide) ?_
        refine e_icmp_lt (tgt := 37) C dX10_comeClause_32 (by decide) (fun q10 => ?_) (fun q10 => ?_)
        · replace h45 := ite_t h45 q10
          refine e_aload_n C 1 dX10_comeClause_37 rfl rfl ?_
          refine e_dup C rfl dX10_comeClause_38 ?_
          obtain ⟨o11, h45⟩ := h45
          refine e_getI C [10] 10 (fg_of fg_X10_44) o11 dX10_comeClause_39 ?_
          refine e_iconst (v := 1) C dX10_comeClause_42 (by decide) ?_
          refine e_iadd C dX10_comeClause_43 ?_
          refine e_putI C [10] 10 false (fun z => by cases z) fp_X10_44 o11 dX10_comeClause_44 ?_
          refine nmE (fun M12 e13 => ?_)
          replace h45 := h45 M12 e13
          have o14 : isO M12 a0 [10] := by rw [e13]; exact o11
          refine e_aload_n C 1 dX10_comeClause_47 rfl rfl ?_
          refine e_bipush (v := 32) C dX10_comeClause_48 (by decide) ?_
          refine e_callV (as := [.int (32 : Int32)]) C wb_X10_skip wv_X10_47 (ci := 10) rfl rfl (isO_1 o14) (m_X10_skip h45) rfl ⟨Nat.le_of_ble_eq_true rfl, Nat.le_of_ble_eq_true rfl⟩ ⟨Nat.le_of_ble_eq_true rfl, Nat.le_of_ble_eq_true rfl⟩ (by first | exact Nat.le_of_ble_eq_true rfl | (simp only [List.map_cons, List.map_nil, va_cat, List.sum_cons, List.sum_nil]; exact Nat.le_of_ble_eq_true rfl)) dX10_comeClause_50 (kZ (fun w15 M16 h44 => ?_))
          refine e_if_eq (tgt := 64) C dX10_comeClause_53 (by decide) (fun q17 => ?_) (fun q17 => ?_)
          · replace h44 := ite_f h44 (bi_ne q17)
            refine e_iconst (v := 0) C dX10_comeClause_64 (by decide) ?_
            exact e_zret C hr rfl hlk (Nat.le_refl _) (Nat.le_refl _) dX10_comeClause_65 ⟨false, rfl, h44⟩
          · replace h44 := ite_t h44 (bi_t q17)
            refine e_aload_n C 1 dX10_comeClause_56 rfl rfl ?_
            refine e_iconst (v := 0) C dX10_comeClause_57 (by decide) ?_
            obtain ⟨o20, h44⟩ := h44
            refine e_callV (as := [.int (0 : Int32)]) C wb_X10_either wv_X10_76 (ci := 10) rfl rfl (isO_1 o20) (m_fEi h44) rfl ⟨Nat.le_of_ble_eq_true rfl, Nat.le_of_ble_eq_true rfl⟩ ⟨Nat.le_of_ble_eq_true rfl, Nat.le_of_ble_eq_true rfl⟩ (by first | exact Nat.le_of_ble_eq_true rfl | (simp only [List.map_cons, List.map_nil, va_cat, List.sum_cons, List.sum_nil]; exact Nat.le_of_ble_eq_true rfl)) dX10_comeClause_58 (kZ (fun w18 M19 h43 => ?_))
            refine e_if_ne (tgt := 66) C dX10_comeClause_61 (by decide) (fun q21 => ?_) (fun q21 => ?_)
            · replace h43 := ite_t h43 (bi_t q21)
              refine e_aload_n C 1 dX10_comeClause_66 rfl rfl ?_
              obtain ⟨o22, h43⟩ := h43
              refine e_getR C [10] 4 (fg_of fg_X10_15) o22 dX10_comeClause_67 ?_
              refine e_aload_n C 1 dX10_comeClause_70 rfl rfl ?_
              refine e_getI C [10] 3 (fg_of fg_X10_31) o22 dX10_comeClause_71 ?_
              refine e_iload_n C 0 dX10_comeClause_74 rfl rfl ?_
              obtain ⟨b23, p24, h43⟩ := h43
              try rw [p24]
              obtain ⟨o25, h43⟩ := h43
              refine e_iast C o25 dX10_comeClause_75 ?_
              refine nmE (fun M26 e27 => ?_)
              replace h43 := h43 M26 e27
              have o28 : isO M26 a0 [10] := by rw [e27]; exact o22
              have p29 : mP M26 a0 4 = some b23 := by rw [e27]; exact p24
              refine e_aload_n C 1 dX10_comeClause_76 rfl rfl ?_
              refine e_getR C [10] 5 (fg_of fg_X10_19) o28 dX10_comeClause_77 ?_
              refine e_aload_n C 1 dX10_comeClause_80 rfl rfl ?_
              refine e_getI C [10] 3 (fg_of fg_X10_31) o28 dX10_comeClause_81 ?_
              refine e_aload_n C 1 dX10_comeClause_84 rfl rfl ?_
              refine e_getI C [10] 7 (fg_of fg_X10_34) o28 dX10_comeClause_85 ?_
              obtain ⟨b30, p31, h43⟩ := h43
              try rw [p31]
              obtain ⟨o32, h43⟩ := h43
              refine e_iast C o32 dX10_comeClause_88 ?_
              refine nmE (fun M33 e34 => ?_)
              replace h43 := h43 M33 e34
              have o35 : isO M33 a0 [10] := by rw [e34]; exact o28
              have p36 : mP M33 a0 4 = some b23 := by rw [e34]; exact p29
              have p37 : mP M33 a0 5 = some b30 := by rw [e34]; exact p31
              refine e_aload_n C 1 dX10_comeClause_89 rfl rfl ?_
              refine e_dup C rfl dX10_comeClause_90 ?_
              refine e_getI C [10] 3 (fg_of fg_X10_31) o35 dX10_comeClause_91 ?_
              refine e_iconst (v := 1) C dX10_comeClause_94 (by decide) ?_
              refine e_iadd C dX10_comeClause_95 ?_
              refine e_putI C [10] 3 false (fun z => by cases z) fp_X10_31 o35 dX10_comeClause_96 ?_
              refine nmE (fun M38 e39 => ?_)
              replace h43 := h43 M38 e39
              have o40 : isO M38 a0 [10] := by rw [e39]; exact o35
              have p41 : mP M38 a0 4 = some b23 := by rw [e39]; exact p36
              have p42 : mP M38 a0 5 = some b30 := by rw [e39]; exact p37
              refine e_iconst (v := 1) C dX10_comeClause_99 (by decide) ?_
              exact e_zret C hr rfl hlk (Nat.le_refl _) (Nat.le_refl _) dX10_comeClause_100 ⟨true, rfl, h43⟩
            · replace h43 := ite_f h43 (bi_ne q21)
              refine e_iconst (v := 0) C dX10_comeClause_64 (by decide) ?_
              exact e_zret C hr rfl hlk (Nat.le_refl _) (Nat.le_refl _) dX10_comeClause_65 ⟨false, rfl, h43⟩
        · replace h45 := ite_f h45 q10
          refine e_iconst (v := 0) C dX10_comeClause_35 (by decide) ?_
          exact e_zret C hr rfl hlk (Nat.le_refl _) (Nat.le_refl _) dX10_comeClause_36 ⟨false, rfl, h45⟩
    · replace h46 := ite_f h46 (bi_ne q5)
      refine e_iconst (v := 0) C dX10_comeClause_18 (by decide) ?_
      exact e_zret C hr rfl hlk (Nat.le_refl _) (Nat.le_refl _) dX10_comeClause_19 ⟨false, rfl, h46⟩
theorem m_X10_comeClause  {a0 : Nat} {M : Mem} {Q : Bool → Mem → Prop} (h : f_X10_comeClause a0 M Q) : Con yX10_comeClause cX10_comeClause 2 (some .boolean) 31 0 0 [.ref a0] M (rZ Q) :=
  con_of2 (al := [(0, .ref a0)]) (by decide) (by exact Nat.le_of_ble_eq_true rfl) (by rfl) (fun p l e s m args below meth c g C hr hlk _ => w_X10_comeClause C hr hlk h)
set_option maxHeartbeats 4000000 in
set_option maxRecDepth 100000 in
theorem w_X10_numberWord {p : Program} {l : Launch} {e : Env} {s : State} {m : MethodId} {args : Array Value} {below : List Frame} {meth : Method} {c : Code} {g : Geo} (C : Cx p s m args c cX10_numberWord RX10 1 g) (hr : meth.sig.returnType = (some .int)) (hlk : meth.locks = false) {a0 : Nat} {M : Mem} {Q : Int32 → Mem → Prop} (h : f_X10_numberWord a0 M Q) : E p l e (rmO 6 0 0) s m args below meth c g 1 (MQ below (QcM g (rI Q)) args s 0 0 (gA g)) 0 0 0 [(0, .ref a0)] [] M := by
  unfold f_X10_numberWord at h
  refine e_aload_n C 0 dX10_numberWord_0 rfl rfl ?_
  refine e_bipush (v := 112) C dX10_numberWord_1 (by decide) ?_
  obtain ⟨o3, h⟩ := h
  refine e_callV (as := [.int (112 : Int32)]) C wb_X10_skip wv_X10_47 (ci := 10) rfl rfl (isO_1 o3) (m_X10_skip h) rfl ⟨Nat.le_of_ble_eq_true rfl, Nat.le_of_ble_eq_true rfl⟩ ⟨Nat.le_of_ble_eq_true rfl, Nat.le_of_ble_eq_true rfl⟩ (by first | exact Nat.le_of_ble_eq_true rfl | (simp only [List.map_cons, List.map_nil, va_cat, List.sum_cons, List.sum_nil]; exact Nat.le_of_ble_eq_true rfl)) dX10_numberWord_3 (kZ (fun w1 M2 h30 => ?_))
  refine e_if_eq (tgt := 24) C dX10_numberWord_6 (by decide) (fun q4 => ?_) (fun q4 => ?_)
  · replace h30 := ite_f h30 (bi_ne q4)
    refine e_aload_n C 0 dX10_numberWord_24 rfl rfl ?_
    refine e_ldcS C 4 (by decide) rfl dX10_numberWord_25 ?_
    obtain ⟨o7, h30⟩ := h30
    refine e_callV (as := [.retAddr 4]) C wb_X10_word wv_X10_68 (ci := 10) rfl rfl (isO_1 o7) (m_X10_word h30) rfl ⟨Nat.le_of_ble_eq_true rfl, Nat.le_of_ble_eq_true rfl⟩ ⟨Nat.le_of_ble_eq_true rfl, Nat.le_of_ble_eq_true rfl⟩ (by first | exact Nat.le_of_ble_eq_true rfl | (simp only [List.map_cons, List.map_nil, va_cat, List.sum_cons, List.sum_nil]; exact Nat.le_of_ble_eq_true rfl)) dX10_numberWord_27 (kZ (fun w5 M6 h24 => ?_))
    refine e_if_ne (tgt := 35) C dX10_numberWord_30 (by decide) (fun q8 => ?_) (fun q8 => ?_)
    · replace h24 := ite_t h24 (bi_t q8)
      refine e_aload_n C 0 dX10_numberWord_35 rfl rfl ?_
      refine e_bipush (v := 114) C dX10_numberWord_36 (by decide) ?_
      obtain ⟨o11, h24⟩ := h24
      refine e_callV (as := [.int (114 : Int32)]) C wb_X10_skip wv_X10_47 (ci := 10) rfl rfl (isO_1 o11) (m_X10_skip h24) rfl ⟨Nat.le_of_ble_eq_true rfl, Nat.le_of_ble_eq_true rfl⟩ ⟨Nat.le_of_ble_eq_true rfl, Nat.le_of_ble_eq_true rfl⟩ (by first | exact Nat.le_of_ble_eq_true rfl | (simp only [List.map_cons, List.map_nil, va_cat, List.sum_cons, List.sum_nil]; exact Nat.le_of_ble_eq_true rfl)) dX10_numberWord_38 (kZ (fun w9 M10 h23 => ?_))
      refine e_if_eq (tgt := 59) C dX10_numberWord_41 (by decide) (fun q12 => ?_) (fun q12 => ?_)
      · replace h23 := ite_f h23 (bi_ne q12)
        refine e_aload_n C 0 dX10_numberWord_59 rfl rfl ?_
        refine e_ldcS C 6 (by decide) rfl dX10_numberWord_60 ?_
        obtain ⟨o15, h23⟩ := h23
        refine e_callV (as := [.retAddr 6]) C wb_X10_word wv_X10_68 (ci := 10) rfl rfl (isO_1 o15) (m_X10_word h23) rfl ⟨Nat.le_of_ble_eq_true rfl, Nat.le_of_ble_eq_true rfl⟩ ⟨Nat.le_of_ble_eq_true rfl, Nat.le_of_ble_eq_true rfl⟩ (by first | exact Nat.le_of_ble_eq_true rfl | (simp only [List.map_cons, List.map_nil, va_cat, List.sum_cons, List.sum_nil]; exact Nat.le_of_ble_eq_true rfl)) dX10_numberWord_62 (kZ (fun w13 M14 h17 => ?_))
        refine e_if_eq (tgt := 72) C dX10_numberWord_65 (by decide) (fun q16 => ?_) (fun q16 => ?_)
        · replace h17 := ite_f h17 (bi_ne q16)
          refine e_iconst (v := -1) C dX10_numberWord_72 (by decide) ?_
          exact e_iret C hr hlk (Nat.le_refl _) (Nat.le_refl _) dX10_numberWord_73 ⟨_, rfl, h17⟩
        · replace h17 := ite_t h17 (bi_t q16)
          refine e_iconst (v := 2) C dX10_numberWord_68 (by decide) ?_
          refine e_goto (tgt := 73) C dX10_numberWord_69 (by decide) ?_
          exact e_iret C hr hlk (Nat.le_refl _) (Nat.le_refl _) dX10_numberWord_73 ⟨_, rfl, h17⟩
      · replace h23 := ite_t h23 (bi_t q12)
        refine e_aload_n C 0 dX10_numberWord_44 rfl rfl ?_
        refine e_ldcS C 5 (by decide) rfl dX10_numberWord_45 ?_
        obtain ⟨o20, h23⟩ := h23
        refine e_callV (as := [.retAddr 5]) C wb_X10_word wv_X10_68 (ci := 10) rfl rfl (isO_1 o20) (m_X10_word h23) rfl ⟨Nat.le_of_ble_eq_true rfl, Nat.le_of_ble_eq_true rfl⟩ ⟨Nat.le_of_ble_eq_true rfl, Nat.le_of_ble_eq_true rfl⟩ (by first | exact Nat.le_of_ble_eq_true rfl | (simp only [List.map_cons, List.map_nil, va_cat, List.sum_cons, List.sum_nil]; exact Nat.le_of_ble_eq_true rfl)) dX10_numberWord_47 (kZ (fun w18 M19 h22 => ?_))
        refine e_if_eq (tgt := 57) C dX10_numberWord_50 (by decide) (fun q21 => ?_) (fun q21 => ?_)
        · replace h22 := ite_f h22 (bi_ne q21)
          refine e_iconst (v := -1) C dX10_numberWord_57 (by decide) ?_
          exact e_iret C hr hlk (Nat.le_refl _) (Nat.le_refl _) dX10_numberWord_58 ⟨_, rfl, h22⟩
        · replace h22 := ite_t h22 (bi_t q21)
          refine e_iconst (v := 1) C dX10_numberWord_53 (by decide) ?_
          refine e_goto (tgt := 58) C dX10_numberWord_54 (by decide) ?_
          exact e_iret C hr hlk (Nat.le_refl _) (Nat.le_refl _) dX10_numberWord_58 ⟨_, rfl, h22⟩
    · replace h24 := ite_f h24 (bi_ne q8)
      refine e_iconst (v := -1) C dX10_numberWord_33 (by decide) ?_
      exact e_iret C hr hlk (Nat.le_refl _) (Nat.le_refl _) dX10_numberWord_34 ⟨_, rfl, h24⟩
  · replace h30 := ite_t h30 (bi_t q4)
    refine e_aload_n C 0 dX10_numberWord_9 rfl rfl ?_
    refine e_ldcS C 3 (by decide) rfl dX10_numberWord_10 ?_
    obtain ⟨o27, h30⟩ := h30
    refine e_callV (as := [.retAddr 3]) C wb_X10_word wv_X10_68 (ci := 10) rfl rfl (isO_1 o27) (m_X10_word h30) rfl ⟨Nat.le_of_ble_eq_true rfl, Nat.le_of_ble_eq_true rfl⟩ ⟨Nat.le_of_ble_eq_true rfl, Nat.le_of_ble_eq_true rfl⟩ (by first | exact Nat.le_of_ble_eq_true rfl | (simp only [List.map_cons, List.map_nil, va_cat, List.sum_cons, List.sum_nil]; exact Nat.le_of_ble_eq_true rfl)) dX10_numberWord_12 (kZ (fun w25 M26 h29 => ?_))
    refine e_if_eq (tgt := 22) C dX10_numberWord_15 (by decide) (fun q28 => ?_) (fun q28 => ?_)
    · replace h29 := ite_f h29 (bi_ne q28)
      refine e_iconst (v := -1) C dX10_numberWord_22 (by decide) ?_
      exact e_iret C hr hlk (Nat.le_refl _) (Nat.le_refl _) dX10_numberWord_23 ⟨_, rfl, h29⟩
    · replace h29 := ite_t h29 (bi_t q28)
      refine e_iconst (v := 0) C dX10_numberWord_18 (by decide) ?_
      refine e_goto (tgt := 23) C dX10_numberWord_19 (by decide) ?_
      exact e_iret C hr hlk (Nat.le_refl _) (Nat.le_refl _) dX10_numberWord_23 ⟨_, rfl, h29⟩
theorem m_X10_numberWord  {a0 : Nat} {M : Mem} {Q : Int32 → Mem → Prop} (h : f_X10_numberWord a0 M Q) : Con yX10_numberWord cX10_numberWord 1 (some .int) 6 0 0 [.ref a0] M (rI Q) :=
  con_of2 (al := [(0, .ref a0)]) (by decide) (by exact Nat.le_of_ble_eq_true rfl) (by rfl) (fun p l e s m args below meth c g C hr hlk _ => w_X10_numberWord C hr hlk h)
set_option maxHeartbeats 4000000 in
set_option maxRecDepth 100000 in
theorem w_X10_numberClause_J17 {p : Program} {l : Launch} {e : Env} {s : State} {m : MethodId} {args : Array Value} {below : List Frame} {meth : Method} {c : Code} {g : Geo} (C : Cx p s m args c cX10_numberClause RX10 3 g) (hr : meth.sig.returnType = (some .boolean)) (hlk : meth.locks = false) {a0 : Nat} {v1 : Int32} {t0 : Int32} {M : Mem} {Q : Bool → Mem → Prop} (h : f_X10_numberClause_J17 a0 v1 t0 M Q) : E p l e (rmO 7 0 0) s m args below meth c g 3 (MQ below (QcM g (rZ Q)) args s 0 0 (gA g)) 0 0 17 [(0, .ref a0), (1, .int v1)] [.int t0] M := by
  unfold f_X10_numberClause_J17 at h
  refine e_istore_n (al' := [(2, .int t0), (0, .ref a0), (1, .int v1)]) C dX10_numberClause_17 rfl (by decide) rfl ?_
  refine e_iload_n C 0 dX10_numberClause_18 rfl rfl ?_
  refine e_if_ge (tgt := 24) C dX10_numberClause_19 (by decide) (fun q1 => ?_) (fun q1 => ?_)
  · replace h := ite_t h q1
    refine e_iload_n C 2 dX10_numberClause_24 rfl rfl ?_
    by_cases q2 : v1 = 0
    · replace h := ite_t h q2
      refine e_look (tgt := 52) C dX10_numberClause_25 (by decide) (by rw [q2] <;> rfl) (by decide) ?_
      refine e_aload_n C 1 dX10_numberClause_52 rfl rfl ?_
      refine e_iload_n C 0 dX10_numberClause_53 rfl rfl ?_
      refine e_bipush (v := 20) C dX10_numberClause_54 (by decide) ?_
      refine e_mmin C wd_431 wd_432 wd_12 wd_433 ⟨Nat.le_of_ble_eq_true rfl, Nat.le_of_ble_eq_true rfl⟩ ⟨Nat.le_of_ble_eq_true rfl, Nat.le_of_ble_eq_true rfl⟩ (by first | exact Nat.le_of_ble_eq_true rfl | (simp only [List.map_cons, List.map_nil, va_cat, List.sum_cons, List.sum_nil]; exact Nat.le_of_ble_eq_true rfl)) dX10_numberClause_56 ?_
      obtain ⟨o3, h⟩ := h
      refine e_putI C [10] 0 false (fun z => by cases z) fp_X10_25 o3 dX10_numberClause_59 ?_
      refine nmE (fun M4 e5 => ?_)
      replace h := h M4 e5
      have o6 : isO M4 a0 [10] := by rw [e5]; exact o3
      refine e_goto (tgt := 88) C dX10_numberClause_62 (by decide) ?_
      refine e_iconst (v := 1) C dX10_numberClause_88 (by decide) ?_
      exact e_zret C hr rfl hlk (Nat.le_refl _) (Nat.le_refl _) dX10_numberClause_89 ⟨true, rfl, h⟩
    · replace h := ite_f h q2
      by_cases q7 : v1 = 1
      · replace h := ite_t h q7
        refine e_look (tgt := 65) C dX10_numberClause_25 (by decide) (by rw [q7] <;> rfl) (by decide) ?_
        refine e_aload_n C 1 dX10_numberClause_65 rfl rfl ?_
        refine e_iload_n C 0 dX10_numberClause_66 rfl rfl ?_
        refine e_bipush (v := 20) C dX10_numberClause_67 (by decide) ?_
        refine e_mmin C wd_431 wd_432 wd_12 wd_433 ⟨Nat.le_of_ble_eq_true rfl, Nat.le_of_ble_eq_true rfl⟩ ⟨Nat.le_of_ble_eq_true rfl, Nat.le_of_ble_eq_true rfl⟩ (by first | exact Nat.le_of_ble_eq_true rfl | (simp only [List.map_cons, List.map_nil, va_cat, List.sum_cons, List.sum_nil]; exact Nat.le_of_ble_eq_true rfl)) dX10_numberClause_69 ?_
        obtain ⟨o8, h⟩ := h
        refine e_putI C [10] 1 false (fun z => by cases z) fp_X10_28 o8 dX10_numberClause_72 ?_
        refine nmE (fun M9 e10 => ?_)
        replace h := h M9 e10
        have o11 : isO M9 a0 [10] := by rw [e10]; exact o8
        refine e_goto (tgt := 88) C dX10_numberClause_75 (by decide) ?_
        refine e_iconst (v := 1) C dX10_numberClause_88 (by decide) ?_
        exact e_zret C hr rfl hlk (Nat.le_refl _) (Nat.le_refl _) dX10_numberClause_89 ⟨true, rfl, h⟩
      · replace h := ite_f h q7
        refine e_look (tgt := 78) (off := 53) C dX10_numberClause_25 (by decide) (show Op.lookupswitch.offset [(0, 27), (1, 40)] 53 _ = _ by rw [lv_osw q2 (by decide), lv_osw q7 (by decide)] <;> rfl) (by decide) ?_
        refine e_aload_n C 1 dX10_numberClause_78 rfl rfl ?_
        refine e_iload_n C 0 dX10_numberClause_79 rfl rfl ?_
        refine e_bipush (v := 40) C dX10_numberClause_80 (by decide) ?_
        refine e_mmin C wd_431 wd_432 wd_12 wd_433 ⟨Nat.le_of_ble_eq_true rfl, Nat.le_of_ble_eq_true rfl⟩ ⟨Nat.le_of_ble_eq_true rfl, Nat.le_of_ble_eq_true rfl⟩ (by first | exact Nat.le_of_ble_eq_true rfl | (simp only [List.map_cons, List.map_nil, va_cat, List.sum_cons, List.sum_nil]; exact Nat.le_of_ble_eq_true rfl)) dX10_numberClause_82 ?_
        obtain ⟨o12, h⟩ := h
        refine e_putI C [10] 2 false (fun z => by cases z) fp_X10_11 o12 dX10_numberClause_85 ?_
        refine nmE (fun M13 e14 => ?_)
        replace h := h M13 e14
        have o15 : isO M13 a0 [10] := by rw [e14]; exact o12
        refine e_iconst (v := 1) C dX10_numberClause_88 (by decide) ?_
        exact e_zret C hr rfl hlk (Nat.le_refl _) (Nat.le_refl _) dX10_numberClause_89 ⟨true, rfl, h⟩
  · replace h := ite_f h q1
    refine e_iconst (v := 0) C dX10_numberClause_22 (by decide) ?_
    exact e_zret C hr rfl hlk (Nat.le_refl _) (Nat.le_refl _) dX10_numberClause_23 ⟨false, rfl, h⟩
set_option maxHeartbeats 4000000 in
set_option maxRecDepth 100000 in
theorem w_X10_numberClause {p : Program} {l : Launch} {e : Env} {s : State} {m : MethodId} {args : Array Value} {below : List Frame} {meth : Method} {c : Code} {g : Geo} (C : Cx p s m args c cX10_numberClause RX10 3 g) (hr : meth.sig.returnType = (some .boolean)) (hlk : meth.locks = false) {a0 : Nat} {M : Mem} {Q : Bool → Mem → Prop} (h : f_X10_numberClause a0 M Q) : E p l e (rmO 7 0 0) s m args below meth c g 3 (MQ below (QcM g (rZ Q)) args s 0 0 (gA g)) 0 0 0 [(0, .ref a0)] [] M := by
  unfold f_X10_numberClause at h
  refine e_aload_n C 0 dX10_numberClause_0 rfl rfl ?_
  obtain ⟨o3, h⟩ := h
  refine e_callV (as := []) C wb_X10_numberWord wv_X10_80 (ci := 10) rfl rfl (isO_1 o3) (m_X10_numberWord h) rfl ⟨Nat.le_of_ble_eq_true rfl, Nat.le_of_ble_eq_true rfl⟩ ⟨Nat.le_of_ble_eq_true rfl, Nat.le_of_ble_eq_true rfl⟩ (by first | exact Nat.le_of_ble_eq_true rfl | (simp only [List.map_cons, List.map_nil, va_cat, List.sum_cons, List.sum_nil]; exact Nat.le_of_ble_eq_true rfl)) dX10_numberClause_1 (kI (fun w1 M2 h9 => ?_))
  refine e_istore_n (al' := [(1, .int w1), (0, .ref a0)]) C dX10_numberClause_4 rfl (by decide) rfl ?_
  refine e_iload_n C 0 dX10_numberClause_5 rfl rfl ?_
  refine e_if_ge (tgt := 13) C dX10_numberClause_6 (by decide) (fun q4 => ?_) (fun q4 => ?_)
  · replace h9 := ite_t h9 q4
    refine e_aload_n C 1 dX10_numberClause_13 rfl rfl ?_
    obtain ⟨o7, h9⟩ := h9
    refine e_callV (as := []) C wb_X10_number wv_X10_83 (ci := 10) rfl rfl (isO_1 o7) (m_X10_number h9) rfl ⟨Nat.le_of_ble_eq_true rfl, Nat.le_of_ble_eq_true rfl⟩ ⟨Nat.le_of_ble_eq_true rfl, Nat.le_of_ble_eq_true rfl⟩ (by first | exact Nat.le_of_ble_eq_true rfl | (simp only [List.map_cons, List.map_nil, va_cat, List.sum_cons, List.sum_nil]; exact Nat.le_of_ble_eq_true rfl)) dX10_numberClause_14 (kI (fun w5 M6 h8 => ?_))
    refine e_pick [1, 0] rfl ?_
    exact w_X10_numberClause_J17 C hr hlk h8
  · replace h9 := ite_f h9 q4
    refine e_iconst (v := -1) C dX10_numberClause_9 (by decide) ?_
    refine e_goto (tgt := 17) C dX10_numberClause_10 (by decide) ?_
    refine e_pick [1, 0] rfl ?_
    exact w_X10_numberClause_J17 C hr hlk h9
theorem m_X10_numberClause  {a0 : Nat} {M : Mem} {Q : Bool → Mem → Prop} (h : f_X10_numberClause a0 M Q) : Con yX10_numberClause cX10_numberClause 3 (some .boolean) 7 0 0 [.ref a0] M (rZ Q) :=
  con_of2 (al := [(0, .ref a0)]) (by decide) (by exact Nat.le_of_ble_eq_true rfl) (by rfl) (fun p l e s m args below meth c g C hr hlk _ => w_X10_numberClause C hr hlk h)
set_option maxHeartbeats 4000000 in
set_option maxRecDepth 100000 in
theorem w_X10_parse_J109 {p : Program} {l : Launch} {e : Env} {s : State} {m : MethodId} {args : Array Value} {below : List Frame} {meth : Method} {c : Code} {g : Geo} (C : Cx p s m args c cX10_parse RX10 5 g) (hr : meth.sig.returnType = (some .int)) (hlk : meth.locks = false) {a0 : Nat} {r1 : Option Nat} {x2 : Int32} {M : Mem} {Q : Int32 → Mem → Prop} (h : f_X10_parse_J109 a0 r1 x2 M Q) : E p l e (rmO 32 0 0) s m args below meth c g 5 (MQ below (QcM g (rI Q)) args s 0 0 (gA g)) 0 0 109 [(0, .ref a0), (1, va_rf r1), (2, .int x2)] [] M := by
  unfold f_X10_parse_J109 at h
  refine e_aload_n C 0 dX10_parse_109 rfl rfl ?_
  obtain ⟨o1, h⟩ := h
  refine e_getI C [10] 10 (fg_of fg_X10_44) o1 dX10_parse_110 ?_
  exact e_iret C hr hlk (Nat.le_refl _) (Nat.le_refl _) dX10_parse_113 ⟨_, rfl, h⟩
set_option maxHeartbeats 4000000 in
set_option maxRecDepth 100000 in
theorem w_X10_parse_J89 {p : Program} {l : Launch} {e : Env} {s : State} {m : MethodId} {args : Array Value} {below : List Frame} {meth : Method} {c : Code} {g : Geo} (C : Cx p s m args c cX10_parse RX10 5 g) (hr : meth.sig.returnType = (some .int)) (hlk : meth.locks = false) {a0 : Nat} {r1 : Option Nat} {x2 : Int32} {v3 : Int32} {v4 : Int32} {M : Mem} {K43 : Int32 × Mem → Prop} {Q : Int32 → Mem → Prop} (hK43 : ∀ z : Int32 × Mem, K43 z → E p l e (rmO 32 0 0) s m args below meth c g 5 (MQ below (QcM g (rI Q)) args s 0 0 (gA g)) 0 0 43 [(0, .ref a0), (1, va_rf r1), (2, .int x2), (3, .int z.1)] [] (z.2)) (h : f_X10_parse_J89 a0 r1 x2 v3 v4 M K43 Q) : E p l e (rmO 32 0 0) s m args below meth c g 5 (MQ below (QcM g (rI Q)) args s 0 0 (gA g)) 0 0 89 [(0, .ref a0), (1, va_rf r1), (2, .int x2), (3, .int v3), (4, .int v4)] [] M := by
  unfold f_X10_parse_J89 at h
  refine e_iload C 4 dX10_parse_89 rfl ?_
  refine e_if_eq (tgt := 109) C dX10_parse_91 (by decide) (fun q1 => ?_) (fun q1 => ?_)
  · replace h := ite_t h q1
    refine e_pick [0, 1, 2] rfl ?_
    exact w_X10_parse_J109 C hr hlk h
  · replace h := ite_f h q1
    refine e_iload_n C 3 dX10_parse_94 rfl rfl ?_
    refine e_bipush (v := 8) C dX10_parse_95 (by decide) ?_
    refine e_icmp_eq (tgt := 109) C dX10_parse_97 (by decide) (fun q2 => ?_) (fun q2 => ?_)
    · replace h := ite_t h q2
      refine e_pick [0, 1, 2] rfl ?_
      exact w_X10_parse_J109 C hr hlk h
    · replace h := ite_f h q2
      refine e_aload_n C 0 dX10_parse_100 rfl rfl ?_
      refine e_bipush (v := 59) C dX10_parse_101 (by decide) ?_
      obtain ⟨o5, h⟩ := h
      refine e_callV (as := [.int (59 : Int32)]) C wb_X10_skip wv_X10_47 (ci := 10) rfl rfl (isO_1 o5) (m_X10_skip h) rfl ⟨Nat.le_of_ble_eq_true rfl, Nat.le_of_ble_eq_true rfl⟩ ⟨Nat.le_of_ble_eq_true rfl, Nat.le_of_ble_eq_true rfl⟩ (by first | exact Nat.le_of_ble_eq_true rfl | (simp only [List.map_cons, List.map_nil, va_cat, List.sum_cons, List.sum_nil]; exact Nat.le_of_ble_eq_true rfl)) dX10_parse_103 (kZ (fun w3 M4 h7 => ?_))
      refine e_if_ne (tgt := 114) C dX10_parse_106 (by decide) (fun q6 => ?_) (fun q6 => ?_)
      · replace h7 := ite_t h7 (bi_t q6)
        refine e_iinc (v := (v3 + 1)) (al' := [(3, .int (v3 + 1)), (0, .ref a0), (1, va_rf r1), (2, .int x2), (4, .int v4)]) C 3 dX10_parse_114 rfl rfl (by decide) rfl ?_
        refine e_goto (tgt := 43) C dX10_parse_117 (by decide) ?_
        refine e_pick [1, 2, 3, 0] rfl ?_
        exact hK43 ((v3 + 1), M4) h7
      · replace h7 := ite_f h7 (bi_ne q6)
        refine e_pick [0, 1, 2] rfl ?_
        exact w_X10_parse_J109 C hr hlk h7
set_option maxHeartbeats 4000000 in
set_option maxRecDepth 100000 in
theorem w_X10_parse_J69 {p : Program} {l : Launch} {e : Env} {s : State} {m : MethodId} {args : Array Value} {below : List Frame} {meth : Method} {c : Code} {g : Geo} (C : Cx p s m args c cX10_parse RX10 5 g) (hr : meth.sig.returnType = (some .int)) (hlk : meth.locks = false) {a0 : Nat} {r1 : Option Nat} {x2 : Int32} {v3 : Int32} {t0 : Int32} {M : Mem} {K43 : Int32 × Mem → Prop} {Q : Int32 → Mem → Prop} (hK43 : ∀ z : Int32 × Mem, K43 z → E p l e (rmO 32 0 0) s m args below meth c g 5 (MQ below (QcM g (rI Q)) args s 0 0 (gA g)) 0 0 43 [(0, .ref a0), (1, va_rf r1), (2, .int x2), (3, .int z.1)] [] (z.2)) (h : f_X10_parse_J69 a0 r1 x2 v3 t0 M K43 Q) : E p l e (rmO 32 0 0) s m args below meth c g 5 (MQ below (QcM g (rI Q)) args s 0 0 (gA g)) 0 0 69 [(0, .ref a0), (1, va_rf r1), (2, .int x2), (3, .int v3)] [.int t0] M := by
  unfold f_X10_parse_J69 at h
  refine e_istore (al' := [(4, .int t0), (0, .ref a0), (1, va_rf r1), (2, .int x2), (3, .int v3)]) C dX10_parse_69 (by decide) rfl ?_
  refine e_iload C 0 dX10_parse_71 rfl ?_
  refine e_if_eq (tgt := 89) C dX10_parse_73 (by decide) (fun q1 => ?_) (fun q1 => ?_)
  · replace h := ite_t h q1
    refine e_pick [1, 2, 3, 4, 0] rfl ?_
    exact w_X10_parse_J89 C hr hlk hK43 h
  · replace h := ite_f h q1
    refine e_aload_n C 1 dX10_parse_76 rfl rfl ?_
    obtain ⟨o2, h⟩ := h
    refine e_getI C [10] 10 (fg_of fg_X10_44) o2 dX10_parse_77 ?_
    refine e_aload_n C 1 dX10_parse_80 rfl rfl ?_
    refine e_getI C [10] 9 (fg_of fg_X10_41) o2 dX10_parse_81 ?_
    refine e_icmp_ne (tgt := 89) C dX10_parse_84 (by decide) (fun q3 => ?_) (fun q3 => ?_)
    · replace h := ite_f h q3
      refine e_pick [1, 2, 3, 4, 0] rfl ?_
      exact w_X10_parse_J89 C hr hlk hK43 h
    · replace h := ite_t h q3
      refine e_iconst (v := -1) C dX10_parse_87 (by decide) ?_
      exact e_iret C hr hlk (Nat.le_refl _) (Nat.le_refl _) dX10_parse_88 ⟨_, rfl, h⟩
set_option maxHeartbeats 4000000 in
set_option maxRecDepth 100000 in
theorem w_X10_parse_B43 {p : Program} {l : Launch} {e : Env} {s : State} {m : MethodId} {args : Array Value} {below : List Frame} {meth : Method} {c : Code} {g : Geo} (C : Cx p s m args c cX10_parse RX10 5 g) (hr : meth.sig.returnType = (some .int)) (hlk : meth.locks = false) {a0 : Nat} {r1 : Option Nat} {x2 : Int32} {v3 : Int32} {M : Mem} {K43 : Int32 × Mem → Prop} {Q : Int32 → Mem → Prop} (hK43 : ∀ z : Int32 × Mem, K43 z → E p l e (rmO 32 0 0) s m args below meth c g 5 (MQ below (QcM g (rI Q)) args s 0 0 (gA g)) 0 0 43 [(0, .ref a0), (1, va_rf r1), (2, .int x2), (3, .int z.1)] [] (z.2)) (h : f_X10_parse_B43 a0 r1 x2 v3 M K43 Q) : E p l e (rmO 32 0 0) s m args below meth c g 5 (MQ below (QcM g (rI Q)) args s 0 0 (gA g)) 0 0 43 [(0, .ref a0), (1, va_rf r1), (2, .int x2), (3, .int v3)] [] M := by
  unfold f_X10_parse_B43 at h
  refine e_iload_n C 3 dX10_parse_43 rfl rfl ?_
  refine e_bipush (v := 8) C dX10_parse_44 (by decide) ?_
  refine e_icmp_gt (tgt := 120) C dX10_parse_46 (by decide) (fun q1 => ?_) (fun q1 => ?_)
  · replace h := ite_t h q1
    refine e_aload_n C 0 dX10_parse_120 rfl rfl ?_
    obtain ⟨o2, h⟩ := h
    refine e_getI C [10] 10 (fg_of fg_X10_44) o2 dX10_parse_121 ?_
    exact e_iret C hr hlk (Nat.le_refl _) (Nat.le_refl _) dX10_parse_124 ⟨_, rfl, h⟩
  · replace h := ite_f h q1
    refine e_aload_n C 0 dX10_parse_49 rfl rfl ?_
    refine e_bipush (v := 99) C dX10_parse_50 (by decide) ?_
    obtain ⟨o5, h⟩ := h
    refine e_callV (as := [.int (99 : Int32)]) C wb_X10_skip wv_X10_47 (ci := 10) rfl rfl (isO_1 o5) (m_X10_skip h) rfl ⟨Nat.le_of_ble_eq_true rfl, Nat.le_of_ble_eq_true rfl⟩ ⟨Nat.le_of_ble_eq_true rfl, Nat.le_of_ble_eq_true rfl⟩ (by first | exact Nat.le_of_ble_eq_true rfl | (simp only [List.map_cons, List.map_nil, va_cat, List.sum_cons, List.sum_nil]; exact Nat.le_of_ble_eq_true rfl)) dX10_parse_52 (kZ (fun w3 M4 h15 => ?_))
    refine e_if_eq (tgt := 65) C dX10_parse_55 (by decide) (fun q6 => ?_) (fun q6 => ?_)
    · replace h15 := ite_f h15 (bi_ne q6)
      refine e_aload_n C 0 dX10_parse_65 rfl rfl ?_
      obtain ⟨o9, h15⟩ := h15
      refine e_callV (as := []) C wb_X10_numberClause wv_X10_55 (ci := 10) rfl rfl (isO_1 o9) (m_X10_numberClause h15) rfl ⟨Nat.le_of_ble_eq_true rfl, Nat.le_of_ble_eq_true rfl⟩ ⟨Nat.le_of_ble_eq_true rfl, Nat.le_of_ble_eq_true rfl⟩ (by first | exact Nat.le_of_ble_eq_true rfl | (simp only [List.map_cons, List.map_nil, va_cat, List.sum_cons, List.sum_nil]; exact Nat.le_of_ble_eq_true rfl)) dX10_parse_66 (kZ (fun w7 M8 h10 => ?_))
      exact w_X10_parse_J69 C hr hlk hK43 h10
    · replace h15 := ite_t h15 (bi_t q6)
      refine e_aload_n C 0 dX10_parse_58 rfl rfl ?_
      obtain ⟨o13, h15⟩ := h15
      refine e_callV (as := []) C wb_X10_comeClause wv_X10_51 (ci := 10) rfl rfl (isO_1 o13) (m_X10_comeClause h15) rfl ⟨Nat.le_of_ble_eq_true rfl, Nat.le_of_ble_eq_true rfl⟩ ⟨Nat.le_of_ble_eq_true rfl, Nat.le_of_ble_eq_true rfl⟩ (by first | exact Nat.le_of_ble_eq_true rfl | (simp only [List.map_cons, List.map_nil, va_cat, List.sum_cons, List.sum_nil]; exact Nat.le_of_ble_eq_true rfl)) dX10_parse_59 (kZ (fun w11 M12 h14 => ?_))
      refine e_goto (tgt := 69) C dX10_parse_62 (by decide) ?_
      exact w_X10_parse_J69 C hr hlk hK43 h14
set_option maxHeartbeats 4000000 in
set_option maxRecDepth 100000 in
theorem w_X10_parse_L43 {p : Program} {l : Launch} {e : Env} {s : State} {m : MethodId} {args : Array Value} {below : List Frame} {meth : Method} {c : Code} {g : Geo} (C : Cx p s m args c cX10_parse RX10 5 g) (hr : meth.sig.returnType = (some .int)) (hlk : meth.locks = false) {a0 : Nat} {r1 : Option Nat} {x2 : Int32} {v3 : Int32} {M : Mem} {Q : Int32 → Mem → Prop} (h : f_X10_parse_L43 a0 r1 x2 v3 M Q) : E p l e (rmO 32 0 0) s m args below meth c g 5 (MQ below (QcM g (rI Q)) args s 0 0 (gA g)) 0 0 43 [(0, .ref a0), (1, va_rf r1), (2, .int x2), (3, .int v3)] [] M := by
  unfold f_X10_parse_L43 at h
  refine loop_E (W := fun z : Int32 × Mem => E p l e (rmO 32 0 0) s m args below meth c g 5 (MQ below (QcM g (rI Q)) args s 0 0 (gA g)) 0 0 43 [(0, .ref a0), (1, va_rf r1), (2, .int x2), (3, .int z.1)] [] (z.2)) h (fun K z hK h => ?_)
  exact w_X10_parse_B43 C hr hlk hK h
set_option maxHeartbeats 4000000 in
set_option maxRecDepth 100000 in
theorem w_X10_parse {p : Program} {l : Launch} {e : Env} {s : State} {m : MethodId} {args : Array Value} {below : List Frame} {meth : Method} {c : Code} {g : Geo} (C : Cx p s m args c cX10_parse RX10 5 g) (hr : meth.sig.returnType = (some .int)) (hlk : meth.locks = false) {a0 : Nat} {r1 : Option Nat} {x2 : Int32} {M : Mem} {Q : Int32 → Mem → Prop} (h : f_X10_parse a0 r1 x2 M Q) : E p l e (rmO 32 0 0) s m args below meth c g 5 (MQ below (QcM g (rI Q)) args s 0 0 (gA g)) 0 0 0 [(0, .ref a0), (1, va_rf r1), (2, .int x2)] [] M := by
  unfold f_X10_parse at h
  refine e_aload_n C 0 dX10_parse_0 rfl rfl ?_
  refine e_iconst (v := 0) C dX10_parse_1 (by decide) ?_
  obtain ⟨o1, h⟩ := h
  refine e_putI C [10] 0 false (fun z => by cases z) fp_X10_25 o1 dX10_parse_2 ?_
  refine nmE (fun M2 e3 => ?_)
  replace h := h M2 e3
  have o4 : isO M2 a0 [10] := by rw [e3]; exact o1
  refine e_aload_n C 0 dX10_parse_5 rfl rfl ?_
  refine e_iconst (v := 0) C dX10_parse_6 (by decide) ?_
  refine e_putI C [10] 1 false (fun z => by cases z) fp_X10_28 o4 dX10_parse_7 ?_
  refine nmE (fun M5 e6 => ?_)
  replace h := h M5 e6
  have o7 : isO M5 a0 [10] := by rw [e6]; exact o4
  refine e_aload_n C 0 dX10_parse_10 rfl rfl ?_
  refine e_bipush (v := 30) C dX10_parse_11 (by decide) ?_
  refine e_putI C [10] 2 false (fun z => by cases z) fp_X10_11 o7 dX10_parse_13 ?_
  refine nmE (fun M8 e9 => ?_)
  replace h := h M8 e9
  have o10 : isO M8 a0 [10] := by rw [e9]; exact o7
  refine e_aload_n C 0 dX10_parse_16 rfl rfl ?_
  refine e_iconst (v := 0) C dX10_parse_17 (by decide) ?_
  refine e_putI C [10] 3 false (fun z => by cases z) fp_X10_31 o10 dX10_parse_18 ?_
  refine nmE (fun M11 e12 => ?_)
  replace h := h M11 e12
  have o13 : isO M11 a0 [10] := by rw [e12]; exact o10
  refine e_aload_n C 0 dX10_parse_21 rfl rfl ?_
  refine e_iconst (v := 0) C dX10_parse_22 (by decide) ?_
  refine e_putI C [10] 7 false (fun z => by cases z) fp_X10_34 o13 dX10_parse_23 ?_
  refine nmE (fun M14 e15 => ?_)
  replace h := h M14 e15
  have o16 : isO M14 a0 [10] := by rw [e15]; exact o13
  refine e_aload_n C 0 dX10_parse_26 rfl rfl ?_
  refine e_rload_n C 1 dX10_parse_27 rfl rfl ?_
  refine e_putR (x := r1) C [10] 8 false (fun z => by cases z) fp_X10_37 o16 dX10_parse_28 ?_
  refine nmE (fun M17 e18 => ?_)
  replace h := h M17 e18
  have o19 : isO M17 a0 [10] := by rw [e18]; exact o16
  refine e_aload_n C 0 dX10_parse_31 rfl rfl ?_
  refine e_iload_n C 2 dX10_parse_32 rfl rfl ?_
  refine e_putI C [10] 9 false (fun z => by cases z) fp_X10_41 o19 dX10_parse_33 ?_
  refine nmE (fun M20 e21 => ?_)
  replace h := h M20 e21
  have o22 : isO M20 a0 [10] := by rw [e21]; exact o19
  refine e_aload_n C 0 dX10_parse_36 rfl rfl ?_
  refine e_iconst (v := 0) C dX10_parse_37 (by decide) ?_
  refine e_putI C [10] 10 false (fun z => by cases z) fp_X10_44 o22 dX10_parse_38 ?_
  refine nmE (fun M23 e24 => ?_)
  replace h := h M23 e24
  have o25 : isO M23 a0 [10] := by rw [e24]; exact o22
  refine e_iconst (v := 1) C dX10_parse_41 (by decide) ?_
  refine e_istore_n (al' := [(3, .int (1 : Int32)), (0, .ref a0), (1, va_rf r1), (2, .int x2)]) C dX10_parse_42 rfl (by decide) rfl ?_
  refine e_pick [1, 2, 3, 0] rfl ?_
  exact w_X10_parse_L43 C hr hlk h
theorem m_X10_parse  {a0 : Nat} {r1 : Option Nat} {x2 : Int32} {M : Mem} {Q : Int32 → Mem → Prop} (h : f_X10_parse a0 r1 x2 M Q) : Con yX10_parse cX10_parse 5 (some .int) 32 0 0 [.ref a0, va_rf r1, .int x2] M (rI Q) :=
  con_of2 (al := [(0, .ref a0), (1, va_rf r1), (2, .int x2)]) (by decide) (by cases r1 <;> exact Nat.le_of_ble_eq_true rfl) (by cases r1 <;> rfl) (fun p l e s m args below meth c g C hr hlk _ => w_X10_parse C hr hlk h)
