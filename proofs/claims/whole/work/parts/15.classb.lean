/-! ===== generated: the machine keeps f_ ===== -/
set_option maxHeartbeats 4000000 in
set_option maxRecDepth 100000 in
theorem w_X11_price_J134 {p : Program} {l : Launch} {e : Env} {s : State} {m : MethodId} {args : Array Value} {below : List Frame} {meth : Method} {c : Code} {g : Geo} (C : Cx p s m args c cX11_price RX11 12 g) (hr : meth.sig.returnType = (some .int)) (hlk : meth.locks = false) {a0 : Nat} {x1 : Int32} {x2 : Int32} {v3 : Option Nat} {v4 : Int32} {v5 : Int32} {v6 : Int32} {v7 : Int32} {v8 : Int32} {v9 : Int32} {M : Mem} {K41 : (Option Nat) × Int32 × Int32 × Int32 × Int32 × Int32 × Int32 × Mem → Prop} {Q : Int32 → Mem → Prop} (hK41 : ∀ z : (Option Nat) × Int32 × Int32 × Int32 × Int32 × Int32 × Int32 × Mem, K41 z → E p l e (rmO 7 0 0) s m args below meth c g 12 (MQ below (QcM g (rI Q)) args s 0 0 (gA g)) 0 0 41 [(0, .ref a0), (1, .int x1), (2, .int x2), (3, va_rf z.1), (4, .int z.2.1), (5, .int z.2.2.1), (6, .int z.2.2.2.1), (7, .int z.2.2.2.2.1), (8, .int z.2.2.2.2.2.1), (9, .int z.2.2.2.2.2.2.1)] [] (z.2.2.2.2.2.2.2)) (h : f_X11_price_J134 a0 x1 x2 v3 v4 v5 v6 v7 v8 v9 M K41 Q) : E p l e (rmO 7 0 0) s m args below meth c g 12 (MQ below (QcM g (rI Q)) args s 0 0 (gA g)) 0 0 134 [(0, .ref a0), (1, .int x1), (2, .int x2), (3, va_rf v3), (4, .int v4), (5, .int v5), (6, .int v6), (7, .int v7), (8, .int v8), (9, .int v9)] [] M := by
  unfold f_X11_price_J134 at h
  refine e_iinc (v := (v9 + 1)) (al' := [(9, .int (v9 + 1)), (0, .ref a0), (1, .int x1), (2, .int x2), (3, va_rf v3), (4, .int v4), (5, .int v5), (6, .int v6), (7, .int v7), (8, .int v8)]) C 9 dX11_price_134 rfl rfl (by decide) rfl ?_
  refine e_goto (tgt := 41) C dX11_price_137 (by decide) ?_
  refine e_pick [1, 2, 3, 4, 5, 6, 7, 8, 9, 0] rfl ?_
  exact hK41 (v3, v4, v5, v6, v7, v8, (v9 + 1), M) h
set_option maxHeartbeats 4000000 in
set_option maxRecDepth 100000 in
theorem w_X11_price_J114 {p : Program} {l : Launch} {e : Env} {s : State} {m : MethodId} {args : Array Value} {below : List Frame} {meth : Method} {c : Code} {g : Geo} (C : Cx p s m args c cX11_price RX11 12 g) (hr : meth.sig.returnType = (some .int)) (hlk : meth.locks = false) {a0 : Nat} {x1 : Int32} {x2 : Int32} {v3 : Option Nat} {v4 : Int32} {v5 : Int32} {v6 : Int32} {v7 : Int32} {v8 : Int32} {v9 : Int32} {v11 : Int32} {M : Mem} {K41 : (Option Nat) × Int32 × Int32 × Int32 × Int32 × Int32 × Int32 × Mem → Prop} {Q : Int32 → Mem → Prop} (hK41 : ∀ z : (Option Nat) × Int32 × Int32 × Int32 × Int32 × Int32 × Int32 × Mem, K41 z → E p l e (rmO 7 0 0) s m args below meth c g 12 (MQ below (QcM g (rI Q)) args s 0 0 (gA g)) 0 0 41 [(0, .ref a0), (1, .int x1), (2, .int x2), (3, va_rf z.1), (4, .int z.2.1), (5, .int z.2.2.1), (6, .int z.2.2.2.1), (7, .int z.2.2.2.2.1), (8, .int z.2.2.2.2.2.1), (9, .int z.2.2.2.2.2.2.1)] [] (z.2.2.2.2.2.2.2)) (h : f_X11_price_J114 a0 x1 x2 v3 v4 v5 v6 v7 v8 v9 v11 M K41 Q) : E p l e (rmO 7 0 0) s m args below meth c g 12 (MQ below (QcM g (rI Q)) args s 0 0 (gA g)) 0 0 114 [(0, .ref a0), (1, .int x1), (2, .int x2), (3, va_rf v3), (4, .int v4), (5, .int v5), (6, .int v6), (7, .int v7), (8, .int v8), (9, .int v9), (11, .int v11)] [] M := by
  unfold f_X11_price_J114 at h
  refine e_iload C 9 dX11_price_114 rfl ?_
  refine e_iconst (v := 1) C dX11_price_116 (by decide) ?_
  refine e_icmp_lt (tgt := 134) C dX11_price_117 (by decide) (fun q1 => ?_) (fun q1 => ?_)
  · replace h := ite_t h q1
    refine e_pick [0, 1, 2, 3, 4, 5, 6, 7, 8, 9] rfl ?_
    exact w_X11_price_J134 C hr hlk hK41 h
  · replace h := ite_f h q1
    refine e_iload C 10 dX11_price_120 rfl ?_
    refine e_if_ne (tgt := 134) C dX11_price_122 (by decide) (fun q2 => ?_) (fun q2 => ?_)
    · replace h := ite_f h q2
      refine e_pick [0, 1, 2, 3, 4, 5, 6, 7, 8, 9] rfl ?_
      exact w_X11_price_J134 C hr hlk hK41 h
    · replace h := ite_t h q2
      refine e_iload C 6 dX11_price_125 rfl ?_
      refine e_if_ge (tgt := 134) C dX11_price_127 (by decide) (fun q3 => ?_) (fun q3 => ?_)
      · replace h := ite_t h q3
        refine e_pick [0, 1, 2, 3, 4, 5, 6, 7, 8, 9] rfl ?_
        exact w_X11_price_J134 C hr hlk hK41 h
      · replace h := ite_f h q3
        refine e_iload C 9 dX11_price_130 rfl ?_
        refine e_istore (al' := [(6, .int v9), (0, .ref a0), (1, .int x1), (2, .int x2), (3, va_rf v3), (4, .int v4), (5, .int v5), (7, .int v7), (8, .int v8), (9, .int v9), (11, .int v11)]) C dX11_price_132 (by decide) rfl ?_
        refine e_pick [1, 2, 3, 4, 5, 6, 0, 7, 8, 9] rfl ?_
        exact w_X11_price_J134 C hr hlk hK41 h
set_option maxHeartbeats 4000000 in
set_option maxRecDepth 100000 in
theorem w_X11_price_J99 {p : Program} {l : Launch} {e : Env} {s : State} {m : MethodId} {args : Array Value} {below : List Frame} {meth : Method} {c : Code} {g : Geo} (C : Cx p s m args c cX11_price RX11 12 g) (hr : meth.sig.returnType = (some .int)) (hlk : meth.locks = false) {a0 : Nat} {x1 : Int32} {x2 : Int32} {v3 : Option Nat} {v4 : Int32} {v5 : Int32} {v6 : Int32} {v7 : Int32} {v8 : Int32} {v9 : Int32} {v11 : Int32} {M : Mem} {K41 : (Option Nat) × Int32 × Int32 × Int32 × Int32 × Int32 × Int32 × Mem → Prop} {Q : Int32 → Mem → Prop} (hK41 : ∀ z : (Option Nat) × Int32 × Int32 × Int32 × Int32 × Int32 × Int32 × Mem, K41 z → E p l e (rmO 7 0 0) s m args below meth c g 12 (MQ below (QcM g (rI Q)) args s 0 0 (gA g)) 0 0 41 [(0, .ref a0), (1, .int x1), (2, .int x2), (3, va_rf z.1), (4, .int z.2.1), (5, .int z.2.2.1), (6, .int z.2.2.2.1), (7, .int z.2.2.2.2.1), (8, .int z.2.2.2.2.2.1), (9, .int z.2.2.2.2.2.2.1)] [] (z.2.2.2.2.2.2.2)) (h : f_X11_price_J99 a0 x1 x2 v3 v4 v5 v6 v7 v8 v9 v11 M K41 Q) : E p l e (rmO 7 0 0) s m args below meth c g 12 (MQ below (QcM g (rI Q)) args s 0 0 (gA g)) 0 0 99 [(0, .ref a0), (1, .int x1), (2, .int x2), (3, va_rf v3), (4, .int v4), (5, .int v5), (6, .int v6), (7, .int v7), (8, .int v8), (9, .int v9), (11, .int v11)] [] M := by
  unfold f_X11_price_J99 at h
  refine e_iload C 10 dX11_price_99 rfl ?_
  refine e_iload C 8 dX11_price_101 rfl ?_
  refine e_icmp_le (tgt := 114) C dX11_price_103 (by decide) (fun q1 => ?_) (fun q1 => ?_)
  · replace h := ite_t h q1
    exact w_X11_price_J114 C hr hlk hK41 h
  · replace h := ite_f h q1
    refine e_iload C 10 dX11_price_106 rfl ?_
    refine e_istore (al' := [(8, .int v11), (0, .ref a0), (1, .int x1), (2, .int x2), (3, va_rf v3), (4, .int v4), (5, .int v5), (6, .int v6), (7, .int v7), (9, .int v9), (11, .int v11)]) C dX11_price_108 (by decide) rfl ?_
    refine e_iload C 9 dX11_price_110 rfl ?_
    refine e_istore (al' := [(5, .int v9), (8, .int v11), (0, .ref a0), (1, .int x1), (2, .int x2), (3, va_rf v3), (4, .int v4), (6, .int v6), (7, .int v7), (9, .int v9), (11, .int v11)]) C dX11_price_112 (by decide) rfl ?_
    refine e_pick [2, 3, 4, 5, 6, 0, 7, 8, 1, 9, 10] rfl ?_
    exact w_X11_price_J114 C hr hlk hK41 h
set_option maxHeartbeats 4000000 in
set_option maxRecDepth 100000 in
theorem w_X11_price_B41 {p : Program} {l : Launch} {e : Env} {s : State} {m : MethodId} {args : Array Value} {below : List Frame} {meth : Method} {c : Code} {g : Geo} (C : Cx p s m args c cX11_price RX11 12 g) (hr : meth.sig.returnType = (some .int)) (hlk : meth.locks = false) {a0 : Nat} {x1 : Int32} {x2 : Int32} {v3 : Option Nat} {v4 : Int32} {v5 : Int32} {v6 : Int32} {v7 : Int32} {v8 : Int32} {v9 : Int32} {M : Mem} {K41 : (Option Nat) × Int32 × Int32 × Int32 × Int32 × Int32 × Int32 × Mem → Prop} {Q : Int32 → Mem → Prop} (hK41 : ∀ z : (Option Nat) × Int32 × Int32 × Int32 × Int32 × Int32 × Int32 × Mem, K41 z → E p l e (rmO 7 0 0) s m args below meth c g 12 (MQ below (QcM g (rI Q)) args s 0 0 (gA g)) 0 0 41 [(0, .ref a0), (1, .int x1), (2, .int x2), (3, va_rf z.1), (4, .int z.2.1), (5, .int z.2.2.1), (6, .int z.2.2.2.1), (7, .int z.2.2.2.2.1), (8, .int z.2.2.2.2.2.1), (9, .int z.2.2.2.2.2.2.1)] [] (z.2.2.2.2.2.2.2)) (h : f_X11_price_B41 a0 x1 x2 v3 v4 v5 v6 v7 v8 v9 M K41 Q) : E p l e (rmO 7 0 0) s m args below meth c g 12 (MQ below (QcM g (rI Q)) args s 0 0 (gA g)) 0 0 41 [(0, .ref a0), (1, .int x1), (2, .int x2), (3, va_rf v3), (4, .int v4), (5, .int v5), (6, .int v6), (7, .int v7), (8, .int v8), (9, .int v9)] [] M := by
  unfold f_X11_price_B41 at h
  refine e_iload C 9 dX11_price_41 rfl ?_
  refine e_bipush (v := 20) C dX11_price_43 (by decide) ?_
  refine e_icmp_gt (tgt := 140) C dX11_price_45 (by decide) (fun q1 => ?_) (fun q1 => ?_)
  · replace h := ite_t h q1
    refine e_iload_n C 2 dX11_price_140 rfl rfl ?_
    by_cases q2 : x2 = 0
    · replace h := ite_t h q2
      refine e_tin (tgt := 172) C dX11_price_141 (by rw [q2]; decide) (by rw [q2]; decide) (by rw [q2] <;> rfl) (by decide) ?_
      refine e_iload C 4 dX11_price_172 rfl ?_
      exact e_iret C hr hlk (Nat.le_refl _) (Nat.le_refl _) dX11_price_174 ⟨_, rfl, h⟩
    · replace h := ite_f h q2
      by_cases q3 : x2 = 1
      · replace h := ite_t h q3
        refine e_tin (tgt := 175) C dX11_price_141 (by rw [q3]; decide) (by rw [q3]; decide) (by rw [q3] <;> rfl) (by decide) ?_
        refine e_iload C 5 dX11_price_175 rfl ?_
        exact e_iret C hr hlk (Nat.le_refl _) (Nat.le_refl _) dX11_price_177 ⟨_, rfl, h⟩
      · replace h := ite_f h q3
        by_cases q4 : x2 = 2
        · replace h := ite_t h q4
          refine e_tin (tgt := 178) C dX11_price_141 (by rw [q4]; decide) (by rw [q4]; decide) (by rw [q4] <;> rfl) (by decide) ?_
          refine e_iload C 6 dX11_price_178 rfl ?_
          exact e_iret C hr hlk (Nat.le_refl _) (Nat.le_refl _) dX11_price_180 ⟨_, rfl, h⟩
        · replace h := ite_f h q4
          by_cases q5 : x2 = 3
          · replace h := ite_t h q5
            refine e_tin (tgt := 181) C dX11_price_141 (by rw [q5]; decide) (by rw [q5]; decide) (by rw [q5] <;> rfl) (by decide) ?_
            refine e_iload C 7 dX11_price_181 rfl ?_
            exact e_iret C hr hlk (Nat.le_refl _) (Nat.le_refl _) dX11_price_183 ⟨_, rfl, h⟩
          · replace h := ite_f h q5
            refine e_tout (tgt := 184) C dX11_price_141 (by have z0 := lv_neT (a := 0) q2 (by decide); have z1 := lv_neT (a := 1) q3 (by decide); have z2 := lv_neT (a := 2) q4 (by decide); have z3 := lv_neT (a := 3) q5 (by decide); omega) (by decide) ?_
            refine e_iload C 8 dX11_price_184 rfl ?_
            exact e_iret C hr hlk (Nat.le_refl _) (Nat.le_refl _) dX11_price_186 ⟨_, rfl, h⟩
  · replace h := ite_f h q1
    refine e_aload_n C 0 dX11_price_48 rfl rfl ?_
    refine e_rload_n C 3 dX11_price_49 rfl rfl ?_
    refine e_aload_n C 0 dX11_price_50 rfl rfl ?_
    obtain ⟨o6, h⟩ := h
    refine e_getR C [11] 11 (fg_of fg_X11_47) o6 dX11_price_51 ?_
    refine e_iload C 9 dX11_price_54 rfl ?_
    refine e_aload_n C 0 dX11_price_56 rfl rfl ?_
    refine e_callV (as := []) C wb_X11_held wv_X11_105 (ci := 11) rfl rfl (isO_1 o6) (m_X11_held h) rfl ⟨Nat.le_of_ble_eq_true rfl, Nat.le_of_ble_eq_true rfl⟩ ⟨Nat.le_of_ble_eq_true rfl, Nat.le_of_ble_eq_true rfl⟩ (by first | exact Nat.le_of_ble_eq_true rfl | (simp only [List.map_cons, List.map_nil, va_cat, List.sum_cons, List.sum_nil]; exact Nat.le_of_ble_eq_true rfl)) dX11_price_57 (kA (fun w7 M8 h31 => ?_))
    obtain ⟨b9, rfl, h31⟩ := h31
    obtain ⟨o11, h31⟩ := h31
    refine e_getI C [10] 1 (fg_of fg_X11_112) o11 dX11_price_60 ?_
    obtain ⟨o14, h31⟩ := h31
    refine e_callV (as := [va_rf v3, va_rf (mP M a0 11), .int v9, .int (mI M8 b9 1)]) C wb_X11_goThroughWith wv_X11_198 (ci := 11) rfl rfl (isO_1 o14) (m_X11_goThroughWith h31) rfl ⟨Nat.le_of_ble_eq_true rfl, Nat.le_of_ble_eq_true rfl⟩ ⟨Nat.le_of_ble_eq_true rfl, Nat.le_of_ble_eq_true rfl⟩ (by first | exact Nat.le_of_ble_eq_true rfl | (simp only [List.map_cons, List.map_nil, va_cat, List.sum_cons, List.sum_nil]; exact Nat.le_of_ble_eq_true rfl)) dX11_price_63 (kV (fun M13 h30 => ?_))
    refine e_aload_n C 0 dX11_price_66 rfl rfl ?_
    obtain ⟨o15, h30⟩ := h30
    refine e_getR C [11] 16 (fg_of fg_X11_62) o15 dX11_price_67 ?_
    obtain ⟨b16, p17, h30⟩ := h30
    try rw [p17]
    obtain ⟨o20, h30⟩ := h30
    refine e_callV (as := []) C wb_X3_lost wv_X11_178 (ci := 3) rfl rfl (isO_1 o20) (m_X3_lost h30) rfl ⟨Nat.le_of_ble_eq_true rfl, Nat.le_of_ble_eq_true rfl⟩ ⟨Nat.le_of_ble_eq_true rfl, Nat.le_of_ble_eq_true rfl⟩ (by first | exact Nat.le_of_ble_eq_true rfl | (simp only [List.map_cons, List.map_nil, va_cat, List.sum_cons, List.sum_nil]; exact Nat.le_of_ble_eq_true rfl)) dX11_price_70 (kI (fun w18 M19 h29 => ?_))
    refine e_istore (al' := [(10, .int w18), (0, .ref a0), (1, .int x1), (2, .int x2), (3, va_rf v3), (4, .int v4), (5, .int v5), (6, .int v6), (7, .int v7), (8, .int v8), (9, .int v9)]) C dX11_price_73 (by decide) rfl ?_
    refine e_aload_n C 1 dX11_price_75 rfl rfl ?_
    obtain ⟨o21, h29⟩ := h29
    refine e_getR C [11] 16 (fg_of fg_X11_62) o21 dX11_price_76 ?_
    obtain ⟨b22, p23, h29⟩ := h29
    try rw [p23]
    obtain ⟨o26, h29⟩ := h29
    refine e_callV (as := []) C wb_X3_pence wv_X11_182 (ci := 3) rfl rfl (isO_1 o26) (m_X3_pence h29) rfl ⟨Nat.le_of_ble_eq_true rfl, Nat.le_of_ble_eq_true rfl⟩ ⟨Nat.le_of_ble_eq_true rfl, Nat.le_of_ble_eq_true rfl⟩ (by first | exact Nat.le_of_ble_eq_true rfl | (simp only [List.map_cons, List.map_nil, va_cat, List.sum_cons, List.sum_nil]; exact Nat.le_of_ble_eq_true rfl)) dX11_price_79 (kI (fun w24 M25 h28 => ?_))
    refine e_istore (al' := [(11, .int w24), (10, .int w18), (0, .ref a0), (1, .int x1), (2, .int x2), (3, va_rf v3), (4, .int v4), (5, .int v5), (6, .int v6), (7, .int v7), (8, .int v8), (9, .int v9)]) C dX11_price_82 (by decide) rfl ?_
    refine e_iload C 1 dX11_price_84 rfl ?_
    refine e_iload C 9 dX11_price_86 rfl ?_
    refine e_icmp_ge (tgt := 99) C dX11_price_88 (by decide) (fun q27 => ?_) (fun q27 => ?_)
    · replace h28 := ite_t h28 q27
      refine e_pick [2, 3, 4, 5, 6, 7, 8, 9, 10, 11, 0] rfl ?_
      exact w_X11_price_J99 C hr hlk hK41 h28
    · replace h28 := ite_f h28 q27
      refine e_iload C 1 dX11_price_91 rfl ?_
      refine e_istore (al' := [(7, .int w18), (11, .int w24), (10, .int w18), (0, .ref a0), (1, .int x1), (2, .int x2), (3, va_rf v3), (4, .int v4), (5, .int v5), (6, .int v6), (8, .int v8), (9, .int v9)]) C dX11_price_93 (by decide) rfl ?_
      refine e_iload C 11 dX11_price_95 rfl ?_
      refine e_istore (al' := [(4, .int v9), (7, .int w18), (11, .int w24), (10, .int w18), (0, .ref a0), (1, .int x1), (2, .int x2), (3, va_rf v3), (5, .int v5), (6, .int v6), (8, .int v8), (9, .int v9)]) C dX11_price_97 (by decide) (by generalize v3 = zz; cases zz <;> rfl) ?_
      refine e_pick [4, 5, 6, 7, 0, 8, 9, 1, 10, 11, 2] rfl ?_
      exact w_X11_price_J99 C hr hlk hK41 h28
set_option maxHeartbeats 4000000 in
set_option maxRecDepth 100000 in
theorem w_X11_price_L41 {p : Program} {l : Launch} {e : Env} {s : State} {m : MethodId} {args : Array Value} {below : List Frame} {meth : Method} {c : Code} {g : Geo} (C : Cx p s m args c cX11_price RX11 12 g) (hr : meth.sig.returnType = (some .int)) (hlk : meth.locks = false) {a0 : Nat} {x1 : Int32} {x2 : Int32} {v3 : Option Nat} {v4 : Int32} {v5 : Int32} {v6 : Int32} {v7 : Int32} {v8 : Int32} {v9 : Int32} {M : Mem} {Q : Int32 → Mem → Prop} (h : f_X11_price_L41 a0 x1 x2 v3 v4 v5 v6 v7 v8 v9 M Q) : E p l e (rmO 7 0 0) s m args below meth c g 12 (MQ below (QcM g (rI Q)) args s 0 0 (gA g)) 0 0 41 [(0, .ref a0), (1, .int x1), (2, .int x2), (3, va_rf v3), (4, .int v4), (5, .int v5), (6, .int v6), (7, .int v7), (8, .int v8), (9, .int v9)] [] M := by
  unfold f_X11_price_L41 at h
  refine loop_E (W := fun z : (Option Nat) × Int32 × Int32 × Int32 × Int32 × Int32 × Int32 × Mem => E p l e (rmO 7 0 0) s m args below meth c g 12 (MQ below (QcM g (rI Q)) args s 0 0 (gA g)) 0 0 41 [(0, .ref a0), (1, .int x1), (2, .int x2), (3, va_rf z.1), (4, .int z.2.1), (5, .int z.2.2.1), (6, .int z.2.2.2.1), (7, .int z.2.2.2.2.1), (8, .int z.2.2.2.2.2.1), (9, .int z.2.2.2.2.2.2.1)] [] (z.2.2.2.2.2.2.2)) h (fun K z hK h => ?_)
  exact w_X11_price_B41 C hr hlk hK h
set_option maxHeartbeats 4000000 in
set_option maxRecDepth 100000 in
theorem w_X11_price {p : Program} {l : Launch} {e : Env} {s : State} {m : MethodId} {args : Array Value} {below : List Frame} {meth : Method} {c : Code} {g : Geo} (C : Cx p s m args c cX11_price RX11 12 g) (hr : meth.sig.returnType = (some .int)) (hlk : meth.locks = false) {a0 : Nat} {x1 : Int32} {x2 : Int32} {M : Mem} {Q : Int32 → Mem → Prop} (h : f_X11_price a0 x1 x2 M Q) : E p l e (rmO 7 0 0) s m args below meth c g 12 (MQ below (QcM g (rI Q)) args s 0 0 (gA g)) 0 0 0 [(0, .ref a0), (1, .int x1), (2, .int x2)] [] M := by
  unfold f_X11_price at h
  refine e_aload_n C 0 dX11_price_0 rfl rfl ?_
  refine e_iload_n C 1 dX11_price_1 rfl rfl ?_
  obtain ⟨o3, h⟩ := h
  refine e_callV (as := [.int x1]) C wb_X11_orderAt wv_X11_131 (ci := 11) rfl rfl (isO_1 o3) (m_X11_orderAt h) rfl ⟨Nat.le_of_ble_eq_true rfl, Nat.le_of_ble_eq_true rfl⟩ ⟨Nat.le_of_ble_eq_true rfl, Nat.le_of_ble_eq_true rfl⟩ (by first | exact Nat.le_of_ble_eq_true rfl | (simp only [List.map_cons, List.map_nil, va_cat, List.sum_cons, List.sum_nil]; exact Nat.le_of_ble_eq_true rfl)) dX11_price_2 (kA (fun w1 M2 h10 => ?_))
  refine e_rstore_n (al' := [(3, va_rf w1), (0, .ref a0), (1, .int x1), (2, .int x2)]) C dX11_price_5 rfl (by decide) rfl ?_
  refine e_rload_n C 0 dX11_price_6 rfl rfl ?_
  refine e_ifnull (tgt := 19) C dX11_price_7 (by decide) (fun q4 => ?_) (fun b5 q4 => ?_)
  · replace h10 := h10.1 q4
    subst q4
    refine e_iconst (v := -1) C dX11_price_19 (by decide) ?_
    exact e_iret C hr hlk (Nat.le_refl _) (Nat.le_refl _) dX11_price_20 ⟨_, rfl, h10⟩
  · replace h10 := h10.2 b5 q4
    subst q4
    refine e_iload_n C 3 dX11_price_10 rfl rfl ?_
    refine e_iconst (v := 0) C dX11_price_11 (by decide) ?_
    refine e_iconst (v := 4) C dX11_price_12 (by decide) ?_
    refine e_callS (as := [.int x2, .int (0 : Int32), .int (4 : Int32)]) C wb_X11_outside wt_X11_77 (m_X11_outside h10) rfl ⟨Nat.le_of_ble_eq_true rfl, Nat.le_of_ble_eq_true rfl⟩ ⟨Nat.le_of_ble_eq_true rfl, Nat.le_of_ble_eq_true rfl⟩ (by first | exact Nat.le_of_ble_eq_true rfl | (simp only [List.map_cons, List.map_nil, va_cat, List.sum_cons, List.sum_nil]; exact Nat.le_of_ble_eq_true rfl)) dX11_price_13 (kZ (fun w6 M7 h9 => ?_))
    refine e_if_eq (tgt := 21) C dX11_price_16 (by decide) (fun q8 => ?_) (fun q8 => ?_)
    · replace h9 := ite_f h9 (bi_ne q8)
      refine e_iconst (v := 0) C dX11_price_21 (by decide) ?_
      refine e_istore (al' := [(4, .int (0 : Int32)), (3, .ref b5), (0, .ref a0), (1, .int x1), (2, .int x2)]) C dX11_price_22 (by decide) rfl ?_
      refine e_iconst (v := 0) C dX11_price_24 (by decide) ?_
      refine e_istore (al' := [(5, .int (0 : Int32)), (4, .int (0 : Int32)), (3, .ref b5), (0, .ref a0), (1, .int x1), (2, .int x2)]) C dX11_price_25 (by decide) rfl ?_
      refine e_bipush (v := -5) C dX11_price_27 (by decide) ?_
      refine e_istore (al' := [(6, .int (-5 : Int32)), (5, .int (0 : Int32)), (4, .int (0 : Int32)), (3, .ref b5), (0, .ref a0), (1, .int x1), (2, .int x2)]) C dX11_price_29 (by decide) rfl ?_
      refine e_ldc (v := 2147483647) C wd_740 dX11_price_31 ?_
      refine e_istore (al' := [(7, .int (2147483647 : Int32)), (6, .int (-5 : Int32)), (5, .int (0 : Int32)), (4, .int (0 : Int32)), (3, .ref b5), (0, .ref a0), (1, .int x1), (2, .int x2)]) C dX11_price_33 (by decide) rfl ?_
      refine e_iconst (v := -1) C dX11_price_35 (by decide) ?_
      refine e_istore (al' := [(8, .int (-1 : Int32)), (7, .int (2147483647 : Int32)), (6, .int (-5 : Int32)), (5, .int (0 : Int32)), (4, .int (0 : Int32)), (3, .ref b5), (0, .ref a0), (1, .int x1), (2, .int x2)]) C dX11_price_36 (by decide) rfl ?_
      refine e_iconst (v := 0) C dX11_price_38 (by decide) ?_
      refine e_istore (al' := [(9, .int (0 : Int32)), (8, .int (-1 : Int32)), (7, .int (2147483647 : Int32)), (6, .int (-5 : Int32)), (5, .int (0 : Int32)), (4, .int (0 : Int32)), (3, .ref b5), (0, .ref a0), (1, .int x1), (2, .int x2)]) C dX11_price_39 (by decide) rfl ?_
      refine e_pick [7, 8, 9, 6, 5, 4, 3, 2, 1, 0] rfl ?_
      exact w_X11_price_L41 C hr hlk h9
    · replace h9 := ite_t h9 (bi_t q8)
      refine e_iconst (v := -1) C dX11_price_19 (by decide) ?_
      exact e_iret C hr hlk (Nat.le_refl _) (Nat.le_refl _) dX11_price_20 ⟨_, rfl, h9⟩
theorem m_X11_price  {a0 : Nat} {x1 : Int32} {x2 : Int32} {M : Mem} {Q : Int32 → Mem → Prop} (h : f_X11_price a0 x1 x2 M Q) : Con yX11_price cX11_price 12 (some .int) 7 0 0 [.ref a0, .int x1, .int x2] M (rI Q) :=
  con_of2 (al := [(0, .ref a0), (1, .int x1), (2, .int x2)]) (by decide) (by exact Nat.le_of_ble_eq_true rfl) (by rfl) (fun p l e s m args below meth c g C hr hlk _ => w_X11_price C hr hlk h)
set_option maxHeartbeats 4000000 in
set_option maxRecDepth 100000 in
theorem w_X11_worse_J107 {p : Program} {l : Launch} {e : Env} {s : State} {m : MethodId} {args : Array Value} {below : List Frame} {meth : Method} {c : Code} {g : Geo} (C : Cx p s m args c cX11_worse RX11 5 g) (hr : meth.sig.returnType = (some .int)) (hlk : meth.locks = false) {a0 : Nat} {x1 : Int32} {v3 : Int32} {v4 : Int32} {M : Mem} {K72 : Int32 × Int32 × Mem → Prop} {Q : Int32 → Mem → Prop} (hK72 : ∀ z : Int32 × Int32 × Mem, K72 z → E p l e (rmO 8 0 0) s m args below meth c g 5 (MQ below (QcM g (rI Q)) args s 0 0 (gA g)) 0 0 72 [(0, .ref a0), (1, .int x1), (3, .int z.1), (4, .int z.2.1)] [] (z.2.2)) (h : f_X11_worse_J107 a0 x1 v3 v4 M K72 Q) : E p l e (rmO 8 0 0) s m args below meth c g 5 (MQ below (QcM g (rI Q)) args s 0 0 (gA g)) 0 0 107 [(0, .ref a0), (1, .int x1), (3, .int v3), (4, .int v4)] [] M := by
  unfold f_X11_worse_J107 at h
  refine e_iinc (v := (v4 + 1)) (al' := [(4, .int (v4 + 1)), (0, .ref a0), (1, .int x1), (3, .int v3)]) C 3 dX11_worse_107 rfl rfl (by decide) rfl ?_
  refine e_goto (tgt := 72) C dX11_worse_110 (by decide) ?_
  refine e_pick [1, 2, 3, 0] rfl ?_
  exact hK72 (v3, (v4 + 1), M) h
set_option maxHeartbeats 4000000 in
set_option maxRecDepth 100000 in
theorem w_X11_worse_B72 {p : Program} {l : Launch} {e : Env} {s : State} {m : MethodId} {args : Array Value} {below : List Frame} {meth : Method} {c : Code} {g : Geo} (C : Cx p s m args c cX11_worse RX11 5 g) (hr : meth.sig.returnType = (some .int)) (hlk : meth.locks = false) {a0 : Nat} {x1 : Int32} {v3 : Int32} {v4 : Int32} {M : Mem} {K72 : Int32 × Int32 × Mem → Prop} {Q : Int32 → Mem → Prop} (hK72 : ∀ z : Int32 × Int32 × Mem, K72 z → E p l e (rmO 8 0 0) s m args below meth c g 5 (MQ below (QcM g (rI Q)) args s 0 0 (gA g)) 0 0 72 [(0, .ref a0), (1, .int x1), (3, .int z.1), (4, .int z.2.1)] [] (z.2.2)) (h : f_X11_worse_B72 a0 x1 v3 v4 M K72 Q) : E p l e (rmO 8 0 0) s m args below meth c g 5 (MQ below (QcM g (rI Q)) args s 0 0 (gA g)) 0 0 72 [(0, .ref a0), (1, .int x1), (3, .int v3), (4, .int v4)] [] M := by
  unfold f_X11_worse_B72 at h
  refine e_iload C 3 dX11_worse_72 rfl ?_
  refine e_aload_n C 0 dX11_worse_74 rfl rfl ?_
  obtain ⟨o1, h⟩ := h
  refine e_getI C [11] 1 (fg_of fg_X11_81) o1 dX11_worse_75 ?_
  refine e_icmp_ge (tgt := 113) C dX11_worse_78 (by decide) (fun q2 => ?_) (fun q2 => ?_)
  · replace h := ite_t h q2
    refine e_iload_n C 2 dX11_worse_113 rfl rfl ?_
    exact e_iret C hr hlk (Nat.le_refl _) (Nat.le_refl _) dX11_worse_114 ⟨_, rfl, h⟩
  · replace h := ite_f h q2
    refine e_aload_n C 0 dX11_worse_81 rfl rfl ?_
    refine e_getR C [11] 16 (fg_of fg_X11_62) o1 dX11_worse_82 ?_
    refine e_iload C 3 dX11_worse_85 rfl ?_
    obtain ⟨b3, p4, h⟩ := h
    try rw [p4]
    obtain ⟨o7, h⟩ := h
    refine e_callV (as := [.int v4]) C wb_X3_lossOf wv_X11_202 (ci := 3) rfl rfl (isO_1 o7) (m_X3_lossOf h) rfl ⟨Nat.le_of_ble_eq_true rfl, Nat.le_of_ble_eq_true rfl⟩ ⟨Nat.le_of_ble_eq_true rfl, Nat.le_of_ble_eq_true rfl⟩ (by first | exact Nat.le_of_ble_eq_true rfl | (simp only [List.map_cons, List.map_nil, va_cat, List.sum_cons, List.sum_nil]; exact Nat.le_of_ble_eq_true rfl)) dX11_worse_87 (kI (fun w5 M6 h13 => ?_))
    refine e_aload_n C 0 dX11_worse_90 rfl rfl ?_
    obtain ⟨o8, h13⟩ := h13
    refine e_getR C [11] 17 (fg_of fg_X11_66) o8 dX11_worse_91 ?_
    refine e_iload C 3 dX11_worse_94 rfl ?_
    obtain ⟨b9, p10, h13⟩ := h13
    try rw [p10]
    obtain ⟨o11, h13⟩ := h13
    refine e_iald C o11 dX11_worse_96 ?_
    refine e_icmp_le (tgt := 107) C dX11_worse_97 (by decide) (fun q12 => ?_) (fun q12 => ?_)
    · replace h13 := ite_t h13 q12
      exact w_X11_worse_J107 C hr hlk hK72 h13
    · replace h13 := ite_f h13 q12
      refine e_iload_n C 2 dX11_worse_100 rfl rfl ?_
      refine e_iconst (v := 1) C dX11_worse_101 (by decide) ?_
      refine e_iload C 3 dX11_worse_102 rfl ?_
      refine e_ishl C dX11_worse_104 ?_
      refine e_ior C dX11_worse_105 ?_
      refine e_istore_n (al' := [(3, .int (v3 ||| ((1 : Int32) <<< (v4 &&& 31)))), (0, .ref a0), (1, .int x1), (4, .int v4)]) C dX11_worse_106 rfl (by decide) rfl ?_
      refine e_pick [1, 2, 0, 3] rfl ?_
      exact w_X11_worse_J107 C hr hlk hK72 h13
set_option maxHeartbeats 4000000 in
set_option maxRecDepth 100000 in
theorem w_X11_worse_L72 {p : Program} {l : Launch} {e : Env} {s : State} {m : MethodId} {args : Array Value} {below : List Frame} {meth : Method} {c : Code} {g : Geo} (C : Cx p s m args c cX11_worse RX11 5 g) (hr : meth.sig.returnType = (some .int)) (hlk : meth.locks = false) {a0 : Nat} {x1 : Int32} {v3 : Int32} {v4 : Int32} {M : Mem} {Q : Int32 → Mem → Prop} (h : f_X11_worse_L72 a0 x1 v3 v4 M Q) : E p l e (rmO 8 0 0) s m args below meth c g 5 (MQ below (QcM g (rI Q)) args s 0 0 (gA g)) 0 0 72 [(0, .ref a0), (1, .int x1), (3, .int v3), (4, .int v4)] [] M := by
  unfold f_X11_worse_L72 at h
  refine loop_E (W := fun z : Int32 × Int32 × Mem => E p l e (rmO 8 0 0) s m args below meth c g 5 (MQ below (QcM g (rI Q)) args s 0 0 (gA g)) 0 0 72 [(0, .ref a0), (1, .int x1), (3, .int z.1), (4, .int z.2.1)] [] (z.2.2)) h (fun K z hK h => ?_)
  exact w_X11_worse_B72 C hr hlk hK h
set_option maxHeartbeats 4000000 in
set_option maxRecDepth 100000 in
theorem w_X11_worse_B34 {p : Program} {l : Launch} {e : Env} {s : State} {m : MethodId} {args : Array Value} {below : List Frame} {meth : Method} {c : Code} {g : Geo} (C : Cx p s m args c cX11_worse RX11 5 g) (hr : meth.sig.returnType = (some .int)) (hlk : meth.locks = false) {a0 : Nat} {x1 : Int32} {v2 : Option Nat} {v3 : Int32} {M : Mem} {K34 : (Option Nat) × Int32 × Mem → Prop} {Q : Int32 → Mem → Prop} (hK34 : ∀ z : (Option Nat) × Int32 × Mem, K34 z → E p l e (rmO 8 0 0) s m args below meth c g 5 (MQ below (QcM g (rI Q)) args s 0 0 (gA g)) 0 0 34 [(0, .ref a0), (1, .int x1), (2, va_rf z.1), (3, .int z.2.1)] [] (z.2.2)) (h : f_X11_worse_B34 a0 x1 v2 v3 M K34 Q) : E p l e (rmO 8 0 0) s m args below meth c g 5 (MQ below (QcM g (rI Q)) args s 0 0 (gA g)) 0 0 34 [(0, .ref a0), (1, .int x1), (2, va_rf v2), (3, .int v3)] [] M := by
  unfold f_X11_worse_B34 at h
  refine e_iload_n C 3 dX11_worse_34 rfl rfl ?_
  refine e_aload_n C 0 dX11_worse_35 rfl rfl ?_
  obtain ⟨o1, h⟩ := h
  refine e_getI C [11] 1 (fg_of fg_X11_81) o1 dX11_worse_36 ?_
  refine e_icmp_ge (tgt := 62) C dX11_worse_39 (by decide) (fun q2 => ?_) (fun q2 => ?_)
  · replace h := ite_t h q2
    refine e_aload_n C 0 dX11_worse_62 rfl rfl ?_
    refine e_rload_n C 2 dX11_worse_63 rfl rfl ?_
    refine e_callV (as := [va_rf v2]) C wb_X11_goThrough wv_X11_140 (ci := 11) rfl rfl (isO_1 o1) (m_X11_goThrough h) rfl ⟨Nat.le_of_ble_eq_true rfl, Nat.le_of_ble_eq_true rfl⟩ ⟨Nat.le_of_ble_eq_true rfl, Nat.le_of_ble_eq_true rfl⟩ (by first | exact Nat.le_of_ble_eq_true rfl | (simp only [List.map_cons, List.map_nil, va_cat, List.sum_cons, List.sum_nil]; exact Nat.le_of_ble_eq_true rfl)) dX11_worse_64 (kV (fun M4 h5 => ?_))
    refine e_iconst (v := 0) C dX11_worse_67 (by decide) ?_
    refine e_istore_n (al' := [(3, .int (0 : Int32)), (0, .ref a0), (1, .int x1), (2, va_rf v2)]) C dX11_worse_68 rfl (by decide) (by generalize v2 = zz; cases zz <;> rfl) ?_
    refine e_iconst (v := 0) C dX11_worse_69 (by decide) ?_
    refine e_istore (al' := [(4, .int (0 : Int32)), (3, .int (0 : Int32)), (0, .ref a0), (1, .int x1), (2, va_rf v2)]) C dX11_worse_70 (by decide) rfl ?_
    refine e_pick [2, 3, 1, 0] rfl ?_
    exact w_X11_worse_L72 C hr hlk h5
  · replace h := ite_f h q2
    refine e_aload_n C 0 dX11_worse_42 rfl rfl ?_
    refine e_getR C [11] 17 (fg_of fg_X11_66) o1 dX11_worse_43 ?_
    refine e_iload_n C 3 dX11_worse_46 rfl rfl ?_
    refine e_aload_n C 0 dX11_worse_47 rfl rfl ?_
    refine e_getR C [11] 16 (fg_of fg_X11_62) o1 dX11_worse_48 ?_
    refine e_iload_n C 3 dX11_worse_51 rfl rfl ?_
    obtain ⟨b6, p7, h⟩ := h
    try rw [p7]
    obtain ⟨o10, h⟩ := h
    refine e_callV (as := [.int v3]) C wb_X3_lossOf wv_X11_202 (ci := 3) rfl rfl (isO_1 o10) (m_X3_lossOf h) rfl ⟨Nat.le_of_ble_eq_true rfl, Nat.le_of_ble_eq_true rfl⟩ ⟨Nat.le_of_ble_eq_true rfl, Nat.le_of_ble_eq_true rfl⟩ (by first | exact Nat.le_of_ble_eq_true rfl | (simp only [List.map_cons, List.map_nil, va_cat, List.sum_cons, List.sum_nil]; exact Nat.le_of_ble_eq_true rfl)) dX11_worse_52 (kI (fun w8 M9 h16 => ?_))
    obtain ⟨b11, p12, h16⟩ := h16
    try rw [p12]
    obtain ⟨o13, h16⟩ := h16
    refine e_iast C o13 dX11_worse_55 ?_
    refine nmE (fun M14 e15 => ?_)
    replace h16 := h16 M14 e15
    refine e_iinc (v := (v3 + 1)) (al' := [(3, .int (v3 + 1)), (0, .ref a0), (1, .int x1), (2, va_rf v2)]) C 3 dX11_worse_56 rfl rfl (by decide) (by generalize v2 = zz; cases zz <;> rfl) ?_
    refine e_goto (tgt := 34) C dX11_worse_59 (by decide) ?_
    refine e_pick [1, 2, 3, 0] rfl ?_
    exact hK34 (v2, (v3 + 1), M14) h16
set_option maxHeartbeats 4000000 in
set_option maxRecDepth 100000 in
theorem w_X11_worse_L34 {p : Program} {l : Launch} {e : Env} {s : State} {m : MethodId} {args : Array Value} {below : List Frame} {meth : Method} {c : Code} {g : Geo} (C : Cx p s m args c cX11_worse RX11 5 g) (hr : meth.sig.returnType = (some .int)) (hlk : meth.locks = false) {a0 : Nat} {x1 : Int32} {v2 : Option Nat} {v3 : Int32} {M : Mem} {Q : Int32 → Mem → Prop} (h : f_X11_worse_L34 a0 x1 v2 v3 M Q) : E p l e (rmO 8 0 0) s m args below meth c g 5 (MQ below (QcM g (rI Q)) args s 0 0 (gA g)) 0 0 34 [(0, .ref a0), (1, .int x1), (2, va_rf v2), (3, .int v3)] [] M := by
  unfold f_X11_worse_L34 at h
  refine loop_E (W := fun z : (Option Nat) × Int32 × Mem => E p l e (rmO 8 0 0) s m args below meth c g 5 (MQ below (QcM g (rI Q)) args s 0 0 (gA g)) 0 0 34 [(0, .ref a0), (1, .int x1), (2, va_rf z.1), (3, .int z.2.1)] [] (z.2.2)) h (fun K z hK h => ?_)
  exact w_X11_worse_B34 C hr hlk hK h
set_option maxHeartbeats 4000000 in
set_option maxRecDepth 100000 in
theorem w_X11_worse {p : Program} {l : Launch} {e : Env} {s : State} {m : MethodId} {args : Array Value} {below : List Frame} {meth : Method} {c : Code} {g : Geo} (C : Cx p s m args c cX11_worse RX11 5 g) (hr : meth.sig.returnType = (some .int)) (hlk : meth.locks = false) {a0 : Nat} {x1 : Int32} {M : Mem} {Q : Int32 → Mem → Prop} (h : f_X11_worse a0 x1 M Q) : E p l e (rmO 8 0 0) s m args below meth c g 5 (MQ below (QcM g (rI Q)) args s 0 0 (gA g)) 0 0 0 [(0, .ref a0), (1, .int x1)] [] M := by
  unfold f_X11_worse at h
  refine e_aload_n C 0 dX11_worse_0 rfl rfl ?_
  refine e_iload_n C 1 dX11_worse_1 rfl rfl ?_
  obtain ⟨o3, h⟩ := h
  refine e_callV (as := [.int x1]) C wb_X11_orderAt wv_X11_131 (ci := 11) rfl rfl (isO_1 o3) (m_X11_orderAt h) rfl ⟨Nat.le_of_ble_eq_true rfl, Nat.le_of_ble_eq_true rfl⟩ ⟨Nat.le_of_ble_eq_true rfl, Nat.le_of_ble_eq_true rfl⟩ (by first | exact Nat.le_of_ble_eq_true rfl | (simp only [List.map_cons, List.map_nil, va_cat, List.sum_cons, List.sum_nil]; exact Nat.le_of_ble_eq_true rfl)) dX11_worse_2 (kA (fun w1 M2 h17 => ?_))
  refine e_rstore_n (al' := [(2, va_rf w1), (0, .ref a0), (1, .int x1)]) C dX11_worse_5 rfl (by decide) rfl ?_
  refine e_rload_n C 0 dX11_worse_6 rfl rfl ?_
  refine e_ifnonnull (tgt := 12) C dX11_worse_7 (by decide) (fun b5 q4 => ?_) (fun q4 => ?_)
  · replace h17 := h17.2 b5 q4
    subst q4
    refine e_aload_n C 1 dX11_worse_12 rfl rfl ?_
    refine e_aload_n C 1 dX11_worse_13 rfl rfl ?_
    obtain ⟨o6, h17⟩ := h17
    refine e_getR C [11] 8 (fg_of fg_X11_40) o6 dX11_worse_14 ?_
    refine e_aload_n C 1 dX11_worse_17 rfl rfl ?_
    refine e_getR C [11] 11 (fg_of fg_X11_47) o6 dX11_worse_18 ?_
    refine e_iconst (v := 0) C dX11_worse_21 (by decide) ?_
    refine e_aload_n C 1 dX11_worse_22 rfl rfl ?_
    refine e_callV (as := []) C wb_X11_held wv_X11_105 (ci := 11) rfl rfl (isO_1 o6) (m_X11_held h17) rfl ⟨Nat.le_of_ble_eq_true rfl, Nat.le_of_ble_eq_true rfl⟩ ⟨Nat.le_of_ble_eq_true rfl, Nat.le_of_ble_eq_true rfl⟩ (by first | exact Nat.le_of_ble_eq_true rfl | (simp only [List.map_cons, List.map_nil, va_cat, List.sum_cons, List.sum_nil]; exact Nat.le_of_ble_eq_true rfl)) dX11_worse_23 (kA (fun w7 M8 h16 => ?_))
    obtain ⟨b9, rfl, h16⟩ := h16
    obtain ⟨o11, h16⟩ := h16
    refine e_getI C [10] 1 (fg_of fg_X11_112) o11 dX11_worse_26 ?_
    obtain ⟨o14, h16⟩ := h16
    refine e_callV (as := [va_rf (mP M2 a0 8), va_rf (mP M2 a0 11), .int (0 : Int32), .int (mI M8 b9 1)]) C wb_X11_goThroughWith wv_X11_198 (ci := 11) rfl rfl (isO_1 o14) (m_X11_goThroughWith h16) rfl ⟨Nat.le_of_ble_eq_true rfl, Nat.le_of_ble_eq_true rfl⟩ ⟨Nat.le_of_ble_eq_true rfl, Nat.le_of_ble_eq_true rfl⟩ (by first | exact Nat.le_of_ble_eq_true rfl | (simp only [List.map_cons, List.map_nil, va_cat, List.sum_cons, List.sum_nil]; exact Nat.le_of_ble_eq_true rfl)) dX11_worse_29 (kV (fun M13 h15 => ?_))
    refine e_iconst (v := 0) C dX11_worse_32 (by decide) ?_
    refine e_istore_n (al' := [(3, .int (0 : Int32)), (2, .ref b5), (0, .ref a0), (1, .int x1)]) C dX11_worse_33 rfl (by decide) rfl ?_
    refine e_pick [2, 3, 1, 0] rfl ?_
    exact w_X11_worse_L34 C hr hlk h15
  · replace h17 := h17.1 q4
    subst q4
    refine e_iconst (v := -1) C dX11_worse_10 (by decide) ?_
    exact e_iret C hr hlk (Nat.le_refl _) (Nat.le_refl _) dX11_worse_11 ⟨_, rfl, h17⟩
theorem m_X11_worse  {a0 : Nat} {x1 : Int32} {M : Mem} {Q : Int32 → Mem → Prop} (h : f_X11_worse a0 x1 M Q) : Con yX11_worse cX11_worse 5 (some .int) 8 0 0 [.ref a0, .int x1] M (rI Q) :=
  con_of2 (al := [(0, .ref a0), (1, .int x1)]) (by decide) (by exact Nat.le_of_ble_eq_true rfl) (by rfl) (fun p l e s m args below meth c g C hr hlk _ => w_X11_worse C hr hlk h)
set_option maxHeartbeats 4000000 in
set_option maxRecDepth 100000 in
theorem w_X11_loss {p : Program} {l : Launch} {e : Env} {s : State} {m : MethodId} {args : Array Value} {below : List Frame} {meth : Method} {c : Code} {g : Geo} (C : Cx p s m args c cX11_loss RX11 4 g) (hr : meth.sig.returnType = (some .int)) (hlk : meth.locks = false) {a0 : Nat} {x1 : Int32} {x2 : Int32} {M : Mem} {Q : Int32 → Mem → Prop} (h : f_X11_loss a0 x1 x2 M Q) : E p l e (rmO 8 0 0) s m args below meth c g 4 (MQ below (QcM g (rI Q)) args s 0 0 (gA g)) 0 0 0 [(0, .ref a0), (1, .int x1), (2, .int x2)] [] M := by
  unfold f_X11_loss at h
  refine e_aload_n C 0 dX11_loss_0 rfl rfl ?_
  refine e_iload_n C 1 dX11_loss_1 rfl rfl ?_
  obtain ⟨o3, h⟩ := h
  refine e_callV (as := [.int x1]) C wb_X11_orderAt wv_X11_131 (ci := 11) rfl rfl (isO_1 o3) (m_X11_orderAt h) rfl ⟨Nat.le_of_ble_eq_true rfl, Nat.le_of_ble_eq_true rfl⟩ ⟨Nat.le_of_ble_eq_true rfl, Nat.le_of_ble_eq_true rfl⟩ (by first | exact Nat.le_of_ble_eq_true rfl | (simp only [List.map_cons, List.map_nil, va_cat, List.sum_cons, List.sum_nil]; exact Nat.le_of_ble_eq_true rfl)) dX11_loss_2 (kA (fun w1 M2 h22 => ?_))
  refine e_rstore_n (al' := [(3, va_rf w1), (0, .ref a0), (1, .int x1), (2, .int x2)]) C dX11_loss_5 rfl (by decide) rfl ?_
  refine e_rload_n C 0 dX11_loss_6 rfl rfl ?_
  refine e_ifnull (tgt := 18) C dX11_loss_7 (by decide) (fun q4 => ?_) (fun b5 q4 => ?_)
  · replace h22 := h22.1 q4
    subst q4
    refine e_iconst (v := -1) C dX11_loss_18 (by decide) ?_
    exact e_iret C hr hlk (Nat.le_refl _) (Nat.le_refl _) dX11_loss_19 ⟨_, rfl, h22⟩
  · replace h22 := h22.2 b5 q4
    subst q4
    refine e_aload_n C 1 dX11_loss_10 rfl rfl ?_
    refine e_iload_n C 3 dX11_loss_11 rfl rfl ?_
    obtain ⟨o8, h22⟩ := h22
    refine e_callV (as := [.int x2]) C wb_X11_noSort wv_X11_88 (ci := 11) rfl rfl (isO_1 o8) (m_X11_noSort h22) rfl ⟨Nat.le_of_ble_eq_true rfl, Nat.le_of_ble_eq_true rfl⟩ ⟨Nat.le_of_ble_eq_true rfl, Nat.le_of_ble_eq_true rfl⟩ (by first | exact Nat.le_of_ble_eq_true rfl | (simp only [List.map_cons, List.map_nil, va_cat, List.sum_cons, List.sum_nil]; exact Nat.le_of_ble_eq_true rfl)) dX11_loss_12 (kZ (fun w6 M7 h21 => ?_))
    refine e_if_eq (tgt := 20) C dX11_loss_15 (by decide) (fun q9 => ?_) (fun q9 => ?_)
    · replace h21 := ite_f h21 (bi_ne q9)
      refine e_aload_n C 1 dX11_loss_20 rfl rfl ?_
      refine e_aload_n C 0 dX11_loss_21 rfl rfl ?_
      obtain ⟨o12, h21⟩ := h21
      refine e_callV (as := [.ref b5]) C wb_X11_goThrough wv_X11_140 (ci := 11) rfl rfl (isO_1 o12) (m_X11_goThrough h21) rfl ⟨Nat.le_of_ble_eq_true rfl, Nat.le_of_ble_eq_true rfl⟩ ⟨Nat.le_of_ble_eq_true rfl, Nat.le_of_ble_eq_true rfl⟩ (by first | exact Nat.le_of_ble_eq_true rfl | (simp only [List.map_cons, List.map_nil, va_cat, List.sum_cons, List.sum_nil]; exact Nat.le_of_ble_eq_true rfl)) dX11_loss_22 (kV (fun M11 h20 => ?_))
      refine e_aload_n C 1 dX11_loss_25 rfl rfl ?_
      obtain ⟨o13, h20⟩ := h20
      refine e_getR C [11] 16 (fg_of fg_X11_62) o13 dX11_loss_26 ?_
      refine e_iload_n C 3 dX11_loss_29 rfl rfl ?_
      obtain ⟨b14, p15, h20⟩ := h20
      try rw [p15]
      obtain ⟨o18, h20⟩ := h20
      refine e_callV (as := [.int x2]) C wb_X3_lossOf wv_X11_202 (ci := 3) rfl rfl (isO_1 o18) (m_X3_lossOf h20) rfl ⟨Nat.le_of_ble_eq_true rfl, Nat.le_of_ble_eq_true rfl⟩ ⟨Nat.le_of_ble_eq_true rfl, Nat.le_of_ble_eq_true rfl⟩ (by first | exact Nat.le_of_ble_eq_true rfl | (simp only [List.map_cons, List.map_nil, va_cat, List.sum_cons, List.sum_nil]; exact Nat.le_of_ble_eq_true rfl)) dX11_loss_30 (kI (fun w16 M17 h19 => ?_))
      exact e_iret C hr hlk (Nat.le_refl _) (Nat.le_refl _) dX11_loss_33 ⟨_, rfl, h19⟩
    · replace h21 := ite_t h21 (bi_t q9)
      refine e_iconst (v := -1) C dX11_loss_18 (by decide) ?_
      exact e_iret C hr hlk (Nat.le_refl _) (Nat.le_refl _) dX11_loss_19 ⟨_, rfl, h21⟩
theorem m_X11_loss  {a0 : Nat} {x1 : Int32} {x2 : Int32} {M : Mem} {Q : Int32 → Mem → Prop} (h : f_X11_loss a0 x1 x2 M Q) : Con yX11_loss cX11_loss 4 (some .int) 8 0 0 [.ref a0, .int x1, .int x2] M (rI Q) :=
  con_of2 (al := [(0, .ref a0), (1, .int x1), (2, .int x2)]) (by decide) (by exact Nat.le_of_ble_eq_true rfl) (by rfl) (fun p l e s m args below meth c g C hr hlk _ => w_X11_loss C hr hlk h)
set_option maxHeartbeats 4000000 in
set_option maxRecDepth 100000 in
theorem w_X11_slow {p : Program} {l : Launch} {e : Env} {s : State} {m : MethodId} {args : Array Value} {below : List Frame} {meth : Method} {c : Code} {g : Geo} (C : Cx p s m args c cX11_slow RX11 5 g) (hr : meth.sig.returnType = (some .int)) (hlk : meth.locks = false) {a0 : Nat} {x1 : Int32} {x2 : Int32} {M : Mem} {Q : Int32 → Mem → Prop} (h : f_X11_slow a0 x1 x2 M Q) : E p l e (rmO 8 0 0) s m args below meth c g 5 (MQ below (QcM g (rI Q)) args s 0 0 (gA g)) 0 0 0 [(0, .ref a0), (1, .int x1), (2, .int x2)] [] M := by
  unfold f_X11_slow at h
  refine e_aload_n C 0 dX11_slow_0 rfl rfl ?_
  refine e_iload_n C 1 dX11_slow_1 rfl rfl ?_
  obtain ⟨o3, h⟩ := h
  refine e_callV (as := [.int x1]) C wb_X11_orderAt wv_X11_131 (ci := 11) rfl rfl (isO_1 o3) (m_X11_orderAt h) rfl ⟨Nat.le_of_ble_eq_true rfl, Nat.le_of_ble_eq_true rfl⟩ ⟨Nat.le_of_ble_eq_true rfl, Nat.le_of_ble_eq_true rfl⟩ (by first | exact Nat.le_of_ble_eq_true rfl | (simp only [List.map_cons, List.map_nil, va_cat, List.sum_cons, List.sum_nil]; exact Nat.le_of_ble_eq_true rfl)) dX11_slow_2 (kA (fun w1 M2 h46 => ?_))
  refine e_rstore_n (al' := [(3, va_rf w1), (0, .ref a0), (1, .int x1), (2, .int x2)]) C dX11_slow_5 rfl (by decide) rfl ?_
  refine e_rload_n C 0 dX11_slow_6 rfl rfl ?_
  refine e_ifnonnull (tgt := 13) C dX11_slow_7 (by decide) (fun b5 q4 => ?_) (fun q4 => ?_)
  · replace h46 := h46.2 b5 q4
    subst q4
    refine e_iload_n C 3 dX11_slow_13 rfl rfl ?_
    refine e_iconst (v := 1) C dX11_slow_14 (by decide) ?_
    refine e_bipush (v := 9) C dX11_slow_15 (by decide) ?_
    refine e_callS (as := [.int x2, .int (1 : Int32), .int (9 : Int32)]) C wb_X11_outside wt_X11_77 (m_X11_outside h46) rfl ⟨Nat.le_of_ble_eq_true rfl, Nat.le_of_ble_eq_true rfl⟩ ⟨Nat.le_of_ble_eq_true rfl, Nat.le_of_ble_eq_true rfl⟩ (by first | exact Nat.le_of_ble_eq_true rfl | (simp only [List.map_cons, List.map_nil, va_cat, List.sum_cons, List.sum_nil]; exact Nat.le_of_ble_eq_true rfl)) dX11_slow_17 (kZ (fun w6 M7 h45 => ?_))
    refine e_if_eq (tgt := 26) C dX11_slow_20 (by decide) (fun q8 => ?_) (fun q8 => ?_)
    · replace h45 := ite_f h45 (bi_ne q8)
      refine e_aload_n C 1 dX11_slow_26 rfl rfl ?_
      refine e_aload_n C 0 dX11_slow_27 rfl rfl ?_
      obtain ⟨o11, h45⟩ := h45
      refine e_callV (as := [.ref b5]) C wb_X11_goThrough wv_X11_140 (ci := 11) rfl rfl (isO_1 o11) (m_X11_goThrough h45) rfl ⟨Nat.le_of_ble_eq_true rfl, Nat.le_of_ble_eq_true rfl⟩ ⟨Nat.le_of_ble_eq_true rfl, Nat.le_of_ble_eq_true rfl⟩ (by first | exact Nat.le_of_ble_eq_true rfl | (simp only [List.map_cons, List.map_nil, va_cat, List.sum_cons, List.sum_nil]; exact Nat.le_of_ble_eq_true rfl)) dX11_slow_28 (kV (fun M10 h44 => ?_))
      refine e_aload_n C 1 dX11_slow_31 rfl rfl ?_
      obtain ⟨o12, h44⟩ := h44
      refine e_getR C [11] 16 (fg_of fg_X11_62) o12 dX11_slow_32 ?_
      obtain ⟨b13, p14, h44⟩ := h44
      try rw [p14]
      obtain ⟨o17, h44⟩ := h44
      refine e_callV (as := []) C wb_X3_pence wv_X11_182 (ci := 3) rfl rfl (isO_1 o17) (m_X3_pence h44) rfl ⟨Nat.le_of_ble_eq_true rfl, Nat.le_of_ble_eq_true rfl⟩ ⟨Nat.le_of_ble_eq_true rfl, Nat.le_of_ble_eq_true rfl⟩ (by first | exact Nat.le_of_ble_eq_true rfl | (simp only [List.map_cons, List.map_nil, va_cat, List.sum_cons, List.sum_nil]; exact Nat.le_of_ble_eq_true rfl)) dX11_slow_35 (kI (fun w15 M16 h43 => ?_))
      refine e_istore (al' := [(4, .int w15), (3, .ref b5), (0, .ref a0), (1, .int x1), (2, .int x2)]) C dX11_slow_38 (by decide) rfl ?_
      refine e_aload_n C 2 dX11_slow_40 rfl rfl ?_
      refine e_aload_n C 1 dX11_slow_41 rfl rfl ?_
      refine e_aload_n C 2 dX11_slow_42 rfl rfl ?_
      obtain ⟨o18, h43⟩ := h43
      refine e_getR C [11] 11 (fg_of fg_X11_47) o18 dX11_slow_43 ?_
      refine e_aload_n C 2 dX11_slow_46 rfl rfl ?_
      refine e_callV (as := []) C wb_X11_held wv_X11_105 (ci := 11) rfl rfl (isO_1 o18) (m_X11_held h43) rfl ⟨Nat.le_of_ble_eq_true rfl, Nat.le_of_ble_eq_true rfl⟩ ⟨Nat.le_of_ble_eq_true rfl, Nat.le_of_ble_eq_true rfl⟩ (by first | exact Nat.le_of_ble_eq_true rfl | (simp only [List.map_cons, List.map_nil, va_cat, List.sum_cons, List.sum_nil]; exact Nat.le_of_ble_eq_true rfl)) dX11_slow_47 (kA (fun w19 M20 h42 => ?_))
      obtain ⟨b21, rfl, h42⟩ := h42
      obtain ⟨o23, h42⟩ := h42
      refine e_getI C [10] 0 (fg_of fg_X11_109) o23 dX11_slow_50 ?_
      refine e_aload_n C 2 dX11_slow_53 rfl rfl ?_
      obtain ⟨o26, h42⟩ := h42
      refine e_callV (as := []) C wb_X11_held wv_X11_105 (ci := 11) rfl rfl (isO_1 o26) (m_X11_held h42) rfl ⟨Nat.le_of_ble_eq_true rfl, Nat.le_of_ble_eq_true rfl⟩ ⟨Nat.le_of_ble_eq_true rfl, Nat.le_of_ble_eq_true rfl⟩ (by first | exact Nat.le_of_ble_eq_true rfl | (simp only [List.map_cons, List.map_nil, va_cat, List.sum_cons, List.sum_nil]; exact Nat.le_of_ble_eq_true rfl)) dX11_slow_54 (kA (fun w24 M25 h41 => ?_))
      obtain ⟨b27, rfl, h41⟩ := h41
      obtain ⟨o29, h41⟩ := h41
      refine e_getI C [10] 1 (fg_of fg_X11_112) o29 dX11_slow_57 ?_
      refine e_iload_n C 4 dX11_slow_60 rfl rfl ?_
      refine e_iadd C dX11_slow_61 ?_
      obtain ⟨o32, h41⟩ := h41
      refine e_callV (as := [.ref b5, va_rf (mP M16 a0 11), .int (mI M20 b21 0), .int ((mI M25 b27 1) + x2)]) C wb_X11_goThroughWith wv_X11_198 (ci := 11) rfl rfl (isO_1 o32) (m_X11_goThroughWith h41) rfl ⟨Nat.le_of_ble_eq_true rfl, Nat.le_of_ble_eq_true rfl⟩ ⟨Nat.le_of_ble_eq_true rfl, Nat.le_of_ble_eq_true rfl⟩ (by first | exact Nat.le_of_ble_eq_true rfl | (simp only [List.map_cons, List.map_nil, va_cat, List.sum_cons, List.sum_nil]; exact Nat.le_of_ble_eq_true rfl)) dX11_slow_62 (kV (fun M31 h40 => ?_))
      refine e_aload_n C 2 dX11_slow_65 rfl rfl ?_
      obtain ⟨o33, h40⟩ := h40
      refine e_getR C [11] 16 (fg_of fg_X11_62) o33 dX11_slow_66 ?_
      obtain ⟨b34, p35, h40⟩ := h40
      try rw [p35]
      obtain ⟨o38, h40⟩ := h40
      refine e_callV (as := []) C wb_X3_pence wv_X11_182 (ci := 3) rfl rfl (isO_1 o38) (m_X3_pence h40) rfl ⟨Nat.le_of_ble_eq_true rfl, Nat.le_of_ble_eq_true rfl⟩ ⟨Nat.le_of_ble_eq_true rfl, Nat.le_of_ble_eq_true rfl⟩ (by first | exact Nat.le_of_ble_eq_true rfl | (simp only [List.map_cons, List.map_nil, va_cat, List.sum_cons, List.sum_nil]; exact Nat.le_of_ble_eq_true rfl)) dX11_slow_69 (kI (fun w36 M37 h39 => ?_))
      refine e_iload C 0 dX11_slow_72 rfl ?_
      refine e_isub C dX11_slow_74 ?_
      exact e_iret C hr hlk (Nat.le_refl _) (Nat.le_refl _) dX11_slow_75 ⟨_, rfl, h39⟩
    · replace h45 := ite_t h45 (bi_t q8)
      refine e_ldc (v := -100002) C wd_758 dX11_slow_23 ?_
      exact e_iret C hr hlk (Nat.le_refl _) (Nat.le_refl _) dX11_slow_25 ⟨_, rfl, h45⟩
  · replace h46 := h46.1 q4
    subst q4
    refine e_ldc (v := -100001) C wd_757 dX11_slow_10 ?_
    exact e_iret C hr hlk (Nat.le_refl _) (Nat.le_refl _) dX11_slow_12 ⟨_, rfl, h46⟩
theorem m_X11_slow  {a0 : Nat} {x1 : Int32} {x2 : Int32} {M : Mem} {Q : Int32 → Mem → Prop} (h : f_X11_slow a0 x1 x2 M Q) : Con yX11_slow cX11_slow 5 (some .int) 8 0 0 [.ref a0, .int x1, .int x2] M (rI Q) :=
  con_of2 (al := [(0, .ref a0), (1, .int x1), (2, .int x2)]) (by decide) (by exact Nat.le_of_ble_eq_true rfl) (by rfl) (fun p l e s m args below meth c g C hr hlk _ => w_X11_slow C hr hlk h)
set_option maxHeartbeats 4000000 in
set_option maxRecDepth 100000 in
theorem w_X11_early_J154 {p : Program} {l : Launch} {e : Env} {s : State} {m : MethodId} {args : Array Value} {below : List Frame} {meth : Method} {c : Code} {g : Geo} (C : Cx p s m args c cX11_early RX11 9 g) (hr : meth.sig.returnType = (some .int)) (hlk : meth.locks = false) {a0 : Nat} {x1 : Int32} {x2 : Int32} {x3 : Int32} {v4 : Option Nat} {v5 : Int32} {v6 : Int32} {v7 : Int32} {M : Mem} {K57 : (Option Nat) × Int32 × Int32 × Int32 × Mem → Prop} {Q : Int32 → Mem → Prop} (hK57 : ∀ z : (Option Nat) × Int32 × Int32 × Int32 × Mem, K57 z → E p l e (rmO 7 0 0) s m args below meth c g 9 (MQ below (QcM g (rI Q)) args s 0 0 (gA g)) 0 0 57 [(0, .ref a0), (1, .int x1), (2, .int x2), (3, .int x3), (4, va_rf z.1), (5, .int z.2.1), (6, .int z.2.2.1), (7, .int z.2.2.2.1)] [] (z.2.2.2.2)) (h : f_X11_early_J154 a0 x1 x2 x3 v4 v5 v6 v7 M K57 Q) : E p l e (rmO 7 0 0) s m args below meth c g 9 (MQ below (QcM g (rI Q)) args s 0 0 (gA g)) 0 0 154 [(0, .ref a0), (1, .int x1), (2, .int x2), (3, .int x3), (4, va_rf v4), (5, .int v5), (6, .int v6), (7, .int v7)] [] M := by
  unfold f_X11_early_J154 at h
  refine e_iinc (v := (v7 + 1)) (al' := [(7, .int (v7 + 1)), (0, .ref a0), (1, .int x1), (2, .int x2), (3, .int x3), (4, va_rf v4), (5, .int v5), (6, .int v6)]) C 7 dX11_early_154 rfl rfl (by decide) rfl ?_
  refine e_goto (tgt := 57) C dX11_early_157 (by decide) ?_
  refine e_pick [1, 2, 3, 4, 5, 6, 7, 0] rfl ?_
  exact hK57 (v4, v5, v6, (v7 + 1), M) h
set_option maxHeartbeats 4000000 in
set_option maxRecDepth 100000 in
theorem w_X11_early_J146 {p : Program} {l : Launch} {e : Env} {s : State} {m : MethodId} {args : Array Value} {below : List Frame} {meth : Method} {c : Code} {g : Geo} (C : Cx p s m args c cX11_early RX11 9 g) (hr : meth.sig.returnType = (some .int)) (hlk : meth.locks = false) {a0 : Nat} {x1 : Int32} {x2 : Int32} {x3 : Int32} {v4 : Option Nat} {v7 : Int32} {v8 : Int32} {M : Mem} {K57 : (Option Nat) × Int32 × Int32 × Int32 × Mem → Prop} {Q : Int32 → Mem → Prop} (hK57 : ∀ z : (Option Nat) × Int32 × Int32 × Int32 × Mem, K57 z → E p l e (rmO 7 0 0) s m args below meth c g 9 (MQ below (QcM g (rI Q)) args s 0 0 (gA g)) 0 0 57 [(0, .ref a0), (1, .int x1), (2, .int x2), (3, .int x3), (4, va_rf z.1), (5, .int z.2.1), (6, .int z.2.2.1), (7, .int z.2.2.2.1)] [] (z.2.2.2.2)) (h : f_X11_early_J146 a0 x1 x2 x3 v4 v7 v8 M K57 Q) : E p l e (rmO 7 0 0) s m args below meth c g 9 (MQ below (QcM g (rI Q)) args s 0 0 (gA g)) 0 0 146 [(0, .ref a0), (1, .int x1), (2, .int x2), (3, .int x3), (4, va_rf v4), (7, .int v7), (8, .int v8)] [] M := by
  unfold f_X11_early_J146 at h
  refine e_iload C 5 dX11_early_146 rfl ?_
  refine e_istore (al' := [(5, .int v7), (0, .ref a0), (1, .int x1), (2, .int x2), (3, .int x3), (4, va_rf v4), (7, .int v7), (8, .int v8)]) C dX11_early_148 (by decide) (by generalize v4 = zz; cases zz <;> rfl) ?_
  refine e_iload C 7 dX11_early_150 rfl ?_
  refine e_istore (al' := [(6, .int v8), (5, .int v7), (0, .ref a0), (1, .int x1), (2, .int x2), (3, .int x3), (4, va_rf v4), (7, .int v7), (8, .int v8)]) C dX11_early_152 (by decide) rfl ?_
  refine e_pick [2, 3, 4, 5, 6, 1, 0, 7] rfl ?_
  exact w_X11_early_J154 C hr hlk hK57 h
set_option maxHeartbeats 4000000 in
set_option maxRecDepth 100000 in
theorem w_X11_early_B57 {p : Program} {l : Launch} {e : Env} {s : State} {m : MethodId} {args : Array Value} {below : List Frame} {meth : Method} {c : Code} {g : Geo} (C : Cx p s m args c cX11_early RX11 9 g) (hr : meth.sig.returnType = (some .int)) (hlk : meth.locks = false) {a0 : Nat} {x1 : Int32} {x2 : Int32} {x3 : Int32} {v4 : Option Nat} {v5 : Int32} {v6 : Int32} {v7 : Int32} {M : Mem} {K57 : (Option Nat) × Int32 × Int32 × Int32 × Mem → Prop} {Q : Int32 → Mem → Prop} (hK57 : ∀ z : (Option Nat) × Int32 × Int32 × Int32 × Mem, K57 z → E p l e (rmO 7 0 0) s m args below meth c g 9 (MQ below (QcM g (rI Q)) args s 0 0 (gA g)) 0 0 57 [(0, .ref a0), (1, .int x1), (2, .int x2), (3, .int x3), (4, va_rf z.1), (5, .int z.2.1), (6, .int z.2.2.1), (7, .int z.2.2.2.1)] [] (z.2.2.2.2)) (h : f_X11_early_B57 a0 x1 x2 x3 v4 v5 v6 v7 M K57 Q) : E p l e (rmO 7 0 0) s m args below meth c g 9 (MQ below (QcM g (rI Q)) args s 0 0 (gA g)) 0 0 57 [(0, .ref a0), (1, .int x1), (2, .int x2), (3, .int x3), (4, va_rf v4), (5, .int v5), (6, .int v6), (7, .int v7)] [] M := by
  unfold f_X11_early_B57 at h
  refine e_iload C 7 dX11_early_57 rfl ?_
  refine e_bipush (v := 60) C dX11_early_59 (by decide) ?_
  refine e_icmp_ge (tgt := 160) C dX11_early_61 (by decide) (fun q1 => ?_) (fun q1 => ?_)
  · replace h := ite_t h q1
    refine e_iload_n C 3 dX11_early_160 rfl rfl ?_
    refine e_if_ne (tgt := 169) C dX11_early_161 (by decide) (fun q2 => ?_) (fun q2 => ?_)
    · replace h := ite_f h q2
      refine e_iload C 6 dX11_early_169 rfl ?_
      exact e_iret C hr hlk (Nat.le_refl _) (Nat.le_refl _) dX11_early_171 ⟨_, rfl, h⟩
    · replace h := ite_t h q2
      refine e_iload C 5 dX11_early_164 rfl ?_
      refine e_goto (tgt := 171) C dX11_early_166 (by decide) ?_
      exact e_iret C hr hlk (Nat.le_refl _) (Nat.le_refl _) dX11_early_171 ⟨_, rfl, h⟩
  · replace h := ite_f h q1
    refine e_aload_n C 0 dX11_early_64 rfl rfl ?_
    obtain ⟨o3, h⟩ := h
    refine e_getR C [11] 13 (fg_of fg_X11_54) o3 dX11_early_65 ?_
    refine e_aload_n C 0 dX11_early_68 rfl rfl ?_
    refine e_getR C [11] 11 (fg_of fg_X11_47) o3 dX11_early_69 ?_
    refine e_aload_n C 0 dX11_early_72 rfl rfl ?_
    refine e_getI C [11] 1 (fg_of fg_X11_81) o3 dX11_early_73 ?_
    obtain ⟨b4, p5, h⟩ := h
    try rw [p5]
    obtain ⟨o8, h⟩ := h
    refine e_callV (as := [va_rf (mP M a0 11), .int (mI M a0 1)]) C wb_X0_become wv_X11_207 (ci := 0) rfl rfl (isO_1 o8) (m_X0_become h) rfl ⟨Nat.le_of_ble_eq_true rfl, Nat.le_of_ble_eq_true rfl⟩ ⟨Nat.le_of_ble_eq_true rfl, Nat.le_of_ble_eq_true rfl⟩ (by first | exact Nat.le_of_ble_eq_true rfl | (simp only [List.map_cons, List.map_nil, va_cat, List.sum_cons, List.sum_nil]; exact Nat.le_of_ble_eq_true rfl)) dX11_early_76 (kV (fun M7 h44 => ?_))
    refine e_aload_n C 0 dX11_early_79 rfl rfl ?_
    obtain ⟨o9, h44⟩ := h44
    refine e_getR C [11] 13 (fg_of fg_X11_54) o9 dX11_early_80 ?_
    refine e_iload_n C 2 dX11_early_83 rfl rfl ?_
    refine e_iload C 7 dX11_early_84 rfl ?_
    obtain ⟨b10, p11, h44⟩ := h44
    try rw [p11]
    obtain ⟨o14, h44⟩ := h44
    refine e_callV (as := [.int x2, .int v7]) C wb_X0_tell wv_X11_121 (ci := 0) rfl rfl (isO_1 o14) (m_X0_tell h44) rfl ⟨Nat.le_of_ble_eq_true rfl, Nat.le_of_ble_eq_true rfl⟩ ⟨Nat.le_of_ble_eq_true rfl, Nat.le_of_ble_eq_true rfl⟩ (by first | exact Nat.le_of_ble_eq_true rfl | (simp only [List.map_cons, List.map_nil, va_cat, List.sum_cons, List.sum_nil]; exact Nat.le_of_ble_eq_true rfl)) dX11_early_86 (kV (fun M13 h43 => ?_))
    refine e_aload_n C 0 dX11_early_89 rfl rfl ?_
    refine e_rload C 4 dX11_early_90 rfl ?_
    refine e_aload_n C 0 dX11_early_92 rfl rfl ?_
    obtain ⟨o15, h43⟩ := h43
    refine e_getR C [11] 13 (fg_of fg_X11_54) o15 dX11_early_93 ?_
    refine e_aload_n C 0 dX11_early_96 rfl rfl ?_
    refine e_callV (as := []) C wb_X11_held wv_X11_105 (ci := 11) rfl rfl (isO_1 o15) (m_X11_held h43) rfl ⟨Nat.le_of_ble_eq_true rfl, Nat.le_of_ble_eq_true rfl⟩ ⟨Nat.le_of_ble_eq_true rfl, Nat.le_of_ble_eq_true rfl⟩ (by first | exact Nat.le_of_ble_eq_true rfl | (simp only [List.map_cons, List.map_nil, va_cat, List.sum_cons, List.sum_nil]; exact Nat.le_of_ble_eq_true rfl)) dX11_early_97 (kA (fun w16 M17 h42 => ?_))
    obtain ⟨b18, rfl, h42⟩ := h42
    obtain ⟨o20, h42⟩ := h42
    refine e_getI C [10] 0 (fg_of fg_X11_109) o20 dX11_early_100 ?_
    refine e_aload_n C 0 dX11_early_103 rfl rfl ?_
    obtain ⟨o23, h42⟩ := h42
    refine e_callV (as := []) C wb_X11_held wv_X11_105 (ci := 11) rfl rfl (isO_1 o23) (m_X11_held h42) rfl ⟨Nat.le_of_ble_eq_true rfl, Nat.le_of_ble_eq_true rfl⟩ ⟨Nat.le_of_ble_eq_true rfl, Nat.le_of_ble_eq_true rfl⟩ (by first | exact Nat.le_of_ble_eq_true rfl | (simp only [List.map_cons, List.map_nil, va_cat, List.sum_cons, List.sum_nil]; exact Nat.le_of_ble_eq_true rfl)) dX11_early_104 (kA (fun w21 M22 h41 => ?_))
    obtain ⟨b24, rfl, h41⟩ := h41
    obtain ⟨o26, h41⟩ := h41
    refine e_getI C [10] 1 (fg_of fg_X11_112) o26 dX11_early_107 ?_
    obtain ⟨o29, h41⟩ := h41
    refine e_callV (as := [va_rf v4, va_rf (mP M13 a0 13), .int (mI M17 b18 0), .int (mI M22 b24 1)]) C wb_X11_goThroughWith wv_X11_198 (ci := 11) rfl rfl (isO_1 o29) (m_X11_goThroughWith h41) rfl ⟨Nat.le_of_ble_eq_true rfl, Nat.le_of_ble_eq_true rfl⟩ ⟨Nat.le_of_ble_eq_true rfl, Nat.le_of_ble_eq_true rfl⟩ (by first | exact Nat.le_of_ble_eq_true rfl | (simp only [List.map_cons, List.map_nil, va_cat, List.sum_cons, List.sum_nil]; exact Nat.le_of_ble_eq_true rfl)) dX11_early_110 (kV (fun M28 h40 => ?_))
    refine e_aload_n C 0 dX11_early_113 rfl rfl ?_
    obtain ⟨o30, h40⟩ := h40
    refine e_getR C [11] 16 (fg_of fg_X11_62) o30 dX11_early_114 ?_
    refine e_aload_n C 0 dX11_early_117 rfl rfl ?_
    refine e_getR C [11] 16 (fg_of fg_X11_62) o30 dX11_early_118 ?_
    obtain ⟨b31, p32, h40⟩ := h40
    try rw [p32]
    obtain ⟨o33, h40⟩ := h40
    refine e_getI C [3] 8 (fg_of fg_X11_211) o33 dX11_early_121 ?_
    refine e_callV (as := [.int (mI M28 b31 8)]) C wb_X3_waits wv_X11_159 (ci := 3) rfl rfl (isO_1 o33) (m_X3_waits h40) rfl ⟨Nat.le_of_ble_eq_true rfl, Nat.le_of_ble_eq_true rfl⟩ ⟨Nat.le_of_ble_eq_true rfl, Nat.le_of_ble_eq_true rfl⟩ (by first | exact Nat.le_of_ble_eq_true rfl | (simp only [List.map_cons, List.map_nil, va_cat, List.sum_cons, List.sum_nil]; exact Nat.le_of_ble_eq_true rfl)) dX11_early_124 (kI (fun w34 M35 h39 => ?_))
    refine e_istore (al' := [(8, .int w34), (0, .ref a0), (1, .int x1), (2, .int x2), (3, .int x3), (4, va_rf v4), (5, .int v5), (6, .int v6), (7, .int v7)]) C dX11_early_127 (by decide) rfl ?_
    refine e_iload C 0 dX11_early_129 rfl ?_
    refine e_if_lt (tgt := 154) C dX11_early_131 (by decide) (fun q36 => ?_) (fun q36 => ?_)
    · replace h39 := ite_t h39 q36
      refine e_pick [1, 2, 3, 4, 5, 6, 7, 8] rfl ?_
      exact w_X11_early_J154 C hr hlk hK57 h39
    · replace h39 := ite_f h39 q36
      refine e_iload C 7 dX11_early_134 rfl ?_
      refine e_if_lt (tgt := 146) C dX11_early_136 (by decide) (fun q37 => ?_) (fun q37 => ?_)
      · replace h39 := ite_t h39 q37
        refine e_pick [1, 2, 3, 4, 5, 8, 0] rfl ?_
        exact w_X11_early_J146 C hr hlk hK57 h39
      · replace h39 := ite_f h39 q37
        refine e_iload C 0 dX11_early_139 rfl ?_
        refine e_iload C 7 dX11_early_141 rfl ?_
        refine e_icmp_ge (tgt := 154) C dX11_early_143 (by decide) (fun q38 => ?_) (fun q38 => ?_)
        · replace h39 := ite_t h39 q38
          refine e_pick [1, 2, 3, 4, 5, 6, 7, 8] rfl ?_
          exact w_X11_early_J154 C hr hlk hK57 h39
        · replace h39 := ite_f h39 q38
          refine e_pick [1, 2, 3, 4, 5, 8, 0] rfl ?_
          exact w_X11_early_J146 C hr hlk hK57 h39
set_option maxHeartbeats 4000000 in
set_option maxRecDepth 100000 in
theorem w_X11_early_L57 {p : Program} {l : Launch} {e : Env} {s : State} {m : MethodId} {args : Array Value} {below : List Frame} {meth : Method} {c : Code} {g : Geo} (C : Cx p s m args c cX11_early RX11 9 g) (hr : meth.sig.returnType = (some .int)) (hlk : meth.locks = false) {a0 : Nat} {x1 : Int32} {x2 : Int32} {x3 : Int32} {v4 : Option Nat} {v5 : Int32} {v6 : Int32} {v7 : Int32} {M : Mem} {Q : Int32 → Mem → Prop} (h : f_X11_early_L57 a0 x1 x2 x3 v4 v5 v6 v7 M Q) : E p l e (rmO 7 0 0) s m args below meth c g 9 (MQ below (QcM g (rI Q)) args s 0 0 (gA g)) 0 0 57 [(0, .ref a0), (1, .int x1), (2, .int x2), (3, .int x3), (4, va_rf v4), (5, .int v5), (6, .int v6), (7, .int v7)] [] M := by
  unfold f_X11_early_L57 at h
  refine loop_E (W := fun z : (Option Nat) × Int32 × Int32 × Int32 × Mem => E p l e (rmO 7 0 0) s m args below meth c g 9 (MQ below (QcM g (rI Q)) args s 0 0 (gA g)) 0 0 57 [(0, .ref a0), (1, .int x1), (2, .int x2), (3, .int x3), (4, va_rf z.1), (5, .int z.2.1), (6, .int z.2.2.1), (7, .int z.2.2.2.1)] [] (z.2.2.2.2)) h (fun K z hK h => ?_)
  exact w_X11_early_B57 C hr hlk hK h
set_option maxHeartbeats 4000000 in
set_option maxRecDepth 100000 in
theorem w_X11_early {p : Program} {l : Launch} {e : Env} {s : State} {m : MethodId} {args : Array Value} {below : List Frame} {meth : Method} {c : Code} {g : Geo} (C : Cx p s m args c cX11_early RX11 9 g) (hr : meth.sig.returnType = (some .int)) (hlk : meth.locks = false) {a0 : Nat} {x1 : Int32} {x2 : Int32} {x3 : Int32} {M : Mem} {Q : Int32 → Mem → Prop} (h : f_X11_early a0 x1 x2 x3 M Q) : E p l e (rmO 7 0 0) s m args below meth c g 9 (MQ below (QcM g (rI Q)) args s 0 0 (gA g)) 0 0 0 [(0, .ref a0), (1, .int x1), (2, .int x2), (3, .int x3)] [] M := by
  unfold f_X11_early at h
  refine e_aload_n C 0 dX11_early_0 rfl rfl ?_
  refine e_iload_n C 1 dX11_early_1 rfl rfl ?_
  obtain ⟨o3, h⟩ := h
  refine e_callV (as := [.int x1]) C wb_X11_orderAt wv_X11_131 (ci := 11) rfl rfl (isO_1 o3) (m_X11_orderAt h) rfl ⟨Nat.le_of_ble_eq_true rfl, Nat.le_of_ble_eq_true rfl⟩ ⟨Nat.le_of_ble_eq_true rfl, Nat.le_of_ble_eq_true rfl⟩ (by first | exact Nat.le_of_ble_eq_true rfl | (simp only [List.map_cons, List.map_nil, va_cat, List.sum_cons, List.sum_nil]; exact Nat.le_of_ble_eq_true rfl)) dX11_early_2 (kA (fun w1 M2 h20 => ?_))
  refine e_rstore (al' := [(4, va_rf w1), (0, .ref a0), (1, .int x1), (2, .int x2), (3, .int x3)]) C dX11_early_5 (by decide) rfl ?_
  refine e_rload C 0 dX11_early_7 rfl ?_
  refine e_ifnull (tgt := 29) C dX11_early_9 (by decide) (fun q4 => ?_) (fun b5 q4 => ?_)
  · replace h20 := h20.1 q4
    subst q4
    refine e_iconst (v := -1) C dX11_early_29 (by decide) ?_
    exact e_iret C hr hlk (Nat.le_refl _) (Nat.le_refl _) dX11_early_30 ⟨_, rfl, h20⟩
  · replace h20 := h20.2 b5 q4
    subst q4
    refine e_aload_n C 1 dX11_early_12 rfl rfl ?_
    refine e_iload_n C 3 dX11_early_13 rfl rfl ?_
    obtain ⟨o8, h20⟩ := h20
    refine e_callV (as := [.int x2]) C wb_X11_noSort wv_X11_88 (ci := 11) rfl rfl (isO_1 o8) (m_X11_noSort h20) rfl ⟨Nat.le_of_ble_eq_true rfl, Nat.le_of_ble_eq_true rfl⟩ ⟨Nat.le_of_ble_eq_true rfl, Nat.le_of_ble_eq_true rfl⟩ (by first | exact Nat.le_of_ble_eq_true rfl | (simp only [List.map_cons, List.map_nil, va_cat, List.sum_cons, List.sum_nil]; exact Nat.le_of_ble_eq_true rfl)) dX11_early_14 (kZ (fun w6 M7 h19 => ?_))
    refine e_if_ne (tgt := 29) C dX11_early_17 (by decide) (fun q9 => ?_) (fun q9 => ?_)
    · replace h19 := ite_t h19 (bi_t q9)
      refine e_iconst (v := -1) C dX11_early_29 (by decide) ?_
      exact e_iret C hr hlk (Nat.le_refl _) (Nat.le_refl _) dX11_early_30 ⟨_, rfl, h19⟩
    · replace h19 := ite_f h19 (bi_ne q9)
      refine e_iload_n C 4 dX11_early_20 rfl rfl ?_
      refine e_iconst (v := 0) C dX11_early_21 (by decide) ?_
      refine e_iconst (v := 1) C dX11_early_22 (by decide) ?_
      refine e_callS (as := [.int x3, .int (0 : Int32), .int (1 : Int32)]) C wb_X11_outside wt_X11_77 (m_X11_outside h19) rfl ⟨Nat.le_of_ble_eq_true rfl, Nat.le_of_ble_eq_true rfl⟩ ⟨Nat.le_of_ble_eq_true rfl, Nat.le_of_ble_eq_true rfl⟩ (by first | exact Nat.le_of_ble_eq_true rfl | (simp only [List.map_cons, List.map_nil, va_cat, List.sum_cons, List.sum_nil]; exact Nat.le_of_ble_eq_true rfl)) dX11_early_23 (kZ (fun w10 M11 h18 => ?_))
      refine e_if_eq (tgt := 31) C dX11_early_26 (by decide) (fun q12 => ?_) (fun q12 => ?_)
      · replace h18 := ite_f h18 (bi_ne q12)
        refine e_aload_n C 1 dX11_early_31 rfl rfl ?_
        obtain ⟨o13, h18⟩ := h18
        refine e_getR C [11] 11 (fg_of fg_X11_47) o13 dX11_early_32 ?_
        obtain ⟨b14, p15, h18⟩ := h18
        try rw [p15]
        obtain ⟨o16, h18⟩ := h18
        refine e_getI C [0] 4 (fg_of fg_X11_118) o16 dX11_early_35 ?_
        refine e_bipush (v := 12) C dX11_early_38 (by decide) ?_
        refine e_icmp_lt (tgt := 46) C dX11_early_40 (by decide) (fun q17 => ?_) (fun q17 => ?_)
        · replace h18 := ite_t h18 q17
          refine e_bipush (v := -5) C dX11_early_46 (by decide) ?_
          refine e_istore (al' := [(5, .int (-5 : Int32)), (4, .ref b5), (0, .ref a0), (1, .int x1), (2, .int x2), (3, .int x3)]) C dX11_early_48 (by decide) rfl ?_
          refine e_bipush (v := -5) C dX11_early_50 (by decide) ?_
          refine e_istore (al' := [(6, .int (-5 : Int32)), (5, .int (-5 : Int32)), (4, .ref b5), (0, .ref a0), (1, .int x1), (2, .int x2), (3, .int x3)]) C dX11_early_52 (by decide) rfl ?_
          refine e_iconst (v := 0) C dX11_early_54 (by decide) ?_
          refine e_istore (al' := [(7, .int (0 : Int32)), (6, .int (-5 : Int32)), (5, .int (-5 : Int32)), (4, .ref b5), (0, .ref a0), (1, .int x1), (2, .int x2), (3, .int x3)]) C dX11_early_55 (by decide) rfl ?_
          refine e_pick [4, 5, 6, 7, 3, 2, 1, 0] rfl ?_
          exact w_X11_early_L57 C hr hlk h18
        · replace h18 := ite_f h18 q17
          refine e_bipush (v := -4) C dX11_early_43 (by decide) ?_
          exact e_iret C hr hlk (Nat.le_refl _) (Nat.le_refl _) dX11_early_45 ⟨_, rfl, h18⟩
      · replace h18 := ite_t h18 (bi_t q12)
        refine e_iconst (v := -1) C dX11_early_29 (by decide) ?_
        exact e_iret C hr hlk (Nat.le_refl _) (Nat.le_refl _) dX11_early_30 ⟨_, rfl, h18⟩
theorem m_X11_early  {a0 : Nat} {x1 : Int32} {x2 : Int32} {x3 : Int32} {M : Mem} {Q : Int32 → Mem → Prop} (h : f_X11_early a0 x1 x2 x3 M Q) : Con yX11_early cX11_early 9 (some .int) 7 0 0 [.ref a0, .int x1, .int x2, .int x3] M (rI Q) :=
  con_of2 (al := [(0, .ref a0), (1, .int x1), (2, .int x2), (3, .int x3)]) (by decide) (by exact Nat.le_of_ble_eq_true rfl) (by rfl) (fun p l e s m args below meth c g C hr hlk _ => w_X11_early C hr hlk h)
set_option maxHeartbeats 4000000 in
set_option maxRecDepth 100000 in
theorem w_X11_sell {p : Program} {l : Launch} {e : Env} {s : State} {m : MethodId} {args : Array Value} {below : List Frame} {meth : Method} {c : Code} {g : Geo} (C : Cx p s m args c cX11_sell RX11 3 g) (hr : meth.sig.returnType = (some .int)) (hlk : meth.locks = false) {a0 : Nat} {x1 : Int32} {M : Mem} {Q : Int32 → Mem → Prop} (h : f_X11_sell a0 x1 M Q) : E p l e (rmO 8 0 0) s m args below meth c g 3 (MQ below (QcM g (rI Q)) args s 0 0 (gA g)) 0 0 0 [(0, .ref a0), (1, .int x1)] [] M := by
  unfold f_X11_sell at h
  refine e_aload_n C 0 dX11_sell_0 rfl rfl ?_
  refine e_iload_n C 1 dX11_sell_1 rfl rfl ?_
  obtain ⟨o3, h⟩ := h
  refine e_callV (as := [.int x1]) C wb_X11_orderAt wv_X11_131 (ci := 11) rfl rfl (isO_1 o3) (m_X11_orderAt h) rfl ⟨Nat.le_of_ble_eq_true rfl, Nat.le_of_ble_eq_true rfl⟩ ⟨Nat.le_of_ble_eq_true rfl, Nat.le_of_ble_eq_true rfl⟩ (by first | exact Nat.le_of_ble_eq_true rfl | (simp only [List.map_cons, List.map_nil, va_cat, List.sum_cons, List.sum_nil]; exact Nat.le_of_ble_eq_true rfl)) dX11_sell_2 (kA (fun w1 M2 h17 => ?_))
  refine e_rstore_n (al' := [(2, va_rf w1), (0, .ref a0), (1, .int x1)]) C dX11_sell_5 rfl (by decide) rfl ?_
  refine e_rload_n C 0 dX11_sell_6 rfl rfl ?_
  refine e_ifnonnull (tgt := 12) C dX11_sell_7 (by decide) (fun b5 q4 => ?_) (fun q4 => ?_)
  · replace h17 := h17.2 b5 q4
    subst q4
    refine e_aload_n C 1 dX11_sell_12 rfl rfl ?_
    refine e_aload_n C 0 dX11_sell_13 rfl rfl ?_
    obtain ⟨o8, h17⟩ := h17
    refine e_callV (as := [.ref b5]) C wb_X11_goThrough wv_X11_140 (ci := 11) rfl rfl (isO_1 o8) (m_X11_goThrough h17) rfl ⟨Nat.le_of_ble_eq_true rfl, Nat.le_of_ble_eq_true rfl⟩ ⟨Nat.le_of_ble_eq_true rfl, Nat.le_of_ble_eq_true rfl⟩ (by first | exact Nat.le_of_ble_eq_true rfl | (simp only [List.map_cons, List.map_nil, va_cat, List.sum_cons, List.sum_nil]; exact Nat.le_of_ble_eq_true rfl)) dX11_sell_14 (kV (fun M7 h16 => ?_))
    refine e_aload_n C 1 dX11_sell_17 rfl rfl ?_
    obtain ⟨o9, h16⟩ := h16
    refine e_getR C [11] 16 (fg_of fg_X11_62) o9 dX11_sell_18 ?_
    obtain ⟨b10, p11, h16⟩ := h16
    try rw [p11]
    obtain ⟨o14, h16⟩ := h16
    refine e_callV (as := []) C wb_X3_sales wv_X11_214 (ci := 3) rfl rfl (isO_1 o14) (m_X3_sales h16) rfl ⟨Nat.le_of_ble_eq_true rfl, Nat.le_of_ble_eq_true rfl⟩ ⟨Nat.le_of_ble_eq_true rfl, Nat.le_of_ble_eq_true rfl⟩ (by first | exact Nat.le_of_ble_eq_true rfl | (simp only [List.map_cons, List.map_nil, va_cat, List.sum_cons, List.sum_nil]; exact Nat.le_of_ble_eq_true rfl)) dX11_sell_21 (kI (fun w12 M13 h15 => ?_))
    exact e_iret C hr hlk (Nat.le_refl _) (Nat.le_refl _) dX11_sell_24 ⟨_, rfl, h15⟩
  · replace h17 := h17.1 q4
    subst q4
    refine e_iconst (v := -1) C dX11_sell_10 (by decide) ?_
    exact e_iret C hr hlk (Nat.le_refl _) (Nat.le_refl _) dX11_sell_11 ⟨_, rfl, h17⟩
theorem m_X11_sell  {a0 : Nat} {x1 : Int32} {M : Mem} {Q : Int32 → Mem → Prop} (h : f_X11_sell a0 x1 M Q) : Con yX11_sell cX11_sell 3 (some .int) 8 0 0 [.ref a0, .int x1] M (rI Q) :=
  con_of2 (al := [(0, .ref a0), (1, .int x1)]) (by decide) (by exact Nat.le_of_ble_eq_true rfl) (by rfl) (fun p l e s m args below meth c g C hr hlk _ => w_X11_sell C hr hlk h)
set_option maxHeartbeats 4000000 in
set_option maxRecDepth 100000 in
theorem w_X11_chance_J100 {p : Program} {l : Launch} {e : Env} {s : State} {m : MethodId} {args : Array Value} {below : List Frame} {meth : Method} {c : Code} {g : Geo} (C : Cx p s m args c cX11_chance RX11 6 g) (hr : meth.sig.returnType = (some .long)) (hlk : meth.locks = false) {a0 : Nat} {x1 : Int32} {v2 : Int64} {v4 : Int32} {M : Mem} {K13 : Int64 × Int32 × Mem → Prop} {Q : Int64 → Mem → Prop} (hK13 : ∀ z : Int64 × Int32 × Mem, K13 z → E p l e (rmO 2 0 0) s m args below meth c g 6 (MQ below (QcM g (rJ Q)) args s 0 0 (gA g)) 0 0 13 [(0, .ref a0), (1, .int x1), (2, .long z.1), (4, .int z.2.1)] [] (z.2.2)) (h : f_X11_chance_J100 a0 x1 v2 v4 M K13 Q) : E p l e (rmO 2 0 0) s m args below meth c g 6 (MQ below (QcM g (rJ Q)) args s 0 0 (gA g)) 0 0 100 [(0, .ref a0), (1, .int x1), (2, .long v2), (4, .int v4)] [] M := by
  unfold f_X11_chance_J100 at h
  refine e_iinc (v := (v4 + 1)) (al' := [(4, .int (v4 + 1)), (0, .ref a0), (1, .int x1), (2, .long v2)]) C 3 dX11_chance_100 rfl rfl (by decide) rfl ?_
  refine e_goto (tgt := 13) C dX11_chance_103 (by decide) ?_
  refine e_pick [1, 2, 3, 0] rfl ?_
  exact hK13 (v2, (v4 + 1), M) h
set_option maxHeartbeats 4000000 in
set_option maxRecDepth 100000 in
theorem w_X11_chance_B13 {p : Program} {l : Launch} {e : Env} {s : State} {m : MethodId} {args : Array Value} {below : List Frame} {meth : Method} {c : Code} {g : Geo} (C : Cx p s m args c cX11_chance RX11 6 g) (hr : meth.sig.returnType = (some .long)) (hlk : meth.locks = false) {a0 : Nat} {x1 : Int32} {v2 : Int64} {v4 : Int32} {M : Mem} {K13 : Int64 × Int32 × Mem → Prop} {Q : Int64 → Mem → Prop} (hK13 : ∀ z : Int64 × Int32 × Mem, K13 z → E p l e (rmO 2 0 0) s m args below meth c g 6 (MQ below (QcM g (rJ Q)) args s 0 0 (gA g)) 0 0 13 [(0, .ref a0), (1, .int x1), (2, .long z.1), (4, .int z.2.1)] [] (z.2.2)) (h : f_X11_chance_B13 a0 x1 v2 v4 M K13 Q) : E p l e (rmO 2 0 0) s m args below meth c g 6 (MQ below (QcM g (rJ Q)) args s 0 0 (gA g)) 0 0 13 [(0, .ref a0), (1, .int x1), (2, .long v2), (4, .int v4)] [] M := by
  unfold f_X11_chance_B13 at h
  refine e_iload C 3 dX11_chance_13 rfl ?_
  refine e_aload_n C 0 dX11_chance_15 rfl rfl ?_
  obtain ⟨o1, h⟩ := h
  refine e_getR C [11] 11 (fg_of fg_X11_47) o1 dX11_chance_16 ?_
  obtain ⟨b2, p3, h⟩ := h
  try rw [p3]
  obtain ⟨o4, h⟩ := h
  refine e_getI C [0] 4 (fg_of fg_X11_118) o4 dX11_chance_19 ?_
  refine e_icmp_ge (tgt := 106) C dX11_chance_22 (by decide) (fun q5 => ?_) (fun q5 => ?_)
  · replace h := ite_t h q5
    refine e_lload_n C 2 dX11_chance_106 rfl rfl ?_
    exact e_lret C hr hlk (Nat.le_refl _) (Nat.le_refl _) dX11_chance_107 ⟨_, rfl, h⟩
  · replace h := ite_f h q5
    refine e_aload_n C 0 dX11_chance_25 rfl rfl ?_
    refine e_getR C [11] 11 (fg_of fg_X11_47) o1 dX11_chance_26 ?_
    rw [p3]
    refine e_getR C [0] 1 (fg_of fg_X11_85) o4 dX11_chance_29 ?_
    refine e_aload_n C 0 dX11_chance_32 rfl rfl ?_
    refine e_getR C [11] 11 (fg_of fg_X11_47) o1 dX11_chance_33 ?_
    rw [p3]
    refine e_getR C [0] 2 (fg_of fg_X11_295) o4 dX11_chance_36 ?_
    refine e_iload C 3 dX11_chance_39 rfl ?_
    obtain ⟨b6, p7, h⟩ := h
    try rw [p7]
    obtain ⟨o8, h⟩ := h
    refine e_iald C o8 dX11_chance_41 ?_
    obtain ⟨b9, p10, h⟩ := h
    try rw [p10]
    obtain ⟨o11, h⟩ := h
    refine e_iald C o11 dX11_chance_42 ?_
    refine e_istore (al' := [(5, .int (mI M b9 ((mI M b6 (v4).toNatClampNeg)).toNatClampNeg)), (0, .ref a0), (1, .int x1), (2, .long v2), (4, .int v4)]) C dX11_chance_43 (by decide) rfl ?_
    refine e_iload_n C 2 dX11_chance_45 rfl rfl ?_
    refine e_iload C 4 dX11_chance_46 rfl ?_
    refine e_ishr C dX11_chance_48 ?_
    refine e_iconst (v := 1) C dX11_chance_49 (by decide) ?_
    refine e_iand C dX11_chance_50 ?_
    refine e_iconst (v := 1) C dX11_chance_51 (by decide) ?_
    refine e_icmp_ne (tgt := 91) C dX11_chance_52 (by decide) (fun q12 => ?_) (fun q12 => ?_)
    · replace h := ite_f h q12
      refine e_lload_n C 3 dX11_chance_91 rfl rfl ?_
      refine e_bipush (v := 10) C dX11_chance_92 (by decide) ?_
      refine e_iload C 0 dX11_chance_94 rfl ?_
      refine e_isub C dX11_chance_96 ?_
      refine e_i2l C dX11_chance_97 ?_
      refine e_lmul C dX11_chance_98 ?_
      refine e_lstore_n (al' := [(2, .long (v2 * ((((10 : Int32) - (mI M b9 ((mI M b6 (v4).toNatClampNeg)).toNatClampNeg))).toInt64))), (5, .int (mI M b9 ((mI M b6 (v4).toNatClampNeg)).toNatClampNeg)), (0, .ref a0), (1, .int x1), (4, .int v4)]) C dX11_chance_99 rfl (by decide) rfl ?_
      refine e_pick [2, 3, 0, 4] rfl ?_
      exact w_X11_chance_J100 C hr hlk hK13 h
    · replace h := ite_t h q12
      refine e_lload_n C 3 dX11_chance_55 rfl rfl ?_
      refine e_iload C 0 dX11_chance_56 rfl ?_
      refine e_i2l C dX11_chance_58 ?_
      refine e_lmul C dX11_chance_59 ?_
      refine e_lstore_n (al' := [(2, .long (v2 * (((mI M b9 ((mI M b6 (v4).toNatClampNeg)).toNatClampNeg)).toInt64))), (5, .int (mI M b9 ((mI M b6 (v4).toNatClampNeg)).toNatClampNeg)), (0, .ref a0), (1, .int x1), (4, .int v4)]) C dX11_chance_60 rfl (by decide) rfl ?_
      refine e_aload_n C 2 dX11_chance_61 rfl rfl ?_
      refine e_getR C [11] 13 (fg_of fg_X11_54) o1 dX11_chance_62 ?_
      refine e_aload_n C 2 dX11_chance_65 rfl rfl ?_
      refine e_getR C [11] 11 (fg_of fg_X11_47) o1 dX11_chance_66 ?_
      rw [p3]
      refine e_getR C [0] 2 (fg_of fg_X11_295) o4 dX11_chance_69 ?_
      rw [p7]
      refine e_iload C 4 dX11_chance_72 rfl ?_
      obtain ⟨o13, h⟩ := h
      refine e_iald C o13 dX11_chance_74 ?_
      refine e_aload_n C 2 dX11_chance_75 rfl rfl ?_
      refine e_getR C [11] 11 (fg_of fg_X11_47) o1 dX11_chance_76 ?_
      rw [p3]
      refine e_getR C [0] 3 (fg_of fg_X11_297) o4 dX11_chance_79 ?_
      refine e_iload C 4 dX11_chance_82 rfl ?_
      obtain ⟨b14, p15, h⟩ := h
      try rw [p15]
      obtain ⟨o16, h⟩ := h
      refine e_iald C o16 dX11_chance_84 ?_
      obtain ⟨b17, p18, h⟩ := h
      try rw [p18]
      obtain ⟨o21, h⟩ := h
      refine e_callV (as := [.int (mI M b6 (v4).toNatClampNeg), .int (mI M b14 (v4).toNatClampNeg)]) C wb_X0_tell wv_X11_121 (ci := 0) rfl rfl (isO_1 o21) (m_X0_tell h) rfl ⟨Nat.le_of_ble_eq_true rfl, Nat.le_of_ble_eq_true rfl⟩ ⟨Nat.le_of_ble_eq_true rfl, Nat.le_of_ble_eq_true rfl⟩ (by first | exact Nat.le_of_ble_eq_true rfl | (simp only [List.map_cons, List.map_nil, va_cat, List.sum_cons, List.sum_nil]; exact Nat.le_of_ble_eq_true rfl)) dX11_chance_85 (kV (fun M20 h22 => ?_))
      refine e_goto (tgt := 100) C dX11_chance_88 (by decide) ?_
      refine e_pick [2, 3, 0, 4] rfl ?_
      exact w_X11_chance_J100 C hr hlk hK13 h22
set_option maxHeartbeats 4000000 in
set_option maxRecDepth 100000 in
theorem w_X11_chance_L13 {p : Program} {l : Launch} {e : Env} {s : State} {m : MethodId} {args : Array Value} {below : List Frame} {meth : Method} {c : Code} {g : Geo} (C : Cx p s m args c cX11_chance RX11 6 g) (hr : meth.sig.returnType = (some .long)) (hlk : meth.locks = false) {a0 : Nat} {x1 : Int32} {v2 : Int64} {v4 : Int32} {M : Mem} {Q : Int64 → Mem → Prop} (h : f_X11_chance_L13 a0 x1 v2 v4 M Q) : E p l e (rmO 2 0 0) s m args below meth c g 6 (MQ below (QcM g (rJ Q)) args s 0 0 (gA g)) 0 0 13 [(0, .ref a0), (1, .int x1), (2, .long v2), (4, .int v4)] [] M := by
  unfold f_X11_chance_L13 at h
  refine loop_E (W := fun z : Int64 × Int32 × Mem => E p l e (rmO 2 0 0) s m args below meth c g 6 (MQ below (QcM g (rJ Q)) args s 0 0 (gA g)) 0 0 13 [(0, .ref a0), (1, .int x1), (2, .long z.1), (4, .int z.2.1)] [] (z.2.2)) h (fun K z hK h => ?_)
  exact w_X11_chance_B13 C hr hlk hK h
set_option maxHeartbeats 4000000 in
set_option maxRecDepth 100000 in
theorem w_X11_chance {p : Program} {l : Launch} {e : Env} {s : State} {m : MethodId} {args : Array Value} {below : List Frame} {meth : Method} {c : Code} {g : Geo} (C : Cx p s m args c cX11_chance RX11 6 g) (hr : meth.sig.returnType = (some .long)) (hlk : meth.locks = false) {a0 : Nat} {x1 : Int32} {M : Mem} {Q : Int64 → Mem → Prop} (h : f_X11_chance a0 x1 M Q) : E p l e (rmO 2 0 0) s m args below meth c g 6 (MQ below (QcM g (rJ Q)) args s 0 0 (gA g)) 0 0 0 [(0, .ref a0), (1, .int x1)] [] M := by
  unfold f_X11_chance at h
  refine e_aload_n C 0 dX11_chance_0 rfl rfl ?_
  obtain ⟨o1, h⟩ := h
  refine e_getR C [11] 13 (fg_of fg_X11_54) o1 dX11_chance_1 ?_
  refine e_iconst (v := 0) C dX11_chance_4 (by decide) ?_
  obtain ⟨b2, p3, h⟩ := h
  try rw [p3]
  obtain ⟨o4, h⟩ := h
  refine e_putI C [0] 4 false (fun z => by cases z) fp_X11_118 o4 dX11_chance_5 ?_
  refine nmE (fun M5 e6 => ?_)
  replace h := h M5 e6
  have o7 : isO M5 a0 [11] := by rw [e6]; exact o1
  have p8 : mP M5 a0 13 = some b2 := by rw [e6]; exact p3
  have o9 : isO M5 b2 [0] := by rw [e6]; exact o4
  refine e_lconst (v := 1) C dX11_chance_8 (by decide) ?_
  refine e_lstore_n (al' := [(2, .long (1 : Int64)), (0, .ref a0), (1, .int x1)]) C dX11_chance_9 rfl (by decide) rfl ?_
  refine e_iconst (v := 0) C dX11_chance_10 (by decide) ?_
  refine e_istore (al' := [(4, .int (0 : Int32)), (2, .long (1 : Int64)), (0, .ref a0), (1, .int x1)]) C dX11_chance_11 (by decide) rfl ?_
  refine e_pick [2, 3, 1, 0] rfl ?_
  exact w_X11_chance_L13 C hr hlk h
theorem m_X11_chance  {a0 : Nat} {x1 : Int32} {M : Mem} {Q : Int64 → Mem → Prop} (h : f_X11_chance a0 x1 M Q) : Con yX11_chance cX11_chance 6 (some .long) 2 0 0 [.ref a0, .int x1] M (rJ Q) :=
  con_of2 (al := [(0, .ref a0), (1, .int x1)]) (by decide) (by exact Nat.le_of_ble_eq_true rfl) (by rfl) (fun p l e s m args below meth c g C hr hlk _ => w_X11_chance C hr hlk h)
set_option maxHeartbeats 4000000 in
set_option maxRecDepth 100000 in
theorem w_X11_reduced_J74 {p : Program} {l : Launch} {e : Env} {s : State} {m : MethodId} {args : Array Value} {below : List Frame} {meth : Method} {c : Code} {g : Geo} (C : Cx p s m args c cX11_reduced RX11 6 g) (hr : meth.sig.returnType = (some .long)) (hlk : meth.locks = false) {x4 : Int32} {v0 : Int64} {v2 : Int64} {v5 : Int32} {M : Mem} {K3 : Int64 × Int64 × Int32 × Mem → Prop} {Q : Int64 → Mem → Prop} (hK3 : ∀ z : Int64 × Int64 × Int32 × Mem, K3 z → E p l e (rmO 1 0 0) s m args below meth c g 6 (MQ below (QcM g (rJ Q)) args s 0 0 (gA g)) 0 0 3 [(4, .int x4), (0, .long z.1), (2, .long z.2.1), (5, .int z.2.2.1)] [] (z.2.2.2)) (h : f_X11_reduced_J74 x4 v0 v2 v5 M K3 Q) : E p l e (rmO 1 0 0) s m args below meth c g 6 (MQ below (QcM g (rJ Q)) args s 0 0 (gA g)) 0 0 74 [(4, .int x4), (0, .long v0), (2, .long v2), (5, .int v5)] [] M := by
  unfold f_X11_reduced_J74 at h
  refine e_iinc (v := (v5 + 1)) (al' := [(5, .int (v5 + 1)), (4, .int x4), (0, .long v0), (2, .long v2)]) C 3 dX11_reduced_74 rfl rfl (by decide) rfl ?_
  refine e_goto (tgt := 3) C dX11_reduced_77 (by decide) ?_
  refine e_pick [1, 2, 3, 0] rfl ?_
  exact hK3 (v0, v2, (v5 + 1), M) h
set_option maxHeartbeats 4000000 in
set_option maxRecDepth 100000 in
theorem w_X11_reduced_J42 {p : Program} {l : Launch} {e : Env} {s : State} {m : MethodId} {args : Array Value} {below : List Frame} {meth : Method} {c : Code} {g : Geo} (C : Cx p s m args c cX11_reduced RX11 6 g) (hr : meth.sig.returnType = (some .long)) (hlk : meth.locks = false) {x4 : Int32} {v0 : Int64} {v2 : Int64} {v5 : Int32} {M : Mem} {K3 : Int64 × Int64 × Int32 × Mem → Prop} {Q : Int64 → Mem → Prop} (hK3 : ∀ z : Int64 × Int64 × Int32 × Mem, K3 z → E p l e (rmO 1 0 0) s m args below meth c g 6 (MQ below (QcM g (rJ Q)) args s 0 0 (gA g)) 0 0 3 [(4, .int x4), (0, .long z.1), (2, .long z.2.1), (5, .int z.2.2.1)] [] (z.2.2.2)) (h : f_X11_reduced_J42 x4 v0 v2 v5 M K3 Q) : E p l e (rmO 1 0 0) s m args below meth c g 6 (MQ below (QcM g (rJ Q)) args s 0 0 (gA g)) 0 0 42 [(4, .int x4), (0, .long v0), (2, .long v2), (5, .int v5)] [] M := by
  unfold f_X11_reduced_J42 at h
  refine e_lload_n C 1 dX11_reduced_42 rfl rfl ?_
  refine e_ldc2 (v := 5) C wd_792 dX11_reduced_43 ?_
  obtain ⟨n1, h⟩ := h
  refine e_lrem C dX11_reduced_46 n1 ?_
  refine e_lconst (v := 0) C dX11_reduced_47 (by decide) ?_
  refine e_lcmp C dX11_reduced_48 ?_
  refine e_if_ne (tgt := 74) C dX11_reduced_49 (by decide) (fun q2 => ?_) (fun q2 => ?_)
  · replace h := ite_f h q2
    exact w_X11_reduced_J74 C hr hlk hK3 h
  · replace h := ite_t h q2
    refine e_lload_n C 2 dX11_reduced_52 rfl rfl ?_
    refine e_ldc2 (v := 5) C wd_792 dX11_reduced_53 ?_
    obtain ⟨n3, h⟩ := h
    refine e_lrem C dX11_reduced_56 n3 ?_
    refine e_lconst (v := 0) C dX11_reduced_57 (by decide) ?_
    refine e_lcmp C dX11_reduced_58 ?_
    refine e_if_ne (tgt := 74) C dX11_reduced_59 (by decide) (fun q4 => ?_) (fun q4 => ?_)
    · replace h := ite_f h q4
      exact w_X11_reduced_J74 C hr hlk hK3 h
    · replace h := ite_t h q4
      refine e_lload_n C 1 dX11_reduced_62 rfl rfl ?_
      refine e_ldc2 (v := 5) C wd_792 dX11_reduced_63 ?_
      obtain ⟨n5, h⟩ := h
      refine e_ldiv C dX11_reduced_66 n5 ?_
      refine e_lstore_n (al' := [(0, .long (v0 / (5 : Int64))), (4, .int x4), (2, .long v2), (5, .int v5)]) C dX11_reduced_67 rfl (by decide) rfl ?_
      refine e_lload_n C 2 dX11_reduced_68 rfl rfl ?_
      refine e_ldc2 (v := 5) C wd_792 dX11_reduced_69 ?_
      obtain ⟨n6, h⟩ := h
      refine e_ldiv C dX11_reduced_72 n6 ?_
      refine e_lstore_n (al' := [(2, .long (v2 / (5 : Int64))), (0, .long (v0 / (5 : Int64))), (4, .int x4), (5, .int v5)]) C dX11_reduced_73 rfl (by decide) rfl ?_
      refine e_pick [2, 1, 0, 3] rfl ?_
      exact w_X11_reduced_J74 C hr hlk hK3 h
set_option maxHeartbeats 4000000 in
set_option maxRecDepth 100000 in
theorem w_X11_reduced_B3 {p : Program} {l : Launch} {e : Env} {s : State} {m : MethodId} {args : Array Value} {below : List Frame} {meth : Method} {c : Code} {g : Geo} (C : Cx p s m args c cX11_reduced RX11 6 g) (hr : meth.sig.returnType = (some .long)) (hlk : meth.locks = false) {x4 : Int32} {v0 : Int64} {v2 : Int64} {v5 : Int32} {M : Mem} {K3 : Int64 × Int64 × Int32 × Mem → Prop} {Q : Int64 → Mem → Prop} (hK3 : ∀ z : Int64 × Int64 × Int32 × Mem, K3 z → E p l e (rmO 1 0 0) s m args below meth c g 6 (MQ below (QcM g (rJ Q)) args s 0 0 (gA g)) 0 0 3 [(4, .int x4), (0, .long z.1), (2, .long z.2.1), (5, .int z.2.2.1)] [] (z.2.2.2)) (h : f_X11_reduced_B3 x4 v0 v2 v5 M K3 Q) : E p l e (rmO 1 0 0) s m args below meth c g 6 (MQ below (QcM g (rJ Q)) args s 0 0 (gA g)) 0 0 3 [(4, .int x4), (0, .long v0), (2, .long v2), (5, .int v5)] [] M := by
  unfold f_X11_reduced_B3 at h
  refine e_iload C 3 dX11_reduced_3 rfl ?_
  refine e_bipush (v := 6) C dX11_reduced_5 (by decide) ?_
  refine e_icmp_ge (tgt := 80) C dX11_reduced_7 (by decide) (fun q1 => ?_) (fun q1 => ?_)
  · replace h := ite_t h q1
    refine e_iload C 0 dX11_reduced_80 rfl ?_
    refine e_if_ne (tgt := 89) C dX11_reduced_82 (by decide) (fun q2 => ?_) (fun q2 => ?_)
    · replace h := ite_f h q2
      refine e_lload_n C 2 dX11_reduced_89 rfl rfl ?_
      exact e_lret C hr hlk (Nat.le_refl _) (Nat.le_refl _) dX11_reduced_90 ⟨_, rfl, h⟩
    · replace h := ite_t h q2
      refine e_lload_n C 1 dX11_reduced_85 rfl rfl ?_
      refine e_goto (tgt := 90) C dX11_reduced_86 (by decide) ?_
      exact e_lret C hr hlk (Nat.le_refl _) (Nat.le_refl _) dX11_reduced_90 ⟨_, rfl, h⟩
  · replace h := ite_f h q1
    refine e_lload_n C 1 dX11_reduced_10 rfl rfl ?_
    refine e_ldc2 (v := 2) C wd_791 dX11_reduced_11 ?_
    obtain ⟨n3, h⟩ := h
    refine e_lrem C dX11_reduced_14 n3 ?_
    refine e_lconst (v := 0) C dX11_reduced_15 (by decide) ?_
    refine e_lcmp C dX11_reduced_16 ?_
    refine e_if_ne (tgt := 42) C dX11_reduced_17 (by decide) (fun q4 => ?_) (fun q4 => ?_)
    · replace h := ite_f h q4
      exact w_X11_reduced_J42 C hr hlk hK3 h
    · replace h := ite_t h q4
      refine e_lload_n C 2 dX11_reduced_20 rfl rfl ?_
      refine e_ldc2 (v := 2) C wd_791 dX11_reduced_21 ?_
      obtain ⟨n5, h⟩ := h
      refine e_lrem C dX11_reduced_24 n5 ?_
      refine e_lconst (v := 0) C dX11_reduced_25 (by decide) ?_
      refine e_lcmp C dX11_reduced_26 ?_
      refine e_if_ne (tgt := 42) C dX11_reduced_27 (by decide) (fun q6 => ?_) (fun q6 => ?_)
      · replace h := ite_f h q6
        exact w_X11_reduced_J42 C hr hlk hK3 h
      · replace h := ite_t h q6
        refine e_lload_n C 1 dX11_reduced_30 rfl rfl ?_
        refine e_ldc2 (v := 2) C wd_791 dX11_reduced_31 ?_
        obtain ⟨n7, h⟩ := h
        refine e_ldiv C dX11_reduced_34 n7 ?_
        refine e_lstore_n (al' := [(0, .long (v0 / (2 : Int64))), (4, .int x4), (2, .long v2), (5, .int v5)]) C dX11_reduced_35 rfl (by decide) rfl ?_
        refine e_lload_n C 2 dX11_reduced_36 rfl rfl ?_
        refine e_ldc2 (v := 2) C wd_791 dX11_reduced_37 ?_
        obtain ⟨n8, h⟩ := h
        refine e_ldiv C dX11_reduced_40 n8 ?_
        refine e_lstore_n (al' := [(2, .long (v2 / (2 : Int64))), (0, .long (v0 / (2 : Int64))), (4, .int x4), (5, .int v5)]) C dX11_reduced_41 rfl (by decide) rfl ?_
        refine e_pick [2, 1, 0, 3] rfl ?_
        exact w_X11_reduced_J42 C hr hlk hK3 h
set_option maxHeartbeats 4000000 in
set_option maxRecDepth 100000 in
theorem w_X11_reduced_L3 {p : Program} {l : Launch} {e : Env} {s : State} {m : MethodId} {args : Array Value} {below : List Frame} {meth : Method} {c : Code} {g : Geo} (C : Cx p s m args c cX11_reduced RX11 6 g) (hr : meth.sig.returnType = (some .long)) (hlk : meth.locks = false) {x4 : Int32} {v0 : Int64} {v2 : Int64} {v5 : Int32} {M : Mem} {Q : Int64 → Mem → Prop} (h : f_X11_reduced_L3 x4 v0 v2 v5 M Q) : E p l e (rmO 1 0 0) s m args below meth c g 6 (MQ below (QcM g (rJ Q)) args s 0 0 (gA g)) 0 0 3 [(4, .int x4), (0, .long v0), (2, .long v2), (5, .int v5)] [] M := by
  unfold f_X11_reduced_L3 at h
  refine loop_E (W := fun z : Int64 × Int64 × Int32 × Mem => E p l e (rmO 1 0 0) s m args below meth c g 6 (MQ below (QcM g (rJ Q)) args s 0 0 (gA g)) 0 0 3 [(4, .int x4), (0, .long z.1), (2, .long z.2.1), (5, .int z.2.2.1)] [] (z.2.2.2)) h (fun K z hK h => ?_)
  exact w_X11_reduced_B3 C hr hlk hK h
set_option maxHeartbeats 4000000 in
set_option maxRecDepth 100000 in
theorem w_X11_reduced {p : Program} {l : Launch} {e : Env} {s : State} {m : MethodId} {args : Array Value} {below : List Frame} {meth : Method} {c : Code} {g : Geo} (C : Cx p s m args c cX11_reduced RX11 6 g) (hr : meth.sig.returnType = (some .long)) (hlk : meth.locks = false) {y0 : Int64} {y2 : Int64} {x4 : Int32} {M : Mem} {Q : Int64 → Mem → Prop} (h : f_X11_reduced y0 y2 x4 M Q) : E p l e (rmO 1 0 0) s m args below meth c g 6 (MQ below (QcM g (rJ Q)) args s 0 0 (gA g)) 0 0 0 [(0, .long y0), (2, .long y2), (4, .int x4)] [] M := by
  unfold f_X11_reduced at h
  refine e_iconst (v := 0) C dX11_reduced_0 (by decide) ?_
  refine e_istore (al' := [(5, .int (0 : Int32)), (0, .long y0), (2, .long y2), (4, .int x4)]) C dX11_reduced_1 (by decide) rfl ?_
  refine e_pick [3, 1, 2, 0] rfl ?_
  exact w_X11_reduced_L3 C hr hlk h
theorem m_X11_reduced  {y0 : Int64} {y2 : Int64} {x4 : Int32} {M : Mem} {Q : Int64 → Mem → Prop} (h : f_X11_reduced y0 y2 x4 M Q) : Con yX11_reduced cX11_reduced 6 (some .long) 1 0 0 [.long y0, .long y2, .int x4] M (rJ Q) :=
  con_of2 (al := [(0, .long y0), (2, .long y2), (4, .int x4)]) (by decide) (by exact Nat.le_of_ble_eq_true rfl) (by rfl) (fun p l e s m args below meth c g C hr hlk _ => w_X11_reduced C hr hlk h)
set_option maxHeartbeats 4000000 in
set_option maxRecDepth 100000 in
theorem w_X11_mean_B121 {p : Program} {l : Launch} {e : Env} {s : State} {m : MethodId} {args : Array Value} {below : List Frame} {meth : Method} {c : Code} {g : Geo} (C : Cx p s m args c cX11_mean RX11 11 g) (hr : meth.sig.returnType = (some .long)) (hlk : meth.locks = false) {a0 : Nat} {x1 : Int32} {x2 : Int32} {v4 : Int64} {v6 : Int64} {v8 : Int32} {M : Mem} {K121 : Int64 × Int64 × Int32 × Mem → Prop} {Q : Int64 → Mem → Prop} (hK121 : ∀ z : Int64 × Int64 × Int32 × Mem, K121 z → E p l e (rmO 7 0 0) s m args below meth c g 11 (MQ below (QcM g (rJ Q)) args s 0 0 (gA g)) 0 0 121 [(0, .ref a0), (1, .int x1), (2, .int x2), (4, .long z.1), (6, .long z.2.1), (8, .int z.2.2.1)] [] (z.2.2.2)) (h : f_X11_mean_B121 a0 x1 x2 v4 v6 v8 M K121 Q) : E p l e (rmO 7 0 0) s m args below meth c g 11 (MQ below (QcM g (rJ Q)) args s 0 0 (gA g)) 0 0 121 [(0, .ref a0), (1, .int x1), (2, .int x2), (4, .long v4), (6, .long v6), (8, .int v8)] [] M := by
  unfold f_X11_mean_B121 at h
  refine e_iload C 5 dX11_mean_121 rfl ?_
  refine e_aload_n C 0 dX11_mean_123 rfl rfl ?_
  obtain ⟨o1, h⟩ := h
  refine e_getR C [11] 11 (fg_of fg_X11_47) o1 dX11_mean_124 ?_
  obtain ⟨b2, p3, h⟩ := h
  try rw [p3]
  obtain ⟨o4, h⟩ := h
  refine e_getI C [0] 4 (fg_of fg_X11_118) o4 dX11_mean_127 ?_
  refine e_icmp_ge (tgt := 147) C dX11_mean_130 (by decide) (fun q5 => ?_) (fun q5 => ?_)
  · replace h := ite_t h q5
    refine e_lload C 3 dX11_mean_147 rfl ?_
    refine e_lload C 4 dX11_mean_149 rfl ?_
    refine e_iload_n C 2 dX11_mean_151 rfl rfl ?_
    refine e_callS (as := [.long v4, .long v6, .int x2]) C wb_X11_reduced wt_X11_225 (m_X11_reduced h) rfl ⟨Nat.le_of_ble_eq_true rfl, Nat.le_of_ble_eq_true rfl⟩ ⟨Nat.le_of_ble_eq_true rfl, Nat.le_of_ble_eq_true rfl⟩ (by first | exact Nat.le_of_ble_eq_true rfl | (simp only [List.map_cons, List.map_nil, va_cat, List.sum_cons, List.sum_nil]; exact Nat.le_of_ble_eq_true rfl)) dX11_mean_152 (kJ (fun w6 M7 h8 => ?_))
    exact e_lret C hr hlk (Nat.le_refl _) (Nat.le_refl _) dX11_mean_155 ⟨_, rfl, h8⟩
  · replace h := ite_f h q5
    refine e_lload C 4 dX11_mean_133 rfl ?_
    refine e_ldc2 (v := 10) C wd_787 dX11_mean_135 ?_
    refine e_lmul C dX11_mean_138 ?_
    refine e_lstore (al' := [(6, .long (v6 * (10 : Int64))), (0, .ref a0), (1, .int x1), (2, .int x2), (4, .long v4), (8, .int v8)]) C dX11_mean_139 (by decide) rfl ?_
    refine e_iinc (v := (v8 + 1)) (al' := [(8, .int (v8 + 1)), (6, .long (v6 * (10 : Int64))), (0, .ref a0), (1, .int x1), (2, .int x2), (4, .long v4)]) C 5 dX11_mean_141 rfl rfl (by decide) rfl ?_
    refine e_goto (tgt := 121) C dX11_mean_144 (by decide) ?_
    refine e_pick [2, 3, 4, 5, 1, 0] rfl ?_
    exact hK121 (v4, (v6 * (10 : Int64)), (v8 + 1), M) h
set_option maxHeartbeats 4000000 in
set_option maxRecDepth 100000 in
theorem w_X11_mean_L121 {p : Program} {l : Launch} {e : Env} {s : State} {m : MethodId} {args : Array Value} {below : List Frame} {meth : Method} {c : Code} {g : Geo} (C : Cx p s m args c cX11_mean RX11 11 g) (hr : meth.sig.returnType = (some .long)) (hlk : meth.locks = false) {a0 : Nat} {x1 : Int32} {x2 : Int32} {v4 : Int64} {v6 : Int64} {v8 : Int32} {M : Mem} {Q : Int64 → Mem → Prop} (h : f_X11_mean_L121 a0 x1 x2 v4 v6 v8 M Q) : E p l e (rmO 7 0 0) s m args below meth c g 11 (MQ below (QcM g (rJ Q)) args s 0 0 (gA g)) 0 0 121 [(0, .ref a0), (1, .int x1), (2, .int x2), (4, .long v4), (6, .long v6), (8, .int v8)] [] M := by
  unfold f_X11_mean_L121 at h
  refine loop_E (W := fun z : Int64 × Int64 × Int32 × Mem => E p l e (rmO 7 0 0) s m args below meth c g 11 (MQ below (QcM g (rJ Q)) args s 0 0 (gA g)) 0 0 121 [(0, .ref a0), (1, .int x1), (2, .int x2), (4, .long z.1), (6, .long z.2.1), (8, .int z.2.2.1)] [] (z.2.2.2)) h (fun K z hK h => ?_)
  exact w_X11_mean_B121 C hr hlk hK h
set_option maxHeartbeats 4000000 in
set_option maxRecDepth 100000 in
theorem w_X11_mean_J112 {p : Program} {l : Launch} {e : Env} {s : State} {m : MethodId} {args : Array Value} {below : List Frame} {meth : Method} {c : Code} {g : Geo} (C : Cx p s m args c cX11_mean RX11 11 g) (hr : meth.sig.returnType = (some .long)) (hlk : meth.locks = false) {a0 : Nat} {x1 : Int32} {x2 : Int32} {v3 : Option Nat} {v4 : Int64} {v6 : Int64} {v8 : Int32} {M : Mem} {K44 : (Option Nat) × Int64 × Int64 × Int32 × Mem → Prop} {Q : Int64 → Mem → Prop} (hK44 : ∀ z : (Option Nat) × Int64 × Int64 × Int32 × Mem, K44 z → E p l e (rmO 7 0 0) s m args below meth c g 11 (MQ below (QcM g (rJ Q)) args s 0 0 (gA g)) 0 0 44 [(0, .ref a0), (1, .int x1), (2, .int x2), (3, va_rf z.1), (4, .long z.2.1), (6, .long z.2.2.1), (8, .int z.2.2.2.1)] [] (z.2.2.2.2)) (h : f_X11_mean_J112 a0 x1 x2 v3 v4 v6 v8 M K44 Q) : E p l e (rmO 7 0 0) s m args below meth c g 11 (MQ below (QcM g (rJ Q)) args s 0 0 (gA g)) 0 0 112 [(0, .ref a0), (1, .int x1), (2, .int x2), (3, va_rf v3), (4, .long v4), (6, .long v6), (8, .int v8)] [] M := by
  unfold f_X11_mean_J112 at h
  refine e_iinc (v := (v8 + 1)) (al' := [(8, .int (v8 + 1)), (0, .ref a0), (1, .int x1), (2, .int x2), (3, va_rf v3), (4, .long v4), (6, .long v6)]) C 6 dX11_mean_112 rfl rfl (by decide) rfl ?_
  refine e_goto (tgt := 44) C dX11_mean_115 (by decide) ?_
  refine e_pick [1, 2, 3, 4, 5, 6, 0] rfl ?_
  exact hK44 (v3, v4, v6, (v8 + 1), M) h
set_option maxHeartbeats 4000000 in
set_option maxRecDepth 100000 in
theorem w_X11_mean_B44 {p : Program} {l : Launch} {e : Env} {s : State} {m : MethodId} {args : Array Value} {below : List Frame} {meth : Method} {c : Code} {g : Geo} (C : Cx p s m args c cX11_mean RX11 11 g) (hr : meth.sig.returnType = (some .long)) (hlk : meth.locks = false) {a0 : Nat} {x1 : Int32} {x2 : Int32} {v3 : Option Nat} {v4 : Int64} {v6 : Int64} {v8 : Int32} {M : Mem} {K44 : (Option Nat) × Int64 × Int64 × Int32 × Mem → Prop} {Q : Int64 → Mem → Prop} (hK44 : ∀ z : (Option Nat) × Int64 × Int64 × Int32 × Mem, K44 z → E p l e (rmO 7 0 0) s m args below meth c g 11 (MQ below (QcM g (rJ Q)) args s 0 0 (gA g)) 0 0 44 [(0, .ref a0), (1, .int x1), (2, .int x2), (3, va_rf z.1), (4, .long z.2.1), (6, .long z.2.2.1), (8, .int z.2.2.2.1)] [] (z.2.2.2.2)) (h : f_X11_mean_B44 a0 x1 x2 v3 v4 v6 v8 M K44 Q) : E p l e (rmO 7 0 0) s m args below meth c g 11 (MQ below (QcM g (rJ Q)) args s 0 0 (gA g)) 0 0 44 [(0, .ref a0), (1, .int x1), (2, .int x2), (3, va_rf v3), (4, .long v4), (6, .long v6), (8, .int v8)] [] M := by
  unfold f_X11_mean_B44 at h
  refine e_iload C 6 dX11_mean_44 rfl ?_
  refine e_iconst (v := 1) C dX11_mean_46 (by decide) ?_
  refine e_aload_n C 0 dX11_mean_47 rfl rfl ?_
  obtain ⟨o1, h⟩ := h
  refine e_getR C [11] 11 (fg_of fg_X11_47) o1 dX11_mean_48 ?_
  obtain ⟨b2, p3, h⟩ := h
  try rw [p3]
  obtain ⟨o4, h⟩ := h
  refine e_getI C [0] 4 (fg_of fg_X11_118) o4 dX11_mean_51 ?_
  refine e_ishl C dX11_mean_54 ?_
  refine e_icmp_ge (tgt := 118) C dX11_mean_55 (by decide) (fun q5 => ?_) (fun q5 => ?_)
  · replace h := ite_t h q5
    refine e_iconst (v := 0) C dX11_mean_118 (by decide) ?_
    refine e_istore (al' := [(8, .int (0 : Int32)), (0, .ref a0), (1, .int x1), (2, .int x2), (3, va_rf v3), (4, .long v4), (6, .long v6)]) C dX11_mean_119 (by decide) rfl ?_
    refine e_pick [1, 2, 3, 5, 6, 0] rfl ?_
    exact w_X11_mean_L121 C hr hlk h
  · replace h := ite_f h q5
    refine e_aload_n C 0 dX11_mean_58 rfl rfl ?_
    refine e_iload C 6 dX11_mean_59 rfl ?_
    refine e_callV (as := [.int v8]) C wb_X11_chance wv_X11_219 (ci := 11) rfl rfl (isO_1 o1) (m_X11_chance h) rfl ⟨Nat.le_of_ble_eq_true rfl, Nat.le_of_ble_eq_true rfl⟩ ⟨Nat.le_of_ble_eq_true rfl, Nat.le_of_ble_eq_true rfl⟩ (by first | exact Nat.le_of_ble_eq_true rfl | (simp only [List.map_cons, List.map_nil, va_cat, List.sum_cons, List.sum_nil]; exact Nat.le_of_ble_eq_true rfl)) dX11_mean_61 (kJ (fun w6 M7 h34 => ?_))
    refine e_lstore (al' := [(9, .long w6), (0, .ref a0), (1, .int x1), (2, .int x2), (3, va_rf v3), (4, .long v4), (6, .long v6), (8, .int v8)]) C dX11_mean_64 (by decide) rfl ?_
    refine e_lload C 0 dX11_mean_66 rfl ?_
    refine e_lconst (v := 0) C dX11_mean_68 (by decide) ?_
    refine e_lcmp C dX11_mean_69 ?_
    refine e_if_le (tgt := 112) C dX11_mean_70 (by decide) (fun q8 => ?_) (fun q8 => ?_)
    · replace h34 := ite_t h34 q8
      refine e_pick [1, 2, 3, 4, 5, 6, 7] rfl ?_
      exact w_X11_mean_J112 C hr hlk hK44 h34
    · replace h34 := ite_f h34 q8
      refine e_aload_n C 1 dX11_mean_73 rfl rfl ?_
      refine e_rload_n C 4 dX11_mean_74 rfl rfl ?_
      refine e_aload_n C 1 dX11_mean_75 rfl rfl ?_
      obtain ⟨o9, h34⟩ := h34
      refine e_getR C [11] 13 (fg_of fg_X11_54) o9 dX11_mean_76 ?_
      refine e_aload_n C 1 dX11_mean_79 rfl rfl ?_
      refine e_callV (as := []) C wb_X11_held wv_X11_105 (ci := 11) rfl rfl (isO_1 o9) (m_X11_held h34) rfl ⟨Nat.le_of_ble_eq_true rfl, Nat.le_of_ble_eq_true rfl⟩ ⟨Nat.le_of_ble_eq_true rfl, Nat.le_of_ble_eq_true rfl⟩ (by first | exact Nat.le_of_ble_eq_true rfl | (simp only [List.map_cons, List.map_nil, va_cat, List.sum_cons, List.sum_nil]; exact Nat.le_of_ble_eq_true rfl)) dX11_mean_80 (kA (fun w10 M11 h33 => ?_))
      obtain ⟨b12, rfl, h33⟩ := h33
      obtain ⟨o14, h33⟩ := h33
      refine e_getI C [10] 0 (fg_of fg_X11_109) o14 dX11_mean_83 ?_
      refine e_aload_n C 1 dX11_mean_86 rfl rfl ?_
      obtain ⟨o17, h33⟩ := h33
      refine e_callV (as := []) C wb_X11_held wv_X11_105 (ci := 11) rfl rfl (isO_1 o17) (m_X11_held h33) rfl ⟨Nat.le_of_ble_eq_true rfl, Nat.le_of_ble_eq_true rfl⟩ ⟨Nat.le_of_ble_eq_true rfl, Nat.le_of_ble_eq_true rfl⟩ (by first | exact Nat.le_of_ble_eq_true rfl | (simp only [List.map_cons, List.map_nil, va_cat, List.sum_cons, List.sum_nil]; exact Nat.le_of_ble_eq_true rfl)) dX11_mean_87 (kA (fun w15 M16 h32 => ?_))
      obtain ⟨b18, rfl, h32⟩ := h32
      obtain ⟨o20, h32⟩ := h32
      refine e_getI C [10] 1 (fg_of fg_X11_112) o20 dX11_mean_90 ?_
      obtain ⟨o23, h32⟩ := h32
      refine e_callV (as := [va_rf v3, va_rf (mP M7 a0 13), .int (mI M11 b12 0), .int (mI M16 b18 1)]) C wb_X11_goThroughWith wv_X11_198 (ci := 11) rfl rfl (isO_1 o23) (m_X11_goThroughWith h32) rfl ⟨Nat.le_of_ble_eq_true rfl, Nat.le_of_ble_eq_true rfl⟩ ⟨Nat.le_of_ble_eq_true rfl, Nat.le_of_ble_eq_true rfl⟩ (by first | exact Nat.le_of_ble_eq_true rfl | (simp only [List.map_cons, List.map_nil, va_cat, List.sum_cons, List.sum_nil]; exact Nat.le_of_ble_eq_true rfl)) dX11_mean_93 (kV (fun M22 h31 => ?_))
      refine e_lload C 5 dX11_mean_96 rfl ?_
      refine e_lload C 0 dX11_mean_98 rfl ?_
      refine e_aload_n C 1 dX11_mean_100 rfl rfl ?_
      obtain ⟨o24, h31⟩ := h31
      refine e_getR C [11] 16 (fg_of fg_X11_62) o24 dX11_mean_101 ?_
      obtain ⟨b25, p26, h31⟩ := h31
      try rw [p26]
      obtain ⟨o29, h31⟩ := h31
      refine e_callV (as := []) C wb_X3_lost wv_X11_178 (ci := 3) rfl rfl (isO_1 o29) (m_X3_lost h31) rfl ⟨Nat.le_of_ble_eq_true rfl, Nat.le_of_ble_eq_true rfl⟩ ⟨Nat.le_of_ble_eq_true rfl, Nat.le_of_ble_eq_true rfl⟩ (by first | exact Nat.le_of_ble_eq_true rfl | (simp only [List.map_cons, List.map_nil, va_cat, List.sum_cons, List.sum_nil]; exact Nat.le_of_ble_eq_true rfl)) dX11_mean_104 (kI (fun w27 M28 h30 => ?_))
      refine e_i2l C dX11_mean_107 ?_
      refine e_lmul C dX11_mean_108 ?_
      refine e_ladd C dX11_mean_109 ?_
      refine e_lstore (al' := [(4, .long (v4 + (w6 * ((w27).toInt64)))), (9, .long w6), (0, .ref a0), (1, .int x1), (2, .int x2), (3, va_rf v3), (6, .long v6), (8, .int v8)]) C dX11_mean_110 (by decide) (by generalize v3 = zz; cases zz <;> rfl) ?_
      refine e_pick [2, 3, 4, 5, 0, 6, 7] rfl ?_
      exact w_X11_mean_J112 C hr hlk hK44 h30
set_option maxHeartbeats 4000000 in
set_option maxRecDepth 100000 in
theorem w_X11_mean_L44 {p : Program} {l : Launch} {e : Env} {s : State} {m : MethodId} {args : Array Value} {below : List Frame} {meth : Method} {c : Code} {g : Geo} (C : Cx p s m args c cX11_mean RX11 11 g) (hr : meth.sig.returnType = (some .long)) (hlk : meth.locks = false) {a0 : Nat} {x1 : Int32} {x2 : Int32} {v3 : Option Nat} {v4 : Int64} {v6 : Int64} {v8 : Int32} {M : Mem} {Q : Int64 → Mem → Prop} (h : f_X11_mean_L44 a0 x1 x2 v3 v4 v6 v8 M Q) : E p l e (rmO 7 0 0) s m args below meth c g 11 (MQ below (QcM g (rJ Q)) args s 0 0 (gA g)) 0 0 44 [(0, .ref a0), (1, .int x1), (2, .int x2), (3, va_rf v3), (4, .long v4), (6, .long v6), (8, .int v8)] [] M := by
  unfold f_X11_mean_L44 at h
  refine loop_E (W := fun z : (Option Nat) × Int64 × Int64 × Int32 × Mem => E p l e (rmO 7 0 0) s m args below meth c g 11 (MQ below (QcM g (rJ Q)) args s 0 0 (gA g)) 0 0 44 [(0, .ref a0), (1, .int x1), (2, .int x2), (3, va_rf z.1), (4, .long z.2.1), (6, .long z.2.2.1), (8, .int z.2.2.2.1)] [] (z.2.2.2.2)) h (fun K z hK h => ?_)
  exact w_X11_mean_B44 C hr hlk hK h
set_option maxHeartbeats 4000000 in
set_option maxRecDepth 100000 in
theorem w_X11_mean {p : Program} {l : Launch} {e : Env} {s : State} {m : MethodId} {args : Array Value} {below : List Frame} {meth : Method} {c : Code} {g : Geo} (C : Cx p s m args c cX11_mean RX11 11 g) (hr : meth.sig.returnType = (some .long)) (hlk : meth.locks = false) {a0 : Nat} {x1 : Int32} {x2 : Int32} {M : Mem} {Q : Int64 → Mem → Prop} (h : f_X11_mean a0 x1 x2 M Q) : E p l e (rmO 7 0 0) s m args below meth c g 11 (MQ below (QcM g (rJ Q)) args s 0 0 (gA g)) 0 0 0 [(0, .ref a0), (1, .int x1), (2, .int x2)] [] M := by
  unfold f_X11_mean at h
  refine e_aload_n C 0 dX11_mean_0 rfl rfl ?_
  refine e_iload_n C 1 dX11_mean_1 rfl rfl ?_
  obtain ⟨o3, h⟩ := h
  refine e_callV (as := [.int x1]) C wb_X11_orderAt wv_X11_131 (ci := 11) rfl rfl (isO_1 o3) (m_X11_orderAt h) rfl ⟨Nat.le_of_ble_eq_true rfl, Nat.le_of_ble_eq_true rfl⟩ ⟨Nat.le_of_ble_eq_true rfl, Nat.le_of_ble_eq_true rfl⟩ (by first | exact Nat.le_of_ble_eq_true rfl | (simp only [List.map_cons, List.map_nil, va_cat, List.sum_cons, List.sum_nil]; exact Nat.le_of_ble_eq_true rfl)) dX11_mean_2 (kA (fun w1 M2 h15 => ?_))
  refine e_rstore_n (al' := [(3, va_rf w1), (0, .ref a0), (1, .int x1), (2, .int x2)]) C dX11_mean_5 rfl (by decide) rfl ?_
  refine e_rload_n C 0 dX11_mean_6 rfl rfl ?_
  refine e_ifnull (tgt := 31) C dX11_mean_7 (by decide) (fun q4 => ?_) (fun b5 q4 => ?_)
  · replace h15 := h15.1 q4
    subst q4
    refine e_ldc2 (v := -9223372036854775808) C wd_782 dX11_mean_31 ?_
    exact e_lret C hr hlk (Nat.le_refl _) (Nat.le_refl _) dX11_mean_34 ⟨_, rfl, h15⟩
  · replace h15 := h15.2 b5 q4
    subst q4
    refine e_iload_n C 3 dX11_mean_10 rfl rfl ?_
    refine e_iconst (v := 0) C dX11_mean_11 (by decide) ?_
    refine e_iconst (v := 1) C dX11_mean_12 (by decide) ?_
    refine e_callS (as := [.int x2, .int (0 : Int32), .int (1 : Int32)]) C wb_X11_outside wt_X11_77 (m_X11_outside h15) rfl ⟨Nat.le_of_ble_eq_true rfl, Nat.le_of_ble_eq_true rfl⟩ ⟨Nat.le_of_ble_eq_true rfl, Nat.le_of_ble_eq_true rfl⟩ (by first | exact Nat.le_of_ble_eq_true rfl | (simp only [List.map_cons, List.map_nil, va_cat, List.sum_cons, List.sum_nil]; exact Nat.le_of_ble_eq_true rfl)) dX11_mean_13 (kZ (fun w6 M7 h14 => ?_))
    refine e_if_ne (tgt := 31) C dX11_mean_16 (by decide) (fun q8 => ?_) (fun q8 => ?_)
    · replace h14 := ite_t h14 (bi_t q8)
      refine e_ldc2 (v := -9223372036854775808) C wd_782 dX11_mean_31 ?_
      exact e_lret C hr hlk (Nat.le_refl _) (Nat.le_refl _) dX11_mean_34 ⟨_, rfl, h14⟩
    · replace h14 := ite_f h14 (bi_ne q8)
      refine e_aload_n C 1 dX11_mean_19 rfl rfl ?_
      obtain ⟨o9, h14⟩ := h14
      refine e_getR C [11] 11 (fg_of fg_X11_47) o9 dX11_mean_20 ?_
      obtain ⟨b10, p11, h14⟩ := h14
      try rw [p11]
      obtain ⟨o12, h14⟩ := h14
      refine e_getI C [0] 4 (fg_of fg_X11_118) o12 dX11_mean_23 ?_
      refine e_bipush (v := 6) C dX11_mean_26 (by decide) ?_
      refine e_icmp_le (tgt := 35) C dX11_mean_28 (by decide) (fun q13 => ?_) (fun q13 => ?_)
      · replace h14 := ite_t h14 q13
        refine e_lconst (v := 0) C dX11_mean_35 (by decide) ?_
        refine e_lstore (al' := [(4, .long (0 : Int64)), (3, .ref b5), (0, .ref a0), (1, .int x1), (2, .int x2)]) C dX11_mean_36 (by decide) rfl ?_
        refine e_lconst (v := 1) C dX11_mean_38 (by decide) ?_
        refine e_lstore (al' := [(6, .long (1 : Int64)), (4, .long (0 : Int64)), (3, .ref b5), (0, .ref a0), (1, .int x1), (2, .int x2)]) C dX11_mean_39 (by decide) rfl ?_
        refine e_iconst (v := 0) C dX11_mean_41 (by decide) ?_
        refine e_istore (al' := [(8, .int (0 : Int32)), (6, .long (1 : Int64)), (4, .long (0 : Int64)), (3, .ref b5), (0, .ref a0), (1, .int x1), (2, .int x2)]) C dX11_mean_42 (by decide) rfl ?_
        refine e_pick [4, 5, 6, 3, 2, 1, 0] rfl ?_
        exact w_X11_mean_L44 C hr hlk h14
      · replace h14 := ite_f h14 q13
        refine e_ldc2 (v := -9223372036854775808) C wd_782 dX11_mean_31 ?_
        exact e_lret C hr hlk (Nat.le_refl _) (Nat.le_refl _) dX11_mean_34 ⟨_, rfl, h14⟩
theorem m_X11_mean  {a0 : Nat} {x1 : Int32} {x2 : Int32} {M : Mem} {Q : Int64 → Mem → Prop} (h : f_X11_mean a0 x1 x2 M Q) : Con yX11_mean cX11_mean 11 (some .long) 7 0 0 [.ref a0, .int x1, .int x2] M (rJ Q) :=
  con_of2 (al := [(0, .ref a0), (1, .int x1), (2, .int x2)]) (by decide) (by exact Nat.le_of_ble_eq_true rfl) (by rfl) (fun p l e s m args below meth c g C hr hlk _ => w_X11_mean C hr hlk h)
set_option maxHeartbeats 4000000 in
set_option maxRecDepth 100000 in
theorem w_X11_tapeAt_J10 {p : Program} {l : Launch} {e : Env} {s : State} {m : MethodId} {args : Array Value} {below : List Frame} {meth : Method} {c : Code} {g : Geo} (C : Cx p s m args c cX11_tapeAt RX11 2 g) (hr : meth.sig.returnType = (some (.object "PennyQueue$Tape"))) (hlk : meth.locks = false) {a0 : Nat} {x1 : Int32} {M : Mem} {Q : Option Nat → Mem → Prop} (h : f_X11_tapeAt_J10 a0 x1 M Q) : E p l e (rmO 1 0 0) s m args below meth c g 2 (MQ below (QcM g (rA Q)) args s 0 0 (gA g)) 0 0 10 [(0, .ref a0), (1, .int x1)] [] M := by
  unfold f_X11_tapeAt_J10 at h
  refine e_null C dX11_tapeAt_10 ?_
  refine e_goto (tgt := 20) C dX11_tapeAt_11 (by decide) ?_
  exact e_aret (x := none) C hr hlk (Nat.le_refl _) (Nat.le_refl _) dX11_tapeAt_20 ⟨_, rfl, h⟩
set_option maxHeartbeats 4000000 in
set_option maxRecDepth 100000 in
theorem w_X11_tapeAt {p : Program} {l : Launch} {e : Env} {s : State} {m : MethodId} {args : Array Value} {below : List Frame} {meth : Method} {c : Code} {g : Geo} (C : Cx p s m args c cX11_tapeAt RX11 2 g) (hr : meth.sig.returnType = (some (.object "PennyQueue$Tape"))) (hlk : meth.locks = false) {a0 : Nat} {x1 : Int32} {M : Mem} {Q : Option Nat → Mem → Prop} (h : f_X11_tapeAt a0 x1 M Q) : E p l e (rmO 1 0 0) s m args below meth c g 2 (MQ below (QcM g (rA Q)) args s 0 0 (gA g)) 0 0 0 [(0, .ref a0), (1, .int x1)] [] M := by
  unfold f_X11_tapeAt at h
  refine e_iload_n C 1 dX11_tapeAt_0 rfl rfl ?_
  refine e_if_lt (tgt := 10) C dX11_tapeAt_1 (by decide) (fun q1 => ?_) (fun q1 => ?_)
  · replace h := ite_t h q1
    exact w_X11_tapeAt_J10 C hr hlk h
  · replace h := ite_f h q1
    refine e_iload_n C 1 dX11_tapeAt_4 rfl rfl ?_
    refine e_bipush (v := 6) C dX11_tapeAt_5 (by decide) ?_
    refine e_icmp_lt (tgt := 14) C dX11_tapeAt_7 (by decide) (fun q2 => ?_) (fun q2 => ?_)
    · replace h := ite_t h q2
      refine e_aload_n C 0 dX11_tapeAt_14 rfl rfl ?_
      obtain ⟨o3, h⟩ := h
      refine e_getR C [11] 18 (fg_of fg_X11_72) o3 dX11_tapeAt_15 ?_
      refine e_iload_n C 1 dX11_tapeAt_18 rfl rfl ?_
      obtain ⟨b4, p5, h⟩ := h
      try rw [p5]
      obtain ⟨o6, h⟩ := h
      refine e_aald C 7 (by decide) o6 dX11_tapeAt_19 ?_
      exact e_aret (x := (mP M b4 (x1).toNatClampNeg)) C hr hlk (Nat.le_refl _) (Nat.le_refl _) dX11_tapeAt_20 ⟨_, rfl, h⟩
    · replace h := ite_f h q2
      exact w_X11_tapeAt_J10 C hr hlk h
theorem m_X11_tapeAt  {a0 : Nat} {x1 : Int32} {M : Mem} {Q : Option Nat → Mem → Prop} (h : f_X11_tapeAt a0 x1 M Q) : Con yX11_tapeAt cX11_tapeAt 2 (some (.object "PennyQueue$Tape")) 1 0 0 [.ref a0, .int x1] M (rA Q) :=
  con_of2 (al := [(0, .ref a0), (1, .int x1)]) (by decide) (by exact Nat.le_of_ble_eq_true rfl) (by rfl) (fun p l e s m args below meth c g C hr hlk _ => w_X11_tapeAt C hr hlk h)
set_option maxHeartbeats 4000000 in
set_option maxRecDepth 100000 in
theorem w_X11_judge_B60 {p : Program} {l : Launch} {e : Env} {s : State} {m : MethodId} {args : Array Value} {below : List Frame} {meth : Method} {c : Code} {g : Geo} (C : Cx p s m args c cX11_judge RX11 8 g) (hr : meth.sig.returnType = (some .int)) (hlk : meth.locks = false) {a0 : Nat} {x1 : Int32} {x2 : Int32} {x3 : Int32} {x4 : Int32} {v5 : Option Nat} {v7 : Int32} {M : Mem} {K60 : (Option Nat) × Int32 × Mem → Prop} {Q : Int32 → Mem → Prop} (hK60 : ∀ z : (Option Nat) × Int32 × Mem, K60 z → E p l e (rmO 8 0 0) s m args below meth c g 8 (MQ below (QcM g (rI Q)) args s 0 0 (gA g)) 0 0 60 [(0, .ref a0), (1, .int x1), (2, .int x2), (3, .int x3), (4, .int x4), (5, va_rf z.1), (7, .int z.2.1)] [] (z.2.2)) (h : f_X11_judge_B60 a0 x1 x2 x3 x4 v5 v7 M K60 Q) : E p l e (rmO 8 0 0) s m args below meth c g 8 (MQ below (QcM g (rI Q)) args s 0 0 (gA g)) 0 0 60 [(0, .ref a0), (1, .int x1), (2, .int x2), (3, .int x3), (4, .int x4), (5, va_rf v5), (7, .int v7)] [] M := by
  unfold f_X11_judge_B60 at h
  refine e_iload C 6 dX11_judge_60 rfl ?_
  refine e_iload_n C 3 dX11_judge_62 rfl rfl ?_
  refine e_icmp_ge (tgt := 140) C dX11_judge_63 (by decide) (fun q1 => ?_) (fun q1 => ?_)
  · replace h := ite_t h q1
    refine e_bipush (v := -5) C dX11_judge_140 (by decide) ?_
    exact e_iret C hr hlk (Nat.le_refl _) (Nat.le_refl _) dX11_judge_142 ⟨_, rfl, h⟩
  · replace h := ite_f h q1
    refine e_rload C 5 dX11_judge_66 rfl ?_
    refine e_iload_n C 2 dX11_judge_68 rfl rfl ?_
    refine e_i2l C dX11_judge_69 ?_
    refine e_iload C 6 dX11_judge_70 rfl ?_
    refine e_i2l C dX11_judge_72 ?_
    refine e_ladd C dX11_judge_73 ?_
    obtain ⟨b2, rfl, h⟩ := h
    obtain ⟨o6, h⟩ := h
    refine e_callV (as := [.long (((x2).toInt64) + ((v7).toInt64))]) C wb_X8_lacks wv_X11_236 (ci := 8) rfl rfl (isO_1 o6) (m_X8_lacks h) rfl ⟨Nat.le_of_ble_eq_true rfl, Nat.le_of_ble_eq_true rfl⟩ ⟨Nat.le_of_ble_eq_true rfl, Nat.le_of_ble_eq_true rfl⟩ (by first | exact Nat.le_of_ble_eq_true rfl | (simp only [List.map_cons, List.map_nil, va_cat, List.sum_cons, List.sum_nil]; exact Nat.le_of_ble_eq_true rfl)) dX11_judge_74 (kZ (fun w4 M5 h24 => ?_))
    refine e_if_eq (tgt := 86) C dX11_judge_77 (by decide) (fun q7 => ?_) (fun q7 => ?_)
    · replace h24 := ite_f h24 (bi_ne q7)
      refine e_iload C 6 dX11_judge_86 rfl ?_
      refine e_aload_n C 0 dX11_judge_88 rfl rfl ?_
      obtain ⟨o8, h24⟩ := h24
      refine e_getR C [11] 16 (fg_of fg_X11_62) o8 dX11_judge_89 ?_
      obtain ⟨b9, p10, h24⟩ := h24
      try rw [p10]
      obtain ⟨o11, h24⟩ := h24
      refine e_getI C [3] 7 (fg_of fg_X11_166) o11 dX11_judge_92 ?_
      refine e_icmp_ge (tgt := 131) C dX11_judge_95 (by decide) (fun q12 => ?_) (fun q12 => ?_)
      · replace h24 := ite_t h24 q12
        refine e_iload C 6 dX11_judge_131 rfl ?_
        exact e_iret C hr hlk (Nat.le_refl _) (Nat.le_refl _) dX11_judge_133 ⟨_, rfl, h24⟩
      · replace h24 := ite_f h24 q12
        refine e_aload C 5 dX11_judge_98 rfl ?_
        obtain ⟨o13, h24⟩ := h24
        refine e_getR C [8] 2 (fg_of fg_X11_240) o13 dX11_judge_100 ?_
        refine e_iload_n C 2 dX11_judge_103 rfl rfl ?_
        refine e_iload C 6 dX11_judge_104 rfl ?_
        refine e_iadd C dX11_judge_106 ?_
        obtain ⟨b14, p15, h24⟩ := h24
        try rw [p15]
        obtain ⟨o16, h24⟩ := h24
        refine e_lald C o16 dX11_judge_107 ?_
        refine e_aload_n C 0 dX11_judge_108 rfl rfl ?_
        refine e_getR C [11] 16 (fg_of fg_X11_62) o8 dX11_judge_109 ?_
        rw [p10]
        refine e_getR C [3] 0 (fg_of fg_X11_147) o11 dX11_judge_112 ?_
        refine e_aload_n C 0 dX11_judge_115 rfl rfl ?_
        refine e_getR C [11] 16 (fg_of fg_X11_62) o8 dX11_judge_116 ?_
        rw [p10]
        refine e_getR C [3] 5 (fg_of fg_X11_169) o11 dX11_judge_119 ?_
        refine e_iload C 6 dX11_judge_122 rfl ?_
        obtain ⟨b17, p18, h24⟩ := h24
        try rw [p18]
        obtain ⟨o19, h24⟩ := h24
        refine e_iald C o19 dX11_judge_124 ?_
        obtain ⟨b20, p21, h24⟩ := h24
        try rw [p21]
        obtain ⟨o22, h24⟩ := h24
        refine e_iald C o22 dX11_judge_125 ?_
        refine e_i2l C dX11_judge_126 ?_
        refine e_lcmp C dX11_judge_127 ?_
        refine e_if_eq (tgt := 134) C dX11_judge_128 (by decide) (fun q23 => ?_) (fun q23 => ?_)
        · replace h24 := ite_t h24 q23
          refine e_iinc (v := (v7 + 1)) (al' := [(7, .int (v7 + 1)), (0, .ref a0), (1, .int x1), (2, .int x2), (3, .int x3), (4, .int x4), (5, .ref b2)]) C 6 dX11_judge_134 rfl rfl (by decide) rfl ?_
          refine e_goto (tgt := 60) C dX11_judge_137 (by decide) ?_
          refine e_pick [1, 2, 3, 4, 5, 6, 0] rfl ?_
          exact hK60 ((some b2), (v7 + 1), M5) h24
        · replace h24 := ite_f h24 q23
          refine e_iload C 6 dX11_judge_131 rfl ?_
          exact e_iret C hr hlk (Nat.le_refl _) (Nat.le_refl _) dX11_judge_133 ⟨_, rfl, h24⟩
    · replace h24 := ite_t h24 (bi_t q7)
      refine e_bipush (v := 100) C dX11_judge_80 (by decide) ?_
      refine e_iload C 6 dX11_judge_82 rfl ?_
      refine e_iadd C dX11_judge_84 ?_
      exact e_iret C hr hlk (Nat.le_refl _) (Nat.le_refl _) dX11_judge_85 ⟨_, rfl, h24⟩
set_option maxHeartbeats 4000000 in
set_option maxRecDepth 100000 in
theorem w_X11_judge_L60 {p : Program} {l : Launch} {e : Env} {s : State} {m : MethodId} {args : Array Value} {below : List Frame} {meth : Method} {c : Code} {g : Geo} (C : Cx p s m args c cX11_judge RX11 8 g) (hr : meth.sig.returnType = (some .int)) (hlk : meth.locks = false) {a0 : Nat} {x1 : Int32} {x2 : Int32} {x3 : Int32} {x4 : Int32} {v5 : Option Nat} {v7 : Int32} {M : Mem} {Q : Int32 → Mem → Prop} (h : f_X11_judge_L60 a0 x1 x2 x3 x4 v5 v7 M Q) : E p l e (rmO 8 0 0) s m args below meth c g 8 (MQ below (QcM g (rI Q)) args s 0 0 (gA g)) 0 0 60 [(0, .ref a0), (1, .int x1), (2, .int x2), (3, .int x3), (4, .int x4), (5, va_rf v5), (7, .int v7)] [] M := by
  unfold f_X11_judge_L60 at h
  refine loop_E (W := fun z : (Option Nat) × Int32 × Mem => E p l e (rmO 8 0 0) s m args below meth c g 8 (MQ below (QcM g (rI Q)) args s 0 0 (gA g)) 0 0 60 [(0, .ref a0), (1, .int x1), (2, .int x2), (3, .int x3), (4, .int x4), (5, va_rf z.1), (7, .int z.2.1)] [] (z.2.2)) h (fun K z hK h => ?_)
  exact w_X11_judge_B60 C hr hlk hK h
set_option maxHeartbeats 4000000 in
set_option maxRecDepth 100000 in
theorem w_X11_judge {p : Program} {l : Launch} {e : Env} {s : State} {m : MethodId} {args : Array Value} {below : List Frame} {meth : Method} {c : Code} {g : Geo} (C : Cx p s m args c cX11_judge RX11 8 g) (hr : meth.sig.returnType = (some .int)) (hlk : meth.locks = false) {a0 : Nat} {x1 : Int32} {x2 : Int32} {x3 : Int32} {x4 : Int32} {M : Mem} {Q : Int32 → Mem → Prop} (h : f_X11_judge a0 x1 x2 x3 x4 M Q) : E p l e (rmO 8 0 0) s m args below meth c g 8 (MQ below (QcM g (rI Q)) args s 0 0 (gA g)) 0 0 0 [(0, .ref a0), (1, .int x1), (2, .int x2), (3, .int x3), (4, .int x4)] [] M := by
  unfold f_X11_judge at h
  refine e_aload_n C 0 dX11_judge_0 rfl rfl ?_
  refine e_iload_n C 1 dX11_judge_1 rfl rfl ?_
  obtain ⟨o3, h⟩ := h
  refine e_callV (as := [.int x1]) C wb_X11_tapeAt wv_X11_229 (ci := 11) rfl rfl (isO_1 o3) (m_X11_tapeAt h) rfl ⟨Nat.le_of_ble_eq_true rfl, Nat.le_of_ble_eq_true rfl⟩ ⟨Nat.le_of_ble_eq_true rfl, Nat.le_of_ble_eq_true rfl⟩ (by first | exact Nat.le_of_ble_eq_true rfl | (simp only [List.map_cons, List.map_nil, va_cat, List.sum_cons, List.sum_nil]; exact Nat.le_of_ble_eq_true rfl)) dX11_judge_2 (kA (fun w1 M2 h22 => ?_))
  refine e_rstore (al' := [(5, va_rf w1), (0, .ref a0), (1, .int x1), (2, .int x2), (3, .int x3), (4, .int x4)]) C dX11_judge_5 (by decide) rfl ?_
  refine e_aload_n C 1 dX11_judge_7 rfl rfl ?_
  refine e_iload C 5 dX11_judge_8 rfl ?_
  obtain ⟨o6, h22⟩ := h22
  refine e_callV (as := [.int x4]) C wb_X11_orderAt wv_X11_131 (ci := 11) rfl rfl (isO_1 o6) (m_X11_orderAt h22) rfl ⟨Nat.le_of_ble_eq_true rfl, Nat.le_of_ble_eq_true rfl⟩ ⟨Nat.le_of_ble_eq_true rfl, Nat.le_of_ble_eq_true rfl⟩ (by first | exact Nat.le_of_ble_eq_true rfl | (simp only [List.map_cons, List.map_nil, va_cat, List.sum_cons, List.sum_nil]; exact Nat.le_of_ble_eq_true rfl)) dX11_judge_10 (kA (fun w4 M5 h21 => ?_))
  refine e_rstore (al' := [(6, va_rf w4), (5, va_rf w1), (0, .ref a0), (1, .int x1), (2, .int x2), (3, .int x3), (4, .int x4)]) C dX11_judge_13 (by decide) (by generalize w1 = zz; cases zz <;> rfl) ?_
  refine e_rload C 1 dX11_judge_15 rfl ?_
  refine e_ifnull (tgt := 25) C dX11_judge_17 (by decide) (fun q7 => ?_) (fun b8 q7 => ?_)
  · replace h21 := h21.1 q7
    subst q7
    refine e_iconst (v := -1) C dX11_judge_25 (by decide) ?_
    exact e_iret C hr hlk (Nat.le_refl _) (Nat.le_refl _) dX11_judge_26 ⟨_, rfl, h21⟩
  · replace h21 := h21.2 b8 q7
    subst q7
    refine e_rload C 0 dX11_judge_20 rfl ?_
    refine e_ifnonnull (tgt := 27) C dX11_judge_22 (by decide) (fun b10 q9 => ?_) (fun q9 => ?_)
    · replace h21 := h21.2 b10 q9
      subst q9
      refine e_iload_n C 5 dX11_judge_27 rfl rfl ?_
      refine e_iconst (v := 0) C dX11_judge_28 (by decide) ?_
      refine e_bipush (v := 40) C dX11_judge_29 (by decide) ?_
      refine e_callS (as := [.int x3, .int (0 : Int32), .int (40 : Int32)]) C wb_X11_outside wt_X11_77 (m_X11_outside h21) rfl ⟨Nat.le_of_ble_eq_true rfl, Nat.le_of_ble_eq_true rfl⟩ ⟨Nat.le_of_ble_eq_true rfl, Nat.le_of_ble_eq_true rfl⟩ (by first | exact Nat.le_of_ble_eq_true rfl | (simp only [List.map_cons, List.map_nil, va_cat, List.sum_cons, List.sum_nil]; exact Nat.le_of_ble_eq_true rfl)) dX11_judge_31 (kZ (fun w11 M12 h20 => ?_))
      refine e_if_eq (tgt := 40) C dX11_judge_34 (by decide) (fun q13 => ?_) (fun q13 => ?_)
      · replace h20 := ite_f h20 (bi_ne q13)
        refine e_aload C 1 dX11_judge_40 rfl ?_
        obtain ⟨o14, h20⟩ := h20
        refine e_getI C [8] 0 (fg_of fg_X11_233) o14 dX11_judge_42 ?_
        refine e_if_le (tgt := 51) C dX11_judge_45 (by decide) (fun q15 => ?_) (fun q15 => ?_)
        · replace h20 := ite_t h20 q15
          refine e_aload_n C 2 dX11_judge_51 rfl rfl ?_
          refine e_aload C 0 dX11_judge_52 rfl ?_
          obtain ⟨o18, h20⟩ := h20
          refine e_callV (as := [.ref b10]) C wb_X11_goThrough wv_X11_140 (ci := 11) rfl rfl (isO_1 o18) (m_X11_goThrough h20) rfl ⟨Nat.le_of_ble_eq_true rfl, Nat.le_of_ble_eq_true rfl⟩ ⟨Nat.le_of_ble_eq_true rfl, Nat.le_of_ble_eq_true rfl⟩ (by first | exact Nat.le_of_ble_eq_true rfl | (simp only [List.map_cons, List.map_nil, va_cat, List.sum_cons, List.sum_nil]; exact Nat.le_of_ble_eq_true rfl)) dX11_judge_54 (kV (fun M17 h19 => ?_))
          refine e_iconst (v := 0) C dX11_judge_57 (by decide) ?_
          refine e_istore (al' := [(7, .int (0 : Int32)), (6, .ref b10), (5, .ref b8), (0, .ref a0), (1, .int x1), (2, .int x2), (3, .int x3), (4, .int x4)]) C dX11_judge_58 (by decide) rfl ?_
          refine e_pick [3, 4, 5, 6, 7, 2, 0] rfl ?_
          exact w_X11_judge_L60 C hr hlk h19
        · replace h20 := ite_f h20 q15
          refine e_bipush (v := -12) C dX11_judge_48 (by decide) ?_
          exact e_iret C hr hlk (Nat.le_refl _) (Nat.le_refl _) dX11_judge_50 ⟨_, rfl, h20⟩
      · replace h20 := ite_t h20 (bi_t q13)
        refine e_bipush (v := -2) C dX11_judge_37 (by decide) ?_
        exact e_iret C hr hlk (Nat.le_refl _) (Nat.le_refl _) dX11_judge_39 ⟨_, rfl, h20⟩
    · replace h21 := h21.1 q9
      subst q9
      refine e_iconst (v := -1) C dX11_judge_25 (by decide) ?_
      exact e_iret C hr hlk (Nat.le_refl _) (Nat.le_refl _) dX11_judge_26 ⟨_, rfl, h21⟩
theorem m_X11_judge  {a0 : Nat} {x1 : Int32} {x2 : Int32} {x3 : Int32} {x4 : Int32} {M : Mem} {Q : Int32 → Mem → Prop} (h : f_X11_judge a0 x1 x2 x3 x4 M Q) : Con yX11_judge cX11_judge 8 (some .int) 8 0 0 [.ref a0, .int x1, .int x2, .int x3, .int x4] M (rI Q) :=
  con_of2 (al := [(0, .ref a0), (1, .int x1), (2, .int x2), (3, .int x3), (4, .int x4)]) (by decide) (by exact Nat.le_of_ble_eq_true rfl) (by rfl) (fun p l e s m args below meth c g C hr hlk _ => w_X11_judge C hr hlk h)
set_option maxHeartbeats 4000000 in
set_option maxRecDepth 100000 in
theorem w_X11_image {p : Program} {l : Launch} {e : Env} {s : State} {m : MethodId} {args : Array Value} {below : List Frame} {meth : Method} {c : Code} {g : Geo} (C : Cx p s m args c cX11_image RX11 1 g) (hr : meth.sig.returnType = (some .int)) (hlk : meth.locks = false) {a0 : Nat} {M : Mem} {Q : Int32 → Mem → Prop} (h : f_X11_image a0 M Q) : E p l e (rmO 3 0 0) s m args below meth c g 1 (MQ below (QcM g (rI Q)) args s 0 0 (gA g)) 0 0 0 [(0, .ref a0)] [] M := by
  unfold f_X11_image at h
  refine e_aload_n C 0 dX11_image_0 rfl rfl ?_
  obtain ⟨o1, h⟩ := h
  refine e_getR C [11] 12 (fg_of fg_X11_51) o1 dX11_image_1 ?_
  refine e_aload_n C 0 dX11_image_4 rfl rfl ?_
  refine e_getR C [11] 11 (fg_of fg_X11_47) o1 dX11_image_5 ?_
  refine e_aload_n C 0 dX11_image_8 rfl rfl ?_
  refine e_getI C [11] 1 (fg_of fg_X11_81) o1 dX11_image_9 ?_
  obtain ⟨b2, p3, h⟩ := h
  try rw [p3]
  obtain ⟨o6, h⟩ := h
  refine e_callV (as := [va_rf (mP M a0 11), .int (mI M a0 1)]) C wb_X0_become wv_X11_207 (ci := 0) rfl rfl (isO_1 o6) (m_X0_become h) rfl ⟨Nat.le_of_ble_eq_true rfl, Nat.le_of_ble_eq_true rfl⟩ ⟨Nat.le_of_ble_eq_true rfl, Nat.le_of_ble_eq_true rfl⟩ (by first | exact Nat.le_of_ble_eq_true rfl | (simp only [List.map_cons, List.map_nil, va_cat, List.sum_cons, List.sum_nil]; exact Nat.le_of_ble_eq_true rfl)) dX11_image_12 (kV (fun M5 h17 => ?_))
  refine e_aload_n C 0 dX11_image_15 rfl rfl ?_
  refine e_aload_n C 0 dX11_image_16 rfl rfl ?_
  obtain ⟨o7, h17⟩ := h17
  refine e_getI C [11] 1 (fg_of fg_X11_81) o7 dX11_image_17 ?_
  refine e_putI C [11] 15 false (fun z => by cases z) fp_X11_244 o7 dX11_image_20 ?_
  refine nmE (fun M8 e9 => ?_)
  replace h17 := h17 M8 e9
  have o10 : isO M8 a0 [11] := by rw [e9]; exact o7
  refine e_aload_n C 0 dX11_image_23 rfl rfl ?_
  refine e_iconst (v := 1) C dX11_image_24 (by decide) ?_
  refine e_putZ C [11] 14 false (fun z => by cases z) (fp_z fp_X11_247 rfl rfl) o10 dX11_image_25 ?_
  refine nmE (fun M11 e12 => ?_)
  replace h17 := h17 M11 e12
  have o13 : isO M11 a0 [11] := by rw [e12]; exact o10
  refine e_aload_n C 0 dX11_image_28 rfl rfl ?_
  refine e_getR C [11] 11 (fg_of fg_X11_47) o13 dX11_image_29 ?_
  obtain ⟨b14, p15, h17⟩ := h17
  try rw [p15]
  obtain ⟨o16, h17⟩ := h17
  refine e_getI C [0] 4 (fg_of fg_X11_118) o16 dX11_image_32 ?_
  exact e_iret C hr hlk (Nat.le_refl _) (Nat.le_refl _) dX11_image_35 ⟨_, rfl, h17⟩
theorem m_X11_image  {a0 : Nat} {M : Mem} {Q : Int32 → Mem → Prop} (h : f_X11_image a0 M Q) : Con yX11_image cX11_image 1 (some .int) 3 0 0 [.ref a0] M (rI Q) :=
  con_of2 (al := [(0, .ref a0)]) (by decide) (by exact Nat.le_of_ble_eq_true rfl) (by rfl) (fun p l e s m args below meth c g C hr hlk _ => w_X11_image C hr hlk h)
set_option maxHeartbeats 4000000 in
set_option maxRecDepth 100000 in
theorem w_X11_undo {p : Program} {l : Launch} {e : Env} {s : State} {m : MethodId} {args : Array Value} {below : List Frame} {meth : Method} {c : Code} {g : Geo} (C : Cx p s m args c cX11_undo RX11 1 g) (hr : meth.sig.returnType = (some .int)) (hlk : meth.locks = false) {a0 : Nat} {M : Mem} {Q : Int32 → Mem → Prop} (h : f_X11_undo a0 M Q) : E p l e (rmO 3 0 0) s m args below meth c g 1 (MQ below (QcM g (rI Q)) args s 0 0 (gA g)) 0 0 0 [(0, .ref a0)] [] M := by
  unfold f_X11_undo at h
  refine e_aload_n C 0 dX11_undo_0 rfl rfl ?_
  obtain ⟨o1, h⟩ := h
  refine e_getI C [11] 14 (fg_of fg_X11_247) o1 dX11_undo_1 ?_
  refine e_if_ne (tgt := 10) C dX11_undo_4 (by decide) (fun q2 => ?_) (fun q2 => ?_)
  · replace h := ite_f h q2
    refine e_aload_n C 0 dX11_undo_10 rfl rfl ?_
    refine e_getR C [11] 11 (fg_of fg_X11_47) o1 dX11_undo_11 ?_
    refine e_aload_n C 0 dX11_undo_14 rfl rfl ?_
    refine e_getR C [11] 12 (fg_of fg_X11_51) o1 dX11_undo_15 ?_
    refine e_aload_n C 0 dX11_undo_18 rfl rfl ?_
    refine e_getI C [11] 15 (fg_of fg_X11_244) o1 dX11_undo_19 ?_
    obtain ⟨b3, p4, h⟩ := h
    try rw [p4]
    obtain ⟨o7, h⟩ := h
    refine e_callV (as := [va_rf (mP M a0 12), .int (mI M a0 15)]) C wb_X0_become wv_X11_207 (ci := 0) rfl rfl (isO_1 o7) (m_X0_become h) rfl ⟨Nat.le_of_ble_eq_true rfl, Nat.le_of_ble_eq_true rfl⟩ ⟨Nat.le_of_ble_eq_true rfl, Nat.le_of_ble_eq_true rfl⟩ (by first | exact Nat.le_of_ble_eq_true rfl | (simp only [List.map_cons, List.map_nil, va_cat, List.sum_cons, List.sum_nil]; exact Nat.le_of_ble_eq_true rfl)) dX11_undo_22 (kV (fun M6 h12 => ?_))
    refine e_aload_n C 0 dX11_undo_25 rfl rfl ?_
    obtain ⟨o8, h12⟩ := h12
    refine e_getR C [11] 11 (fg_of fg_X11_47) o8 dX11_undo_26 ?_
    obtain ⟨b9, p10, h12⟩ := h12
    try rw [p10]
    obtain ⟨o11, h12⟩ := h12
    refine e_getI C [0] 4 (fg_of fg_X11_118) o11 dX11_undo_29 ?_
    exact e_iret C hr hlk (Nat.le_refl _) (Nat.le_refl _) dX11_undo_32 ⟨_, rfl, h12⟩
  · replace h := ite_t h q2
    refine e_bipush (v := -3) C dX11_undo_7 (by decide) ?_
    exact e_iret C hr hlk (Nat.le_refl _) (Nat.le_refl _) dX11_undo_9 ⟨_, rfl, h⟩
theorem m_X11_undo  {a0 : Nat} {M : Mem} {Q : Int32 → Mem → Prop} (h : f_X11_undo a0 M Q) : Con yX11_undo cX11_undo 1 (some .int) 3 0 0 [.ref a0] M (rI Q) :=
  con_of2 (al := [(0, .ref a0)]) (by decide) (by exact Nat.le_of_ble_eq_true rfl) (by rfl) (fun p l e s m args below meth c g C hr hlk _ => w_X11_undo C hr hlk h)
set_option maxHeartbeats 4000000 in
set_option maxRecDepth 100000 in
theorem w_X11_act {p : Program} {l : Launch} {e : Env} {s : State} {m : MethodId} {args : Array Value} {below : List Frame} {meth : Method} {c : Code} {g : Geo} (C : Cx p s m args c cX11_act RX11 5 g) (hr : meth.sig.returnType = (some .int)) (hlk : meth.locks = false) {a0 : Nat} {x1 : Int32} {x2 : Int32} {x3 : Int32} {M : Mem} {Q : Int32 → Mem → Prop} (h : f_X11_act a0 x1 x2 x3 M Q) : E p l e (rmO 9 0 0) s m args below meth c g 5 (MQ below (QcM g (rI Q)) args s 0 0 (gA g)) 0 0 0 [(0, .ref a0), (1, .int x1), (2, .int x2), (3, .int x3)] [] M := by
  unfold f_X11_act at h
  refine e_aload_n C 0 dX11_act_0 rfl rfl ?_
  refine e_null C dX11_act_1 ?_
  obtain ⟨o1, h⟩ := h
  refine e_putR (x := none) C [11] 10 false (fun z => by cases z) fp_X11_251 o1 dX11_act_2 ?_
  refine nmE (fun M2 e3 => ?_)
  replace h := h M2 e3
  have o4 : isO M2 a0 [11] := by rw [e3]; exact o1
  refine e_aload_n C 0 dX11_act_5 rfl rfl ?_
  refine e_iload_n C 1 dX11_act_6 rfl rfl ?_
  refine e_callV (as := [.int x1]) C wb_X11_orderAt wv_X11_131 (ci := 11) rfl rfl (isO_1 o4) (m_X11_orderAt h) rfl ⟨Nat.le_of_ble_eq_true rfl, Nat.le_of_ble_eq_true rfl⟩ ⟨Nat.le_of_ble_eq_true rfl, Nat.le_of_ble_eq_true rfl⟩ (by first | exact Nat.le_of_ble_eq_true rfl | (simp only [List.map_cons, List.map_nil, va_cat, List.sum_cons, List.sum_nil]; exact Nat.le_of_ble_eq_true rfl)) dX11_act_7 (kA (fun w5 M6 h33 => ?_))
  refine e_rstore (al' := [(4, va_rf w5), (0, .ref a0), (1, .int x1), (2, .int x2), (3, .int x3)]) C dX11_act_10 (by decide) rfl ?_
  refine e_rload C 0 dX11_act_12 rfl ?_
  refine e_ifnull (tgt := 26) C dX11_act_14 (by decide) (fun q7 => ?_) (fun b8 q7 => ?_)
  · replace h33 := h33.1 q7
    subst q7
    refine e_iconst (v := 0) C dX11_act_26 (by decide) ?_
    exact e_iret C hr hlk (Nat.le_refl _) (Nat.le_refl _) dX11_act_27 ⟨_, rfl, h33⟩
  · replace h33 := h33.2 b8 q7
    subst q7
    refine e_iload_n C 3 dX11_act_17 rfl rfl ?_
    refine e_iconst (v := 0) C dX11_act_18 (by decide) ?_
    refine e_iconst (v := 2) C dX11_act_19 (by decide) ?_
    refine e_callS (as := [.int x2, .int (0 : Int32), .int (2 : Int32)]) C wb_X11_outside wt_X11_77 (m_X11_outside h33) rfl ⟨Nat.le_of_ble_eq_true rfl, Nat.le_of_ble_eq_true rfl⟩ ⟨Nat.le_of_ble_eq_true rfl, Nat.le_of_ble_eq_true rfl⟩ (by first | exact Nat.le_of_ble_eq_true rfl | (simp only [List.map_cons, List.map_nil, va_cat, List.sum_cons, List.sum_nil]; exact Nat.le_of_ble_eq_true rfl)) dX11_act_20 (kZ (fun w9 M10 h32 => ?_))
    refine e_if_eq (tgt := 28) C dX11_act_23 (by decide) (fun q11 => ?_) (fun q11 => ?_)
    · replace h32 := ite_f h32 (bi_ne q11)
      refine e_aload_n C 1 dX11_act_28 rfl rfl ?_
      refine e_aload C 0 dX11_act_29 rfl ?_
      obtain ⟨o12, h32⟩ := h32
      refine e_putR (x := (some b8)) C [11] 10 false (fun z => by cases z) fp_X11_251 o12 dX11_act_31 ?_
      refine nmE (fun M13 e14 => ?_)
      replace h32 := h32 M13 e14
      have o15 : isO M13 a0 [11] := by rw [e14]; exact o12
      refine e_aload C 0 dX11_act_34 rfl ?_
      refine e_iconst (v := 0) C dX11_act_36 (by decide) ?_
      obtain ⟨o16, h32⟩ := h32
      refine e_putI C [5, 1, 2, 4, 6, 7, 9] 2 false (fun z => by cases z) fp_X11_254 o16 dX11_act_37 ?_
      refine nmE (fun M17 e18 => ?_)
      replace h32 := h32 M17 e18
      have o19 : isO M17 a0 [11] := by rw [e18]; exact o15
      have o20 : isO M17 b8 [5, 1, 2, 4, 6, 7, 9] := by rw [e18]; exact o16
      refine e_iload_n C 3 dX11_act_40 rfl rfl ?_
      by_cases q21 : x2 = 0
      · replace h32 := ite_t h32 q21
        refine e_look (tgt := 68) C dX11_act_41 (by decide) (by rw [q21] <;> rfl) (by decide) ?_
        refine e_aload C 0 dX11_act_68 rfl ?_
        refine e_iload_n C 4 dX11_act_70 rfl rfl ?_
        have kk : ∀ (w22 : Int32) (M23 : Mem), Q w22 M23 → E p l e (rmO 9 0 0) s m args below meth c g 5 (MQ below (QcM g (rI Q)) args s 0 0 (gA g)) 0 0 74 [(4, .ref b8), (0, .ref a0), (1, .int x1), (2, .int x2), (3, .int x3)] [.int w22] M23 := by
          intro w22 M23 h24
          exact e_iret C hr hlk (Nat.le_refl _) (Nat.le_refl _) dX11_act_74 ⟨_, rfl, h24⟩
        rcases h32 with ⟨h0, h32⟩ | ⟨h0, h32⟩ | ⟨h0, h32⟩ | ⟨h0, h32⟩ | ⟨h0, h32⟩ | ⟨h0, h32⟩ | ⟨h0, h32⟩
        · exact e_callV (as := [.int x3]) C wb_X5_joins wv_X11_257 (ci := 5) rfl rfl h0 (m_X5_joins h32) rfl ⟨Nat.le_of_ble_eq_true rfl, Nat.le_of_ble_eq_true rfl⟩ ⟨Nat.le_of_ble_eq_true rfl, Nat.le_of_ble_eq_true rfl⟩ (by first | exact Nat.le_of_ble_eq_true rfl | (simp only [List.map_cons, List.map_nil, va_cat, List.sum_cons, List.sum_nil]; exact Nat.le_of_ble_eq_true rfl)) dX11_act_71 (kI kk)
        · exact e_callU (as := [.int x3]) C wb_X5_joins wu_X11_257_1 (ci := 1) rfl h0 (m_X5_joins h32) rfl ⟨Nat.le_of_ble_eq_true rfl, Nat.le_of_ble_eq_true rfl⟩ ⟨Nat.le_of_ble_eq_true rfl, Nat.le_of_ble_eq_true rfl⟩ (by first | exact Nat.le_of_ble_eq_true rfl | (simp only [List.map_cons, List.map_nil, va_cat, List.sum_cons, List.sum_nil]; exact Nat.le_of_ble_eq_true rfl)) dX11_act_71 (kI kk)
        · exact e_callU (as := [.int x3]) C wb_X5_joins wu_X11_257_2 (ci := 2) rfl h0 (m_X5_joins h32) rfl ⟨Nat.le_of_ble_eq_true rfl, Nat.le_of_ble_eq_true rfl⟩ ⟨Nat.le_of_ble_eq_true rfl, Nat.le_of_ble_eq_true rfl⟩ (by first | exact Nat.le_of_ble_eq_true rfl | (simp only [List.map_cons, List.map_nil, va_cat, List.sum_cons, List.sum_nil]; exact Nat.le_of_ble_eq_true rfl)) dX11_act_71 (kI kk)
        · exact e_callU (as := [.int x3]) C wb_X4_joins wu_X11_257_4 (ci := 4) rfl h0 (m_X4_joins h32) rfl ⟨Nat.le_of_ble_eq_true rfl, Nat.le_of_ble_eq_true rfl⟩ ⟨Nat.le_of_ble_eq_true rfl, Nat.le_of_ble_eq_true rfl⟩ (by first | exact Nat.le_of_ble_eq_true rfl | (simp only [List.map_cons, List.map_nil, va_cat, List.sum_cons, List.sum_nil]; exact Nat.le_of_ble_eq_true rfl)) dX11_act_71 (kI kk)
        · exact e_callU (as := [.int x3]) C wb_X7_joins wu_X11_257_6 (ci := 6) rfl h0 (m_X7_joins h32) rfl ⟨Nat.le_of_ble_eq_true rfl, Nat.le_of_ble_eq_true rfl⟩ ⟨Nat.le_of_ble_eq_true rfl, Nat.le_of_ble_eq_true rfl⟩ (by first | exact Nat.le_of_ble_eq_true rfl | (simp only [List.map_cons, List.map_nil, va_cat, List.sum_cons, List.sum_nil]; exact Nat.le_of_ble_eq_true rfl)) dX11_act_71 (kI kk)
        · exact e_callU (as := [.int x3]) C wb_X7_joins wu_X11_257_7 (ci := 7) rfl h0 (m_X7_joins h32) rfl ⟨Nat.le_of_ble_eq_true rfl, Nat.le_of_ble_eq_true rfl⟩ ⟨Nat.le_of_ble_eq_true rfl, Nat.le_of_ble_eq_true rfl⟩ (by first | exact Nat.le_of_ble_eq_true rfl | (simp only [List.map_cons, List.map_nil, va_cat, List.sum_cons, List.sum_nil]; exact Nat.le_of_ble_eq_true rfl)) dX11_act_71 (kI kk)
        · exact e_callU (as := [.int x3]) C wb_X9_joins wu_X11_257_9 (ci := 9) rfl h0 (m_X9_joins h32) rfl ⟨Nat.le_of_ble_eq_true rfl, Nat.le_of_ble_eq_true rfl⟩ ⟨Nat.le_of_ble_eq_true rfl, Nat.le_of_ble_eq_true rfl⟩ (by first | exact Nat.le_of_ble_eq_true rfl | (simp only [List.map_cons, List.map_nil, va_cat, List.sum_cons, List.sum_nil]; exact Nat.le_of_ble_eq_true rfl)) dX11_act_71 (kI kk)
      · replace h32 := ite_f h32 q21
        by_cases q25 : x2 = 1
        · replace h32 := ite_t h32 q25
          refine e_look (tgt := 75) C dX11_act_41 (by decide) (by rw [q25] <;> rfl) (by decide) ?_
          refine e_aload C 0 dX11_act_75 rfl ?_
          refine e_iload_n C 4 dX11_act_77 rfl rfl ?_
          have kk : ∀ (w26 : Int32) (M27 : Mem), Q w26 M27 → E p l e (rmO 9 0 0) s m args below meth c g 5 (MQ below (QcM g (rI Q)) args s 0 0 (gA g)) 0 0 81 [(4, .ref b8), (0, .ref a0), (1, .int x1), (2, .int x2), (3, .int x3)] [.int w26] M27 := by
            intro w26 M27 h28
            exact e_iret C hr hlk (Nat.le_refl _) (Nat.le_refl _) dX11_act_81 ⟨_, rfl, h28⟩
          rcases h32 with ⟨h0, h32⟩ | ⟨h0, h32⟩ | ⟨h0, h32⟩ | ⟨h0, h32⟩ | ⟨h0, h32⟩ | ⟨h0, h32⟩ | ⟨h0, h32⟩
          · exact e_callV (as := [.int x3]) C wb_X5_takes wv_X11_260 (ci := 5) rfl rfl h0 (m_X5_takes h32) rfl ⟨Nat.le_of_ble_eq_true rfl, Nat.le_of_ble_eq_true rfl⟩ ⟨Nat.le_of_ble_eq_true rfl, Nat.le_of_ble_eq_true rfl⟩ (by first | exact Nat.le_of_ble_eq_true rfl | (simp only [List.map_cons, List.map_nil, va_cat, List.sum_cons, List.sum_nil]; exact Nat.le_of_ble_eq_true rfl)) dX11_act_78 (kI kk)
          · exact e_callU (as := [.int x3]) C wb_X1_takes wu_X11_260_1 (ci := 1) rfl h0 (m_X1_takes h32) rfl ⟨Nat.le_of_ble_eq_true rfl, Nat.le_of_ble_eq_true rfl⟩ ⟨Nat.le_of_ble_eq_true rfl, Nat.le_of_ble_eq_true rfl⟩ (by first | exact Nat.le_of_ble_eq_true rfl | (simp only [List.map_cons, List.map_nil, va_cat, List.sum_cons, List.sum_nil]; exact Nat.le_of_ble_eq_true rfl)) dX11_act_78 (kI kk)
          · exact e_callU (as := [.int x3]) C wb_X5_takes wu_X11_260_2 (ci := 2) rfl h0 (m_X5_takes h32) rfl ⟨Nat.le_of_ble_eq_true rfl, Nat.le_of_ble_eq_true rfl⟩ ⟨Nat.le_of_ble_eq_true rfl, Nat.le_of_ble_eq_true rfl⟩ (by first | exact Nat.le_of_ble_eq_true rfl | (simp only [List.map_cons, List.map_nil, va_cat, List.sum_cons, List.sum_nil]; exact Nat.le_of_ble_eq_true rfl)) dX11_act_78 (kI kk)
          · exact e_callU (as := [.int x3]) C wb_X4_takes wu_X11_260_4 (ci := 4) rfl h0 (m_X4_takes h32) rfl ⟨Nat.le_of_ble_eq_true rfl, Nat.le_of_ble_eq_true rfl⟩ ⟨Nat.le_of_ble_eq_true rfl, Nat.le_of_ble_eq_true rfl⟩ (by first | exact Nat.le_of_ble_eq_true rfl | (simp only [List.map_cons, List.map_nil, va_cat, List.sum_cons, List.sum_nil]; exact Nat.le_of_ble_eq_true rfl)) dX11_act_78 (kI kk)
          · exact e_callU (as := [.int x3]) C wb_X5_takes wu_X11_260_6 (ci := 6) rfl h0 (m_X5_takes h32) rfl ⟨Nat.le_of_ble_eq_true rfl, Nat.le_of_ble_eq_true rfl⟩ ⟨Nat.le_of_ble_eq_true rfl, Nat.le_of_ble_eq_true rfl⟩ (by first | exact Nat.le_of_ble_eq_true rfl | (simp only [List.map_cons, List.map_nil, va_cat, List.sum_cons, List.sum_nil]; exact Nat.le_of_ble_eq_true rfl)) dX11_act_78 (kI kk)
          · exact e_callU (as := [.int x3]) C wb_X5_takes wu_X11_260_7 (ci := 7) rfl h0 (m_X5_takes h32) rfl ⟨Nat.le_of_ble_eq_true rfl, Nat.le_of_ble_eq_true rfl⟩ ⟨Nat.le_of_ble_eq_true rfl, Nat.le_of_ble_eq_true rfl⟩ (by first | exact Nat.le_of_ble_eq_true rfl | (simp only [List.map_cons, List.map_nil, va_cat, List.sum_cons, List.sum_nil]; exact Nat.le_of_ble_eq_true rfl)) dX11_act_78 (kI kk)
          · exact e_callU (as := [.int x3]) C wb_X9_takes wu_X11_260_9 (ci := 9) rfl h0 (m_X9_takes h32) rfl ⟨Nat.le_of_ble_eq_true rfl, Nat.le_of_ble_eq_true rfl⟩ ⟨Nat.le_of_ble_eq_true rfl, Nat.le_of_ble_eq_true rfl⟩ (by first | exact Nat.le_of_ble_eq_true rfl | (simp only [List.map_cons, List.map_nil, va_cat, List.sum_cons, List.sum_nil]; exact Nat.le_of_ble_eq_true rfl)) dX11_act_78 (kI kk)
        · replace h32 := ite_f h32 q25
          refine e_look (tgt := 82) (off := 41) C dX11_act_41 (by decide) (show Op.lookupswitch.offset [(0, 27), (1, 34)] 41 _ = _ by rw [lv_osw q21 (by decide), lv_osw q25 (by decide)] <;> rfl) (by decide) ?_
          refine e_aload C 0 dX11_act_82 rfl ?_
          refine e_iload_n C 4 dX11_act_84 rfl rfl ?_
          have kk : ∀ (w29 : Int32) (M30 : Mem), Q w29 M30 → E p l e (rmO 9 0 0) s m args below meth c g 5 (MQ below (QcM g (rI Q)) args s 0 0 (gA g)) 0 0 88 [(4, .ref b8), (0, .ref a0), (1, .int x1), (2, .int x2), (3, .int x3)] [.int w29] M30 := by
            intro w29 M30 h31
            exact e_iret C hr hlk (Nat.le_refl _) (Nat.le_refl _) dX11_act_88 ⟨_, rfl, h31⟩
          rcases h32 with ⟨h0, h32⟩ | ⟨h0, h32⟩ | ⟨h0, h32⟩ | ⟨h0, h32⟩ | ⟨h0, h32⟩ | ⟨h0, h32⟩ | ⟨h0, h32⟩
          · exact e_callV (as := [.int x3]) C wb_X5_tells wv_X11_263 (ci := 5) rfl rfl h0 (m_X5_tells h32) rfl ⟨Nat.le_of_ble_eq_true rfl, Nat.le_of_ble_eq_true rfl⟩ ⟨Nat.le_of_ble_eq_true rfl, Nat.le_of_ble_eq_true rfl⟩ (by first | exact Nat.le_of_ble_eq_true rfl | (simp only [List.map_cons, List.map_nil, va_cat, List.sum_cons, List.sum_nil]; exact Nat.le_of_ble_eq_true rfl)) dX11_act_85 (kI kk)
          · exact e_callU (as := [.int x3]) C wb_X5_tells wu_X11_263_1 (ci := 1) rfl h0 (m_X5_tells h32) rfl ⟨Nat.le_of_ble_eq_true rfl, Nat.le_of_ble_eq_true rfl⟩ ⟨Nat.le_of_ble_eq_true rfl, Nat.le_of_ble_eq_true rfl⟩ (by first | exact Nat.le_of_ble_eq_true rfl | (simp only [List.map_cons, List.map_nil, va_cat, List.sum_cons, List.sum_nil]; exact Nat.le_of_ble_eq_true rfl)) dX11_act_85 (kI kk)
          · exact e_callU (as := [.int x3]) C wb_X2_tells wu_X11_263_2 (ci := 2) rfl h0 (m_X2_tells h32) rfl ⟨Nat.le_of_ble_eq_true rfl, Nat.le_of_ble_eq_true rfl⟩ ⟨Nat.le_of_ble_eq_true rfl, Nat.le_of_ble_eq_true rfl⟩ (by first | exact Nat.le_of_ble_eq_true rfl | (simp only [List.map_cons, List.map_nil, va_cat, List.sum_cons, List.sum_nil]; exact Nat.le_of_ble_eq_true rfl)) dX11_act_85 (kI kk)
          · exact e_callU (as := [.int x3]) C wb_X5_tells wu_X11_263_4 (ci := 4) rfl h0 (m_X5_tells h32) rfl ⟨Nat.le_of_ble_eq_true rfl, Nat.le_of_ble_eq_true rfl⟩ ⟨Nat.le_of_ble_eq_true rfl, Nat.le_of_ble_eq_true rfl⟩ (by first | exact Nat.le_of_ble_eq_true rfl | (simp only [List.map_cons, List.map_nil, va_cat, List.sum_cons, List.sum_nil]; exact Nat.le_of_ble_eq_true rfl)) dX11_act_85 (kI kk)
          · exact e_callU (as := [.int x3]) C wb_X6_tells wu_X11_263_6 (ci := 6) rfl h0 (m_X6_tells h32) rfl ⟨Nat.le_of_ble_eq_true rfl, Nat.le_of_ble_eq_true rfl⟩ ⟨Nat.le_of_ble_eq_true rfl, Nat.le_of_ble_eq_true rfl⟩ (by first | exact Nat.le_of_ble_eq_true rfl | (simp only [List.map_cons, List.map_nil, va_cat, List.sum_cons, List.sum_nil]; exact Nat.le_of_ble_eq_true rfl)) dX11_act_85 (kI kk)
          · exact e_callU (as := [.int x3]) C wb_X5_tells wu_X11_263_7 (ci := 7) rfl h0 (m_X5_tells h32) rfl ⟨Nat.le_of_ble_eq_true rfl, Nat.le_of_ble_eq_true rfl⟩ ⟨Nat.le_of_ble_eq_true rfl, Nat.le_of_ble_eq_true rfl⟩ (by first | exact Nat.le_of_ble_eq_true rfl | (simp only [List.map_cons, List.map_nil, va_cat, List.sum_cons, List.sum_nil]; exact Nat.le_of_ble_eq_true rfl)) dX11_act_85 (kI kk)
          · exact e_callU (as := [.int x3]) C wb_X5_tells wu_X11_263_9 (ci := 9) rfl h0 (m_X5_tells h32) rfl ⟨Nat.le_of_ble_eq_true rfl, Nat.le_of_ble_eq_true rfl⟩ ⟨Nat.le_of_ble_eq_true rfl, Nat.le_of_ble_eq_true rfl⟩ (by first | exact Nat.le_of_ble_eq_true rfl | (simp only [List.map_cons, List.map_nil, va_cat, List.sum_cons, List.sum_nil]; exact Nat.le_of_ble_eq_true rfl)) dX11_act_85 (kI kk)
    · replace h32 := ite_t h32 (bi_t q11)
      refine e_iconst (v := 0) C dX11_act_26 (by decide) ?_
      exact e_iret C hr hlk (Nat.le_refl _) (Nat.le_refl _) dX11_act_27 ⟨_, rfl, h32⟩
theorem m_X11_act  {a0 : Nat} {x1 : Int32} {x2 : Int32} {x3 : Int32} {M : Mem} {Q : Int32 → Mem → Prop} (h : f_X11_act a0 x1 x2 x3 M Q) : Con yX11_act cX11_act 5 (some .int) 9 0 0 [.ref a0, .int x1, .int x2, .int x3] M (rI Q) :=
  con_of2 (al := [(0, .ref a0), (1, .int x1), (2, .int x2), (3, .int x3)]) (by decide) (by exact Nat.le_of_ble_eq_true rfl) (by rfl) (fun p l e s m args below meth c g C hr hlk _ => w_X11_act C hr hlk h)
set_option maxHeartbeats 4000000 in
set_option maxRecDepth 100000 in
theorem w_X11_trace {p : Program} {l : Launch} {e : Env} {s : State} {m : MethodId} {args : Array Value} {below : List Frame} {meth : Method} {c : Code} {g : Geo} (C : Cx p s m args c cX11_trace RX11 2 g) (hr : meth.sig.returnType = (some .int)) (hlk : meth.locks = false) {a0 : Nat} {x1 : Int32} {M : Mem} {Q : Int32 → Mem → Prop} (h : f_X11_trace a0 x1 M Q) : E p l e (rmO 1 0 0) s m args below meth c g 2 (MQ below (QcM g (rI Q)) args s 0 0 (gA g)) 0 0 0 [(0, .ref a0), (1, .int x1)] [] M := by
  unfold f_X11_trace at h
  refine e_aload_n C 0 dX11_trace_0 rfl rfl ?_
  obtain ⟨o1, h⟩ := h
  refine e_getR C [11] 10 (fg_of fg_X11_251) o1 dX11_trace_1 ?_
  refine e_ifnull (tgt := 28) C dX11_trace_4 (by decide) (fun q2 => ?_) (fun b3 q2 => ?_)
  · replace h := h.1 q2
    refine e_iconst (v := -1) C dX11_trace_28 (by decide) ?_
    exact e_iret C hr hlk (Nat.le_refl _) (Nat.le_refl _) dX11_trace_29 ⟨_, rfl, h⟩
  · replace h := h.2 b3 q2
    try rw [q2]
    refine e_iload_n C 1 dX11_trace_7 rfl rfl ?_
    refine e_if_lt (tgt := 28) C dX11_trace_8 (by decide) (fun q4 => ?_) (fun q4 => ?_)
    · replace h := ite_t h q4
      refine e_iconst (v := -1) C dX11_trace_28 (by decide) ?_
      exact e_iret C hr hlk (Nat.le_refl _) (Nat.le_refl _) dX11_trace_29 ⟨_, rfl, h⟩
    · replace h := ite_f h q4
      refine e_iload_n C 1 dX11_trace_11 rfl rfl ?_
      refine e_bipush (v := 20) C dX11_trace_12 (by decide) ?_
      refine e_icmp_ge (tgt := 28) C dX11_trace_14 (by decide) (fun q5 => ?_) (fun q5 => ?_)
      · replace h := ite_t h q5
        refine e_iconst (v := -1) C dX11_trace_28 (by decide) ?_
        exact e_iret C hr hlk (Nat.le_refl _) (Nat.le_refl _) dX11_trace_29 ⟨_, rfl, h⟩
      · replace h := ite_f h q5
        refine e_iload_n C 1 dX11_trace_17 rfl rfl ?_
        refine e_aload_n C 0 dX11_trace_18 rfl rfl ?_
        refine e_getR C [11] 10 (fg_of fg_X11_251) o1 dX11_trace_19 ?_
        rw [q2]
        obtain ⟨o6, h⟩ := h
        refine e_getI C [5, 1, 2, 4, 6, 7, 9] 2 (fg_of fg_X11_254) o6 dX11_trace_22 ?_
        refine e_icmp_lt (tgt := 30) C dX11_trace_25 (by decide) (fun q7 => ?_) (fun q7 => ?_)
        · replace h := ite_t h q7
          refine e_aload_n C 0 dX11_trace_30 rfl rfl ?_
          refine e_getR C [11] 10 (fg_of fg_X11_251) o1 dX11_trace_31 ?_
          rw [q2]
          refine e_getR C [5, 1, 2, 4, 6, 7, 9] 3 (fg_of fg_X11_266) o6 dX11_trace_34 ?_
          refine e_iload_n C 1 dX11_trace_37 rfl rfl ?_
          obtain ⟨b8, p9, h⟩ := h
          try rw [p9]
          obtain ⟨o10, h⟩ := h
          refine e_iald C o10 dX11_trace_38 ?_
          exact e_iret C hr hlk (Nat.le_refl _) (Nat.le_refl _) dX11_trace_39 ⟨_, rfl, h⟩
        · replace h := ite_f h q7
          refine e_iconst (v := -1) C dX11_trace_28 (by decide) ?_
          exact e_iret C hr hlk (Nat.le_refl _) (Nat.le_refl _) dX11_trace_29 ⟨_, rfl, h⟩
theorem m_X11_trace  {a0 : Nat} {x1 : Int32} {M : Mem} {Q : Int32 → Mem → Prop} (h : f_X11_trace a0 x1 M Q) : Con yX11_trace cX11_trace 2 (some .int) 1 0 0 [.ref a0, .int x1] M (rI Q) :=
  con_of2 (al := [(0, .ref a0), (1, .int x1)]) (by decide) (by exact Nat.le_of_ble_eq_true rfl) (by rfl) (fun p l e s m args below meth c g C hr hlk _ => w_X11_trace C hr hlk h)
set_option maxHeartbeats 4000000 in
set_option maxRecDepth 100000 in
theorem w_X11_isOf {p : Program} {l : Launch} {e : Env} {s : State} {m : MethodId} {args : Array Value} {below : List Frame} {meth : Method} {c : Code} {g : Geo} (C : Cx p s m args c cX11_isOf RX11 2 g) (hr : meth.sig.returnType = (some .boolean)) (hlk : meth.locks = false) {r0 : Option Nat} {x1 : Int32} {M : Mem} {Q : Bool → Mem → Prop} (h : f_X11_isOf r0 x1 M Q) : E p l e (rmO 1 0 0) s m args below meth c g 2 (MQ below (QcM g (rZ Q)) args s 0 0 (gA g)) 0 0 0 [(0, va_rf r0), (1, .int x1)] [] M := by
  unfold f_X11_isOf at h
  refine e_iload_n C 1 dX11_isOf_0 rfl rfl ?_
  by_cases q1 : x1 = 1
  · replace h := ite_t h q1
    refine e_tin (tgt := 40) C dX11_isOf_1 (by rw [q1]; decide) (by rw [q1]; decide) (by rw [q1] <;> rfl) (by decide) ?_
    refine e_rload_n C 0 dX11_isOf_40 rfl rfl ?_
    obtain ⟨b2, rfl, h⟩ := h
    obtain ⟨o4, h⟩ := h
    refine e_inst C [5, 1, 2, 4, 6, 7, 9] [1, 4, 9] wd_461 o4 ic_1 dX11_isOf_41 (fun q5 => ?_) (fun q5 => ?_)
    · replace h := h.1 q5
      exact e_zret C hr rfl hlk (Nat.le_refl _) (Nat.le_refl _) dX11_isOf_44 ⟨true, rfl, h⟩
    · replace h := h.2 q5
      exact e_zret C hr rfl hlk (Nat.le_refl _) (Nat.le_refl _) dX11_isOf_44 ⟨false, rfl, h⟩
  · replace h := ite_f h q1
    by_cases q6 : x1 = 2
    · replace h := ite_t h q6
      refine e_tin (tgt := 45) C dX11_isOf_1 (by rw [q6]; decide) (by rw [q6]; decide) (by rw [q6] <;> rfl) (by decide) ?_
      refine e_rload_n C 0 dX11_isOf_45 rfl rfl ?_
      obtain ⟨b7, rfl, h⟩ := h
      obtain ⟨o9, h⟩ := h
      refine e_inst C [5, 1, 2, 4, 6, 7, 9] [7, 6] wd_472 o9 ic_7 dX11_isOf_46 (fun q10 => ?_) (fun q10 => ?_)
      · replace h := h.1 q10
        exact e_zret C hr rfl hlk (Nat.le_refl _) (Nat.le_refl _) dX11_isOf_49 ⟨true, rfl, h⟩
      · replace h := h.2 q10
        exact e_zret C hr rfl hlk (Nat.le_refl _) (Nat.le_refl _) dX11_isOf_49 ⟨false, rfl, h⟩
    · replace h := ite_f h q6
      by_cases q11 : x1 = 3
      · replace h := ite_t h q11
        refine e_tin (tgt := 50) C dX11_isOf_1 (by rw [q11]; decide) (by rw [q11]; decide) (by rw [q11] <;> rfl) (by decide) ?_
        refine e_rload_n C 0 dX11_isOf_50 rfl rfl ?_
        obtain ⟨b12, rfl, h⟩ := h
        obtain ⟨o14, h⟩ := h
        refine e_inst C [5, 1, 2, 4, 6, 7, 9] [4] wd_483 o14 ic_4 dX11_isOf_51 (fun q15 => ?_) (fun q15 => ?_)
        · replace h := h.1 q15
          exact e_zret C hr rfl hlk (Nat.le_refl _) (Nat.le_refl _) dX11_isOf_54 ⟨true, rfl, h⟩
        · replace h := h.2 q15
          exact e_zret C hr rfl hlk (Nat.le_refl _) (Nat.le_refl _) dX11_isOf_54 ⟨false, rfl, h⟩
      · replace h := ite_f h q11
        by_cases q16 : x1 = 4
        · replace h := ite_t h q16
          refine e_tin (tgt := 55) C dX11_isOf_1 (by rw [q16]; decide) (by rw [q16]; decide) (by rw [q16] <;> rfl) (by decide) ?_
          refine e_rload_n C 0 dX11_isOf_55 rfl rfl ?_
          obtain ⟨b17, rfl, h⟩ := h
          obtain ⟨o19, h⟩ := h
          refine e_inst C [5, 1, 2, 4, 6, 7, 9] [6] wd_494 o19 ic_6 dX11_isOf_56 (fun q20 => ?_) (fun q20 => ?_)
          · replace h := h.1 q20
            exact e_zret C hr rfl hlk (Nat.le_refl _) (Nat.le_refl _) dX11_isOf_59 ⟨true, rfl, h⟩
          · replace h := h.2 q20
            exact e_zret C hr rfl hlk (Nat.le_refl _) (Nat.le_refl _) dX11_isOf_59 ⟨false, rfl, h⟩
        · replace h := ite_f h q16
          by_cases q21 : x1 = 5
          · replace h := ite_t h q21
            refine e_tin (tgt := 60) C dX11_isOf_1 (by rw [q21]; decide) (by rw [q21]; decide) (by rw [q21] <;> rfl) (by decide) ?_
            refine e_rload_n C 0 dX11_isOf_60 rfl rfl ?_
            obtain ⟨b22, rfl, h⟩ := h
            obtain ⟨o24, h⟩ := h
            refine e_inst C [5, 1, 2, 4, 6, 7, 9] [2] wd_505 o24 ic_2 dX11_isOf_61 (fun q25 => ?_) (fun q25 => ?_)
            · replace h := h.1 q25
              exact e_zret C hr rfl hlk (Nat.le_refl _) (Nat.le_refl _) dX11_isOf_64 ⟨true, rfl, h⟩
            · replace h := h.2 q25
              exact e_zret C hr rfl hlk (Nat.le_refl _) (Nat.le_refl _) dX11_isOf_64 ⟨false, rfl, h⟩
          · replace h := ite_f h q21
            by_cases q26 : x1 = 6
            · replace h := ite_t h q26
              refine e_tin (tgt := 65) C dX11_isOf_1 (by rw [q26]; decide) (by rw [q26]; decide) (by rw [q26] <;> rfl) (by decide) ?_
              refine e_rload_n C 0 dX11_isOf_65 rfl rfl ?_
              obtain ⟨b27, rfl, h⟩ := h
              obtain ⟨o29, h⟩ := h
              refine e_inst C [5, 1, 2, 4, 6, 7, 9] [9] wd_516 o29 ic_9 dX11_isOf_66 (fun q30 => ?_) (fun q30 => ?_)
              · replace h := h.1 q30
                exact e_zret C hr rfl hlk (Nat.le_refl _) (Nat.le_refl _) dX11_isOf_69 ⟨true, rfl, h⟩
              · replace h := h.2 q30
                exact e_zret C hr rfl hlk (Nat.le_refl _) (Nat.le_refl _) dX11_isOf_69 ⟨false, rfl, h⟩
            · replace h := ite_f h q26
              refine e_tout (tgt := 70) C dX11_isOf_1 (by have z1 := lv_neT (a := 1) q1 (by decide); have z2 := lv_neT (a := 2) q6 (by decide); have z3 := lv_neT (a := 3) q11 (by decide); have z4 := lv_neT (a := 4) q16 (by decide); have z5 := lv_neT (a := 5) q21 (by decide); have z6 := lv_neT (a := 6) q26 (by decide); omega) (by decide) ?_
              refine e_iconst (v := 1) C dX11_isOf_70 (by decide) ?_
              exact e_zret C hr rfl hlk (Nat.le_refl _) (Nat.le_refl _) dX11_isOf_71 ⟨true, rfl, h⟩
theorem m_X11_isOf  {r0 : Option Nat} {x1 : Int32} {M : Mem} {Q : Bool → Mem → Prop} (h : f_X11_isOf r0 x1 M Q) : Con yX11_isOf cX11_isOf 2 (some .boolean) 1 0 0 [va_rf r0, .int x1] M (rZ Q) :=
  con_of2 (al := [(0, va_rf r0), (1, .int x1)]) (by decide) (by cases r0 <;> exact Nat.le_of_ble_eq_true rfl) (by cases r0 <;> rfl) (fun p l e s m args below meth c g C hr hlk _ => w_X11_isOf C hr hlk h)
set_option maxHeartbeats 4000000 in
set_option maxRecDepth 100000 in
theorem w_X11_taken {p : Program} {l : Launch} {e : Env} {s : State} {m : MethodId} {args : Array Value} {below : List Frame} {meth : Method} {c : Code} {g : Geo} (C : Cx p s m args c cX11_taken RX11 4 g) (hr : meth.sig.returnType = (some .int)) (hlk : meth.locks = false) {a0 : Nat} {x1 : Int32} {x2 : Int32} {M : Mem} {Q : Int32 → Mem → Prop} (h : f_X11_taken a0 x1 x2 M Q) : E p l e (rmO 2 0 0) s m args below meth c g 4 (MQ below (QcM g (rI Q)) args s 0 0 (gA g)) 0 0 0 [(0, .ref a0), (1, .int x1), (2, .int x2)] [] M := by
  unfold f_X11_taken at h
  refine e_iload_n C 2 dX11_taken_0 rfl rfl ?_
  refine e_iconst (v := 0) C dX11_taken_1 (by decide) ?_
  refine e_bipush (v := 6) C dX11_taken_2 (by decide) ?_
  refine e_callS (as := [.int x2, .int (0 : Int32), .int (6 : Int32)]) C wb_X11_outside wt_X11_77 (m_X11_outside h) rfl ⟨Nat.le_of_ble_eq_true rfl, Nat.le_of_ble_eq_true rfl⟩ ⟨Nat.le_of_ble_eq_true rfl, Nat.le_of_ble_eq_true rfl⟩ (by first | exact Nat.le_of_ble_eq_true rfl | (simp only [List.map_cons, List.map_nil, va_cat, List.sum_cons, List.sum_nil]; exact Nat.le_of_ble_eq_true rfl)) dX11_taken_4 (kZ (fun w1 M2 h17 => ?_))
  refine e_if_eq (tgt := 13) C dX11_taken_7 (by decide) (fun q3 => ?_) (fun q3 => ?_)
  · replace h17 := ite_f h17 (bi_ne q3)
    refine e_aload_n C 0 dX11_taken_13 rfl rfl ?_
    refine e_iload_n C 1 dX11_taken_14 rfl rfl ?_
    obtain ⟨o6, h17⟩ := h17
    refine e_callV (as := [.int x1]) C wb_X11_orderAt wv_X11_131 (ci := 11) rfl rfl (isO_1 o6) (m_X11_orderAt h17) rfl ⟨Nat.le_of_ble_eq_true rfl, Nat.le_of_ble_eq_true rfl⟩ ⟨Nat.le_of_ble_eq_true rfl, Nat.le_of_ble_eq_true rfl⟩ (by first | exact Nat.le_of_ble_eq_true rfl | (simp only [List.map_cons, List.map_nil, va_cat, List.sum_cons, List.sum_nil]; exact Nat.le_of_ble_eq_true rfl)) dX11_taken_15 (kA (fun w4 M5 h16 => ?_))
    refine e_rstore_n (al' := [(3, va_rf w4), (0, .ref a0), (1, .int x1), (2, .int x2)]) C dX11_taken_18 rfl (by decide) rfl ?_
    refine e_rload_n C 0 dX11_taken_19 rfl rfl ?_
    refine e_ifnonnull (tgt := 26) C dX11_taken_20 (by decide) (fun b8 q7 => ?_) (fun q7 => ?_)
    · replace h16 := h16.2 b8 q7
      subst q7
      refine e_aload_n C 0 dX11_taken_26 rfl rfl ?_
      refine e_iload_n C 3 dX11_taken_27 rfl rfl ?_
      refine e_callS (as := [.ref b8, .int x2]) C wb_X11_isOf wt_X11_269 (m_X11_isOf h16) rfl ⟨Nat.le_of_ble_eq_true rfl, Nat.le_of_ble_eq_true rfl⟩ ⟨Nat.le_of_ble_eq_true rfl, Nat.le_of_ble_eq_true rfl⟩ (by first | exact Nat.le_of_ble_eq_true rfl | (simp only [List.map_cons, List.map_nil, va_cat, List.sum_cons, List.sum_nil]; exact Nat.le_of_ble_eq_true rfl)) dX11_taken_28 (kZ (fun w9 M10 h15 => ?_))
      refine e_if_eq (tgt := 41) C dX11_taken_31 (by decide) (fun q11 => ?_) (fun q11 => ?_)
      · replace h15 := ite_f h15 (bi_ne q11)
        refine e_bipush (v := -12) C dX11_taken_41 (by decide) ?_
        exact e_iret C hr hlk (Nat.le_refl _) (Nat.le_refl _) dX11_taken_43 ⟨_, rfl, h15⟩
      · replace h15 := ite_t h15 (bi_t q11)
        refine e_aload_n C 0 dX11_taken_34 rfl rfl ?_
        have kk : ∀ (w12 : Int32) (M13 : Mem), Q w12 M13 → E p l e (rmO 2 0 0) s m args below meth c g 4 (MQ below (QcM g (rI Q)) args s 0 0 (gA g)) 0 0 38 [(3, .ref b8), (0, .ref a0), (1, .int x1), (2, .int x2)] [.int w12] M13 := by
          intro w12 M13 h14
          refine e_goto (tgt := 43) C dX11_taken_38 (by decide) ?_
          exact e_iret C hr hlk (Nat.le_refl _) (Nat.le_refl _) dX11_taken_43 ⟨_, rfl, h14⟩
        rcases h15 with ⟨h0, h15⟩ | ⟨h0, h15⟩ | ⟨h0, h15⟩ | ⟨h0, h15⟩ | ⟨h0, h15⟩ | ⟨h0, h15⟩ | ⟨h0, h15⟩
        · exact e_callV (as := []) C wb_X5_kind wv_X11_273 (ci := 5) rfl rfl h0 (m_X5_kind h15) rfl ⟨Nat.le_of_ble_eq_true rfl, Nat.le_of_ble_eq_true rfl⟩ ⟨Nat.le_of_ble_eq_true rfl, Nat.le_of_ble_eq_true rfl⟩ (by first | exact Nat.le_of_ble_eq_true rfl | (simp only [List.map_cons, List.map_nil, va_cat, List.sum_cons, List.sum_nil]; exact Nat.le_of_ble_eq_true rfl)) dX11_taken_35 (kI kk)
        · exact e_callU (as := []) C wb_X1_kind wu_X11_273_1 (ci := 1) rfl h0 (m_X1_kind h15) rfl ⟨Nat.le_of_ble_eq_true rfl, Nat.le_of_ble_eq_true rfl⟩ ⟨Nat.le_of_ble_eq_true rfl, Nat.le_of_ble_eq_true rfl⟩ (by first | exact Nat.le_of_ble_eq_true rfl | (simp only [List.map_cons, List.map_nil, va_cat, List.sum_cons, List.sum_nil]; exact Nat.le_of_ble_eq_true rfl)) dX11_taken_35 (kI kk)
        · exact e_callU (as := []) C wb_X2_kind wu_X11_273_2 (ci := 2) rfl h0 (m_X2_kind h15) rfl ⟨Nat.le_of_ble_eq_true rfl, Nat.le_of_ble_eq_true rfl⟩ ⟨Nat.le_of_ble_eq_true rfl, Nat.le_of_ble_eq_true rfl⟩ (by first | exact Nat.le_of_ble_eq_true rfl | (simp only [List.map_cons, List.map_nil, va_cat, List.sum_cons, List.sum_nil]; exact Nat.le_of_ble_eq_true rfl)) dX11_taken_35 (kI kk)
        · exact e_callU (as := []) C wb_X4_kind wu_X11_273_4 (ci := 4) rfl h0 (m_X4_kind h15) rfl ⟨Nat.le_of_ble_eq_true rfl, Nat.le_of_ble_eq_true rfl⟩ ⟨Nat.le_of_ble_eq_true rfl, Nat.le_of_ble_eq_true rfl⟩ (by first | exact Nat.le_of_ble_eq_true rfl | (simp only [List.map_cons, List.map_nil, va_cat, List.sum_cons, List.sum_nil]; exact Nat.le_of_ble_eq_true rfl)) dX11_taken_35 (kI kk)
        · exact e_callU (as := []) C wb_X6_kind wu_X11_273_6 (ci := 6) rfl h0 (m_X6_kind h15) rfl ⟨Nat.le_of_ble_eq_true rfl, Nat.le_of_ble_eq_true rfl⟩ ⟨Nat.le_of_ble_eq_true rfl, Nat.le_of_ble_eq_true rfl⟩ (by first | exact Nat.le_of_ble_eq_true rfl | (simp only [List.map_cons, List.map_nil, va_cat, List.sum_cons, List.sum_nil]; exact Nat.le_of_ble_eq_true rfl)) dX11_taken_35 (kI kk)
        · exact e_callU (as := []) C wb_X7_kind wu_X11_273_7 (ci := 7) rfl h0 (m_X7_kind h15) rfl ⟨Nat.le_of_ble_eq_true rfl, Nat.le_of_ble_eq_true rfl⟩ ⟨Nat.le_of_ble_eq_true rfl, Nat.le_of_ble_eq_true rfl⟩ (by first | exact Nat.le_of_ble_eq_true rfl | (simp only [List.map_cons, List.map_nil, va_cat, List.sum_cons, List.sum_nil]; exact Nat.le_of_ble_eq_true rfl)) dX11_taken_35 (kI kk)
        · exact e_callU (as := []) C wb_X9_kind wu_X11_273_9 (ci := 9) rfl h0 (m_X9_kind h15) rfl ⟨Nat.le_of_ble_eq_true rfl, Nat.le_of_ble_eq_true rfl⟩ ⟨Nat.le_of_ble_eq_true rfl, Nat.le_of_ble_eq_true rfl⟩ (by first | exact Nat.le_of_ble_eq_true rfl | (simp only [List.map_cons, List.map_nil, va_cat, List.sum_cons, List.sum_nil]; exact Nat.le_of_ble_eq_true rfl)) dX11_taken_35 (kI kk)
    · replace h16 := h16.1 q7
      subst q7
      refine e_bipush (v := -11) C dX11_taken_23 (by decide) ?_
      exact e_iret C hr hlk (Nat.le_refl _) (Nat.le_refl _) dX11_taken_25 ⟨_, rfl, h16⟩
  · replace h17 := ite_t h17 (bi_t q3)
    refine e_bipush (v := -2) C dX11_taken_10 (by decide) ?_
    exact e_iret C hr hlk (Nat.le_refl _) (Nat.le_refl _) dX11_taken_12 ⟨_, rfl, h17⟩
theorem m_X11_taken  {a0 : Nat} {x1 : Int32} {x2 : Int32} {M : Mem} {Q : Int32 → Mem → Prop} (h : f_X11_taken a0 x1 x2 M Q) : Con yX11_taken cX11_taken 4 (some .int) 2 0 0 [.ref a0, .int x1, .int x2] M (rI Q) :=
  con_of2 (al := [(0, .ref a0), (1, .int x1), (2, .int x2)]) (by decide) (by exact Nat.le_of_ble_eq_true rfl) (by rfl) (fun p l e s m args below meth c g C hr hlk _ => w_X11_taken C hr hlk h)
set_option maxHeartbeats 4000000 in
set_option maxRecDepth 100000 in
theorem w_X11_count {p : Program} {l : Launch} {e : Env} {s : State} {m : MethodId} {args : Array Value} {below : List Frame} {meth : Method} {c : Code} {g : Geo} (C : Cx p s m args c cX11_count RX11 2 g) (hr : meth.sig.returnType = (some .int)) (hlk : meth.locks = false) {a0 : Nat} {x1 : Int32} {M : Mem} {Q : Int32 → Mem → Prop} (h : f_X11_count a0 x1 M Q) : E p l e (rmO 1 0 0) s m args below meth c g 2 (MQ below (QcM g (rI Q)) args s 0 0 (gA g)) 0 0 0 [(0, .ref a0), (1, .int x1)] [] M := by
  unfold f_X11_count at h
  refine e_iload_n C 1 dX11_count_0 rfl rfl ?_
  by_cases q1 : x1 = 0
  · replace h := ite_t h q1
    refine e_tin (tgt := 40) C dX11_count_1 (by rw [q1]; decide) (by rw [q1]; decide) (by rw [q1] <;> rfl) (by decide) ?_
    refine e_aload_n C 0 dX11_count_40 rfl rfl ?_
    obtain ⟨o2, h⟩ := h
    refine e_getI C [11] 1 (fg_of fg_X11_81) o2 dX11_count_41 ?_
    exact e_iret C hr hlk (Nat.le_refl _) (Nat.le_refl _) dX11_count_44 ⟨_, rfl, h⟩
  · replace h := ite_f h q1
    by_cases q3 : x1 = 1
    · replace h := ite_t h q3
      refine e_tin (tgt := 45) C dX11_count_1 (by rw [q3]; decide) (by rw [q3]; decide) (by rw [q3] <;> rfl) (by decide) ?_
      refine e_aload_n C 0 dX11_count_45 rfl rfl ?_
      obtain ⟨o4, h⟩ := h
      refine e_getI C [11] 6 (fg_of fg_X11_95) o4 dX11_count_46 ?_
      exact e_iret C hr hlk (Nat.le_refl _) (Nat.le_refl _) dX11_count_49 ⟨_, rfl, h⟩
    · replace h := ite_f h q3
      by_cases q5 : x1 = 2
      · replace h := ite_t h q5
        refine e_tin (tgt := 50) C dX11_count_1 (by rw [q5]; decide) (by rw [q5]; decide) (by rw [q5] <;> rfl) (by decide) ?_
        refine e_aload_n C 0 dX11_count_50 rfl rfl ?_
        obtain ⟨o6, h⟩ := h
        refine e_getI C [11] 9 (fg_of fg_X11_124) o6 dX11_count_51 ?_
        exact e_iret C hr hlk (Nat.le_refl _) (Nat.le_refl _) dX11_count_54 ⟨_, rfl, h⟩
      · replace h := ite_f h q5
        by_cases q7 : x1 = 3
        · replace h := ite_t h q7
          refine e_tin (tgt := 55) C dX11_count_1 (by rw [q7]; decide) (by rw [q7]; decide) (by rw [q7] <;> rfl) (by decide) ?_
          refine e_aload_n C 0 dX11_count_55 rfl rfl ?_
          obtain ⟨o8, h⟩ := h
          refine e_getR C [11] 11 (fg_of fg_X11_47) o8 dX11_count_56 ?_
          obtain ⟨b9, p10, h⟩ := h
          try rw [p10]
          obtain ⟨o11, h⟩ := h
          refine e_getI C [0] 4 (fg_of fg_X11_118) o11 dX11_count_59 ?_
          exact e_iret C hr hlk (Nat.le_refl _) (Nat.le_refl _) dX11_count_62 ⟨_, rfl, h⟩
        · replace h := ite_f h q7
          by_cases q12 : x1 = 4
          · replace h := ite_t h q12
            refine e_tin (tgt := 63) C dX11_count_1 (by rw [q12]; decide) (by rw [q12]; decide) (by rw [q12] <;> rfl) (by decide) ?_
            refine e_aload_n C 0 dX11_count_63 rfl rfl ?_
            obtain ⟨o13, h⟩ := h
            refine e_getI C [11] 3 (fg_of fg_X11_92) o13 dX11_count_64 ?_
            exact e_iret C hr hlk (Nat.le_refl _) (Nat.le_refl _) dX11_count_67 ⟨_, rfl, h⟩
          · replace h := ite_f h q12
            by_cases q14 : x1 = 5
            · replace h := ite_t h q14
              refine e_tin (tgt := 68) C dX11_count_1 (by rw [q14]; decide) (by rw [q14]; decide) (by rw [q14] <;> rfl) (by decide) ?_
              refine e_aload_n C 0 dX11_count_68 rfl rfl ?_
              obtain ⟨o15, h⟩ := h
              refine e_getR C [11] 10 (fg_of fg_X11_251) o15 dX11_count_69 ?_
              refine e_ifnonnull (tgt := 79) C dX11_count_72 (by decide) (fun b17 q16 => ?_) (fun q16 => ?_)
              · replace h := h.2 b17 q16
                try rw [q16]
                refine e_aload_n C 0 dX11_count_79 rfl rfl ?_
                refine e_getR C [11] 10 (fg_of fg_X11_251) o15 dX11_count_80 ?_
                rw [q16]
                obtain ⟨o18, h⟩ := h
                refine e_getI C [5, 1, 2, 4, 6, 7, 9] 2 (fg_of fg_X11_254) o18 dX11_count_83 ?_
                exact e_iret C hr hlk (Nat.le_refl _) (Nat.le_refl _) dX11_count_86 ⟨_, rfl, h⟩
              · replace h := h.1 q16
                refine e_iconst (v := 0) C dX11_count_75 (by decide) ?_
                refine e_goto (tgt := 86) C dX11_count_76 (by decide) ?_
                exact e_iret C hr hlk (Nat.le_refl _) (Nat.le_refl _) dX11_count_86 ⟨_, rfl, h⟩
            · replace h := ite_f h q14
              refine e_tout (tgt := 87) C dX11_count_1 (by have z0 := lv_neT (a := 0) q1 (by decide); have z1 := lv_neT (a := 1) q3 (by decide); have z2 := lv_neT (a := 2) q5 (by decide); have z3 := lv_neT (a := 3) q7 (by decide); have z4 := lv_neT (a := 4) q12 (by decide); have z5 := lv_neT (a := 5) q14 (by decide); omega) (by decide) ?_
              refine e_bipush (v := -2) C dX11_count_87 (by decide) ?_
              exact e_iret C hr hlk (Nat.le_refl _) (Nat.le_refl _) dX11_count_89 ⟨_, rfl, h⟩
theorem m_X11_count  {a0 : Nat} {x1 : Int32} {M : Mem} {Q : Int32 → Mem → Prop} (h : f_X11_count a0 x1 M Q) : Con yX11_count cX11_count 2 (some .int) 1 0 0 [.ref a0, .int x1] M (rI Q) :=
  con_of2 (al := [(0, .ref a0), (1, .int x1)]) (by decide) (by exact Nat.le_of_ble_eq_true rfl) (by rfl) (fun p l e s m args below meth c g C hr hlk _ => w_X11_count C hr hlk h)
set_option maxHeartbeats 4000000 in
set_option maxRecDepth 100000 in
theorem w_X11_tape_J62 {p : Program} {l : Launch} {e : Env} {s : State} {m : MethodId} {args : Array Value} {below : List Frame} {meth : Method} {c : Code} {g : Geo} (C : Cx p s m args c cX11_tape RX11 5 g) (hr : meth.sig.returnType = (some .int)) (hlk : meth.locks = false) {a0 : Nat} {x1 : Int32} {x2 : Int32} {x3 : Int32} {t0 : Int32} {t1 : Int32} {t2 : Option Nat} {M : Mem} {Q : Int32 → Mem → Prop} (h : f_X11_tape_J62 a0 x1 x2 x3 t0 t1 t2 M Q) : E p l e (rmO 3 0 0) s m args below meth c g 5 (MQ below (QcM g (rI Q)) args s 0 0 (gA g)) 0 0 62 [(0, .ref a0), (1, .int x1), (2, .int x2), (3, .int x3)] [.int t0, .int t1, va_rf t2] M := by
  unfold f_X11_tape_J62 at h
  obtain ⟨b1, rfl, h⟩ := h
  obtain ⟨o5, h⟩ := h
  refine e_callV (as := [.int t1, .int t0]) C wb_X8_become wv_X11_276 (ci := 8) rfl rfl (isO_1 o5) (m_X8_become h) rfl ⟨Nat.le_of_ble_eq_true rfl, Nat.le_of_ble_eq_true rfl⟩ ⟨Nat.le_of_ble_eq_true rfl, Nat.le_of_ble_eq_true rfl⟩ (by first | exact Nat.le_of_ble_eq_true rfl | (simp only [List.map_cons, List.map_nil, va_cat, List.sum_cons, List.sum_nil]; exact Nat.le_of_ble_eq_true rfl)) dX11_tape_62 (kV (fun M4 h6 => ?_))
  refine e_iconst (v := 1) C dX11_tape_65 (by decide) ?_
  exact e_iret C hr hlk (Nat.le_refl _) (Nat.le_refl _) dX11_tape_66 ⟨_, rfl, h6⟩
set_option maxHeartbeats 4000000 in
set_option maxRecDepth 100000 in
theorem w_X11_tape_J49 {p : Program} {l : Launch} {e : Env} {s : State} {m : MethodId} {args : Array Value} {below : List Frame} {meth : Method} {c : Code} {g : Geo} (C : Cx p s m args c cX11_tape RX11 5 g) (hr : meth.sig.returnType = (some .int)) (hlk : meth.locks = false) {a0 : Nat} {x1 : Int32} {x2 : Int32} {x3 : Int32} {v4 : Option Nat} {M : Mem} {Q : Int32 → Mem → Prop} (h : f_X11_tape_J49 a0 x1 x2 x3 v4 M Q) : E p l e (rmO 3 0 0) s m args below meth c g 5 (MQ below (QcM g (rI Q)) args s 0 0 (gA g)) 0 0 49 [(0, .ref a0), (1, .int x1), (2, .int x2), (3, .int x3), (4, va_rf v4)] [] M := by
  unfold f_X11_tape_J49 at h
  refine e_rload C 4 dX11_tape_49 rfl ?_
  refine e_iload_n C 2 dX11_tape_51 rfl rfl ?_
  refine e_iload_n C 2 dX11_tape_52 rfl rfl ?_
  refine e_iconst (v := -1) C dX11_tape_53 (by decide) ?_
  refine e_icmp_ne (tgt := 61) C dX11_tape_54 (by decide) (fun q1 => ?_) (fun q1 => ?_)
  · replace h := ite_f h q1
    refine e_iload_n C 3 dX11_tape_61 rfl rfl ?_
    refine e_pick [0, 1, 2, 3] rfl ?_
    exact w_X11_tape_J62 C hr hlk h
  · replace h := ite_t h q1
    refine e_iconst (v := 0) C dX11_tape_57 (by decide) ?_
    refine e_goto (tgt := 62) C dX11_tape_58 (by decide) ?_
    refine e_pick [0, 1, 2, 3] rfl ?_
    exact w_X11_tape_J62 C hr hlk h
set_option maxHeartbeats 4000000 in
set_option maxRecDepth 100000 in
theorem w_X11_tape_J37 {p : Program} {l : Launch} {e : Env} {s : State} {m : MethodId} {args : Array Value} {below : List Frame} {meth : Method} {c : Code} {g : Geo} (C : Cx p s m args c cX11_tape RX11 5 g) (hr : meth.sig.returnType = (some .int)) (hlk : meth.locks = false) {a0 : Nat} {x1 : Int32} {x2 : Int32} {x3 : Int32} {v4 : Option Nat} {M : Mem} {Q : Int32 → Mem → Prop} (h : f_X11_tape_J37 a0 x1 x2 x3 v4 M Q) : E p l e (rmO 3 0 0) s m args below meth c g 5 (MQ below (QcM g (rI Q)) args s 0 0 (gA g)) 0 0 37 [(0, .ref a0), (1, .int x1), (2, .int x2), (3, .int x3), (4, va_rf v4)] [] M := by
  unfold f_X11_tape_J37 at h
  refine e_iload_n C 2 dX11_tape_37 rfl rfl ?_
  refine e_iconst (v := -1) C dX11_tape_38 (by decide) ?_
  refine e_icmp_eq (tgt := 49) C dX11_tape_39 (by decide) (fun q1 => ?_) (fun q1 => ?_)
  · replace h := ite_t h q1
    exact w_X11_tape_J49 C hr hlk h
  · replace h := ite_f h q1
    refine e_iload_n C 3 dX11_tape_42 rfl rfl ?_
    refine e_if_ge (tgt := 49) C dX11_tape_43 (by decide) (fun q2 => ?_) (fun q2 => ?_)
    · replace h := ite_t h q2
      exact w_X11_tape_J49 C hr hlk h
    · replace h := ite_f h q2
      refine e_bipush (v := -14) C dX11_tape_46 (by decide) ?_
      exact e_iret C hr hlk (Nat.le_refl _) (Nat.le_refl _) dX11_tape_48 ⟨_, rfl, h⟩
set_option maxHeartbeats 4000000 in
set_option maxRecDepth 100000 in
theorem w_X11_tape {p : Program} {l : Launch} {e : Env} {s : State} {m : MethodId} {args : Array Value} {below : List Frame} {meth : Method} {c : Code} {g : Geo} (C : Cx p s m args c cX11_tape RX11 5 g) (hr : meth.sig.returnType = (some .int)) (hlk : meth.locks = false) {a0 : Nat} {x1 : Int32} {x2 : Int32} {x3 : Int32} {M : Mem} {Q : Int32 → Mem → Prop} (h : f_X11_tape a0 x1 x2 x3 M Q) : E p l e (rmO 3 0 0) s m args below meth c g 5 (MQ below (QcM g (rI Q)) args s 0 0 (gA g)) 0 0 0 [(0, .ref a0), (1, .int x1), (2, .int x2), (3, .int x3)] [] M := by
  unfold f_X11_tape at h
  refine e_aload_n C 0 dX11_tape_0 rfl rfl ?_
  refine e_iload_n C 1 dX11_tape_1 rfl rfl ?_
  obtain ⟨o3, h⟩ := h
  refine e_callV (as := [.int x1]) C wb_X11_tapeAt wv_X11_229 (ci := 11) rfl rfl (isO_1 o3) (m_X11_tapeAt h) rfl ⟨Nat.le_of_ble_eq_true rfl, Nat.le_of_ble_eq_true rfl⟩ ⟨Nat.le_of_ble_eq_true rfl, Nat.le_of_ble_eq_true rfl⟩ (by first | exact Nat.le_of_ble_eq_true rfl | (simp only [List.map_cons, List.map_nil, va_cat, List.sum_cons, List.sum_nil]; exact Nat.le_of_ble_eq_true rfl)) dX11_tape_2 (kA (fun w1 M2 h12 => ?_))
  refine e_rstore (al' := [(4, va_rf w1), (0, .ref a0), (1, .int x1), (2, .int x2), (3, .int x3)]) C dX11_tape_5 (by decide) rfl ?_
  refine e_rload C 0 dX11_tape_7 rfl ?_
  refine e_ifnonnull (tgt := 14) C dX11_tape_9 (by decide) (fun b5 q4 => ?_) (fun q4 => ?_)
  · replace h12 := h12.2 b5 q4
    subst q4
    refine e_iload_n C 3 dX11_tape_14 rfl rfl ?_
    refine e_iconst (v := -1) C dX11_tape_15 (by decide) ?_
    refine e_iconst (v := 4) C dX11_tape_16 (by decide) ?_
    refine e_callS (as := [.int x2, .int (-1 : Int32), .int (4 : Int32)]) C wb_X11_outside wt_X11_77 (m_X11_outside h12) rfl ⟨Nat.le_of_ble_eq_true rfl, Nat.le_of_ble_eq_true rfl⟩ ⟨Nat.le_of_ble_eq_true rfl, Nat.le_of_ble_eq_true rfl⟩ (by first | exact Nat.le_of_ble_eq_true rfl | (simp only [List.map_cons, List.map_nil, va_cat, List.sum_cons, List.sum_nil]; exact Nat.le_of_ble_eq_true rfl)) dX11_tape_17 (kZ (fun w6 M7 h11 => ?_))
    refine e_if_ne (tgt := 34) C dX11_tape_20 (by decide) (fun q8 => ?_) (fun q8 => ?_)
    · replace h11 := ite_t h11 (bi_t q8)
      refine e_bipush (v := -2) C dX11_tape_34 (by decide) ?_
      exact e_iret C hr hlk (Nat.le_refl _) (Nat.le_refl _) dX11_tape_36 ⟨_, rfl, h11⟩
    · replace h11 := ite_f h11 (bi_ne q8)
      refine e_iload_n C 3 dX11_tape_23 rfl rfl ?_
      refine e_iconst (v := -1) C dX11_tape_24 (by decide) ?_
      refine e_icmp_eq (tgt := 37) C dX11_tape_25 (by decide) (fun q9 => ?_) (fun q9 => ?_)
      · replace h11 := ite_t h11 q9
        refine e_pick [1, 2, 3, 4, 0] rfl ?_
        exact w_X11_tape_J37 C hr hlk h11
      · replace h11 := ite_f h11 q9
        refine e_iload_n C 4 dX11_tape_28 rfl rfl ?_
        refine e_bipush (v := 60) C dX11_tape_29 (by decide) ?_
        refine e_icmp_le (tgt := 37) C dX11_tape_31 (by decide) (fun q10 => ?_) (fun q10 => ?_)
        · replace h11 := ite_t h11 q10
          refine e_pick [1, 2, 3, 4, 0] rfl ?_
          exact w_X11_tape_J37 C hr hlk h11
        · replace h11 := ite_f h11 q10
          refine e_bipush (v := -2) C dX11_tape_34 (by decide) ?_
          exact e_iret C hr hlk (Nat.le_refl _) (Nat.le_refl _) dX11_tape_36 ⟨_, rfl, h11⟩
  · replace h12 := h12.1 q4
    subst q4
    refine e_iconst (v := -1) C dX11_tape_12 (by decide) ?_
    exact e_iret C hr hlk (Nat.le_refl _) (Nat.le_refl _) dX11_tape_13 ⟨_, rfl, h12⟩
theorem m_X11_tape  {a0 : Nat} {x1 : Int32} {x2 : Int32} {x3 : Int32} {M : Mem} {Q : Int32 → Mem → Prop} (h : f_X11_tape a0 x1 x2 x3 M Q) : Con yX11_tape cX11_tape 5 (some .int) 3 0 0 [.ref a0, .int x1, .int x2, .int x3] M (rI Q) :=
  con_of2 (al := [(0, .ref a0), (1, .int x1), (2, .int x2), (3, .int x3)]) (by decide) (by exact Nat.le_of_ble_eq_true rfl) (by rfl) (fun p l e s m args below meth c g C hr hlk _ => w_X11_tape C hr hlk h)
set_option maxHeartbeats 4000000 in
set_option maxRecDepth 100000 in
theorem w_X11_item {p : Program} {l : Launch} {e : Env} {s : State} {m : MethodId} {args : Array Value} {below : List Frame} {meth : Method} {c : Code} {g : Geo} (C : Cx p s m args c cX11_item RX11 6 g) (hr : meth.sig.returnType = (some .int)) (hlk : meth.locks = false) {a0 : Nat} {x1 : Int32} {x2 : Int32} {y3 : Int64} {M : Mem} {Q : Int32 → Mem → Prop} (h : f_X11_item a0 x1 x2 y3 M Q) : E p l e (rmO 2 0 0) s m args below meth c g 6 (MQ below (QcM g (rI Q)) args s 0 0 (gA g)) 0 0 0 [(0, .ref a0), (1, .int x1), (2, .int x2), (3, .long y3)] [] M := by
  unfold f_X11_item at h
  refine e_aload_n C 0 dX11_item_0 rfl rfl ?_
  refine e_iload_n C 1 dX11_item_1 rfl rfl ?_
  obtain ⟨o3, h⟩ := h
  refine e_callV (as := [.int x1]) C wb_X11_tapeAt wv_X11_229 (ci := 11) rfl rfl (isO_1 o3) (m_X11_tapeAt h) rfl ⟨Nat.le_of_ble_eq_true rfl, Nat.le_of_ble_eq_true rfl⟩ ⟨Nat.le_of_ble_eq_true rfl, Nat.le_of_ble_eq_true rfl⟩ (by first | exact Nat.le_of_ble_eq_true rfl | (simp only [List.map_cons, List.map_nil, va_cat, List.sum_cons, List.sum_nil]; exact Nat.le_of_ble_eq_true rfl)) dX11_item_2 (kA (fun w1 M2 h21 => ?_))
  refine e_rstore (al' := [(5, va_rf w1), (0, .ref a0), (1, .int x1), (2, .int x2), (3, .long y3)]) C dX11_item_5 (by decide) rfl ?_
  refine e_rload C 0 dX11_item_7 rfl ?_
  refine e_ifnonnull (tgt := 14) C dX11_item_9 (by decide) (fun b5 q4 => ?_) (fun q4 => ?_)
  · replace h21 := h21.2 b5 q4
    subst q4
    refine e_aload C 0 dX11_item_14 rfl ?_
    obtain ⟨o6, h21⟩ := h21
    refine e_getI C [8] 0 (fg_of fg_X11_233) o6 dX11_item_16 ?_
    refine e_iconst (v := -1) C dX11_item_19 (by decide) ?_
    refine e_icmp_ne (tgt := 26) C dX11_item_20 (by decide) (fun q7 => ?_) (fun q7 => ?_)
    · replace h21 := ite_f h21 q7
      refine e_aload C 0 dX11_item_26 rfl ?_
      refine e_iload_n C 3 dX11_item_28 rfl rfl ?_
      refine e_i2l C dX11_item_29 ?_
      refine e_callV (as := [.long ((x2).toInt64)]) C wb_X8_lacks wv_X11_236 (ci := 8) rfl rfl (isO_1 o6) (m_X8_lacks h21) rfl ⟨Nat.le_of_ble_eq_true rfl, Nat.le_of_ble_eq_true rfl⟩ ⟨Nat.le_of_ble_eq_true rfl, Nat.le_of_ble_eq_true rfl⟩ (by first | exact Nat.le_of_ble_eq_true rfl | (simp only [List.map_cons, List.map_nil, va_cat, List.sum_cons, List.sum_nil]; exact Nat.le_of_ble_eq_true rfl)) dX11_item_30 (kZ (fun w8 M9 h20 => ?_))
      refine e_if_eq (tgt := 39) C dX11_item_33 (by decide) (fun q10 => ?_) (fun q10 => ?_)
      · replace h20 := ite_f h20 (bi_ne q10)
        refine e_aload C 0 dX11_item_39 rfl ?_
        obtain ⟨o11, h20⟩ := h20
        refine e_getR C [8] 2 (fg_of fg_X11_240) o11 dX11_item_41 ?_
        refine e_iload_n C 3 dX11_item_44 rfl rfl ?_
        refine e_aload C 0 dX11_item_45 rfl ?_
        refine e_lload_n C 4 dX11_item_47 rfl rfl ?_
        refine e_callV (as := [.long y3]) C wb_X8_fitted wv_X11_278 (ci := 8) rfl rfl (isO_1 o11) (m_X8_fitted h20) rfl ⟨Nat.le_of_ble_eq_true rfl, Nat.le_of_ble_eq_true rfl⟩ ⟨Nat.le_of_ble_eq_true rfl, Nat.le_of_ble_eq_true rfl⟩ (by first | exact Nat.le_of_ble_eq_true rfl | (simp only [List.map_cons, List.map_nil, va_cat, List.sum_cons, List.sum_nil]; exact Nat.le_of_ble_eq_true rfl)) dX11_item_48 (kJ (fun w12 M13 h19 => ?_))
        obtain ⟨b14, p15, h19⟩ := h19
        try rw [p15]
        obtain ⟨o16, h19⟩ := h19
        refine e_last C o16 dX11_item_51 ?_
        refine nmE (fun M17 e18 => ?_)
        replace h19 := h19 M17 e18
        refine e_iconst (v := 1) C dX11_item_52 (by decide) ?_
        exact e_iret C hr hlk (Nat.le_refl _) (Nat.le_refl _) dX11_item_53 ⟨_, rfl, h19⟩
      · replace h20 := ite_t h20 (bi_t q10)
        refine e_bipush (v := -13) C dX11_item_36 (by decide) ?_
        exact e_iret C hr hlk (Nat.le_refl _) (Nat.le_refl _) dX11_item_38 ⟨_, rfl, h20⟩
    · replace h21 := ite_t h21 q7
      refine e_bipush (v := -11) C dX11_item_23 (by decide) ?_
      exact e_iret C hr hlk (Nat.le_refl _) (Nat.le_refl _) dX11_item_25 ⟨_, rfl, h21⟩
  · replace h21 := h21.1 q4
    subst q4
    refine e_iconst (v := -1) C dX11_item_12 (by decide) ?_
    exact e_iret C hr hlk (Nat.le_refl _) (Nat.le_refl _) dX11_item_13 ⟨_, rfl, h21⟩
theorem m_X11_item  {a0 : Nat} {x1 : Int32} {x2 : Int32} {y3 : Int64} {M : Mem} {Q : Int32 → Mem → Prop} (h : f_X11_item a0 x1 x2 y3 M Q) : Con yX11_item cX11_item 6 (some .int) 2 0 0 [.ref a0, .int x1, .int x2, .long y3] M (rI Q) :=
  con_of2 (al := [(0, .ref a0), (1, .int x1), (2, .int x2), (3, .long y3)]) (by decide) (by exact Nat.le_of_ble_eq_true rfl) (by rfl) (fun p l e s m args below meth c g C hr hlk _ => w_X11_item C hr hlk h)
set_option maxHeartbeats 4000000 in
set_option maxRecDepth 100000 in
theorem w_X11_read {p : Program} {l : Launch} {e : Env} {s : State} {m : MethodId} {args : Array Value} {below : List Frame} {meth : Method} {c : Code} {g : Geo} (C : Cx p s m args c cX11_read RX11 4 g) (hr : meth.sig.returnType = (some .long)) (hlk : meth.locks = false) {a0 : Nat} {x1 : Int32} {x2 : Int32} {M : Mem} {Q : Int64 → Mem → Prop} (h : f_X11_read a0 x1 x2 M Q) : E p l e (rmO 2 0 0) s m args below meth c g 4 (MQ below (QcM g (rJ Q)) args s 0 0 (gA g)) 0 0 0 [(0, .ref a0), (1, .int x1), (2, .int x2)] [] M := by
  unfold f_X11_read at h
  refine e_aload_n C 0 dX11_read_0 rfl rfl ?_
  refine e_iload_n C 1 dX11_read_1 rfl rfl ?_
  obtain ⟨o3, h⟩ := h
  refine e_callV (as := [.int x1]) C wb_X11_tapeAt wv_X11_229 (ci := 11) rfl rfl (isO_1 o3) (m_X11_tapeAt h) rfl ⟨Nat.le_of_ble_eq_true rfl, Nat.le_of_ble_eq_true rfl⟩ ⟨Nat.le_of_ble_eq_true rfl, Nat.le_of_ble_eq_true rfl⟩ (by first | exact Nat.le_of_ble_eq_true rfl | (simp only [List.map_cons, List.map_nil, va_cat, List.sum_cons, List.sum_nil]; exact Nat.le_of_ble_eq_true rfl)) dX11_read_2 (kA (fun w1 M2 h15 => ?_))
  refine e_rstore_n (al' := [(3, va_rf w1), (0, .ref a0), (1, .int x1), (2, .int x2)]) C dX11_read_5 rfl (by decide) rfl ?_
  refine e_rload_n C 0 dX11_read_6 rfl rfl ?_
  refine e_ifnull (tgt := 19) C dX11_read_7 (by decide) (fun q4 => ?_) (fun b5 q4 => ?_)
  · replace h15 := h15.1 q4
    subst q4
    refine e_ldc2 (v := -9223372036854775808) C wd_782 dX11_read_19 ?_
    exact e_lret C hr hlk (Nat.le_refl _) (Nat.le_refl _) dX11_read_22 ⟨_, rfl, h15⟩
  · replace h15 := h15.2 b5 q4
    subst q4
    refine e_aload_n C 0 dX11_read_10 rfl rfl ?_
    refine e_iload_n C 3 dX11_read_11 rfl rfl ?_
    refine e_i2l C dX11_read_12 ?_
    obtain ⟨o8, h15⟩ := h15
    refine e_callV (as := [.long ((x2).toInt64)]) C wb_X8_lacks wv_X11_236 (ci := 8) rfl rfl (isO_1 o8) (m_X8_lacks h15) rfl ⟨Nat.le_of_ble_eq_true rfl, Nat.le_of_ble_eq_true rfl⟩ ⟨Nat.le_of_ble_eq_true rfl, Nat.le_of_ble_eq_true rfl⟩ (by first | exact Nat.le_of_ble_eq_true rfl | (simp only [List.map_cons, List.map_nil, va_cat, List.sum_cons, List.sum_nil]; exact Nat.le_of_ble_eq_true rfl)) dX11_read_13 (kZ (fun w6 M7 h14 => ?_))
    refine e_if_eq (tgt := 23) C dX11_read_16 (by decide) (fun q9 => ?_) (fun q9 => ?_)
    · replace h14 := ite_f h14 (bi_ne q9)
      refine e_aload_n C 0 dX11_read_23 rfl rfl ?_
      obtain ⟨o10, h14⟩ := h14
      refine e_getR C [8] 2 (fg_of fg_X11_240) o10 dX11_read_24 ?_
      refine e_iload_n C 3 dX11_read_27 rfl rfl ?_
      obtain ⟨b11, p12, h14⟩ := h14
      try rw [p12]
      obtain ⟨o13, h14⟩ := h14
      refine e_lald C o13 dX11_read_28 ?_
      exact e_lret C hr hlk (Nat.le_refl _) (Nat.le_refl _) dX11_read_29 ⟨_, rfl, h14⟩
    · replace h14 := ite_t h14 (bi_t q9)
      refine e_ldc2 (v := -9223372036854775808) C wd_782 dX11_read_19 ?_
      exact e_lret C hr hlk (Nat.le_refl _) (Nat.le_refl _) dX11_read_22 ⟨_, rfl, h14⟩
theorem m_X11_read  {a0 : Nat} {x1 : Int32} {x2 : Int32} {M : Mem} {Q : Int64 → Mem → Prop} (h : f_X11_read a0 x1 x2 M Q) : Con yX11_read cX11_read 4 (some .long) 2 0 0 [.ref a0, .int x1, .int x2] M (rJ Q) :=
  con_of2 (al := [(0, .ref a0), (1, .int x1), (2, .int x2)]) (by decide) (by exact Nat.le_of_ble_eq_true rfl) (by rfl) (fun p l e s m args below meth c g C hr hlk _ => w_X11_read C hr hlk h)
set_option maxHeartbeats 4000000 in
set_option maxRecDepth 100000 in
theorem w_X11_shift {p : Program} {l : Launch} {e : Env} {s : State} {m : MethodId} {args : Array Value} {below : List Frame} {meth : Method} {c : Code} {g : Geo} (C : Cx p s m args c cX11_shift RX11 8 g) (hr : meth.sig.returnType = (some .int)) (hlk : meth.locks = false) {a0 : Nat} {x1 : Int32} {x2 : Int32} {x3 : Int32} {x4 : Int32} {x5 : Int32} {M : Mem} {Q : Int32 → Mem → Prop} (h : f_X11_shift a0 x1 x2 x3 x4 x5 M Q) : E p l e (rmO 2 0 0) s m args below meth c g 8 (MQ below (QcM g (rI Q)) args s 0 0 (gA g)) 0 0 0 [(0, .ref a0), (1, .int x1), (2, .int x2), (3, .int x3), (4, .int x4), (5, .int x5)] [] M := by
  unfold f_X11_shift at h
  refine e_aload_n C 0 dX11_shift_0 rfl rfl ?_
  refine e_iload_n C 1 dX11_shift_1 rfl rfl ?_
  obtain ⟨o3, h⟩ := h
  refine e_callV (as := [.int x1]) C wb_X11_tapeAt wv_X11_229 (ci := 11) rfl rfl (isO_1 o3) (m_X11_tapeAt h) rfl ⟨Nat.le_of_ble_eq_true rfl, Nat.le_of_ble_eq_true rfl⟩ ⟨Nat.le_of_ble_eq_true rfl, Nat.le_of_ble_eq_true rfl⟩ (by first | exact Nat.le_of_ble_eq_true rfl | (simp only [List.map_cons, List.map_nil, va_cat, List.sum_cons, List.sum_nil]; exact Nat.le_of_ble_eq_true rfl)) dX11_shift_2 (kA (fun w1 M2 h33 => ?_))
  refine e_rstore (al' := [(6, va_rf w1), (0, .ref a0), (1, .int x1), (2, .int x2), (3, .int x3), (4, .int x4), (5, .int x5)]) C dX11_shift_5 (by decide) rfl ?_
  refine e_aload_n C 1 dX11_shift_7 rfl rfl ?_
  refine e_iload_n C 4 dX11_shift_8 rfl rfl ?_
  obtain ⟨o6, h33⟩ := h33
  refine e_callV (as := [.int x3]) C wb_X11_tapeAt wv_X11_229 (ci := 11) rfl rfl (isO_1 o6) (m_X11_tapeAt h33) rfl ⟨Nat.le_of_ble_eq_true rfl, Nat.le_of_ble_eq_true rfl⟩ ⟨Nat.le_of_ble_eq_true rfl, Nat.le_of_ble_eq_true rfl⟩ (by first | exact Nat.le_of_ble_eq_true rfl | (simp only [List.map_cons, List.map_nil, va_cat, List.sum_cons, List.sum_nil]; exact Nat.le_of_ble_eq_true rfl)) dX11_shift_9 (kA (fun w4 M5 h32 => ?_))
  refine e_rstore (al' := [(7, va_rf w4), (6, va_rf w1), (0, .ref a0), (1, .int x1), (2, .int x2), (3, .int x3), (4, .int x4), (5, .int x5)]) C dX11_shift_12 (by decide) (by generalize w1 = zz; cases zz <;> rfl) ?_
  refine e_rload C 1 dX11_shift_14 rfl ?_
  refine e_ifnull (tgt := 24) C dX11_shift_16 (by decide) (fun q7 => ?_) (fun b8 q7 => ?_)
  · replace h32 := h32.1 q7
    subst q7
    refine e_iconst (v := -1) C dX11_shift_24 (by decide) ?_
    exact e_iret C hr hlk (Nat.le_refl _) (Nat.le_refl _) dX11_shift_25 ⟨_, rfl, h32⟩
  · replace h32 := h32.2 b8 q7
    subst q7
    refine e_rload C 0 dX11_shift_19 rfl ?_
    refine e_ifnonnull (tgt := 26) C dX11_shift_21 (by decide) (fun b10 q9 => ?_) (fun q9 => ?_)
    · replace h32 := h32.2 b10 q9
      subst q9
      refine e_aload C 1 dX11_shift_26 rfl ?_
      obtain ⟨o11, h32⟩ := h32
      refine e_getI C [8] 0 (fg_of fg_X11_233) o11 dX11_shift_28 ?_
      refine e_iconst (v := -1) C dX11_shift_31 (by decide) ?_
      refine e_icmp_eq (tgt := 44) C dX11_shift_32 (by decide) (fun q12 => ?_) (fun q12 => ?_)
      · replace h32 := ite_t h32 q12
        refine e_bipush (v := -11) C dX11_shift_44 (by decide) ?_
        exact e_iret C hr hlk (Nat.le_refl _) (Nat.le_refl _) dX11_shift_46 ⟨_, rfl, h32⟩
      · replace h32 := ite_f h32 q12
        refine e_aload C 0 dX11_shift_35 rfl ?_
        obtain ⟨o13, h32⟩ := h32
        refine e_getI C [8] 0 (fg_of fg_X11_233) o13 dX11_shift_37 ?_
        refine e_iconst (v := -1) C dX11_shift_40 (by decide) ?_
        refine e_icmp_ne (tgt := 47) C dX11_shift_41 (by decide) (fun q14 => ?_) (fun q14 => ?_)
        · replace h32 := ite_f h32 q14
          refine e_aload C 1 dX11_shift_47 rfl ?_
          refine e_getI C [8] 0 (fg_of fg_X11_233) o11 dX11_shift_49 ?_
          refine e_aload C 0 dX11_shift_52 rfl ?_
          refine e_getI C [8] 0 (fg_of fg_X11_233) o13 dX11_shift_54 ?_
          refine e_icmp_eq (tgt := 63) C dX11_shift_57 (by decide) (fun q15 => ?_) (fun q15 => ?_)
          · replace h32 := ite_t h32 q15
            refine e_iload C 7 dX11_shift_63 rfl ?_
            refine e_if_lt (tgt := 110) C dX11_shift_65 (by decide) (fun q16 => ?_) (fun q16 => ?_)
            · replace h32 := ite_t h32 q16
              refine e_bipush (v := -13) C dX11_shift_110 (by decide) ?_
              exact e_iret C hr hlk (Nat.le_refl _) (Nat.le_refl _) dX11_shift_112 ⟨_, rfl, h32⟩
            · replace h32 := ite_f h32 q16
              refine e_iload_n C 4 dX11_shift_68 rfl rfl ?_
              refine e_if_lt (tgt := 110) C dX11_shift_69 (by decide) (fun q17 => ?_) (fun q17 => ?_)
              · replace h32 := ite_t h32 q17
                refine e_bipush (v := -13) C dX11_shift_110 (by decide) ?_
                exact e_iret C hr hlk (Nat.le_refl _) (Nat.le_refl _) dX11_shift_112 ⟨_, rfl, h32⟩
              · replace h32 := ite_f h32 q17
                refine e_iload C 6 dX11_shift_72 rfl ?_
                refine e_if_lt (tgt := 110) C dX11_shift_74 (by decide) (fun q18 => ?_) (fun q18 => ?_)
                · replace h32 := ite_t h32 q18
                  refine e_bipush (v := -13) C dX11_shift_110 (by decide) ?_
                  exact e_iret C hr hlk (Nat.le_refl _) (Nat.le_refl _) dX11_shift_112 ⟨_, rfl, h32⟩
                · replace h32 := ite_f h32 q18
                  refine e_iload_n C 4 dX11_shift_77 rfl rfl ?_
                  refine e_i2l C dX11_shift_78 ?_
                  refine e_iload C 7 dX11_shift_79 rfl ?_
                  refine e_i2l C dX11_shift_81 ?_
                  refine e_ladd C dX11_shift_82 ?_
                  refine e_aload C 1 dX11_shift_83 rfl ?_
                  refine e_getI C [8] 1 (fg_of fg_X11_282) o11 dX11_shift_85 ?_
                  refine e_i2l C dX11_shift_88 ?_
                  refine e_lcmp C dX11_shift_89 ?_
                  refine e_if_gt (tgt := 110) C dX11_shift_90 (by decide) (fun q19 => ?_) (fun q19 => ?_)
                  · replace h32 := ite_t h32 q19
                    refine e_bipush (v := -13) C dX11_shift_110 (by decide) ?_
                    exact e_iret C hr hlk (Nat.le_refl _) (Nat.le_refl _) dX11_shift_112 ⟨_, rfl, h32⟩
                  · replace h32 := ite_f h32 q19
                    refine e_iload C 6 dX11_shift_93 rfl ?_
                    refine e_i2l C dX11_shift_95 ?_
                    refine e_iload C 7 dX11_shift_96 rfl ?_
                    refine e_i2l C dX11_shift_98 ?_
                    refine e_ladd C dX11_shift_99 ?_
                    refine e_aload C 0 dX11_shift_100 rfl ?_
                    refine e_getI C [8] 1 (fg_of fg_X11_282) o13 dX11_shift_102 ?_
                    refine e_i2l C dX11_shift_105 ?_
                    refine e_lcmp C dX11_shift_106 ?_
                    refine e_if_le (tgt := 113) C dX11_shift_107 (by decide) (fun q20 => ?_) (fun q20 => ?_)
                    · replace h32 := ite_t h32 q20
                      refine e_aload C 1 dX11_shift_113 rfl ?_
                      refine e_getR C [8] 2 (fg_of fg_X11_240) o11 dX11_shift_115 ?_
                      refine e_iload_n C 4 dX11_shift_118 rfl rfl ?_
                      refine e_aload C 0 dX11_shift_119 rfl ?_
                      refine e_getR C [8] 2 (fg_of fg_X11_240) o13 dX11_shift_121 ?_
                      refine e_iload C 6 dX11_shift_124 rfl ?_
                      refine e_iload C 7 dX11_shift_126 rfl ?_
                      obtain ⟨b21, p22, h32⟩ := h32
                      try rw [p22]
                      obtain ⟨b23, p24, h32⟩ := h32
                      try rw [p24]
                      obtain ⟨o25, h32⟩ := h32
                      refine e_acpL C wd_974 wd_769 wd_768 wd_20 o25 ⟨Nat.le_of_ble_eq_true rfl, Nat.le_of_ble_eq_true rfl⟩ (by first | exact Nat.le_of_ble_eq_true rfl | (simp only [List.map_cons, List.map_nil, va_cat, List.sum_cons, List.sum_nil]; exact Nat.le_of_ble_eq_true rfl)) dX11_shift_128 ?_
                      refine nmE (fun M26 e27 => ?_)
                      replace h32 := h32 M26 e27
                      have o28 : isO M26 b8 [8] := by rw [e27]; exact o11
                      have o29 : isO M26 b10 [8] := by rw [e27]; exact o13
                      have p30 : mP M26 b10 2 = some b21 := by rw [e27]; exact p22
                      have p31 : mP M26 b8 2 = some b23 := by rw [e27]; exact p24
                      refine e_iload C 7 dX11_shift_131 rfl ?_
                      exact e_iret C hr hlk (Nat.le_refl _) (Nat.le_refl _) dX11_shift_133 ⟨_, rfl, h32⟩
                    · replace h32 := ite_f h32 q20
                      refine e_bipush (v := -13) C dX11_shift_110 (by decide) ?_
                      exact e_iret C hr hlk (Nat.le_refl _) (Nat.le_refl _) dX11_shift_112 ⟨_, rfl, h32⟩
          · replace h32 := ite_f h32 q15
            refine e_bipush (v := -12) C dX11_shift_60 (by decide) ?_
            exact e_iret C hr hlk (Nat.le_refl _) (Nat.le_refl _) dX11_shift_62 ⟨_, rfl, h32⟩
        · replace h32 := ite_t h32 q14
          refine e_bipush (v := -11) C dX11_shift_44 (by decide) ?_
          exact e_iret C hr hlk (Nat.le_refl _) (Nat.le_refl _) dX11_shift_46 ⟨_, rfl, h32⟩
    · replace h32 := h32.1 q9
      subst q9
      refine e_iconst (v := -1) C dX11_shift_24 (by decide) ?_
      exact e_iret C hr hlk (Nat.le_refl _) (Nat.le_refl _) dX11_shift_25 ⟨_, rfl, h32⟩
theorem m_X11_shift  {a0 : Nat} {x1 : Int32} {x2 : Int32} {x3 : Int32} {x4 : Int32} {x5 : Int32} {M : Mem} {Q : Int32 → Mem → Prop} (h : f_X11_shift a0 x1 x2 x3 x4 x5 M Q) : Con yX11_shift cX11_shift 8 (some .int) 2 0 0 [.ref a0, .int x1, .int x2, .int x3, .int x4, .int x5] M (rI Q) :=
  con_of2 (al := [(0, .ref a0), (1, .int x1), (2, .int x2), (3, .int x3), (4, .int x4), (5, .int x5)]) (by decide) (by exact Nat.le_of_ble_eq_true rfl) (by rfl) (fun p l e s m args below meth c g C hr hlk _ => w_X11_shift C hr hlk h)
