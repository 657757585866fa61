/-! ===== generated: the machine keeps f_ ===== -/
set_option maxHeartbeats 4000000 in
set_option maxRecDepth 100000 in
theorem w_X0_init {p : Program} {l : Launch} {e : Env} {s : State} {m : MethodId} {args : Array Value} {below : List Frame} {meth : Method} {c : Code} {g : Geo} (C : Cx p s m args c cX0_init RX0 1 g) (hr : meth.sig.returnType = none) (hlk : meth.locks = false) (hnm : meth.name = "<init>") {a0 : Nat} {M : Mem} {Q : Mem → Prop} (h : f_X0_init a0 M Q) : E p l e (rmO 2 3 30) s m args below meth c g 1 (MQ below (QcM g (rV Q)) args s 3 30 (gA g)) 0 0 0 [(0, .ref a0)] [] M := by
  unfold f_X0_init at h
  refine e_aload_n C 0 dX0_init_0 rfl rfl ?_
  refine e_obj C wd_115 wd_27 wd_28 ⟨Nat.le_of_ble_eq_true rfl, Nat.le_of_ble_eq_true rfl⟩ (by first | exact Nat.le_of_ble_eq_true rfl | (simp only [List.map_cons, List.map_nil, va_cat, List.sum_cons, List.sum_nil]; exact Nat.le_of_ble_eq_true rfl)) dX0_init_1 ?_
  refine e_aload_n C 0 dX0_init_4 rfl rfl ?_
  refine e_iconst (v := -1) C dX0_init_5 (by decide) ?_
  obtain ⟨o1, h⟩ := h
  refine e_putI C [0] 0 false (fun z => by cases z) fp_X0_9 o1 dX0_init_6 ?_
  refine nmE (fun M2 e3 => ?_)
  replace h := h M2 e3
  have o4 : isO M2 a0 [0] := by rw [e3]; exact o1
  refine e_aload_n C 0 dX0_init_9 rfl rfl ?_
  refine e_bipush (v := 6) C dX0_init_10 (by decide) ?_
  refine e_newa C 0 (N := 6) (by decide) (by decide) (by decide) rfl wd_76 (Nat.le_of_ble_eq_true rfl) (Nat.le_of_ble_eq_true rfl) dX0_init_12 ?_
  refine nmE (fun M5 e6 => ?_)
  replace h := h M5 e6
  obtain ⟨o7, h⟩ := h
  refine e_putR (x := (some (mN M2))) C [0] 1 true (fun _ => hnm) fp_X0_15 o7 dX0_init_14 ?_
  refine nmE (fun M8 e9 => ?_)
  replace h := h M8 e9
  have o10 : isO M8 a0 [0] := by rw [e9]; exact o7
  refine e_aload_n C 0 dX0_init_17 rfl rfl ?_
  refine e_bipush (v := 12) C dX0_init_18 (by decide) ?_
  refine e_newa C 0 (N := 12) (by decide) (by decide) (by decide) rfl wd_76 (Nat.le_of_ble_eq_true rfl) (Nat.le_of_ble_eq_true rfl) dX0_init_20 ?_
  refine nmE (fun M11 e12 => ?_)
  replace h := h M11 e12
  obtain ⟨o13, h⟩ := h
  refine e_putR (x := (some (mN M8))) C [0] 2 true (fun _ => hnm) fp_X0_19 o13 dX0_init_22 ?_
  refine nmE (fun M14 e15 => ?_)
  replace h := h M14 e15
  have o16 : isO M14 a0 [0] := by rw [e15]; exact o13
  refine e_aload_n C 0 dX0_init_25 rfl rfl ?_
  refine e_bipush (v := 12) C dX0_init_26 (by decide) ?_
  refine e_newa C 0 (N := 12) (by decide) (by decide) (by decide) rfl wd_76 (Nat.le_of_ble_eq_true rfl) (Nat.le_of_ble_eq_true rfl) dX0_init_28 ?_
  refine nmE (fun M17 e18 => ?_)
  replace h := h M17 e18
  obtain ⟨o19, h⟩ := h
  refine e_putR (x := (some (mN M14))) C [0] 3 true (fun _ => hnm) fp_X0_22 o19 dX0_init_30 ?_
  refine nmE (fun M20 e21 => ?_)
  replace h := h M20 e21
  have o22 : isO M20 a0 [0] := by rw [e21]; exact o19
  exact e_vret C hr hlk (Nat.le_of_ble_eq_true rfl) (Nat.le_of_ble_eq_true rfl) dX0_init_33 ⟨rfl, h⟩
theorem m_X0_init  {a0 : Nat} {M : Mem} {Q : Mem → Prop} (h : f_X0_init a0 M Q) : Con yX0_init cX0_init 1 none 2 3 30 [.ref a0] M (rV Q) :=
  con_of2 (al := [(0, .ref a0)]) (by decide) (by exact Nat.le_of_ble_eq_true rfl) (by rfl) (fun p l e s m args below meth c g C hr hlk hnm => w_X0_init C hr hlk hnm h)
set_option maxHeartbeats 4000000 in
set_option maxRecDepth 100000 in
theorem w_X0_tell {p : Program} {l : Launch} {e : Env} {s : State} {m : MethodId} {args : Array Value} {below : List Frame} {meth : Method} {c : Code} {g : Geo} (C : Cx p s m args c cX0_tell RX0 3 g) (hr : meth.sig.returnType = none) (hlk : meth.locks = false) {a0 : Nat} {x1 : Int32} {x2 : Int32} {M : Mem} {Q : Mem → Prop} (h : f_X0_tell a0 x1 x2 M Q) : E p l e (rmO 1 0 0) s m args below meth c g 3 (MQ below (QcM g (rV Q)) args s 0 0 (gA g)) 0 0 0 [(0, .ref a0), (1, .int x1), (2, .int x2)] [] M := by
  unfold f_X0_tell at h
  refine e_aload_n C 0 dX0_tell_0 rfl rfl ?_
  obtain ⟨o1, h⟩ := h
  refine e_getI C [0] 4 (fg_of fg_X0_25) o1 dX0_tell_1 ?_
  refine e_bipush (v := 12) C dX0_tell_4 (by decide) ?_
  refine e_icmp_ge (tgt := 39) C dX0_tell_6 (by decide) (fun q2 => ?_) (fun q2 => ?_)
  · replace h := ite_t h q2
    exact e_vret C hr hlk (Nat.le_refl _) (Nat.le_refl _) dX0_tell_39 ⟨rfl, h⟩
  · replace h := ite_f h q2
    refine e_aload_n C 0 dX0_tell_9 rfl rfl ?_
    refine e_getR C [0] 2 (fg_of fg_X0_19) o1 dX0_tell_10 ?_
    refine e_aload_n C 0 dX0_tell_13 rfl rfl ?_
    refine e_getI C [0] 4 (fg_of fg_X0_25) o1 dX0_tell_14 ?_
    refine e_iload_n C 1 dX0_tell_17 rfl rfl ?_
    obtain ⟨b3, p4, h⟩ := h
    try rw [p4]
    obtain ⟨o5, h⟩ := h
    refine e_iast C o5 dX0_tell_18 ?_
    refine nmE (fun M6 e7 => ?_)
    replace h := h M6 e7
    have o8 : isO M6 a0 [0] := by rw [e7]; exact o1
    have p9 : mP M6 a0 2 = some b3 := by rw [e7]; exact p4
    refine e_aload_n C 0 dX0_tell_19 rfl rfl ?_
    refine e_getR C [0] 3 (fg_of fg_X0_22) o8 dX0_tell_20 ?_
    refine e_aload_n C 0 dX0_tell_23 rfl rfl ?_
    refine e_getI C [0] 4 (fg_of fg_X0_25) o8 dX0_tell_24 ?_
    refine e_iload_n C 2 dX0_tell_27 rfl rfl ?_
    obtain ⟨b10, p11, h⟩ := h
    try rw [p11]
    obtain ⟨o12, h⟩ := h
    refine e_iast C o12 dX0_tell_28 ?_
    refine nmE (fun M13 e14 => ?_)
    replace h := h M13 e14
    have o15 : isO M13 a0 [0] := by rw [e14]; exact o8
    have p16 : mP M13 a0 2 = some b3 := by rw [e14]; exact p9
    have p17 : mP M13 a0 3 = some b10 := by rw [e14]; exact p11
    refine e_aload_n C 0 dX0_tell_29 rfl rfl ?_
    refine e_dup C rfl dX0_tell_30 ?_
    refine e_getI C [0] 4 (fg_of fg_X0_25) o15 dX0_tell_31 ?_
    refine e_iconst (v := 1) C dX0_tell_34 (by decide) ?_
    refine e_iadd C dX0_tell_35 ?_
    refine e_putI C [0] 4 false (fun z => by cases z) fp_X0_25 o15 dX0_tell_36 ?_
    refine nmE (fun M18 e19 => ?_)
    replace h := h M18 e19
    have o20 : isO M18 a0 [0] := by rw [e19]; exact o15
    have p21 : mP M18 a0 2 = some b3 := by rw [e19]; exact p16
    have p22 : mP M18 a0 3 = some b10 := by rw [e19]; exact p17
    exact e_vret C hr hlk (Nat.le_refl _) (Nat.le_refl _) dX0_tell_39 ⟨rfl, h⟩
theorem m_X0_tell  {a0 : Nat} {x1 : Int32} {x2 : Int32} {M : Mem} {Q : Mem → Prop} (h : f_X0_tell a0 x1 x2 M Q) : Con yX0_tell cX0_tell 3 none 1 0 0 [.ref a0, .int x1, .int x2] M (rV Q) :=
  con_of2 (al := [(0, .ref a0), (1, .int x1), (2, .int x2)]) (by decide) (by exact Nat.le_of_ble_eq_true rfl) (by rfl) (fun p l e s m args below meth c g C hr hlk _ => w_X0_tell C hr hlk h)
set_option maxHeartbeats 4000000 in
set_option maxRecDepth 100000 in
theorem w_X0_become {p : Program} {l : Launch} {e : Env} {s : State} {m : MethodId} {args : Array Value} {below : List Frame} {meth : Method} {c : Code} {g : Geo} (C : Cx p s m args c cX0_become RX0 3 g) (hr : meth.sig.returnType = none) (hlk : meth.locks = false) {a0 : Nat} {r1 : Option Nat} {x2 : Int32} {M : Mem} {Q : Mem → Prop} (h : f_X0_become a0 r1 x2 M Q) : E p l e (rmO 2 0 0) s m args below meth c g 3 (MQ below (QcM g (rV Q)) args s 0 0 (gA g)) 0 0 0 [(0, .ref a0), (1, va_rf r1), (2, .int x2)] [] M := by
  unfold f_X0_become at h
  refine e_aload_n C 0 dX0_become_0 rfl rfl ?_
  refine e_rload_n C 1 dX0_become_1 rfl rfl ?_
  obtain ⟨b1, rfl, h⟩ := h
  obtain ⟨o3, h⟩ := h
  refine e_getI C [0] 0 (fg_of fg_X0_9) o3 dX0_become_2 ?_
  obtain ⟨o4, h⟩ := h
  refine e_putI C [0] 0 false (fun z => by cases z) fp_X0_9 o4 dX0_become_5 ?_
  refine nmE (fun M5 e6 => ?_)
  replace h := h M5 e6
  have o7 : isO M5 b1 [0] := by rw [e6]; exact o3
  have o8 : isO M5 a0 [0] := by rw [e6]; exact o4
  refine e_aload_n C 0 dX0_become_8 rfl rfl ?_
  refine e_aload_n C 1 dX0_become_9 rfl rfl ?_
  refine e_getI C [0] 4 (fg_of fg_X0_25) o7 dX0_become_10 ?_
  refine e_putI C [0] 4 false (fun z => by cases z) fp_X0_25 o8 dX0_become_13 ?_
  refine nmE (fun M9 e10 => ?_)
  replace h := h M9 e10
  have o11 : isO M9 b1 [0] := by rw [e10]; exact o7
  have o12 : isO M9 a0 [0] := by rw [e10]; exact o8
  refine e_aload_n C 1 dX0_become_16 rfl rfl ?_
  refine e_getR C [0] 1 (fg_of fg_X0_15) o11 dX0_become_17 ?_
  refine e_iconst (v := 0) C dX0_become_20 (by decide) ?_
  refine e_aload_n C 0 dX0_become_21 rfl rfl ?_
  refine e_getR C [0] 1 (fg_of fg_X0_15) o12 dX0_become_22 ?_
  refine e_iconst (v := 0) C dX0_become_25 (by decide) ?_
  refine e_iload_n C 2 dX0_become_26 rfl rfl ?_
  obtain ⟨b13, p14, h⟩ := h
  try rw [p14]
  obtain ⟨b15, p16, h⟩ := h
  try rw [p16]
  obtain ⟨o17, h⟩ := h
  refine e_acpI C wd_767 wd_769 wd_768 wd_20 o17 ⟨Nat.le_of_ble_eq_true rfl, Nat.le_of_ble_eq_true rfl⟩ (by first | exact Nat.le_of_ble_eq_true rfl | (simp only [List.map_cons, List.map_nil, va_cat, List.sum_cons, List.sum_nil]; exact Nat.le_of_ble_eq_true rfl)) dX0_become_27 ?_
  refine nmE (fun M18 e19 => ?_)
  replace h := h M18 e19
  have o20 : isO M18 b1 [0] := by rw [e19]; exact o11
  have o21 : isO M18 a0 [0] := by rw [e19]; exact o12
  have p22 : mP M18 a0 1 = some b13 := by rw [e19]; exact p14
  have p23 : mP M18 b1 1 = some b15 := by rw [e19]; exact p16
  refine e_aload_n C 1 dX0_become_30 rfl rfl ?_
  refine e_getR C [0] 2 (fg_of fg_X0_19) o20 dX0_become_31 ?_
  refine e_iconst (v := 0) C dX0_become_34 (by decide) ?_
  refine e_aload_n C 0 dX0_become_35 rfl rfl ?_
  refine e_getR C [0] 2 (fg_of fg_X0_19) o21 dX0_become_36 ?_
  refine e_iconst (v := 0) C dX0_become_39 (by decide) ?_
  refine e_aload_n C 0 dX0_become_40 rfl rfl ?_
  refine e_getI C [0] 4 (fg_of fg_X0_25) o21 dX0_become_41 ?_
  obtain ⟨b24, p25, h⟩ := h
  try rw [p25]
  obtain ⟨b26, p27, h⟩ := h
  try rw [p27]
  obtain ⟨o28, h⟩ := h
  refine e_acpI C wd_767 wd_769 wd_768 wd_20 o28 ⟨Nat.le_of_ble_eq_true rfl, Nat.le_of_ble_eq_true rfl⟩ (by first | exact Nat.le_of_ble_eq_true rfl | (simp only [List.map_cons, List.map_nil, va_cat, List.sum_cons, List.sum_nil]; exact Nat.le_of_ble_eq_true rfl)) dX0_become_44 ?_
  refine nmE (fun M29 e30 => ?_)
  replace h := h M29 e30
  have o31 : isO M29 b1 [0] := by rw [e30]; exact o20
  have o32 : isO M29 a0 [0] := by rw [e30]; exact o21
  have p33 : mP M29 a0 1 = some b13 := by rw [e30]; exact p22
  have p34 : mP M29 b1 1 = some b15 := by rw [e30]; exact p23
  have p35 : mP M29 a0 2 = some b24 := by rw [e30]; exact p25
  have p36 : mP M29 b1 2 = some b26 := by rw [e30]; exact p27
  refine e_aload_n C 1 dX0_become_47 rfl rfl ?_
  refine e_getR C [0] 3 (fg_of fg_X0_22) o31 dX0_become_48 ?_
  refine e_iconst (v := 0) C dX0_become_51 (by decide) ?_
  refine e_aload_n C 0 dX0_become_52 rfl rfl ?_
  refine e_getR C [0] 3 (fg_of fg_X0_22) o32 dX0_become_53 ?_
  refine e_iconst (v := 0) C dX0_become_56 (by decide) ?_
  refine e_aload_n C 0 dX0_become_57 rfl rfl ?_
  refine e_getI C [0] 4 (fg_of fg_X0_25) o32 dX0_become_58 ?_
  obtain ⟨b37, p38, h⟩ := h
  try rw [p38]
  obtain ⟨b39, p40, h⟩ := h
  try rw [p40]
  obtain ⟨o41, h⟩ := h
  refine e_acpI C wd_767 wd_769 wd_768 wd_20 o41 ⟨Nat.le_of_ble_eq_true rfl, Nat.le_of_ble_eq_true rfl⟩ (by first | exact Nat.le_of_ble_eq_true rfl | (simp only [List.map_cons, List.map_nil, va_cat, List.sum_cons, List.sum_nil]; exact Nat.le_of_ble_eq_true rfl)) dX0_become_61 ?_
  refine nmE (fun M42 e43 => ?_)
  replace h := h M42 e43
  have o44 : isO M42 b1 [0] := by rw [e43]; exact o31
  have o45 : isO M42 a0 [0] := by rw [e43]; exact o32
  have p46 : mP M42 a0 1 = some b13 := by rw [e43]; exact p33
  have p47 : mP M42 b1 1 = some b15 := by rw [e43]; exact p34
  have p48 : mP M42 a0 2 = some b24 := by rw [e43]; exact p35
  have p49 : mP M42 b1 2 = some b26 := by rw [e43]; exact p36
  have p50 : mP M42 a0 3 = some b37 := by rw [e43]; exact p38
  have p51 : mP M42 b1 3 = some b39 := by rw [e43]; exact p40
  exact e_vret C hr hlk (Nat.le_refl _) (Nat.le_refl _) dX0_become_64 ⟨rfl, h⟩
theorem m_X0_become  {a0 : Nat} {r1 : Option Nat} {x2 : Int32} {M : Mem} {Q : Mem → Prop} (h : f_X0_become a0 r1 x2 M Q) : Con yX0_become cX0_become 3 none 2 0 0 [.ref a0, va_rf r1, .int x2] M (rV Q) :=
  con_of2 (al := [(0, .ref a0), (1, va_rf r1), (2, .int x2)]) (by decide) (by cases r1 <;> exact Nat.le_of_ble_eq_true rfl) (by cases r1 <;> rfl) (fun p l e s m args below meth c g C hr hlk _ => w_X0_become C hr hlk h)
set_option maxHeartbeats 4000000 in
set_option maxRecDepth 100000 in
theorem w_X5_init {p : Program} {l : Launch} {e : Env} {s : State} {m : MethodId} {args : Array Value} {below : List Frame} {meth : Method} {c : Code} {g : Geo} (C : Cx p s m args c cX5_init RX5 3 g) (hr : meth.sig.returnType = none) (hlk : meth.locks = false) (hnm : meth.name = "<init>") {a0 : Nat} {x1 : Int32} {x2 : Int32} {M : Mem} {Q : Mem → Prop} (h : f_X5_init a0 x1 x2 M Q) : E p l e (rmO 2 1 20) s m args below meth c g 3 (MQ below (QcM g (rV Q)) args s 1 20 (gA g)) 0 0 0 [(0, .ref a0), (1, .int x1), (2, .int x2)] [] M := by
  unfold f_X5_init at h
  refine e_aload_n C 0 dX5_init_0 rfl rfl ?_
  refine e_obj C wd_84 wd_27 wd_28 ⟨Nat.le_of_ble_eq_true rfl, Nat.le_of_ble_eq_true rfl⟩ (by first | exact Nat.le_of_ble_eq_true rfl | (simp only [List.map_cons, List.map_nil, va_cat, List.sum_cons, List.sum_nil]; exact Nat.le_of_ble_eq_true rfl)) dX5_init_1 ?_
  refine e_aload_n C 0 dX5_init_4 rfl rfl ?_
  refine e_bipush (v := 20) C dX5_init_5 (by decide) ?_
  refine e_newa C 0 (N := 20) (by decide) (by decide) (by decide) rfl wd_76 (Nat.le_of_ble_eq_true rfl) (Nat.le_of_ble_eq_true rfl) dX5_init_7 ?_
  refine nmE (fun M1 e2 => ?_)
  replace h := h M1 e2
  obtain ⟨o3, h⟩ := h
  refine e_putR (x := (some (mN M))) C [5, 1, 2, 4, 6, 7, 9] 3 true (fun _ => hnm) fp_X5_9 o3 dX5_init_9 ?_
  refine nmE (fun M4 e5 => ?_)
  replace h := h M4 e5
  have o6 : isO M4 a0 [5, 1, 2, 4, 6, 7, 9] := by rw [e5]; exact o3
  refine e_aload_n C 0 dX5_init_12 rfl rfl ?_
  refine e_iload_n C 1 dX5_init_13 rfl rfl ?_
  refine e_putI C [5, 1, 2, 4, 6, 7, 9] 0 true (fun _ => hnm) fp_X5_13 o6 dX5_init_14 ?_
  refine nmE (fun M7 e8 => ?_)
  replace h := h M7 e8
  have o9 : isO M7 a0 [5, 1, 2, 4, 6, 7, 9] := by rw [e8]; exact o6
  refine e_aload_n C 0 dX5_init_17 rfl rfl ?_
  refine e_iload_n C 2 dX5_init_18 rfl rfl ?_
  refine e_putI C [5, 1, 2, 4, 6, 7, 9] 1 true (fun _ => hnm) fp_X5_17 o9 dX5_init_19 ?_
  refine nmE (fun M10 e11 => ?_)
  replace h := h M10 e11
  have o12 : isO M10 a0 [5, 1, 2, 4, 6, 7, 9] := by rw [e11]; exact o9
  exact e_vret C hr hlk (Nat.le_of_ble_eq_true rfl) (Nat.le_of_ble_eq_true rfl) dX5_init_22 ⟨rfl, h⟩
theorem m_X5_init  {a0 : Nat} {x1 : Int32} {x2 : Int32} {M : Mem} {Q : Mem → Prop} (h : f_X5_init a0 x1 x2 M Q) : Con yX5_init cX5_init 3 none 2 1 20 [.ref a0, .int x1, .int x2] M (rV Q) :=
  con_of2 (al := [(0, .ref a0), (1, .int x1), (2, .int x2)]) (by decide) (by exact Nat.le_of_ble_eq_true rfl) (by rfl) (fun p l e s m args below meth c g C hr hlk hnm => w_X5_init C hr hlk hnm h)
set_option maxHeartbeats 4000000 in
set_option maxRecDepth 100000 in
theorem w_X1_init {p : Program} {l : Launch} {e : Env} {s : State} {m : MethodId} {args : Array Value} {below : List Frame} {meth : Method} {c : Code} {g : Geo} (C : Cx p s m args c cX1_init RX1 3 g) (hr : meth.sig.returnType = none) (hlk : meth.locks = false) (hnm : meth.name = "<init>") {a0 : Nat} {x1 : Int32} {x2 : Int32} {M : Mem} {Q : Mem → Prop} (h : f_X1_init a0 x1 x2 M Q) : E p l e (rmO 3 1 20) s m args below meth c g 3 (MQ below (QcM g (rV Q)) args s 1 20 (gA g)) 0 0 0 [(0, .ref a0), (1, .int x1), (2, .int x2)] [] M := by
  unfold f_X1_init at h
  refine e_aload_n C 0 dX1_init_0 rfl rfl ?_
  refine e_iload_n C 1 dX1_init_1 rfl rfl ?_
  refine e_iload_n C 2 dX1_init_2 rfl rfl ?_
  refine e_callI (as := [.int x1, .int x2]) C wb_X5_init rfl wi_X1_1 (m_X5_init h) rfl ⟨Nat.le_of_ble_eq_true rfl, Nat.le_of_ble_eq_true rfl⟩ ⟨Nat.le_of_ble_eq_true rfl, Nat.le_of_ble_eq_true rfl⟩ (by first | exact Nat.le_of_ble_eq_true rfl | (simp only [List.map_cons, List.map_nil, va_cat, List.sum_cons, List.sum_nil]; exact Nat.le_of_ble_eq_true rfl)) dX1_init_3 (kV (fun M2 h3 => ?_))
  exact e_vret C hr hlk (Nat.le_of_ble_eq_true rfl) (Nat.le_of_ble_eq_true rfl) dX1_init_6 ⟨rfl, h3⟩
theorem m_X1_init  {a0 : Nat} {x1 : Int32} {x2 : Int32} {M : Mem} {Q : Mem → Prop} (h : f_X1_init a0 x1 x2 M Q) : Con yX1_init cX1_init 3 none 3 1 20 [.ref a0, .int x1, .int x2] M (rV Q) :=
  con_of2 (al := [(0, .ref a0), (1, .int x1), (2, .int x2)]) (by decide) (by exact Nat.le_of_ble_eq_true rfl) (by rfl) (fun p l e s m args below meth c g C hr hlk hnm => w_X1_init C hr hlk hnm h)
set_option maxHeartbeats 4000000 in
set_option maxRecDepth 100000 in
theorem w_X1_kind {p : Program} {l : Launch} {e : Env} {s : State} {m : MethodId} {args : Array Value} {below : List Frame} {meth : Method} {c : Code} {g : Geo} (C : Cx p s m args c cX1_kind RX1 1 g) (hr : meth.sig.returnType = (some .int)) (hlk : meth.locks = false) {a0 : Nat} {M : Mem} {Q : Int32 → Mem → Prop} (h : f_X1_kind a0 M Q) : E p l e (rmO 1 0 0) s m args below meth c g 1 (MQ below (QcM g (rI Q)) args s 0 0 (gA g)) 0 0 0 [(0, .ref a0)] [] M := by
  unfold f_X1_kind at h
  refine e_iconst (v := 1) C dX1_kind_0 (by decide) ?_
  exact e_iret C hr hlk (Nat.le_refl _) (Nat.le_refl _) dX1_kind_1 ⟨_, rfl, h⟩
theorem m_X1_kind  {a0 : Nat} {M : Mem} {Q : Int32 → Mem → Prop} (h : f_X1_kind a0 M Q) : Con yX1_kind cX1_kind 1 (some .int) 1 0 0 [.ref a0] M (rI Q) :=
  con_of2 (al := [(0, .ref a0)]) (by decide) (by exact Nat.le_of_ble_eq_true rfl) (by rfl) (fun p l e s m args below meth c g C hr hlk _ => w_X1_kind C hr hlk h)
set_option maxHeartbeats 4000000 in
set_option maxRecDepth 100000 in
theorem w_X1_aheadOfPaying {p : Program} {l : Launch} {e : Env} {s : State} {m : MethodId} {args : Array Value} {below : List Frame} {meth : Method} {c : Code} {g : Geo} (C : Cx p s m args c cX1_aheadOfPaying RX1 3 g) (hr : meth.sig.returnType = (some .int)) (hlk : meth.locks = false) {a0 : Nat} {x1 : Int32} {x2 : Int32} {M : Mem} {Q : Int32 → Mem → Prop} (h : f_X1_aheadOfPaying a0 x1 x2 M Q) : E p l e (rmO 1 0 0) s m args below meth c g 3 (MQ below (QcM g (rI Q)) args s 0 0 (gA g)) 0 0 0 [(0, .ref a0), (1, .int x1), (2, .int x2)] [] M := by
  unfold f_X1_aheadOfPaying at h
  refine e_iload_n C 1 dX1_aheadOfPaying_0 rfl rfl ?_
  exact e_iret C hr hlk (Nat.le_refl _) (Nat.le_refl _) dX1_aheadOfPaying_1 ⟨_, rfl, h⟩
theorem m_X1_aheadOfPaying  {a0 : Nat} {x1 : Int32} {x2 : Int32} {M : Mem} {Q : Int32 → Mem → Prop} (h : f_X1_aheadOfPaying a0 x1 x2 M Q) : Con yX1_aheadOfPaying cX1_aheadOfPaying 3 (some .int) 1 0 0 [.ref a0, .int x1, .int x2] M (rI Q) :=
  con_of2 (al := [(0, .ref a0), (1, .int x1), (2, .int x2)]) (by decide) (by exact Nat.le_of_ble_eq_true rfl) (by rfl) (fun p l e s m args below meth c g C hr hlk _ => w_X1_aheadOfPaying C hr hlk h)
set_option maxHeartbeats 4000000 in
set_option maxRecDepth 100000 in
theorem w_X1_next {p : Program} {l : Launch} {e : Env} {s : State} {m : MethodId} {args : Array Value} {below : List Frame} {meth : Method} {c : Code} {g : Geo} (C : Cx p s m args c cX1_next RX1 4 g) (hr : meth.sig.returnType = (some .int)) (hlk : meth.locks = false) {a0 : Nat} {x1 : Int32} {x2 : Int32} {x3 : Int32} {M : Mem} {Q : Int32 → Mem → Prop} (h : f_X1_next a0 x1 x2 x3 M Q) : E p l e (rmO 1 0 0) s m args below meth c g 4 (MQ below (QcM g (rI Q)) args s 0 0 (gA g)) 0 0 0 [(0, .ref a0), (1, .int x1), (2, .int x2), (3, .int x3)] [] M := by
  unfold f_X1_next at h
  refine e_iload_n C 1 dX1_next_0 rfl rfl ?_
  refine e_if_lt (tgt := 8) C dX1_next_1 (by decide) (fun q1 => ?_) (fun q1 => ?_)
  · replace h := ite_t h q1
    refine e_iload_n C 2 dX1_next_8 rfl rfl ?_
    exact e_iret C hr hlk (Nat.le_refl _) (Nat.le_refl _) dX1_next_9 ⟨_, rfl, h⟩
  · replace h := ite_f h q1
    refine e_iload_n C 1 dX1_next_4 rfl rfl ?_
    refine e_goto (tgt := 9) C dX1_next_5 (by decide) ?_
    exact e_iret C hr hlk (Nat.le_refl _) (Nat.le_refl _) dX1_next_9 ⟨_, rfl, h⟩
theorem m_X1_next  {a0 : Nat} {x1 : Int32} {x2 : Int32} {x3 : Int32} {M : Mem} {Q : Int32 → Mem → Prop} (h : f_X1_next a0 x1 x2 x3 M Q) : Con yX1_next cX1_next 4 (some .int) 1 0 0 [.ref a0, .int x1, .int x2, .int x3] M (rI Q) :=
  con_of2 (al := [(0, .ref a0), (1, .int x1), (2, .int x2), (3, .int x3)]) (by decide) (by exact Nat.le_of_ble_eq_true rfl) (by rfl) (fun p l e s m args below meth c g C hr hlk _ => w_X1_next C hr hlk h)
set_option maxHeartbeats 4000000 in
set_option maxRecDepth 100000 in
theorem w_X5_began_J26 {p : Program} {l : Launch} {e : Env} {s : State} {m : MethodId} {args : Array Value} {below : List Frame} {meth : Method} {c : Code} {g : Geo} (C : Cx p s m args c cX5_began RX5 2 g) (hr : meth.sig.returnType = none) (hlk : meth.locks = false) {a0 : Nat} {x1 : Int32} {M : Mem} {Q : Mem → Prop} (h : f_X5_began_J26 a0 x1 M Q) : E p l e (rmO 1 0 0) s m args below meth c g 2 (MQ below (QcM g (rV Q)) args s 0 0 (gA g)) 0 0 26 [(0, .ref a0), (1, .int x1)] [] M := by
  unfold f_X5_began_J26 at h
  refine e_aload_n C 0 dX5_began_26 rfl rfl ?_
  refine e_dup C rfl dX5_began_27 ?_
  obtain ⟨o1, h⟩ := h
  refine e_getI C [5, 1, 2, 4, 6, 7, 9] 2 (fg_of fg_X5_29) o1 dX5_began_28 ?_
  refine e_iconst (v := 1) C dX5_began_31 (by decide) ?_
  refine e_iadd C dX5_began_32 ?_
  refine e_putI C [5, 1, 2, 4, 6, 7, 9] 2 false (fun z => by cases z) fp_X5_29 o1 dX5_began_33 ?_
  refine nmE (fun M2 e3 => ?_)
  replace h := h M2 e3
  have o4 : isO M2 a0 [5, 1, 2, 4, 6, 7, 9] := by rw [e3]; exact o1
  exact e_vret C hr hlk (Nat.le_refl _) (Nat.le_refl _) dX5_began_36 ⟨rfl, h⟩
set_option maxHeartbeats 4000000 in
set_option maxRecDepth 100000 in
theorem w_X5_began {p : Program} {l : Launch} {e : Env} {s : State} {m : MethodId} {args : Array Value} {below : List Frame} {meth : Method} {c : Code} {g : Geo} (C : Cx p s m args c cX5_began RX5 2 g) (hr : meth.sig.returnType = none) (hlk : meth.locks = false) {a0 : Nat} {x1 : Int32} {M : Mem} {Q : Mem → Prop} (h : f_X5_began a0 x1 M Q) : E p l e (rmO 1 0 0) s m args below meth c g 2 (MQ below (QcM g (rV Q)) args s 0 0 (gA g)) 0 0 0 [(0, .ref a0), (1, .int x1)] [] M := by
  unfold f_X5_began at h
  refine e_aload_n C 0 dX5_began_0 rfl rfl ?_
  obtain ⟨o1, h⟩ := h
  refine e_getI C [5, 1, 2, 4, 6, 7, 9] 2 (fg_of fg_X5_29) o1 dX5_began_1 ?_
  refine e_if_lt (tgt := 26) C dX5_began_4 (by decide) (fun q2 => ?_) (fun q2 => ?_)
  · replace h := ite_t h q2
    exact w_X5_began_J26 C hr hlk h
  · replace h := ite_f h q2
    refine e_aload_n C 0 dX5_began_7 rfl rfl ?_
    refine e_getI C [5, 1, 2, 4, 6, 7, 9] 2 (fg_of fg_X5_29) o1 dX5_began_8 ?_
    refine e_bipush (v := 20) C dX5_began_11 (by decide) ?_
    refine e_icmp_ge (tgt := 26) C dX5_began_13 (by decide) (fun q3 => ?_) (fun q3 => ?_)
    · replace h := ite_t h q3
      exact w_X5_began_J26 C hr hlk h
    · replace h := ite_f h q3
      refine e_aload_n C 0 dX5_began_16 rfl rfl ?_
      refine e_getR C [5, 1, 2, 4, 6, 7, 9] 3 (fg_of fg_X5_9) o1 dX5_began_17 ?_
      refine e_aload_n C 0 dX5_began_20 rfl rfl ?_
      refine e_getI C [5, 1, 2, 4, 6, 7, 9] 2 (fg_of fg_X5_29) o1 dX5_began_21 ?_
      refine e_iload_n C 1 dX5_began_24 rfl rfl ?_
      obtain ⟨b4, p5, h⟩ := h
      try rw [p5]
      obtain ⟨o6, h⟩ := h
      refine e_iast C o6 dX5_began_25 ?_
      refine nmE (fun M7 e8 => ?_)
      replace h := h M7 e8
      have o9 : isO M7 a0 [5, 1, 2, 4, 6, 7, 9] := by rw [e8]; exact o1
      have p10 : mP M7 a0 3 = some b4 := by rw [e8]; exact p5
      exact w_X5_began_J26 C hr hlk h
theorem m_X5_began  {a0 : Nat} {x1 : Int32} {M : Mem} {Q : Mem → Prop} (h : f_X5_began a0 x1 M Q) : Con yX5_began cX5_began 2 none 1 0 0 [.ref a0, .int x1] M (rV Q) :=
  con_of2 (al := [(0, .ref a0), (1, .int x1)]) (by decide) (by exact Nat.le_of_ble_eq_true rfl) (by rfl) (fun p l e s m args below meth c g C hr hlk _ => w_X5_began C hr hlk h)
set_option maxHeartbeats 4000000 in
set_option maxRecDepth 100000 in
theorem w_X5_joins {p : Program} {l : Launch} {e : Env} {s : State} {m : MethodId} {args : Array Value} {below : List Frame} {meth : Method} {c : Code} {g : Geo} (C : Cx p s m args c cX5_joins RX5 2 g) (hr : meth.sig.returnType = (some .int)) (hlk : meth.locks = false) {a0 : Nat} {x1 : Int32} {M : Mem} {Q : Int32 → Mem → Prop} (h : f_X5_joins a0 x1 M Q) : E p l e (rmO 2 0 0) s m args below meth c g 2 (MQ below (QcM g (rI Q)) args s 0 0 (gA g)) 0 0 0 [(0, .ref a0), (1, .int x1)] [] M := by
  unfold f_X5_joins at h
  refine e_aload_n C 0 dX5_joins_0 rfl rfl ?_
  refine e_bipush (v := 10) C dX5_joins_1 (by decide) ?_
  have kk : ∀ (M2 : Mem), (isO M2 a0 [5, 1, 2, 4, 6, 7, 9] ∧ Q (x1 + (mI M2 a0 0)) M2) → E p l e (rmO 2 0 0) s m args below meth c g 2 (MQ below (QcM g (rI Q)) args s 0 0 (gA g)) 0 0 6 [(0, .ref a0), (1, .int x1)] [] M2 := by
    intro M2 h4
    refine e_iload_n C 1 dX5_joins_6 rfl rfl ?_
    refine e_aload_n C 0 dX5_joins_7 rfl rfl ?_
    obtain ⟨o3, h4⟩ := h4
    refine e_getI C [5, 1, 2, 4, 6, 7, 9] 0 (fg_of fg_X5_13) o3 dX5_joins_8 ?_
    refine e_iadd C dX5_joins_11 ?_
    exact e_iret C hr hlk (Nat.le_refl _) (Nat.le_refl _) dX5_joins_12 ⟨_, rfl, h4⟩
  rcases h with ⟨h0, h⟩ | ⟨h0, h⟩ | ⟨h0, h⟩ | ⟨h0, h⟩ | ⟨h0, h⟩ | ⟨h0, h⟩ | ⟨h0, h⟩
  · exact e_callV (as := [.int (10 : Int32)]) C wb_X5_began wv_X5_32 (ci := 5) rfl rfl h0 (m_X5_began h) rfl ⟨Nat.le_of_ble_eq_true rfl, Nat.le_of_ble_eq_true rfl⟩ ⟨Nat.le_of_ble_eq_true rfl, Nat.le_of_ble_eq_true rfl⟩ (by first | exact Nat.le_of_ble_eq_true rfl | (simp only [List.map_cons, List.map_nil, va_cat, List.sum_cons, List.sum_nil]; exact Nat.le_of_ble_eq_true rfl)) dX5_joins_3 (kV kk)
  · exact e_callU (as := [.int (10 : Int32)]) C wb_X5_began wu_X5_32_1 (ci := 1) rfl h0 (m_X5_began h) rfl ⟨Nat.le_of_ble_eq_true rfl, Nat.le_of_ble_eq_true rfl⟩ ⟨Nat.le_of_ble_eq_true rfl, Nat.le_of_ble_eq_true rfl⟩ (by first | exact Nat.le_of_ble_eq_true rfl | (simp only [List.map_cons, List.map_nil, va_cat, List.sum_cons, List.sum_nil]; exact Nat.le_of_ble_eq_true rfl)) dX5_joins_3 (kV kk)
  · exact e_callU (as := [.int (10 : Int32)]) C wb_X5_began wu_X5_32_2 (ci := 2) rfl h0 (m_X5_began h) rfl ⟨Nat.le_of_ble_eq_true rfl, Nat.le_of_ble_eq_true rfl⟩ ⟨Nat.le_of_ble_eq_true rfl, Nat.le_of_ble_eq_true rfl⟩ (by first | exact Nat.le_of_ble_eq_true rfl | (simp only [List.map_cons, List.map_nil, va_cat, List.sum_cons, List.sum_nil]; exact Nat.le_of_ble_eq_true rfl)) dX5_joins_3 (kV kk)
  · exact e_callU (as := [.int (10 : Int32)]) C wb_X5_began wu_X5_32_4 (ci := 4) rfl h0 (m_X5_began h) rfl ⟨Nat.le_of_ble_eq_true rfl, Nat.le_of_ble_eq_true rfl⟩ ⟨Nat.le_of_ble_eq_true rfl, Nat.le_of_ble_eq_true rfl⟩ (by first | exact Nat.le_of_ble_eq_true rfl | (simp only [List.map_cons, List.map_nil, va_cat, List.sum_cons, List.sum_nil]; exact Nat.le_of_ble_eq_true rfl)) dX5_joins_3 (kV kk)
  · exact e_callU (as := [.int (10 : Int32)]) C wb_X5_began wu_X5_32_6 (ci := 6) rfl h0 (m_X5_began h) rfl ⟨Nat.le_of_ble_eq_true rfl, Nat.le_of_ble_eq_true rfl⟩ ⟨Nat.le_of_ble_eq_true rfl, Nat.le_of_ble_eq_true rfl⟩ (by first | exact Nat.le_of_ble_eq_true rfl | (simp only [List.map_cons, List.map_nil, va_cat, List.sum_cons, List.sum_nil]; exact Nat.le_of_ble_eq_true rfl)) dX5_joins_3 (kV kk)
  · exact e_callU (as := [.int (10 : Int32)]) C wb_X5_began wu_X5_32_7 (ci := 7) rfl h0 (m_X5_began h) rfl ⟨Nat.le_of_ble_eq_true rfl, Nat.le_of_ble_eq_true rfl⟩ ⟨Nat.le_of_ble_eq_true rfl, Nat.le_of_ble_eq_true rfl⟩ (by first | exact Nat.le_of_ble_eq_true rfl | (simp only [List.map_cons, List.map_nil, va_cat, List.sum_cons, List.sum_nil]; exact Nat.le_of_ble_eq_true rfl)) dX5_joins_3 (kV kk)
  · exact e_callU (as := [.int (10 : Int32)]) C wb_X5_began wu_X5_32_9 (ci := 9) rfl h0 (m_X5_began h) rfl ⟨Nat.le_of_ble_eq_true rfl, Nat.le_of_ble_eq_true rfl⟩ ⟨Nat.le_of_ble_eq_true rfl, Nat.le_of_ble_eq_true rfl⟩ (by first | exact Nat.le_of_ble_eq_true rfl | (simp only [List.map_cons, List.map_nil, va_cat, List.sum_cons, List.sum_nil]; exact Nat.le_of_ble_eq_true rfl)) dX5_joins_3 (kV kk)
theorem m_X5_joins  {a0 : Nat} {x1 : Int32} {M : Mem} {Q : Int32 → Mem → Prop} (h : f_X5_joins a0 x1 M Q) : Con yX5_joins cX5_joins 2 (some .int) 2 0 0 [.ref a0, .int x1] M (rI Q) :=
  con_of2 (al := [(0, .ref a0), (1, .int x1)]) (by decide) (by exact Nat.le_of_ble_eq_true rfl) (by rfl) (fun p l e s m args below meth c g C hr hlk _ => w_X5_joins C hr hlk h)
set_option maxHeartbeats 4000000 in
set_option maxRecDepth 100000 in
theorem w_X4_joins {p : Program} {l : Launch} {e : Env} {s : State} {m : MethodId} {args : Array Value} {below : List Frame} {meth : Method} {c : Code} {g : Geo} (C : Cx p s m args c cX4_joins RX4 2 g) (hr : meth.sig.returnType = (some .int)) (hlk : meth.locks = false) {a0 : Nat} {x1 : Int32} {M : Mem} {Q : Int32 → Mem → Prop} (h : f_X4_joins a0 x1 M Q) : E p l e (rmO 3 0 0) s m args below meth c g 2 (MQ below (QcM g (rI Q)) args s 0 0 (gA g)) 0 0 0 [(0, .ref a0), (1, .int x1)] [] M := by
  unfold f_X4_joins at h
  refine e_aload_n C 0 dX4_joins_0 rfl rfl ?_
  refine e_bipush (v := 50) C dX4_joins_1 (by decide) ?_
  have kk : ∀ (M2 : Mem), (isO M2 a0 [4] ∧ (f_X5_joins a0 x1 M2 (fun w3 M4 => Q (-w3) M4))) → E p l e (rmO 3 0 0) s m args below meth c g 2 (MQ below (QcM g (rI Q)) args s 0 0 (gA g)) 0 0 6 [(0, .ref a0), (1, .int x1)] [] M2 := by
    intro M2 h7
    refine e_aload_n C 0 dX4_joins_6 rfl rfl ?_
    refine e_iload_n C 1 dX4_joins_7 rfl rfl ?_
    obtain ⟨o5, h7⟩ := h7
    refine e_callSGx (as := [.int x1]) C wb_X5_joins wsg_X4_17 [4] (by decide) o5 (m_X5_joins h7) rfl ⟨Nat.le_of_ble_eq_true rfl, Nat.le_of_ble_eq_true rfl⟩ ⟨Nat.le_of_ble_eq_true rfl, Nat.le_of_ble_eq_true rfl⟩ (by first | exact Nat.le_of_ble_eq_true rfl | (simp only [List.map_cons, List.map_nil, va_cat, List.sum_cons, List.sum_nil]; exact Nat.le_of_ble_eq_true rfl)) dX4_joins_8 (kI (fun w3 M4 h6 => ?_))
    refine e_ineg C dX4_joins_11 ?_
    exact e_iret C hr hlk (Nat.le_refl _) (Nat.le_refl _) dX4_joins_12 ⟨_, rfl, h6⟩
  rcases h with ⟨h0, h⟩
  · exact e_callU (as := [.int (50 : Int32)]) C wb_X5_began wu_X4_13_4 (ci := 4) rfl h0 (m_X5_began h) rfl ⟨Nat.le_of_ble_eq_true rfl, Nat.le_of_ble_eq_true rfl⟩ ⟨Nat.le_of_ble_eq_true rfl, Nat.le_of_ble_eq_true rfl⟩ (by first | exact Nat.le_of_ble_eq_true rfl | (simp only [List.map_cons, List.map_nil, va_cat, List.sum_cons, List.sum_nil]; exact Nat.le_of_ble_eq_true rfl)) dX4_joins_3 (kV kk)
theorem m_X4_joins  {a0 : Nat} {x1 : Int32} {M : Mem} {Q : Int32 → Mem → Prop} (h : f_X4_joins a0 x1 M Q) : Con yX4_joins cX4_joins 2 (some .int) 3 0 0 [.ref a0, .int x1] M (rI Q) :=
  con_of2 (al := [(0, .ref a0), (1, .int x1)]) (by decide) (by exact Nat.le_of_ble_eq_true rfl) (by rfl) (fun p l e s m args below meth c g C hr hlk _ => w_X4_joins C hr hlk h)
set_option maxHeartbeats 4000000 in
set_option maxRecDepth 100000 in
theorem w_X7_joins {p : Program} {l : Launch} {e : Env} {s : State} {m : MethodId} {args : Array Value} {below : List Frame} {meth : Method} {c : Code} {g : Geo} (C : Cx p s m args c cX7_joins RX7 2 g) (hr : meth.sig.returnType = (some .int)) (hlk : meth.locks = false) {a0 : Nat} {x1 : Int32} {M : Mem} {Q : Int32 → Mem → Prop} (h : f_X7_joins a0 x1 M Q) : E p l e (rmO 3 0 0) s m args below meth c g 2 (MQ below (QcM g (rI Q)) args s 0 0 (gA g)) 0 0 0 [(0, .ref a0), (1, .int x1)] [] M := by
  unfold f_X7_joins at h
  refine e_aload_n C 0 dX7_joins_0 rfl rfl ?_
  refine e_bipush (v := 30) C dX7_joins_1 (by decide) ?_
  have kk : ∀ (M2 : Mem), (isO M2 a0 [7, 6] ∧ (f_X5_joins a0 (x1 * (3 : Int32)) M2 (fun w3 M4 => Q w3 M4))) → E p l e (rmO 3 0 0) s m args below meth c g 2 (MQ below (QcM g (rI Q)) args s 0 0 (gA g)) 0 0 6 [(0, .ref a0), (1, .int x1)] [] M2 := by
    intro M2 h7
    refine e_aload_n C 0 dX7_joins_6 rfl rfl ?_
    refine e_iload_n C 1 dX7_joins_7 rfl rfl ?_
    refine e_iconst (v := 3) C dX7_joins_8 (by decide) ?_
    refine e_imul C dX7_joins_9 ?_
    obtain ⟨o5, h7⟩ := h7
    refine e_callSUx (as := [.int (x1 * (3 : Int32))]) C wb_X5_joins wsu_X7_17 [7, 6] (by decide) o5 (m_X5_joins h7) rfl ⟨Nat.le_of_ble_eq_true rfl, Nat.le_of_ble_eq_true rfl⟩ ⟨Nat.le_of_ble_eq_true rfl, Nat.le_of_ble_eq_true rfl⟩ (by first | exact Nat.le_of_ble_eq_true rfl | (simp only [List.map_cons, List.map_nil, va_cat, List.sum_cons, List.sum_nil]; exact Nat.le_of_ble_eq_true rfl)) dX7_joins_10 (kI (fun w3 M4 h6 => ?_))
    exact e_iret C hr hlk (Nat.le_refl _) (Nat.le_refl _) dX7_joins_13 ⟨_, rfl, h6⟩
  rcases h with ⟨h0, h⟩ | ⟨h0, h⟩
  · exact e_callU (as := [.int (30 : Int32)]) C wb_X5_began wu_X7_13_7 (ci := 7) rfl h0 (m_X5_began h) rfl ⟨Nat.le_of_ble_eq_true rfl, Nat.le_of_ble_eq_true rfl⟩ ⟨Nat.le_of_ble_eq_true rfl, Nat.le_of_ble_eq_true rfl⟩ (by first | exact Nat.le_of_ble_eq_true rfl | (simp only [List.map_cons, List.map_nil, va_cat, List.sum_cons, List.sum_nil]; exact Nat.le_of_ble_eq_true rfl)) dX7_joins_3 (kV kk)
  · exact e_callU (as := [.int (30 : Int32)]) C wb_X5_began wu_X7_13_6 (ci := 6) rfl h0 (m_X5_began h) rfl ⟨Nat.le_of_ble_eq_true rfl, Nat.le_of_ble_eq_true rfl⟩ ⟨Nat.le_of_ble_eq_true rfl, Nat.le_of_ble_eq_true rfl⟩ (by first | exact Nat.le_of_ble_eq_true rfl | (simp only [List.map_cons, List.map_nil, va_cat, List.sum_cons, List.sum_nil]; exact Nat.le_of_ble_eq_true rfl)) dX7_joins_3 (kV kk)
theorem m_X7_joins  {a0 : Nat} {x1 : Int32} {M : Mem} {Q : Int32 → Mem → Prop} (h : f_X7_joins a0 x1 M Q) : Con yX7_joins cX7_joins 2 (some .int) 3 0 0 [.ref a0, .int x1] M (rI Q) :=
  con_of2 (al := [(0, .ref a0), (1, .int x1)]) (by decide) (by exact Nat.le_of_ble_eq_true rfl) (by rfl) (fun p l e s m args below meth c g C hr hlk _ => w_X7_joins C hr hlk h)
set_option maxHeartbeats 4000000 in
set_option maxRecDepth 100000 in
theorem w_X9_joins {p : Program} {l : Launch} {e : Env} {s : State} {m : MethodId} {args : Array Value} {below : List Frame} {meth : Method} {c : Code} {g : Geo} (C : Cx p s m args c cX9_joins RX9 2 g) (hr : meth.sig.returnType = (some .int)) (hlk : meth.locks = false) {a0 : Nat} {x1 : Int32} {M : Mem} {Q : Int32 → Mem → Prop} (h : f_X9_joins a0 x1 M Q) : E p l e (rmO 3 0 0) s m args below meth c g 2 (MQ below (QcM g (rI Q)) args s 0 0 (gA g)) 0 0 0 [(0, .ref a0), (1, .int x1)] [] M := by
  unfold f_X9_joins at h
  refine e_aload_n C 0 dX9_joins_0 rfl rfl ?_
  refine e_bipush (v := 71) C dX9_joins_1 (by decide) ?_
  have kk : ∀ (M2 : Mem), (isO M2 a0 [9] ∧ (f_X5_joins a0 x1 M2 (fun w3 M4 => (isO M4 a0 [9] ∧ Q (w3 ^^^ (mI M4 a0 1)) M4)))) → E p l e (rmO 3 0 0) s m args below meth c g 2 (MQ below (QcM g (rI Q)) args s 0 0 (gA g)) 0 0 6 [(0, .ref a0), (1, .int x1)] [] M2 := by
    intro M2 h8
    refine e_aload_n C 0 dX9_joins_6 rfl rfl ?_
    refine e_iload_n C 1 dX9_joins_7 rfl rfl ?_
    obtain ⟨o5, h8⟩ := h8
    refine e_callSGx (as := [.int x1]) C wb_X5_joins wsg_X9_27 [9] (by decide) o5 (m_X5_joins h8) rfl ⟨Nat.le_of_ble_eq_true rfl, Nat.le_of_ble_eq_true rfl⟩ ⟨Nat.le_of_ble_eq_true rfl, Nat.le_of_ble_eq_true rfl⟩ (by first | exact Nat.le_of_ble_eq_true rfl | (simp only [List.map_cons, List.map_nil, va_cat, List.sum_cons, List.sum_nil]; exact Nat.le_of_ble_eq_true rfl)) dX9_joins_8 (kI (fun w3 M4 h7 => ?_))
    refine e_aload_n C 0 dX9_joins_11 rfl rfl ?_
    obtain ⟨o6, h7⟩ := h7
    refine e_getI C [9] 1 (fg_of fg_X9_30) o6 dX9_joins_12 ?_
    refine e_ixor C dX9_joins_15 ?_
    exact e_iret C hr hlk (Nat.le_refl _) (Nat.le_refl _) dX9_joins_16 ⟨_, rfl, h7⟩
  rcases h with ⟨h0, h⟩
  · exact e_callU (as := [.int (71 : Int32)]) C wb_X5_began wu_X9_19_9 (ci := 9) rfl h0 (m_X5_began h) rfl ⟨Nat.le_of_ble_eq_true rfl, Nat.le_of_ble_eq_true rfl⟩ ⟨Nat.le_of_ble_eq_true rfl, Nat.le_of_ble_eq_true rfl⟩ (by first | exact Nat.le_of_ble_eq_true rfl | (simp only [List.map_cons, List.map_nil, va_cat, List.sum_cons, List.sum_nil]; exact Nat.le_of_ble_eq_true rfl)) dX9_joins_3 (kV kk)
theorem m_X9_joins  {a0 : Nat} {x1 : Int32} {M : Mem} {Q : Int32 → Mem → Prop} (h : f_X9_joins a0 x1 M Q) : Con yX9_joins cX9_joins 2 (some .int) 3 0 0 [.ref a0, .int x1] M (rI Q) :=
  con_of2 (al := [(0, .ref a0), (1, .int x1)]) (by decide) (by exact Nat.le_of_ble_eq_true rfl) (by rfl) (fun p l e s m args below meth c g C hr hlk _ => w_X9_joins C hr hlk h)
set_option maxHeartbeats 4000000 in
set_option maxRecDepth 100000 in
theorem w_X5_takes {p : Program} {l : Launch} {e : Env} {s : State} {m : MethodId} {args : Array Value} {below : List Frame} {meth : Method} {c : Code} {g : Geo} (C : Cx p s m args c cX5_takes RX5 2 g) (hr : meth.sig.returnType = (some .int)) (hlk : meth.locks = false) {a0 : Nat} {x1 : Int32} {M : Mem} {Q : Int32 → Mem → Prop} (h : f_X5_takes a0 x1 M Q) : E p l e (rmO 4 0 0) s m args below meth c g 2 (MQ below (QcM g (rI Q)) args s 0 0 (gA g)) 0 0 0 [(0, .ref a0), (1, .int x1)] [] M := by
  unfold f_X5_takes at h
  refine e_aload_n C 0 dX5_takes_0 rfl rfl ?_
  refine e_bipush (v := 11) C dX5_takes_1 (by decide) ?_
  have kk : ∀ (M2 : Mem), (v_X5_joins a0 x1 M2 (fun w3 M4 => (isO M4 a0 [5, 1, 2, 4, 6, 7, 9] ∧ Q (w3 - (mI M4 a0 1)) M4))) → E p l e (rmO 4 0 0) s m args below meth c g 2 (MQ below (QcM g (rI Q)) args s 0 0 (gA g)) 0 0 6 [(0, .ref a0), (1, .int x1)] [] M2 := by
    intro M2 h7
    refine e_aload_n C 0 dX5_takes_6 rfl rfl ?_
    refine e_iload_n C 1 dX5_takes_7 rfl rfl ?_
    have kk : ∀ (w3 : Int32) (M4 : Mem), (isO M4 a0 [5, 1, 2, 4, 6, 7, 9] ∧ Q (w3 - (mI M4 a0 1)) M4) → E p l e (rmO 4 0 0) s m args below meth c g 2 (MQ below (QcM g (rI Q)) args s 0 0 (gA g)) 0 0 11 [(0, .ref a0), (1, .int x1)] [.int w3] M4 := by
      intro w3 M4 h6
      refine e_aload_n C 0 dX5_takes_11 rfl rfl ?_
      obtain ⟨o5, h6⟩ := h6
      refine e_getI C [5, 1, 2, 4, 6, 7, 9] 1 (fg_of fg_X5_17) o5 dX5_takes_12 ?_
      refine e_isub C dX5_takes_15 ?_
      exact e_iret C hr hlk (Nat.le_refl _) (Nat.le_refl _) dX5_takes_16 ⟨_, rfl, h6⟩
    rcases h7 with ⟨h0, h7⟩ | ⟨h0, h7⟩ | ⟨h0, h7⟩ | ⟨h0, h7⟩ | ⟨h0, h7⟩ | ⟨h0, h7⟩ | ⟨h0, h7⟩
    · exact e_callV (as := [.int x1]) C wb_X5_joins wv_X5_36 (ci := 5) rfl rfl h0 (m_X5_joins h7) rfl ⟨Nat.le_of_ble_eq_true rfl, Nat.le_of_ble_eq_true rfl⟩ ⟨Nat.le_of_ble_eq_true rfl, Nat.le_of_ble_eq_true rfl⟩ (by first | exact Nat.le_of_ble_eq_true rfl | (simp only [List.map_cons, List.map_nil, va_cat, List.sum_cons, List.sum_nil]; exact Nat.le_of_ble_eq_true rfl)) dX5_takes_8 (kI kk)
    · exact e_callU (as := [.int x1]) C wb_X5_joins wu_X5_36_1 (ci := 1) rfl h0 (m_X5_joins h7) rfl ⟨Nat.le_of_ble_eq_true rfl, Nat.le_of_ble_eq_true rfl⟩ ⟨Nat.le_of_ble_eq_true rfl, Nat.le_of_ble_eq_true rfl⟩ (by first | exact Nat.le_of_ble_eq_true rfl | (simp only [List.map_cons, List.map_nil, va_cat, List.sum_cons, List.sum_nil]; exact Nat.le_of_ble_eq_true rfl)) dX5_takes_8 (kI kk)
    · exact e_callU (as := [.int x1]) C wb_X5_joins wu_X5_36_2 (ci := 2) rfl h0 (m_X5_joins h7) rfl ⟨Nat.le_of_ble_eq_true rfl, Nat.le_of_ble_eq_true rfl⟩ ⟨Nat.le_of_ble_eq_true rfl, Nat.le_of_ble_eq_true rfl⟩ (by first | exact Nat.le_of_ble_eq_true rfl | (simp only [List.map_cons, List.map_nil, va_cat, List.sum_cons, List.sum_nil]; exact Nat.le_of_ble_eq_true rfl)) dX5_takes_8 (kI kk)
    · exact e_callU (as := [.int x1]) C wb_X4_joins wu_X5_36_4 (ci := 4) rfl h0 (m_X4_joins h7) rfl ⟨Nat.le_of_ble_eq_true rfl, Nat.le_of_ble_eq_true rfl⟩ ⟨Nat.le_of_ble_eq_true rfl, Nat.le_of_ble_eq_true rfl⟩ (by first | exact Nat.le_of_ble_eq_true rfl | (simp only [List.map_cons, List.map_nil, va_cat, List.sum_cons, List.sum_nil]; exact Nat.le_of_ble_eq_true rfl)) dX5_takes_8 (kI kk)
    · exact e_callU (as := [.int x1]) C wb_X7_joins wu_X5_36_6 (ci := 6) rfl h0 (m_X7_joins h7) rfl ⟨Nat.le_of_ble_eq_true rfl, Nat.le_of_ble_eq_true rfl⟩ ⟨Nat.le_of_ble_eq_true rfl, Nat.le_of_ble_eq_true rfl⟩ (by first | exact Nat.le_of_ble_eq_true rfl | (simp only [List.map_cons, List.map_nil, va_cat, List.sum_cons, List.sum_nil]; exact Nat.le_of_ble_eq_true rfl)) dX5_takes_8 (kI kk)
    · exact e_callU (as := [.int x1]) C wb_X7_joins wu_X5_36_7 (ci := 7) rfl h0 (m_X7_joins h7) rfl ⟨Nat.le_of_ble_eq_true rfl, Nat.le_of_ble_eq_true rfl⟩ ⟨Nat.le_of_ble_eq_true rfl, Nat.le_of_ble_eq_true rfl⟩ (by first | exact Nat.le_of_ble_eq_true rfl | (simp only [List.map_cons, List.map_nil, va_cat, List.sum_cons, List.sum_nil]; exact Nat.le_of_ble_eq_true rfl)) dX5_takes_8 (kI kk)
    · exact e_callU (as := [.int x1]) C wb_X9_joins wu_X5_36_9 (ci := 9) rfl h0 (m_X9_joins h7) rfl ⟨Nat.le_of_ble_eq_true rfl, Nat.le_of_ble_eq_true rfl⟩ ⟨Nat.le_of_ble_eq_true rfl, Nat.le_of_ble_eq_true rfl⟩ (by first | exact Nat.le_of_ble_eq_true rfl | (simp only [List.map_cons, List.map_nil, va_cat, List.sum_cons, List.sum_nil]; exact Nat.le_of_ble_eq_true rfl)) dX5_takes_8 (kI kk)
  rcases h with ⟨h0, h⟩ | ⟨h0, h⟩ | ⟨h0, h⟩ | ⟨h0, h⟩ | ⟨h0, h⟩ | ⟨h0, h⟩ | ⟨h0, h⟩
  · exact e_callV (as := [.int (11 : Int32)]) C wb_X5_began wv_X5_32 (ci := 5) rfl rfl h0 (m_X5_began h) rfl ⟨Nat.le_of_ble_eq_true rfl, Nat.le_of_ble_eq_true rfl⟩ ⟨Nat.le_of_ble_eq_true rfl, Nat.le_of_ble_eq_true rfl⟩ (by first | exact Nat.le_of_ble_eq_true rfl | (simp only [List.map_cons, List.map_nil, va_cat, List.sum_cons, List.sum_nil]; exact Nat.le_of_ble_eq_true rfl)) dX5_takes_3 (kV kk)
  · exact e_callU (as := [.int (11 : Int32)]) C wb_X5_began wu_X5_32_1 (ci := 1) rfl h0 (m_X5_began h) rfl ⟨Nat.le_of_ble_eq_true rfl, Nat.le_of_ble_eq_true rfl⟩ ⟨Nat.le_of_ble_eq_true rfl, Nat.le_of_ble_eq_true rfl⟩ (by first | exact Nat.le_of_ble_eq_true rfl | (simp only [List.map_cons, List.map_nil, va_cat, List.sum_cons, List.sum_nil]; exact Nat.le_of_ble_eq_true rfl)) dX5_takes_3 (kV kk)
  · exact e_callU (as := [.int (11 : Int32)]) C wb_X5_began wu_X5_32_2 (ci := 2) rfl h0 (m_X5_began h) rfl ⟨Nat.le_of_ble_eq_true rfl, Nat.le_of_ble_eq_true rfl⟩ ⟨Nat.le_of_ble_eq_true rfl, Nat.le_of_ble_eq_true rfl⟩ (by first | exact Nat.le_of_ble_eq_true rfl | (simp only [List.map_cons, List.map_nil, va_cat, List.sum_cons, List.sum_nil]; exact Nat.le_of_ble_eq_true rfl)) dX5_takes_3 (kV kk)
  · exact e_callU (as := [.int (11 : Int32)]) C wb_X5_began wu_X5_32_4 (ci := 4) rfl h0 (m_X5_began h) rfl ⟨Nat.le_of_ble_eq_true rfl, Nat.le_of_ble_eq_true rfl⟩ ⟨Nat.le_of_ble_eq_true rfl, Nat.le_of_ble_eq_true rfl⟩ (by first | exact Nat.le_of_ble_eq_true rfl | (simp only [List.map_cons, List.map_nil, va_cat, List.sum_cons, List.sum_nil]; exact Nat.le_of_ble_eq_true rfl)) dX5_takes_3 (kV kk)
  · exact e_callU (as := [.int (11 : Int32)]) C wb_X5_began wu_X5_32_6 (ci := 6) rfl h0 (m_X5_began h) rfl ⟨Nat.le_of_ble_eq_true rfl, Nat.le_of_ble_eq_true rfl⟩ ⟨Nat.le_of_ble_eq_true rfl, Nat.le_of_ble_eq_true rfl⟩ (by first | exact Nat.le_of_ble_eq_true rfl | (simp only [List.map_cons, List.map_nil, va_cat, List.sum_cons, List.sum_nil]; exact Nat.le_of_ble_eq_true rfl)) dX5_takes_3 (kV kk)
  · exact e_callU (as := [.int (11 : Int32)]) C wb_X5_began wu_X5_32_7 (ci := 7) rfl h0 (m_X5_began h) rfl ⟨Nat.le_of_ble_eq_true rfl, Nat.le_of_ble_eq_true rfl⟩ ⟨Nat.le_of_ble_eq_true rfl, Nat.le_of_ble_eq_true rfl⟩ (by first | exact Nat.le_of_ble_eq_true rfl | (simp only [List.map_cons, List.map_nil, va_cat, List.sum_cons, List.sum_nil]; exact Nat.le_of_ble_eq_true rfl)) dX5_takes_3 (kV kk)
  · exact e_callU (as := [.int (11 : Int32)]) C wb_X5_began wu_X5_32_9 (ci := 9) rfl h0 (m_X5_began h) rfl ⟨Nat.le_of_ble_eq_true rfl, Nat.le_of_ble_eq_true rfl⟩ ⟨Nat.le_of_ble_eq_true rfl, Nat.le_of_ble_eq_true rfl⟩ (by first | exact Nat.le_of_ble_eq_true rfl | (simp only [List.map_cons, List.map_nil, va_cat, List.sum_cons, List.sum_nil]; exact Nat.le_of_ble_eq_true rfl)) dX5_takes_3 (kV kk)
theorem m_X5_takes  {a0 : Nat} {x1 : Int32} {M : Mem} {Q : Int32 → Mem → Prop} (h : f_X5_takes a0 x1 M Q) : Con yX5_takes cX5_takes 2 (some .int) 4 0 0 [.ref a0, .int x1] M (rI Q) :=
  con_of2 (al := [(0, .ref a0), (1, .int x1)]) (by decide) (by exact Nat.le_of_ble_eq_true rfl) (by rfl) (fun p l e s m args below meth c g C hr hlk _ => w_X5_takes C hr hlk h)
set_option maxHeartbeats 4000000 in
set_option maxRecDepth 100000 in
theorem w_X1_takes {p : Program} {l : Launch} {e : Env} {s : State} {m : MethodId} {args : Array Value} {below : List Frame} {meth : Method} {c : Code} {g : Geo} (C : Cx p s m args c cX1_takes RX1 2 g) (hr : meth.sig.returnType = (some .int)) (hlk : meth.locks = false) {a0 : Nat} {x1 : Int32} {M : Mem} {Q : Int32 → Mem → Prop} (h : f_X1_takes a0 x1 M Q) : E p l e (rmO 5 0 0) s m args below meth c g 2 (MQ below (QcM g (rI Q)) args s 0 0 (gA g)) 0 0 0 [(0, .ref a0), (1, .int x1)] [] M := by
  unfold f_X1_takes at h
  refine e_aload_n C 0 dX1_takes_0 rfl rfl ?_
  refine e_bipush (v := 20) C dX1_takes_1 (by decide) ?_
  have kk : ∀ (M2 : Mem), (isO M2 a0 [1, 4, 9] ∧ (f_X5_takes a0 x1 M2 (fun w3 M4 => Q (w3 ^^^ (6 : Int32)) M4))) → E p l e (rmO 5 0 0) s m args below meth c g 2 (MQ below (QcM g (rI Q)) args s 0 0 (gA g)) 0 0 6 [(0, .ref a0), (1, .int x1)] [] M2 := by
    intro M2 h7
    refine e_aload_n C 0 dX1_takes_6 rfl rfl ?_
    refine e_iload_n C 1 dX1_takes_7 rfl rfl ?_
    obtain ⟨o5, h7⟩ := h7
    refine e_callSUx (as := [.int x1]) C wb_X5_takes wsu_X1_13 [1, 4, 9] (by decide) o5 (m_X5_takes h7) rfl ⟨Nat.le_of_ble_eq_true rfl, Nat.le_of_ble_eq_true rfl⟩ ⟨Nat.le_of_ble_eq_true rfl, Nat.le_of_ble_eq_true rfl⟩ (by first | exact Nat.le_of_ble_eq_true rfl | (simp only [List.map_cons, List.map_nil, va_cat, List.sum_cons, List.sum_nil]; exact Nat.le_of_ble_eq_true rfl)) dX1_takes_8 (kI (fun w3 M4 h6 => ?_))
    refine e_bipush (v := 6) C dX1_takes_11 (by decide) ?_
    refine e_ixor C dX1_takes_13 ?_
    exact e_iret C hr hlk (Nat.le_refl _) (Nat.le_refl _) dX1_takes_14 ⟨_, rfl, h6⟩
  rcases h with ⟨h0, h⟩ | ⟨h0, h⟩ | ⟨h0, h⟩
  · exact e_callU (as := [.int (20 : Int32)]) C wb_X5_began wu_X1_7_1 (ci := 1) rfl h0 (m_X5_began h) rfl ⟨Nat.le_of_ble_eq_true rfl, Nat.le_of_ble_eq_true rfl⟩ ⟨Nat.le_of_ble_eq_true rfl, Nat.le_of_ble_eq_true rfl⟩ (by first | exact Nat.le_of_ble_eq_true rfl | (simp only [List.map_cons, List.map_nil, va_cat, List.sum_cons, List.sum_nil]; exact Nat.le_of_ble_eq_true rfl)) dX1_takes_3 (kV kk)
  · exact e_callU (as := [.int (20 : Int32)]) C wb_X5_began wu_X1_7_4 (ci := 4) rfl h0 (m_X5_began h) rfl ⟨Nat.le_of_ble_eq_true rfl, Nat.le_of_ble_eq_true rfl⟩ ⟨Nat.le_of_ble_eq_true rfl, Nat.le_of_ble_eq_true rfl⟩ (by first | exact Nat.le_of_ble_eq_true rfl | (simp only [List.map_cons, List.map_nil, va_cat, List.sum_cons, List.sum_nil]; exact Nat.le_of_ble_eq_true rfl)) dX1_takes_3 (kV kk)
  · exact e_callU (as := [.int (20 : Int32)]) C wb_X5_began wu_X1_7_9 (ci := 9) rfl h0 (m_X5_began h) rfl ⟨Nat.le_of_ble_eq_true rfl, Nat.le_of_ble_eq_true rfl⟩ ⟨Nat.le_of_ble_eq_true rfl, Nat.le_of_ble_eq_true rfl⟩ (by first | exact Nat.le_of_ble_eq_true rfl | (simp only [List.map_cons, List.map_nil, va_cat, List.sum_cons, List.sum_nil]; exact Nat.le_of_ble_eq_true rfl)) dX1_takes_3 (kV kk)
theorem m_X1_takes  {a0 : Nat} {x1 : Int32} {M : Mem} {Q : Int32 → Mem → Prop} (h : f_X1_takes a0 x1 M Q) : Con yX1_takes cX1_takes 2 (some .int) 5 0 0 [.ref a0, .int x1] M (rI Q) :=
  con_of2 (al := [(0, .ref a0), (1, .int x1)]) (by decide) (by exact Nat.le_of_ble_eq_true rfl) (by rfl) (fun p l e s m args below meth c g C hr hlk _ => w_X1_takes C hr hlk h)
set_option maxHeartbeats 4000000 in
set_option maxRecDepth 100000 in
theorem w_X2_init {p : Program} {l : Launch} {e : Env} {s : State} {m : MethodId} {args : Array Value} {below : List Frame} {meth : Method} {c : Code} {g : Geo} (C : Cx p s m args c cX2_init RX2 3 g) (hr : meth.sig.returnType = none) (hlk : meth.locks = false) (hnm : meth.name = "<init>") {a0 : Nat} {x1 : Int32} {x2 : Int32} {M : Mem} {Q : Mem → Prop} (h : f_X2_init a0 x1 x2 M Q) : E p l e (rmO 3 1 20) s m args below meth c g 3 (MQ below (QcM g (rV Q)) args s 1 20 (gA g)) 0 0 0 [(0, .ref a0), (1, .int x1), (2, .int x2)] [] M := by
  unfold f_X2_init at h
  refine e_aload_n C 0 dX2_init_0 rfl rfl ?_
  refine e_iload_n C 1 dX2_init_1 rfl rfl ?_
  refine e_iload_n C 2 dX2_init_2 rfl rfl ?_
  refine e_callI (as := [.int x1, .int x2]) C wb_X5_init rfl wi_X2_1 (m_X5_init h) rfl ⟨Nat.le_of_ble_eq_true rfl, Nat.le_of_ble_eq_true rfl⟩ ⟨Nat.le_of_ble_eq_true rfl, Nat.le_of_ble_eq_true rfl⟩ (by first | exact Nat.le_of_ble_eq_true rfl | (simp only [List.map_cons, List.map_nil, va_cat, List.sum_cons, List.sum_nil]; exact Nat.le_of_ble_eq_true rfl)) dX2_init_3 (kV (fun M2 h3 => ?_))
  exact e_vret C hr hlk (Nat.le_of_ble_eq_true rfl) (Nat.le_of_ble_eq_true rfl) dX2_init_6 ⟨rfl, h3⟩
theorem m_X2_init  {a0 : Nat} {x1 : Int32} {x2 : Int32} {M : Mem} {Q : Mem → Prop} (h : f_X2_init a0 x1 x2 M Q) : Con yX2_init cX2_init 3 none 3 1 20 [.ref a0, .int x1, .int x2] M (rV Q) :=
  con_of2 (al := [(0, .ref a0), (1, .int x1), (2, .int x2)]) (by decide) (by exact Nat.le_of_ble_eq_true rfl) (by rfl) (fun p l e s m args below meth c g C hr hlk hnm => w_X2_init C hr hlk hnm h)
set_option maxHeartbeats 4000000 in
set_option maxRecDepth 100000 in
theorem w_X2_kind {p : Program} {l : Launch} {e : Env} {s : State} {m : MethodId} {args : Array Value} {below : List Frame} {meth : Method} {c : Code} {g : Geo} (C : Cx p s m args c cX2_kind RX2 1 g) (hr : meth.sig.returnType = (some .int)) (hlk : meth.locks = false) {a0 : Nat} {M : Mem} {Q : Int32 → Mem → Prop} (h : f_X2_kind a0 M Q) : E p l e (rmO 1 0 0) s m args below meth c g 1 (MQ below (QcM g (rI Q)) args s 0 0 (gA g)) 0 0 0 [(0, .ref a0)] [] M := by
  unfold f_X2_kind at h
  refine e_iconst (v := 5) C dX2_kind_0 (by decide) ?_
  exact e_iret C hr hlk (Nat.le_refl _) (Nat.le_refl _) dX2_kind_1 ⟨_, rfl, h⟩
theorem m_X2_kind  {a0 : Nat} {M : Mem} {Q : Int32 → Mem → Prop} (h : f_X2_kind a0 M Q) : Con yX2_kind cX2_kind 1 (some .int) 1 0 0 [.ref a0] M (rI Q) :=
  con_of2 (al := [(0, .ref a0)]) (by decide) (by exact Nat.le_of_ble_eq_true rfl) (by rfl) (fun p l e s m args below meth c g C hr hlk _ => w_X2_kind C hr hlk h)
set_option maxHeartbeats 4000000 in
set_option maxRecDepth 100000 in
theorem w_X2_turnsAway {p : Program} {l : Launch} {e : Env} {s : State} {m : MethodId} {args : Array Value} {below : List Frame} {meth : Method} {c : Code} {g : Geo} (C : Cx p s m args c cX2_turnsAway RX2 2 g) (hr : meth.sig.returnType = (some .boolean)) (hlk : meth.locks = false) {a0 : Nat} {x1 : Int32} {M : Mem} {Q : Bool → Mem → Prop} (h : f_X2_turnsAway a0 x1 M Q) : E p l e (rmO 1 0 0) s m args below meth c g 2 (MQ below (QcM g (rZ Q)) args s 0 0 (gA g)) 0 0 0 [(0, .ref a0), (1, .int x1)] [] M := by
  unfold f_X2_turnsAway at h
  refine e_iload_n C 1 dX2_turnsAway_0 rfl rfl ?_
  refine e_aload_n C 0 dX2_turnsAway_1 rfl rfl ?_
  obtain ⟨o1, h⟩ := h
  refine e_getI C [2] 1 (fg_of fg_X2_7) o1 dX2_turnsAway_2 ?_
  refine e_icmp_lt (tgt := 12) C dX2_turnsAway_5 (by decide) (fun q2 => ?_) (fun q2 => ?_)
  · replace h := ite_t h q2
    refine e_iconst (v := 0) C dX2_turnsAway_12 (by decide) ?_
    exact e_zret C hr rfl hlk (Nat.le_refl _) (Nat.le_refl _) dX2_turnsAway_13 ⟨false, rfl, h⟩
  · replace h := ite_f h q2
    refine e_iconst (v := 1) C dX2_turnsAway_8 (by decide) ?_
    refine e_goto (tgt := 13) C dX2_turnsAway_9 (by decide) ?_
    exact e_zret C hr rfl hlk (Nat.le_refl _) (Nat.le_refl _) dX2_turnsAway_13 ⟨true, rfl, h⟩
theorem m_X2_turnsAway  {a0 : Nat} {x1 : Int32} {M : Mem} {Q : Bool → Mem → Prop} (h : f_X2_turnsAway a0 x1 M Q) : Con yX2_turnsAway cX2_turnsAway 2 (some .boolean) 1 0 0 [.ref a0, .int x1] M (rZ Q) :=
  con_of2 (al := [(0, .ref a0), (1, .int x1)]) (by decide) (by exact Nat.le_of_ble_eq_true rfl) (by rfl) (fun p l e s m args below meth c g C hr hlk _ => w_X2_turnsAway C hr hlk h)
set_option maxHeartbeats 4000000 in
set_option maxRecDepth 100000 in
theorem w_X4_takes {p : Program} {l : Launch} {e : Env} {s : State} {m : MethodId} {args : Array Value} {below : List Frame} {meth : Method} {c : Code} {g : Geo} (C : Cx p s m args c cX4_takes RX4 2 g) (hr : meth.sig.returnType = (some .int)) (hlk : meth.locks = false) {a0 : Nat} {x1 : Int32} {M : Mem} {Q : Int32 → Mem → Prop} (h : f_X4_takes a0 x1 M Q) : E p l e (rmO 6 0 0) s m args below meth c g 2 (MQ below (QcM g (rI Q)) args s 0 0 (gA g)) 0 0 0 [(0, .ref a0), (1, .int x1)] [] M := by
  unfold f_X4_takes at h
  refine e_aload_n C 0 dX4_takes_0 rfl rfl ?_
  refine e_bipush (v := 51) C dX4_takes_1 (by decide) ?_
  have kk : ∀ (M2 : Mem), (isO M2 a0 [4] ∧ (f_X1_takes a0 (x1 + (1 : Int32)) M2 (fun w3 M4 => Q w3 M4))) → E p l e (rmO 6 0 0) s m args below meth c g 2 (MQ below (QcM g (rI Q)) args s 0 0 (gA g)) 0 0 6 [(0, .ref a0), (1, .int x1)] [] M2 := by
    intro M2 h7
    refine e_aload_n C 0 dX4_takes_6 rfl rfl ?_
    refine e_iload_n C 1 dX4_takes_7 rfl rfl ?_
    refine e_iconst (v := 1) C dX4_takes_8 (by decide) ?_
    refine e_iadd C dX4_takes_9 ?_
    obtain ⟨o5, h7⟩ := h7
    refine e_callSUx (as := [.int (x1 + (1 : Int32))]) C wb_X1_takes wsu_X4_21 [4] (by decide) o5 (m_X1_takes h7) rfl ⟨Nat.le_of_ble_eq_true rfl, Nat.le_of_ble_eq_true rfl⟩ ⟨Nat.le_of_ble_eq_true rfl, Nat.le_of_ble_eq_true rfl⟩ (by first | exact Nat.le_of_ble_eq_true rfl | (simp only [List.map_cons, List.map_nil, va_cat, List.sum_cons, List.sum_nil]; exact Nat.le_of_ble_eq_true rfl)) dX4_takes_10 (kI (fun w3 M4 h6 => ?_))
    exact e_iret C hr hlk (Nat.le_refl _) (Nat.le_refl _) dX4_takes_13 ⟨_, rfl, h6⟩
  rcases h with ⟨h0, h⟩
  · exact e_callU (as := [.int (51 : Int32)]) C wb_X5_began wu_X4_13_4 (ci := 4) rfl h0 (m_X5_began h) rfl ⟨Nat.le_of_ble_eq_true rfl, Nat.le_of_ble_eq_true rfl⟩ ⟨Nat.le_of_ble_eq_true rfl, Nat.le_of_ble_eq_true rfl⟩ (by first | exact Nat.le_of_ble_eq_true rfl | (simp only [List.map_cons, List.map_nil, va_cat, List.sum_cons, List.sum_nil]; exact Nat.le_of_ble_eq_true rfl)) dX4_takes_3 (kV kk)
theorem m_X4_takes  {a0 : Nat} {x1 : Int32} {M : Mem} {Q : Int32 → Mem → Prop} (h : f_X4_takes a0 x1 M Q) : Con yX4_takes cX4_takes 2 (some .int) 6 0 0 [.ref a0, .int x1] M (rI Q) :=
  con_of2 (al := [(0, .ref a0), (1, .int x1)]) (by decide) (by exact Nat.le_of_ble_eq_true rfl) (by rfl) (fun p l e s m args below meth c g C hr hlk _ => w_X4_takes C hr hlk h)
set_option maxHeartbeats 4000000 in
set_option maxRecDepth 100000 in
theorem w_X9_takes {p : Program} {l : Launch} {e : Env} {s : State} {m : MethodId} {args : Array Value} {below : List Frame} {meth : Method} {c : Code} {g : Geo} (C : Cx p s m args c cX9_takes RX9 2 g) (hr : meth.sig.returnType = (some .int)) (hlk : meth.locks = false) {a0 : Nat} {x1 : Int32} {M : Mem} {Q : Int32 → Mem → Prop} (h : f_X9_takes a0 x1 M Q) : E p l e (rmO 6 0 0) s m args below meth c g 2 (MQ below (QcM g (rI Q)) args s 0 0 (gA g)) 0 0 0 [(0, .ref a0), (1, .int x1)] [] M := by
  unfold f_X9_takes at h
  refine e_aload_n C 0 dX9_takes_0 rfl rfl ?_
  refine e_bipush (v := 70) C dX9_takes_1 (by decide) ?_
  have kk : ∀ (M2 : Mem), (isO M2 a0 [9] ∧ (f_X1_takes a0 x1 M2 (fun w3 M4 => (isO M4 a0 [9] ∧ (f_X5_joins a0 (2 : Int32) M4 (fun w6 M7 => Q (w3 + w6) M7)))))) → E p l e (rmO 6 0 0) s m args below meth c g 2 (MQ below (QcM g (rI Q)) args s 0 0 (gA g)) 0 0 6 [(0, .ref a0), (1, .int x1)] [] M2 := by
    intro M2 h11
    refine e_aload_n C 0 dX9_takes_6 rfl rfl ?_
    refine e_iload_n C 1 dX9_takes_7 rfl rfl ?_
    obtain ⟨o5, h11⟩ := h11
    refine e_callSUx (as := [.int x1]) C wb_X1_takes wsu_X9_23 [9] (by decide) o5 (m_X1_takes h11) rfl ⟨Nat.le_of_ble_eq_true rfl, Nat.le_of_ble_eq_true rfl⟩ ⟨Nat.le_of_ble_eq_true rfl, Nat.le_of_ble_eq_true rfl⟩ (by first | exact Nat.le_of_ble_eq_true rfl | (simp only [List.map_cons, List.map_nil, va_cat, List.sum_cons, List.sum_nil]; exact Nat.le_of_ble_eq_true rfl)) dX9_takes_8 (kI (fun w3 M4 h10 => ?_))
    refine e_aload_n C 0 dX9_takes_11 rfl rfl ?_
    refine e_iconst (v := 2) C dX9_takes_12 (by decide) ?_
    obtain ⟨o8, h10⟩ := h10
    refine e_callSGx (as := [.int (2 : Int32)]) C wb_X5_joins wsg_X9_27 [9] (by decide) o8 (m_X5_joins h10) rfl ⟨Nat.le_of_ble_eq_true rfl, Nat.le_of_ble_eq_true rfl⟩ ⟨Nat.le_of_ble_eq_true rfl, Nat.le_of_ble_eq_true rfl⟩ (by first | exact Nat.le_of_ble_eq_true rfl | (simp only [List.map_cons, List.map_nil, va_cat, List.sum_cons, List.sum_nil]; exact Nat.le_of_ble_eq_true rfl)) dX9_takes_13 (kI (fun w6 M7 h9 => ?_))
    refine e_iadd C dX9_takes_16 ?_
    exact e_iret C hr hlk (Nat.le_refl _) (Nat.le_refl _) dX9_takes_17 ⟨_, rfl, h9⟩
  rcases h with ⟨h0, h⟩
  · exact e_callU (as := [.int (70 : Int32)]) C wb_X5_began wu_X9_19_9 (ci := 9) rfl h0 (m_X5_began h) rfl ⟨Nat.le_of_ble_eq_true rfl, Nat.le_of_ble_eq_true rfl⟩ ⟨Nat.le_of_ble_eq_true rfl, Nat.le_of_ble_eq_true rfl⟩ (by first | exact Nat.le_of_ble_eq_true rfl | (simp only [List.map_cons, List.map_nil, va_cat, List.sum_cons, List.sum_nil]; exact Nat.le_of_ble_eq_true rfl)) dX9_takes_3 (kV kk)
theorem m_X9_takes  {a0 : Nat} {x1 : Int32} {M : Mem} {Q : Int32 → Mem → Prop} (h : f_X9_takes a0 x1 M Q) : Con yX9_takes cX9_takes 2 (some .int) 6 0 0 [.ref a0, .int x1] M (rI Q) :=
  con_of2 (al := [(0, .ref a0), (1, .int x1)]) (by decide) (by exact Nat.le_of_ble_eq_true rfl) (by rfl) (fun p l e s m args below meth c g C hr hlk _ => w_X9_takes C hr hlk h)
set_option maxHeartbeats 4000000 in
set_option maxRecDepth 100000 in
theorem w_X5_tells {p : Program} {l : Launch} {e : Env} {s : State} {m : MethodId} {args : Array Value} {below : List Frame} {meth : Method} {c : Code} {g : Geo} (C : Cx p s m args c cX5_tells RX5 2 g) (hr : meth.sig.returnType = (some .int)) (hlk : meth.locks = false) {a0 : Nat} {x1 : Int32} {M : Mem} {Q : Int32 → Mem → Prop} (h : f_X5_tells a0 x1 M Q) : E p l e (rmO 7 0 0) s m args below meth c g 2 (MQ below (QcM g (rI Q)) args s 0 0 (gA g)) 0 0 0 [(0, .ref a0), (1, .int x1)] [] M := by
  unfold f_X5_tells at h
  refine e_aload_n C 0 dX5_tells_0 rfl rfl ?_
  refine e_bipush (v := 12) C dX5_tells_1 (by decide) ?_
  have kk : ∀ (M2 : Mem), (v_X5_takes a0 x1 M2 (fun w3 M4 => Q (w3 * (2 : Int32)) M4)) → E p l e (rmO 7 0 0) s m args below meth c g 2 (MQ below (QcM g (rI Q)) args s 0 0 (gA g)) 0 0 6 [(0, .ref a0), (1, .int x1)] [] M2 := by
    intro M2 h6
    refine e_aload_n C 0 dX5_tells_6 rfl rfl ?_
    refine e_iload_n C 1 dX5_tells_7 rfl rfl ?_
    have kk : ∀ (w3 : Int32) (M4 : Mem), Q (w3 * (2 : Int32)) M4 → E p l e (rmO 7 0 0) s m args below meth c g 2 (MQ below (QcM g (rI Q)) args s 0 0 (gA g)) 0 0 11 [(0, .ref a0), (1, .int x1)] [.int w3] M4 := by
      intro w3 M4 h5
      refine e_iconst (v := 2) C dX5_tells_11 (by decide) ?_
      refine e_imul C dX5_tells_12 ?_
      exact e_iret C hr hlk (Nat.le_refl _) (Nat.le_refl _) dX5_tells_13 ⟨_, rfl, h5⟩
    rcases h6 with ⟨h0, h6⟩ | ⟨h0, h6⟩ | ⟨h0, h6⟩ | ⟨h0, h6⟩ | ⟨h0, h6⟩ | ⟨h0, h6⟩ | ⟨h0, h6⟩
    · exact e_callV (as := [.int x1]) C wb_X5_takes wv_X5_40 (ci := 5) rfl rfl h0 (m_X5_takes h6) rfl ⟨Nat.le_of_ble_eq_true rfl, Nat.le_of_ble_eq_true rfl⟩ ⟨Nat.le_of_ble_eq_true rfl, Nat.le_of_ble_eq_true rfl⟩ (by first | exact Nat.le_of_ble_eq_true rfl | (simp only [List.map_cons, List.map_nil, va_cat, List.sum_cons, List.sum_nil]; exact Nat.le_of_ble_eq_true rfl)) dX5_tells_8 (kI kk)
    · exact e_callU (as := [.int x1]) C wb_X1_takes wu_X5_40_1 (ci := 1) rfl h0 (m_X1_takes h6) rfl ⟨Nat.le_of_ble_eq_true rfl, Nat.le_of_ble_eq_true rfl⟩ ⟨Nat.le_of_ble_eq_true rfl, Nat.le_of_ble_eq_true rfl⟩ (by first | exact Nat.le_of_ble_eq_true rfl | (simp only [List.map_cons, List.map_nil, va_cat, List.sum_cons, List.sum_nil]; exact Nat.le_of_ble_eq_true rfl)) dX5_tells_8 (kI kk)
    · exact e_callU (as := [.int x1]) C wb_X5_takes wu_X5_40_2 (ci := 2) rfl h0 (m_X5_takes h6) rfl ⟨Nat.le_of_ble_eq_true rfl, Nat.le_of_ble_eq_true rfl⟩ ⟨Nat.le_of_ble_eq_true rfl, Nat.le_of_ble_eq_true rfl⟩ (by first | exact Nat.le_of_ble_eq_true rfl | (simp only [List.map_cons, List.map_nil, va_cat, List.sum_cons, List.sum_nil]; exact Nat.le_of_ble_eq_true rfl)) dX5_tells_8 (kI kk)
    · exact e_callU (as := [.int x1]) C wb_X4_takes wu_X5_40_4 (ci := 4) rfl h0 (m_X4_takes h6) rfl ⟨Nat.le_of_ble_eq_true rfl, Nat.le_of_ble_eq_true rfl⟩ ⟨Nat.le_of_ble_eq_true rfl, Nat.le_of_ble_eq_true rfl⟩ (by first | exact Nat.le_of_ble_eq_true rfl | (simp only [List.map_cons, List.map_nil, va_cat, List.sum_cons, List.sum_nil]; exact Nat.le_of_ble_eq_true rfl)) dX5_tells_8 (kI kk)
    · exact e_callU (as := [.int x1]) C wb_X5_takes wu_X5_40_6 (ci := 6) rfl h0 (m_X5_takes h6) rfl ⟨Nat.le_of_ble_eq_true rfl, Nat.le_of_ble_eq_true rfl⟩ ⟨Nat.le_of_ble_eq_true rfl, Nat.le_of_ble_eq_true rfl⟩ (by first | exact Nat.le_of_ble_eq_true rfl | (simp only [List.map_cons, List.map_nil, va_cat, List.sum_cons, List.sum_nil]; exact Nat.le_of_ble_eq_true rfl)) dX5_tells_8 (kI kk)
    · exact e_callU (as := [.int x1]) C wb_X5_takes wu_X5_40_7 (ci := 7) rfl h0 (m_X5_takes h6) rfl ⟨Nat.le_of_ble_eq_true rfl, Nat.le_of_ble_eq_true rfl⟩ ⟨Nat.le_of_ble_eq_true rfl, Nat.le_of_ble_eq_true rfl⟩ (by first | exact Nat.le_of_ble_eq_true rfl | (simp only [List.map_cons, List.map_nil, va_cat, List.sum_cons, List.sum_nil]; exact Nat.le_of_ble_eq_true rfl)) dX5_tells_8 (kI kk)
    · exact e_callU (as := [.int x1]) C wb_X9_takes wu_X5_40_9 (ci := 9) rfl h0 (m_X9_takes h6) rfl ⟨Nat.le_of_ble_eq_true rfl, Nat.le_of_ble_eq_true rfl⟩ ⟨Nat.le_of_ble_eq_true rfl, Nat.le_of_ble_eq_true rfl⟩ (by first | exact Nat.le_of_ble_eq_true rfl | (simp only [List.map_cons, List.map_nil, va_cat, List.sum_cons, List.sum_nil]; exact Nat.le_of_ble_eq_true rfl)) dX5_tells_8 (kI kk)
  rcases h with ⟨h0, h⟩ | ⟨h0, h⟩ | ⟨h0, h⟩ | ⟨h0, h⟩ | ⟨h0, h⟩ | ⟨h0, h⟩ | ⟨h0, h⟩
  · exact e_callV (as := [.int (12 : Int32)]) C wb_X5_began wv_X5_32 (ci := 5) rfl rfl h0 (m_X5_began h) rfl ⟨Nat.le_of_ble_eq_true rfl, Nat.le_of_ble_eq_true rfl⟩ ⟨Nat.le_of_ble_eq_true rfl, Nat.le_of_ble_eq_true rfl⟩ (by first | exact Nat.le_of_ble_eq_true rfl | (simp only [List.map_cons, List.map_nil, va_cat, List.sum_cons, List.sum_nil]; exact Nat.le_of_ble_eq_true rfl)) dX5_tells_3 (kV kk)
  · exact e_callU (as := [.int (12 : Int32)]) C wb_X5_began wu_X5_32_1 (ci := 1) rfl h0 (m_X5_began h) rfl ⟨Nat.le_of_ble_eq_true rfl, Nat.le_of_ble_eq_true rfl⟩ ⟨Nat.le_of_ble_eq_true rfl, Nat.le_of_ble_eq_true rfl⟩ (by first | exact Nat.le_of_ble_eq_true rfl | (simp only [List.map_cons, List.map_nil, va_cat, List.sum_cons, List.sum_nil]; exact Nat.le_of_ble_eq_true rfl)) dX5_tells_3 (kV kk)
  · exact e_callU (as := [.int (12 : Int32)]) C wb_X5_began wu_X5_32_2 (ci := 2) rfl h0 (m_X5_began h) rfl ⟨Nat.le_of_ble_eq_true rfl, Nat.le_of_ble_eq_true rfl⟩ ⟨Nat.le_of_ble_eq_true rfl, Nat.le_of_ble_eq_true rfl⟩ (by first | exact Nat.le_of_ble_eq_true rfl | (simp only [List.map_cons, List.map_nil, va_cat, List.sum_cons, List.sum_nil]; exact Nat.le_of_ble_eq_true rfl)) dX5_tells_3 (kV kk)
  · exact e_callU (as := [.int (12 : Int32)]) C wb_X5_began wu_X5_32_4 (ci := 4) rfl h0 (m_X5_began h) rfl ⟨Nat.le_of_ble_eq_true rfl, Nat.le_of_ble_eq_true rfl⟩ ⟨Nat.le_of_ble_eq_true rfl, Nat.le_of_ble_eq_true rfl⟩ (by first | exact Nat.le_of_ble_eq_true rfl | (simp only [List.map_cons, List.map_nil, va_cat, List.sum_cons, List.sum_nil]; exact Nat.le_of_ble_eq_true rfl)) dX5_tells_3 (kV kk)
  · exact e_callU (as := [.int (12 : Int32)]) C wb_X5_began wu_X5_32_6 (ci := 6) rfl h0 (m_X5_began h) rfl ⟨Nat.le_of_ble_eq_true rfl, Nat.le_of_ble_eq_true rfl⟩ ⟨Nat.le_of_ble_eq_true rfl, Nat.le_of_ble_eq_true rfl⟩ (by first | exact Nat.le_of_ble_eq_true rfl | (simp only [List.map_cons, List.map_nil, va_cat, List.sum_cons, List.sum_nil]; exact Nat.le_of_ble_eq_true rfl)) dX5_tells_3 (kV kk)
  · exact e_callU (as := [.int (12 : Int32)]) C wb_X5_began wu_X5_32_7 (ci := 7) rfl h0 (m_X5_began h) rfl ⟨Nat.le_of_ble_eq_true rfl, Nat.le_of_ble_eq_true rfl⟩ ⟨Nat.le_of_ble_eq_true rfl, Nat.le_of_ble_eq_true rfl⟩ (by first | exact Nat.le_of_ble_eq_true rfl | (simp only [List.map_cons, List.map_nil, va_cat, List.sum_cons, List.sum_nil]; exact Nat.le_of_ble_eq_true rfl)) dX5_tells_3 (kV kk)
  · exact e_callU (as := [.int (12 : Int32)]) C wb_X5_began wu_X5_32_9 (ci := 9) rfl h0 (m_X5_began h) rfl ⟨Nat.le_of_ble_eq_true rfl, Nat.le_of_ble_eq_true rfl⟩ ⟨Nat.le_of_ble_eq_true rfl, Nat.le_of_ble_eq_true rfl⟩ (by first | exact Nat.le_of_ble_eq_true rfl | (simp only [List.map_cons, List.map_nil, va_cat, List.sum_cons, List.sum_nil]; exact Nat.le_of_ble_eq_true rfl)) dX5_tells_3 (kV kk)
theorem m_X5_tells  {a0 : Nat} {x1 : Int32} {M : Mem} {Q : Int32 → Mem → Prop} (h : f_X5_tells a0 x1 M Q) : Con yX5_tells cX5_tells 2 (some .int) 7 0 0 [.ref a0, .int x1] M (rI Q) :=
  con_of2 (al := [(0, .ref a0), (1, .int x1)]) (by decide) (by exact Nat.le_of_ble_eq_true rfl) (by rfl) (fun p l e s m args below meth c g C hr hlk _ => w_X5_tells C hr hlk h)
set_option maxHeartbeats 4000000 in
set_option maxRecDepth 100000 in
theorem w_X2_tells {p : Program} {l : Launch} {e : Env} {s : State} {m : MethodId} {args : Array Value} {below : List Frame} {meth : Method} {c : Code} {g : Geo} (C : Cx p s m args c cX2_tells RX2 2 g) (hr : meth.sig.returnType = (some .int)) (hlk : meth.locks = false) {a0 : Nat} {x1 : Int32} {M : Mem} {Q : Int32 → Mem → Prop} (h : f_X2_tells a0 x1 M Q) : E p l e (rmO 8 0 0) s m args below meth c g 2 (MQ below (QcM g (rI Q)) args s 0 0 (gA g)) 0 0 0 [(0, .ref a0), (1, .int x1)] [] M := by
  unfold f_X2_tells at h
  refine e_aload_n C 0 dX2_tells_0 rfl rfl ?_
  refine e_bipush (v := 40) C dX2_tells_1 (by decide) ?_
  have kk : ∀ (M2 : Mem), (isO M2 a0 [2] ∧ (f_X5_tells a0 x1 M2 (fun w3 M4 => (v_X2_takes a0 (1 : Int32) M4 (fun w6 M7 => Q (w3 + w6) M7))))) → E p l e (rmO 8 0 0) s m args below meth c g 2 (MQ below (QcM g (rI Q)) args s 0 0 (gA g)) 0 0 6 [(0, .ref a0), (1, .int x1)] [] M2 := by
    intro M2 h10
    refine e_aload_n C 0 dX2_tells_6 rfl rfl ?_
    refine e_iload_n C 1 dX2_tells_7 rfl rfl ?_
    obtain ⟨o5, h10⟩ := h10
    refine e_callSUx (as := [.int x1]) C wb_X5_tells wsu_X2_17 [2] (by decide) o5 (m_X5_tells h10) rfl ⟨Nat.le_of_ble_eq_true rfl, Nat.le_of_ble_eq_true rfl⟩ ⟨Nat.le_of_ble_eq_true rfl, Nat.le_of_ble_eq_true rfl⟩ (by first | exact Nat.le_of_ble_eq_true rfl | (simp only [List.map_cons, List.map_nil, va_cat, List.sum_cons, List.sum_nil]; exact Nat.le_of_ble_eq_true rfl)) dX2_tells_8 (kI (fun w3 M4 h9 => ?_))
    refine e_aload_n C 0 dX2_tells_11 rfl rfl ?_
    refine e_iconst (v := 1) C dX2_tells_12 (by decide) ?_
    have kk : ∀ (w6 : Int32) (M7 : Mem), Q (w3 + w6) M7 → E p l e (rmO 8 0 0) s m args below meth c g 2 (MQ below (QcM g (rI Q)) args s 0 0 (gA g)) 0 0 16 [(0, .ref a0), (1, .int x1)] [.int w6, .int w3] M7 := by
      intro w6 M7 h8
      refine e_iadd C dX2_tells_16 ?_
      exact e_iret C hr hlk (Nat.le_refl _) (Nat.le_refl _) dX2_tells_17 ⟨_, rfl, h8⟩
    rcases h9 with ⟨h0, h9⟩
    · exact e_callU (as := [.int (1 : Int32)]) C wb_X5_takes wu_X2_21_2 (ci := 2) rfl h0 (m_X5_takes h9) rfl ⟨Nat.le_of_ble_eq_true rfl, Nat.le_of_ble_eq_true rfl⟩ ⟨Nat.le_of_ble_eq_true rfl, Nat.le_of_ble_eq_true rfl⟩ (by first | exact Nat.le_of_ble_eq_true rfl | (simp only [List.map_cons, List.map_nil, va_cat, List.sum_cons, List.sum_nil]; exact Nat.le_of_ble_eq_true rfl)) dX2_tells_13 (kI kk)
  rcases h with ⟨h0, h⟩
  · exact e_callU (as := [.int (40 : Int32)]) C wb_X5_began wu_X2_13_2 (ci := 2) rfl h0 (m_X5_began h) rfl ⟨Nat.le_of_ble_eq_true rfl, Nat.le_of_ble_eq_true rfl⟩ ⟨Nat.le_of_ble_eq_true rfl, Nat.le_of_ble_eq_true rfl⟩ (by first | exact Nat.le_of_ble_eq_true rfl | (simp only [List.map_cons, List.map_nil, va_cat, List.sum_cons, List.sum_nil]; exact Nat.le_of_ble_eq_true rfl)) dX2_tells_3 (kV kk)
theorem m_X2_tells  {a0 : Nat} {x1 : Int32} {M : Mem} {Q : Int32 → Mem → Prop} (h : f_X2_tells a0 x1 M Q) : Con yX2_tells cX2_tells 2 (some .int) 8 0 0 [.ref a0, .int x1] M (rI Q) :=
  con_of2 (al := [(0, .ref a0), (1, .int x1)]) (by decide) (by exact Nat.le_of_ble_eq_true rfl) (by rfl) (fun p l e s m args below meth c g C hr hlk _ => w_X2_tells C hr hlk h)
set_option maxHeartbeats 4000000 in
set_option maxRecDepth 100000 in
theorem w_X5_asks {p : Program} {l : Launch} {e : Env} {s : State} {m : MethodId} {args : Array Value} {below : List Frame} {meth : Method} {c : Code} {g : Geo} (C : Cx p s m args c cX5_asks RX5 3 g) (hr : meth.sig.returnType = (some .int)) (hlk : meth.locks = false) {a0 : Nat} {x1 : Int32} {x2 : Int32} {M : Mem} {Q : Int32 → Mem → Prop} (h : f_X5_asks a0 x1 x2 M Q) : E p l e (rmO 1 0 0) s m args below meth c g 3 (MQ below (QcM g (rI Q)) args s 0 0 (gA g)) 0 0 0 [(0, .ref a0), (1, .int x1), (2, .int x2)] [] M := by
  unfold f_X5_asks at h
  refine e_iload_n C 1 dX5_asks_0 rfl rfl ?_
  exact e_iret C hr hlk (Nat.le_refl _) (Nat.le_refl _) dX5_asks_1 ⟨_, rfl, h⟩
theorem m_X5_asks  {a0 : Nat} {x1 : Int32} {x2 : Int32} {M : Mem} {Q : Int32 → Mem → Prop} (h : f_X5_asks a0 x1 x2 M Q) : Con yX5_asks cX5_asks 3 (some .int) 1 0 0 [.ref a0, .int x1, .int x2] M (rI Q) :=
  con_of2 (al := [(0, .ref a0), (1, .int x1), (2, .int x2)]) (by decide) (by exact Nat.le_of_ble_eq_true rfl) (by rfl) (fun p l e s m args below meth c g C hr hlk _ => w_X5_asks C hr hlk h)
set_option maxHeartbeats 4000000 in
set_option maxRecDepth 100000 in
theorem w_X4_asks {p : Program} {l : Launch} {e : Env} {s : State} {m : MethodId} {args : Array Value} {below : List Frame} {meth : Method} {c : Code} {g : Geo} (C : Cx p s m args c cX4_asks RX4 3 g) (hr : meth.sig.returnType = (some .int)) (hlk : meth.locks = false) {a0 : Nat} {x1 : Int32} {x2 : Int32} {M : Mem} {Q : Int32 → Mem → Prop} (h : f_X4_asks a0 x1 x2 M Q) : E p l e (rmO 1 0 0) s m args below meth c g 3 (MQ below (QcM g (rI Q)) args s 0 0 (gA g)) 0 0 0 [(0, .ref a0), (1, .int x1), (2, .int x2)] [] M := by
  unfold f_X4_asks at h
  refine e_iload_n C 1 dX4_asks_0 rfl rfl ?_
  refine e_aload_n C 0 dX4_asks_1 rfl rfl ?_
  obtain ⟨o1, h⟩ := h
  refine e_getI C [4] 1 (fg_of fg_X4_7) o1 dX4_asks_2 ?_
  refine e_iload_n C 2 dX4_asks_5 rfl rfl ?_
  refine e_imul C dX4_asks_6 ?_
  refine e_iadd C dX4_asks_7 ?_
  exact e_iret C hr hlk (Nat.le_refl _) (Nat.le_refl _) dX4_asks_8 ⟨_, rfl, h⟩
theorem m_X4_asks  {a0 : Nat} {x1 : Int32} {x2 : Int32} {M : Mem} {Q : Int32 → Mem → Prop} (h : f_X4_asks a0 x1 x2 M Q) : Con yX4_asks cX4_asks 3 (some .int) 1 0 0 [.ref a0, .int x1, .int x2] M (rI Q) :=
  con_of2 (al := [(0, .ref a0), (1, .int x1), (2, .int x2)]) (by decide) (by exact Nat.le_of_ble_eq_true rfl) (by rfl) (fun p l e s m args below meth c g C hr hlk _ => w_X4_asks C hr hlk h)
set_option maxHeartbeats 4000000 in
set_option maxRecDepth 100000 in
theorem w_X5_due {p : Program} {l : Launch} {e : Env} {s : State} {m : MethodId} {args : Array Value} {below : List Frame} {meth : Method} {c : Code} {g : Geo} (C : Cx p s m args c cX5_due RX5 3 g) (hr : meth.sig.returnType = (some .int)) (hlk : meth.locks = false) {a0 : Nat} {x1 : Int32} {x2 : Int32} {M : Mem} {Q : Int32 → Mem → Prop} (h : f_X5_due a0 x1 x2 M Q) : E p l e (rmO 1 0 0) s m args below meth c g 3 (MQ below (QcM g (rI Q)) args s 0 0 (gA g)) 0 0 0 [(0, .ref a0), (1, .int x1), (2, .int x2)] [] M := by
  unfold f_X5_due at h
  refine e_iload_n C 1 dX5_due_0 rfl rfl ?_
  exact e_iret C hr hlk (Nat.le_refl _) (Nat.le_refl _) dX5_due_1 ⟨_, rfl, h⟩
theorem m_X5_due  {a0 : Nat} {x1 : Int32} {x2 : Int32} {M : Mem} {Q : Int32 → Mem → Prop} (h : f_X5_due a0 x1 x2 M Q) : Con yX5_due cX5_due 3 (some .int) 1 0 0 [.ref a0, .int x1, .int x2] M (rI Q) :=
  con_of2 (al := [(0, .ref a0), (1, .int x1), (2, .int x2)]) (by decide) (by exact Nat.le_of_ble_eq_true rfl) (by rfl) (fun p l e s m args below meth c g C hr hlk _ => w_X5_due C hr hlk h)
set_option maxHeartbeats 4000000 in
set_option maxRecDepth 100000 in
theorem w_X6_due {p : Program} {l : Launch} {e : Env} {s : State} {m : MethodId} {args : Array Value} {below : List Frame} {meth : Method} {c : Code} {g : Geo} (C : Cx p s m args c cX6_due RX6 3 g) (hr : meth.sig.returnType = (some .int)) (hlk : meth.locks = false) {a0 : Nat} {x1 : Int32} {x2 : Int32} {M : Mem} {Q : Int32 → Mem → Prop} (h : f_X6_due a0 x1 x2 M Q) : E p l e (rmO 1 0 0) s m args below meth c g 3 (MQ below (QcM g (rI Q)) args s 0 0 (gA g)) 0 0 0 [(0, .ref a0), (1, .int x1), (2, .int x2)] [] M := by
  unfold f_X6_due at h
  refine e_iload_n C 2 dX6_due_0 rfl rfl ?_
  refine e_iload_n C 1 dX6_due_1 rfl rfl ?_
  refine e_icmp_ge (tgt := 9) C dX6_due_2 (by decide) (fun q1 => ?_) (fun q1 => ?_)
  · replace h := ite_t h q1
    refine e_iload_n C 1 dX6_due_9 rfl rfl ?_
    exact e_iret C hr hlk (Nat.le_refl _) (Nat.le_refl _) dX6_due_10 ⟨_, rfl, h⟩
  · replace h := ite_f h q1
    refine e_iconst (v := 0) C dX6_due_5 (by decide) ?_
    refine e_goto (tgt := 10) C dX6_due_6 (by decide) ?_
    exact e_iret C hr hlk (Nat.le_refl _) (Nat.le_refl _) dX6_due_10 ⟨_, rfl, h⟩
theorem m_X6_due  {a0 : Nat} {x1 : Int32} {x2 : Int32} {M : Mem} {Q : Int32 → Mem → Prop} (h : f_X6_due a0 x1 x2 M Q) : Con yX6_due cX6_due 3 (some .int) 1 0 0 [.ref a0, .int x1, .int x2] M (rI Q) :=
  con_of2 (al := [(0, .ref a0), (1, .int x1), (2, .int x2)]) (by decide) (by exact Nat.le_of_ble_eq_true rfl) (by rfl) (fun p l e s m args below meth c g C hr hlk _ => w_X6_due C hr hlk h)
set_option maxHeartbeats 4000000 in
set_option maxRecDepth 100000 in
theorem w_X5_lineTold {p : Program} {l : Launch} {e : Env} {s : State} {m : MethodId} {args : Array Value} {below : List Frame} {meth : Method} {c : Code} {g : Geo} (C : Cx p s m args c cX5_lineTold RX5 2 g) (hr : meth.sig.returnType = (some .int)) (hlk : meth.locks = false) {a0 : Nat} {x1 : Int32} {M : Mem} {Q : Int32 → Mem → Prop} (h : f_X5_lineTold a0 x1 M Q) : E p l e (rmO 1 0 0) s m args below meth c g 2 (MQ below (QcM g (rI Q)) args s 0 0 (gA g)) 0 0 0 [(0, .ref a0), (1, .int x1)] [] M := by
  unfold f_X5_lineTold at h
  refine e_iconst (v := -1) C dX5_lineTold_0 (by decide) ?_
  exact e_iret C hr hlk (Nat.le_refl _) (Nat.le_refl _) dX5_lineTold_1 ⟨_, rfl, h⟩
theorem m_X5_lineTold  {a0 : Nat} {x1 : Int32} {M : Mem} {Q : Int32 → Mem → Prop} (h : f_X5_lineTold a0 x1 M Q) : Con yX5_lineTold cX5_lineTold 2 (some .int) 1 0 0 [.ref a0, .int x1] M (rI Q) :=
  con_of2 (al := [(0, .ref a0), (1, .int x1)]) (by decide) (by exact Nat.le_of_ble_eq_true rfl) (by rfl) (fun p l e s m args below meth c g C hr hlk _ => w_X5_lineTold C hr hlk h)
set_option maxHeartbeats 4000000 in
set_option maxRecDepth 100000 in
theorem w_X9_lineTold {p : Program} {l : Launch} {e : Env} {s : State} {m : MethodId} {args : Array Value} {below : List Frame} {meth : Method} {c : Code} {g : Geo} (C : Cx p s m args c cX9_lineTold RX9 2 g) (hr : meth.sig.returnType = (some .int)) (hlk : meth.locks = false) {a0 : Nat} {x1 : Int32} {M : Mem} {Q : Int32 → Mem → Prop} (h : f_X9_lineTold a0 x1 M Q) : E p l e (rmO 1 0 0) s m args below meth c g 2 (MQ below (QcM g (rI Q)) args s 0 0 (gA g)) 0 0 0 [(0, .ref a0), (1, .int x1)] [] M := by
  unfold f_X9_lineTold at h
  refine e_iload_n C 1 dX9_lineTold_0 rfl rfl ?_
  refine e_if_lt (tgt := 10) C dX9_lineTold_1 (by decide) (fun q1 => ?_) (fun q1 => ?_)
  · replace h := ite_t h q1
    refine e_iconst (v := -1) C dX9_lineTold_10 (by decide) ?_
    refine e_goto (tgt := 20) C dX9_lineTold_11 (by decide) ?_
    exact e_iret C hr hlk (Nat.le_refl _) (Nat.le_refl _) dX9_lineTold_20 ⟨_, rfl, h⟩
  · replace h := ite_f h q1
    refine e_iload_n C 1 dX9_lineTold_4 rfl rfl ?_
    refine e_bipush (v := 10) C dX9_lineTold_5 (by decide) ?_
    refine e_icmp_lt (tgt := 14) C dX9_lineTold_7 (by decide) (fun q2 => ?_) (fun q2 => ?_)
    · replace h := ite_t h q2
      refine e_aload_n C 0 dX9_lineTold_14 rfl rfl ?_
      obtain ⟨o3, h⟩ := h
      refine e_getR C [9] 4 (fg_of fg_X9_9) o3 dX9_lineTold_15 ?_
      refine e_iload_n C 1 dX9_lineTold_18 rfl rfl ?_
      obtain ⟨b4, p5, h⟩ := h
      try rw [p5]
      obtain ⟨o6, h⟩ := h
      refine e_iald C o6 dX9_lineTold_19 ?_
      exact e_iret C hr hlk (Nat.le_refl _) (Nat.le_refl _) dX9_lineTold_20 ⟨_, rfl, h⟩
    · replace h := ite_f h q2
      refine e_iconst (v := -1) C dX9_lineTold_10 (by decide) ?_
      refine e_goto (tgt := 20) C dX9_lineTold_11 (by decide) ?_
      exact e_iret C hr hlk (Nat.le_refl _) (Nat.le_refl _) dX9_lineTold_20 ⟨_, rfl, h⟩
theorem m_X9_lineTold  {a0 : Nat} {x1 : Int32} {M : Mem} {Q : Int32 → Mem → Prop} (h : f_X9_lineTold a0 x1 M Q) : Con yX9_lineTold cX9_lineTold 2 (some .int) 1 0 0 [.ref a0, .int x1] M (rI Q) :=
  con_of2 (al := [(0, .ref a0), (1, .int x1)]) (by decide) (by exact Nat.le_of_ble_eq_true rfl) (by rfl) (fun p l e s m args below meth c g C hr hlk _ => w_X9_lineTold C hr hlk h)
set_option maxHeartbeats 4000000 in
set_option maxRecDepth 100000 in
theorem w_X5_aheadOfPaying {p : Program} {l : Launch} {e : Env} {s : State} {m : MethodId} {args : Array Value} {below : List Frame} {meth : Method} {c : Code} {g : Geo} (C : Cx p s m args c cX5_aheadOfPaying RX5 3 g) (hr : meth.sig.returnType = (some .int)) (hlk : meth.locks = false) {a0 : Nat} {x1 : Int32} {x2 : Int32} {M : Mem} {Q : Int32 → Mem → Prop} (h : f_X5_aheadOfPaying a0 x1 x2 M Q) : E p l e (rmO 1 0 0) s m args below meth c g 3 (MQ below (QcM g (rI Q)) args s 0 0 (gA g)) 0 0 0 [(0, .ref a0), (1, .int x1), (2, .int x2)] [] M := by
  unfold f_X5_aheadOfPaying at h
  refine e_iload_n C 2 dX5_aheadOfPaying_0 rfl rfl ?_
  exact e_iret C hr hlk (Nat.le_refl _) (Nat.le_refl _) dX5_aheadOfPaying_1 ⟨_, rfl, h⟩
theorem m_X5_aheadOfPaying  {a0 : Nat} {x1 : Int32} {x2 : Int32} {M : Mem} {Q : Int32 → Mem → Prop} (h : f_X5_aheadOfPaying a0 x1 x2 M Q) : Con yX5_aheadOfPaying cX5_aheadOfPaying 3 (some .int) 1 0 0 [.ref a0, .int x1, .int x2] M (rI Q) :=
  con_of2 (al := [(0, .ref a0), (1, .int x1), (2, .int x2)]) (by decide) (by exact Nat.le_of_ble_eq_true rfl) (by rfl) (fun p l e s m args below meth c g C hr hlk _ => w_X5_aheadOfPaying C hr hlk h)
set_option maxHeartbeats 4000000 in
set_option maxRecDepth 100000 in
theorem w_X7_aheadOfPaying {p : Program} {l : Launch} {e : Env} {s : State} {m : MethodId} {args : Array Value} {below : List Frame} {meth : Method} {c : Code} {g : Geo} (C : Cx p s m args c cX7_aheadOfPaying RX7 3 g) (hr : meth.sig.returnType = (some .int)) (hlk : meth.locks = false) {a0 : Nat} {x1 : Int32} {x2 : Int32} {M : Mem} {Q : Int32 → Mem → Prop} (h : f_X7_aheadOfPaying a0 x1 x2 M Q) : E p l e (rmO 1 0 0) s m args below meth c g 3 (MQ below (QcM g (rI Q)) args s 0 0 (gA g)) 0 0 0 [(0, .ref a0), (1, .int x1), (2, .int x2)] [] M := by
  unfold f_X7_aheadOfPaying at h
  refine e_iload_n C 1 dX7_aheadOfPaying_0 rfl rfl ?_
  exact e_iret C hr hlk (Nat.le_refl _) (Nat.le_refl _) dX7_aheadOfPaying_1 ⟨_, rfl, h⟩
theorem m_X7_aheadOfPaying  {a0 : Nat} {x1 : Int32} {x2 : Int32} {M : Mem} {Q : Int32 → Mem → Prop} (h : f_X7_aheadOfPaying a0 x1 x2 M Q) : Con yX7_aheadOfPaying cX7_aheadOfPaying 3 (some .int) 1 0 0 [.ref a0, .int x1, .int x2] M (rI Q) :=
  con_of2 (al := [(0, .ref a0), (1, .int x1), (2, .int x2)]) (by decide) (by exact Nat.le_of_ble_eq_true rfl) (by rfl) (fun p l e s m args below meth c g C hr hlk _ => w_X7_aheadOfPaying C hr hlk h)
set_option maxHeartbeats 4000000 in
set_option maxRecDepth 100000 in
theorem w_X5_turnsAway {p : Program} {l : Launch} {e : Env} {s : State} {m : MethodId} {args : Array Value} {below : List Frame} {meth : Method} {c : Code} {g : Geo} (C : Cx p s m args c cX5_turnsAway RX5 2 g) (hr : meth.sig.returnType = (some .boolean)) (hlk : meth.locks = false) {a0 : Nat} {x1 : Int32} {M : Mem} {Q : Bool → Mem → Prop} (h : f_X5_turnsAway a0 x1 M Q) : E p l e (rmO 1 0 0) s m args below meth c g 2 (MQ below (QcM g (rZ Q)) args s 0 0 (gA g)) 0 0 0 [(0, .ref a0), (1, .int x1)] [] M := by
  unfold f_X5_turnsAway at h
  refine e_iconst (v := 0) C dX5_turnsAway_0 (by decide) ?_
  exact e_zret C hr rfl hlk (Nat.le_refl _) (Nat.le_refl _) dX5_turnsAway_1 ⟨false, rfl, h⟩
theorem m_X5_turnsAway  {a0 : Nat} {x1 : Int32} {M : Mem} {Q : Bool → Mem → Prop} (h : f_X5_turnsAway a0 x1 M Q) : Con yX5_turnsAway cX5_turnsAway 2 (some .boolean) 1 0 0 [.ref a0, .int x1] M (rZ Q) :=
  con_of2 (al := [(0, .ref a0), (1, .int x1)]) (by decide) (by exact Nat.le_of_ble_eq_true rfl) (by rfl) (fun p l e s m args below meth c g C hr hlk _ => w_X5_turnsAway C hr hlk h)
set_option maxHeartbeats 4000000 in
set_option maxRecDepth 100000 in
theorem w_X5_next_J8 {p : Program} {l : Launch} {e : Env} {s : State} {m : MethodId} {args : Array Value} {below : List Frame} {meth : Method} {c : Code} {g : Geo} (C : Cx p s m args c cX5_next RX5 4 g) (hr : meth.sig.returnType = (some .int)) (hlk : meth.locks = false) {a0 : Nat} {x1 : Int32} {x2 : Int32} {x3 : Int32} {M : Mem} {Q : Int32 → Mem → Prop} (h : f_X5_next_J8 a0 x1 x2 x3 M Q) : E p l e (rmO 2 0 0) s m args below meth c g 4 (MQ below (QcM g (rI Q)) args s 0 0 (gA g)) 0 0 8 [(0, .ref a0), (1, .int x1), (2, .int x2), (3, .int x3)] [] M := by
  unfold f_X5_next_J8 at h
  refine e_iload_n C 1 dX5_next_8 rfl rfl ?_
  refine e_iload_n C 2 dX5_next_9 rfl rfl ?_
  refine e_mmax C wd_691 wd_619 wd_12 wd_620 ⟨Nat.le_of_ble_eq_true rfl, Nat.le_of_ble_eq_true rfl⟩ ⟨Nat.le_of_ble_eq_true rfl, Nat.le_of_ble_eq_true rfl⟩ (by first | exact Nat.le_of_ble_eq_true rfl | (simp only [List.map_cons, List.map_nil, va_cat, List.sum_cons, List.sum_nil]; exact Nat.le_of_ble_eq_true rfl)) dX5_next_10 ?_
  exact e_iret C hr hlk (Nat.le_refl _) (Nat.le_refl _) dX5_next_13 ⟨_, rfl, h⟩
set_option maxHeartbeats 4000000 in
set_option maxRecDepth 100000 in
theorem w_X5_next {p : Program} {l : Launch} {e : Env} {s : State} {m : MethodId} {args : Array Value} {below : List Frame} {meth : Method} {c : Code} {g : Geo} (C : Cx p s m args c cX5_next RX5 4 g) (hr : meth.sig.returnType = (some .int)) (hlk : meth.locks = false) {a0 : Nat} {x1 : Int32} {x2 : Int32} {x3 : Int32} {M : Mem} {Q : Int32 → Mem → Prop} (h : f_X5_next a0 x1 x2 x3 M Q) : E p l e (rmO 2 0 0) s m args below meth c g 4 (MQ below (QcM g (rI Q)) args s 0 0 (gA g)) 0 0 0 [(0, .ref a0), (1, .int x1), (2, .int x2), (3, .int x3)] [] M := by
  unfold f_X5_next at h
  refine e_iload_n C 1 dX5_next_0 rfl rfl ?_
  refine e_if_lt (tgt := 8) C dX5_next_1 (by decide) (fun q1 => ?_) (fun q1 => ?_)
  · replace h := ite_t h q1
    exact w_X5_next_J8 C hr hlk h
  · replace h := ite_f h q1
    refine e_iload_n C 2 dX5_next_4 rfl rfl ?_
    refine e_if_ge (tgt := 14) C dX5_next_5 (by decide) (fun q2 => ?_) (fun q2 => ?_)
    · replace h := ite_t h q2
      refine e_iload_n C 1 dX5_next_14 rfl rfl ?_
      refine e_iload_n C 2 dX5_next_15 rfl rfl ?_
      refine e_mmin C wd_692 wd_432 wd_12 wd_433 ⟨Nat.le_of_ble_eq_true rfl, Nat.le_of_ble_eq_true rfl⟩ ⟨Nat.le_of_ble_eq_true rfl, Nat.le_of_ble_eq_true rfl⟩ (by first | exact Nat.le_of_ble_eq_true rfl | (simp only [List.map_cons, List.map_nil, va_cat, List.sum_cons, List.sum_nil]; exact Nat.le_of_ble_eq_true rfl)) dX5_next_16 ?_
      exact e_iret C hr hlk (Nat.le_refl _) (Nat.le_refl _) dX5_next_19 ⟨_, rfl, h⟩
    · replace h := ite_f h q2
      exact w_X5_next_J8 C hr hlk h
theorem m_X5_next  {a0 : Nat} {x1 : Int32} {x2 : Int32} {x3 : Int32} {M : Mem} {Q : Int32 → Mem → Prop} (h : f_X5_next a0 x1 x2 x3 M Q) : Con yX5_next cX5_next 4 (some .int) 2 0 0 [.ref a0, .int x1, .int x2, .int x3] M (rI Q) :=
  con_of2 (al := [(0, .ref a0), (1, .int x1), (2, .int x2), (3, .int x3)]) (by decide) (by exact Nat.le_of_ble_eq_true rfl) (by rfl) (fun p l e s m args below meth c g C hr hlk _ => w_X5_next C hr hlk h)
set_option maxHeartbeats 4000000 in
set_option maxRecDepth 100000 in
theorem w_X7_next {p : Program} {l : Launch} {e : Env} {s : State} {m : MethodId} {args : Array Value} {below : List Frame} {meth : Method} {c : Code} {g : Geo} (C : Cx p s m args c cX7_next RX7 4 g) (hr : meth.sig.returnType = (some .int)) (hlk : meth.locks = false) {a0 : Nat} {x1 : Int32} {x2 : Int32} {x3 : Int32} {M : Mem} {Q : Int32 → Mem → Prop} (h : f_X7_next a0 x1 x2 x3 M Q) : E p l e (rmO 1 0 0) s m args below meth c g 4 (MQ below (QcM g (rI Q)) args s 0 0 (gA g)) 0 0 0 [(0, .ref a0), (1, .int x1), (2, .int x2), (3, .int x3)] [] M := by
  unfold f_X7_next at h
  refine e_iload_n C 1 dX7_next_0 rfl rfl ?_
  refine e_if_lt (tgt := 20) C dX7_next_1 (by decide) (fun q1 => ?_) (fun q1 => ?_)
  · replace h := ite_t h q1
    refine e_iload_n C 2 dX7_next_20 rfl rfl ?_
    exact e_iret C hr hlk (Nat.le_refl _) (Nat.le_refl _) dX7_next_21 ⟨_, rfl, h⟩
  · replace h := ite_f h q1
    refine e_iload_n C 3 dX7_next_4 rfl rfl ?_
    refine e_aload_n C 0 dX7_next_5 rfl rfl ?_
    obtain ⟨o2, h⟩ := h
    refine e_getI C [7, 6] 1 (fg_of fg_X7_7) o2 dX7_next_6 ?_
    refine e_icmp_lt (tgt := 16) C dX7_next_9 (by decide) (fun q3 => ?_) (fun q3 => ?_)
    · replace h := ite_t h q3
      refine e_iload_n C 1 dX7_next_16 rfl rfl ?_
      refine e_goto (tgt := 21) C dX7_next_17 (by decide) ?_
      exact e_iret C hr hlk (Nat.le_refl _) (Nat.le_refl _) dX7_next_21 ⟨_, rfl, h⟩
    · replace h := ite_f h q3
      refine e_iload_n C 2 dX7_next_12 rfl rfl ?_
      refine e_if_ge (tgt := 20) C dX7_next_13 (by decide) (fun q4 => ?_) (fun q4 => ?_)
      · replace h := ite_t h q4
        refine e_iload_n C 2 dX7_next_20 rfl rfl ?_
        exact e_iret C hr hlk (Nat.le_refl _) (Nat.le_refl _) dX7_next_21 ⟨_, rfl, h⟩
      · replace h := ite_f h q4
        refine e_iload_n C 1 dX7_next_16 rfl rfl ?_
        refine e_goto (tgt := 21) C dX7_next_17 (by decide) ?_
        exact e_iret C hr hlk (Nat.le_refl _) (Nat.le_refl _) dX7_next_21 ⟨_, rfl, h⟩
theorem m_X7_next  {a0 : Nat} {x1 : Int32} {x2 : Int32} {x3 : Int32} {M : Mem} {Q : Int32 → Mem → Prop} (h : f_X7_next a0 x1 x2 x3 M Q) : Con yX7_next cX7_next 4 (some .int) 1 0 0 [.ref a0, .int x1, .int x2, .int x3] M (rI Q) :=
  con_of2 (al := [(0, .ref a0), (1, .int x1), (2, .int x2), (3, .int x3)]) (by decide) (by exact Nat.le_of_ble_eq_true rfl) (by rfl) (fun p l e s m args below meth c g C hr hlk _ => w_X7_next C hr hlk h)
set_option maxHeartbeats 4000000 in
set_option maxRecDepth 100000 in
theorem w_X4_init {p : Program} {l : Launch} {e : Env} {s : State} {m : MethodId} {args : Array Value} {below : List Frame} {meth : Method} {c : Code} {g : Geo} (C : Cx p s m args c cX4_init RX4 3 g) (hr : meth.sig.returnType = none) (hlk : meth.locks = false) (hnm : meth.name = "<init>") {a0 : Nat} {x1 : Int32} {x2 : Int32} {M : Mem} {Q : Mem → Prop} (h : f_X4_init a0 x1 x2 M Q) : E p l e (rmO 4 1 20) s m args below meth c g 3 (MQ below (QcM g (rV Q)) args s 1 20 (gA g)) 0 0 0 [(0, .ref a0), (1, .int x1), (2, .int x2)] [] M := by
  unfold f_X4_init at h
  refine e_aload_n C 0 dX4_init_0 rfl rfl ?_
  refine e_iload_n C 1 dX4_init_1 rfl rfl ?_
  refine e_iload_n C 2 dX4_init_2 rfl rfl ?_
  refine e_callI (as := [.int x1, .int x2]) C wb_X1_init rfl wi_X4_1 (m_X1_init h) rfl ⟨Nat.le_of_ble_eq_true rfl, Nat.le_of_ble_eq_true rfl⟩ ⟨Nat.le_of_ble_eq_true rfl, Nat.le_of_ble_eq_true rfl⟩ (by first | exact Nat.le_of_ble_eq_true rfl | (simp only [List.map_cons, List.map_nil, va_cat, List.sum_cons, List.sum_nil]; exact Nat.le_of_ble_eq_true rfl)) dX4_init_3 (kV (fun M2 h3 => ?_))
  exact e_vret C hr hlk (Nat.le_of_ble_eq_true rfl) (Nat.le_of_ble_eq_true rfl) dX4_init_6 ⟨rfl, h3⟩
theorem m_X4_init  {a0 : Nat} {x1 : Int32} {x2 : Int32} {M : Mem} {Q : Mem → Prop} (h : f_X4_init a0 x1 x2 M Q) : Con yX4_init cX4_init 3 none 4 1 20 [.ref a0, .int x1, .int x2] M (rV Q) :=
  con_of2 (al := [(0, .ref a0), (1, .int x1), (2, .int x2)]) (by decide) (by exact Nat.le_of_ble_eq_true rfl) (by rfl) (fun p l e s m args below meth c g C hr hlk hnm => w_X4_init C hr hlk hnm h)
set_option maxHeartbeats 4000000 in
set_option maxRecDepth 100000 in
theorem w_X4_kind {p : Program} {l : Launch} {e : Env} {s : State} {m : MethodId} {args : Array Value} {below : List Frame} {meth : Method} {c : Code} {g : Geo} (C : Cx p s m args c cX4_kind RX4 1 g) (hr : meth.sig.returnType = (some .int)) (hlk : meth.locks = false) {a0 : Nat} {M : Mem} {Q : Int32 → Mem → Prop} (h : f_X4_kind a0 M Q) : E p l e (rmO 1 0 0) s m args below meth c g 1 (MQ below (QcM g (rI Q)) args s 0 0 (gA g)) 0 0 0 [(0, .ref a0)] [] M := by
  unfold f_X4_kind at h
  refine e_iconst (v := 3) C dX4_kind_0 (by decide) ?_
  exact e_iret C hr hlk (Nat.le_refl _) (Nat.le_refl _) dX4_kind_1 ⟨_, rfl, h⟩
theorem m_X4_kind  {a0 : Nat} {M : Mem} {Q : Int32 → Mem → Prop} (h : f_X4_kind a0 M Q) : Con yX4_kind cX4_kind 1 (some .int) 1 0 0 [.ref a0] M (rI Q) :=
  con_of2 (al := [(0, .ref a0)]) (by decide) (by exact Nat.le_of_ble_eq_true rfl) (by rfl) (fun p l e s m args below meth c g C hr hlk _ => w_X4_kind C hr hlk h)
set_option maxHeartbeats 4000000 in
set_option maxRecDepth 100000 in
theorem w_X5_kind {p : Program} {l : Launch} {e : Env} {s : State} {m : MethodId} {args : Array Value} {below : List Frame} {meth : Method} {c : Code} {g : Geo} (C : Cx p s m args c cX5_kind RX5 1 g) (hr : meth.sig.returnType = (some .int)) (hlk : meth.locks = false) {a0 : Nat} {M : Mem} {Q : Int32 → Mem → Prop} (h : f_X5_kind a0 M Q) : E p l e (rmO 1 0 0) s m args below meth c g 1 (MQ below (QcM g (rI Q)) args s 0 0 (gA g)) 0 0 0 [(0, .ref a0)] [] M := by
  unfold f_X5_kind at h
  refine e_iconst (v := 0) C dX5_kind_0 (by decide) ?_
  exact e_iret C hr hlk (Nat.le_refl _) (Nat.le_refl _) dX5_kind_1 ⟨_, rfl, h⟩
theorem m_X5_kind  {a0 : Nat} {M : Mem} {Q : Int32 → Mem → Prop} (h : f_X5_kind a0 M Q) : Con yX5_kind cX5_kind 1 (some .int) 1 0 0 [.ref a0] M (rI Q) :=
  con_of2 (al := [(0, .ref a0)]) (by decide) (by exact Nat.le_of_ble_eq_true rfl) (by rfl) (fun p l e s m args below meth c g C hr hlk _ => w_X5_kind C hr hlk h)
set_option maxHeartbeats 4000000 in
set_option maxRecDepth 100000 in
theorem w_X7_init {p : Program} {l : Launch} {e : Env} {s : State} {m : MethodId} {args : Array Value} {below : List Frame} {meth : Method} {c : Code} {g : Geo} (C : Cx p s m args c cX7_init RX7 3 g) (hr : meth.sig.returnType = none) (hlk : meth.locks = false) (hnm : meth.name = "<init>") {a0 : Nat} {x1 : Int32} {x2 : Int32} {M : Mem} {Q : Mem → Prop} (h : f_X7_init a0 x1 x2 M Q) : E p l e (rmO 3 1 20) s m args below meth c g 3 (MQ below (QcM g (rV Q)) args s 1 20 (gA g)) 0 0 0 [(0, .ref a0), (1, .int x1), (2, .int x2)] [] M := by
  unfold f_X7_init at h
  refine e_aload_n C 0 dX7_init_0 rfl rfl ?_
  refine e_iload_n C 1 dX7_init_1 rfl rfl ?_
  refine e_iload_n C 2 dX7_init_2 rfl rfl ?_
  refine e_callI (as := [.int x1, .int x2]) C wb_X5_init rfl wi_X7_1 (m_X5_init h) rfl ⟨Nat.le_of_ble_eq_true rfl, Nat.le_of_ble_eq_true rfl⟩ ⟨Nat.le_of_ble_eq_true rfl, Nat.le_of_ble_eq_true rfl⟩ (by first | exact Nat.le_of_ble_eq_true rfl | (simp only [List.map_cons, List.map_nil, va_cat, List.sum_cons, List.sum_nil]; exact Nat.le_of_ble_eq_true rfl)) dX7_init_3 (kV (fun M2 h3 => ?_))
  exact e_vret C hr hlk (Nat.le_of_ble_eq_true rfl) (Nat.le_of_ble_eq_true rfl) dX7_init_6 ⟨rfl, h3⟩
theorem m_X7_init  {a0 : Nat} {x1 : Int32} {x2 : Int32} {M : Mem} {Q : Mem → Prop} (h : f_X7_init a0 x1 x2 M Q) : Con yX7_init cX7_init 3 none 3 1 20 [.ref a0, .int x1, .int x2] M (rV Q) :=
  con_of2 (al := [(0, .ref a0), (1, .int x1), (2, .int x2)]) (by decide) (by exact Nat.le_of_ble_eq_true rfl) (by rfl) (fun p l e s m args below meth c g C hr hlk hnm => w_X7_init C hr hlk hnm h)
set_option maxHeartbeats 4000000 in
set_option maxRecDepth 100000 in
theorem w_X6_init {p : Program} {l : Launch} {e : Env} {s : State} {m : MethodId} {args : Array Value} {below : List Frame} {meth : Method} {c : Code} {g : Geo} (C : Cx p s m args c cX6_init RX6 3 g) (hr : meth.sig.returnType = none) (hlk : meth.locks = false) (hnm : meth.name = "<init>") {a0 : Nat} {x1 : Int32} {x2 : Int32} {M : Mem} {Q : Mem → Prop} (h : f_X6_init a0 x1 x2 M Q) : E p l e (rmO 4 1 20) s m args below meth c g 3 (MQ below (QcM g (rV Q)) args s 1 20 (gA g)) 0 0 0 [(0, .ref a0), (1, .int x1), (2, .int x2)] [] M := by
  unfold f_X6_init at h
  refine e_aload_n C 0 dX6_init_0 rfl rfl ?_
  refine e_iload_n C 1 dX6_init_1 rfl rfl ?_
  refine e_iload_n C 2 dX6_init_2 rfl rfl ?_
  refine e_callI (as := [.int x1, .int x2]) C wb_X7_init rfl wi_X6_1 (m_X7_init h) rfl ⟨Nat.le_of_ble_eq_true rfl, Nat.le_of_ble_eq_true rfl⟩ ⟨Nat.le_of_ble_eq_true rfl, Nat.le_of_ble_eq_true rfl⟩ (by first | exact Nat.le_of_ble_eq_true rfl | (simp only [List.map_cons, List.map_nil, va_cat, List.sum_cons, List.sum_nil]; exact Nat.le_of_ble_eq_true rfl)) dX6_init_3 (kV (fun M2 h3 => ?_))
  exact e_vret C hr hlk (Nat.le_of_ble_eq_true rfl) (Nat.le_of_ble_eq_true rfl) dX6_init_6 ⟨rfl, h3⟩
theorem m_X6_init  {a0 : Nat} {x1 : Int32} {x2 : Int32} {M : Mem} {Q : Mem → Prop} (h : f_X6_init a0 x1 x2 M Q) : Con yX6_init cX6_init 3 none 4 1 20 [.ref a0, .int x1, .int x2] M (rV Q) :=
  con_of2 (al := [(0, .ref a0), (1, .int x1), (2, .int x2)]) (by decide) (by exact Nat.le_of_ble_eq_true rfl) (by rfl) (fun p l e s m args below meth c g C hr hlk hnm => w_X6_init C hr hlk hnm h)
set_option maxHeartbeats 4000000 in
set_option maxRecDepth 100000 in
theorem w_X6_kind {p : Program} {l : Launch} {e : Env} {s : State} {m : MethodId} {args : Array Value} {below : List Frame} {meth : Method} {c : Code} {g : Geo} (C : Cx p s m args c cX6_kind RX6 1 g) (hr : meth.sig.returnType = (some .int)) (hlk : meth.locks = false) {a0 : Nat} {M : Mem} {Q : Int32 → Mem → Prop} (h : f_X6_kind a0 M Q) : E p l e (rmO 1 0 0) s m args below meth c g 1 (MQ below (QcM g (rI Q)) args s 0 0 (gA g)) 0 0 0 [(0, .ref a0)] [] M := by
  unfold f_X6_kind at h
  refine e_iconst (v := 4) C dX6_kind_0 (by decide) ?_
  exact e_iret C hr hlk (Nat.le_refl _) (Nat.le_refl _) dX6_kind_1 ⟨_, rfl, h⟩
theorem m_X6_kind  {a0 : Nat} {M : Mem} {Q : Int32 → Mem → Prop} (h : f_X6_kind a0 M Q) : Con yX6_kind cX6_kind 1 (some .int) 1 0 0 [.ref a0] M (rI Q) :=
  con_of2 (al := [(0, .ref a0)]) (by decide) (by exact Nat.le_of_ble_eq_true rfl) (by rfl) (fun p l e s m args below meth c g C hr hlk _ => w_X6_kind C hr hlk h)
set_option maxHeartbeats 4000000 in
set_option maxRecDepth 100000 in
theorem w_X6_tells {p : Program} {l : Launch} {e : Env} {s : State} {m : MethodId} {args : Array Value} {below : List Frame} {meth : Method} {c : Code} {g : Geo} (C : Cx p s m args c cX6_tells RX6 2 g) (hr : meth.sig.returnType = (some .int)) (hlk : meth.locks = false) {a0 : Nat} {x1 : Int32} {M : Mem} {Q : Int32 → Mem → Prop} (h : f_X6_tells a0 x1 M Q) : E p l e (rmO 8 0 0) s m args below meth c g 2 (MQ below (QcM g (rI Q)) args s 0 0 (gA g)) 0 0 0 [(0, .ref a0), (1, .int x1)] [] M := by
  unfold f_X6_tells at h
  refine e_aload_n C 0 dX6_tells_0 rfl rfl ?_
  refine e_bipush (v := 60) C dX6_tells_1 (by decide) ?_
  have kk : ∀ (M2 : Mem), (isO M2 a0 [6] ∧ (f_X5_tells a0 (x1 - (mI M2 a0 0)) M2 (fun w4 M5 => Q w4 M5))) → E p l e (rmO 8 0 0) s m args below meth c g 2 (MQ below (QcM g (rI Q)) args s 0 0 (gA g)) 0 0 6 [(0, .ref a0), (1, .int x1)] [] M2 := by
    intro M2 h7
    refine e_aload_n C 0 dX6_tells_6 rfl rfl ?_
    refine e_iload_n C 1 dX6_tells_7 rfl rfl ?_
    refine e_aload_n C 0 dX6_tells_8 rfl rfl ?_
    obtain ⟨o3, h7⟩ := h7
    refine e_getI C [6] 0 (fg_of fg_X6_13) o3 dX6_tells_9 ?_
    refine e_isub C dX6_tells_12 ?_
    refine e_callSGx (as := [.int (x1 - (mI M2 a0 0))]) C wb_X5_tells wsg_X6_17 [6] (by decide) o3 (m_X5_tells h7) rfl ⟨Nat.le_of_ble_eq_true rfl, Nat.le_of_ble_eq_true rfl⟩ ⟨Nat.le_of_ble_eq_true rfl, Nat.le_of_ble_eq_true rfl⟩ (by first | exact Nat.le_of_ble_eq_true rfl | (simp only [List.map_cons, List.map_nil, va_cat, List.sum_cons, List.sum_nil]; exact Nat.le_of_ble_eq_true rfl)) dX6_tells_13 (kI (fun w4 M5 h6 => ?_))
    exact e_iret C hr hlk (Nat.le_refl _) (Nat.le_refl _) dX6_tells_16 ⟨_, rfl, h6⟩
  rcases h with ⟨h0, h⟩
  · exact e_callU (as := [.int (60 : Int32)]) C wb_X5_began wu_X6_7_6 (ci := 6) rfl h0 (m_X5_began h) rfl ⟨Nat.le_of_ble_eq_true rfl, Nat.le_of_ble_eq_true rfl⟩ ⟨Nat.le_of_ble_eq_true rfl, Nat.le_of_ble_eq_true rfl⟩ (by first | exact Nat.le_of_ble_eq_true rfl | (simp only [List.map_cons, List.map_nil, va_cat, List.sum_cons, List.sum_nil]; exact Nat.le_of_ble_eq_true rfl)) dX6_tells_3 (kV kk)
theorem m_X6_tells  {a0 : Nat} {x1 : Int32} {M : Mem} {Q : Int32 → Mem → Prop} (h : f_X6_tells a0 x1 M Q) : Con yX6_tells cX6_tells 2 (some .int) 8 0 0 [.ref a0, .int x1] M (rI Q) :=
  con_of2 (al := [(0, .ref a0), (1, .int x1)]) (by decide) (by exact Nat.le_of_ble_eq_true rfl) (by rfl) (fun p l e s m args below meth c g C hr hlk _ => w_X6_tells C hr hlk h)
set_option maxHeartbeats 4000000 in
set_option maxRecDepth 100000 in
theorem w_X7_kind {p : Program} {l : Launch} {e : Env} {s : State} {m : MethodId} {args : Array Value} {below : List Frame} {meth : Method} {c : Code} {g : Geo} (C : Cx p s m args c cX7_kind RX7 1 g) (hr : meth.sig.returnType = (some .int)) (hlk : meth.locks = false) {a0 : Nat} {M : Mem} {Q : Int32 → Mem → Prop} (h : f_X7_kind a0 M Q) : E p l e (rmO 1 0 0) s m args below meth c g 1 (MQ below (QcM g (rI Q)) args s 0 0 (gA g)) 0 0 0 [(0, .ref a0)] [] M := by
  unfold f_X7_kind at h
  refine e_iconst (v := 2) C dX7_kind_0 (by decide) ?_
  exact e_iret C hr hlk (Nat.le_refl _) (Nat.le_refl _) dX7_kind_1 ⟨_, rfl, h⟩
theorem m_X7_kind  {a0 : Nat} {M : Mem} {Q : Int32 → Mem → Prop} (h : f_X7_kind a0 M Q) : Con yX7_kind cX7_kind 1 (some .int) 1 0 0 [.ref a0] M (rI Q) :=
  con_of2 (al := [(0, .ref a0)]) (by decide) (by exact Nat.le_of_ble_eq_true rfl) (by rfl) (fun p l e s m args below meth c g C hr hlk _ => w_X7_kind C hr hlk h)
set_option maxHeartbeats 4000000 in
set_option maxRecDepth 100000 in
theorem w_X8_init {p : Program} {l : Launch} {e : Env} {s : State} {m : MethodId} {args : Array Value} {below : List Frame} {meth : Method} {c : Code} {g : Geo} (C : Cx p s m args c cX8_init RX8 1 g) (hr : meth.sig.returnType = none) (hlk : meth.locks = false) (hnm : meth.name = "<init>") {a0 : Nat} {M : Mem} {Q : Mem → Prop} (h : f_X8_init a0 M Q) : E p l e (rmO 2 1 60) s m args below meth c g 1 (MQ below (QcM g (rV Q)) args s 1 60 (gA g)) 0 0 0 [(0, .ref a0)] [] M := by
  unfold f_X8_init at h
  refine e_aload_n C 0 dX8_init_0 rfl rfl ?_
  refine e_obj C wd_220 wd_27 wd_28 ⟨Nat.le_of_ble_eq_true rfl, Nat.le_of_ble_eq_true rfl⟩ (by first | exact Nat.le_of_ble_eq_true rfl | (simp only [List.map_cons, List.map_nil, va_cat, List.sum_cons, List.sum_nil]; exact Nat.le_of_ble_eq_true rfl)) dX8_init_1 ?_
  refine e_aload_n C 0 dX8_init_4 rfl rfl ?_
  refine e_iconst (v := -1) C dX8_init_5 (by decide) ?_
  obtain ⟨o1, h⟩ := h
  refine e_putI C [8] 0 false (fun z => by cases z) fp_X8_11 o1 dX8_init_6 ?_
  refine nmE (fun M2 e3 => ?_)
  replace h := h M2 e3
  have o4 : isO M2 a0 [8] := by rw [e3]; exact o1
  refine e_aload_n C 0 dX8_init_9 rfl rfl ?_
  refine e_bipush (v := 60) C dX8_init_10 (by decide) ?_
  refine e_newa C 3 (N := 60) (by decide) (by decide) (by decide) rfl wd_234 (Nat.le_of_ble_eq_true rfl) (Nat.le_of_ble_eq_true rfl) dX8_init_12 ?_
  refine nmE (fun M5 e6 => ?_)
  replace h := h M5 e6
  obtain ⟨o7, h⟩ := h
  refine e_putR (x := (some (mN M2))) C [8] 2 true (fun _ => hnm) fp_X8_15 o7 dX8_init_14 ?_
  refine nmE (fun M8 e9 => ?_)
  replace h := h M8 e9
  have o10 : isO M8 a0 [8] := by rw [e9]; exact o7
  exact e_vret C hr hlk (Nat.le_of_ble_eq_true rfl) (Nat.le_of_ble_eq_true rfl) dX8_init_17 ⟨rfl, h⟩
theorem m_X8_init  {a0 : Nat} {M : Mem} {Q : Mem → Prop} (h : f_X8_init a0 M Q) : Con yX8_init cX8_init 1 none 2 1 60 [.ref a0] M (rV Q) :=
  con_of2 (al := [(0, .ref a0)]) (by decide) (by exact Nat.le_of_ble_eq_true rfl) (by rfl) (fun p l e s m args below meth c g C hr hlk hnm => w_X8_init C hr hlk hnm h)
set_option maxHeartbeats 4000000 in
set_option maxRecDepth 100000 in
theorem w_X8_become {p : Program} {l : Launch} {e : Env} {s : State} {m : MethodId} {args : Array Value} {below : List Frame} {meth : Method} {c : Code} {g : Geo} (C : Cx p s m args c cX8_become RX8 3 g) (hr : meth.sig.returnType = none) (hlk : meth.locks = false) {a0 : Nat} {x1 : Int32} {x2 : Int32} {M : Mem} {Q : Mem → Prop} (h : f_X8_become a0 x1 x2 M Q) : E p l e (rmO 2 0 0) s m args below meth c g 3 (MQ below (QcM g (rV Q)) args s 0 0 (gA g)) 0 0 0 [(0, .ref a0), (1, .int x1), (2, .int x2)] [] M := by
  unfold f_X8_become at h
  refine e_aload_n C 0 dX8_become_0 rfl rfl ?_
  refine e_iload_n C 1 dX8_become_1 rfl rfl ?_
  obtain ⟨o1, h⟩ := h
  refine e_putI C [8] 0 false (fun z => by cases z) fp_X8_11 o1 dX8_become_2 ?_
  refine nmE (fun M2 e3 => ?_)
  replace h := h M2 e3
  have o4 : isO M2 a0 [8] := by rw [e3]; exact o1
  refine e_aload_n C 0 dX8_become_5 rfl rfl ?_
  refine e_iload_n C 2 dX8_become_6 rfl rfl ?_
  refine e_putI C [8] 1 false (fun z => by cases z) fp_X8_19 o4 dX8_become_7 ?_
  refine nmE (fun M5 e6 => ?_)
  replace h := h M5 e6
  have o7 : isO M5 a0 [8] := by rw [e6]; exact o4
  refine e_aload_n C 0 dX8_become_10 rfl rfl ?_
  refine e_getR C [8] 2 (fg_of fg_X8_15) o7 dX8_become_11 ?_
  refine e_lconst (v := 0) C dX8_become_14 (by decide) ?_
  refine e_callS (as := [va_rf (mP M5 a0 2), .long (0 : Int64)]) C wb_J7_fill_d0a16 wt_X8_22 (m_J7_fill_d0a16 h) rfl ⟨Nat.le_of_ble_eq_true rfl, Nat.le_of_ble_eq_true rfl⟩ ⟨Nat.le_of_ble_eq_true rfl, Nat.le_of_ble_eq_true rfl⟩ (by first | exact Nat.le_of_ble_eq_true rfl | (simp only [List.map_cons, List.map_nil, va_cat, List.sum_cons, List.sum_nil]; exact Nat.le_of_ble_eq_true rfl)) dX8_become_15 (kV (fun M9 h10 => ?_))
  exact e_vret C hr hlk (Nat.le_refl _) (Nat.le_refl _) dX8_become_18 ⟨rfl, h10⟩
theorem m_X8_become  {a0 : Nat} {x1 : Int32} {x2 : Int32} {M : Mem} {Q : Mem → Prop} (h : f_X8_become a0 x1 x2 M Q) : Con yX8_become cX8_become 3 none 2 0 0 [.ref a0, .int x1, .int x2] M (rV Q) :=
  con_of2 (al := [(0, .ref a0), (1, .int x1), (2, .int x2)]) (by decide) (by exact Nat.le_of_ble_eq_true rfl) (by rfl) (fun p l e s m args below meth c g C hr hlk _ => w_X8_become C hr hlk h)
set_option maxHeartbeats 4000000 in
set_option maxRecDepth 100000 in
theorem w_X8_lacks {p : Program} {l : Launch} {e : Env} {s : State} {m : MethodId} {args : Array Value} {below : List Frame} {meth : Method} {c : Code} {g : Geo} (C : Cx p s m args c cX8_lacks RX8 3 g) (hr : meth.sig.returnType = (some .boolean)) (hlk : meth.locks = false) {a0 : Nat} {y1 : Int64} {M : Mem} {Q : Bool → Mem → Prop} (h : f_X8_lacks a0 y1 M Q) : E p l e (rmO 1 0 0) s m args below meth c g 3 (MQ below (QcM g (rZ Q)) args s 0 0 (gA g)) 0 0 0 [(0, .ref a0), (1, .long y1)] [] M := by
  unfold f_X8_lacks at h
  refine e_lload_n C 1 dX8_lacks_0 rfl rfl ?_
  refine e_lconst (v := 0) C dX8_lacks_1 (by decide) ?_
  refine e_lcmp C dX8_lacks_2 ?_
  refine e_if_lt (tgt := 16) C dX8_lacks_3 (by decide) (fun q1 => ?_) (fun q1 => ?_)
  · replace h := ite_t h q1
    refine e_iconst (v := 1) C dX8_lacks_16 (by decide) ?_
    refine e_goto (tgt := 21) C dX8_lacks_17 (by decide) ?_
    exact e_zret C hr rfl hlk (Nat.le_refl _) (Nat.le_refl _) dX8_lacks_21 ⟨true, rfl, h⟩
  · replace h := ite_f h q1
    refine e_lload_n C 1 dX8_lacks_6 rfl rfl ?_
    refine e_aload_n C 0 dX8_lacks_7 rfl rfl ?_
    obtain ⟨o2, h⟩ := h
    refine e_getI C [8] 1 (fg_of fg_X8_19) o2 dX8_lacks_8 ?_
    refine e_i2l C dX8_lacks_11 ?_
    refine e_lcmp C dX8_lacks_12 ?_
    refine e_if_lt (tgt := 20) C dX8_lacks_13 (by decide) (fun q3 => ?_) (fun q3 => ?_)
    · replace h := ite_t h q3
      refine e_iconst (v := 0) C dX8_lacks_20 (by decide) ?_
      exact e_zret C hr rfl hlk (Nat.le_refl _) (Nat.le_refl _) dX8_lacks_21 ⟨false, rfl, h⟩
    · replace h := ite_f h q3
      refine e_iconst (v := 1) C dX8_lacks_16 (by decide) ?_
      refine e_goto (tgt := 21) C dX8_lacks_17 (by decide) ?_
      exact e_zret C hr rfl hlk (Nat.le_refl _) (Nat.le_refl _) dX8_lacks_21 ⟨true, rfl, h⟩
theorem m_X8_lacks  {a0 : Nat} {y1 : Int64} {M : Mem} {Q : Bool → Mem → Prop} (h : f_X8_lacks a0 y1 M Q) : Con yX8_lacks cX8_lacks 3 (some .boolean) 1 0 0 [.ref a0, .long y1] M (rZ Q) :=
  con_of2 (al := [(0, .ref a0), (1, .long y1)]) (by decide) (by exact Nat.le_of_ble_eq_true rfl) (by rfl) (fun p l e s m args below meth c g C hr hlk _ => w_X8_lacks C hr hlk h)
set_option maxHeartbeats 4000000 in
set_option maxRecDepth 100000 in
theorem w_X8_fitted {p : Program} {l : Launch} {e : Env} {s : State} {m : MethodId} {args : Array Value} {below : List Frame} {meth : Method} {c : Code} {g : Geo} (C : Cx p s m args c cX8_fitted RX8 3 g) (hr : meth.sig.returnType = (some .long)) (hlk : meth.locks = false) {a0 : Nat} {y1 : Int64} {M : Mem} {Q : Int64 → Mem → Prop} (h : f_X8_fitted a0 y1 M Q) : E p l e (rmO 1 0 0) s m args below meth c g 3 (MQ below (QcM g (rJ Q)) args s 0 0 (gA g)) 0 0 0 [(0, .ref a0), (1, .long y1)] [] M := by
  unfold f_X8_fitted at h
  refine e_aload_n C 0 dX8_fitted_0 rfl rfl ?_
  obtain ⟨o1, h⟩ := h
  refine e_getI C [8] 0 (fg_of fg_X8_11) o1 dX8_fitted_1 ?_
  by_cases q2 : (mI M a0 0) = 0
  · replace h := ite_t h q2
    refine e_tin (tgt := 40) C dX8_fitted_4 (by rw [q2]; decide) (by rw [q2]; decide) (by rw [q2] <;> rfl) (by decide) ?_
    refine e_lload_n C 1 dX8_fitted_40 rfl rfl ?_
    refine e_l2i C dX8_fitted_41 ?_
    refine e_i2b C dX8_fitted_42 ?_
    refine e_i2l C dX8_fitted_43 ?_
    exact e_lret C hr hlk (Nat.le_refl _) (Nat.le_refl _) dX8_fitted_44 ⟨_, rfl, h⟩
  · replace h := ite_f h q2
    by_cases q3 : (mI M a0 0) = 1
    · replace h := ite_t h q3
      refine e_tin (tgt := 45) C dX8_fitted_4 (by rw [q3]; decide) (by rw [q3]; decide) (by rw [q3] <;> rfl) (by decide) ?_
      refine e_lload_n C 1 dX8_fitted_45 rfl rfl ?_
      refine e_l2i C dX8_fitted_46 ?_
      refine e_i2s C dX8_fitted_47 ?_
      refine e_i2l C dX8_fitted_48 ?_
      exact e_lret C hr hlk (Nat.le_refl _) (Nat.le_refl _) dX8_fitted_49 ⟨_, rfl, h⟩
    · replace h := ite_f h q3
      by_cases q4 : (mI M a0 0) = 2
      · replace h := ite_t h q4
        refine e_tin (tgt := 50) C dX8_fitted_4 (by rw [q4]; decide) (by rw [q4]; decide) (by rw [q4] <;> rfl) (by decide) ?_
        refine e_lload_n C 1 dX8_fitted_50 rfl rfl ?_
        refine e_l2i C dX8_fitted_51 ?_
        refine e_i2l C dX8_fitted_52 ?_
        exact e_lret C hr hlk (Nat.le_refl _) (Nat.le_refl _) dX8_fitted_53 ⟨_, rfl, h⟩
      · replace h := ite_f h q4
        by_cases q5 : (mI M a0 0) = 3
        · replace h := ite_t h q5
          refine e_tin (tgt := 66) C dX8_fitted_4 (by rw [q5]; decide) (by rw [q5]; decide) (by rw [q5] <;> rfl) (by decide) ?_
          refine e_lload_n C 1 dX8_fitted_66 rfl rfl ?_
          exact e_lret C hr hlk (Nat.le_refl _) (Nat.le_refl _) dX8_fitted_67 ⟨_, rfl, h⟩
        · replace h := ite_f h q5
          by_cases q6 : (mI M a0 0) = 4
          · replace h := ite_t h q6
            refine e_tin (tgt := 54) C dX8_fitted_4 (by rw [q6]; decide) (by rw [q6]; decide) (by rw [q6] <;> rfl) (by decide) ?_
            refine e_lload_n C 1 dX8_fitted_54 rfl rfl ?_
            refine e_lconst (v := 0) C dX8_fitted_55 (by decide) ?_
            refine e_lcmp C dX8_fitted_56 ?_
            refine e_if_eq (tgt := 64) C dX8_fitted_57 (by decide) (fun q7 => ?_) (fun q7 => ?_)
            · replace h := ite_t h q7
              refine e_lconst (v := 0) C dX8_fitted_64 (by decide) ?_
              exact e_lret C hr hlk (Nat.le_refl _) (Nat.le_refl _) dX8_fitted_65 ⟨_, rfl, h⟩
            · replace h := ite_f h q7
              refine e_lconst (v := 1) C dX8_fitted_60 (by decide) ?_
              refine e_goto (tgt := 65) C dX8_fitted_61 (by decide) ?_
              exact e_lret C hr hlk (Nat.le_refl _) (Nat.le_refl _) dX8_fitted_65 ⟨_, rfl, h⟩
          · replace h := ite_f h q6
            refine e_tout (tgt := 66) C dX8_fitted_4 (by have z0 := lv_neT (a := 0) q2 (by decide); have z1 := lv_neT (a := 1) q3 (by decide); have z2 := lv_neT (a := 2) q4 (by decide); have z3 := lv_neT (a := 3) q5 (by decide); have z4 := lv_neT (a := 4) q6 (by decide); omega) (by decide) ?_
            refine e_lload_n C 1 dX8_fitted_66 rfl rfl ?_
            exact e_lret C hr hlk (Nat.le_refl _) (Nat.le_refl _) dX8_fitted_67 ⟨_, rfl, h⟩
theorem m_X8_fitted  {a0 : Nat} {y1 : Int64} {M : Mem} {Q : Int64 → Mem → Prop} (h : f_X8_fitted a0 y1 M Q) : Con yX8_fitted cX8_fitted 3 (some .long) 1 0 0 [.ref a0, .long y1] M (rJ Q) :=
  con_of2 (al := [(0, .ref a0), (1, .long y1)]) (by decide) (by exact Nat.le_of_ble_eq_true rfl) (by rfl) (fun p l e s m args below meth c g C hr hlk _ => w_X8_fitted C hr hlk h)
set_option maxHeartbeats 4000000 in
set_option maxRecDepth 100000 in
theorem w_X9_init {p : Program} {l : Launch} {e : Env} {s : State} {m : MethodId} {args : Array Value} {below : List Frame} {meth : Method} {c : Code} {g : Geo} (C : Cx p s m args c cX9_init RX9 3 g) (hr : meth.sig.returnType = none) (hlk : meth.locks = false) (hnm : meth.name = "<init>") {a0 : Nat} {x1 : Int32} {x2 : Int32} {M : Mem} {Q : Mem → Prop} (h : f_X9_init a0 x1 x2 M Q) : E p l e (rmO 4 2 30) s m args below meth c g 3 (MQ below (QcM g (rV Q)) args s 2 30 (gA g)) 0 0 0 [(0, .ref a0), (1, .int x1), (2, .int x2)] [] M := by
  unfold f_X9_init at h
  refine e_aload_n C 0 dX9_init_0 rfl rfl ?_
  refine e_iload_n C 1 dX9_init_1 rfl rfl ?_
  refine e_iload_n C 2 dX9_init_2 rfl rfl ?_
  refine e_callI (as := [.int x1, .int x2]) C wb_X1_init rfl wi_X9_1 (m_X1_init h) rfl ⟨Nat.le_of_ble_eq_true rfl, Nat.le_of_ble_eq_true rfl⟩ ⟨Nat.le_of_ble_eq_true rfl, Nat.le_of_ble_eq_true rfl⟩ (by first | exact Nat.le_of_ble_eq_true rfl | (simp only [List.map_cons, List.map_nil, va_cat, List.sum_cons, List.sum_nil]; exact Nat.le_of_ble_eq_true rfl)) dX9_init_3 (kV (fun M2 h12 => ?_))
  refine e_aload_n C 0 dX9_init_6 rfl rfl ?_
  refine e_bipush (v := 10) C dX9_init_7 (by decide) ?_
  refine e_newa C 0 (N := 10) (by decide) (by decide) (by decide) rfl wd_76 (Nat.le_of_ble_eq_true rfl) (Nat.le_of_ble_eq_true rfl) dX9_init_9 ?_
  refine nmE (fun M3 e4 => ?_)
  replace h12 := h12 M3 e4
  obtain ⟨o5, h12⟩ := h12
  refine e_putR (x := (some (mN M2))) C [9] 4 true (fun _ => hnm) fp_X9_9 o5 dX9_init_11 ?_
  refine nmE (fun M6 e7 => ?_)
  replace h12 := h12 M6 e7
  have o8 : isO M6 a0 [9] := by rw [e7]; exact o5
  refine e_aload_n C 0 dX9_init_14 rfl rfl ?_
  refine e_getR C [9] 4 (fg_of fg_X9_9) o8 dX9_init_15 ?_
  refine e_iconst (v := -1) C dX9_init_18 (by decide) ?_
  refine e_callS (as := [va_rf (mP M6 a0 4), .int (-1 : Int32)]) C wb_J7_fill_53178 wt_X9_13 (m_J7_fill_53178 h12) rfl ⟨Nat.le_of_ble_eq_true rfl, Nat.le_of_ble_eq_true rfl⟩ ⟨Nat.le_of_ble_eq_true rfl, Nat.le_of_ble_eq_true rfl⟩ (by first | exact Nat.le_of_ble_eq_true rfl | (simp only [List.map_cons, List.map_nil, va_cat, List.sum_cons, List.sum_nil]; exact Nat.le_of_ble_eq_true rfl)) dX9_init_19 (kV (fun M10 h11 => ?_))
  exact e_vret C hr hlk (Nat.le_of_ble_eq_true rfl) (Nat.le_of_ble_eq_true rfl) dX9_init_22 ⟨rfl, h11⟩
theorem m_X9_init  {a0 : Nat} {x1 : Int32} {x2 : Int32} {M : Mem} {Q : Mem → Prop} (h : f_X9_init a0 x1 x2 M Q) : Con yX9_init cX9_init 3 none 4 2 30 [.ref a0, .int x1, .int x2] M (rV Q) :=
  con_of2 (al := [(0, .ref a0), (1, .int x1), (2, .int x2)]) (by decide) (by exact Nat.le_of_ble_eq_true rfl) (by rfl) (fun p l e s m args below meth c g C hr hlk hnm => w_X9_init C hr hlk hnm h)
set_option maxHeartbeats 4000000 in
set_option maxRecDepth 100000 in
theorem w_X9_kind {p : Program} {l : Launch} {e : Env} {s : State} {m : MethodId} {args : Array Value} {below : List Frame} {meth : Method} {c : Code} {g : Geo} (C : Cx p s m args c cX9_kind RX9 1 g) (hr : meth.sig.returnType = (some .int)) (hlk : meth.locks = false) {a0 : Nat} {M : Mem} {Q : Int32 → Mem → Prop} (h : f_X9_kind a0 M Q) : E p l e (rmO 1 0 0) s m args below meth c g 1 (MQ below (QcM g (rI Q)) args s 0 0 (gA g)) 0 0 0 [(0, .ref a0)] [] M := by
  unfold f_X9_kind at h
  refine e_bipush (v := 6) C dX9_kind_0 (by decide) ?_
  exact e_iret C hr hlk (Nat.le_refl _) (Nat.le_refl _) dX9_kind_2 ⟨_, rfl, h⟩
theorem m_X9_kind  {a0 : Nat} {M : Mem} {Q : Int32 → Mem → Prop} (h : f_X9_kind a0 M Q) : Con yX9_kind cX9_kind 1 (some .int) 1 0 0 [.ref a0] M (rI Q) :=
  con_of2 (al := [(0, .ref a0)]) (by decide) (by exact Nat.le_of_ble_eq_true rfl) (by rfl) (fun p l e s m args below meth c g C hr hlk _ => w_X9_kind C hr hlk h)
