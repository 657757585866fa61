/-! ===== generated: the machine keeps f_ ===== -/
set_option maxHeartbeats 4000000 in
set_option maxRecDepth 100000 in
theorem w_X11_init {p : Program} {l : Launch} {e : Env} {s : State} {m : MethodId} {args : Array Value} {below : List Frame} {meth : Method} {c : Code} {g : Geo} (C : Cx p s m args c cX11_init RX11 2 g) (hr : meth.sig.returnType = none) (hlk : meth.locks = false) (hnm : meth.name = "<init>") {a0 : Nat} {M : Mem} {Q : Mem → Prop} (h : f_X11_init a0 M Q) : E p l e (rmO 3 100 4000) s m args below meth c g 2 (MQ below (QcM g (rV Q)) args s 100 4000 (gA g)) 0 0 0 [(0, .ref a0)] [] M := by
  unfold f_X11_init at h
  refine e_aload_n C 0 dX11_init_0 rfl rfl ?_
  refine e_obj C wd_26 wd_27 wd_28 ⟨Nat.le_of_ble_eq_true rfl, Nat.le_of_ble_eq_true rfl⟩ (by first | exact Nat.le_of_ble_eq_true rfl | (simp only [List.map_cons, List.map_nil, va_cat, List.sum_cons, List.sum_nil]; exact Nat.le_of_ble_eq_true rfl)) dX11_init_1 ?_
  refine e_aload_n C 0 dX11_init_4 rfl rfl ?_
  refine e_bipush (v := 6) C dX11_init_5 (by decide) ?_
  refine e_iconst (v := 4) C dX11_init_7 (by decide) ?_
  refine e_multi C (N := 6) (N2 := 4) (by decide) (by decide) (by decide) (by decide) wd_76 wd_29 (Nat.le_of_ble_eq_true rfl) (Nat.le_of_ble_eq_true rfl) dX11_init_8 ?_
  refine nmE (fun M1 e2 => ?_)
  replace h := h M1 e2
  obtain ⟨o3, h⟩ := h
  refine e_putR (x := (some (mN M))) C [11] 0 true (fun _ => hnm) fp_X11_13 o3 dX11_init_12 ?_
  refine nmE (fun M4 e5 => ?_)
  replace h := h M4 e5
  have o6 : isO M4 a0 [11] := by rw [e5]; exact o3
  refine e_aload_n C 0 dX11_init_15 rfl rfl ?_
  refine e_bipush (v := 100) C dX11_init_16 (by decide) ?_
  refine e_newa C 1 (N := 100) (by decide) (by decide) (by decide) rfl wd_77 (Nat.le_of_ble_eq_true rfl) (Nat.le_of_ble_eq_true rfl) dX11_init_18 ?_
  refine nmE (fun M7 e8 => ?_)
  replace h := h M7 e8
  obtain ⟨o9, h⟩ := h
  refine e_putR (x := (some (mN M4))) C [11] 2 true (fun _ => hnm) fp_X11_16 o9 dX11_init_20 ?_
  refine nmE (fun M10 e11 => ?_)
  replace h := h M10 e11
  have o12 : isO M10 a0 [11] := by rw [e11]; exact o9
  refine e_aload_n C 0 dX11_init_23 rfl rfl ?_
  refine e_bipush (v := 6) C dX11_init_24 (by decide) ?_
  refine e_anew C (K := "PennyQueue$Window") 5 (N := 6) (by decide) (by decide) (by decide) rfl (ao_5 C) wd_31 (Nat.le_of_ble_eq_true rfl) (Nat.le_of_ble_eq_true rfl) dX11_init_26 ?_
  refine nmE (fun M13 e14 => ?_)
  replace h := h M13 e14
  obtain ⟨o15, h⟩ := h
  refine e_putR (x := (some (mN M10))) C [11] 4 true (fun _ => hnm) fp_X11_22 o15 dX11_init_29 ?_
  refine nmE (fun M16 e17 => ?_)
  replace h := h M16 e17
  have o18 : isO M16 a0 [11] := by rw [e17]; exact o15
  refine e_aload_n C 0 dX11_init_32 rfl rfl ?_
  refine e_new C 10 (K := RX10) (T := TX10) (N := 11) rfl rfl uwX10 tyX10_ok nt_10 wd_31 wd_33 wd_2 (Nat.le_of_ble_eq_true rfl) (Nat.le_of_ble_eq_true rfl) dX11_init_33 ?_
  refine nmE (fun M19 e20 => ?_)
  replace h := h M19 e20
  have o21 : isO M19 (mN M16) [10] := ⟨10, List.mem_singleton.mpr rfl, by rw [e20]; exact u1_same _ _ _⟩
  refine e_dup C rfl dX11_init_36 ?_
  refine e_callIN (as := []) C wb_X10_init rfl wn_X11_26 (m_X10_init h) rfl ⟨Nat.le_of_ble_eq_true rfl, Nat.le_of_ble_eq_true rfl⟩ ⟨Nat.le_of_ble_eq_true rfl, Nat.le_of_ble_eq_true rfl⟩ (by first | exact Nat.le_of_ble_eq_true rfl | (simp only [List.map_cons, List.map_nil, va_cat, List.sum_cons, List.sum_nil]; exact Nat.le_of_ble_eq_true rfl)) dX11_init_37 (kV (fun M23 h264 => ?_))
  obtain ⟨o24, h264⟩ := h264
  refine e_putR (x := (some (mN M16))) C [11] 5 true (fun _ => hnm) fp_X11_27 o24 dX11_init_40 ?_
  refine nmE (fun M25 e26 => ?_)
  replace h264 := h264 M25 e26
  have o27 : isO M25 a0 [11] := by rw [e26]; exact o24
  refine e_aload_n C 0 dX11_init_43 rfl rfl ?_
  refine e_bipush (v := 10) C dX11_init_44 (by decide) ?_
  refine e_anew C (K := "PennyQueue$Order") 6 (N := 10) (by decide) (by decide) (by decide) rfl (ao_6 C) wd_78 (Nat.le_of_ble_eq_true rfl) (Nat.le_of_ble_eq_true rfl) dX11_init_46 ?_
  refine nmE (fun M28 e29 => ?_)
  replace h264 := h264 M28 e29
  obtain ⟨o30, h264⟩ := h264
  refine e_putR (x := (some (mN M25))) C [11] 7 true (fun _ => hnm) fp_X11_33 o30 dX11_init_49 ?_
  refine nmE (fun M31 e32 => ?_)
  replace h264 := h264 M31 e32
  have o33 : isO M31 a0 [11] := by rw [e32]; exact o30
  refine e_aload_n C 0 dX11_init_52 rfl rfl ?_
  refine e_new C 5 (K := RX5) (T := TX5) (N := 4) rfl rfl uwX5 tyX5_ok nt_5 wd_78 wd_80 wd_3 (Nat.le_of_ble_eq_true rfl) (Nat.le_of_ble_eq_true rfl) dX11_init_53 ?_
  refine nmE (fun M34 e35 => ?_)
  replace h264 := h264 M34 e35
  have o36 : isO M34 (mN M31) [5] := ⟨5, List.mem_singleton.mpr rfl, by rw [e35]; exact u1_same _ _ _⟩
  refine e_dup C rfl dX11_init_56 ?_
  refine e_iconst (v := 0) C dX11_init_57 (by decide) ?_
  refine e_iconst (v := 1) C dX11_init_58 (by decide) ?_
  refine e_callI (as := [.int (0 : Int32), .int (1 : Int32)]) C wb_X5_init rfl wi_X11_37 (m_X5_init h264) rfl ⟨Nat.le_of_ble_eq_true rfl, Nat.le_of_ble_eq_true rfl⟩ ⟨Nat.le_of_ble_eq_true rfl, Nat.le_of_ble_eq_true rfl⟩ (by first | exact Nat.le_of_ble_eq_true rfl | (simp only [List.map_cons, List.map_nil, va_cat, List.sum_cons, List.sum_nil]; exact Nat.le_of_ble_eq_true rfl)) dX11_init_59 (kV (fun M38 h263 => ?_))
  obtain ⟨o39, h263⟩ := h263
  refine e_putR (x := (some (mN M31))) C [11] 8 true (fun _ => hnm) fp_X11_40 o39 dX11_init_62 ?_
  refine nmE (fun M40 e41 => ?_)
  replace h263 := h263 M40 e41
  have o42 : isO M40 a0 [11] := by rw [e41]; exact o39
  refine e_aload_n C 0 dX11_init_65 rfl rfl ?_
  refine e_new C 0 (K := RX0) (T := TX0) (N := 5) rfl rfl uwX0 tyX0_ok nt_0 wd_110 wd_111 wd_4 (Nat.le_of_ble_eq_true rfl) (Nat.le_of_ble_eq_true rfl) dX11_init_66 ?_
  refine nmE (fun M43 e44 => ?_)
  replace h263 := h263 M43 e44
  have o45 : isO M43 (mN M40) [0] := ⟨0, List.mem_singleton.mpr rfl, by rw [e44]; exact u1_same _ _ _⟩
  refine e_dup C rfl dX11_init_69 ?_
  refine e_callIN (as := []) C wb_X0_init rfl wn_X11_46 (m_X0_init h263) rfl ⟨Nat.le_of_ble_eq_true rfl, Nat.le_of_ble_eq_true rfl⟩ ⟨Nat.le_of_ble_eq_true rfl, Nat.le_of_ble_eq_true rfl⟩ (by first | exact Nat.le_of_ble_eq_true rfl | (simp only [List.map_cons, List.map_nil, va_cat, List.sum_cons, List.sum_nil]; exact Nat.le_of_ble_eq_true rfl)) dX11_init_70 (kV (fun M47 h262 => ?_))
  obtain ⟨o48, h262⟩ := h262
  refine e_putR (x := (some (mN M40))) C [11] 11 true (fun _ => hnm) fp_X11_47 o48 dX11_init_73 ?_
  refine nmE (fun M49 e50 => ?_)
  replace h262 := h262 M49 e50
  have o51 : isO M49 a0 [11] := by rw [e50]; exact o48
  refine e_aload_n C 0 dX11_init_76 rfl rfl ?_
  refine e_new C 0 (K := RX0) (T := TX0) (N := 5) rfl rfl uwX0 tyX0_ok nt_0 wd_110 wd_111 wd_4 (Nat.le_of_ble_eq_true rfl) (Nat.le_of_ble_eq_true rfl) dX11_init_77 ?_
  refine nmE (fun M52 e53 => ?_)
  replace h262 := h262 M52 e53
  have o54 : isO M52 (mN M49) [0] := ⟨0, List.mem_singleton.mpr rfl, by rw [e53]; exact u1_same _ _ _⟩
  refine e_dup C rfl dX11_init_80 ?_
  refine e_callIN (as := []) C wb_X0_init rfl wn_X11_46 (m_X0_init h262) rfl ⟨Nat.le_of_ble_eq_true rfl, Nat.le_of_ble_eq_true rfl⟩ ⟨Nat.le_of_ble_eq_true rfl, Nat.le_of_ble_eq_true rfl⟩ (by first | exact Nat.le_of_ble_eq_true rfl | (simp only [List.map_cons, List.map_nil, va_cat, List.sum_cons, List.sum_nil]; exact Nat.le_of_ble_eq_true rfl)) dX11_init_81 (kV (fun M56 h261 => ?_))
  obtain ⟨o57, h261⟩ := h261
  refine e_putR (x := (some (mN M49))) C [11] 12 true (fun _ => hnm) fp_X11_51 o57 dX11_init_84 ?_
  refine nmE (fun M58 e59 => ?_)
  replace h261 := h261 M58 e59
  have o60 : isO M58 a0 [11] := by rw [e59]; exact o57
  refine e_aload_n C 0 dX11_init_87 rfl rfl ?_
  refine e_new C 0 (K := RX0) (T := TX0) (N := 5) rfl rfl uwX0 tyX0_ok nt_0 wd_110 wd_111 wd_4 (Nat.le_of_ble_eq_true rfl) (Nat.le_of_ble_eq_true rfl) dX11_init_88 ?_
  refine nmE (fun M61 e62 => ?_)
  replace h261 := h261 M61 e62
  have o63 : isO M61 (mN M58) [0] := ⟨0, List.mem_singleton.mpr rfl, by rw [e62]; exact u1_same _ _ _⟩
  refine e_dup C rfl dX11_init_91 ?_
  refine e_callIN (as := []) C wb_X0_init rfl wn_X11_46 (m_X0_init h261) rfl ⟨Nat.le_of_ble_eq_true rfl, Nat.le_of_ble_eq_true rfl⟩ ⟨Nat.le_of_ble_eq_true rfl, Nat.le_of_ble_eq_true rfl⟩ (by first | exact Nat.le_of_ble_eq_true rfl | (simp only [List.map_cons, List.map_nil, va_cat, List.sum_cons, List.sum_nil]; exact Nat.le_of_ble_eq_true rfl)) dX11_init_92 (kV (fun M65 h260 => ?_))
  obtain ⟨o66, h260⟩ := h260
  refine e_putR (x := (some (mN M58))) C [11] 13 true (fun _ => hnm) fp_X11_54 o66 dX11_init_95 ?_
  refine nmE (fun M67 e68 => ?_)
  replace h260 := h260 M67 e68
  have o69 : isO M67 a0 [11] := by rw [e68]; exact o66
  refine e_aload_n C 0 dX11_init_98 rfl rfl ?_
  refine e_new C 3 (K := RX3) (T := TX3) (N := 19) rfl rfl uwX3 tyX3_ok nt_3 wd_140 wd_141 wd_5 (Nat.le_of_ble_eq_true rfl) (Nat.le_of_ble_eq_true rfl) dX11_init_99 ?_
  refine nmE (fun M70 e71 => ?_)
  replace h260 := h260 M70 e71
  have o72 : isO M70 (mN M67) [3] := ⟨3, List.mem_singleton.mpr rfl, by rw [e71]; exact u1_same _ _ _⟩
  refine e_dup C rfl dX11_init_102 ?_
  refine e_aload_n C 0 dX11_init_103 rfl rfl ?_
  obtain ⟨o73, h260⟩ := h260
  refine e_getR C [11] 0 (fg_of fg_X11_13) o73 dX11_init_104 ?_
  refine e_callI (as := [va_rf (mP M70 a0 0)]) C wb_X3_init rfl wi_X11_59 (m_X3_init h260) rfl ⟨Nat.le_of_ble_eq_true rfl, Nat.le_of_ble_eq_true rfl⟩ ⟨Nat.le_of_ble_eq_true rfl, Nat.le_of_ble_eq_true rfl⟩ (by first | exact Nat.le_of_ble_eq_true rfl | (simp only [List.map_cons, List.map_nil, va_cat, List.sum_cons, List.sum_nil]; exact Nat.le_of_ble_eq_true rfl)) dX11_init_107 (kV (fun M75 h259 => ?_))
  obtain ⟨o76, h259⟩ := h259
  refine e_putR (x := (some (mN M67))) C [11] 16 true (fun _ => hnm) fp_X11_62 o76 dX11_init_110 ?_
  refine nmE (fun M77 e78 => ?_)
  replace h259 := h259 M77 e78
  have o79 : isO M77 a0 [11] := by rw [e78]; exact o76
  refine e_aload_n C 0 dX11_init_113 rfl rfl ?_
  refine e_bipush (v := 6) C dX11_init_114 (by decide) ?_
  refine e_newa C 0 (N := 6) (by decide) (by decide) (by decide) rfl wd_76 (Nat.le_of_ble_eq_true rfl) (Nat.le_of_ble_eq_true rfl) dX11_init_116 ?_
  refine nmE (fun M80 e81 => ?_)
  replace h259 := h259 M80 e81
  obtain ⟨o82, h259⟩ := h259
  refine e_putR (x := (some (mN M77))) C [11] 17 true (fun _ => hnm) fp_X11_66 o82 dX11_init_118 ?_
  refine nmE (fun M83 e84 => ?_)
  replace h259 := h259 M83 e84
  have o85 : isO M83 a0 [11] := by rw [e84]; exact o82
  refine e_aload_n C 0 dX11_init_121 rfl rfl ?_
  refine e_bipush (v := 6) C dX11_init_122 (by decide) ?_
  refine e_anew C (K := "PennyQueue$Tape") 7 (N := 6) (by decide) (by decide) (by decide) rfl (ao_7 C) wd_214 (Nat.le_of_ble_eq_true rfl) (Nat.le_of_ble_eq_true rfl) dX11_init_124 ?_
  refine nmE (fun M86 e87 => ?_)
  replace h259 := h259 M86 e87
  obtain ⟨o88, h259⟩ := h259
  refine e_putR (x := (some (mN M83))) C [11] 18 true (fun _ => hnm) fp_X11_72 o88 dX11_init_127 ?_
  refine nmE (fun M89 e90 => ?_)
  replace h259 := h259 M89 e90
  have o91 : isO M89 a0 [11] := by rw [e90]; exact o88
  refine e_iconst (v := 0) C dX11_init_130 (by decide) ?_
  refine e_istore_n (al' := [(1, .int (0 : Int32)), (0, .ref a0)]) C dX11_init_131 rfl (by decide) rfl ?_
  refine e_iload_n C 0 dX11_init_132 rfl rfl ?_
  refine e_bipush (v := 6) C dX11_init_133 (by decide) ?_
  refine e_icmp_ge (tgt := 157) C dX11_init_135 (by decide) (fun q => absurd q (by decide)) (fun _ => ?_)
  refine e_aload_n C 1 dX11_init_138 rfl rfl ?_
  refine e_getR C [11] 4 (fg_of fg_X11_22) o91 dX11_init_139 ?_
  refine e_iload_n C 0 dX11_init_142 rfl rfl ?_
  refine e_new C 10 (K := RX10) (T := TX10) (N := 11) rfl rfl uwX10 tyX10_ok nt_10 wd_31 wd_33 wd_2 (Nat.le_of_ble_eq_true rfl) (Nat.le_of_ble_eq_true rfl) dX11_init_143 ?_
  refine nmE (fun M92 e93 => ?_)
  replace h259 := h259 M92 e93
  have o94 : isO M92 (mN M89) [10] := ⟨10, List.mem_singleton.mpr rfl, by rw [e93]; exact u1_same _ _ _⟩
  refine e_dup C rfl dX11_init_146 ?_
  refine e_callIN (as := []) C wb_X10_init rfl wn_X11_26 (m_X10_init h259) rfl ⟨Nat.le_of_ble_eq_true rfl, Nat.le_of_ble_eq_true rfl⟩ ⟨Nat.le_of_ble_eq_true rfl, Nat.le_of_ble_eq_true rfl⟩ (by first | exact Nat.le_of_ble_eq_true rfl | (simp only [List.map_cons, List.map_nil, va_cat, List.sum_cons, List.sum_nil]; exact Nat.le_of_ble_eq_true rfl)) dX11_init_147 (kV (fun M96 h258 => ?_))
  obtain ⟨b97, p98, h258⟩ := h258
  try rw [p98]
  obtain ⟨o99, h258⟩ := h258
  obtain ⟨o100, h258⟩ := h258
  refine e_aast C 5 (by decide) rfl o99 [10] o100 ac_5 dX11_init_150 ?_
  refine nmE (fun M101 e102 => ?_)
  replace h258 := h258 M101 e102
  have o103 : isO M101 (mN M89) [10] := by rw [e102]; exact o100
  refine e_iinc (v := (1 : Int32)) (al' := [(1, .int (1 : Int32)), (0, .ref a0)]) C 0 dX11_init_151 rfl (by decide) (by decide) rfl ?_
  refine e_goto (tgt := 132) C dX11_init_154 (by decide) ?_
  refine e_iload_n C 0 dX11_init_132 rfl rfl ?_
  refine e_bipush (v := 6) C dX11_init_133 (by decide) ?_
  refine e_icmp_ge (tgt := 157) C dX11_init_135 (by decide) (fun q => absurd q (by decide)) (fun _ => ?_)
  refine e_aload_n C 1 dX11_init_138 rfl rfl ?_
  obtain ⟨o104, h258⟩ := h258
  refine e_getR C [11] 4 (fg_of fg_X11_22) o104 dX11_init_139 ?_
  refine e_iload_n C 0 dX11_init_142 rfl rfl ?_
  refine e_new C 10 (K := RX10) (T := TX10) (N := 11) rfl rfl uwX10 tyX10_ok nt_10 wd_31 wd_33 wd_2 (Nat.le_of_ble_eq_true rfl) (Nat.le_of_ble_eq_true rfl) dX11_init_143 ?_
  refine nmE (fun M105 e106 => ?_)
  replace h258 := h258 M105 e106
  have o107 : isO M105 (mN M101) [10] := ⟨10, List.mem_singleton.mpr rfl, by rw [e106]; exact u1_same _ _ _⟩
  refine e_dup C rfl dX11_init_146 ?_
  refine e_callIN (as := []) C wb_X10_init rfl wn_X11_26 (m_X10_init h258) rfl ⟨Nat.le_of_ble_eq_true rfl, Nat.le_of_ble_eq_true rfl⟩ ⟨Nat.le_of_ble_eq_true rfl, Nat.le_of_ble_eq_true rfl⟩ (by first | exact Nat.le_of_ble_eq_true rfl | (simp only [List.map_cons, List.map_nil, va_cat, List.sum_cons, List.sum_nil]; exact Nat.le_of_ble_eq_true rfl)) dX11_init_147 (kV (fun M109 h257 => ?_))
  obtain ⟨b110, p111, h257⟩ := h257
  try rw [p111]
  obtain ⟨o112, h257⟩ := h257
  obtain ⟨o113, h257⟩ := h257
  refine e_aast C 5 (by decide) rfl o112 [10] o113 ac_5 dX11_init_150 ?_
  refine nmE (fun M114 e115 => ?_)
  replace h257 := h257 M114 e115
  have o116 : isO M114 (mN M101) [10] := by rw [e115]; exact o113
  refine e_iinc (v := (2 : Int32)) (al' := [(1, .int (2 : Int32)), (0, .ref a0)]) C 0 dX11_init_151 rfl (by decide) (by decide) rfl ?_
  refine e_goto (tgt := 132) C dX11_init_154 (by decide) ?_
  refine e_iload_n C 0 dX11_init_132 rfl rfl ?_
  refine e_bipush (v := 6) C dX11_init_133 (by decide) ?_
  refine e_icmp_ge (tgt := 157) C dX11_init_135 (by decide) (fun q => absurd q (by decide)) (fun _ => ?_)
  refine e_aload_n C 1 dX11_init_138 rfl rfl ?_
  obtain ⟨o117, h257⟩ := h257
  refine e_getR C [11] 4 (fg_of fg_X11_22) o117 dX11_init_139 ?_
  refine e_iload_n C 0 dX11_init_142 rfl rfl ?_
  refine e_new C 10 (K := RX10) (T := TX10) (N := 11) rfl rfl uwX10 tyX10_ok nt_10 wd_31 wd_33 wd_2 (Nat.le_of_ble_eq_true rfl) (Nat.le_of_ble_eq_true rfl) dX11_init_143 ?_
  refine nmE (fun M118 e119 => ?_)
  replace h257 := h257 M118 e119
  have o120 : isO M118 (mN M114) [10] := ⟨10, List.mem_singleton.mpr rfl, by rw [e119]; exact u1_same _ _ _⟩
  refine e_dup C rfl dX11_init_146 ?_
  refine e_callIN (as := []) C wb_X10_init rfl wn_X11_26 (m_X10_init h257) rfl ⟨Nat.le_of_ble_eq_true rfl, Nat.le_of_ble_eq_true rfl⟩ ⟨Nat.le_of_ble_eq_true rfl, Nat.le_of_ble_eq_true rfl⟩ (by first | exact Nat.le_of_ble_eq_true rfl | (simp only [List.map_cons, List.map_nil, va_cat, List.sum_cons, List.sum_nil]; exact Nat.le_of_ble_eq_true rfl)) dX11_init_147 (kV (fun M122 h256 => ?_))
  obtain ⟨b123, p124, h256⟩ := h256
  try rw [p124]
  obtain ⟨o125, h256⟩ := h256
  obtain ⟨o126, h256⟩ := h256
  refine e_aast C 5 (by decide) rfl o125 [10] o126 ac_5 dX11_init_150 ?_
  refine nmE (fun M127 e128 => ?_)
  replace h256 := h256 M127 e128
  have o129 : isO M127 (mN M114) [10] := by rw [e128]; exact o126
  refine e_iinc (v := (3 : Int32)) (al' := [(1, .int (3 : Int32)), (0, .ref a0)]) C 0 dX11_init_151 rfl (by decide) (by decide) rfl ?_
  refine e_goto (tgt := 132) C dX11_init_154 (by decide) ?_
  refine e_iload_n C 0 dX11_init_132 rfl rfl ?_
  refine e_bipush (v := 6) C dX11_init_133 (by decide) ?_
  refine e_icmp_ge (tgt := 157) C dX11_init_135 (by decide) (fun q => absurd q (by decide)) (fun _ => ?_)
  refine e_aload_n C 1 dX11_init_138 rfl rfl ?_
  obtain ⟨o130, h256⟩ := h256
  refine e_getR C [11] 4 (fg_of fg_X11_22) o130 dX11_init_139 ?_
  refine e_iload_n C 0 dX11_init_142 rfl rfl ?_
  refine e_new C 10 (K := RX10) (T := TX10) (N := 11) rfl rfl uwX10 tyX10_ok nt_10 wd_31 wd_33 wd_2 (Nat.le_of_ble_eq_true rfl) (Nat.le_of_ble_eq_true rfl) dX11_init_143 ?_
  refine nmE (fun M131 e132 => ?_)
  replace h256 := h256 M131 e132
  have o133 : isO M131 (mN M127) [10] := ⟨10, List.mem_singleton.mpr rfl, by rw [e132]; exact u1_same _ _ _⟩
  refine e_dup C rfl dX11_init_146 ?_
  refine e_callIN (as := []) C wb_X10_init rfl wn_X11_26 (m_X10_init h256) rfl ⟨Nat.le_of_ble_eq_true rfl, Nat.le_of_ble_eq_true rfl⟩ ⟨Nat.le_of_ble_eq_true rfl, Nat.le_of_ble_eq_true rfl⟩ (by first | exact Nat.le_of_ble_eq_true rfl | (simp only [List.map_cons, List.map_nil, va_cat, List.sum_cons, List.sum_nil]; exact Nat.le_of_ble_eq_true rfl)) dX11_init_147 (kV (fun M135 h255 => ?_))
  obtain ⟨b136, p137, h255⟩ := h255
  try rw [p137]
  obtain ⟨o138, h255⟩ := h255
  obtain ⟨o139, h255⟩ := h255
  refine e_aast C 5 (by decide) rfl o138 [10] o139 ac_5 dX11_init_150 ?_
  refine nmE (fun M140 e141 => ?_)
  replace h255 := h255 M140 e141
  have o142 : isO M140 (mN M127) [10] := by rw [e141]; exact o139
  refine e_iinc (v := (4 : Int32)) (al' := [(1, .int (4 : Int32)), (0, .ref a0)]) C 0 dX11_init_151 rfl (by decide) (by decide) rfl ?_
  refine e_goto (tgt := 132) C dX11_init_154 (by decide) ?_
  refine e_iload_n C 0 dX11_init_132 rfl rfl ?_
  refine e_bipush (v := 6) C dX11_init_133 (by decide) ?_
  refine e_icmp_ge (tgt := 157) C dX11_init_135 (by decide) (fun q => absurd q (by decide)) (fun _ => ?_)
  refine e_aload_n C 1 dX11_init_138 rfl rfl ?_
  obtain ⟨o143, h255⟩ := h255
  refine e_getR C [11] 4 (fg_of fg_X11_22) o143 dX11_init_139 ?_
  refine e_iload_n C 0 dX11_init_142 rfl rfl ?_
  refine e_new C 10 (K := RX10) (T := TX10) (N := 11) rfl rfl uwX10 tyX10_ok nt_10 wd_31 wd_33 wd_2 (Nat.le_of_ble_eq_true rfl) (Nat.le_of_ble_eq_true rfl) dX11_init_143 ?_
  refine nmE (fun M144 e145 => ?_)
  replace h255 := h255 M144 e145
  have o146 : isO M144 (mN M140) [10] := ⟨10, List.mem_singleton.mpr rfl, by rw [e145]; exact u1_same _ _ _⟩
  refine e_dup C rfl dX11_init_146 ?_
  refine e_callIN (as := []) C wb_X10_init rfl wn_X11_26 (m_X10_init h255) rfl ⟨Nat.le_of_ble_eq_true rfl, Nat.le_of_ble_eq_true rfl⟩ ⟨Nat.le_of_ble_eq_true rfl, Nat.le_of_ble_eq_true rfl⟩ (by first | exact Nat.le_of_ble_eq_true rfl | (simp only [List.map_cons, List.map_nil, va_cat, List.sum_cons, List.sum_nil]; exact Nat.le_of_ble_eq_true rfl)) dX11_init_147 (kV (fun M148 h254 => ?_))
  obtain ⟨b149, p150, h254⟩ := h254
  try rw [p150]
  obtain ⟨o151, h254⟩ := h254
  obtain ⟨o152, h254⟩ := h254
  refine e_aast C 5 (by decide) rfl o151 [10] o152 ac_5 dX11_init_150 ?_
  refine nmE (fun M153 e154 => ?_)
  replace h254 := h254 M153 e154
  have o155 : isO M153 (mN M140) [10] := by rw [e154]; exact o152
  refine e_iinc (v := (5 : Int32)) (al' := [(1, .int (5 : Int32)), (0, .ref a0)]) C 0 dX11_init_151 rfl (by decide) (by decide) rfl ?_
  refine e_goto (tgt := 132) C dX11_init_154 (by decide) ?_
  refine e_iload_n C 0 dX11_init_132 rfl rfl ?_
  refine e_bipush (v := 6) C dX11_init_133 (by decide) ?_
  refine e_icmp_ge (tgt := 157) C dX11_init_135 (by decide) (fun q => absurd q (by decide)) (fun _ => ?_)
  refine e_aload_n C 1 dX11_init_138 rfl rfl ?_
  obtain ⟨o156, h254⟩ := h254
  refine e_getR C [11] 4 (fg_of fg_X11_22) o156 dX11_init_139 ?_
  refine e_iload_n C 0 dX11_init_142 rfl rfl ?_
  refine e_new C 10 (K := RX10) (T := TX10) (N := 11) rfl rfl uwX10 tyX10_ok nt_10 wd_31 wd_33 wd_2 (Nat.le_of_ble_eq_true rfl) (Nat.le_of_ble_eq_true rfl) dX11_init_143 ?_
  refine nmE (fun M157 e158 => ?_)
  replace h254 := h254 M157 e158
  have o159 : isO M157 (mN M153) [10] := ⟨10, List.mem_singleton.mpr rfl, by rw [e158]; exact u1_same _ _ _⟩
  refine e_dup C rfl dX11_init_146 ?_
  refine e_callIN (as := []) C wb_X10_init rfl wn_X11_26 (m_X10_init h254) rfl ⟨Nat.le_of_ble_eq_true rfl, Nat.le_of_ble_eq_true rfl⟩ ⟨Nat.le_of_ble_eq_true rfl, Nat.le_of_ble_eq_true rfl⟩ (by first | exact Nat.le_of_ble_eq_true rfl | (simp only [List.map_cons, List.map_nil, va_cat, List.sum_cons, List.sum_nil]; exact Nat.le_of_ble_eq_true rfl)) dX11_init_147 (kV (fun M161 h253 => ?_))
  obtain ⟨b162, p163, h253⟩ := h253
  try rw [p163]
  obtain ⟨o164, h253⟩ := h253
  obtain ⟨o165, h253⟩ := h253
  refine e_aast C 5 (by decide) rfl o164 [10] o165 ac_5 dX11_init_150 ?_
  refine nmE (fun M166 e167 => ?_)
  replace h253 := h253 M166 e167
  have o168 : isO M166 (mN M153) [10] := by rw [e167]; exact o165
  refine e_iinc (v := (6 : Int32)) (al' := [(1, .int (6 : Int32)), (0, .ref a0)]) C 0 dX11_init_151 rfl (by decide) (by decide) rfl ?_
  refine e_goto (tgt := 132) C dX11_init_154 (by decide) ?_
  refine e_iload_n C 0 dX11_init_132 rfl rfl ?_
  refine e_bipush (v := 6) C dX11_init_133 (by decide) ?_
  refine e_icmp_ge (tgt := 157) C dX11_init_135 (by decide) (fun _ => ?_) (fun q => absurd q (by decide))
  refine e_iconst (v := 0) C dX11_init_157 (by decide) ?_
  refine e_istore_n (al' := [(1, .int (0 : Int32)), (0, .ref a0)]) C dX11_init_158 rfl (by decide) rfl ?_
  refine e_iload_n C 0 dX11_init_159 rfl rfl ?_
  refine e_bipush (v := 6) C dX11_init_160 (by decide) ?_
  refine e_icmp_ge (tgt := 184) C dX11_init_162 (by decide) (fun q => absurd q (by decide)) (fun _ => ?_)
  refine e_aload_n C 1 dX11_init_165 rfl rfl ?_
  obtain ⟨o169, h253⟩ := h253
  refine e_getR C [11] 18 (fg_of fg_X11_72) o169 dX11_init_166 ?_
  refine e_iload_n C 0 dX11_init_169 rfl rfl ?_
  refine e_new C 8 (K := RX8) (T := TX8) (N := 3) rfl rfl uwX8 tyX8_ok nt_8 wd_214 wd_216 wd_6 (Nat.le_of_ble_eq_true rfl) (Nat.le_of_ble_eq_true rfl) dX11_init_170 ?_
  refine nmE (fun M170 e171 => ?_)
  replace h253 := h253 M170 e171
  have o172 : isO M170 (mN M166) [8] := ⟨8, List.mem_singleton.mpr rfl, by rw [e171]; exact u1_same _ _ _⟩
  refine e_dup C rfl dX11_init_173 ?_
  refine e_callIN (as := []) C wb_X8_init rfl wn_X11_76 (m_X8_init h253) rfl ⟨Nat.le_of_ble_eq_true rfl, Nat.le_of_ble_eq_true rfl⟩ ⟨Nat.le_of_ble_eq_true rfl, Nat.le_of_ble_eq_true rfl⟩ (by first | exact Nat.le_of_ble_eq_true rfl | (simp only [List.map_cons, List.map_nil, va_cat, List.sum_cons, List.sum_nil]; exact Nat.le_of_ble_eq_true rfl)) dX11_init_174 (kV (fun M174 h252 => ?_))
  obtain ⟨b175, p176, h252⟩ := h252
  try rw [p176]
  obtain ⟨o177, h252⟩ := h252
  obtain ⟨o178, h252⟩ := h252
  refine e_aast C 7 (by decide) rfl o177 [8] o178 ac_7 dX11_init_177 ?_
  refine nmE (fun M179 e180 => ?_)
  replace h252 := h252 M179 e180
  have o181 : isO M179 (mN M166) [8] := by rw [e180]; exact o178
  refine e_iinc (v := (1 : Int32)) (al' := [(1, .int (1 : Int32)), (0, .ref a0)]) C 0 dX11_init_178 rfl (by decide) (by decide) rfl ?_
  refine e_goto (tgt := 159) C dX11_init_181 (by decide) ?_
  refine e_iload_n C 0 dX11_init_159 rfl rfl ?_
  refine e_bipush (v := 6) C dX11_init_160 (by decide) ?_
  refine e_icmp_ge (tgt := 184) C dX11_init_162 (by decide) (fun q => absurd q (by decide)) (fun _ => ?_)
  refine e_aload_n C 1 dX11_init_165 rfl rfl ?_
  obtain ⟨o182, h252⟩ := h252
  refine e_getR C [11] 18 (fg_of fg_X11_72) o182 dX11_init_166 ?_
  refine e_iload_n C 0 dX11_init_169 rfl rfl ?_
  refine e_new C 8 (K := RX8) (T := TX8) (N := 3) rfl rfl uwX8 tyX8_ok nt_8 wd_214 wd_216 wd_6 (Nat.le_of_ble_eq_true rfl) (Nat.le_of_ble_eq_true rfl) dX11_init_170 ?_
  refine nmE (fun M183 e184 => ?_)
  replace h252 := h252 M183 e184
  have o185 : isO M183 (mN M179) [8] := ⟨8, List.mem_singleton.mpr rfl, by rw [e184]; exact u1_same _ _ _⟩
  refine e_dup C rfl dX11_init_173 ?_
  refine e_callIN (as := []) C wb_X8_init rfl wn_X11_76 (m_X8_init h252) rfl ⟨Nat.le_of_ble_eq_true rfl, Nat.le_of_ble_eq_true rfl⟩ ⟨Nat.le_of_ble_eq_true rfl, Nat.le_of_ble_eq_true rfl⟩ (by first | exact Nat.le_of_ble_eq_true rfl | (simp only [List.map_cons, List.map_nil, va_cat, List.sum_cons, List.sum_nil]; exact Nat.le_of_ble_eq_true rfl)) dX11_init_174 (kV (fun M187 h251 => ?_))
  obtain ⟨b188, p189, h251⟩ := h251
  try rw [p189]
  obtain ⟨o190, h251⟩ := h251
  obtain ⟨o191, h251⟩ := h251
  refine e_aast C 7 (by decide) rfl o190 [8] o191 ac_7 dX11_init_177 ?_
  refine nmE (fun M192 e193 => ?_)
  replace h251 := h251 M192 e193
  have o194 : isO M192 (mN M179) [8] := by rw [e193]; exact o191
  refine e_iinc (v := (2 : Int32)) (al' := [(1, .int (2 : Int32)), (0, .ref a0)]) C 0 dX11_init_178 rfl (by decide) (by decide) rfl ?_
  refine e_goto (tgt := 159) C dX11_init_181 (by decide) ?_
  refine e_iload_n C 0 dX11_init_159 rfl rfl ?_
  refine e_bipush (v := 6) C dX11_init_160 (by decide) ?_
  refine e_icmp_ge (tgt := 184) C dX11_init_162 (by decide) (fun q => absurd q (by decide)) (fun _ => ?_)
  refine e_aload_n C 1 dX11_init_165 rfl rfl ?_
  obtain ⟨o195, h251⟩ := h251
  refine e_getR C [11] 18 (fg_of fg_X11_72) o195 dX11_init_166 ?_
  refine e_iload_n C 0 dX11_init_169 rfl rfl ?_
  refine e_new C 8 (K := RX8) (T := TX8) (N := 3) rfl rfl uwX8 tyX8_ok nt_8 wd_214 wd_216 wd_6 (Nat.le_of_ble_eq_true rfl) (Nat.le_of_ble_eq_true rfl) dX11_init_170 ?_
  refine nmE (fun M196 e197 => ?_)
  replace h251 := h251 M196 e197
  have o198 : isO M196 (mN M192) [8] := ⟨8, List.mem_singleton.mpr rfl, by rw [e197]; exact u1_same _ _ _⟩
  refine e_dup C rfl dX11_init_173 ?_
  refine e_callIN (as := []) C wb_X8_init rfl wn_X11_76 (m_X8_init h251) rfl ⟨Nat.le_of_ble_eq_true rfl, Nat.le_of_ble_eq_true rfl⟩ ⟨Nat.le_of_ble_eq_true rfl, Nat.le_of_ble_eq_true rfl⟩ (by first | exact Nat.le_of_ble_eq_true rfl | (simp only [List.map_cons, List.map_nil, va_cat, List.sum_cons, List.sum_nil]; exact Nat.le_of_ble_eq_true rfl)) dX11_init_174 (kV (fun M200 h250 => ?_))
  obtain ⟨b201, p202, h250⟩ := h250
  try rw [p202]
  obtain ⟨o203, h250⟩ := h250
  obtain ⟨o204, h250⟩ := h250
  refine e_aast C 7 (by decide) rfl o203 [8] o204 ac_7 dX11_init_177 ?_
  refine nmE (fun M205 e206 => ?_)
  replace h250 := h250 M205 e206
  have o207 : isO M205 (mN M192) [8] := by rw [e206]; exact o204
  refine e_iinc (v := (3 : Int32)) (al' := [(1, .int (3 : Int32)), (0, .ref a0)]) C 0 dX11_init_178 rfl (by decide) (by decide) rfl ?_
  refine e_goto (tgt := 159) C dX11_init_181 (by decide) ?_
  refine e_iload_n C 0 dX11_init_159 rfl rfl ?_
  refine e_bipush (v := 6) C dX11_init_160 (by decide) ?_
  refine e_icmp_ge (tgt := 184) C dX11_init_162 (by decide) (fun q => absurd q (by decide)) (fun _ => ?_)
  refine e_aload_n C 1 dX11_init_165 rfl rfl ?_
  obtain ⟨o208, h250⟩ := h250
  refine e_getR C [11] 18 (fg_of fg_X11_72) o208 dX11_init_166 ?_
  refine e_iload_n C 0 dX11_init_169 rfl rfl ?_
  refine e_new C 8 (K := RX8) (T := TX8) (N := 3) rfl rfl uwX8 tyX8_ok nt_8 wd_214 wd_216 wd_6 (Nat.le_of_ble_eq_true rfl) (Nat.le_of_ble_eq_true rfl) dX11_init_170 ?_
  refine nmE (fun M209 e210 => ?_)
  replace h250 := h250 M209 e210
  have o211 : isO M209 (mN M205) [8] := ⟨8, List.mem_singleton.mpr rfl, by rw [e210]; exact u1_same _ _ _⟩
  refine e_dup C rfl dX11_init_173 ?_
  refine e_callIN (as := []) C wb_X8_init rfl wn_X11_76 (m_X8_init h250) rfl ⟨Nat.le_of_ble_eq_true rfl, Nat.le_of_ble_eq_true rfl⟩ ⟨Nat.le_of_ble_eq_true rfl, Nat.le_of_ble_eq_true rfl⟩ (by first | exact Nat.le_of_ble_eq_true rfl | (simp only [List.map_cons, List.map_nil, va_cat, List.sum_cons, List.sum_nil]; exact Nat.le_of_ble_eq_true rfl)) dX11_init_174 (kV (fun M213 h249 => ?_))
  obtain ⟨b214, p215, h249⟩ := h249
  try rw [p215]
  obtain ⟨o216, h249⟩ := h249
  obtain ⟨o217, h249⟩ := h249
  refine e_aast C 7 (by decide) rfl o216 [8] o217 ac_7 dX11_init_177 ?_
  refine nmE (fun M218 e219 => ?_)
  replace h249 := h249 M218 e219
  have o220 : isO M218 (mN M205) [8] := by rw [e219]; exact o217
  refine e_iinc (v := (4 : Int32)) (al' := [(1, .int (4 : Int32)), (0, .ref a0)]) C 0 dX11_init_178 rfl (by decide) (by decide) rfl ?_
  refine e_goto (tgt := 159) C dX11_init_181 (by decide) ?_
  refine e_iload_n C 0 dX11_init_159 rfl rfl ?_
  refine e_bipush (v := 6) C dX11_init_160 (by decide) ?_
  refine e_icmp_ge (tgt := 184) C dX11_init_162 (by decide) (fun q => absurd q (by decide)) (fun _ => ?_)
  refine e_aload_n C 1 dX11_init_165 rfl rfl ?_
  obtain ⟨o221, h249⟩ := h249
  refine e_getR C [11] 18 (fg_of fg_X11_72) o221 dX11_init_166 ?_
  refine e_iload_n C 0 dX11_init_169 rfl rfl ?_
  refine e_new C 8 (K := RX8) (T := TX8) (N := 3) rfl rfl uwX8 tyX8_ok nt_8 wd_214 wd_216 wd_6 (Nat.le_of_ble_eq_true rfl) (Nat.le_of_ble_eq_true rfl) dX11_init_170 ?_
  refine nmE (fun M222 e223 => ?_)
  replace h249 := h249 M222 e223
  have o224 : isO M222 (mN M218) [8] := ⟨8, List.mem_singleton.mpr rfl, by rw [e223]; exact u1_same _ _ _⟩
  refine e_dup C rfl dX11_init_173 ?_
  refine e_callIN (as := []) C wb_X8_init rfl wn_X11_76 (m_X8_init h249) rfl ⟨Nat.le_of_ble_eq_true rfl, Nat.le_of_ble_eq_true rfl⟩ ⟨Nat.le_of_ble_eq_true rfl, Nat.le_of_ble_eq_true rfl⟩ (by first | exact Nat.le_of_ble_eq_true rfl | (simp only [List.map_cons, List.map_nil, va_cat, List.sum_cons, List.sum_nil]; exact Nat.le_of_ble_eq_true rfl)) dX11_init_174 (kV (fun M226 h248 => ?_))
  obtain ⟨b227, p228, h248⟩ := h248
  try rw [p228]
  obtain ⟨o229, h248⟩ := h248
  obtain ⟨o230, h248⟩ := h248
  refine e_aast C 7 (by decide) rfl o229 [8] o230 ac_7 dX11_init_177 ?_
  refine nmE (fun M231 e232 => ?_)
  replace h248 := h248 M231 e232
  have o233 : isO M231 (mN M218) [8] := by rw [e232]; exact o230
  refine e_iinc (v := (5 : Int32)) (al' := [(1, .int (5 : Int32)), (0, .ref a0)]) C 0 dX11_init_178 rfl (by decide) (by decide) rfl ?_
  refine e_goto (tgt := 159) C dX11_init_181 (by decide) ?_
  refine e_iload_n C 0 dX11_init_159 rfl rfl ?_
  refine e_bipush (v := 6) C dX11_init_160 (by decide) ?_
  refine e_icmp_ge (tgt := 184) C dX11_init_162 (by decide) (fun q => absurd q (by decide)) (fun _ => ?_)
  refine e_aload_n C 1 dX11_init_165 rfl rfl ?_
  obtain ⟨o234, h248⟩ := h248
  refine e_getR C [11] 18 (fg_of fg_X11_72) o234 dX11_init_166 ?_
  refine e_iload_n C 0 dX11_init_169 rfl rfl ?_
  refine e_new C 8 (K := RX8) (T := TX8) (N := 3) rfl rfl uwX8 tyX8_ok nt_8 wd_214 wd_216 wd_6 (Nat.le_of_ble_eq_true rfl) (Nat.le_of_ble_eq_true rfl) dX11_init_170 ?_
  refine nmE (fun M235 e236 => ?_)
  replace h248 := h248 M235 e236
  have o237 : isO M235 (mN M231) [8] := ⟨8, List.mem_singleton.mpr rfl, by rw [e236]; exact u1_same _ _ _⟩
  refine e_dup C rfl dX11_init_173 ?_
  refine e_callIN (as := []) C wb_X8_init rfl wn_X11_76 (m_X8_init h248) rfl ⟨Nat.le_of_ble_eq_true rfl, Nat.le_of_ble_eq_true rfl⟩ ⟨Nat.le_of_ble_eq_true rfl, Nat.le_of_ble_eq_true rfl⟩ (by first | exact Nat.le_of_ble_eq_true rfl | (simp only [List.map_cons, List.map_nil, va_cat, List.sum_cons, List.sum_nil]; exact Nat.le_of_ble_eq_true rfl)) dX11_init_174 (kV (fun M239 h247 => ?_))
  obtain ⟨b240, p241, h247⟩ := h247
  try rw [p241]
  obtain ⟨o242, h247⟩ := h247
  obtain ⟨o243, h247⟩ := h247
  refine e_aast C 7 (by decide) rfl o242 [8] o243 ac_7 dX11_init_177 ?_
  refine nmE (fun M244 e245 => ?_)
  replace h247 := h247 M244 e245
  have o246 : isO M244 (mN M231) [8] := by rw [e245]; exact o243
  refine e_iinc (v := (6 : Int32)) (al' := [(1, .int (6 : Int32)), (0, .ref a0)]) C 0 dX11_init_178 rfl (by decide) (by decide) rfl ?_
  refine e_goto (tgt := 159) C dX11_init_181 (by decide) ?_
  refine e_iload_n C 0 dX11_init_159 rfl rfl ?_
  refine e_bipush (v := 6) C dX11_init_160 (by decide) ?_
  refine e_icmp_ge (tgt := 184) C dX11_init_162 (by decide) (fun _ => ?_) (fun q => absurd q (by decide))
  exact e_vret C hr hlk (Nat.le_of_ble_eq_true rfl) (Nat.le_of_ble_eq_true rfl) dX11_init_184 ⟨rfl, h247⟩
theorem m_X11_init  {a0 : Nat} {M : Mem} {Q : Mem → Prop} (h : f_X11_init a0 M Q) : Con yX11_init cX11_init 2 none 3 100 4000 [.ref a0] M (rV Q) :=
  con_of2 (al := [(0, .ref a0)]) (by decide) (by exact Nat.le_of_ble_eq_true rfl) (by rfl) (fun p l e s m args below meth c g C hr hlk hnm => w_X11_init C hr hlk hnm h)
