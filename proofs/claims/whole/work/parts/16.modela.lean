/-! ===== generated: the machine keeps f_ ===== -/
set_option maxHeartbeats 4000000 in
set_option maxRecDepth 100000 in
theorem w_X12_init {p : Program} {l : Launch} {e : Env} {s : State} {m : MethodId} {args : Array Value} {below : List Frame} {meth : Method} {c : Code} {g : Geo} (C : Cx p s m args c cX12_init RX12 1 g) (hr : meth.sig.returnType = none) (hlk : meth.locks = false) (hnm : meth.name = "<init>") {a0 : Nat} {M : Mem} {Q : Mem → Prop} (h : f_X12_init a0 M Q) : E p l e (rmO 2 41 2437) s m args below meth c g 1 (MQ below (QcM g (rV Q)) args s 41 2437 (gA g)) 0 0 0 [(0, .ref a0)] [] M := by
  unfold f_X12_init at h
  refine e_aload_n C 0 dX12_init_0 rfl rfl ?_
  refine e_obj C wd_980 wd_27 wd_28 ⟨Nat.le_of_ble_eq_true rfl, Nat.le_of_ble_eq_true rfl⟩ (by first | exact Nat.le_of_ble_eq_true rfl | (simp only [List.map_cons, List.map_nil, va_cat, List.sum_cons, List.sum_nil]; exact Nat.le_of_ble_eq_true rfl)) dX12_init_1 ?_
  refine e_aload_n C 0 dX12_init_4 rfl rfl ?_
  refine e_iconst (v := 0) C dX12_init_5 (by decide) ?_
  obtain ⟨o1, h⟩ := h
  refine e_putI C [12] 0 false (fun z => by cases z) fp_X12_7 o1 dX12_init_6 ?_
  refine nmE (fun M2 e3 => ?_)
  replace h := h M2 e3
  have o4 : isO M2 a0 [12] := by rw [e3]; exact o1
  refine e_aload_n C 0 dX12_init_9 rfl rfl ?_
  refine e_iconst (v := 0) C dX12_init_10 (by decide) ?_
  refine e_putI C [12] 1 false (fun z => by cases z) fp_X12_13 o4 dX12_init_11 ?_
  refine nmE (fun M5 e6 => ?_)
  replace h := h M5 e6
  have o7 : isO M5 a0 [12] := by rw [e6]; exact o4
  refine e_aload_n C 0 dX12_init_14 rfl rfl ?_
  refine e_bipush (v := 6) C dX12_init_15 (by decide) ?_
  refine e_newa C 0 (N := 6) (by decide) (by decide) (by decide) rfl wd_76 (Nat.le_of_ble_eq_true rfl) (Nat.le_of_ble_eq_true rfl) dX12_init_17 ?_
  refine nmE (fun M8 e9 => ?_)
  replace h := h M8 e9
  obtain ⟨o10, h⟩ := h
  refine e_putR (x := (some (mN M5))) C [12] 2 true (fun _ => hnm) fp_X12_16 o10 dX12_init_19 ?_
  refine nmE (fun M11 e12 => ?_)
  replace h := h M11 e12
  have o13 : isO M11 a0 [12] := by rw [e12]; exact o10
  refine e_aload_n C 0 dX12_init_22 rfl rfl ?_
  refine e_bipush (v := 6) C dX12_init_23 (by decide) ?_
  refine e_newa C 0 (N := 6) (by decide) (by decide) (by decide) rfl wd_76 (Nat.le_of_ble_eq_true rfl) (Nat.le_of_ble_eq_true rfl) dX12_init_25 ?_
  refine nmE (fun M14 e15 => ?_)
  replace h := h M14 e15
  obtain ⟨o16, h⟩ := h
  refine e_putR (x := (some (mN M11))) C [12] 3 true (fun _ => hnm) fp_X12_20 o16 dX12_init_27 ?_
  refine nmE (fun M17 e18 => ?_)
  replace h := h M17 e18
  have o19 : isO M17 a0 [12] := by rw [e18]; exact o16
  refine e_aload_n C 0 dX12_init_30 rfl rfl ?_
  refine e_bipush (v := 6) C dX12_init_31 (by decide) ?_
  refine e_newa C 0 (N := 6) (by decide) (by decide) (by decide) rfl wd_76 (Nat.le_of_ble_eq_true rfl) (Nat.le_of_ble_eq_true rfl) dX12_init_33 ?_
  refine nmE (fun M20 e21 => ?_)
  replace h := h M20 e21
  obtain ⟨o22, h⟩ := h
  refine e_putR (x := (some (mN M17))) C [12] 4 true (fun _ => hnm) fp_X12_23 o22 dX12_init_35 ?_
  refine nmE (fun M23 e24 => ?_)
  replace h := h M23 e24
  have o25 : isO M23 a0 [12] := by rw [e24]; exact o22
  refine e_aload_n C 0 dX12_init_38 rfl rfl ?_
  refine e_bipush (v := 6) C dX12_init_39 (by decide) ?_
  refine e_newa C 0 (N := 6) (by decide) (by decide) (by decide) rfl wd_76 (Nat.le_of_ble_eq_true rfl) (Nat.le_of_ble_eq_true rfl) dX12_init_41 ?_
  refine nmE (fun M26 e27 => ?_)
  replace h := h M26 e27
  obtain ⟨o28, h⟩ := h
  refine e_putR (x := (some (mN M23))) C [12] 5 true (fun _ => hnm) fp_X12_26 o28 dX12_init_43 ?_
  refine nmE (fun M29 e30 => ?_)
  replace h := h M29 e30
  have o31 : isO M29 a0 [12] := by rw [e30]; exact o28
  refine e_aload_n C 0 dX12_init_46 rfl rfl ?_
  refine e_bipush (v := 6) C dX12_init_47 (by decide) ?_
  refine e_newa C 0 (N := 6) (by decide) (by decide) (by decide) rfl wd_76 (Nat.le_of_ble_eq_true rfl) (Nat.le_of_ble_eq_true rfl) dX12_init_49 ?_
  refine nmE (fun M32 e33 => ?_)
  replace h := h M32 e33
  obtain ⟨o34, h⟩ := h
  refine e_putR (x := (some (mN M29))) C [12] 6 true (fun _ => hnm) fp_X12_29 o34 dX12_init_51 ?_
  refine nmE (fun M35 e36 => ?_)
  replace h := h M35 e36
  have o37 : isO M35 a0 [12] := by rw [e36]; exact o34
  refine e_aload_n C 0 dX12_init_54 rfl rfl ?_
  refine e_bipush (v := 13) C dX12_init_55 (by decide) ?_
  refine e_newa C 0 (N := 13) (by decide) (by decide) (by decide) rfl wd_76 (Nat.le_of_ble_eq_true rfl) (Nat.le_of_ble_eq_true rfl) dX12_init_57 ?_
  refine nmE (fun M38 e39 => ?_)
  replace h := h M38 e39
  obtain ⟨o40, h⟩ := h
  refine e_putR (x := (some (mN M35))) C [12] 7 true (fun _ => hnm) fp_X12_32 o40 dX12_init_59 ?_
  refine nmE (fun M41 e42 => ?_)
  replace h := h M41 e42
  have o43 : isO M41 a0 [12] := by rw [e42]; exact o40
  refine e_aload_n C 0 dX12_init_62 rfl rfl ?_
  refine e_bipush (v := 13) C dX12_init_63 (by decide) ?_
  refine e_newa C 0 (N := 13) (by decide) (by decide) (by decide) rfl wd_76 (Nat.le_of_ble_eq_true rfl) (Nat.le_of_ble_eq_true rfl) dX12_init_65 ?_
  refine nmE (fun M44 e45 => ?_)
  replace h := h M44 e45
  obtain ⟨o46, h⟩ := h
  refine e_putR (x := (some (mN M41))) C [12] 8 true (fun _ => hnm) fp_X12_35 o46 dX12_init_67 ?_
  refine nmE (fun M47 e48 => ?_)
  replace h := h M47 e48
  have o49 : isO M47 a0 [12] := by rw [e48]; exact o46
  refine e_aload_n C 0 dX12_init_70 rfl rfl ?_
  refine e_iconst (v := 0) C dX12_init_71 (by decide) ?_
  refine e_putI C [12] 9 false (fun z => by cases z) fp_X12_38 o49 dX12_init_72 ?_
  refine nmE (fun M50 e51 => ?_)
  replace h := h M50 e51
  have o52 : isO M50 a0 [12] := by rw [e51]; exact o49
  refine e_aload_n C 0 dX12_init_75 rfl rfl ?_
  refine e_iconst (v := -1) C dX12_init_76 (by decide) ?_
  refine e_putI C [12] 10 false (fun z => by cases z) fp_X12_41 o52 dX12_init_77 ?_
  refine nmE (fun M53 e54 => ?_)
  replace h := h M53 e54
  have o55 : isO M53 a0 [12] := by rw [e54]; exact o52
  refine e_aload_n C 0 dX12_init_80 rfl rfl ?_
  refine e_iconst (v := 0) C dX12_init_81 (by decide) ?_
  refine e_putI C [12] 11 false (fun z => by cases z) fp_X12_44 o55 dX12_init_82 ?_
  refine nmE (fun M56 e57 => ?_)
  replace h := h M56 e57
  have o58 : isO M56 a0 [12] := by rw [e57]; exact o55
  refine e_aload_n C 0 dX12_init_85 rfl rfl ?_
  refine e_iconst (v := 0) C dX12_init_86 (by decide) ?_
  refine e_putI C [12] 12 false (fun z => by cases z) fp_X12_47 o58 dX12_init_87 ?_
  refine nmE (fun M59 e60 => ?_)
  replace h := h M59 e60
  have o61 : isO M59 a0 [12] := by rw [e60]; exact o58
  refine e_aload_n C 0 dX12_init_90 rfl rfl ?_
  refine e_iconst (v := 0) C dX12_init_91 (by decide) ?_
  refine e_putI C [12] 13 false (fun z => by cases z) fp_X12_50 o61 dX12_init_92 ?_
  refine nmE (fun M62 e63 => ?_)
  replace h := h M62 e63
  have o64 : isO M62 a0 [12] := by rw [e63]; exact o61
  refine e_aload_n C 0 dX12_init_95 rfl rfl ?_
  refine e_bipush (v := 100) C dX12_init_96 (by decide) ?_
  refine e_newa C 0 (N := 100) (by decide) (by decide) (by decide) rfl wd_76 (Nat.le_of_ble_eq_true rfl) (Nat.le_of_ble_eq_true rfl) dX12_init_98 ?_
  refine nmE (fun M65 e66 => ?_)
  replace h := h M65 e66
  obtain ⟨o67, h⟩ := h
  refine e_putR (x := (some (mN M62))) C [12] 14 true (fun _ => hnm) fp_X12_53 o67 dX12_init_100 ?_
  refine nmE (fun M68 e69 => ?_)
  replace h := h M68 e69
  have o70 : isO M68 a0 [12] := by rw [e69]; exact o67
  refine e_aload_n C 0 dX12_init_103 rfl rfl ?_
  refine e_bipush (v := 6) C dX12_init_104 (by decide) ?_
  refine e_newa C 0 (N := 6) (by decide) (by decide) (by decide) rfl wd_76 (Nat.le_of_ble_eq_true rfl) (Nat.le_of_ble_eq_true rfl) dX12_init_106 ?_
  refine nmE (fun M71 e72 => ?_)
  replace h := h M71 e72
  obtain ⟨o73, h⟩ := h
  refine e_putR (x := (some (mN M68))) C [12] 15 true (fun _ => hnm) fp_X12_56 o73 dX12_init_108 ?_
  refine nmE (fun M74 e75 => ?_)
  replace h := h M74 e75
  have o76 : isO M74 a0 [12] := by rw [e75]; exact o73
  refine e_aload_n C 0 dX12_init_111 rfl rfl ?_
  refine e_bipush (v := 48) C dX12_init_112 (by decide) ?_
  refine e_newa C 0 (N := 48) (by decide) (by decide) (by decide) rfl wd_76 (Nat.le_of_ble_eq_true rfl) (Nat.le_of_ble_eq_true rfl) dX12_init_114 ?_
  refine nmE (fun M77 e78 => ?_)
  replace h := h M77 e78
  obtain ⟨o79, h⟩ := h
  refine e_putR (x := (some (mN M74))) C [12] 16 true (fun _ => hnm) fp_X12_59 o79 dX12_init_116 ?_
  refine nmE (fun M80 e81 => ?_)
  replace h := h M80 e81
  have o82 : isO M80 a0 [12] := by rw [e81]; exact o79
  refine e_aload_n C 0 dX12_init_119 rfl rfl ?_
  refine e_bipush (v := 48) C dX12_init_120 (by decide) ?_
  refine e_newa C 0 (N := 48) (by decide) (by decide) (by decide) rfl wd_76 (Nat.le_of_ble_eq_true rfl) (Nat.le_of_ble_eq_true rfl) dX12_init_122 ?_
  refine nmE (fun M83 e84 => ?_)
  replace h := h M83 e84
  obtain ⟨o85, h⟩ := h
  refine e_putR (x := (some (mN M80))) C [12] 17 true (fun _ => hnm) fp_X12_62 o85 dX12_init_124 ?_
  refine nmE (fun M86 e87 => ?_)
  replace h := h M86 e87
  have o88 : isO M86 a0 [12] := by rw [e87]; exact o85
  refine e_aload_n C 0 dX12_init_127 rfl rfl ?_
  refine e_bipush (v := 48) C dX12_init_128 (by decide) ?_
  refine e_newa C 0 (N := 48) (by decide) (by decide) (by decide) rfl wd_76 (Nat.le_of_ble_eq_true rfl) (Nat.le_of_ble_eq_true rfl) dX12_init_130 ?_
  refine nmE (fun M89 e90 => ?_)
  replace h := h M89 e90
  obtain ⟨o91, h⟩ := h
  refine e_putR (x := (some (mN M86))) C [12] 18 true (fun _ => hnm) fp_X12_65 o91 dX12_init_132 ?_
  refine nmE (fun M92 e93 => ?_)
  replace h := h M92 e93
  have o94 : isO M92 a0 [12] := by rw [e93]; exact o91
  refine e_aload_n C 0 dX12_init_135 rfl rfl ?_
  refine e_bipush (v := 48) C dX12_init_136 (by decide) ?_
  refine e_newa C 0 (N := 48) (by decide) (by decide) (by decide) rfl wd_76 (Nat.le_of_ble_eq_true rfl) (Nat.le_of_ble_eq_true rfl) dX12_init_138 ?_
  refine nmE (fun M95 e96 => ?_)
  replace h := h M95 e96
  obtain ⟨o97, h⟩ := h
  refine e_putR (x := (some (mN M92))) C [12] 19 true (fun _ => hnm) fp_X12_68 o97 dX12_init_140 ?_
  refine nmE (fun M98 e99 => ?_)
  replace h := h M98 e99
  have o100 : isO M98 a0 [12] := by rw [e99]; exact o97
  refine e_aload_n C 0 dX12_init_143 rfl rfl ?_
  refine e_bipush (v := 48) C dX12_init_144 (by decide) ?_
  refine e_newa C 0 (N := 48) (by decide) (by decide) (by decide) rfl wd_76 (Nat.le_of_ble_eq_true rfl) (Nat.le_of_ble_eq_true rfl) dX12_init_146 ?_
  refine nmE (fun M101 e102 => ?_)
  replace h := h M101 e102
  obtain ⟨o103, h⟩ := h
  refine e_putR (x := (some (mN M98))) C [12] 20 true (fun _ => hnm) fp_X12_71 o103 dX12_init_148 ?_
  refine nmE (fun M104 e105 => ?_)
  replace h := h M104 e105
  have o106 : isO M104 a0 [12] := by rw [e105]; exact o103
  refine e_aload_n C 0 dX12_init_151 rfl rfl ?_
  refine e_sipush (v := 600) C dX12_init_152 (by decide) ?_
  refine e_newa C 0 (N := 600) (by decide) (by decide) (by decide) rfl wd_76 (Nat.le_of_ble_eq_true rfl) (Nat.le_of_ble_eq_true rfl) dX12_init_155 ?_
  refine nmE (fun M107 e108 => ?_)
  replace h := h M107 e108
  obtain ⟨o109, h⟩ := h
  refine e_putR (x := (some (mN M104))) C [12] 21 true (fun _ => hnm) fp_X12_74 o109 dX12_init_157 ?_
  refine nmE (fun M110 e111 => ?_)
  replace h := h M110 e111
  have o112 : isO M110 a0 [12] := by rw [e111]; exact o109
  refine e_aload_n C 0 dX12_init_160 rfl rfl ?_
  refine e_bipush (v := 101) C dX12_init_161 (by decide) ?_
  refine e_newa C 0 (N := 101) (by decide) (by decide) (by decide) rfl wd_76 (Nat.le_of_ble_eq_true rfl) (Nat.le_of_ble_eq_true rfl) dX12_init_163 ?_
  refine nmE (fun M113 e114 => ?_)
  replace h := h M113 e114
  obtain ⟨o115, h⟩ := h
  refine e_putR (x := (some (mN M110))) C [12] 22 true (fun _ => hnm) fp_X12_77 o115 dX12_init_165 ?_
  refine nmE (fun M116 e117 => ?_)
  replace h := h M116 e117
  have o118 : isO M116 a0 [12] := by rw [e117]; exact o115
  refine e_aload_n C 0 dX12_init_168 rfl rfl ?_
  refine e_iconst (v := 0) C dX12_init_169 (by decide) ?_
  refine e_putI C [12] 23 false (fun z => by cases z) fp_X12_80 o118 dX12_init_170 ?_
  refine nmE (fun M119 e120 => ?_)
  replace h := h M119 e120
  have o121 : isO M119 a0 [12] := by rw [e120]; exact o118
  refine e_aload_n C 0 dX12_init_173 rfl rfl ?_
  refine e_iconst (v := 0) C dX12_init_174 (by decide) ?_
  refine e_putI C [12] 24 false (fun z => by cases z) fp_X12_83 o121 dX12_init_175 ?_
  refine nmE (fun M122 e123 => ?_)
  replace h := h M122 e123
  have o124 : isO M122 a0 [12] := by rw [e123]; exact o121
  refine e_aload_n C 0 dX12_init_178 rfl rfl ?_
  refine e_iconst (v := 0) C dX12_init_179 (by decide) ?_
  refine e_putI C [12] 25 false (fun z => by cases z) fp_X12_86 o124 dX12_init_180 ?_
  refine nmE (fun M125 e126 => ?_)
  replace h := h M125 e126
  have o127 : isO M125 a0 [12] := by rw [e126]; exact o124
  refine e_aload_n C 0 dX12_init_183 rfl rfl ?_
  refine e_bipush (v := 100) C dX12_init_184 (by decide) ?_
  refine e_newa C 2 (N := 100) (by decide) (by decide) (by decide) rfl wd_1183 (Nat.le_of_ble_eq_true rfl) (Nat.le_of_ble_eq_true rfl) dX12_init_186 ?_
  refine nmE (fun M128 e129 => ?_)
  replace h := h M128 e129
  obtain ⟨o130, h⟩ := h
  refine e_putR (x := (some (mN M125))) C [12] 26 true (fun _ => hnm) fp_X12_89 o130 dX12_init_188 ?_
  refine nmE (fun M131 e132 => ?_)
  replace h := h M131 e132
  have o133 : isO M131 a0 [12] := by rw [e132]; exact o130
  refine e_aload_n C 0 dX12_init_191 rfl rfl ?_
  refine e_iconst (v := 0) C dX12_init_192 (by decide) ?_
  refine e_putI C [12] 27 false (fun z => by cases z) fp_X12_93 o133 dX12_init_193 ?_
  refine nmE (fun M134 e135 => ?_)
  replace h := h M134 e135
  have o136 : isO M134 a0 [12] := by rw [e135]; exact o133
  refine e_aload_n C 0 dX12_init_196 rfl rfl ?_
  refine e_bipush (v := 11) C dX12_init_197 (by decide) ?_
  refine e_newa C 0 (N := 11) (by decide) (by decide) (by decide) rfl wd_76 (Nat.le_of_ble_eq_true rfl) (Nat.le_of_ble_eq_true rfl) dX12_init_199 ?_
  refine nmE (fun M137 e138 => ?_)
  replace h := h M137 e138
  obtain ⟨o139, h⟩ := h
  refine e_putR (x := (some (mN M134))) C [12] 28 true (fun _ => hnm) fp_X12_96 o139 dX12_init_201 ?_
  refine nmE (fun M140 e141 => ?_)
  replace h := h M140 e141
  have o142 : isO M140 a0 [12] := by rw [e141]; exact o139
  refine e_aload_n C 0 dX12_init_204 rfl rfl ?_
  refine e_bipush (v := 11) C dX12_init_205 (by decide) ?_
  refine e_newa C 0 (N := 11) (by decide) (by decide) (by decide) rfl wd_76 (Nat.le_of_ble_eq_true rfl) (Nat.le_of_ble_eq_true rfl) dX12_init_207 ?_
  refine nmE (fun M143 e144 => ?_)
  replace h := h M143 e144
  obtain ⟨o145, h⟩ := h
  refine e_putR (x := (some (mN M140))) C [12] 29 true (fun _ => hnm) fp_X12_99 o145 dX12_init_209 ?_
  refine nmE (fun M146 e147 => ?_)
  replace h := h M146 e147
  have o148 : isO M146 a0 [12] := by rw [e147]; exact o145
  refine e_aload_n C 0 dX12_init_212 rfl rfl ?_
  refine e_bipush (v := 110) C dX12_init_213 (by decide) ?_
  refine e_newa C 0 (N := 110) (by decide) (by decide) (by decide) rfl wd_76 (Nat.le_of_ble_eq_true rfl) (Nat.le_of_ble_eq_true rfl) dX12_init_215 ?_
  refine nmE (fun M149 e150 => ?_)
  replace h := h M149 e150
  obtain ⟨o151, h⟩ := h
  refine e_putR (x := (some (mN M146))) C [12] 30 true (fun _ => hnm) fp_X12_102 o151 dX12_init_217 ?_
  refine nmE (fun M152 e153 => ?_)
  replace h := h M152 e153
  have o154 : isO M152 a0 [12] := by rw [e153]; exact o151
  refine e_aload_n C 0 dX12_init_220 rfl rfl ?_
  refine e_iconst (v := 0) C dX12_init_221 (by decide) ?_
  refine e_putI C [12] 31 false (fun z => by cases z) fp_X12_105 o154 dX12_init_222 ?_
  refine nmE (fun M155 e156 => ?_)
  replace h := h M155 e156
  have o157 : isO M155 a0 [12] := by rw [e156]; exact o154
  refine e_aload_n C 0 dX12_init_225 rfl rfl ?_
  refine e_iconst (v := 0) C dX12_init_226 (by decide) ?_
  refine e_putI C [12] 32 false (fun z => by cases z) fp_X12_108 o157 dX12_init_227 ?_
  refine nmE (fun M158 e159 => ?_)
  replace h := h M158 e159
  have o160 : isO M158 a0 [12] := by rw [e159]; exact o157
  refine e_aload_n C 0 dX12_init_230 rfl rfl ?_
  refine e_iconst (v := 0) C dX12_init_231 (by decide) ?_
  refine e_putI C [12] 33 false (fun z => by cases z) fp_X12_111 o160 dX12_init_232 ?_
  refine nmE (fun M161 e162 => ?_)
  replace h := h M161 e162
  have o163 : isO M161 a0 [12] := by rw [e162]; exact o160
  refine e_aload_n C 0 dX12_init_235 rfl rfl ?_
  refine e_iconst (v := 0) C dX12_init_236 (by decide) ?_
  refine e_putI C [12] 34 false (fun z => by cases z) fp_X12_114 o163 dX12_init_237 ?_
  refine nmE (fun M164 e165 => ?_)
  replace h := h M164 e165
  have o166 : isO M164 a0 [12] := by rw [e165]; exact o163
  refine e_aload_n C 0 dX12_init_240 rfl rfl ?_
  refine e_iconst (v := 0) C dX12_init_241 (by decide) ?_
  refine e_putI C [12] 35 false (fun z => by cases z) fp_X12_117 o166 dX12_init_242 ?_
  refine nmE (fun M167 e168 => ?_)
  replace h := h M167 e168
  have o169 : isO M167 a0 [12] := by rw [e168]; exact o166
  refine e_aload_n C 0 dX12_init_245 rfl rfl ?_
  refine e_iconst (v := 0) C dX12_init_246 (by decide) ?_
  refine e_putI C [12] 36 false (fun z => by cases z) fp_X12_120 o169 dX12_init_247 ?_
  refine nmE (fun M170 e171 => ?_)
  replace h := h M170 e171
  have o172 : isO M170 a0 [12] := by rw [e171]; exact o169
  refine e_aload_n C 0 dX12_init_250 rfl rfl ?_
  refine e_bipush (v := 30) C dX12_init_251 (by decide) ?_
  refine e_putI C [12] 37 false (fun z => by cases z) fp_X12_123 o172 dX12_init_253 ?_
  refine nmE (fun M173 e174 => ?_)
  replace h := h M173 e174
  have o175 : isO M173 a0 [12] := by rw [e174]; exact o172
  refine e_aload_n C 0 dX12_init_256 rfl rfl ?_
  refine e_iconst (v := 0) C dX12_init_257 (by decide) ?_
  refine e_putI C [12] 38 false (fun z => by cases z) fp_X12_126 o175 dX12_init_258 ?_
  refine nmE (fun M176 e177 => ?_)
  replace h := h M176 e177
  have o178 : isO M176 a0 [12] := by rw [e177]; exact o175
  refine e_aload_n C 0 dX12_init_261 rfl rfl ?_
  refine e_iconst (v := 0) C dX12_init_262 (by decide) ?_
  refine e_putI C [12] 39 false (fun z => by cases z) fp_X12_129 o178 dX12_init_263 ?_
  refine nmE (fun M179 e180 => ?_)
  replace h := h M179 e180
  have o181 : isO M179 a0 [12] := by rw [e180]; exact o178
  refine e_aload_n C 0 dX12_init_266 rfl rfl ?_
  refine e_iconst (v := 0) C dX12_init_267 (by decide) ?_
  refine e_putI C [12] 40 false (fun z => by cases z) fp_X12_132 o181 dX12_init_268 ?_
  refine nmE (fun M182 e183 => ?_)
  replace h := h M182 e183
  have o184 : isO M182 a0 [12] := by rw [e183]; exact o181
  refine e_aload_n C 0 dX12_init_271 rfl rfl ?_
  refine e_bipush (v := 41) C dX12_init_272 (by decide) ?_
  refine e_newa C 0 (N := 41) (by decide) (by decide) (by decide) rfl wd_76 (Nat.le_of_ble_eq_true rfl) (Nat.le_of_ble_eq_true rfl) dX12_init_274 ?_
  refine nmE (fun M185 e186 => ?_)
  replace h := h M185 e186
  obtain ⟨o187, h⟩ := h
  refine e_putR (x := (some (mN M182))) C [12] 41 true (fun _ => hnm) fp_X12_135 o187 dX12_init_276 ?_
  refine nmE (fun M188 e189 => ?_)
  replace h := h M188 e189
  have o190 : isO M188 a0 [12] := by rw [e189]; exact o187
  refine e_aload_n C 0 dX12_init_279 rfl rfl ?_
  refine e_bipush (v := 41) C dX12_init_280 (by decide) ?_
  refine e_newa C 0 (N := 41) (by decide) (by decide) (by decide) rfl wd_76 (Nat.le_of_ble_eq_true rfl) (Nat.le_of_ble_eq_true rfl) dX12_init_282 ?_
  refine nmE (fun M191 e192 => ?_)
  replace h := h M191 e192
  obtain ⟨o193, h⟩ := h
  refine e_putR (x := (some (mN M188))) C [12] 42 true (fun _ => hnm) fp_X12_138 o193 dX12_init_284 ?_
  refine nmE (fun M194 e195 => ?_)
  replace h := h M194 e195
  have o196 : isO M194 a0 [12] := by rw [e195]; exact o193
  refine e_aload_n C 0 dX12_init_287 rfl rfl ?_
  refine e_bipush (v := 41) C dX12_init_288 (by decide) ?_
  refine e_newa C 0 (N := 41) (by decide) (by decide) (by decide) rfl wd_76 (Nat.le_of_ble_eq_true rfl) (Nat.le_of_ble_eq_true rfl) dX12_init_290 ?_
  refine nmE (fun M197 e198 => ?_)
  replace h := h M197 e198
  obtain ⟨o199, h⟩ := h
  refine e_putR (x := (some (mN M194))) C [12] 43 true (fun _ => hnm) fp_X12_141 o199 dX12_init_292 ?_
  refine nmE (fun M200 e201 => ?_)
  replace h := h M200 e201
  have o202 : isO M200 a0 [12] := by rw [e201]; exact o199
  refine e_aload_n C 0 dX12_init_295 rfl rfl ?_
  refine e_bipush (v := 41) C dX12_init_296 (by decide) ?_
  refine e_newa C 0 (N := 41) (by decide) (by decide) (by decide) rfl wd_76 (Nat.le_of_ble_eq_true rfl) (Nat.le_of_ble_eq_true rfl) dX12_init_298 ?_
  refine nmE (fun M203 e204 => ?_)
  replace h := h M203 e204
  obtain ⟨o205, h⟩ := h
  refine e_putR (x := (some (mN M200))) C [12] 44 true (fun _ => hnm) fp_X12_144 o205 dX12_init_300 ?_
  refine nmE (fun M206 e207 => ?_)
  replace h := h M206 e207
  have o208 : isO M206 a0 [12] := by rw [e207]; exact o205
  refine e_aload_n C 0 dX12_init_303 rfl rfl ?_
  refine e_bipush (v := 41) C dX12_init_304 (by decide) ?_
  refine e_newa C 0 (N := 41) (by decide) (by decide) (by decide) rfl wd_76 (Nat.le_of_ble_eq_true rfl) (Nat.le_of_ble_eq_true rfl) dX12_init_306 ?_
  refine nmE (fun M209 e210 => ?_)
  replace h := h M209 e210
  obtain ⟨o211, h⟩ := h
  refine e_putR (x := (some (mN M206))) C [12] 45 true (fun _ => hnm) fp_X12_147 o211 dX12_init_308 ?_
  refine nmE (fun M212 e213 => ?_)
  replace h := h M212 e213
  have o214 : isO M212 a0 [12] := by rw [e213]; exact o211
  refine e_aload_n C 0 dX12_init_311 rfl rfl ?_
  refine e_bipush (v := 41) C dX12_init_312 (by decide) ?_
  refine e_newa C 0 (N := 41) (by decide) (by decide) (by decide) rfl wd_76 (Nat.le_of_ble_eq_true rfl) (Nat.le_of_ble_eq_true rfl) dX12_init_314 ?_
  refine nmE (fun M215 e216 => ?_)
  replace h := h M215 e216
  obtain ⟨o217, h⟩ := h
  refine e_putR (x := (some (mN M212))) C [12] 46 true (fun _ => hnm) fp_X12_150 o217 dX12_init_316 ?_
  refine nmE (fun M218 e219 => ?_)
  replace h := h M218 e219
  have o220 : isO M218 a0 [12] := by rw [e219]; exact o217
  refine e_aload_n C 0 dX12_init_319 rfl rfl ?_
  refine e_bipush (v := 82) C dX12_init_320 (by decide) ?_
  refine e_newa C 0 (N := 82) (by decide) (by decide) (by decide) rfl wd_76 (Nat.le_of_ble_eq_true rfl) (Nat.le_of_ble_eq_true rfl) dX12_init_322 ?_
  refine nmE (fun M221 e222 => ?_)
  replace h := h M221 e222
  obtain ⟨o223, h⟩ := h
  refine e_putR (x := (some (mN M218))) C [12] 47 true (fun _ => hnm) fp_X12_153 o223 dX12_init_324 ?_
  refine nmE (fun M224 e225 => ?_)
  replace h := h M224 e225
  have o226 : isO M224 a0 [12] := by rw [e225]; exact o223
  refine e_aload_n C 0 dX12_init_327 rfl rfl ?_
  refine e_iconst (v := 2) C dX12_init_328 (by decide) ?_
  refine e_newa C 0 (N := 2) (by decide) (by decide) (by decide) rfl wd_76 (Nat.le_of_ble_eq_true rfl) (Nat.le_of_ble_eq_true rfl) dX12_init_329 ?_
  refine nmE (fun M227 e228 => ?_)
  replace h := h M227 e228
  obtain ⟨o229, h⟩ := h
  refine e_putR (x := (some (mN M224))) C [12] 48 true (fun _ => hnm) fp_X12_156 o229 dX12_init_331 ?_
  refine nmE (fun M230 e231 => ?_)
  replace h := h M230 e231
  have o232 : isO M230 a0 [12] := by rw [e231]; exact o229
  refine e_aload_n C 0 dX12_init_334 rfl rfl ?_
  refine e_iconst (v := 2) C dX12_init_335 (by decide) ?_
  refine e_newa C 0 (N := 2) (by decide) (by decide) (by decide) rfl wd_76 (Nat.le_of_ble_eq_true rfl) (Nat.le_of_ble_eq_true rfl) dX12_init_336 ?_
  refine nmE (fun M233 e234 => ?_)
  replace h := h M233 e234
  obtain ⟨o235, h⟩ := h
  refine e_putR (x := (some (mN M230))) C [12] 49 true (fun _ => hnm) fp_X12_159 o235 dX12_init_338 ?_
  refine nmE (fun M236 e237 => ?_)
  replace h := h M236 e237
  have o238 : isO M236 a0 [12] := by rw [e237]; exact o235
  refine e_aload_n C 0 dX12_init_341 rfl rfl ?_
  refine e_bipush (v := 41) C dX12_init_342 (by decide) ?_
  refine e_newa C 0 (N := 41) (by decide) (by decide) (by decide) rfl wd_76 (Nat.le_of_ble_eq_true rfl) (Nat.le_of_ble_eq_true rfl) dX12_init_344 ?_
  refine nmE (fun M239 e240 => ?_)
  replace h := h M239 e240
  obtain ⟨o241, h⟩ := h
  refine e_putR (x := (some (mN M236))) C [12] 50 true (fun _ => hnm) fp_X12_162 o241 dX12_init_346 ?_
  refine nmE (fun M242 e243 => ?_)
  replace h := h M242 e243
  have o244 : isO M242 a0 [12] := by rw [e243]; exact o241
  refine e_aload_n C 0 dX12_init_349 rfl rfl ?_
  refine e_bipush (v := 41) C dX12_init_350 (by decide) ?_
  refine e_newa C 0 (N := 41) (by decide) (by decide) (by decide) rfl wd_76 (Nat.le_of_ble_eq_true rfl) (Nat.le_of_ble_eq_true rfl) dX12_init_352 ?_
  refine nmE (fun M245 e246 => ?_)
  replace h := h M245 e246
  obtain ⟨o247, h⟩ := h
  refine e_putR (x := (some (mN M242))) C [12] 51 true (fun _ => hnm) fp_X12_165 o247 dX12_init_354 ?_
  refine nmE (fun M248 e249 => ?_)
  replace h := h M248 e249
  have o250 : isO M248 a0 [12] := by rw [e249]; exact o247
  refine e_aload_n C 0 dX12_init_357 rfl rfl ?_
  refine e_sipush (v := 200) C dX12_init_358 (by decide) ?_
  refine e_newa C 0 (N := 200) (by decide) (by decide) (by decide) rfl wd_76 (Nat.le_of_ble_eq_true rfl) (Nat.le_of_ble_eq_true rfl) dX12_init_361 ?_
  refine nmE (fun M251 e252 => ?_)
  replace h := h M251 e252
  obtain ⟨o253, h⟩ := h
  refine e_putR (x := (some (mN M248))) C [12] 52 true (fun _ => hnm) fp_X12_168 o253 dX12_init_363 ?_
  refine nmE (fun M254 e255 => ?_)
  replace h := h M254 e255
  have o256 : isO M254 a0 [12] := by rw [e255]; exact o253
  refine e_aload_n C 0 dX12_init_366 rfl rfl ?_
  refine e_bipush (v := 6) C dX12_init_367 (by decide) ?_
  refine e_newa C 0 (N := 6) (by decide) (by decide) (by decide) rfl wd_76 (Nat.le_of_ble_eq_true rfl) (Nat.le_of_ble_eq_true rfl) dX12_init_369 ?_
  refine nmE (fun M257 e258 => ?_)
  replace h := h M257 e258
  obtain ⟨o259, h⟩ := h
  refine e_putR (x := (some (mN M254))) C [12] 53 true (fun _ => hnm) fp_X12_171 o259 dX12_init_371 ?_
  refine nmE (fun M260 e261 => ?_)
  replace h := h M260 e261
  have o262 : isO M260 a0 [12] := by rw [e261]; exact o259
  refine e_aload_n C 0 dX12_init_374 rfl rfl ?_
  refine e_iconst (v := 0) C dX12_init_375 (by decide) ?_
  refine e_putZ C [12] 54 false (fun z => by cases z) (fp_z fp_X12_174 rfl rfl) o262 dX12_init_376 ?_
  refine nmE (fun M263 e264 => ?_)
  replace h := h M263 e264
  have o265 : isO M263 a0 [12] := by rw [e264]; exact o262
  refine e_aload_n C 0 dX12_init_379 rfl rfl ?_
  refine e_iconst (v := -1) C dX12_init_380 (by decide) ?_
  refine e_putI C [12] 55 false (fun z => by cases z) fp_X12_178 o265 dX12_init_381 ?_
  refine nmE (fun M266 e267 => ?_)
  replace h := h M266 e267
  have o268 : isO M266 a0 [12] := by rw [e267]; exact o265
  refine e_aload_n C 0 dX12_init_384 rfl rfl ?_
  refine e_iconst (v := 0) C dX12_init_385 (by decide) ?_
  refine e_putI C [12] 56 false (fun z => by cases z) fp_X12_181 o268 dX12_init_386 ?_
  refine nmE (fun M269 e270 => ?_)
  replace h := h M269 e270
  have o271 : isO M269 a0 [12] := by rw [e270]; exact o268
  refine e_aload_n C 0 dX12_init_389 rfl rfl ?_
  refine e_iconst (v := 0) C dX12_init_390 (by decide) ?_
  refine e_putI C [12] 57 false (fun z => by cases z) fp_X12_184 o271 dX12_init_391 ?_
  refine nmE (fun M272 e273 => ?_)
  replace h := h M272 e273
  have o274 : isO M272 a0 [12] := by rw [e273]; exact o271
  refine e_aload_n C 0 dX12_init_394 rfl rfl ?_
  refine e_bipush (v := 6) C dX12_init_395 (by decide) ?_
  refine e_newa C 0 (N := 6) (by decide) (by decide) (by decide) rfl wd_76 (Nat.le_of_ble_eq_true rfl) (Nat.le_of_ble_eq_true rfl) dX12_init_397 ?_
  refine nmE (fun M275 e276 => ?_)
  replace h := h M275 e276
  obtain ⟨o277, h⟩ := h
  refine e_putR (x := (some (mN M272))) C [12] 58 true (fun _ => hnm) fp_X12_187 o277 dX12_init_399 ?_
  refine nmE (fun M278 e279 => ?_)
  replace h := h M278 e279
  have o280 : isO M278 a0 [12] := by rw [e279]; exact o277
  refine e_aload_n C 0 dX12_init_402 rfl rfl ?_
  refine e_bipush (v := 12) C dX12_init_403 (by decide) ?_
  refine e_newa C 0 (N := 12) (by decide) (by decide) (by decide) rfl wd_76 (Nat.le_of_ble_eq_true rfl) (Nat.le_of_ble_eq_true rfl) dX12_init_405 ?_
  refine nmE (fun M281 e282 => ?_)
  replace h := h M281 e282
  obtain ⟨o283, h⟩ := h
  refine e_putR (x := (some (mN M278))) C [12] 59 true (fun _ => hnm) fp_X12_190 o283 dX12_init_407 ?_
  refine nmE (fun M284 e285 => ?_)
  replace h := h M284 e285
  have o286 : isO M284 a0 [12] := by rw [e285]; exact o283
  refine e_aload_n C 0 dX12_init_410 rfl rfl ?_
  refine e_bipush (v := 12) C dX12_init_411 (by decide) ?_
  refine e_newa C 0 (N := 12) (by decide) (by decide) (by decide) rfl wd_76 (Nat.le_of_ble_eq_true rfl) (Nat.le_of_ble_eq_true rfl) dX12_init_413 ?_
  refine nmE (fun M287 e288 => ?_)
  replace h := h M287 e288
  obtain ⟨o289, h⟩ := h
  refine e_putR (x := (some (mN M284))) C [12] 60 true (fun _ => hnm) fp_X12_193 o289 dX12_init_415 ?_
  refine nmE (fun M290 e291 => ?_)
  replace h := h M290 e291
  have o292 : isO M290 a0 [12] := by rw [e291]; exact o289
  refine e_aload_n C 0 dX12_init_418 rfl rfl ?_
  refine e_iconst (v := 0) C dX12_init_419 (by decide) ?_
  refine e_putI C [12] 61 false (fun z => by cases z) fp_X12_196 o292 dX12_init_420 ?_
  refine nmE (fun M293 e294 => ?_)
  replace h := h M293 e294
  have o295 : isO M293 a0 [12] := by rw [e294]; exact o292
  refine e_aload_n C 0 dX12_init_423 rfl rfl ?_
  refine e_bipush (v := 20) C dX12_init_424 (by decide) ?_
  refine e_newa C 0 (N := 20) (by decide) (by decide) (by decide) rfl wd_76 (Nat.le_of_ble_eq_true rfl) (Nat.le_of_ble_eq_true rfl) dX12_init_426 ?_
  refine nmE (fun M296 e297 => ?_)
  replace h := h M296 e297
  obtain ⟨o298, h⟩ := h
  refine e_putR (x := (some (mN M293))) C [12] 62 true (fun _ => hnm) fp_X12_199 o298 dX12_init_428 ?_
  refine nmE (fun M299 e300 => ?_)
  replace h := h M299 e300
  have o301 : isO M299 a0 [12] := by rw [e300]; exact o298
  refine e_aload_n C 0 dX12_init_431 rfl rfl ?_
  refine e_bipush (v := 6) C dX12_init_432 (by decide) ?_
  refine e_newa C 0 (N := 6) (by decide) (by decide) (by decide) rfl wd_76 (Nat.le_of_ble_eq_true rfl) (Nat.le_of_ble_eq_true rfl) dX12_init_434 ?_
  refine nmE (fun M302 e303 => ?_)
  replace h := h M302 e303
  refine e_dup C rfl dX12_init_436 ?_
  refine e_iconst (v := 0) C dX12_init_437 (by decide) ?_
  refine e_iconst (v := -1) C dX12_init_438 (by decide) ?_
  obtain ⟨o304, h⟩ := h
  refine e_iast C o304 dX12_init_439 ?_
  refine nmE (fun M305 e306 => ?_)
  replace h := h M305 e306
  refine e_dup C rfl dX12_init_440 ?_
  refine e_iconst (v := 1) C dX12_init_441 (by decide) ?_
  refine e_iconst (v := -1) C dX12_init_442 (by decide) ?_
  obtain ⟨o307, h⟩ := h
  refine e_iast C o307 dX12_init_443 ?_
  refine nmE (fun M308 e309 => ?_)
  replace h := h M308 e309
  refine e_dup C rfl dX12_init_444 ?_
  refine e_iconst (v := 2) C dX12_init_445 (by decide) ?_
  refine e_iconst (v := -1) C dX12_init_446 (by decide) ?_
  obtain ⟨o310, h⟩ := h
  refine e_iast C o310 dX12_init_447 ?_
  refine nmE (fun M311 e312 => ?_)
  replace h := h M311 e312
  refine e_dup C rfl dX12_init_448 ?_
  refine e_iconst (v := 3) C dX12_init_449 (by decide) ?_
  refine e_iconst (v := -1) C dX12_init_450 (by decide) ?_
  obtain ⟨o313, h⟩ := h
  refine e_iast C o313 dX12_init_451 ?_
  refine nmE (fun M314 e315 => ?_)
  replace h := h M314 e315
  refine e_dup C rfl dX12_init_452 ?_
  refine e_iconst (v := 4) C dX12_init_453 (by decide) ?_
  refine e_iconst (v := -1) C dX12_init_454 (by decide) ?_
  obtain ⟨o316, h⟩ := h
  refine e_iast C o316 dX12_init_455 ?_
  refine nmE (fun M317 e318 => ?_)
  replace h := h M317 e318
  refine e_dup C rfl dX12_init_456 ?_
  refine e_iconst (v := 5) C dX12_init_457 (by decide) ?_
  refine e_iconst (v := -1) C dX12_init_458 (by decide) ?_
  obtain ⟨o319, h⟩ := h
  refine e_iast C o319 dX12_init_459 ?_
  refine nmE (fun M320 e321 => ?_)
  replace h := h M320 e321
  obtain ⟨o322, h⟩ := h
  refine e_putR (x := (some (mN M299))) C [12] 63 true (fun _ => hnm) fp_X12_202 o322 dX12_init_460 ?_
  refine nmE (fun M323 e324 => ?_)
  replace h := h M323 e324
  have o325 : isO M323 a0 [12] := by rw [e324]; exact o322
  refine e_aload_n C 0 dX12_init_463 rfl rfl ?_
  refine e_bipush (v := 6) C dX12_init_464 (by decide) ?_
  refine e_newa C 0 (N := 6) (by decide) (by decide) (by decide) rfl wd_76 (Nat.le_of_ble_eq_true rfl) (Nat.le_of_ble_eq_true rfl) dX12_init_466 ?_
  refine nmE (fun M326 e327 => ?_)
  replace h := h M326 e327
  obtain ⟨o328, h⟩ := h
  refine e_putR (x := (some (mN M323))) C [12] 64 true (fun _ => hnm) fp_X12_205 o328 dX12_init_468 ?_
  refine nmE (fun M329 e330 => ?_)
  replace h := h M329 e330
  have o331 : isO M329 a0 [12] := by rw [e330]; exact o328
  refine e_aload_n C 0 dX12_init_471 rfl rfl ?_
  refine e_sipush (v := 360) C dX12_init_472 (by decide) ?_
  refine e_newa C 3 (N := 360) (by decide) (by decide) (by decide) rfl wd_234 (Nat.le_of_ble_eq_true rfl) (Nat.le_of_ble_eq_true rfl) dX12_init_475 ?_
  refine nmE (fun M332 e333 => ?_)
  replace h := h M332 e333
  obtain ⟨o334, h⟩ := h
  refine e_putR (x := (some (mN M329))) C [12] 65 true (fun _ => hnm) fp_X12_208 o334 dX12_init_477 ?_
  refine nmE (fun M335 e336 => ?_)
  replace h := h M335 e336
  have o337 : isO M335 a0 [12] := by rw [e336]; exact o334
  refine e_aload_n C 0 dX12_init_480 rfl rfl ?_
  refine e_bipush (v := 60) C dX12_init_481 (by decide) ?_
  refine e_newa C 3 (N := 60) (by decide) (by decide) (by decide) rfl wd_234 (Nat.le_of_ble_eq_true rfl) (Nat.le_of_ble_eq_true rfl) dX12_init_483 ?_
  refine nmE (fun M338 e339 => ?_)
  replace h := h M338 e339
  obtain ⟨o340, h⟩ := h
  refine e_putR (x := (some (mN M335))) C [12] 66 true (fun _ => hnm) fp_X12_212 o340 dX12_init_485 ?_
  refine nmE (fun M341 e342 => ?_)
  replace h := h M341 e342
  have o343 : isO M341 a0 [12] := by rw [e342]; exact o340
  exact e_vret C hr hlk (Nat.le_of_ble_eq_true rfl) (Nat.le_of_ble_eq_true rfl) dX12_init_488 ⟨rfl, h⟩
theorem m_X12_init  {a0 : Nat} {M : Mem} {Q : Mem → Prop} (h : f_X12_init a0 M Q) : Con yX12_init cX12_init 1 none 2 41 2437 [.ref a0] M (rV Q) :=
  con_of2 (al := [(0, .ref a0)]) (by decide) (by exact Nat.le_of_ble_eq_true rfl) (by rfl) (fun p l e s m args below meth c g C hr hlk hnm => w_X12_init C hr hlk hnm h)
set_option maxHeartbeats 4000000 in
set_option maxRecDepth 100000 in
theorem w_X12_in {p : Program} {l : Launch} {e : Env} {s : State} {m : MethodId} {args : Array Value} {below : List Frame} {meth : Method} {c : Code} {g : Geo} (C : Cx p s m args c cX12_in RX12 4 g) (hr : meth.sig.returnType = (some .boolean)) (hlk : meth.locks = false) {a0 : Nat} {x1 : Int32} {x2 : Int32} {x3 : Int32} {M : Mem} {Q : Bool → Mem → Prop} (h : f_X12_in a0 x1 x2 x3 M Q) : E p l e (rmO 1 0 0) s m args below meth c g 4 (MQ below (QcM g (rZ Q)) args s 0 0 (gA g)) 0 0 0 [(0, .ref a0), (1, .int x1), (2, .int x2), (3, .int x3)] [] M := by
  unfold f_X12_in at h
  refine e_iload_n C 1 dX12_in_0 rfl rfl ?_
  refine e_iload_n C 2 dX12_in_1 rfl rfl ?_
  refine e_icmp_lt (tgt := 14) C dX12_in_2 (by decide) (fun q1 => ?_) (fun q1 => ?_)
  · replace h := ite_t h q1
    refine e_iconst (v := 0) C dX12_in_14 (by decide) ?_
    exact e_zret C hr rfl hlk (Nat.le_refl _) (Nat.le_refl _) dX12_in_15 ⟨false, rfl, h⟩
  · replace h := ite_f h q1
    refine e_iload_n C 1 dX12_in_5 rfl rfl ?_
    refine e_iload_n C 3 dX12_in_6 rfl rfl ?_
    refine e_icmp_gt (tgt := 14) C dX12_in_7 (by decide) (fun q2 => ?_) (fun q2 => ?_)
    · replace h := ite_t h q2
      refine e_iconst (v := 0) C dX12_in_14 (by decide) ?_
      exact e_zret C hr rfl hlk (Nat.le_refl _) (Nat.le_refl _) dX12_in_15 ⟨false, rfl, h⟩
    · replace h := ite_f h q2
      refine e_iconst (v := 1) C dX12_in_10 (by decide) ?_
      refine e_goto (tgt := 15) C dX12_in_11 (by decide) ?_
      exact e_zret C hr rfl hlk (Nat.le_refl _) (Nat.le_refl _) dX12_in_15 ⟨true, rfl, h⟩
theorem m_X12_in  {a0 : Nat} {x1 : Int32} {x2 : Int32} {x3 : Int32} {M : Mem} {Q : Bool → Mem → Prop} (h : f_X12_in a0 x1 x2 x3 M Q) : Con yX12_in cX12_in 4 (some .boolean) 1 0 0 [.ref a0, .int x1, .int x2, .int x3] M (rZ Q) :=
  con_of2 (al := [(0, .ref a0), (1, .int x1), (2, .int x2), (3, .int x3)]) (by decide) (by exact Nat.le_of_ble_eq_true rfl) (by rfl) (fun p l e s m args below meth c g C hr hlk _ => w_X12_in C hr hlk h)
set_option maxHeartbeats 4000000 in
set_option maxRecDepth 100000 in
theorem w_X12_min {p : Program} {l : Launch} {e : Env} {s : State} {m : MethodId} {args : Array Value} {below : List Frame} {meth : Method} {c : Code} {g : Geo} (C : Cx p s m args c cX12_min RX12 3 g) (hr : meth.sig.returnType = (some .int)) (hlk : meth.locks = false) {a0 : Nat} {x1 : Int32} {x2 : Int32} {M : Mem} {Q : Int32 → Mem → Prop} (h : f_X12_min a0 x1 x2 M Q) : E p l e (rmO 1 0 0) s m args below meth c g 3 (MQ below (QcM g (rI Q)) args s 0 0 (gA g)) 0 0 0 [(0, .ref a0), (1, .int x1), (2, .int x2)] [] M := by
  unfold f_X12_min at h
  refine e_iload_n C 1 dX12_min_0 rfl rfl ?_
  refine e_iload_n C 2 dX12_min_1 rfl rfl ?_
  refine e_icmp_ge (tgt := 9) C dX12_min_2 (by decide) (fun q1 => ?_) (fun q1 => ?_)
  · replace h := ite_t h q1
    refine e_iload_n C 2 dX12_min_9 rfl rfl ?_
    exact e_iret C hr hlk (Nat.le_refl _) (Nat.le_refl _) dX12_min_10 ⟨_, rfl, h⟩
  · replace h := ite_f h q1
    refine e_iload_n C 1 dX12_min_5 rfl rfl ?_
    refine e_goto (tgt := 10) C dX12_min_6 (by decide) ?_
    exact e_iret C hr hlk (Nat.le_refl _) (Nat.le_refl _) dX12_min_10 ⟨_, rfl, h⟩
theorem m_X12_min  {a0 : Nat} {x1 : Int32} {x2 : Int32} {M : Mem} {Q : Int32 → Mem → Prop} (h : f_X12_min a0 x1 x2 M Q) : Con yX12_min cX12_min 3 (some .int) 1 0 0 [.ref a0, .int x1, .int x2] M (rI Q) :=
  con_of2 (al := [(0, .ref a0), (1, .int x1), (2, .int x2)]) (by decide) (by exact Nat.le_of_ble_eq_true rfl) (by rfl) (fun p l e s m args below meth c g C hr hlk _ => w_X12_min C hr hlk h)
set_option maxHeartbeats 4000000 in
set_option maxRecDepth 100000 in
theorem w_X12_isSort {p : Program} {l : Launch} {e : Env} {s : State} {m : MethodId} {args : Array Value} {below : List Frame} {meth : Method} {c : Code} {g : Geo} (C : Cx p s m args c cX12_isSort RX12 2 g) (hr : meth.sig.returnType = (some .boolean)) (hlk : meth.locks = false) {a0 : Nat} {x1 : Int32} {M : Mem} {Q : Bool → Mem → Prop} (h : f_X12_isSort a0 x1 M Q) : E p l e (rmO 2 0 0) s m args below meth c g 2 (MQ below (QcM g (rZ Q)) args s 0 0 (gA g)) 0 0 0 [(0, .ref a0), (1, .int x1)] [] M := by
  unfold f_X12_isSort at h
  refine e_aload_n C 0 dX12_isSort_0 rfl rfl ?_
  refine e_iload_n C 1 dX12_isSort_1 rfl rfl ?_
  refine e_iconst (v := 0) C dX12_isSort_2 (by decide) ?_
  refine e_aload_n C 0 dX12_isSort_3 rfl rfl ?_
  obtain ⟨o1, h⟩ := h
  refine e_getI C [12] 0 (fg_of fg_X12_7) o1 dX12_isSort_4 ?_
  refine e_iconst (v := 1) C dX12_isSort_7 (by decide) ?_
  refine e_isub C dX12_isSort_8 ?_
  refine e_callV (as := [.int x1, .int (0 : Int32), .int ((mI M a0 0) - (1 : Int32))]) C wb_X12_in wv_X12_215 (ci := 12) rfl rfl (isO_1 o1) (m_X12_in h) rfl ⟨Nat.le_of_ble_eq_true rfl, Nat.le_of_ble_eq_true rfl⟩ ⟨Nat.le_of_ble_eq_true rfl, Nat.le_of_ble_eq_true rfl⟩ (by first | exact Nat.le_of_ble_eq_true rfl | (simp only [List.map_cons, List.map_nil, va_cat, List.sum_cons, List.sum_nil]; exact Nat.le_of_ble_eq_true rfl)) dX12_isSort_9 (kZ (fun w2 M3 h4 => ?_))
  exact e_zret C hr (bi_nar _) hlk (Nat.le_refl _) (Nat.le_refl _) dX12_isSort_12 ⟨_, rfl, h4⟩
theorem m_X12_isSort  {a0 : Nat} {x1 : Int32} {M : Mem} {Q : Bool → Mem → Prop} (h : f_X12_isSort a0 x1 M Q) : Con yX12_isSort cX12_isSort 2 (some .boolean) 2 0 0 [.ref a0, .int x1] M (rZ Q) :=
  con_of2 (al := [(0, .ref a0), (1, .int x1)]) (by decide) (by exact Nat.le_of_ble_eq_true rfl) (by rfl) (fun p l e s m args below meth c g C hr hlk _ => w_X12_isSort C hr hlk h)
set_option maxHeartbeats 4000000 in
set_option maxRecDepth 100000 in
theorem w_X12_sort {p : Program} {l : Launch} {e : Env} {s : State} {m : MethodId} {args : Array Value} {below : List Frame} {meth : Method} {c : Code} {g : Geo} (C : Cx p s m args c cX12_sort RX12 5 g) (hr : meth.sig.returnType = (some .int)) (hlk : meth.locks = false) {a0 : Nat} {x1 : Int32} {x2 : Int32} {x3 : Int32} {x4 : Int32} {M : Mem} {Q : Int32 → Mem → Prop} (h : f_X12_sort a0 x1 x2 x3 x4 M Q) : E p l e (rmO 2 0 0) s m args below meth c g 5 (MQ below (QcM g (rI Q)) args s 0 0 (gA g)) 0 0 0 [(0, .ref a0), (1, .int x1), (2, .int x2), (3, .int x3), (4, .int x4)] [] M := by
  unfold f_X12_sort at h
  refine e_aload_n C 0 dX12_sort_0 rfl rfl ?_
  refine e_iload_n C 1 dX12_sort_1 rfl rfl ?_
  refine e_iconst (v := 0) C dX12_sort_2 (by decide) ?_
  refine e_bipush (v := 9) C dX12_sort_3 (by decide) ?_
  obtain ⟨o3, h⟩ := h
  refine e_callV (as := [.int x1, .int (0 : Int32), .int (9 : Int32)]) C wb_X12_in wv_X12_215 (ci := 12) rfl rfl (isO_1 o3) (m_X12_in h) rfl ⟨Nat.le_of_ble_eq_true rfl, Nat.le_of_ble_eq_true rfl⟩ ⟨Nat.le_of_ble_eq_true rfl, Nat.le_of_ble_eq_true rfl⟩ (by first | exact Nat.le_of_ble_eq_true rfl | (simp only [List.map_cons, List.map_nil, va_cat, List.sum_cons, List.sum_nil]; exact Nat.le_of_ble_eq_true rfl)) dX12_sort_5 (kZ (fun w1 M2 h75 => ?_))
  refine e_if_eq (tgt := 45) C dX12_sort_8 (by decide) (fun q4 => ?_) (fun q4 => ?_)
  · replace h75 := ite_f h75 (bi_ne q4)
    refine e_bipush (v := -2) C dX12_sort_45 (by decide) ?_
    exact e_iret C hr hlk (Nat.le_refl _) (Nat.le_refl _) dX12_sort_47 ⟨_, rfl, h75⟩
  · replace h75 := ite_t h75 (bi_t q4)
    refine e_aload_n C 0 dX12_sort_11 rfl rfl ?_
    refine e_iload_n C 2 dX12_sort_12 rfl rfl ?_
    refine e_iconst (v := 0) C dX12_sort_13 (by decide) ?_
    refine e_bipush (v := 99) C dX12_sort_14 (by decide) ?_
    obtain ⟨o7, h75⟩ := h75
    refine e_callV (as := [.int x2, .int (0 : Int32), .int (99 : Int32)]) C wb_X12_in wv_X12_215 (ci := 12) rfl rfl (isO_1 o7) (m_X12_in h75) rfl ⟨Nat.le_of_ble_eq_true rfl, Nat.le_of_ble_eq_true rfl⟩ ⟨Nat.le_of_ble_eq_true rfl, Nat.le_of_ble_eq_true rfl⟩ (by first | exact Nat.le_of_ble_eq_true rfl | (simp only [List.map_cons, List.map_nil, va_cat, List.sum_cons, List.sum_nil]; exact Nat.le_of_ble_eq_true rfl)) dX12_sort_16 (kZ (fun w5 M6 h74 => ?_))
    refine e_if_eq (tgt := 45) C dX12_sort_19 (by decide) (fun q8 => ?_) (fun q8 => ?_)
    · replace h74 := ite_f h74 (bi_ne q8)
      refine e_bipush (v := -2) C dX12_sort_45 (by decide) ?_
      exact e_iret C hr hlk (Nat.le_refl _) (Nat.le_refl _) dX12_sort_47 ⟨_, rfl, h74⟩
    · replace h74 := ite_t h74 (bi_t q8)
      refine e_aload_n C 0 dX12_sort_22 rfl rfl ?_
      refine e_iload_n C 3 dX12_sort_23 rfl rfl ?_
      refine e_iconst (v := 0) C dX12_sort_24 (by decide) ?_
      refine e_bipush (v := 20) C dX12_sort_25 (by decide) ?_
      obtain ⟨o11, h74⟩ := h74
      refine e_callV (as := [.int x3, .int (0 : Int32), .int (20 : Int32)]) C wb_X12_in wv_X12_215 (ci := 12) rfl rfl (isO_1 o11) (m_X12_in h74) rfl ⟨Nat.le_of_ble_eq_true rfl, Nat.le_of_ble_eq_true rfl⟩ ⟨Nat.le_of_ble_eq_true rfl, Nat.le_of_ble_eq_true rfl⟩ (by first | exact Nat.le_of_ble_eq_true rfl | (simp only [List.map_cons, List.map_nil, va_cat, List.sum_cons, List.sum_nil]; exact Nat.le_of_ble_eq_true rfl)) dX12_sort_27 (kZ (fun w9 M10 h73 => ?_))
      refine e_if_eq (tgt := 45) C dX12_sort_30 (by decide) (fun q12 => ?_) (fun q12 => ?_)
      · replace h73 := ite_f h73 (bi_ne q12)
        refine e_bipush (v := -2) C dX12_sort_45 (by decide) ?_
        exact e_iret C hr hlk (Nat.le_refl _) (Nat.le_refl _) dX12_sort_47 ⟨_, rfl, h73⟩
      · replace h73 := ite_t h73 (bi_t q12)
        refine e_aload_n C 0 dX12_sort_33 rfl rfl ?_
        refine e_iload C 4 dX12_sort_34 rfl ?_
        refine e_iconst (v := 1) C dX12_sort_36 (by decide) ?_
        refine e_bipush (v := 9) C dX12_sort_37 (by decide) ?_
        obtain ⟨o15, h73⟩ := h73
        refine e_callV (as := [.int x4, .int (1 : Int32), .int (9 : Int32)]) C wb_X12_in wv_X12_215 (ci := 12) rfl rfl (isO_1 o15) (m_X12_in h73) rfl ⟨Nat.le_of_ble_eq_true rfl, Nat.le_of_ble_eq_true rfl⟩ ⟨Nat.le_of_ble_eq_true rfl, Nat.le_of_ble_eq_true rfl⟩ (by first | exact Nat.le_of_ble_eq_true rfl | (simp only [List.map_cons, List.map_nil, va_cat, List.sum_cons, List.sum_nil]; exact Nat.le_of_ble_eq_true rfl)) dX12_sort_39 (kZ (fun w13 M14 h72 => ?_))
        refine e_if_ne (tgt := 48) C dX12_sort_42 (by decide) (fun q16 => ?_) (fun q16 => ?_)
        · replace h72 := ite_t h72 (bi_t q16)
          refine e_aload_n C 0 dX12_sort_48 rfl rfl ?_
          obtain ⟨o17, h72⟩ := h72
          refine e_getI C [12] 0 (fg_of fg_X12_7) o17 dX12_sort_49 ?_
          refine e_bipush (v := 6) C dX12_sort_52 (by decide) ?_
          refine e_icmp_ne (tgt := 60) C dX12_sort_54 (by decide) (fun q18 => ?_) (fun q18 => ?_)
          · replace h72 := ite_f h72 q18
            refine e_aload_n C 0 dX12_sort_60 rfl rfl ?_
            refine e_getR C [12] 2 (fg_of fg_X12_16) o17 dX12_sort_61 ?_
            refine e_aload_n C 0 dX12_sort_64 rfl rfl ?_
            refine e_getI C [12] 0 (fg_of fg_X12_7) o17 dX12_sort_65 ?_
            refine e_iload_n C 1 dX12_sort_68 rfl rfl ?_
            obtain ⟨b19, p20, h72⟩ := h72
            try rw [p20]
            obtain ⟨o21, h72⟩ := h72
            refine e_iast C o21 dX12_sort_69 ?_
            refine nmE (fun M22 e23 => ?_)
            replace h72 := h72 M22 e23
            have o24 : isO M22 a0 [12] := by rw [e23]; exact o17
            have p25 : mP M22 a0 2 = some b19 := by rw [e23]; exact p20
            refine e_aload_n C 0 dX12_sort_70 rfl rfl ?_
            refine e_getR C [12] 3 (fg_of fg_X12_20) o24 dX12_sort_71 ?_
            refine e_aload_n C 0 dX12_sort_74 rfl rfl ?_
            refine e_getI C [12] 0 (fg_of fg_X12_7) o24 dX12_sort_75 ?_
            refine e_iload_n C 2 dX12_sort_78 rfl rfl ?_
            obtain ⟨b26, p27, h72⟩ := h72
            try rw [p27]
            obtain ⟨o28, h72⟩ := h72
            refine e_iast C o28 dX12_sort_79 ?_
            refine nmE (fun M29 e30 => ?_)
            replace h72 := h72 M29 e30
            have o31 : isO M29 a0 [12] := by rw [e30]; exact o24
            have p32 : mP M29 a0 2 = some b19 := by rw [e30]; exact p25
            have p33 : mP M29 a0 3 = some b26 := by rw [e30]; exact p27
            refine e_aload_n C 0 dX12_sort_80 rfl rfl ?_
            refine e_getR C [12] 4 (fg_of fg_X12_23) o31 dX12_sort_81 ?_
            refine e_aload_n C 0 dX12_sort_84 rfl rfl ?_
            refine e_getI C [12] 0 (fg_of fg_X12_7) o31 dX12_sort_85 ?_
            refine e_iload_n C 3 dX12_sort_88 rfl rfl ?_
            obtain ⟨b34, p35, h72⟩ := h72
            try rw [p35]
            obtain ⟨o36, h72⟩ := h72
            refine e_iast C o36 dX12_sort_89 ?_
            refine nmE (fun M37 e38 => ?_)
            replace h72 := h72 M37 e38
            have o39 : isO M37 a0 [12] := by rw [e38]; exact o31
            have p40 : mP M37 a0 2 = some b19 := by rw [e38]; exact p32
            have p41 : mP M37 a0 3 = some b26 := by rw [e38]; exact p33
            have p42 : mP M37 a0 4 = some b34 := by rw [e38]; exact p35
            refine e_aload_n C 0 dX12_sort_90 rfl rfl ?_
            refine e_getR C [12] 5 (fg_of fg_X12_26) o39 dX12_sort_91 ?_
            refine e_aload_n C 0 dX12_sort_94 rfl rfl ?_
            refine e_getI C [12] 0 (fg_of fg_X12_7) o39 dX12_sort_95 ?_
            refine e_iload C 4 dX12_sort_98 rfl ?_
            obtain ⟨b43, p44, h72⟩ := h72
            try rw [p44]
            obtain ⟨o45, h72⟩ := h72
            refine e_iast C o45 dX12_sort_100 ?_
            refine nmE (fun M46 e47 => ?_)
            replace h72 := h72 M46 e47
            have o48 : isO M46 a0 [12] := by rw [e47]; exact o39
            have p49 : mP M46 a0 2 = some b19 := by rw [e47]; exact p40
            have p50 : mP M46 a0 3 = some b26 := by rw [e47]; exact p41
            have p51 : mP M46 a0 4 = some b34 := by rw [e47]; exact p42
            have p52 : mP M46 a0 5 = some b43 := by rw [e47]; exact p44
            refine e_aload_n C 0 dX12_sort_101 rfl rfl ?_
            refine e_getR C [12] 6 (fg_of fg_X12_29) o48 dX12_sort_102 ?_
            refine e_aload_n C 0 dX12_sort_105 rfl rfl ?_
            refine e_getI C [12] 0 (fg_of fg_X12_7) o48 dX12_sort_106 ?_
            refine e_bipush (v := 10) C dX12_sort_109 (by decide) ?_
            obtain ⟨b53, p54, h72⟩ := h72
            try rw [p54]
            obtain ⟨o55, h72⟩ := h72
            refine e_iast C o55 dX12_sort_111 ?_
            refine nmE (fun M56 e57 => ?_)
            replace h72 := h72 M56 e57
            have o58 : isO M56 a0 [12] := by rw [e57]; exact o48
            have p59 : mP M56 a0 2 = some b19 := by rw [e57]; exact p49
            have p60 : mP M56 a0 3 = some b26 := by rw [e57]; exact p50
            have p61 : mP M56 a0 4 = some b34 := by rw [e57]; exact p51
            have p62 : mP M56 a0 5 = some b43 := by rw [e57]; exact p52
            have p63 : mP M56 a0 6 = some b53 := by rw [e57]; exact p54
            refine e_aload_n C 0 dX12_sort_112 rfl rfl ?_
            refine e_dup C rfl dX12_sort_113 ?_
            refine e_getI C [12] 0 (fg_of fg_X12_7) o58 dX12_sort_114 ?_
            refine e_iconst (v := 1) C dX12_sort_117 (by decide) ?_
            refine e_iadd C dX12_sort_118 ?_
            refine e_putI C [12] 0 false (fun z => by cases z) fp_X12_7 o58 dX12_sort_119 ?_
            refine nmE (fun M64 e65 => ?_)
            replace h72 := h72 M64 e65
            have o66 : isO M64 a0 [12] := by rw [e65]; exact o58
            have p67 : mP M64 a0 2 = some b19 := by rw [e65]; exact p59
            have p68 : mP M64 a0 3 = some b26 := by rw [e65]; exact p60
            have p69 : mP M64 a0 4 = some b34 := by rw [e65]; exact p61
            have p70 : mP M64 a0 5 = some b43 := by rw [e65]; exact p62
            have p71 : mP M64 a0 6 = some b53 := by rw [e65]; exact p63
            refine e_aload_n C 0 dX12_sort_122 rfl rfl ?_
            refine e_getI C [12] 0 (fg_of fg_X12_7) o66 dX12_sort_123 ?_
            refine e_iconst (v := 1) C dX12_sort_126 (by decide) ?_
            refine e_isub C dX12_sort_127 ?_
            exact e_iret C hr hlk (Nat.le_refl _) (Nat.le_refl _) dX12_sort_128 ⟨_, rfl, h72⟩
          · replace h72 := ite_t h72 q18
            refine e_bipush (v := -4) C dX12_sort_57 (by decide) ?_
            exact e_iret C hr hlk (Nat.le_refl _) (Nat.le_refl _) dX12_sort_59 ⟨_, rfl, h72⟩
        · replace h72 := ite_f h72 (bi_ne q16)
          refine e_bipush (v := -2) C dX12_sort_45 (by decide) ?_
          exact e_iret C hr hlk (Nat.le_refl _) (Nat.le_refl _) dX12_sort_47 ⟨_, rfl, h72⟩
theorem m_X12_sort  {a0 : Nat} {x1 : Int32} {x2 : Int32} {x3 : Int32} {x4 : Int32} {M : Mem} {Q : Int32 → Mem → Prop} (h : f_X12_sort a0 x1 x2 x3 x4 M Q) : Con yX12_sort cX12_sort 5 (some .int) 2 0 0 [.ref a0, .int x1, .int x2, .int x3, .int x4] M (rI Q) :=
  con_of2 (al := [(0, .ref a0), (1, .int x1), (2, .int x2), (3, .int x3), (4, .int x4)]) (by decide) (by exact Nat.le_of_ble_eq_true rfl) (by rfl) (fun p l e s m args below meth c g C hr hlk _ => w_X12_sort C hr hlk h)
set_option maxHeartbeats 4000000 in
set_option maxRecDepth 100000 in
theorem w_X12_of {p : Program} {l : Launch} {e : Env} {s : State} {m : MethodId} {args : Array Value} {below : List Frame} {meth : Method} {c : Code} {g : Geo} (C : Cx p s m args c cX12_of RX12 3 g) (hr : meth.sig.returnType = (some .int)) (hlk : meth.locks = false) {a0 : Nat} {x1 : Int32} {x2 : Int32} {M : Mem} {Q : Int32 → Mem → Prop} (h : f_X12_of a0 x1 x2 M Q) : E p l e (rmO 3 0 0) s m args below meth c g 3 (MQ below (QcM g (rI Q)) args s 0 0 (gA g)) 0 0 0 [(0, .ref a0), (1, .int x1), (2, .int x2)] [] M := by
  unfold f_X12_of at h
  refine e_aload_n C 0 dX12_of_0 rfl rfl ?_
  refine e_iload_n C 1 dX12_of_1 rfl rfl ?_
  obtain ⟨o3, h⟩ := h
  refine e_callV (as := [.int x1]) C wb_X12_isSort wv_X12_219 (ci := 12) rfl rfl (isO_1 o3) (m_X12_isSort h) rfl ⟨Nat.le_of_ble_eq_true rfl, Nat.le_of_ble_eq_true rfl⟩ ⟨Nat.le_of_ble_eq_true rfl, Nat.le_of_ble_eq_true rfl⟩ (by first | exact Nat.le_of_ble_eq_true rfl | (simp only [List.map_cons, List.map_nil, va_cat, List.sum_cons, List.sum_nil]; exact Nat.le_of_ble_eq_true rfl)) dX12_of_2 (kZ (fun w1 M2 h30 => ?_))
  refine e_if_ne (tgt := 10) C dX12_of_5 (by decide) (fun q4 => ?_) (fun q4 => ?_)
  · replace h30 := ite_t h30 (bi_t q4)
    refine e_iload_n C 2 dX12_of_10 rfl rfl ?_
    by_cases q5 : x2 = 0
    · replace h30 := ite_t h30 q5
      refine e_tin (tgt := 44) C dX12_of_11 (by rw [q5]; decide) (by rw [q5]; decide) (by rw [q5] <;> rfl) (by decide) ?_
      refine e_aload_n C 0 dX12_of_44 rfl rfl ?_
      obtain ⟨o6, h30⟩ := h30
      refine e_getR C [12] 2 (fg_of fg_X12_16) o6 dX12_of_45 ?_
      refine e_iload_n C 1 dX12_of_48 rfl rfl ?_
      obtain ⟨b7, p8, h30⟩ := h30
      try rw [p8]
      obtain ⟨o9, h30⟩ := h30
      refine e_iald C o9 dX12_of_49 ?_
      exact e_iret C hr hlk (Nat.le_refl _) (Nat.le_refl _) dX12_of_50 ⟨_, rfl, h30⟩
    · replace h30 := ite_f h30 q5
      by_cases q10 : x2 = 1
      · replace h30 := ite_t h30 q10
        refine e_tin (tgt := 51) C dX12_of_11 (by rw [q10]; decide) (by rw [q10]; decide) (by rw [q10] <;> rfl) (by decide) ?_
        refine e_aload_n C 0 dX12_of_51 rfl rfl ?_
        obtain ⟨o11, h30⟩ := h30
        refine e_getR C [12] 3 (fg_of fg_X12_20) o11 dX12_of_52 ?_
        refine e_iload_n C 1 dX12_of_55 rfl rfl ?_
        obtain ⟨b12, p13, h30⟩ := h30
        try rw [p13]
        obtain ⟨o14, h30⟩ := h30
        refine e_iald C o14 dX12_of_56 ?_
        exact e_iret C hr hlk (Nat.le_refl _) (Nat.le_refl _) dX12_of_57 ⟨_, rfl, h30⟩
      · replace h30 := ite_f h30 q10
        by_cases q15 : x2 = 2
        · replace h30 := ite_t h30 q15
          refine e_tin (tgt := 58) C dX12_of_11 (by rw [q15]; decide) (by rw [q15]; decide) (by rw [q15] <;> rfl) (by decide) ?_
          refine e_aload_n C 0 dX12_of_58 rfl rfl ?_
          obtain ⟨o16, h30⟩ := h30
          refine e_getR C [12] 4 (fg_of fg_X12_23) o16 dX12_of_59 ?_
          refine e_iload_n C 1 dX12_of_62 rfl rfl ?_
          obtain ⟨b17, p18, h30⟩ := h30
          try rw [p18]
          obtain ⟨o19, h30⟩ := h30
          refine e_iald C o19 dX12_of_63 ?_
          exact e_iret C hr hlk (Nat.le_refl _) (Nat.le_refl _) dX12_of_64 ⟨_, rfl, h30⟩
        · replace h30 := ite_f h30 q15
          by_cases q20 : x2 = 3
          · replace h30 := ite_t h30 q20
            refine e_tin (tgt := 65) C dX12_of_11 (by rw [q20]; decide) (by rw [q20]; decide) (by rw [q20] <;> rfl) (by decide) ?_
            refine e_aload_n C 0 dX12_of_65 rfl rfl ?_
            obtain ⟨o21, h30⟩ := h30
            refine e_getR C [12] 5 (fg_of fg_X12_26) o21 dX12_of_66 ?_
            refine e_iload_n C 1 dX12_of_69 rfl rfl ?_
            obtain ⟨b22, p23, h30⟩ := h30
            try rw [p23]
            obtain ⟨o24, h30⟩ := h30
            refine e_iald C o24 dX12_of_70 ?_
            exact e_iret C hr hlk (Nat.le_refl _) (Nat.le_refl _) dX12_of_71 ⟨_, rfl, h30⟩
          · replace h30 := ite_f h30 q20
            by_cases q25 : x2 = 4
            · replace h30 := ite_t h30 q25
              refine e_tin (tgt := 72) C dX12_of_11 (by rw [q25]; decide) (by rw [q25]; decide) (by rw [q25] <;> rfl) (by decide) ?_
              refine e_aload_n C 0 dX12_of_72 rfl rfl ?_
              obtain ⟨o26, h30⟩ := h30
              refine e_getR C [12] 6 (fg_of fg_X12_29) o26 dX12_of_73 ?_
              refine e_iload_n C 1 dX12_of_76 rfl rfl ?_
              obtain ⟨b27, p28, h30⟩ := h30
              try rw [p28]
              obtain ⟨o29, h30⟩ := h30
              refine e_iald C o29 dX12_of_77 ?_
              exact e_iret C hr hlk (Nat.le_refl _) (Nat.le_refl _) dX12_of_78 ⟨_, rfl, h30⟩
            · replace h30 := ite_f h30 q25
              refine e_tout (tgt := 79) C dX12_of_11 (by have z0 := lv_neT (a := 0) q5 (by decide); have z1 := lv_neT (a := 1) q10 (by decide); have z2 := lv_neT (a := 2) q15 (by decide); have z3 := lv_neT (a := 3) q20 (by decide); have z4 := lv_neT (a := 4) q25 (by decide); omega) (by decide) ?_
              refine e_iconst (v := -1) C dX12_of_79 (by decide) ?_
              exact e_iret C hr hlk (Nat.le_refl _) (Nat.le_refl _) dX12_of_80 ⟨_, rfl, h30⟩
  · replace h30 := ite_f h30 (bi_ne q4)
    refine e_iconst (v := -1) C dX12_of_8 (by decide) ?_
    exact e_iret C hr hlk (Nat.le_refl _) (Nat.le_refl _) dX12_of_9 ⟨_, rfl, h30⟩
theorem m_X12_of  {a0 : Nat} {x1 : Int32} {x2 : Int32} {M : Mem} {Q : Int32 → Mem → Prop} (h : f_X12_of a0 x1 x2 M Q) : Con yX12_of cX12_of 3 (some .int) 3 0 0 [.ref a0, .int x1, .int x2] M (rI Q) :=
  con_of2 (al := [(0, .ref a0), (1, .int x1), (2, .int x2)]) (by decide) (by exact Nat.le_of_ble_eq_true rfl) (by rfl) (fun p l e s m args below meth c g C hr hlk _ => w_X12_of C hr hlk h)
set_option maxHeartbeats 4000000 in
set_option maxRecDepth 100000 in
theorem w_X12_odds {p : Program} {l : Launch} {e : Env} {s : State} {m : MethodId} {args : Array Value} {below : List Frame} {meth : Method} {c : Code} {g : Geo} (C : Cx p s m args c cX12_odds RX12 4 g) (hr : meth.sig.returnType = (some .int)) (hlk : meth.locks = false) {a0 : Nat} {x1 : Int32} {x2 : Int32} {M : Mem} {Q : Int32 → Mem → Prop} (h : f_X12_odds a0 x1 x2 M Q) : E p l e (rmO 3 0 0) s m args below meth c g 4 (MQ below (QcM g (rI Q)) args s 0 0 (gA g)) 0 0 0 [(0, .ref a0), (1, .int x1), (2, .int x2)] [] M := by
  unfold f_X12_odds at h
  refine e_aload_n C 0 dX12_odds_0 rfl rfl ?_
  refine e_iload_n C 1 dX12_odds_1 rfl rfl ?_
  obtain ⟨o3, h⟩ := h
  refine e_callV (as := [.int x1]) C wb_X12_isSort wv_X12_219 (ci := 12) rfl rfl (isO_1 o3) (m_X12_isSort h) rfl ⟨Nat.le_of_ble_eq_true rfl, Nat.le_of_ble_eq_true rfl⟩ ⟨Nat.le_of_ble_eq_true rfl, Nat.le_of_ble_eq_true rfl⟩ (by first | exact Nat.le_of_ble_eq_true rfl | (simp only [List.map_cons, List.map_nil, va_cat, List.sum_cons, List.sum_nil]; exact Nat.le_of_ble_eq_true rfl)) dX12_odds_2 (kZ (fun w1 M2 h19 => ?_))
  refine e_if_ne (tgt := 10) C dX12_odds_5 (by decide) (fun q4 => ?_) (fun q4 => ?_)
  · replace h19 := ite_t h19 (bi_t q4)
    refine e_aload_n C 0 dX12_odds_10 rfl rfl ?_
    refine e_iload_n C 2 dX12_odds_11 rfl rfl ?_
    refine e_iconst (v := 0) C dX12_odds_12 (by decide) ?_
    refine e_bipush (v := 10) C dX12_odds_13 (by decide) ?_
    obtain ⟨o7, h19⟩ := h19
    refine e_callV (as := [.int x2, .int (0 : Int32), .int (10 : Int32)]) C wb_X12_in wv_X12_215 (ci := 12) rfl rfl (isO_1 o7) (m_X12_in h19) rfl ⟨Nat.le_of_ble_eq_true rfl, Nat.le_of_ble_eq_true rfl⟩ ⟨Nat.le_of_ble_eq_true rfl, Nat.le_of_ble_eq_true rfl⟩ (by first | exact Nat.le_of_ble_eq_true rfl | (simp only [List.map_cons, List.map_nil, va_cat, List.sum_cons, List.sum_nil]; exact Nat.le_of_ble_eq_true rfl)) dX12_odds_15 (kZ (fun w5 M6 h18 => ?_))
    refine e_if_ne (tgt := 24) C dX12_odds_18 (by decide) (fun q8 => ?_) (fun q8 => ?_)
    · replace h18 := ite_t h18 (bi_t q8)
      refine e_aload_n C 0 dX12_odds_24 rfl rfl ?_
      obtain ⟨o9, h18⟩ := h18
      refine e_getR C [12] 6 (fg_of fg_X12_29) o9 dX12_odds_25 ?_
      refine e_iload_n C 1 dX12_odds_28 rfl rfl ?_
      obtain ⟨b10, p11, h18⟩ := h18
      try rw [p11]
      obtain ⟨o12, h18⟩ := h18
      refine e_iald C o12 dX12_odds_29 ?_
      refine e_istore_n (al' := [(3, .int (mI M6 b10 (x1).toNatClampNeg)), (0, .ref a0), (1, .int x1), (2, .int x2)]) C dX12_odds_30 rfl (by decide) rfl ?_
      refine e_aload_n C 1 dX12_odds_31 rfl rfl ?_
      refine e_getR C [12] 6 (fg_of fg_X12_29) o9 dX12_odds_32 ?_
      rw [p11]
      refine e_iload_n C 2 dX12_odds_35 rfl rfl ?_
      refine e_iload_n C 3 dX12_odds_36 rfl rfl ?_
      obtain ⟨o13, h18⟩ := h18
      refine e_iast C o13 dX12_odds_37 ?_
      refine nmE (fun M14 e15 => ?_)
      replace h18 := h18 M14 e15
      have o16 : isO M14 a0 [12] := by rw [e15]; exact o9
      have p17 : mP M14 a0 6 = some b10 := by rw [e15]; exact p11
      refine e_iload_n C 0 dX12_odds_38 rfl rfl ?_
      exact e_iret C hr hlk (Nat.le_refl _) (Nat.le_refl _) dX12_odds_39 ⟨_, rfl, h18⟩
    · replace h18 := ite_f h18 (bi_ne q8)
      refine e_bipush (v := -2) C dX12_odds_21 (by decide) ?_
      exact e_iret C hr hlk (Nat.le_refl _) (Nat.le_refl _) dX12_odds_23 ⟨_, rfl, h18⟩
  · replace h19 := ite_f h19 (bi_ne q4)
    refine e_iconst (v := -1) C dX12_odds_8 (by decide) ?_
    exact e_iret C hr hlk (Nat.le_refl _) (Nat.le_refl _) dX12_odds_9 ⟨_, rfl, h19⟩
theorem m_X12_odds  {a0 : Nat} {x1 : Int32} {x2 : Int32} {M : Mem} {Q : Int32 → Mem → Prop} (h : f_X12_odds a0 x1 x2 M Q) : Con yX12_odds cX12_odds 4 (some .int) 3 0 0 [.ref a0, .int x1, .int x2] M (rI Q) :=
  con_of2 (al := [(0, .ref a0), (1, .int x1), (2, .int x2)]) (by decide) (by exact Nat.le_of_ble_eq_true rfl) (by rfl) (fun p l e s m args below meth c g C hr hlk _ => w_X12_odds C hr hlk h)
set_option maxHeartbeats 4000000 in
set_option maxRecDepth 100000 in
theorem w_X12_come {p : Program} {l : Launch} {e : Env} {s : State} {m : MethodId} {args : Array Value} {below : List Frame} {meth : Method} {c : Code} {g : Geo} (C : Cx p s m args c cX12_come RX12 3 g) (hr : meth.sig.returnType = (some .int)) (hlk : meth.locks = false) {a0 : Nat} {x1 : Int32} {x2 : Int32} {M : Mem} {Q : Int32 → Mem → Prop} (h : f_X12_come a0 x1 x2 M Q) : E p l e (rmO 3 0 0) s m args below meth c g 3 (MQ below (QcM g (rI Q)) args s 0 0 (gA g)) 0 0 0 [(0, .ref a0), (1, .int x1), (2, .int x2)] [] M := by
  unfold f_X12_come at h
  refine e_aload_n C 0 dX12_come_0 rfl rfl ?_
  refine e_iload_n C 1 dX12_come_1 rfl rfl ?_
  obtain ⟨o3, h⟩ := h
  refine e_callV (as := [.int x1]) C wb_X12_isSort wv_X12_219 (ci := 12) rfl rfl (isO_1 o3) (m_X12_isSort h) rfl ⟨Nat.le_of_ble_eq_true rfl, Nat.le_of_ble_eq_true rfl⟩ ⟨Nat.le_of_ble_eq_true rfl, Nat.le_of_ble_eq_true rfl⟩ (by first | exact Nat.le_of_ble_eq_true rfl | (simp only [List.map_cons, List.map_nil, va_cat, List.sum_cons, List.sum_nil]; exact Nat.le_of_ble_eq_true rfl)) dX12_come_2 (kZ (fun w1 M2 h32 => ?_))
  refine e_if_eq (tgt := 19) C dX12_come_5 (by decide) (fun q4 => ?_) (fun q4 => ?_)
  · replace h32 := ite_f h32 (bi_ne q4)
    refine e_iconst (v := -1) C dX12_come_19 (by decide) ?_
    exact e_iret C hr hlk (Nat.le_refl _) (Nat.le_refl _) dX12_come_20 ⟨_, rfl, h32⟩
  · replace h32 := ite_t h32 (bi_t q4)
    refine e_aload_n C 0 dX12_come_8 rfl rfl ?_
    refine e_iload_n C 2 dX12_come_9 rfl rfl ?_
    refine e_iconst (v := 0) C dX12_come_10 (by decide) ?_
    refine e_bipush (v := 59) C dX12_come_11 (by decide) ?_
    obtain ⟨o7, h32⟩ := h32
    refine e_callV (as := [.int x2, .int (0 : Int32), .int (59 : Int32)]) C wb_X12_in wv_X12_215 (ci := 12) rfl rfl (isO_1 o7) (m_X12_in h32) rfl ⟨Nat.le_of_ble_eq_true rfl, Nat.le_of_ble_eq_true rfl⟩ ⟨Nat.le_of_ble_eq_true rfl, Nat.le_of_ble_eq_true rfl⟩ (by first | exact Nat.le_of_ble_eq_true rfl | (simp only [List.map_cons, List.map_nil, va_cat, List.sum_cons, List.sum_nil]; exact Nat.le_of_ble_eq_true rfl)) dX12_come_13 (kZ (fun w5 M6 h31 => ?_))
    refine e_if_ne (tgt := 21) C dX12_come_16 (by decide) (fun q8 => ?_) (fun q8 => ?_)
    · replace h31 := ite_t h31 (bi_t q8)
      refine e_aload_n C 0 dX12_come_21 rfl rfl ?_
      obtain ⟨o9, h31⟩ := h31
      refine e_getI C [12] 1 (fg_of fg_X12_13) o9 dX12_come_22 ?_
      refine e_bipush (v := 12) C dX12_come_25 (by decide) ?_
      refine e_icmp_ne (tgt := 33) C dX12_come_27 (by decide) (fun q10 => ?_) (fun q10 => ?_)
      · replace h31 := ite_f h31 q10
        refine e_aload_n C 0 dX12_come_33 rfl rfl ?_
        refine e_getR C [12] 7 (fg_of fg_X12_32) o9 dX12_come_34 ?_
        refine e_aload_n C 0 dX12_come_37 rfl rfl ?_
        refine e_getI C [12] 1 (fg_of fg_X12_13) o9 dX12_come_38 ?_
        refine e_iload_n C 1 dX12_come_41 rfl rfl ?_
        obtain ⟨b11, p12, h31⟩ := h31
        try rw [p12]
        obtain ⟨o13, h31⟩ := h31
        refine e_iast C o13 dX12_come_42 ?_
        refine nmE (fun M14 e15 => ?_)
        replace h31 := h31 M14 e15
        have o16 : isO M14 a0 [12] := by rw [e15]; exact o9
        have p17 : mP M14 a0 7 = some b11 := by rw [e15]; exact p12
        refine e_aload_n C 0 dX12_come_43 rfl rfl ?_
        refine e_getR C [12] 8 (fg_of fg_X12_35) o16 dX12_come_44 ?_
        refine e_aload_n C 0 dX12_come_47 rfl rfl ?_
        refine e_getI C [12] 1 (fg_of fg_X12_13) o16 dX12_come_48 ?_
        refine e_iload_n C 2 dX12_come_51 rfl rfl ?_
        obtain ⟨b18, p19, h31⟩ := h31
        try rw [p19]
        obtain ⟨o20, h31⟩ := h31
        refine e_iast C o20 dX12_come_52 ?_
        refine nmE (fun M21 e22 => ?_)
        replace h31 := h31 M21 e22
        have o23 : isO M21 a0 [12] := by rw [e22]; exact o16
        have p24 : mP M21 a0 7 = some b11 := by rw [e22]; exact p17
        have p25 : mP M21 a0 8 = some b18 := by rw [e22]; exact p19
        refine e_aload_n C 0 dX12_come_53 rfl rfl ?_
        refine e_dup C rfl dX12_come_54 ?_
        refine e_getI C [12] 1 (fg_of fg_X12_13) o23 dX12_come_55 ?_
        refine e_iconst (v := 1) C dX12_come_58 (by decide) ?_
        refine e_iadd C dX12_come_59 ?_
        refine e_putI C [12] 1 false (fun z => by cases z) fp_X12_13 o23 dX12_come_60 ?_
        refine nmE (fun M26 e27 => ?_)
        replace h31 := h31 M26 e27
        have o28 : isO M26 a0 [12] := by rw [e27]; exact o23
        have p29 : mP M26 a0 7 = some b11 := by rw [e27]; exact p24
        have p30 : mP M26 a0 8 = some b18 := by rw [e27]; exact p25
        refine e_aload_n C 0 dX12_come_63 rfl rfl ?_
        refine e_getI C [12] 1 (fg_of fg_X12_13) o28 dX12_come_64 ?_
        exact e_iret C hr hlk (Nat.le_refl _) (Nat.le_refl _) dX12_come_67 ⟨_, rfl, h31⟩
      · replace h31 := ite_t h31 q10
        refine e_bipush (v := -4) C dX12_come_30 (by decide) ?_
        exact e_iret C hr hlk (Nat.le_refl _) (Nat.le_refl _) dX12_come_32 ⟨_, rfl, h31⟩
    · replace h31 := ite_f h31 (bi_ne q8)
      refine e_iconst (v := -1) C dX12_come_19 (by decide) ?_
      exact e_iret C hr hlk (Nat.le_refl _) (Nat.le_refl _) dX12_come_20 ⟨_, rfl, h31⟩
theorem m_X12_come  {a0 : Nat} {x1 : Int32} {x2 : Int32} {M : Mem} {Q : Int32 → Mem → Prop} (h : f_X12_come a0 x1 x2 M Q) : Con yX12_come cX12_come 3 (some .int) 3 0 0 [.ref a0, .int x1, .int x2] M (rI Q) :=
  con_of2 (al := [(0, .ref a0), (1, .int x1), (2, .int x2)]) (by decide) (by exact Nat.le_of_ble_eq_true rfl) (by rfl) (fun p l e s m args below meth c g C hr hlk _ => w_X12_come C hr hlk h)
set_option maxHeartbeats 4000000 in
set_option maxRecDepth 100000 in
theorem w_X12_clear {p : Program} {l : Launch} {e : Env} {s : State} {m : MethodId} {args : Array Value} {below : List Frame} {meth : Method} {c : Code} {g : Geo} (C : Cx p s m args c cX12_clear RX12 2 g) (hr : meth.sig.returnType = (some .int)) (hlk : meth.locks = false) {a0 : Nat} {M : Mem} {Q : Int32 → Mem → Prop} (h : f_X12_clear a0 M Q) : E p l e (rmO 1 0 0) s m args below meth c g 2 (MQ below (QcM g (rI Q)) args s 0 0 (gA g)) 0 0 0 [(0, .ref a0)] [] M := by
  unfold f_X12_clear at h
  refine e_aload_n C 0 dX12_clear_0 rfl rfl ?_
  obtain ⟨o1, h⟩ := h
  refine e_getI C [12] 1 (fg_of fg_X12_13) o1 dX12_clear_1 ?_
  refine e_istore_n (al' := [(1, .int (mI M a0 1)), (0, .ref a0)]) C dX12_clear_4 rfl (by decide) rfl ?_
  refine e_aload_n C 1 dX12_clear_5 rfl rfl ?_
  refine e_iconst (v := 0) C dX12_clear_6 (by decide) ?_
  refine e_putI C [12] 1 false (fun z => by cases z) fp_X12_13 o1 dX12_clear_7 ?_
  refine nmE (fun M2 e3 => ?_)
  replace h := h M2 e3
  have o4 : isO M2 a0 [12] := by rw [e3]; exact o1
  refine e_iload_n C 0 dX12_clear_10 rfl rfl ?_
  exact e_iret C hr hlk (Nat.le_refl _) (Nat.le_refl _) dX12_clear_11 ⟨_, rfl, h⟩
theorem m_X12_clear  {a0 : Nat} {M : Mem} {Q : Int32 → Mem → Prop} (h : f_X12_clear a0 M Q) : Con yX12_clear cX12_clear 2 (some .int) 1 0 0 [.ref a0] M (rI Q) :=
  con_of2 (al := [(0, .ref a0)]) (by decide) (by exact Nat.le_of_ble_eq_true rfl) (by rfl) (fun p l e s m args below meth c g C hr hlk _ => w_X12_clear C hr hlk h)
set_option maxHeartbeats 4000000 in
set_option maxRecDepth 100000 in
theorem w_X12_feed_B31 {p : Program} {l : Launch} {e : Env} {s : State} {m : MethodId} {args : Array Value} {below : List Frame} {meth : Method} {c : Code} {g : Geo} (C : Cx p s m args c cX12_feed RX12 4 g) (hr : meth.sig.returnType = (some .int)) (hlk : meth.locks = false) {a0 : Nat} {x1 : Int32} {x2 : Int32} {v3 : Int32} {M : Mem} {K31 : Int32 × Mem → Prop} {Q : Int32 → Mem → Prop} (hK31 : ∀ z : Int32 × Mem, K31 z → E p l e (rmO 2 0 0) s m args below meth c g 4 (MQ below (QcM g (rI Q)) args s 0 0 (gA g)) 0 0 31 [(0, .ref a0), (1, .int x1), (2, .int x2), (3, .int z.1)] [] (z.2)) (h : f_X12_feed_B31 a0 x1 x2 v3 M K31 Q) : E p l e (rmO 2 0 0) s m args below meth c g 4 (MQ below (QcM g (rI Q)) args s 0 0 (gA g)) 0 0 31 [(0, .ref a0), (1, .int x1), (2, .int x2), (3, .int v3)] [] M := by
  unfold f_X12_feed_B31 at h
  refine e_iload_n C 3 dX12_feed_31 rfl rfl ?_
  refine e_if_lt (tgt := 67) C dX12_feed_32 (by decide) (fun q1 => ?_) (fun q1 => ?_)
  · replace h := ite_t h q1
    refine e_aload_n C 0 dX12_feed_67 rfl rfl ?_
    obtain ⟨o2, h⟩ := h
    refine e_getI C [12] 11 (fg_of fg_X12_44) o2 dX12_feed_68 ?_
    exact e_iret C hr hlk (Nat.le_refl _) (Nat.le_refl _) dX12_feed_71 ⟨_, rfl, h⟩
  · replace h := ite_f h q1
    refine e_aload_n C 0 dX12_feed_35 rfl rfl ?_
    obtain ⟨o3, h⟩ := h
    refine e_getR C [12] 14 (fg_of fg_X12_53) o3 dX12_feed_36 ?_
    refine e_aload_n C 0 dX12_feed_39 rfl rfl ?_
    refine e_getI C [12] 11 (fg_of fg_X12_44) o3 dX12_feed_40 ?_
    refine e_iload_n C 1 dX12_feed_43 rfl rfl ?_
    refine e_bipush (v := 8) C dX12_feed_44 (by decide) ?_
    refine e_iload_n C 3 dX12_feed_46 rfl rfl ?_
    refine e_imul C dX12_feed_47 ?_
    refine e_ishr C dX12_feed_48 ?_
    refine e_i2b C dX12_feed_49 ?_
    obtain ⟨b4, p5, h⟩ := h
    try rw [p5]
    obtain ⟨o6, h⟩ := h
    refine e_iast C o6 dX12_feed_50 ?_
    refine nmE (fun M7 e8 => ?_)
    replace h := h M7 e8
    have o9 : isO M7 a0 [12] := by rw [e8]; exact o3
    have p10 : mP M7 a0 14 = some b4 := by rw [e8]; exact p5
    refine e_aload_n C 0 dX12_feed_51 rfl rfl ?_
    refine e_dup C rfl dX12_feed_52 ?_
    refine e_getI C [12] 11 (fg_of fg_X12_44) o9 dX12_feed_53 ?_
    refine e_iconst (v := 1) C dX12_feed_56 (by decide) ?_
    refine e_iadd C dX12_feed_57 ?_
    refine e_putI C [12] 11 false (fun z => by cases z) fp_X12_44 o9 dX12_feed_58 ?_
    refine nmE (fun M11 e12 => ?_)
    replace h := h M11 e12
    have o13 : isO M11 a0 [12] := by rw [e12]; exact o9
    have p14 : mP M11 a0 14 = some b4 := by rw [e12]; exact p10
    refine e_iinc (v := (v3 + -1)) (al' := [(3, .int (v3 + -1)), (0, .ref a0), (1, .int x1), (2, .int x2)]) C 3 dX12_feed_61 rfl rfl (by decide) rfl ?_
    refine e_goto (tgt := 31) C dX12_feed_64 (by decide) ?_
    refine e_pick [1, 2, 3, 0] rfl ?_
    exact hK31 ((v3 + -1), M11) h
set_option maxHeartbeats 4000000 in
set_option maxRecDepth 100000 in
theorem w_X12_feed_L31 {p : Program} {l : Launch} {e : Env} {s : State} {m : MethodId} {args : Array Value} {below : List Frame} {meth : Method} {c : Code} {g : Geo} (C : Cx p s m args c cX12_feed RX12 4 g) (hr : meth.sig.returnType = (some .int)) (hlk : meth.locks = false) {a0 : Nat} {x1 : Int32} {x2 : Int32} {v3 : Int32} {M : Mem} {Q : Int32 → Mem → Prop} (h : f_X12_feed_L31 a0 x1 x2 v3 M Q) : E p l e (rmO 2 0 0) s m args below meth c g 4 (MQ below (QcM g (rI Q)) args s 0 0 (gA g)) 0 0 31 [(0, .ref a0), (1, .int x1), (2, .int x2), (3, .int v3)] [] M := by
  unfold f_X12_feed_L31 at h
  refine loop_E (W := fun z : Int32 × Mem => E p l e (rmO 2 0 0) s m args below meth c g 4 (MQ below (QcM g (rI Q)) args s 0 0 (gA g)) 0 0 31 [(0, .ref a0), (1, .int x1), (2, .int x2), (3, .int z.1)] [] (z.2)) h (fun K z hK h => ?_)
  exact w_X12_feed_B31 C hr hlk hK h
set_option maxHeartbeats 4000000 in
set_option maxRecDepth 100000 in
theorem w_X12_feed {p : Program} {l : Launch} {e : Env} {s : State} {m : MethodId} {args : Array Value} {below : List Frame} {meth : Method} {c : Code} {g : Geo} (C : Cx p s m args c cX12_feed RX12 4 g) (hr : meth.sig.returnType = (some .int)) (hlk : meth.locks = false) {a0 : Nat} {x1 : Int32} {x2 : Int32} {M : Mem} {Q : Int32 → Mem → Prop} (h : f_X12_feed a0 x1 x2 M Q) : E p l e (rmO 2 0 0) s m args below meth c g 4 (MQ below (QcM g (rI Q)) args s 0 0 (gA g)) 0 0 0 [(0, .ref a0), (1, .int x1), (2, .int x2)] [] M := by
  unfold f_X12_feed at h
  refine e_aload_n C 0 dX12_feed_0 rfl rfl ?_
  refine e_iload_n C 2 dX12_feed_1 rfl rfl ?_
  refine e_iconst (v := 0) C dX12_feed_2 (by decide) ?_
  refine e_iconst (v := 4) C dX12_feed_3 (by decide) ?_
  obtain ⟨o3, h⟩ := h
  refine e_callV (as := [.int x2, .int (0 : Int32), .int (4 : Int32)]) C wb_X12_in wv_X12_215 (ci := 12) rfl rfl (isO_1 o3) (m_X12_in h) rfl ⟨Nat.le_of_ble_eq_true rfl, Nat.le_of_ble_eq_true rfl⟩ ⟨Nat.le_of_ble_eq_true rfl, Nat.le_of_ble_eq_true rfl⟩ (by first | exact Nat.le_of_ble_eq_true rfl | (simp only [List.map_cons, List.map_nil, va_cat, List.sum_cons, List.sum_nil]; exact Nat.le_of_ble_eq_true rfl)) dX12_feed_4 (kZ (fun w1 M2 h7 => ?_))
  refine e_if_ne (tgt := 13) C dX12_feed_7 (by decide) (fun q4 => ?_) (fun q4 => ?_)
  · replace h7 := ite_t h7 (bi_t q4)
    refine e_aload_n C 0 dX12_feed_13 rfl rfl ?_
    obtain ⟨o5, h7⟩ := h7
    refine e_getI C [12] 11 (fg_of fg_X12_44) o5 dX12_feed_14 ?_
    refine e_iload_n C 2 dX12_feed_17 rfl rfl ?_
    refine e_iadd C dX12_feed_18 ?_
    refine e_bipush (v := 100) C dX12_feed_19 (by decide) ?_
    refine e_icmp_le (tgt := 27) C dX12_feed_21 (by decide) (fun q6 => ?_) (fun q6 => ?_)
    · replace h7 := ite_t h7 q6
      refine e_iload_n C 2 dX12_feed_27 rfl rfl ?_
      refine e_iconst (v := 1) C dX12_feed_28 (by decide) ?_
      refine e_isub C dX12_feed_29 ?_
      refine e_istore_n (al' := [(3, .int (x2 - (1 : Int32))), (0, .ref a0), (1, .int x1), (2, .int x2)]) C dX12_feed_30 rfl (by decide) rfl ?_
      refine e_pick [1, 2, 3, 0] rfl ?_
      exact w_X12_feed_L31 C hr hlk h7
    · replace h7 := ite_f h7 q6
      refine e_bipush (v := -4) C dX12_feed_24 (by decide) ?_
      exact e_iret C hr hlk (Nat.le_refl _) (Nat.le_refl _) dX12_feed_26 ⟨_, rfl, h7⟩
  · replace h7 := ite_f h7 (bi_ne q4)
    refine e_bipush (v := -2) C dX12_feed_10 (by decide) ?_
    exact e_iret C hr hlk (Nat.le_refl _) (Nat.le_refl _) dX12_feed_12 ⟨_, rfl, h7⟩
theorem m_X12_feed  {a0 : Nat} {x1 : Int32} {x2 : Int32} {M : Mem} {Q : Int32 → Mem → Prop} (h : f_X12_feed a0 x1 x2 M Q) : Con yX12_feed cX12_feed 4 (some .int) 2 0 0 [.ref a0, .int x1, .int x2] M (rI Q) :=
  con_of2 (al := [(0, .ref a0), (1, .int x1), (2, .int x2)]) (by decide) (by exact Nat.le_of_ble_eq_true rfl) (by rfl) (fun p l e s m args below meth c g C hr hlk _ => w_X12_feed C hr hlk h)
set_option maxHeartbeats 4000000 in
set_option maxRecDepth 100000 in
theorem w_X12_next {p : Program} {l : Launch} {e : Env} {s : State} {m : MethodId} {args : Array Value} {below : List Frame} {meth : Method} {c : Code} {g : Geo} (C : Cx p s m args c cX12_next RX12 1 g) (hr : meth.sig.returnType = (some .int)) (hlk : meth.locks = false) {a0 : Nat} {M : Mem} {Q : Int32 → Mem → Prop} (h : f_X12_next a0 M Q) : E p l e (rmO 1 0 0) s m args below meth c g 1 (MQ below (QcM g (rI Q)) args s 0 0 (gA g)) 0 0 0 [(0, .ref a0)] [] M := by
  unfold f_X12_next at h
  refine e_aload_n C 0 dX12_next_0 rfl rfl ?_
  obtain ⟨o1, h⟩ := h
  refine e_getI C [12] 12 (fg_of fg_X12_47) o1 dX12_next_1 ?_
  refine e_aload_n C 0 dX12_next_4 rfl rfl ?_
  refine e_getI C [12] 11 (fg_of fg_X12_44) o1 dX12_next_5 ?_
  refine e_icmp_ge (tgt := 23) C dX12_next_8 (by decide) (fun q2 => ?_) (fun q2 => ?_)
  · replace h := ite_t h q2
    refine e_iconst (v := -1) C dX12_next_23 (by decide) ?_
    exact e_iret C hr hlk (Nat.le_refl _) (Nat.le_refl _) dX12_next_24 ⟨_, rfl, h⟩
  · replace h := ite_f h q2
    refine e_aload_n C 0 dX12_next_11 rfl rfl ?_
    refine e_getR C [12] 14 (fg_of fg_X12_53) o1 dX12_next_12 ?_
    refine e_aload_n C 0 dX12_next_15 rfl rfl ?_
    refine e_getI C [12] 12 (fg_of fg_X12_47) o1 dX12_next_16 ?_
    obtain ⟨b3, p4, h⟩ := h
    try rw [p4]
    obtain ⟨o5, h⟩ := h
    refine e_iald C o5 dX12_next_19 ?_
    refine e_goto (tgt := 24) C dX12_next_20 (by decide) ?_
    exact e_iret C hr hlk (Nat.le_refl _) (Nat.le_refl _) dX12_next_24 ⟨_, rfl, h⟩
theorem m_X12_next  {a0 : Nat} {M : Mem} {Q : Int32 → Mem → Prop} (h : f_X12_next a0 M Q) : Con yX12_next cX12_next 1 (some .int) 1 0 0 [.ref a0] M (rI Q) :=
  con_of2 (al := [(0, .ref a0)]) (by decide) (by exact Nat.le_of_ble_eq_true rfl) (by rfl) (fun p l e s m args below meth c g C hr hlk _ => w_X12_next C hr hlk h)
set_option maxHeartbeats 4000000 in
set_option maxRecDepth 100000 in
theorem w_X12_third {p : Program} {l : Launch} {e : Env} {s : State} {m : MethodId} {args : Array Value} {below : List Frame} {meth : Method} {c : Code} {g : Geo} (C : Cx p s m args c cX12_third RX12 1 g) (hr : meth.sig.returnType = (some .int)) (hlk : meth.locks = false) {a0 : Nat} {M : Mem} {Q : Int32 → Mem → Prop} (h : f_X12_third a0 M Q) : E p l e (rmO 1 0 0) s m args below meth c g 1 (MQ below (QcM g (rI Q)) args s 0 0 (gA g)) 0 0 0 [(0, .ref a0)] [] M := by
  unfold f_X12_third at h
  refine e_aload_n C 0 dX12_third_0 rfl rfl ?_
  obtain ⟨o1, h⟩ := h
  refine e_getI C [12] 12 (fg_of fg_X12_47) o1 dX12_third_1 ?_
  refine e_iconst (v := 2) C dX12_third_4 (by decide) ?_
  refine e_iadd C dX12_third_5 ?_
  refine e_aload_n C 0 dX12_third_6 rfl rfl ?_
  refine e_getI C [12] 11 (fg_of fg_X12_44) o1 dX12_third_7 ?_
  refine e_icmp_ge (tgt := 27) C dX12_third_10 (by decide) (fun q2 => ?_) (fun q2 => ?_)
  · replace h := ite_t h q2
    refine e_iconst (v := -1) C dX12_third_27 (by decide) ?_
    exact e_iret C hr hlk (Nat.le_refl _) (Nat.le_refl _) dX12_third_28 ⟨_, rfl, h⟩
  · replace h := ite_f h q2
    refine e_aload_n C 0 dX12_third_13 rfl rfl ?_
    refine e_getR C [12] 14 (fg_of fg_X12_53) o1 dX12_third_14 ?_
    refine e_aload_n C 0 dX12_third_17 rfl rfl ?_
    refine e_getI C [12] 12 (fg_of fg_X12_47) o1 dX12_third_18 ?_
    refine e_iconst (v := 2) C dX12_third_21 (by decide) ?_
    refine e_iadd C dX12_third_22 ?_
    obtain ⟨b3, p4, h⟩ := h
    try rw [p4]
    obtain ⟨o5, h⟩ := h
    refine e_iald C o5 dX12_third_23 ?_
    refine e_goto (tgt := 28) C dX12_third_24 (by decide) ?_
    exact e_iret C hr hlk (Nat.le_refl _) (Nat.le_refl _) dX12_third_28 ⟨_, rfl, h⟩
theorem m_X12_third  {a0 : Nat} {M : Mem} {Q : Int32 → Mem → Prop} (h : f_X12_third a0 M Q) : Con yX12_third cX12_third 1 (some .int) 1 0 0 [.ref a0] M (rI Q) :=
  con_of2 (al := [(0, .ref a0)]) (by decide) (by exact Nat.le_of_ble_eq_true rfl) (by rfl) (fun p l e s m args below meth c g C hr hlk _ => w_X12_third C hr hlk h)
set_option maxHeartbeats 4000000 in
set_option maxRecDepth 100000 in
theorem w_X12_takesSign {p : Program} {l : Launch} {e : Env} {s : State} {m : MethodId} {args : Array Value} {below : List Frame} {meth : Method} {c : Code} {g : Geo} (C : Cx p s m args c cX12_takesSign RX12 2 g) (hr : meth.sig.returnType = (some .boolean)) (hlk : meth.locks = false) {a0 : Nat} {x1 : Int32} {M : Mem} {Q : Bool → Mem → Prop} (h : f_X12_takesSign a0 x1 M Q) : E p l e (rmO 2 0 0) s m args below meth c g 2 (MQ below (QcM g (rZ Q)) args s 0 0 (gA g)) 0 0 0 [(0, .ref a0), (1, .int x1)] [] M := by
  unfold f_X12_takesSign at h
  refine e_aload_n C 0 dX12_takesSign_0 rfl rfl ?_
  obtain ⟨o3, h⟩ := h
  refine e_callV (as := []) C wb_X12_next wv_X12_223 (ci := 12) rfl rfl (isO_1 o3) (m_X12_next h) rfl ⟨Nat.le_of_ble_eq_true rfl, Nat.le_of_ble_eq_true rfl⟩ ⟨Nat.le_of_ble_eq_true rfl, Nat.le_of_ble_eq_true rfl⟩ (by first | exact Nat.le_of_ble_eq_true rfl | (simp only [List.map_cons, List.map_nil, va_cat, List.sum_cons, List.sum_nil]; exact Nat.le_of_ble_eq_true rfl)) dX12_takesSign_1 (kI (fun w1 M2 h9 => ?_))
  refine e_iload_n C 1 dX12_takesSign_4 rfl rfl ?_
  refine e_icmp_eq (tgt := 10) C dX12_takesSign_5 (by decide) (fun q4 => ?_) (fun q4 => ?_)
  · replace h9 := ite_t h9 q4
    refine e_aload_n C 0 dX12_takesSign_10 rfl rfl ?_
    refine e_dup C rfl dX12_takesSign_11 ?_
    obtain ⟨o5, h9⟩ := h9
    refine e_getI C [12] 12 (fg_of fg_X12_47) o5 dX12_takesSign_12 ?_
    refine e_iconst (v := 1) C dX12_takesSign_15 (by decide) ?_
    refine e_iadd C dX12_takesSign_16 ?_
    refine e_putI C [12] 12 false (fun z => by cases z) fp_X12_47 o5 dX12_takesSign_17 ?_
    refine nmE (fun M6 e7 => ?_)
    replace h9 := h9 M6 e7
    have o8 : isO M6 a0 [12] := by rw [e7]; exact o5
    refine e_iconst (v := 1) C dX12_takesSign_20 (by decide) ?_
    exact e_zret C hr rfl hlk (Nat.le_refl _) (Nat.le_refl _) dX12_takesSign_21 ⟨true, rfl, h9⟩
  · replace h9 := ite_f h9 q4
    refine e_iconst (v := 0) C dX12_takesSign_8 (by decide) ?_
    exact e_zret C hr rfl hlk (Nat.le_refl _) (Nat.le_refl _) dX12_takesSign_9 ⟨false, rfl, h9⟩
theorem m_X12_takesSign  {a0 : Nat} {x1 : Int32} {M : Mem} {Q : Bool → Mem → Prop} (h : f_X12_takesSign a0 x1 M Q) : Con yX12_takesSign cX12_takesSign 2 (some .boolean) 2 0 0 [.ref a0, .int x1] M (rZ Q) :=
  con_of2 (al := [(0, .ref a0), (1, .int x1)]) (by decide) (by exact Nat.le_of_ble_eq_true rfl) (by rfl) (fun p l e s m args below meth c g C hr hlk _ => w_X12_takesSign C hr hlk h)
set_option maxHeartbeats 4000000 in
set_option maxRecDepth 100000 in
theorem w_X12_takesWord_B4 {p : Program} {l : Launch} {e : Env} {s : State} {m : MethodId} {args : Array Value} {below : List Frame} {meth : Method} {c : Code} {g : Geo} (C : Cx p s m args c cX12_takesWord RX12 4 g) (hr : meth.sig.returnType = (some .boolean)) (hlk : meth.locks = false) {a0 : Nat} {x1 : Int32} {x2 : Int32} {v3 : Int32} {M : Mem} {K4 : Int32 × Mem → Prop} {Q : Bool → Mem → Prop} (hK4 : ∀ z : Int32 × Mem, K4 z → E p l e (rmO 3 0 0) s m args below meth c g 4 (MQ below (QcM g (rZ Q)) args s 0 0 (gA g)) 0 0 4 [(0, .ref a0), (1, .int x1), (2, .int x2), (3, .int z.1)] [] (z.2)) (h : f_X12_takesWord_B4 a0 x1 x2 v3 M K4 Q) : E p l e (rmO 3 0 0) s m args below meth c g 4 (MQ below (QcM g (rZ Q)) args s 0 0 (gA g)) 0 0 4 [(0, .ref a0), (1, .int x1), (2, .int x2), (3, .int v3)] [] M := by
  unfold f_X12_takesWord_B4 at h
  refine e_iload_n C 3 dX12_takesWord_4 rfl rfl ?_
  refine e_if_lt (tgt := 34) C dX12_takesWord_5 (by decide) (fun q1 => ?_) (fun q1 => ?_)
  · replace h := ite_t h q1
    refine e_aload_n C 0 dX12_takesWord_34 rfl rfl ?_
    refine e_bipush (v := 32) C dX12_takesWord_35 (by decide) ?_
    obtain ⟨o4, h⟩ := h
    refine e_callV (as := [.int (32 : Int32)]) C wb_X12_takesSign wv_X12_227 (ci := 12) rfl rfl (isO_1 o4) (m_X12_takesSign h) rfl ⟨Nat.le_of_ble_eq_true rfl, Nat.le_of_ble_eq_true rfl⟩ ⟨Nat.le_of_ble_eq_true rfl, Nat.le_of_ble_eq_true rfl⟩ (by first | exact Nat.le_of_ble_eq_true rfl | (simp only [List.map_cons, List.map_nil, va_cat, List.sum_cons, List.sum_nil]; exact Nat.le_of_ble_eq_true rfl)) dX12_takesWord_37 (kZ (fun w2 M3 h5 => ?_))
    exact e_zret C hr (bi_nar _) hlk (Nat.le_refl _) (Nat.le_refl _) dX12_takesWord_40 ⟨_, rfl, h5⟩
  · replace h := ite_f h q1
    refine e_aload_n C 0 dX12_takesWord_8 rfl rfl ?_
    refine e_bipush (v := 96) C dX12_takesWord_9 (by decide) ?_
    refine e_iload_n C 1 dX12_takesWord_11 rfl rfl ?_
    refine e_iconst (v := 5) C dX12_takesWord_12 (by decide) ?_
    refine e_iload_n C 3 dX12_takesWord_13 rfl rfl ?_
    refine e_imul C dX12_takesWord_14 ?_
    refine e_ishr C dX12_takesWord_15 ?_
    refine e_bipush (v := 31) C dX12_takesWord_16 (by decide) ?_
    refine e_iand C dX12_takesWord_18 ?_
    refine e_iadd C dX12_takesWord_19 ?_
    obtain ⟨o8, h⟩ := h
    refine e_callV (as := [.int ((96 : Int32) + ((x1 >>> (((5 : Int32) * v3) &&& 31)) &&& (31 : Int32)))]) C wb_X12_takesSign wv_X12_227 (ci := 12) rfl rfl (isO_1 o8) (m_X12_takesSign h) rfl ⟨Nat.le_of_ble_eq_true rfl, Nat.le_of_ble_eq_true rfl⟩ ⟨Nat.le_of_ble_eq_true rfl, Nat.le_of_ble_eq_true rfl⟩ (by first | exact Nat.le_of_ble_eq_true rfl | (simp only [List.map_cons, List.map_nil, va_cat, List.sum_cons, List.sum_nil]; exact Nat.le_of_ble_eq_true rfl)) dX12_takesWord_20 (kZ (fun w6 M7 h10 => ?_))
    refine e_if_ne (tgt := 28) C dX12_takesWord_23 (by decide) (fun q9 => ?_) (fun q9 => ?_)
    · replace h10 := ite_t h10 (bi_t q9)
      refine e_iinc (v := (v3 + -1)) (al' := [(3, .int (v3 + -1)), (0, .ref a0), (1, .int x1), (2, .int x2)]) C 3 dX12_takesWord_28 rfl rfl (by decide) rfl ?_
      refine e_goto (tgt := 4) C dX12_takesWord_31 (by decide) ?_
      refine e_pick [1, 2, 3, 0] rfl ?_
      exact hK4 ((v3 + -1), M7) h10
    · replace h10 := ite_f h10 (bi_ne q9)
      refine e_iconst (v := 0) C dX12_takesWord_26 (by decide) ?_
      exact e_zret C hr rfl hlk (Nat.le_refl _) (Nat.le_refl _) dX12_takesWord_27 ⟨false, rfl, h10⟩
set_option maxHeartbeats 4000000 in
set_option maxRecDepth 100000 in
theorem w_X12_takesWord_L4 {p : Program} {l : Launch} {e : Env} {s : State} {m : MethodId} {args : Array Value} {below : List Frame} {meth : Method} {c : Code} {g : Geo} (C : Cx p s m args c cX12_takesWord RX12 4 g) (hr : meth.sig.returnType = (some .boolean)) (hlk : meth.locks = false) {a0 : Nat} {x1 : Int32} {x2 : Int32} {v3 : Int32} {M : Mem} {Q : Bool → Mem → Prop} (h : f_X12_takesWord_L4 a0 x1 x2 v3 M Q) : E p l e (rmO 3 0 0) s m args below meth c g 4 (MQ below (QcM g (rZ Q)) args s 0 0 (gA g)) 0 0 4 [(0, .ref a0), (1, .int x1), (2, .int x2), (3, .int v3)] [] M := by
  unfold f_X12_takesWord_L4 at h
  refine loop_E (W := fun z : Int32 × Mem => E p l e (rmO 3 0 0) s m args below meth c g 4 (MQ below (QcM g (rZ Q)) args s 0 0 (gA g)) 0 0 4 [(0, .ref a0), (1, .int x1), (2, .int x2), (3, .int z.1)] [] (z.2)) h (fun K z hK h => ?_)
  exact w_X12_takesWord_B4 C hr hlk hK h
set_option maxHeartbeats 4000000 in
set_option maxRecDepth 100000 in
theorem w_X12_takesWord {p : Program} {l : Launch} {e : Env} {s : State} {m : MethodId} {args : Array Value} {below : List Frame} {meth : Method} {c : Code} {g : Geo} (C : Cx p s m args c cX12_takesWord RX12 4 g) (hr : meth.sig.returnType = (some .boolean)) (hlk : meth.locks = false) {a0 : Nat} {x1 : Int32} {x2 : Int32} {M : Mem} {Q : Bool → Mem → Prop} (h : f_X12_takesWord a0 x1 x2 M Q) : E p l e (rmO 3 0 0) s m args below meth c g 4 (MQ below (QcM g (rZ Q)) args s 0 0 (gA g)) 0 0 0 [(0, .ref a0), (1, .int x1), (2, .int x2)] [] M := by
  unfold f_X12_takesWord at h
  refine e_iload_n C 2 dX12_takesWord_0 rfl rfl ?_
  refine e_iconst (v := 1) C dX12_takesWord_1 (by decide) ?_
  refine e_isub C dX12_takesWord_2 ?_
  refine e_istore_n (al' := [(3, .int (x2 - (1 : Int32))), (0, .ref a0), (1, .int x1), (2, .int x2)]) C dX12_takesWord_3 rfl (by decide) rfl ?_
  refine e_pick [1, 2, 3, 0] rfl ?_
  exact w_X12_takesWord_L4 C hr hlk h
theorem m_X12_takesWord  {a0 : Nat} {x1 : Int32} {x2 : Int32} {M : Mem} {Q : Bool → Mem → Prop} (h : f_X12_takesWord a0 x1 x2 M Q) : Con yX12_takesWord cX12_takesWord 4 (some .boolean) 3 0 0 [.ref a0, .int x1, .int x2] M (rZ Q) :=
  con_of2 (al := [(0, .ref a0), (1, .int x1), (2, .int x2)]) (by decide) (by exact Nat.le_of_ble_eq_true rfl) (by rfl) (fun p l e s m args below meth c g C hr hlk _ => w_X12_takesWord C hr hlk h)
set_option maxHeartbeats 4000000 in
set_option maxRecDepth 100000 in
theorem w_X12_isDigit {p : Program} {l : Launch} {e : Env} {s : State} {m : MethodId} {args : Array Value} {below : List Frame} {meth : Method} {c : Code} {g : Geo} (C : Cx p s m args c cX12_isDigit RX12 1 g) (hr : meth.sig.returnType = (some .boolean)) (hlk : meth.locks = false) {a0 : Nat} {M : Mem} {Q : Bool → Mem → Prop} (h : f_X12_isDigit a0 M Q) : E p l e (rmO 2 0 0) s m args below meth c g 1 (MQ below (QcM g (rZ Q)) args s 0 0 (gA g)) 0 0 0 [(0, .ref a0)] [] M := by
  unfold f_X12_isDigit at h
  refine e_aload_n C 0 dX12_isDigit_0 rfl rfl ?_
  refine e_aload_n C 0 dX12_isDigit_1 rfl rfl ?_
  obtain ⟨o3, h⟩ := h
  refine e_callV (as := []) C wb_X12_next wv_X12_223 (ci := 12) rfl rfl (isO_1 o3) (m_X12_next h) rfl ⟨Nat.le_of_ble_eq_true rfl, Nat.le_of_ble_eq_true rfl⟩ ⟨Nat.le_of_ble_eq_true rfl, Nat.le_of_ble_eq_true rfl⟩ (by first | exact Nat.le_of_ble_eq_true rfl | (simp only [List.map_cons, List.map_nil, va_cat, List.sum_cons, List.sum_nil]; exact Nat.le_of_ble_eq_true rfl)) dX12_isDigit_2 (kI (fun w1 M2 h8 => ?_))
  refine e_bipush (v := 48) C dX12_isDigit_5 (by decide) ?_
  refine e_bipush (v := 57) C dX12_isDigit_7 (by decide) ?_
  obtain ⟨o6, h8⟩ := h8
  refine e_callV (as := [.int w1, .int (48 : Int32), .int (57 : Int32)]) C wb_X12_in wv_X12_215 (ci := 12) rfl rfl (isO_1 o6) (m_X12_in h8) rfl ⟨Nat.le_of_ble_eq_true rfl, Nat.le_of_ble_eq_true rfl⟩ ⟨Nat.le_of_ble_eq_true rfl, Nat.le_of_ble_eq_true rfl⟩ (by first | exact Nat.le_of_ble_eq_true rfl | (simp only [List.map_cons, List.map_nil, va_cat, List.sum_cons, List.sum_nil]; exact Nat.le_of_ble_eq_true rfl)) dX12_isDigit_9 (kZ (fun w4 M5 h7 => ?_))
  exact e_zret C hr (bi_nar _) hlk (Nat.le_refl _) (Nat.le_refl _) dX12_isDigit_12 ⟨_, rfl, h7⟩
theorem m_X12_isDigit  {a0 : Nat} {M : Mem} {Q : Bool → Mem → Prop} (h : f_X12_isDigit a0 M Q) : Con yX12_isDigit cX12_isDigit 1 (some .boolean) 2 0 0 [.ref a0] M (rZ Q) :=
  con_of2 (al := [(0, .ref a0)]) (by decide) (by exact Nat.le_of_ble_eq_true rfl) (by rfl) (fun p l e s m args below meth c g C hr hlk _ => w_X12_isDigit C hr hlk h)
set_option maxHeartbeats 4000000 in
set_option maxRecDepth 100000 in
theorem w_X12_takesNumber_B16 {p : Program} {l : Launch} {e : Env} {s : State} {m : MethodId} {args : Array Value} {below : List Frame} {meth : Method} {c : Code} {g : Geo} (C : Cx p s m args c cX12_takesNumber RX12 2 g) (hr : meth.sig.returnType = (some .boolean)) (hlk : meth.locks = false) {a0 : Nat} {v1 : Int32} {M : Mem} {K16 : Int32 × Mem → Prop} {Q : Bool → Mem → Prop} (hK16 : ∀ z : Int32 × Mem, K16 z → E p l e (rmO 3 0 0) s m args below meth c g 2 (MQ below (QcM g (rZ Q)) args s 0 0 (gA g)) 0 0 16 [(0, .ref a0), (1, .int z.1)] [] (z.2)) (h : f_X12_takesNumber_B16 a0 v1 M K16 Q) : E p l e (rmO 3 0 0) s m args below meth c g 2 (MQ below (QcM g (rZ Q)) args s 0 0 (gA g)) 0 0 16 [(0, .ref a0), (1, .int v1)] [] M := by
  unfold f_X12_takesNumber_B16 at h
  refine e_iload_n C 1 dX12_takesNumber_16 rfl rfl ?_
  refine e_iconst (v := 2) C dX12_takesNumber_17 (by decide) ?_
  refine e_icmp_ge (tgt := 63) C dX12_takesNumber_18 (by decide) (fun q1 => ?_) (fun q1 => ?_)
  · replace h := ite_t h q1
    refine e_iconst (v := 1) C dX12_takesNumber_63 (by decide) ?_
    exact e_zret C hr rfl hlk (Nat.le_refl _) (Nat.le_refl _) dX12_takesNumber_64 ⟨true, rfl, h⟩
  · replace h := ite_f h q1
    refine e_aload_n C 0 dX12_takesNumber_21 rfl rfl ?_
    obtain ⟨o4, h⟩ := h
    refine e_callV (as := []) C wb_X12_isDigit wv_X12_230 (ci := 12) rfl rfl (isO_1 o4) (m_X12_isDigit h) rfl ⟨Nat.le_of_ble_eq_true rfl, Nat.le_of_ble_eq_true rfl⟩ ⟨Nat.le_of_ble_eq_true rfl, Nat.le_of_ble_eq_true rfl⟩ (by first | exact Nat.le_of_ble_eq_true rfl | (simp only [List.map_cons, List.map_nil, va_cat, List.sum_cons, List.sum_nil]; exact Nat.le_of_ble_eq_true rfl)) dX12_takesNumber_22 (kZ (fun w2 M3 h17 => ?_))
    refine e_if_eq (tgt := 63) C dX12_takesNumber_25 (by decide) (fun q5 => ?_) (fun q5 => ?_)
    · replace h17 := ite_f h17 (bi_ne q5)
      refine e_iconst (v := 1) C dX12_takesNumber_63 (by decide) ?_
      exact e_zret C hr rfl hlk (Nat.le_refl _) (Nat.le_refl _) dX12_takesNumber_64 ⟨true, rfl, h17⟩
    · replace h17 := ite_t h17 (bi_t q5)
      refine e_aload_n C 0 dX12_takesNumber_28 rfl rfl ?_
      refine e_bipush (v := 10) C dX12_takesNumber_29 (by decide) ?_
      refine e_aload_n C 0 dX12_takesNumber_31 rfl rfl ?_
      obtain ⟨o6, h17⟩ := h17
      refine e_getI C [12] 13 (fg_of fg_X12_50) o6 dX12_takesNumber_32 ?_
      refine e_imul C dX12_takesNumber_35 ?_
      refine e_aload_n C 0 dX12_takesNumber_36 rfl rfl ?_
      refine e_callV (as := []) C wb_X12_next wv_X12_223 (ci := 12) rfl rfl (isO_1 o6) (m_X12_next h17) rfl ⟨Nat.le_of_ble_eq_true rfl, Nat.le_of_ble_eq_true rfl⟩ ⟨Nat.le_of_ble_eq_true rfl, Nat.le_of_ble_eq_true rfl⟩ (by first | exact Nat.le_of_ble_eq_true rfl | (simp only [List.map_cons, List.map_nil, va_cat, List.sum_cons, List.sum_nil]; exact Nat.le_of_ble_eq_true rfl)) dX12_takesNumber_37 (kI (fun w7 M8 h16 => ?_))
      refine e_iadd C dX12_takesNumber_40 ?_
      refine e_bipush (v := 48) C dX12_takesNumber_41 (by decide) ?_
      refine e_isub C dX12_takesNumber_43 ?_
      obtain ⟨o9, h16⟩ := h16
      refine e_putI C [12] 13 false (fun z => by cases z) fp_X12_50 o9 dX12_takesNumber_44 ?_
      refine nmE (fun M10 e11 => ?_)
      replace h16 := h16 M10 e11
      have o12 : isO M10 a0 [12] := by rw [e11]; exact o9
      refine e_aload_n C 0 dX12_takesNumber_47 rfl rfl ?_
      refine e_dup C rfl dX12_takesNumber_48 ?_
      refine e_getI C [12] 12 (fg_of fg_X12_47) o12 dX12_takesNumber_49 ?_
      refine e_iconst (v := 1) C dX12_takesNumber_52 (by decide) ?_
      refine e_iadd C dX12_takesNumber_53 ?_
      refine e_putI C [12] 12 false (fun z => by cases z) fp_X12_47 o12 dX12_takesNumber_54 ?_
      refine nmE (fun M13 e14 => ?_)
      replace h16 := h16 M13 e14
      have o15 : isO M13 a0 [12] := by rw [e14]; exact o12
      refine e_iinc (v := (v1 + 1)) (al' := [(1, .int (v1 + 1)), (0, .ref a0)]) C 1 dX12_takesNumber_57 rfl rfl (by decide) rfl ?_
      refine e_goto (tgt := 16) C dX12_takesNumber_60 (by decide) ?_
      refine e_pick [1, 0] rfl ?_
      exact hK16 ((v1 + 1), M13) h16
set_option maxHeartbeats 4000000 in
set_option maxRecDepth 100000 in
theorem w_X12_takesNumber_L16 {p : Program} {l : Launch} {e : Env} {s : State} {m : MethodId} {args : Array Value} {below : List Frame} {meth : Method} {c : Code} {g : Geo} (C : Cx p s m args c cX12_takesNumber RX12 2 g) (hr : meth.sig.returnType = (some .boolean)) (hlk : meth.locks = false) {a0 : Nat} {v1 : Int32} {M : Mem} {Q : Bool → Mem → Prop} (h : f_X12_takesNumber_L16 a0 v1 M Q) : E p l e (rmO 3 0 0) s m args below meth c g 2 (MQ below (QcM g (rZ Q)) args s 0 0 (gA g)) 0 0 16 [(0, .ref a0), (1, .int v1)] [] M := by
  unfold f_X12_takesNumber_L16 at h
  refine loop_E (W := fun z : Int32 × Mem => E p l e (rmO 3 0 0) s m args below meth c g 2 (MQ below (QcM g (rZ Q)) args s 0 0 (gA g)) 0 0 16 [(0, .ref a0), (1, .int z.1)] [] (z.2)) h (fun K z hK h => ?_)
  exact w_X12_takesNumber_B16 C hr hlk hK h
set_option maxHeartbeats 4000000 in
set_option maxRecDepth 100000 in
theorem w_X12_takesNumber {p : Program} {l : Launch} {e : Env} {s : State} {m : MethodId} {args : Array Value} {below : List Frame} {meth : Method} {c : Code} {g : Geo} (C : Cx p s m args c cX12_takesNumber RX12 2 g) (hr : meth.sig.returnType = (some .boolean)) (hlk : meth.locks = false) {a0 : Nat} {M : Mem} {Q : Bool → Mem → Prop} (h : f_X12_takesNumber a0 M Q) : E p l e (rmO 3 0 0) s m args below meth c g 2 (MQ below (QcM g (rZ Q)) args s 0 0 (gA g)) 0 0 0 [(0, .ref a0)] [] M := by
  unfold f_X12_takesNumber at h
  refine e_aload_n C 0 dX12_takesNumber_0 rfl rfl ?_
  obtain ⟨o3, h⟩ := h
  refine e_callV (as := []) C wb_X12_isDigit wv_X12_230 (ci := 12) rfl rfl (isO_1 o3) (m_X12_isDigit h) rfl ⟨Nat.le_of_ble_eq_true rfl, Nat.le_of_ble_eq_true rfl⟩ ⟨Nat.le_of_ble_eq_true rfl, Nat.le_of_ble_eq_true rfl⟩ (by first | exact Nat.le_of_ble_eq_true rfl | (simp only [List.map_cons, List.map_nil, va_cat, List.sum_cons, List.sum_nil]; exact Nat.le_of_ble_eq_true rfl)) dX12_takesNumber_1 (kZ (fun w1 M2 h9 => ?_))
  refine e_if_ne (tgt := 9) C dX12_takesNumber_4 (by decide) (fun q4 => ?_) (fun q4 => ?_)
  · replace h9 := ite_t h9 (bi_t q4)
    refine e_aload_n C 0 dX12_takesNumber_9 rfl rfl ?_
    refine e_iconst (v := 0) C dX12_takesNumber_10 (by decide) ?_
    obtain ⟨o5, h9⟩ := h9
    refine e_putI C [12] 13 false (fun z => by cases z) fp_X12_50 o5 dX12_takesNumber_11 ?_
    refine nmE (fun M6 e7 => ?_)
    replace h9 := h9 M6 e7
    have o8 : isO M6 a0 [12] := by rw [e7]; exact o5
    refine e_iconst (v := 0) C dX12_takesNumber_14 (by decide) ?_
    refine e_istore_n (al' := [(1, .int (0 : Int32)), (0, .ref a0)]) C dX12_takesNumber_15 rfl (by decide) rfl ?_
    refine e_pick [1, 0] rfl ?_
    exact w_X12_takesNumber_L16 C hr hlk h9
  · replace h9 := ite_f h9 (bi_ne q4)
    refine e_iconst (v := 0) C dX12_takesNumber_7 (by decide) ?_
    exact e_zret C hr rfl hlk (Nat.le_refl _) (Nat.le_refl _) dX12_takesNumber_8 ⟨false, rfl, h9⟩
theorem m_X12_takesNumber  {a0 : Nat} {M : Mem} {Q : Bool → Mem → Prop} (h : f_X12_takesNumber a0 M Q) : Con yX12_takesNumber cX12_takesNumber 2 (some .boolean) 3 0 0 [.ref a0] M (rZ Q) :=
  con_of2 (al := [(0, .ref a0)]) (by decide) (by exact Nat.le_of_ble_eq_true rfl) (by rfl) (fun p l e s m args below meth c g C hr hlk _ => w_X12_takesNumber C hr hlk h)
set_option maxHeartbeats 4000000 in
set_option maxRecDepth 100000 in
theorem w_X12_put {p : Program} {l : Launch} {e : Env} {s : State} {m : MethodId} {args : Array Value} {below : List Frame} {meth : Method} {c : Code} {g : Geo} (C : Cx p s m args c cX12_put RX12 2 g) (hr : meth.sig.returnType = none) (hlk : meth.locks = false) {a0 : Nat} {x1 : Int32} {M : Mem} {Q : Mem → Prop} (h : f_X12_put a0 x1 M Q) : E p l e (rmO 1 0 0) s m args below meth c g 2 (MQ below (QcM g (rV Q)) args s 0 0 (gA g)) 0 0 0 [(0, .ref a0), (1, .int x1)] [] M := by
  unfold f_X12_put at h
  refine e_aload_n C 0 dX12_put_0 rfl rfl ?_
  obtain ⟨o1, h⟩ := h
  refine e_getR C [12] 21 (fg_of fg_X12_74) o1 dX12_put_1 ?_
  refine e_aload_n C 0 dX12_put_4 rfl rfl ?_
  refine e_getI C [12] 23 (fg_of fg_X12_80) o1 dX12_put_5 ?_
  refine e_iload_n C 1 dX12_put_8 rfl rfl ?_
  obtain ⟨b2, p3, h⟩ := h
  try rw [p3]
  obtain ⟨o4, h⟩ := h
  refine e_iast C o4 dX12_put_9 ?_
  refine nmE (fun M5 e6 => ?_)
  replace h := h M5 e6
  have o7 : isO M5 a0 [12] := by rw [e6]; exact o1
  have p8 : mP M5 a0 21 = some b2 := by rw [e6]; exact p3
  refine e_aload_n C 0 dX12_put_10 rfl rfl ?_
  refine e_dup C rfl dX12_put_11 ?_
  refine e_getI C [12] 23 (fg_of fg_X12_80) o7 dX12_put_12 ?_
  refine e_iconst (v := 1) C dX12_put_15 (by decide) ?_
  refine e_iadd C dX12_put_16 ?_
  refine e_putI C [12] 23 false (fun z => by cases z) fp_X12_80 o7 dX12_put_17 ?_
  refine nmE (fun M9 e10 => ?_)
  replace h := h M9 e10
  have o11 : isO M9 a0 [12] := by rw [e10]; exact o7
  have p12 : mP M9 a0 21 = some b2 := by rw [e10]; exact p8
  exact e_vret C hr hlk (Nat.le_refl _) (Nat.le_refl _) dX12_put_20 ⟨rfl, h⟩
theorem m_X12_put  {a0 : Nat} {x1 : Int32} {M : Mem} {Q : Mem → Prop} (h : f_X12_put a0 x1 M Q) : Con yX12_put cX12_put 2 none 1 0 0 [.ref a0, .int x1] M (rV Q) :=
  con_of2 (al := [(0, .ref a0), (1, .int x1)]) (by decide) (by exact Nat.le_of_ble_eq_true rfl) (by rfl) (fun p l e s m args below meth c g C hr hlk _ => w_X12_put C hr hlk h)
set_option maxHeartbeats 4000000 in
set_option maxRecDepth 100000 in
theorem w_X12_whole_B0 {p : Program} {l : Launch} {e : Env} {s : State} {m : MethodId} {args : Array Value} {below : List Frame} {meth : Method} {c : Code} {g : Geo} (C : Cx p s m args c cX12_whole RX12 1 g) (hr : meth.sig.returnType = none) (hlk : meth.locks = false) {a0 : Nat} {M : Mem} {K0 : Mem → Prop} {Q : Mem → Prop} (hK0 : ∀ z : Mem, K0 z → E p l e (rmO 2 0 0) s m args below meth c g 1 (MQ below (QcM g (rV Q)) args s 0 0 (gA g)) 0 0 0 [(0, .ref a0)] [] z) (h : f_X12_whole_B0 a0 M K0 Q) : E p l e (rmO 2 0 0) s m args below meth c g 1 (MQ below (QcM g (rV Q)) args s 0 0 (gA g)) 0 0 0 [(0, .ref a0)] [] M := by
  unfold f_X12_whole_B0 at h
  refine e_aload_n C 0 dX12_whole_0 rfl rfl ?_
  obtain ⟨o1, h⟩ := h
  refine e_getI C [12] 24 (fg_of fg_X12_83) o1 dX12_whole_1 ?_
  refine e_if_le (tgt := 52) C dX12_whole_4 (by decide) (fun q2 => ?_) (fun q2 => ?_)
  · replace h := ite_t h q2
    exact e_vret C hr hlk (Nat.le_refl _) (Nat.le_refl _) dX12_whole_52 ⟨rfl, h⟩
  · replace h := ite_f h q2
    refine e_aload_n C 0 dX12_whole_7 rfl rfl ?_
    refine e_getR C [12] 22 (fg_of fg_X12_77) o1 dX12_whole_8 ?_
    refine e_aload_n C 0 dX12_whole_11 rfl rfl ?_
    refine e_getI C [12] 24 (fg_of fg_X12_83) o1 dX12_whole_12 ?_
    refine e_iconst (v := 1) C dX12_whole_15 (by decide) ?_
    refine e_isub C dX12_whole_16 ?_
    obtain ⟨b3, p4, h⟩ := h
    try rw [p4]
    obtain ⟨o5, h⟩ := h
    refine e_iald C o5 dX12_whole_17 ?_
    refine e_bipush (v := 33) C dX12_whole_18 (by decide) ?_
    refine e_icmp_ne (tgt := 52) C dX12_whole_20 (by decide) (fun q6 => ?_) (fun q6 => ?_)
    · replace h := ite_f h q6
      exact e_vret C hr hlk (Nat.le_refl _) (Nat.le_refl _) dX12_whole_52 ⟨rfl, h⟩
    · replace h := ite_t h q6
      refine e_aload_n C 0 dX12_whole_23 rfl rfl ?_
      refine e_bipush (v := -33) C dX12_whole_24 (by decide) ?_
      refine e_callV (as := [.int (-33 : Int32)]) C wb_X12_put wv_X12_234 (ci := 12) rfl rfl (isO_1 o1) (m_X12_put h) rfl ⟨Nat.le_of_ble_eq_true rfl, Nat.le_of_ble_eq_true rfl⟩ ⟨Nat.le_of_ble_eq_true rfl, Nat.le_of_ble_eq_true rfl⟩ (by first | exact Nat.le_of_ble_eq_true rfl | (simp only [List.map_cons, List.map_nil, va_cat, List.sum_cons, List.sum_nil]; exact Nat.le_of_ble_eq_true rfl)) dX12_whole_26 (kV (fun M8 h16 => ?_))
      refine e_aload_n C 0 dX12_whole_29 rfl rfl ?_
      refine e_dup C rfl dX12_whole_30 ?_
      obtain ⟨o9, h16⟩ := h16
      refine e_getI C [12] 24 (fg_of fg_X12_83) o9 dX12_whole_31 ?_
      refine e_iconst (v := 1) C dX12_whole_34 (by decide) ?_
      refine e_isub C dX12_whole_35 ?_
      refine e_putI C [12] 24 false (fun z => by cases z) fp_X12_83 o9 dX12_whole_36 ?_
      refine nmE (fun M10 e11 => ?_)
      replace h16 := h16 M10 e11
      have o12 : isO M10 a0 [12] := by rw [e11]; exact o9
      refine e_aload_n C 0 dX12_whole_39 rfl rfl ?_
      refine e_dup C rfl dX12_whole_40 ?_
      refine e_getI C [12] 25 (fg_of fg_X12_86) o12 dX12_whole_41 ?_
      refine e_iconst (v := 1) C dX12_whole_44 (by decide) ?_
      refine e_isub C dX12_whole_45 ?_
      refine e_putI C [12] 25 false (fun z => by cases z) fp_X12_86 o12 dX12_whole_46 ?_
      refine nmE (fun M13 e14 => ?_)
      replace h16 := h16 M13 e14
      have o15 : isO M13 a0 [12] := by rw [e14]; exact o12
      refine e_goto (tgt := 0) C dX12_whole_49 (by decide) ?_
      exact hK0 M13 h16
set_option maxHeartbeats 4000000 in
set_option maxRecDepth 100000 in
theorem w_X12_whole_L0 {p : Program} {l : Launch} {e : Env} {s : State} {m : MethodId} {args : Array Value} {below : List Frame} {meth : Method} {c : Code} {g : Geo} (C : Cx p s m args c cX12_whole RX12 1 g) (hr : meth.sig.returnType = none) (hlk : meth.locks = false) {a0 : Nat} {M : Mem} {Q : Mem → Prop} (h : f_X12_whole_L0 a0 M Q) : E p l e (rmO 2 0 0) s m args below meth c g 1 (MQ below (QcM g (rV Q)) args s 0 0 (gA g)) 0 0 0 [(0, .ref a0)] [] M := by
  unfold f_X12_whole_L0 at h
  refine loop_E (W := fun z : Mem => E p l e (rmO 2 0 0) s m args below meth c g 1 (MQ below (QcM g (rV Q)) args s 0 0 (gA g)) 0 0 0 [(0, .ref a0)] [] z) h (fun K z hK h => ?_)
  exact w_X12_whole_B0 C hr hlk hK h
set_option maxHeartbeats 4000000 in
set_option maxRecDepth 100000 in
theorem w_X12_whole {p : Program} {l : Launch} {e : Env} {s : State} {m : MethodId} {args : Array Value} {below : List Frame} {meth : Method} {c : Code} {g : Geo} (C : Cx p s m args c cX12_whole RX12 1 g) (hr : meth.sig.returnType = none) (hlk : meth.locks = false) {a0 : Nat} {M : Mem} {Q : Mem → Prop} (h : f_X12_whole a0 M Q) : E p l e (rmO 2 0 0) s m args below meth c g 1 (MQ below (QcM g (rV Q)) args s 0 0 (gA g)) 0 0 0 [(0, .ref a0)] [] M := by
  unfold f_X12_whole at h
  exact w_X12_whole_L0 C hr hlk h
theorem m_X12_whole  {a0 : Nat} {M : Mem} {Q : Mem → Prop} (h : f_X12_whole a0 M Q) : Con yX12_whole cX12_whole 1 none 2 0 0 [.ref a0] M (rV Q) :=
  con_of2 (al := [(0, .ref a0)]) (by decide) (by exact Nat.le_of_ble_eq_true rfl) (by rfl) (fun p l e s m args below meth c g C hr hlk _ => w_X12_whole C hr hlk h)
set_option maxHeartbeats 4000000 in
set_option maxRecDepth 100000 in
theorem w_X12_settle_J45 {p : Program} {l : Launch} {e : Env} {s : State} {m : MethodId} {args : Array Value} {below : List Frame} {meth : Method} {c : Code} {g : Geo} (C : Cx p s m args c cX12_settle RX12 2 g) (hr : meth.sig.returnType = none) (hlk : meth.locks = false) {a0 : Nat} {x1 : Int32} {M : Mem} {K0 : Mem → Prop} {Q : Mem → Prop} (hK0 : ∀ z : Mem, K0 z → E p l e (rmO 2 0 0) s m args below meth c g 2 (MQ below (QcM g (rV Q)) args s 0 0 (gA g)) 0 0 0 [(0, .ref a0), (1, .int x1)] [] z) (h : f_X12_settle_J45 a0 x1 M K0 Q) : E p l e (rmO 2 0 0) s m args below meth c g 2 (MQ below (QcM g (rV Q)) args s 0 0 (gA g)) 0 0 45 [(0, .ref a0), (1, .int x1)] [] M := by
  unfold f_X12_settle_J45 at h
  refine e_aload_n C 0 dX12_settle_45 rfl rfl ?_
  refine e_dup C rfl dX12_settle_46 ?_
  obtain ⟨o1, h⟩ := h
  refine e_getI C [12] 24 (fg_of fg_X12_83) o1 dX12_settle_47 ?_
  refine e_iconst (v := 1) C dX12_settle_50 (by decide) ?_
  refine e_isub C dX12_settle_51 ?_
  refine e_putI C [12] 24 false (fun z => by cases z) fp_X12_83 o1 dX12_settle_52 ?_
  refine nmE (fun M2 e3 => ?_)
  replace h := h M2 e3
  have o4 : isO M2 a0 [12] := by rw [e3]; exact o1
  refine e_aload_n C 0 dX12_settle_55 rfl rfl ?_
  refine e_aload_n C 0 dX12_settle_56 rfl rfl ?_
  refine e_getR C [12] 22 (fg_of fg_X12_77) o4 dX12_settle_57 ?_
  refine e_aload_n C 0 dX12_settle_60 rfl rfl ?_
  refine e_getI C [12] 24 (fg_of fg_X12_83) o4 dX12_settle_61 ?_
  obtain ⟨b5, p6, h⟩ := h
  try rw [p6]
  obtain ⟨o7, h⟩ := h
  refine e_iald C o7 dX12_settle_64 ?_
  refine e_ineg C dX12_settle_65 ?_
  refine e_callV (as := [.int (-(mI M2 b5 ((mI M2 a0 24)).toNatClampNeg))]) C wb_X12_put wv_X12_234 (ci := 12) rfl rfl (isO_1 o4) (m_X12_put h) rfl ⟨Nat.le_of_ble_eq_true rfl, Nat.le_of_ble_eq_true rfl⟩ ⟨Nat.le_of_ble_eq_true rfl, Nat.le_of_ble_eq_true rfl⟩ (by first | exact Nat.le_of_ble_eq_true rfl | (simp only [List.map_cons, List.map_nil, va_cat, List.sum_cons, List.sum_nil]; exact Nat.le_of_ble_eq_true rfl)) dX12_settle_66 (kV (fun M9 h10 => ?_))
  refine e_goto (tgt := 0) C dX12_settle_69 (by decide) ?_
  exact hK0 M9 h10
set_option maxHeartbeats 4000000 in
set_option maxRecDepth 100000 in
theorem w_X12_settle_B0 {p : Program} {l : Launch} {e : Env} {s : State} {m : MethodId} {args : Array Value} {below : List Frame} {meth : Method} {c : Code} {g : Geo} (C : Cx p s m args c cX12_settle RX12 2 g) (hr : meth.sig.returnType = none) (hlk : meth.locks = false) {a0 : Nat} {x1 : Int32} {M : Mem} {K0 : Mem → Prop} {Q : Mem → Prop} (hK0 : ∀ z : Mem, K0 z → E p l e (rmO 2 0 0) s m args below meth c g 2 (MQ below (QcM g (rV Q)) args s 0 0 (gA g)) 0 0 0 [(0, .ref a0), (1, .int x1)] [] z) (h : f_X12_settle_B0 a0 x1 M K0 Q) : E p l e (rmO 2 0 0) s m args below meth c g 2 (MQ below (QcM g (rV Q)) args s 0 0 (gA g)) 0 0 0 [(0, .ref a0), (1, .int x1)] [] M := by
  unfold f_X12_settle_B0 at h
  refine e_aload_n C 0 dX12_settle_0 rfl rfl ?_
  obtain ⟨o1, h⟩ := h
  refine e_getI C [12] 24 (fg_of fg_X12_83) o1 dX12_settle_1 ?_
  refine e_if_le (tgt := 72) C dX12_settle_4 (by decide) (fun q2 => ?_) (fun q2 => ?_)
  · replace h := ite_t h q2
    exact e_vret C hr hlk (Nat.le_refl _) (Nat.le_refl _) dX12_settle_72 ⟨rfl, h⟩
  · replace h := ite_f h q2
    refine e_aload_n C 0 dX12_settle_7 rfl rfl ?_
    refine e_getR C [12] 22 (fg_of fg_X12_77) o1 dX12_settle_8 ?_
    refine e_aload_n C 0 dX12_settle_11 rfl rfl ?_
    refine e_getI C [12] 24 (fg_of fg_X12_83) o1 dX12_settle_12 ?_
    refine e_iconst (v := 1) C dX12_settle_15 (by decide) ?_
    refine e_isub C dX12_settle_16 ?_
    obtain ⟨b3, p4, h⟩ := h
    try rw [p4]
    obtain ⟨o5, h⟩ := h
    refine e_iald C o5 dX12_settle_17 ?_
    refine e_bipush (v := 38) C dX12_settle_18 (by decide) ?_
    refine e_icmp_eq (tgt := 45) C dX12_settle_20 (by decide) (fun q6 => ?_) (fun q6 => ?_)
    · replace h := ite_t h q6
      exact w_X12_settle_J45 C hr hlk hK0 h
    · replace h := ite_f h q6
      refine e_aload_n C 0 dX12_settle_23 rfl rfl ?_
      refine e_getR C [12] 22 (fg_of fg_X12_77) o1 dX12_settle_24 ?_
      rw [p4]
      refine e_aload_n C 0 dX12_settle_27 rfl rfl ?_
      refine e_getI C [12] 24 (fg_of fg_X12_83) o1 dX12_settle_28 ?_
      refine e_iconst (v := 1) C dX12_settle_31 (by decide) ?_
      refine e_isub C dX12_settle_32 ?_
      obtain ⟨o7, h⟩ := h
      refine e_iald C o7 dX12_settle_33 ?_
      refine e_bipush (v := 124) C dX12_settle_34 (by decide) ?_
      refine e_icmp_ne (tgt := 72) C dX12_settle_36 (by decide) (fun q8 => ?_) (fun q8 => ?_)
      · replace h := ite_f h q8
        exact e_vret C hr hlk (Nat.le_refl _) (Nat.le_refl _) dX12_settle_72 ⟨rfl, h⟩
      · replace h := ite_t h q8
        refine e_iload_n C 1 dX12_settle_39 rfl rfl ?_
        refine e_bipush (v := 38) C dX12_settle_40 (by decide) ?_
        refine e_icmp_eq (tgt := 72) C dX12_settle_42 (by decide) (fun q9 => ?_) (fun q9 => ?_)
        · replace h := ite_t h q9
          exact e_vret C hr hlk (Nat.le_refl _) (Nat.le_refl _) dX12_settle_72 ⟨rfl, h⟩
        · replace h := ite_f h q9
          exact w_X12_settle_J45 C hr hlk hK0 h
set_option maxHeartbeats 4000000 in
set_option maxRecDepth 100000 in
theorem w_X12_settle_L0 {p : Program} {l : Launch} {e : Env} {s : State} {m : MethodId} {args : Array Value} {below : List Frame} {meth : Method} {c : Code} {g : Geo} (C : Cx p s m args c cX12_settle RX12 2 g) (hr : meth.sig.returnType = none) (hlk : meth.locks = false) {a0 : Nat} {x1 : Int32} {M : Mem} {Q : Mem → Prop} (h : f_X12_settle_L0 a0 x1 M Q) : E p l e (rmO 2 0 0) s m args below meth c g 2 (MQ below (QcM g (rV Q)) args s 0 0 (gA g)) 0 0 0 [(0, .ref a0), (1, .int x1)] [] M := by
  unfold f_X12_settle_L0 at h
  refine loop_E (W := fun z : Mem => E p l e (rmO 2 0 0) s m args below meth c g 2 (MQ below (QcM g (rV Q)) args s 0 0 (gA g)) 0 0 0 [(0, .ref a0), (1, .int x1)] [] z) h (fun K z hK h => ?_)
  exact w_X12_settle_B0 C hr hlk hK h
set_option maxHeartbeats 4000000 in
set_option maxRecDepth 100000 in
theorem w_X12_settle {p : Program} {l : Launch} {e : Env} {s : State} {m : MethodId} {args : Array Value} {below : List Frame} {meth : Method} {c : Code} {g : Geo} (C : Cx p s m args c cX12_settle RX12 2 g) (hr : meth.sig.returnType = none) (hlk : meth.locks = false) {a0 : Nat} {x1 : Int32} {M : Mem} {Q : Mem → Prop} (h : f_X12_settle a0 x1 M Q) : E p l e (rmO 2 0 0) s m args below meth c g 2 (MQ below (QcM g (rV Q)) args s 0 0 (gA g)) 0 0 0 [(0, .ref a0), (1, .int x1)] [] M := by
  unfold f_X12_settle at h
  exact w_X12_settle_L0 C hr hlk h
theorem m_X12_settle  {a0 : Nat} {x1 : Int32} {M : Mem} {Q : Mem → Prop} (h : f_X12_settle a0 x1 M Q) : Con yX12_settle cX12_settle 2 none 2 0 0 [.ref a0, .int x1] M (rV Q) :=
  con_of2 (al := [(0, .ref a0), (1, .int x1)]) (by decide) (by exact Nat.le_of_ble_eq_true rfl) (by rfl) (fun p l e s m args below meth c g C hr hlk _ => w_X12_settle C hr hlk h)
set_option maxHeartbeats 4000000 in
set_option maxRecDepth 100000 in
theorem w_X12_place {p : Program} {l : Launch} {e : Env} {s : State} {m : MethodId} {args : Array Value} {below : List Frame} {meth : Method} {c : Code} {g : Geo} (C : Cx p s m args c cX12_place RX12 2 g) (hr : meth.sig.returnType = (some .int)) (hlk : meth.locks = false) {a0 : Nat} {x1 : Int32} {M : Mem} {Q : Int32 → Mem → Prop} (h : f_X12_place a0 x1 M Q) : E p l e (rmO 1 0 0) s m args below meth c g 2 (MQ below (QcM g (rI Q)) args s 0 0 (gA g)) 0 0 0 [(0, .ref a0), (1, .int x1)] [] M := by
  unfold f_X12_place at h
  refine e_iload_n C 1 dX12_place_0 rfl rfl ?_
  by_cases q1 : x1 = 102
  · replace h := ite_t h q1
    refine e_look (tgt := 48) C dX12_place_1 (by decide) (by rw [q1] <;> rfl) (by decide) ?_
    refine e_iconst (v := 2) C dX12_place_48 (by decide) ?_
    exact e_iret C hr hlk (Nat.le_refl _) (Nat.le_refl _) dX12_place_49 ⟨_, rfl, h⟩
  · replace h := ite_f h q1
    by_cases q2 : x1 = 108
    · replace h := ite_t h q2
      refine e_look (tgt := 46) C dX12_place_1 (by decide) (by rw [q2] <;> rfl) (by decide) ?_
      refine e_iconst (v := 1) C dX12_place_46 (by decide) ?_
      exact e_iret C hr hlk (Nat.le_refl _) (Nat.le_refl _) dX12_place_47 ⟨_, rfl, h⟩
    · replace h := ite_f h q2
      by_cases q3 : x1 = 110
      · replace h := ite_t h q3
        refine e_look (tgt := 50) C dX12_place_1 (by decide) (by rw [q3] <;> rfl) (by decide) ?_
        refine e_iconst (v := 3) C dX12_place_50 (by decide) ?_
        exact e_iret C hr hlk (Nat.le_refl _) (Nat.le_refl _) dX12_place_51 ⟨_, rfl, h⟩
      · replace h := ite_f h q3
        by_cases q4 : x1 = 116
        · replace h := ite_t h q4
          refine e_look (tgt := 44) C dX12_place_1 (by decide) (by rw [q4] <;> rfl) (by decide) ?_
          refine e_iconst (v := 0) C dX12_place_44 (by decide) ?_
          exact e_iret C hr hlk (Nat.le_refl _) (Nat.le_refl _) dX12_place_45 ⟨_, rfl, h⟩
        · replace h := ite_f h q4
          refine e_look (tgt := 52) (off := 51) C dX12_place_1 (by decide) (show Op.lookupswitch.offset [(102, 47), (108, 45), (110, 49), (116, 43)] 51 _ = _ by rw [lv_osw q1 (by decide), lv_osw q2 (by decide), lv_osw q3 (by decide), lv_osw q4 (by decide)] <;> rfl) (by decide) ?_
          refine e_iconst (v := -1) C dX12_place_52 (by decide) ?_
          exact e_iret C hr hlk (Nat.le_refl _) (Nat.le_refl _) dX12_place_53 ⟨_, rfl, h⟩
theorem m_X12_place  {a0 : Nat} {x1 : Int32} {M : Mem} {Q : Int32 → Mem → Prop} (h : f_X12_place a0 x1 M Q) : Con yX12_place cX12_place 2 (some .int) 1 0 0 [.ref a0, .int x1] M (rI Q) :=
  con_of2 (al := [(0, .ref a0), (1, .int x1)]) (by decide) (by exact Nat.le_of_ble_eq_true rfl) (by rfl) (fun p l e s m args below meth c g C hr hlk _ => w_X12_place C hr hlk h)
