/-! ===== links (generated) ===== -/
theorem uwX0 : ∀ w ∈ u_ws RX0 TX0 5, w ∈ lw_good := by
  intro w hw
  obtain ⟨j, hj, rfl⟩ := List.mem_map.mp hw
  have hj := List.mem_range.mp hj
  match j, hj with
  | 0, _ => exact wd_129
  | 1, _ => exact wd_131
  | 2, _ => exact wd_133
  | 3, _ => exact wd_135
  | 4, _ => exact wd_137
  | j + 5, hj => exact absurd hj (by omega)
theorem uwX1 : ∀ w ∈ u_ws RX1 TX1 4, w ∈ lw_good := by
  intro w hw
  obtain ⟨j, hj, rfl⟩ := List.mem_map.mp hw
  have hj := List.mem_range.mp hj
  match j, hj with
  | 0, _ => exact wd_467
  | 1, _ => exact wd_468
  | 2, _ => exact wd_469
  | 3, _ => exact wd_470
  | j + 4, hj => exact absurd hj (by omega)
theorem uwX10 : ∀ w ∈ u_ws RX10 TX10 11, w ∈ lw_good := by
  intro w hw
  obtain ⟨j, hj, rfl⟩ := List.mem_map.mp hw
  have hj := List.mem_range.mp hj
  match j, hj with
  | 0, _ => exact wd_53
  | 1, _ => exact wd_55
  | 2, _ => exact wd_57
  | 3, _ => exact wd_59
  | 4, _ => exact wd_61
  | 5, _ => exact wd_63
  | 6, _ => exact wd_65
  | 7, _ => exact wd_67
  | 8, _ => exact wd_69
  | 9, _ => exact wd_71
  | 10, _ => exact wd_73
  | j + 11, hj => exact absurd hj (by omega)
theorem uwX11 : ∀ w ∈ u_ws RX11 TX11 19, w ∈ lw_good := by
  intro w hw
  obtain ⟨j, hj, rfl⟩ := List.mem_map.mp hw
  have hj := List.mem_range.mp hj
  match j, hj with
  | 0, _ => exact wd_254
  | 1, _ => exact wd_256
  | 2, _ => exact wd_258
  | 3, _ => exact wd_260
  | 4, _ => exact wd_262
  | 5, _ => exact wd_264
  | 6, _ => exact wd_266
  | 7, _ => exact wd_268
  | 8, _ => exact wd_270
  | 9, _ => exact wd_272
  | 10, _ => exact wd_274
  | 11, _ => exact wd_276
  | 12, _ => exact wd_278
  | 13, _ => exact wd_280
  | 14, _ => exact wd_282
  | 15, _ => exact wd_284
  | 16, _ => exact wd_286
  | 17, _ => exact wd_288
  | 18, _ => exact wd_290
  | j + 19, hj => exact absurd hj (by omega)
theorem uwX12 : ∀ w ∈ u_ws RX12 TX12 67, w ∈ lw_good := by
  intro w hw
  obtain ⟨j, hj, rfl⟩ := List.mem_map.mp hw
  have hj := List.mem_range.mp hj
  match j, hj with
  | 0, _ => exact wd_1048
  | 1, _ => exact wd_1050
  | 2, _ => exact wd_1052
  | 3, _ => exact wd_1054
  | 4, _ => exact wd_1056
  | 5, _ => exact wd_1058
  | 6, _ => exact wd_1060
  | 7, _ => exact wd_1062
  | 8, _ => exact wd_1064
  | 9, _ => exact wd_1066
  | 10, _ => exact wd_1068
  | 11, _ => exact wd_1070
  | 12, _ => exact wd_1072
  | 13, _ => exact wd_1074
  | 14, _ => exact wd_1076
  | 15, _ => exact wd_1078
  | 16, _ => exact wd_1080
  | 17, _ => exact wd_1082
  | 18, _ => exact wd_1084
  | 19, _ => exact wd_1086
  | 20, _ => exact wd_1088
  | 21, _ => exact wd_1090
  | 22, _ => exact wd_1092
  | 23, _ => exact wd_1094
  | 24, _ => exact wd_1096
  | 25, _ => exact wd_1098
  | 26, _ => exact wd_1100
  | 27, _ => exact wd_1102
  | 28, _ => exact wd_1104
  | 29, _ => exact wd_1106
  | 30, _ => exact wd_1108
  | 31, _ => exact wd_1110
  | 32, _ => exact wd_1112
  | 33, _ => exact wd_1114
  | 34, _ => exact wd_1116
  | 35, _ => exact wd_1118
  | 36, _ => exact wd_1120
  | 37, _ => exact wd_1122
  | 38, _ => exact wd_1124
  | 39, _ => exact wd_1126
  | 40, _ => exact wd_1128
  | 41, _ => exact wd_1130
  | 42, _ => exact wd_1132
  | 43, _ => exact wd_1134
  | 44, _ => exact wd_1136
  | 45, _ => exact wd_1138
  | 46, _ => exact wd_1140
  | 47, _ => exact wd_1142
  | 48, _ => exact wd_1144
  | 49, _ => exact wd_1146
  | 50, _ => exact wd_1148
  | 51, _ => exact wd_1150
  | 52, _ => exact wd_1152
  | 53, _ => exact wd_1154
  | 54, _ => exact wd_1156
  | 55, _ => exact wd_1158
  | 56, _ => exact wd_1160
  | 57, _ => exact wd_1162
  | 58, _ => exact wd_1164
  | 59, _ => exact wd_1166
  | 60, _ => exact wd_1168
  | 61, _ => exact wd_1170
  | 62, _ => exact wd_1172
  | 63, _ => exact wd_1174
  | 64, _ => exact wd_1176
  | 65, _ => exact wd_1178
  | 66, _ => exact wd_1180
  | j + 67, hj => exact absurd hj (by omega)
theorem uwX2 : ∀ w ∈ u_ws RX2 TX2 4, w ∈ lw_good := by
  intro w hw
  obtain ⟨j, hj, rfl⟩ := List.mem_map.mp hw
  have hj := List.mem_range.mp hj
  match j, hj with
  | 0, _ => exact wd_511
  | 1, _ => exact wd_512
  | 2, _ => exact wd_513
  | 3, _ => exact wd_514
  | j + 4, hj => exact absurd hj (by omega)
theorem uwX3 : ∀ w ∈ u_ws RX3 TX3 19, w ∈ lw_good := by
  intro w hw
  obtain ⟨j, hj, rfl⟩ := List.mem_map.mp hw
  have hj := List.mem_range.mp hj
  match j, hj with
  | 0, _ => exact wd_175
  | 1, _ => exact wd_177
  | 2, _ => exact wd_179
  | 3, _ => exact wd_181
  | 4, _ => exact wd_183
  | 5, _ => exact wd_185
  | 6, _ => exact wd_187
  | 7, _ => exact wd_189
  | 8, _ => exact wd_191
  | 9, _ => exact wd_193
  | 10, _ => exact wd_195
  | 11, _ => exact wd_197
  | 12, _ => exact wd_199
  | 13, _ => exact wd_201
  | 14, _ => exact wd_203
  | 15, _ => exact wd_205
  | 16, _ => exact wd_207
  | 17, _ => exact wd_209
  | 18, _ => exact wd_211
  | j + 19, hj => exact absurd hj (by omega)
theorem uwX4 : ∀ w ∈ u_ws RX4 TX4 4, w ∈ lw_good := by
  intro w hw
  obtain ⟨j, hj, rfl⟩ := List.mem_map.mp hw
  have hj := List.mem_range.mp hj
  match j, hj with
  | 0, _ => exact wd_489
  | 1, _ => exact wd_490
  | 2, _ => exact wd_491
  | 3, _ => exact wd_492
  | j + 4, hj => exact absurd hj (by omega)
theorem uwX5 : ∀ w ∈ u_ws RX5 TX5 4, w ∈ lw_good := by
  intro w hw
  obtain ⟨j, hj, rfl⟩ := List.mem_map.mp hw
  have hj := List.mem_range.mp hj
  match j, hj with
  | 0, _ => exact wd_101
  | 1, _ => exact wd_103
  | 2, _ => exact wd_105
  | 3, _ => exact wd_107
  | j + 4, hj => exact absurd hj (by omega)
theorem uwX6 : ∀ w ∈ u_ws RX6 TX6 4, w ∈ lw_good := by
  intro w hw
  obtain ⟨j, hj, rfl⟩ := List.mem_map.mp hw
  have hj := List.mem_range.mp hj
  match j, hj with
  | 0, _ => exact wd_500
  | 1, _ => exact wd_501
  | 2, _ => exact wd_502
  | 3, _ => exact wd_503
  | j + 4, hj => exact absurd hj (by omega)
theorem uwX7 : ∀ w ∈ u_ws RX7 TX7 4, w ∈ lw_good := by
  intro w hw
  obtain ⟨j, hj, rfl⟩ := List.mem_map.mp hw
  have hj := List.mem_range.mp hj
  match j, hj with
  | 0, _ => exact wd_478
  | 1, _ => exact wd_479
  | 2, _ => exact wd_480
  | 3, _ => exact wd_481
  | j + 4, hj => exact absurd hj (by omega)
theorem uwX8 : ∀ w ∈ u_ws RX8 TX8 3, w ∈ lw_good := by
  intro w hw
  obtain ⟨j, hj, rfl⟩ := List.mem_map.mp hw
  have hj := List.mem_range.mp hj
  match j, hj with
  | 0, _ => exact wd_227
  | 1, _ => exact wd_229
  | 2, _ => exact wd_231
  | j + 3, hj => exact absurd hj (by omega)
theorem uwX9 : ∀ w ∈ u_ws RX9 TX9 5, w ∈ lw_good := by
  intro w hw
  obtain ⟨j, hj, rfl⟩ := List.mem_map.mp hw
  have hj := List.mem_range.mp hj
  match j, hj with
  | 0, _ => exact wd_529
  | 1, _ => exact wd_530
  | 2, _ => exact wd_531
  | 3, _ => exact wd_532
  | 4, _ => exact wd_527
  | j + 5, hj => exact absurd hj (by omega)
theorem fg_X0_15 : ∀ ci ∈ [0], FLg RX0 15 ci 1 ∧ tR (tyC ci 1) = true := by
  intro ci hci
  simp only [List.mem_cons, List.not_mem_nil, or_false] at hci
  rcases hci with rfl
  · exact ⟨⟨RX0, TX0, 5, "PennyQueue$Day", rfl, by decide, uwX0, wd_118, Or.inl rfl, rfl, tyX0_ok, nmX0⟩, rfl⟩
theorem fg_X0_19 : ∀ ci ∈ [0], FLg RX0 19 ci 2 ∧ tR (tyC ci 2) = true := by
  intro ci hci
  simp only [List.mem_cons, List.not_mem_nil, or_false] at hci
  rcases hci with rfl
  · exact ⟨⟨RX0, TX0, 5, "PennyQueue$Day", rfl, by decide, uwX0, wd_120, Or.inl rfl, rfl, tyX0_ok, nmX0⟩, rfl⟩
theorem fg_X0_22 : ∀ ci ∈ [0], FLg RX0 22 ci 3 ∧ tR (tyC ci 3) = true := by
  intro ci hci
  simp only [List.mem_cons, List.not_mem_nil, or_false] at hci
  rcases hci with rfl
  · exact ⟨⟨RX0, TX0, 5, "PennyQueue$Day", rfl, by decide, uwX0, wd_123, Or.inl rfl, rfl, tyX0_ok, nmX0⟩, rfl⟩
theorem fg_X0_25 : ∀ ci ∈ [0], FLg RX0 25 ci 4 ∧ tI (tyC ci 4) = true := by
  intro ci hci
  simp only [List.mem_cons, List.not_mem_nil, or_false] at hci
  rcases hci with rfl
  · exact ⟨⟨RX0, TX0, 5, "PennyQueue$Day", rfl, by decide, uwX0, wd_126, Or.inl rfl, rfl, tyX0_ok, nmX0⟩, rfl⟩
theorem fg_X0_9 : ∀ ci ∈ [0], FLg RX0 9 ci 0 ∧ tI (tyC ci 0) = true := by
  intro ci hci
  simp only [List.mem_cons, List.not_mem_nil, or_false] at hci
  rcases hci with rfl
  · exact ⟨⟨RX0, TX0, 5, "PennyQueue$Day", rfl, by decide, uwX0, wd_116, Or.inl rfl, rfl, tyX0_ok, nmX0⟩, rfl⟩
theorem fg_X10_15 : ∀ ci ∈ [10], FLg RX10 15 ci 4 ∧ tR (tyC ci 4) = true := by
  intro ci hci
  simp only [List.mem_cons, List.not_mem_nil, or_false] at hci
  rcases hci with rfl
  · exact ⟨⟨RX10, TX10, 11, "PennyQueue$Window", rfl, by decide, uwX10, wd_46, Or.inl rfl, rfl, tyX10_ok, nmX10⟩, rfl⟩
theorem fg_X10_19 : ∀ ci ∈ [10], FLg RX10 19 ci 5 ∧ tR (tyC ci 5) = true := by
  intro ci hci
  simp only [List.mem_cons, List.not_mem_nil, or_false] at hci
  rcases hci with rfl
  · exact ⟨⟨RX10, TX10, 11, "PennyQueue$Window", rfl, by decide, uwX10, wd_47, Or.inl rfl, rfl, tyX10_ok, nmX10⟩, rfl⟩
theorem fg_X10_22 : ∀ ci ∈ [10], FLg RX10 22 ci 6 ∧ tR (tyC ci 6) = true := by
  intro ci hci
  simp only [List.mem_cons, List.not_mem_nil, or_false] at hci
  rcases hci with rfl
  · exact ⟨⟨RX10, TX10, 11, "PennyQueue$Window", rfl, by decide, uwX10, wd_48, Or.inl rfl, rfl, tyX10_ok, nmX10⟩, rfl⟩
theorem fg_X10_31 : ∀ ci ∈ [10], FLg RX10 31 ci 3 ∧ tI (tyC ci 3) = true := by
  intro ci hci
  simp only [List.mem_cons, List.not_mem_nil, or_false] at hci
  rcases hci with rfl
  · exact ⟨⟨RX10, TX10, 11, "PennyQueue$Window", rfl, by decide, uwX10, wd_45, Or.inl rfl, rfl, tyX10_ok, nmX10⟩, rfl⟩
theorem fg_X10_34 : ∀ ci ∈ [10], FLg RX10 34 ci 7 ∧ tI (tyC ci 7) = true := by
  intro ci hci
  simp only [List.mem_cons, List.not_mem_nil, or_false] at hci
  rcases hci with rfl
  · exact ⟨⟨RX10, TX10, 11, "PennyQueue$Window", rfl, by decide, uwX10, wd_49, Or.inl rfl, rfl, tyX10_ok, nmX10⟩, rfl⟩
theorem fg_X10_37 : ∀ ci ∈ [10], FLg RX10 37 ci 8 ∧ tR (tyC ci 8) = true := by
  intro ci hci
  simp only [List.mem_cons, List.not_mem_nil, or_false] at hci
  rcases hci with rfl
  · exact ⟨⟨RX10, TX10, 11, "PennyQueue$Window", rfl, by decide, uwX10, wd_50, Or.inl rfl, rfl, tyX10_ok, nmX10⟩, rfl⟩
theorem fg_X10_41 : ∀ ci ∈ [10], FLg RX10 41 ci 9 ∧ tI (tyC ci 9) = true := by
  intro ci hci
  simp only [List.mem_cons, List.not_mem_nil, or_false] at hci
  rcases hci with rfl
  · exact ⟨⟨RX10, TX10, 11, "PennyQueue$Window", rfl, by decide, uwX10, wd_51, Or.inl rfl, rfl, tyX10_ok, nmX10⟩, rfl⟩
theorem fg_X10_44 : ∀ ci ∈ [10], FLg RX10 44 ci 10 ∧ tI (tyC ci 10) = true := by
  intro ci hci
  simp only [List.mem_cons, List.not_mem_nil, or_false] at hci
  rcases hci with rfl
  · exact ⟨⟨RX10, TX10, 11, "PennyQueue$Window", rfl, by decide, uwX10, wd_52, Or.inl rfl, rfl, tyX10_ok, nmX10⟩, rfl⟩
theorem fg_X11_102 : ∀ ci ∈ [0], FLg RX11 102 ci 0 ∧ tI (tyC ci 0) = true := by
  intro ci hci
  simp only [List.mem_cons, List.not_mem_nil, or_false] at hci
  rcases hci with rfl
  · exact ⟨⟨RX0, TX0, 5, "PennyQueue$Day", rfl, by decide, uwX0, wd_117, Or.inl rfl, rfl, tyX0_ok, nmX0⟩, rfl⟩
theorem fg_X11_109 : ∀ ci ∈ [10], FLg RX11 109 ci 0 ∧ tI (tyC ci 0) = true := by
  intro ci hci
  simp only [List.mem_cons, List.not_mem_nil, or_false] at hci
  rcases hci with rfl
  · exact ⟨⟨RX10, TX10, 11, "PennyQueue$Window", rfl, by decide, uwX10, wd_39, Or.inl rfl, rfl, tyX10_ok, nmX10⟩, rfl⟩
theorem fg_X11_112 : ∀ ci ∈ [10], FLg RX11 112 ci 1 ∧ tI (tyC ci 1) = true := by
  intro ci hci
  simp only [List.mem_cons, List.not_mem_nil, or_false] at hci
  rcases hci with rfl
  · exact ⟨⟨RX10, TX10, 11, "PennyQueue$Window", rfl, by decide, uwX10, wd_41, Or.inl rfl, rfl, tyX10_ok, nmX10⟩, rfl⟩
theorem fg_X11_115 : ∀ ci ∈ [10], FLg RX11 115 ci 2 ∧ tI (tyC ci 2) = true := by
  intro ci hci
  simp only [List.mem_cons, List.not_mem_nil, or_false] at hci
  rcases hci with rfl
  · exact ⟨⟨RX10, TX10, 11, "PennyQueue$Window", rfl, by decide, uwX10, wd_44, Or.inl rfl, rfl, tyX10_ok, nmX10⟩, rfl⟩
theorem fg_X11_118 : ∀ ci ∈ [0], FLg RX11 118 ci 4 ∧ tI (tyC ci 4) = true := by
  intro ci hci
  simp only [List.mem_cons, List.not_mem_nil, or_false] at hci
  rcases hci with rfl
  · exact ⟨⟨RX0, TX0, 5, "PennyQueue$Day", rfl, by decide, uwX0, wd_128, Or.inl rfl, rfl, tyX0_ok, nmX0⟩, rfl⟩
theorem fg_X11_124 : ∀ ci ∈ [11], FLg RX11 124 ci 9 ∧ tI (tyC ci 9) = true := by
  intro ci hci
  simp only [List.mem_cons, List.not_mem_nil, or_false] at hci
  rcases hci with rfl
  · exact ⟨⟨RX11, TX11, 19, "PennyQueue", rfl, by decide, uwX11, wd_244, Or.inl rfl, rfl, tyX11_ok, nmX11⟩, rfl⟩
theorem fg_X11_13 : ∀ ci ∈ [11], FLg RX11 13 ci 0 ∧ tR (tyC ci 0) = true := by
  intro ci hci
  simp only [List.mem_cons, List.not_mem_nil, or_false] at hci
  rcases hci with rfl
  · exact ⟨⟨RX11, TX11, 19, "PennyQueue", rfl, by decide, uwX11, wd_235, Or.inl rfl, rfl, tyX11_ok, nmX11⟩, rfl⟩
theorem fg_X11_137 : ∀ ci ∈ [9], FLg RX11 137 ci 4 ∧ tR (tyC ci 4) = true := by
  intro ci hci
  simp only [List.mem_cons, List.not_mem_nil, or_false] at hci
  rcases hci with rfl
  · exact ⟨⟨RX9, TX9, 5, "PennyQueue$Told", rfl, by decide, uwX9, wd_526, Or.inl rfl, rfl, tyX9_ok, nmX9⟩, rfl⟩
theorem fg_X11_144 : ∀ ci ∈ [3], FLg RX11 144 ci 6 ∧ tI (tyC ci 6) = true := by
  intro ci hci
  simp only [List.mem_cons, List.not_mem_nil, or_false] at hci
  rcases hci with rfl
  · exact ⟨⟨RX3, TX3, 19, "PennyQueue$Hour", rfl, by decide, uwX3, wd_159, Or.inl rfl, rfl, tyX3_ok, nmX3⟩, rfl⟩
theorem fg_X11_147 : ∀ ci ∈ [3], FLg RX11 147 ci 0 ∧ tR (tyC ci 0) = true := by
  intro ci hci
  simp only [List.mem_cons, List.not_mem_nil, or_false] at hci
  rcases hci with rfl
  · exact ⟨⟨RX3, TX3, 19, "PennyQueue$Hour", rfl, by decide, uwX3, wd_147, Or.inl rfl, rfl, tyX3_ok, nmX3⟩, rfl⟩
theorem fg_X11_150 : ∀ ci ∈ [3], FLg RX11 150 ci 1 ∧ tR (tyC ci 1) = true := by
  intro ci hci
  simp only [List.mem_cons, List.not_mem_nil, or_false] at hci
  rcases hci with rfl
  · exact ⟨⟨RX3, TX3, 19, "PennyQueue$Hour", rfl, by decide, uwX3, wd_149, Or.inl rfl, rfl, tyX3_ok, nmX3⟩, rfl⟩
theorem fg_X11_153 : ∀ ci ∈ [3], FLg RX11 153 ci 2 ∧ tR (tyC ci 2) = true := by
  intro ci hci
  simp only [List.mem_cons, List.not_mem_nil, or_false] at hci
  rcases hci with rfl
  · exact ⟨⟨RX3, TX3, 19, "PennyQueue$Hour", rfl, by decide, uwX3, wd_151, Or.inl rfl, rfl, tyX3_ok, nmX3⟩, rfl⟩
theorem fg_X11_156 : ∀ ci ∈ [3], FLg RX11 156 ci 3 ∧ tR (tyC ci 3) = true := by
  intro ci hci
  simp only [List.mem_cons, List.not_mem_nil, or_false] at hci
  rcases hci with rfl
  · exact ⟨⟨RX3, TX3, 19, "PennyQueue$Hour", rfl, by decide, uwX3, wd_153, Or.inl rfl, rfl, tyX3_ok, nmX3⟩, rfl⟩
theorem fg_X11_16 : ∀ ci ∈ [11], FLg RX11 16 ci 2 ∧ tR (tyC ci 2) = true := by
  intro ci hci
  simp only [List.mem_cons, List.not_mem_nil, or_false] at hci
  rcases hci with rfl
  · exact ⟨⟨RX11, TX11, 19, "PennyQueue", rfl, by decide, uwX11, wd_237, Or.inl rfl, rfl, tyX11_ok, nmX11⟩, rfl⟩
theorem fg_X11_166 : ∀ ci ∈ [3], FLg RX11 166 ci 7 ∧ tI (tyC ci 7) = true := by
  intro ci hci
  simp only [List.mem_cons, List.not_mem_nil, or_false] at hci
  rcases hci with rfl
  · exact ⟨⟨RX3, TX3, 19, "PennyQueue$Hour", rfl, by decide, uwX3, wd_161, Or.inl rfl, rfl, tyX3_ok, nmX3⟩, rfl⟩
theorem fg_X11_169 : ∀ ci ∈ [3], FLg RX11 169 ci 5 ∧ tR (tyC ci 5) = true := by
  intro ci hci
  simp only [List.mem_cons, List.not_mem_nil, or_false] at hci
  rcases hci with rfl
  · exact ⟨⟨RX3, TX3, 19, "PennyQueue$Hour", rfl, by decide, uwX3, wd_157, Or.inl rfl, rfl, tyX3_ok, nmX3⟩, rfl⟩
theorem fg_X11_172 : ∀ ci ∈ [3], FLg RX11 172 ci 4 ∧ tR (tyC ci 4) = true := by
  intro ci hci
  simp only [List.mem_cons, List.not_mem_nil, or_false] at hci
  rcases hci with rfl
  · exact ⟨⟨RX3, TX3, 19, "PennyQueue$Hour", rfl, by decide, uwX3, wd_155, Or.inl rfl, rfl, tyX3_ok, nmX3⟩, rfl⟩
theorem fg_X11_185 : ∀ ci ∈ [3], FLg RX11 185 ci 9 ∧ tI (tyC ci 9) = true := by
  intro ci hci
  simp only [List.mem_cons, List.not_mem_nil, or_false] at hci
  rcases hci with rfl
  · exact ⟨⟨RX3, TX3, 19, "PennyQueue$Hour", rfl, by decide, uwX3, wd_165, Or.inl rfl, rfl, tyX3_ok, nmX3⟩, rfl⟩
theorem fg_X11_211 : ∀ ci ∈ [3], FLg RX11 211 ci 8 ∧ tI (tyC ci 8) = true := by
  intro ci hci
  simp only [List.mem_cons, List.not_mem_nil, or_false] at hci
  rcases hci with rfl
  · exact ⟨⟨RX3, TX3, 19, "PennyQueue$Hour", rfl, by decide, uwX3, wd_163, Or.inl rfl, rfl, tyX3_ok, nmX3⟩, rfl⟩
theorem fg_X11_22 : ∀ ci ∈ [11], FLg RX11 22 ci 4 ∧ tR (tyC ci 4) = true := by
  intro ci hci
  simp only [List.mem_cons, List.not_mem_nil, or_false] at hci
  rcases hci with rfl
  · exact ⟨⟨RX11, TX11, 19, "PennyQueue", rfl, by decide, uwX11, wd_239, Or.inl rfl, rfl, tyX11_ok, nmX11⟩, rfl⟩
theorem fg_X11_233 : ∀ ci ∈ [8], FLg RX11 233 ci 0 ∧ tI (tyC ci 0) = true := by
  intro ci hci
  simp only [List.mem_cons, List.not_mem_nil, or_false] at hci
  rcases hci with rfl
  · exact ⟨⟨RX8, TX8, 3, "PennyQueue$Tape", rfl, by decide, uwX8, wd_222, Or.inl rfl, rfl, tyX8_ok, nmX8⟩, rfl⟩
theorem fg_X11_240 : ∀ ci ∈ [8], FLg RX11 240 ci 2 ∧ tR (tyC ci 2) = true := by
  intro ci hci
  simp only [List.mem_cons, List.not_mem_nil, or_false] at hci
  rcases hci with rfl
  · exact ⟨⟨RX8, TX8, 3, "PennyQueue$Tape", rfl, by decide, uwX8, wd_226, Or.inl rfl, rfl, tyX8_ok, nmX8⟩, rfl⟩
theorem fg_X11_244 : ∀ ci ∈ [11], FLg RX11 244 ci 15 ∧ tI (tyC ci 15) = true := by
  intro ci hci
  simp only [List.mem_cons, List.not_mem_nil, or_false] at hci
  rcases hci with rfl
  · exact ⟨⟨RX11, TX11, 19, "PennyQueue", rfl, by decide, uwX11, wd_250, Or.inl rfl, rfl, tyX11_ok, nmX11⟩, rfl⟩
theorem fg_X11_247 : ∀ ci ∈ [11], FLg RX11 247 ci 14 ∧ tI (tyC ci 14) = true := by
  intro ci hci
  simp only [List.mem_cons, List.not_mem_nil, or_false] at hci
  rcases hci with rfl
  · exact ⟨⟨RX11, TX11, 19, "PennyQueue", rfl, by decide, uwX11, wd_249, Or.inl rfl, rfl, tyX11_ok, nmX11⟩, rfl⟩
theorem fg_X11_251 : ∀ ci ∈ [11], FLg RX11 251 ci 10 ∧ tR (tyC ci 10) = true := by
  intro ci hci
  simp only [List.mem_cons, List.not_mem_nil, or_false] at hci
  rcases hci with rfl
  · exact ⟨⟨RX11, TX11, 19, "PennyQueue", rfl, by decide, uwX11, wd_245, Or.inl rfl, rfl, tyX11_ok, nmX11⟩, rfl⟩
theorem fg_X11_254 : ∀ ci ∈ [5, 1, 2, 4, 6, 7, 9], FLg RX11 254 ci 2 ∧ tI (tyC ci 2) = true := by
  intro ci hci
  simp only [List.mem_cons, List.not_mem_nil, or_false] at hci
  rcases hci with rfl | rfl | rfl | rfl | rfl | rfl | rfl
  · exact ⟨⟨RX5, TX5, 4, "PennyQueue$Order", rfl, by decide, uwX5, wd_98, Or.inl rfl, rfl, tyX5_ok, nmX5⟩, rfl⟩
  · exact ⟨⟨RX1, TX1, 4, "PennyQueue$Order", rfl, by decide, uwX1, wd_98, Or.inl rfl, rfl, tyX1_ok, nmX1⟩, rfl⟩
  · exact ⟨⟨RX2, TX2, 4, "PennyQueue$Order", rfl, by decide, uwX2, wd_98, Or.inl rfl, rfl, tyX2_ok, nmX2⟩, rfl⟩
  · exact ⟨⟨RX4, TX4, 4, "PennyQueue$Order", rfl, by decide, uwX4, wd_98, Or.inl rfl, rfl, tyX4_ok, nmX4⟩, rfl⟩
  · exact ⟨⟨RX6, TX6, 4, "PennyQueue$Order", rfl, by decide, uwX6, wd_98, Or.inl rfl, rfl, tyX6_ok, nmX6⟩, rfl⟩
  · exact ⟨⟨RX7, TX7, 4, "PennyQueue$Order", rfl, by decide, uwX7, wd_98, Or.inl rfl, rfl, tyX7_ok, nmX7⟩, rfl⟩
  · exact ⟨⟨RX9, TX9, 5, "PennyQueue$Order", rfl, by decide, uwX9, wd_98, Or.inl rfl, rfl, tyX9_ok, nmX9⟩, rfl⟩
theorem fg_X11_266 : ∀ ci ∈ [5, 1, 2, 4, 6, 7, 9], FLg RX11 266 ci 3 ∧ tR (tyC ci 3) = true := by
  intro ci hci
  simp only [List.mem_cons, List.not_mem_nil, or_false] at hci
  rcases hci with rfl | rfl | rfl | rfl | rfl | rfl | rfl
  · exact ⟨⟨RX5, TX5, 4, "PennyQueue$Order", rfl, by decide, uwX5, wd_100, Or.inl rfl, rfl, tyX5_ok, nmX5⟩, rfl⟩
  · exact ⟨⟨RX1, TX1, 4, "PennyQueue$Order", rfl, by decide, uwX1, wd_100, Or.inl rfl, rfl, tyX1_ok, nmX1⟩, rfl⟩
  · exact ⟨⟨RX2, TX2, 4, "PennyQueue$Order", rfl, by decide, uwX2, wd_100, Or.inl rfl, rfl, tyX2_ok, nmX2⟩, rfl⟩
  · exact ⟨⟨RX4, TX4, 4, "PennyQueue$Order", rfl, by decide, uwX4, wd_100, Or.inl rfl, rfl, tyX4_ok, nmX4⟩, rfl⟩
  · exact ⟨⟨RX6, TX6, 4, "PennyQueue$Order", rfl, by decide, uwX6, wd_100, Or.inl rfl, rfl, tyX6_ok, nmX6⟩, rfl⟩
  · exact ⟨⟨RX7, TX7, 4, "PennyQueue$Order", rfl, by decide, uwX7, wd_100, Or.inl rfl, rfl, tyX7_ok, nmX7⟩, rfl⟩
  · exact ⟨⟨RX9, TX9, 5, "PennyQueue$Order", rfl, by decide, uwX9, wd_100, Or.inl rfl, rfl, tyX9_ok, nmX9⟩, rfl⟩
theorem fg_X11_27 : ∀ ci ∈ [11], FLg RX11 27 ci 5 ∧ tR (tyC ci 5) = true := by
  intro ci hci
  simp only [List.mem_cons, List.not_mem_nil, or_false] at hci
  rcases hci with rfl
  · exact ⟨⟨RX11, TX11, 19, "PennyQueue", rfl, by decide, uwX11, wd_240, Or.inl rfl, rfl, tyX11_ok, nmX11⟩, rfl⟩
theorem fg_X11_282 : ∀ ci ∈ [8], FLg RX11 282 ci 1 ∧ tI (tyC ci 1) = true := by
  intro ci hci
  simp only [List.mem_cons, List.not_mem_nil, or_false] at hci
  rcases hci with rfl
  · exact ⟨⟨RX8, TX8, 3, "PennyQueue$Tape", rfl, by decide, uwX8, wd_224, Or.inl rfl, rfl, tyX8_ok, nmX8⟩, rfl⟩
theorem fg_X11_295 : ∀ ci ∈ [0], FLg RX11 295 ci 2 ∧ tR (tyC ci 2) = true := by
  intro ci hci
  simp only [List.mem_cons, List.not_mem_nil, or_false] at hci
  rcases hci with rfl
  · exact ⟨⟨RX0, TX0, 5, "PennyQueue$Day", rfl, by decide, uwX0, wd_122, Or.inl rfl, rfl, tyX0_ok, nmX0⟩, rfl⟩
theorem fg_X11_297 : ∀ ci ∈ [0], FLg RX11 297 ci 3 ∧ tR (tyC ci 3) = true := by
  intro ci hci
  simp only [List.mem_cons, List.not_mem_nil, or_false] at hci
  rcases hci with rfl
  · exact ⟨⟨RX0, TX0, 5, "PennyQueue$Day", rfl, by decide, uwX0, wd_125, Or.inl rfl, rfl, tyX0_ok, nmX0⟩, rfl⟩
theorem fg_X11_33 : ∀ ci ∈ [11], FLg RX11 33 ci 7 ∧ tR (tyC ci 7) = true := by
  intro ci hci
  simp only [List.mem_cons, List.not_mem_nil, or_false] at hci
  rcases hci with rfl
  · exact ⟨⟨RX11, TX11, 19, "PennyQueue", rfl, by decide, uwX11, wd_242, Or.inl rfl, rfl, tyX11_ok, nmX11⟩, rfl⟩
theorem fg_X11_40 : ∀ ci ∈ [11], FLg RX11 40 ci 8 ∧ tR (tyC ci 8) = true := by
  intro ci hci
  simp only [List.mem_cons, List.not_mem_nil, or_false] at hci
  rcases hci with rfl
  · exact ⟨⟨RX11, TX11, 19, "PennyQueue", rfl, by decide, uwX11, wd_243, Or.inl rfl, rfl, tyX11_ok, nmX11⟩, rfl⟩
theorem fg_X11_47 : ∀ ci ∈ [11], FLg RX11 47 ci 11 ∧ tR (tyC ci 11) = true := by
  intro ci hci
  simp only [List.mem_cons, List.not_mem_nil, or_false] at hci
  rcases hci with rfl
  · exact ⟨⟨RX11, TX11, 19, "PennyQueue", rfl, by decide, uwX11, wd_246, Or.inl rfl, rfl, tyX11_ok, nmX11⟩, rfl⟩
theorem fg_X11_51 : ∀ ci ∈ [11], FLg RX11 51 ci 12 ∧ tR (tyC ci 12) = true := by
  intro ci hci
  simp only [List.mem_cons, List.not_mem_nil, or_false] at hci
  rcases hci with rfl
  · exact ⟨⟨RX11, TX11, 19, "PennyQueue", rfl, by decide, uwX11, wd_247, Or.inl rfl, rfl, tyX11_ok, nmX11⟩, rfl⟩
theorem fg_X11_54 : ∀ ci ∈ [11], FLg RX11 54 ci 13 ∧ tR (tyC ci 13) = true := by
  intro ci hci
  simp only [List.mem_cons, List.not_mem_nil, or_false] at hci
  rcases hci with rfl
  · exact ⟨⟨RX11, TX11, 19, "PennyQueue", rfl, by decide, uwX11, wd_248, Or.inl rfl, rfl, tyX11_ok, nmX11⟩, rfl⟩
theorem fg_X11_62 : ∀ ci ∈ [11], FLg RX11 62 ci 16 ∧ tR (tyC ci 16) = true := by
  intro ci hci
  simp only [List.mem_cons, List.not_mem_nil, or_false] at hci
  rcases hci with rfl
  · exact ⟨⟨RX11, TX11, 19, "PennyQueue", rfl, by decide, uwX11, wd_251, Or.inl rfl, rfl, tyX11_ok, nmX11⟩, rfl⟩
theorem fg_X11_66 : ∀ ci ∈ [11], FLg RX11 66 ci 17 ∧ tR (tyC ci 17) = true := by
  intro ci hci
  simp only [List.mem_cons, List.not_mem_nil, or_false] at hci
  rcases hci with rfl
  · exact ⟨⟨RX11, TX11, 19, "PennyQueue", rfl, by decide, uwX11, wd_252, Or.inl rfl, rfl, tyX11_ok, nmX11⟩, rfl⟩
theorem fg_X11_72 : ∀ ci ∈ [11], FLg RX11 72 ci 18 ∧ tR (tyC ci 18) = true := by
  intro ci hci
  simp only [List.mem_cons, List.not_mem_nil, or_false] at hci
  rcases hci with rfl
  · exact ⟨⟨RX11, TX11, 19, "PennyQueue", rfl, by decide, uwX11, wd_253, Or.inl rfl, rfl, tyX11_ok, nmX11⟩, rfl⟩
theorem fg_X11_81 : ∀ ci ∈ [11], FLg RX11 81 ci 1 ∧ tI (tyC ci 1) = true := by
  intro ci hci
  simp only [List.mem_cons, List.not_mem_nil, or_false] at hci
  rcases hci with rfl
  · exact ⟨⟨RX11, TX11, 19, "PennyQueue", rfl, by decide, uwX11, wd_236, Or.inl rfl, rfl, tyX11_ok, nmX11⟩, rfl⟩
theorem fg_X11_85 : ∀ ci ∈ [0], FLg RX11 85 ci 1 ∧ tR (tyC ci 1) = true := by
  intro ci hci
  simp only [List.mem_cons, List.not_mem_nil, or_false] at hci
  rcases hci with rfl
  · exact ⟨⟨RX0, TX0, 5, "PennyQueue$Day", rfl, by decide, uwX0, wd_119, Or.inl rfl, rfl, tyX0_ok, nmX0⟩, rfl⟩
theorem fg_X11_92 : ∀ ci ∈ [11], FLg RX11 92 ci 3 ∧ tI (tyC ci 3) = true := by
  intro ci hci
  simp only [List.mem_cons, List.not_mem_nil, or_false] at hci
  rcases hci with rfl
  · exact ⟨⟨RX11, TX11, 19, "PennyQueue", rfl, by decide, uwX11, wd_238, Or.inl rfl, rfl, tyX11_ok, nmX11⟩, rfl⟩
theorem fg_X11_95 : ∀ ci ∈ [11], FLg RX11 95 ci 6 ∧ tI (tyC ci 6) = true := by
  intro ci hci
  simp only [List.mem_cons, List.not_mem_nil, or_false] at hci
  rcases hci with rfl
  · exact ⟨⟨RX11, TX11, 19, "PennyQueue", rfl, by decide, uwX11, wd_241, Or.inl rfl, rfl, tyX11_ok, nmX11⟩, rfl⟩
theorem fg_X12_102 : ∀ ci ∈ [12], FLg RX12 102 ci 30 ∧ tR (tyC ci 30) = true := by
  intro ci hci
  simp only [List.mem_cons, List.not_mem_nil, or_false] at hci
  rcases hci with rfl
  · exact ⟨⟨RX12, TX12, 67, "PennyQueueModel", rfl, by decide, uwX12, wd_1011, Or.inl rfl, rfl, tyX12_ok, nmX12⟩, rfl⟩
theorem fg_X12_105 : ∀ ci ∈ [12], FLg RX12 105 ci 31 ∧ tI (tyC ci 31) = true := by
  intro ci hci
  simp only [List.mem_cons, List.not_mem_nil, or_false] at hci
  rcases hci with rfl
  · exact ⟨⟨RX12, TX12, 67, "PennyQueueModel", rfl, by decide, uwX12, wd_1012, Or.inl rfl, rfl, tyX12_ok, nmX12⟩, rfl⟩
theorem fg_X12_108 : ∀ ci ∈ [12], FLg RX12 108 ci 32 ∧ tI (tyC ci 32) = true := by
  intro ci hci
  simp only [List.mem_cons, List.not_mem_nil, or_false] at hci
  rcases hci with rfl
  · exact ⟨⟨RX12, TX12, 67, "PennyQueueModel", rfl, by decide, uwX12, wd_1013, Or.inl rfl, rfl, tyX12_ok, nmX12⟩, rfl⟩
theorem fg_X12_111 : ∀ ci ∈ [12], FLg RX12 111 ci 33 ∧ tI (tyC ci 33) = true := by
  intro ci hci
  simp only [List.mem_cons, List.not_mem_nil, or_false] at hci
  rcases hci with rfl
  · exact ⟨⟨RX12, TX12, 67, "PennyQueueModel", rfl, by decide, uwX12, wd_1014, Or.inl rfl, rfl, tyX12_ok, nmX12⟩, rfl⟩
theorem fg_X12_114 : ∀ ci ∈ [12], FLg RX12 114 ci 34 ∧ tI (tyC ci 34) = true := by
  intro ci hci
  simp only [List.mem_cons, List.not_mem_nil, or_false] at hci
  rcases hci with rfl
  · exact ⟨⟨RX12, TX12, 67, "PennyQueueModel", rfl, by decide, uwX12, wd_1015, Or.inl rfl, rfl, tyX12_ok, nmX12⟩, rfl⟩
theorem fg_X12_117 : ∀ ci ∈ [12], FLg RX12 117 ci 35 ∧ tI (tyC ci 35) = true := by
  intro ci hci
  simp only [List.mem_cons, List.not_mem_nil, or_false] at hci
  rcases hci with rfl
  · exact ⟨⟨RX12, TX12, 67, "PennyQueueModel", rfl, by decide, uwX12, wd_1016, Or.inl rfl, rfl, tyX12_ok, nmX12⟩, rfl⟩
theorem fg_X12_120 : ∀ ci ∈ [12], FLg RX12 120 ci 36 ∧ tI (tyC ci 36) = true := by
  intro ci hci
  simp only [List.mem_cons, List.not_mem_nil, or_false] at hci
  rcases hci with rfl
  · exact ⟨⟨RX12, TX12, 67, "PennyQueueModel", rfl, by decide, uwX12, wd_1017, Or.inl rfl, rfl, tyX12_ok, nmX12⟩, rfl⟩
theorem fg_X12_123 : ∀ ci ∈ [12], FLg RX12 123 ci 37 ∧ tI (tyC ci 37) = true := by
  intro ci hci
  simp only [List.mem_cons, List.not_mem_nil, or_false] at hci
  rcases hci with rfl
  · exact ⟨⟨RX12, TX12, 67, "PennyQueueModel", rfl, by decide, uwX12, wd_1018, Or.inl rfl, rfl, tyX12_ok, nmX12⟩, rfl⟩
theorem fg_X12_126 : ∀ ci ∈ [12], FLg RX12 126 ci 38 ∧ tI (tyC ci 38) = true := by
  intro ci hci
  simp only [List.mem_cons, List.not_mem_nil, or_false] at hci
  rcases hci with rfl
  · exact ⟨⟨RX12, TX12, 67, "PennyQueueModel", rfl, by decide, uwX12, wd_1019, Or.inl rfl, rfl, tyX12_ok, nmX12⟩, rfl⟩
theorem fg_X12_129 : ∀ ci ∈ [12], FLg RX12 129 ci 39 ∧ tI (tyC ci 39) = true := by
  intro ci hci
  simp only [List.mem_cons, List.not_mem_nil, or_false] at hci
  rcases hci with rfl
  · exact ⟨⟨RX12, TX12, 67, "PennyQueueModel", rfl, by decide, uwX12, wd_1020, Or.inl rfl, rfl, tyX12_ok, nmX12⟩, rfl⟩
theorem fg_X12_13 : ∀ ci ∈ [12], FLg RX12 13 ci 1 ∧ tI (tyC ci 1) = true := by
  intro ci hci
  simp only [List.mem_cons, List.not_mem_nil, or_false] at hci
  rcases hci with rfl
  · exact ⟨⟨RX12, TX12, 67, "PennyQueueModel", rfl, by decide, uwX12, wd_982, Or.inl rfl, rfl, tyX12_ok, nmX12⟩, rfl⟩
theorem fg_X12_132 : ∀ ci ∈ [12], FLg RX12 132 ci 40 ∧ tI (tyC ci 40) = true := by
  intro ci hci
  simp only [List.mem_cons, List.not_mem_nil, or_false] at hci
  rcases hci with rfl
  · exact ⟨⟨RX12, TX12, 67, "PennyQueueModel", rfl, by decide, uwX12, wd_1021, Or.inl rfl, rfl, tyX12_ok, nmX12⟩, rfl⟩
theorem fg_X12_135 : ∀ ci ∈ [12], FLg RX12 135 ci 41 ∧ tR (tyC ci 41) = true := by
  intro ci hci
  simp only [List.mem_cons, List.not_mem_nil, or_false] at hci
  rcases hci with rfl
  · exact ⟨⟨RX12, TX12, 67, "PennyQueueModel", rfl, by decide, uwX12, wd_1022, Or.inl rfl, rfl, tyX12_ok, nmX12⟩, rfl⟩
theorem fg_X12_138 : ∀ ci ∈ [12], FLg RX12 138 ci 42 ∧ tR (tyC ci 42) = true := by
  intro ci hci
  simp only [List.mem_cons, List.not_mem_nil, or_false] at hci
  rcases hci with rfl
  · exact ⟨⟨RX12, TX12, 67, "PennyQueueModel", rfl, by decide, uwX12, wd_1023, Or.inl rfl, rfl, tyX12_ok, nmX12⟩, rfl⟩
theorem fg_X12_141 : ∀ ci ∈ [12], FLg RX12 141 ci 43 ∧ tR (tyC ci 43) = true := by
  intro ci hci
  simp only [List.mem_cons, List.not_mem_nil, or_false] at hci
  rcases hci with rfl
  · exact ⟨⟨RX12, TX12, 67, "PennyQueueModel", rfl, by decide, uwX12, wd_1024, Or.inl rfl, rfl, tyX12_ok, nmX12⟩, rfl⟩
theorem fg_X12_144 : ∀ ci ∈ [12], FLg RX12 144 ci 44 ∧ tR (tyC ci 44) = true := by
  intro ci hci
  simp only [List.mem_cons, List.not_mem_nil, or_false] at hci
  rcases hci with rfl
  · exact ⟨⟨RX12, TX12, 67, "PennyQueueModel", rfl, by decide, uwX12, wd_1025, Or.inl rfl, rfl, tyX12_ok, nmX12⟩, rfl⟩
theorem fg_X12_147 : ∀ ci ∈ [12], FLg RX12 147 ci 45 ∧ tR (tyC ci 45) = true := by
  intro ci hci
  simp only [List.mem_cons, List.not_mem_nil, or_false] at hci
  rcases hci with rfl
  · exact ⟨⟨RX12, TX12, 67, "PennyQueueModel", rfl, by decide, uwX12, wd_1026, Or.inl rfl, rfl, tyX12_ok, nmX12⟩, rfl⟩
theorem fg_X12_150 : ∀ ci ∈ [12], FLg RX12 150 ci 46 ∧ tR (tyC ci 46) = true := by
  intro ci hci
  simp only [List.mem_cons, List.not_mem_nil, or_false] at hci
  rcases hci with rfl
  · exact ⟨⟨RX12, TX12, 67, "PennyQueueModel", rfl, by decide, uwX12, wd_1027, Or.inl rfl, rfl, tyX12_ok, nmX12⟩, rfl⟩
theorem fg_X12_153 : ∀ ci ∈ [12], FLg RX12 153 ci 47 ∧ tR (tyC ci 47) = true := by
  intro ci hci
  simp only [List.mem_cons, List.not_mem_nil, or_false] at hci
  rcases hci with rfl
  · exact ⟨⟨RX12, TX12, 67, "PennyQueueModel", rfl, by decide, uwX12, wd_1028, Or.inl rfl, rfl, tyX12_ok, nmX12⟩, rfl⟩
theorem fg_X12_156 : ∀ ci ∈ [12], FLg RX12 156 ci 48 ∧ tR (tyC ci 48) = true := by
  intro ci hci
  simp only [List.mem_cons, List.not_mem_nil, or_false] at hci
  rcases hci with rfl
  · exact ⟨⟨RX12, TX12, 67, "PennyQueueModel", rfl, by decide, uwX12, wd_1029, Or.inl rfl, rfl, tyX12_ok, nmX12⟩, rfl⟩
theorem fg_X12_159 : ∀ ci ∈ [12], FLg RX12 159 ci 49 ∧ tR (tyC ci 49) = true := by
  intro ci hci
  simp only [List.mem_cons, List.not_mem_nil, or_false] at hci
  rcases hci with rfl
  · exact ⟨⟨RX12, TX12, 67, "PennyQueueModel", rfl, by decide, uwX12, wd_1030, Or.inl rfl, rfl, tyX12_ok, nmX12⟩, rfl⟩
theorem fg_X12_16 : ∀ ci ∈ [12], FLg RX12 16 ci 2 ∧ tR (tyC ci 2) = true := by
  intro ci hci
  simp only [List.mem_cons, List.not_mem_nil, or_false] at hci
  rcases hci with rfl
  · exact ⟨⟨RX12, TX12, 67, "PennyQueueModel", rfl, by decide, uwX12, wd_983, Or.inl rfl, rfl, tyX12_ok, nmX12⟩, rfl⟩
theorem fg_X12_162 : ∀ ci ∈ [12], FLg RX12 162 ci 50 ∧ tR (tyC ci 50) = true := by
  intro ci hci
  simp only [List.mem_cons, List.not_mem_nil, or_false] at hci
  rcases hci with rfl
  · exact ⟨⟨RX12, TX12, 67, "PennyQueueModel", rfl, by decide, uwX12, wd_1031, Or.inl rfl, rfl, tyX12_ok, nmX12⟩, rfl⟩
theorem fg_X12_165 : ∀ ci ∈ [12], FLg RX12 165 ci 51 ∧ tR (tyC ci 51) = true := by
  intro ci hci
  simp only [List.mem_cons, List.not_mem_nil, or_false] at hci
  rcases hci with rfl
  · exact ⟨⟨RX12, TX12, 67, "PennyQueueModel", rfl, by decide, uwX12, wd_1032, Or.inl rfl, rfl, tyX12_ok, nmX12⟩, rfl⟩
theorem fg_X12_168 : ∀ ci ∈ [12], FLg RX12 168 ci 52 ∧ tR (tyC ci 52) = true := by
  intro ci hci
  simp only [List.mem_cons, List.not_mem_nil, or_false] at hci
  rcases hci with rfl
  · exact ⟨⟨RX12, TX12, 67, "PennyQueueModel", rfl, by decide, uwX12, wd_1033, Or.inl rfl, rfl, tyX12_ok, nmX12⟩, rfl⟩
theorem fg_X12_171 : ∀ ci ∈ [12], FLg RX12 171 ci 53 ∧ tR (tyC ci 53) = true := by
  intro ci hci
  simp only [List.mem_cons, List.not_mem_nil, or_false] at hci
  rcases hci with rfl
  · exact ⟨⟨RX12, TX12, 67, "PennyQueueModel", rfl, by decide, uwX12, wd_1034, Or.inl rfl, rfl, tyX12_ok, nmX12⟩, rfl⟩
theorem fg_X12_174 : ∀ ci ∈ [12], FLg RX12 174 ci 54 ∧ tI (tyC ci 54) = true := by
  intro ci hci
  simp only [List.mem_cons, List.not_mem_nil, or_false] at hci
  rcases hci with rfl
  · exact ⟨⟨RX12, TX12, 67, "PennyQueueModel", rfl, by decide, uwX12, wd_1035, Or.inl rfl, rfl, tyX12_ok, nmX12⟩, rfl⟩
theorem fg_X12_178 : ∀ ci ∈ [12], FLg RX12 178 ci 55 ∧ tI (tyC ci 55) = true := by
  intro ci hci
  simp only [List.mem_cons, List.not_mem_nil, or_false] at hci
  rcases hci with rfl
  · exact ⟨⟨RX12, TX12, 67, "PennyQueueModel", rfl, by decide, uwX12, wd_1036, Or.inl rfl, rfl, tyX12_ok, nmX12⟩, rfl⟩
theorem fg_X12_181 : ∀ ci ∈ [12], FLg RX12 181 ci 56 ∧ tI (tyC ci 56) = true := by
  intro ci hci
  simp only [List.mem_cons, List.not_mem_nil, or_false] at hci
  rcases hci with rfl
  · exact ⟨⟨RX12, TX12, 67, "PennyQueueModel", rfl, by decide, uwX12, wd_1037, Or.inl rfl, rfl, tyX12_ok, nmX12⟩, rfl⟩
theorem fg_X12_184 : ∀ ci ∈ [12], FLg RX12 184 ci 57 ∧ tI (tyC ci 57) = true := by
  intro ci hci
  simp only [List.mem_cons, List.not_mem_nil, or_false] at hci
  rcases hci with rfl
  · exact ⟨⟨RX12, TX12, 67, "PennyQueueModel", rfl, by decide, uwX12, wd_1038, Or.inl rfl, rfl, tyX12_ok, nmX12⟩, rfl⟩
theorem fg_X12_187 : ∀ ci ∈ [12], FLg RX12 187 ci 58 ∧ tR (tyC ci 58) = true := by
  intro ci hci
  simp only [List.mem_cons, List.not_mem_nil, or_false] at hci
  rcases hci with rfl
  · exact ⟨⟨RX12, TX12, 67, "PennyQueueModel", rfl, by decide, uwX12, wd_1039, Or.inl rfl, rfl, tyX12_ok, nmX12⟩, rfl⟩
theorem fg_X12_190 : ∀ ci ∈ [12], FLg RX12 190 ci 59 ∧ tR (tyC ci 59) = true := by
  intro ci hci
  simp only [List.mem_cons, List.not_mem_nil, or_false] at hci
  rcases hci with rfl
  · exact ⟨⟨RX12, TX12, 67, "PennyQueueModel", rfl, by decide, uwX12, wd_1040, Or.inl rfl, rfl, tyX12_ok, nmX12⟩, rfl⟩
theorem fg_X12_193 : ∀ ci ∈ [12], FLg RX12 193 ci 60 ∧ tR (tyC ci 60) = true := by
  intro ci hci
  simp only [List.mem_cons, List.not_mem_nil, or_false] at hci
  rcases hci with rfl
  · exact ⟨⟨RX12, TX12, 67, "PennyQueueModel", rfl, by decide, uwX12, wd_1041, Or.inl rfl, rfl, tyX12_ok, nmX12⟩, rfl⟩
theorem fg_X12_196 : ∀ ci ∈ [12], FLg RX12 196 ci 61 ∧ tI (tyC ci 61) = true := by
  intro ci hci
  simp only [List.mem_cons, List.not_mem_nil, or_false] at hci
  rcases hci with rfl
  · exact ⟨⟨RX12, TX12, 67, "PennyQueueModel", rfl, by decide, uwX12, wd_1042, Or.inl rfl, rfl, tyX12_ok, nmX12⟩, rfl⟩
theorem fg_X12_199 : ∀ ci ∈ [12], FLg RX12 199 ci 62 ∧ tR (tyC ci 62) = true := by
  intro ci hci
  simp only [List.mem_cons, List.not_mem_nil, or_false] at hci
  rcases hci with rfl
  · exact ⟨⟨RX12, TX12, 67, "PennyQueueModel", rfl, by decide, uwX12, wd_1043, Or.inl rfl, rfl, tyX12_ok, nmX12⟩, rfl⟩
theorem fg_X12_20 : ∀ ci ∈ [12], FLg RX12 20 ci 3 ∧ tR (tyC ci 3) = true := by
  intro ci hci
  simp only [List.mem_cons, List.not_mem_nil, or_false] at hci
  rcases hci with rfl
  · exact ⟨⟨RX12, TX12, 67, "PennyQueueModel", rfl, by decide, uwX12, wd_984, Or.inl rfl, rfl, tyX12_ok, nmX12⟩, rfl⟩
theorem fg_X12_202 : ∀ ci ∈ [12], FLg RX12 202 ci 63 ∧ tR (tyC ci 63) = true := by
  intro ci hci
  simp only [List.mem_cons, List.not_mem_nil, or_false] at hci
  rcases hci with rfl
  · exact ⟨⟨RX12, TX12, 67, "PennyQueueModel", rfl, by decide, uwX12, wd_1044, Or.inl rfl, rfl, tyX12_ok, nmX12⟩, rfl⟩
theorem fg_X12_205 : ∀ ci ∈ [12], FLg RX12 205 ci 64 ∧ tR (tyC ci 64) = true := by
  intro ci hci
  simp only [List.mem_cons, List.not_mem_nil, or_false] at hci
  rcases hci with rfl
  · exact ⟨⟨RX12, TX12, 67, "PennyQueueModel", rfl, by decide, uwX12, wd_1045, Or.inl rfl, rfl, tyX12_ok, nmX12⟩, rfl⟩
theorem fg_X12_208 : ∀ ci ∈ [12], FLg RX12 208 ci 65 ∧ tR (tyC ci 65) = true := by
  intro ci hci
  simp only [List.mem_cons, List.not_mem_nil, or_false] at hci
  rcases hci with rfl
  · exact ⟨⟨RX12, TX12, 67, "PennyQueueModel", rfl, by decide, uwX12, wd_1046, Or.inl rfl, rfl, tyX12_ok, nmX12⟩, rfl⟩
theorem fg_X12_212 : ∀ ci ∈ [12], FLg RX12 212 ci 66 ∧ tR (tyC ci 66) = true := by
  intro ci hci
  simp only [List.mem_cons, List.not_mem_nil, or_false] at hci
  rcases hci with rfl
  · exact ⟨⟨RX12, TX12, 67, "PennyQueueModel", rfl, by decide, uwX12, wd_1047, Or.inl rfl, rfl, tyX12_ok, nmX12⟩, rfl⟩
theorem fg_X12_23 : ∀ ci ∈ [12], FLg RX12 23 ci 4 ∧ tR (tyC ci 4) = true := by
  intro ci hci
  simp only [List.mem_cons, List.not_mem_nil, or_false] at hci
  rcases hci with rfl
  · exact ⟨⟨RX12, TX12, 67, "PennyQueueModel", rfl, by decide, uwX12, wd_985, Or.inl rfl, rfl, tyX12_ok, nmX12⟩, rfl⟩
theorem fg_X12_26 : ∀ ci ∈ [12], FLg RX12 26 ci 5 ∧ tR (tyC ci 5) = true := by
  intro ci hci
  simp only [List.mem_cons, List.not_mem_nil, or_false] at hci
  rcases hci with rfl
  · exact ⟨⟨RX12, TX12, 67, "PennyQueueModel", rfl, by decide, uwX12, wd_986, Or.inl rfl, rfl, tyX12_ok, nmX12⟩, rfl⟩
theorem fg_X12_29 : ∀ ci ∈ [12], FLg RX12 29 ci 6 ∧ tR (tyC ci 6) = true := by
  intro ci hci
  simp only [List.mem_cons, List.not_mem_nil, or_false] at hci
  rcases hci with rfl
  · exact ⟨⟨RX12, TX12, 67, "PennyQueueModel", rfl, by decide, uwX12, wd_987, Or.inl rfl, rfl, tyX12_ok, nmX12⟩, rfl⟩
theorem fg_X12_32 : ∀ ci ∈ [12], FLg RX12 32 ci 7 ∧ tR (tyC ci 7) = true := by
  intro ci hci
  simp only [List.mem_cons, List.not_mem_nil, or_false] at hci
  rcases hci with rfl
  · exact ⟨⟨RX12, TX12, 67, "PennyQueueModel", rfl, by decide, uwX12, wd_988, Or.inl rfl, rfl, tyX12_ok, nmX12⟩, rfl⟩
theorem fg_X12_35 : ∀ ci ∈ [12], FLg RX12 35 ci 8 ∧ tR (tyC ci 8) = true := by
  intro ci hci
  simp only [List.mem_cons, List.not_mem_nil, or_false] at hci
  rcases hci with rfl
  · exact ⟨⟨RX12, TX12, 67, "PennyQueueModel", rfl, by decide, uwX12, wd_989, Or.inl rfl, rfl, tyX12_ok, nmX12⟩, rfl⟩
theorem fg_X12_38 : ∀ ci ∈ [12], FLg RX12 38 ci 9 ∧ tI (tyC ci 9) = true := by
  intro ci hci
  simp only [List.mem_cons, List.not_mem_nil, or_false] at hci
  rcases hci with rfl
  · exact ⟨⟨RX12, TX12, 67, "PennyQueueModel", rfl, by decide, uwX12, wd_990, Or.inl rfl, rfl, tyX12_ok, nmX12⟩, rfl⟩
theorem fg_X12_41 : ∀ ci ∈ [12], FLg RX12 41 ci 10 ∧ tI (tyC ci 10) = true := by
  intro ci hci
  simp only [List.mem_cons, List.not_mem_nil, or_false] at hci
  rcases hci with rfl
  · exact ⟨⟨RX12, TX12, 67, "PennyQueueModel", rfl, by decide, uwX12, wd_991, Or.inl rfl, rfl, tyX12_ok, nmX12⟩, rfl⟩
theorem fg_X12_44 : ∀ ci ∈ [12], FLg RX12 44 ci 11 ∧ tI (tyC ci 11) = true := by
  intro ci hci
  simp only [List.mem_cons, List.not_mem_nil, or_false] at hci
  rcases hci with rfl
  · exact ⟨⟨RX12, TX12, 67, "PennyQueueModel", rfl, by decide, uwX12, wd_992, Or.inl rfl, rfl, tyX12_ok, nmX12⟩, rfl⟩
theorem fg_X12_47 : ∀ ci ∈ [12], FLg RX12 47 ci 12 ∧ tI (tyC ci 12) = true := by
  intro ci hci
  simp only [List.mem_cons, List.not_mem_nil, or_false] at hci
  rcases hci with rfl
  · exact ⟨⟨RX12, TX12, 67, "PennyQueueModel", rfl, by decide, uwX12, wd_993, Or.inl rfl, rfl, tyX12_ok, nmX12⟩, rfl⟩
theorem fg_X12_50 : ∀ ci ∈ [12], FLg RX12 50 ci 13 ∧ tI (tyC ci 13) = true := by
  intro ci hci
  simp only [List.mem_cons, List.not_mem_nil, or_false] at hci
  rcases hci with rfl
  · exact ⟨⟨RX12, TX12, 67, "PennyQueueModel", rfl, by decide, uwX12, wd_994, Or.inl rfl, rfl, tyX12_ok, nmX12⟩, rfl⟩
theorem fg_X12_53 : ∀ ci ∈ [12], FLg RX12 53 ci 14 ∧ tR (tyC ci 14) = true := by
  intro ci hci
  simp only [List.mem_cons, List.not_mem_nil, or_false] at hci
  rcases hci with rfl
  · exact ⟨⟨RX12, TX12, 67, "PennyQueueModel", rfl, by decide, uwX12, wd_995, Or.inl rfl, rfl, tyX12_ok, nmX12⟩, rfl⟩
theorem fg_X12_56 : ∀ ci ∈ [12], FLg RX12 56 ci 15 ∧ tR (tyC ci 15) = true := by
  intro ci hci
  simp only [List.mem_cons, List.not_mem_nil, or_false] at hci
  rcases hci with rfl
  · exact ⟨⟨RX12, TX12, 67, "PennyQueueModel", rfl, by decide, uwX12, wd_996, Or.inl rfl, rfl, tyX12_ok, nmX12⟩, rfl⟩
theorem fg_X12_59 : ∀ ci ∈ [12], FLg RX12 59 ci 16 ∧ tR (tyC ci 16) = true := by
  intro ci hci
  simp only [List.mem_cons, List.not_mem_nil, or_false] at hci
  rcases hci with rfl
  · exact ⟨⟨RX12, TX12, 67, "PennyQueueModel", rfl, by decide, uwX12, wd_997, Or.inl rfl, rfl, tyX12_ok, nmX12⟩, rfl⟩
theorem fg_X12_62 : ∀ ci ∈ [12], FLg RX12 62 ci 17 ∧ tR (tyC ci 17) = true := by
  intro ci hci
  simp only [List.mem_cons, List.not_mem_nil, or_false] at hci
  rcases hci with rfl
  · exact ⟨⟨RX12, TX12, 67, "PennyQueueModel", rfl, by decide, uwX12, wd_998, Or.inl rfl, rfl, tyX12_ok, nmX12⟩, rfl⟩
theorem fg_X12_65 : ∀ ci ∈ [12], FLg RX12 65 ci 18 ∧ tR (tyC ci 18) = true := by
  intro ci hci
  simp only [List.mem_cons, List.not_mem_nil, or_false] at hci
  rcases hci with rfl
  · exact ⟨⟨RX12, TX12, 67, "PennyQueueModel", rfl, by decide, uwX12, wd_999, Or.inl rfl, rfl, tyX12_ok, nmX12⟩, rfl⟩
theorem fg_X12_68 : ∀ ci ∈ [12], FLg RX12 68 ci 19 ∧ tR (tyC ci 19) = true := by
  intro ci hci
  simp only [List.mem_cons, List.not_mem_nil, or_false] at hci
  rcases hci with rfl
  · exact ⟨⟨RX12, TX12, 67, "PennyQueueModel", rfl, by decide, uwX12, wd_1000, Or.inl rfl, rfl, tyX12_ok, nmX12⟩, rfl⟩
theorem fg_X12_7 : ∀ ci ∈ [12], FLg RX12 7 ci 0 ∧ tI (tyC ci 0) = true := by
  intro ci hci
  simp only [List.mem_cons, List.not_mem_nil, or_false] at hci
  rcases hci with rfl
  · exact ⟨⟨RX12, TX12, 67, "PennyQueueModel", rfl, by decide, uwX12, wd_981, Or.inl rfl, rfl, tyX12_ok, nmX12⟩, rfl⟩
theorem fg_X12_71 : ∀ ci ∈ [12], FLg RX12 71 ci 20 ∧ tR (tyC ci 20) = true := by
  intro ci hci
  simp only [List.mem_cons, List.not_mem_nil, or_false] at hci
  rcases hci with rfl
  · exact ⟨⟨RX12, TX12, 67, "PennyQueueModel", rfl, by decide, uwX12, wd_1001, Or.inl rfl, rfl, tyX12_ok, nmX12⟩, rfl⟩
theorem fg_X12_74 : ∀ ci ∈ [12], FLg RX12 74 ci 21 ∧ tR (tyC ci 21) = true := by
  intro ci hci
  simp only [List.mem_cons, List.not_mem_nil, or_false] at hci
  rcases hci with rfl
  · exact ⟨⟨RX12, TX12, 67, "PennyQueueModel", rfl, by decide, uwX12, wd_1002, Or.inl rfl, rfl, tyX12_ok, nmX12⟩, rfl⟩
theorem fg_X12_77 : ∀ ci ∈ [12], FLg RX12 77 ci 22 ∧ tR (tyC ci 22) = true := by
  intro ci hci
  simp only [List.mem_cons, List.not_mem_nil, or_false] at hci
  rcases hci with rfl
  · exact ⟨⟨RX12, TX12, 67, "PennyQueueModel", rfl, by decide, uwX12, wd_1003, Or.inl rfl, rfl, tyX12_ok, nmX12⟩, rfl⟩
theorem fg_X12_80 : ∀ ci ∈ [12], FLg RX12 80 ci 23 ∧ tI (tyC ci 23) = true := by
  intro ci hci
  simp only [List.mem_cons, List.not_mem_nil, or_false] at hci
  rcases hci with rfl
  · exact ⟨⟨RX12, TX12, 67, "PennyQueueModel", rfl, by decide, uwX12, wd_1004, Or.inl rfl, rfl, tyX12_ok, nmX12⟩, rfl⟩
theorem fg_X12_83 : ∀ ci ∈ [12], FLg RX12 83 ci 24 ∧ tI (tyC ci 24) = true := by
  intro ci hci
  simp only [List.mem_cons, List.not_mem_nil, or_false] at hci
  rcases hci with rfl
  · exact ⟨⟨RX12, TX12, 67, "PennyQueueModel", rfl, by decide, uwX12, wd_1005, Or.inl rfl, rfl, tyX12_ok, nmX12⟩, rfl⟩
theorem fg_X12_86 : ∀ ci ∈ [12], FLg RX12 86 ci 25 ∧ tI (tyC ci 25) = true := by
  intro ci hci
  simp only [List.mem_cons, List.not_mem_nil, or_false] at hci
  rcases hci with rfl
  · exact ⟨⟨RX12, TX12, 67, "PennyQueueModel", rfl, by decide, uwX12, wd_1006, Or.inl rfl, rfl, tyX12_ok, nmX12⟩, rfl⟩
theorem fg_X12_89 : ∀ ci ∈ [12], FLg RX12 89 ci 26 ∧ tR (tyC ci 26) = true := by
  intro ci hci
  simp only [List.mem_cons, List.not_mem_nil, or_false] at hci
  rcases hci with rfl
  · exact ⟨⟨RX12, TX12, 67, "PennyQueueModel", rfl, by decide, uwX12, wd_1007, Or.inl rfl, rfl, tyX12_ok, nmX12⟩, rfl⟩
theorem fg_X12_93 : ∀ ci ∈ [12], FLg RX12 93 ci 27 ∧ tI (tyC ci 27) = true := by
  intro ci hci
  simp only [List.mem_cons, List.not_mem_nil, or_false] at hci
  rcases hci with rfl
  · exact ⟨⟨RX12, TX12, 67, "PennyQueueModel", rfl, by decide, uwX12, wd_1008, Or.inl rfl, rfl, tyX12_ok, nmX12⟩, rfl⟩
theorem fg_X12_96 : ∀ ci ∈ [12], FLg RX12 96 ci 28 ∧ tR (tyC ci 28) = true := by
  intro ci hci
  simp only [List.mem_cons, List.not_mem_nil, or_false] at hci
  rcases hci with rfl
  · exact ⟨⟨RX12, TX12, 67, "PennyQueueModel", rfl, by decide, uwX12, wd_1009, Or.inl rfl, rfl, tyX12_ok, nmX12⟩, rfl⟩
theorem fg_X12_99 : ∀ ci ∈ [12], FLg RX12 99 ci 29 ∧ tR (tyC ci 29) = true := by
  intro ci hci
  simp only [List.mem_cons, List.not_mem_nil, or_false] at hci
  rcases hci with rfl
  · exact ⟨⟨RX12, TX12, 67, "PennyQueueModel", rfl, by decide, uwX12, wd_1010, Or.inl rfl, rfl, tyX12_ok, nmX12⟩, rfl⟩
theorem fg_X2_7 : ∀ ci ∈ [2], FLg RX2 7 ci 1 ∧ tI (tyC ci 1) = true := by
  intro ci hci
  simp only [List.mem_cons, List.not_mem_nil, or_false] at hci
  rcases hci with rfl
  · exact ⟨⟨RX2, TX2, 4, "PennyQueue$Full", rfl, by decide, uwX2, wd_91, Or.inr wd_92, rfl, tyX2_ok, nmX2⟩, rfl⟩
theorem fg_X3_100 : ∀ ci ∈ [0], FLg RX3 100 ci 4 ∧ tI (tyC ci 4) = true := by
  intro ci hci
  simp only [List.mem_cons, List.not_mem_nil, or_false] at hci
  rcases hci with rfl
  · exact ⟨⟨RX0, TX0, 5, "PennyQueue$Day", rfl, by decide, uwX0, wd_127, Or.inl rfl, rfl, tyX0_ok, nmX0⟩, rfl⟩
theorem fg_X3_105 : ∀ ci ∈ [0], FLg RX3 105 ci 3 ∧ tR (tyC ci 3) = true := by
  intro ci hci
  simp only [List.mem_cons, List.not_mem_nil, or_false] at hci
  rcases hci with rfl
  · exact ⟨⟨RX0, TX0, 5, "PennyQueue$Day", rfl, by decide, uwX0, wd_124, Or.inl rfl, rfl, tyX0_ok, nmX0⟩, rfl⟩
theorem fg_X3_112 : ∀ ci ∈ [0], FLg RX3 112 ci 2 ∧ tR (tyC ci 2) = true := by
  intro ci hci
  simp only [List.mem_cons, List.not_mem_nil, or_false] at hci
  rcases hci with rfl
  · exact ⟨⟨RX0, TX0, 5, "PennyQueue$Day", rfl, by decide, uwX0, wd_121, Or.inl rfl, rfl, tyX0_ok, nmX0⟩, rfl⟩
theorem fg_X3_123 : ∀ ci ∈ [10], FLg RX3 123 ci 2 ∧ tI (tyC ci 2) = true := by
  intro ci hci
  simp only [List.mem_cons, List.not_mem_nil, or_false] at hci
  rcases hci with rfl
  · exact ⟨⟨RX10, TX10, 11, "PennyQueue$Window", rfl, by decide, uwX10, wd_43, Or.inl rfl, rfl, tyX10_ok, nmX10⟩, rfl⟩
theorem fg_X3_15 : ∀ ci ∈ [3], FLg RX3 15 ci 1 ∧ tR (tyC ci 1) = true := by
  intro ci hci
  simp only [List.mem_cons, List.not_mem_nil, or_false] at hci
  rcases hci with rfl
  · exact ⟨⟨RX3, TX3, 19, "PennyQueue$Hour", rfl, by decide, uwX3, wd_148, Or.inl rfl, rfl, tyX3_ok, nmX3⟩, rfl⟩
theorem fg_X3_18 : ∀ ci ∈ [3], FLg RX3 18 ci 2 ∧ tR (tyC ci 2) = true := by
  intro ci hci
  simp only [List.mem_cons, List.not_mem_nil, or_false] at hci
  rcases hci with rfl
  · exact ⟨⟨RX3, TX3, 19, "PennyQueue$Hour", rfl, by decide, uwX3, wd_150, Or.inl rfl, rfl, tyX3_ok, nmX3⟩, rfl⟩
theorem fg_X3_21 : ∀ ci ∈ [3], FLg RX3 21 ci 3 ∧ tR (tyC ci 3) = true := by
  intro ci hci
  simp only [List.mem_cons, List.not_mem_nil, or_false] at hci
  rcases hci with rfl
  · exact ⟨⟨RX3, TX3, 19, "PennyQueue$Hour", rfl, by decide, uwX3, wd_152, Or.inl rfl, rfl, tyX3_ok, nmX3⟩, rfl⟩
theorem fg_X3_24 : ∀ ci ∈ [3], FLg RX3 24 ci 4 ∧ tR (tyC ci 4) = true := by
  intro ci hci
  simp only [List.mem_cons, List.not_mem_nil, or_false] at hci
  rcases hci with rfl
  · exact ⟨⟨RX3, TX3, 19, "PennyQueue$Hour", rfl, by decide, uwX3, wd_154, Or.inl rfl, rfl, tyX3_ok, nmX3⟩, rfl⟩
theorem fg_X3_27 : ∀ ci ∈ [3], FLg RX3 27 ci 5 ∧ tR (tyC ci 5) = true := by
  intro ci hci
  simp only [List.mem_cons, List.not_mem_nil, or_false] at hci
  rcases hci with rfl
  · exact ⟨⟨RX3, TX3, 19, "PennyQueue$Hour", rfl, by decide, uwX3, wd_156, Or.inl rfl, rfl, tyX3_ok, nmX3⟩, rfl⟩
theorem fg_X3_30 : ∀ ci ∈ [3], FLg RX3 30 ci 16 ∧ tR (tyC ci 16) = true := by
  intro ci hci
  simp only [List.mem_cons, List.not_mem_nil, or_false] at hci
  rcases hci with rfl
  · exact ⟨⟨RX3, TX3, 19, "PennyQueue$Hour", rfl, by decide, uwX3, wd_172, Or.inl rfl, rfl, tyX3_ok, nmX3⟩, rfl⟩
theorem fg_X3_33 : ∀ ci ∈ [3], FLg RX3 33 ci 17 ∧ tR (tyC ci 17) = true := by
  intro ci hci
  simp only [List.mem_cons, List.not_mem_nil, or_false] at hci
  rcases hci with rfl
  · exact ⟨⟨RX3, TX3, 19, "PennyQueue$Hour", rfl, by decide, uwX3, wd_173, Or.inl rfl, rfl, tyX3_ok, nmX3⟩, rfl⟩
theorem fg_X3_36 : ∀ ci ∈ [3], FLg RX3 36 ci 10 ∧ tR (tyC ci 10) = true := by
  intro ci hci
  simp only [List.mem_cons, List.not_mem_nil, or_false] at hci
  rcases hci with rfl
  · exact ⟨⟨RX3, TX3, 19, "PennyQueue$Hour", rfl, by decide, uwX3, wd_166, Or.inl rfl, rfl, tyX3_ok, nmX3⟩, rfl⟩
theorem fg_X3_44 : ∀ ci ∈ [3], FLg RX3 44 ci 15 ∧ tI (tyC ci 15) = true := by
  intro ci hci
  simp only [List.mem_cons, List.not_mem_nil, or_false] at hci
  rcases hci with rfl
  · exact ⟨⟨RX3, TX3, 19, "PennyQueue$Hour", rfl, by decide, uwX3, wd_171, Or.inl rfl, rfl, tyX3_ok, nmX3⟩, rfl⟩
theorem fg_X3_59 : ∀ ci ∈ [3], FLg RX3 59 ci 9 ∧ tI (tyC ci 9) = true := by
  intro ci hci
  simp only [List.mem_cons, List.not_mem_nil, or_false] at hci
  rcases hci with rfl
  · exact ⟨⟨RX3, TX3, 19, "PennyQueue$Hour", rfl, by decide, uwX3, wd_164, Or.inl rfl, rfl, tyX3_ok, nmX3⟩, rfl⟩
theorem fg_X3_68 : ∀ ci ∈ [3], FLg RX3 68 ci 11 ∧ tR (tyC ci 11) = true := by
  intro ci hci
  simp only [List.mem_cons, List.not_mem_nil, or_false] at hci
  rcases hci with rfl
  · exact ⟨⟨RX3, TX3, 19, "PennyQueue$Hour", rfl, by decide, uwX3, wd_167, Or.inl rfl, rfl, tyX3_ok, nmX3⟩, rfl⟩
theorem fg_X3_72 : ∀ ci ∈ [3], FLg RX3 72 ci 12 ∧ tR (tyC ci 12) = true := by
  intro ci hci
  simp only [List.mem_cons, List.not_mem_nil, or_false] at hci
  rcases hci with rfl
  · exact ⟨⟨RX3, TX3, 19, "PennyQueue$Hour", rfl, by decide, uwX3, wd_168, Or.inl rfl, rfl, tyX3_ok, nmX3⟩, rfl⟩
theorem fg_X3_76 : ∀ ci ∈ [3], FLg RX3 76 ci 13 ∧ tI (tyC ci 13) = true := by
  intro ci hci
  simp only [List.mem_cons, List.not_mem_nil, or_false] at hci
  rcases hci with rfl
  · exact ⟨⟨RX3, TX3, 19, "PennyQueue$Hour", rfl, by decide, uwX3, wd_169, Or.inl rfl, rfl, tyX3_ok, nmX3⟩, rfl⟩
theorem fg_X3_79 : ∀ ci ∈ [3], FLg RX3 79 ci 14 ∧ tI (tyC ci 14) = true := by
  intro ci hci
  simp only [List.mem_cons, List.not_mem_nil, or_false] at hci
  rcases hci with rfl
  · exact ⟨⟨RX3, TX3, 19, "PennyQueue$Hour", rfl, by decide, uwX3, wd_170, Or.inl rfl, rfl, tyX3_ok, nmX3⟩, rfl⟩
theorem fg_X3_82 : ∀ ci ∈ [3], FLg RX3 82 ci 6 ∧ tI (tyC ci 6) = true := by
  intro ci hci
  simp only [List.mem_cons, List.not_mem_nil, or_false] at hci
  rcases hci with rfl
  · exact ⟨⟨RX3, TX3, 19, "PennyQueue$Hour", rfl, by decide, uwX3, wd_158, Or.inl rfl, rfl, tyX3_ok, nmX3⟩, rfl⟩
theorem fg_X3_85 : ∀ ci ∈ [3], FLg RX3 85 ci 7 ∧ tI (tyC ci 7) = true := by
  intro ci hci
  simp only [List.mem_cons, List.not_mem_nil, or_false] at hci
  rcases hci with rfl
  · exact ⟨⟨RX3, TX3, 19, "PennyQueue$Hour", rfl, by decide, uwX3, wd_160, Or.inl rfl, rfl, tyX3_ok, nmX3⟩, rfl⟩
theorem fg_X3_9 : ∀ ci ∈ [3], FLg RX3 9 ci 0 ∧ tR (tyC ci 0) = true := by
  intro ci hci
  simp only [List.mem_cons, List.not_mem_nil, or_false] at hci
  rcases hci with rfl
  · exact ⟨⟨RX3, TX3, 19, "PennyQueue$Hour", rfl, by decide, uwX3, wd_146, Or.inl rfl, rfl, tyX3_ok, nmX3⟩, rfl⟩
theorem fg_X3_91 : ∀ ci ∈ [3], FLg RX3 91 ci 18 ∧ tI (tyC ci 18) = true := by
  intro ci hci
  simp only [List.mem_cons, List.not_mem_nil, or_false] at hci
  rcases hci with rfl
  · exact ⟨⟨RX3, TX3, 19, "PennyQueue$Hour", rfl, by decide, uwX3, wd_174, Or.inl rfl, rfl, tyX3_ok, nmX3⟩, rfl⟩
theorem fg_X4_7 : ∀ ci ∈ [4], FLg RX4 7 ci 1 ∧ tI (tyC ci 1) = true := by
  intro ci hci
  simp only [List.mem_cons, List.not_mem_nil, or_false] at hci
  rcases hci with rfl
  · exact ⟨⟨RX4, TX4, 4, "PennyQueue$Length", rfl, by decide, uwX4, wd_89, Or.inr wd_90, rfl, tyX4_ok, nmX4⟩, rfl⟩
theorem fg_X5_13 : ∀ ci ∈ [5, 1, 2, 4, 6, 7, 9], FLg RX5 13 ci 0 ∧ tI (tyC ci 0) = true := by
  intro ci hci
  simp only [List.mem_cons, List.not_mem_nil, or_false] at hci
  rcases hci with rfl | rfl | rfl | rfl | rfl | rfl | rfl
  · exact ⟨⟨RX5, TX5, 4, "PennyQueue$Order", rfl, by decide, uwX5, wd_85, Or.inl rfl, rfl, tyX5_ok, nmX5⟩, rfl⟩
  · exact ⟨⟨RX1, TX1, 4, "PennyQueue$Order", rfl, by decide, uwX1, wd_85, Or.inl rfl, rfl, tyX1_ok, nmX1⟩, rfl⟩
  · exact ⟨⟨RX2, TX2, 4, "PennyQueue$Order", rfl, by decide, uwX2, wd_85, Or.inl rfl, rfl, tyX2_ok, nmX2⟩, rfl⟩
  · exact ⟨⟨RX4, TX4, 4, "PennyQueue$Order", rfl, by decide, uwX4, wd_85, Or.inl rfl, rfl, tyX4_ok, nmX4⟩, rfl⟩
  · exact ⟨⟨RX6, TX6, 4, "PennyQueue$Order", rfl, by decide, uwX6, wd_85, Or.inl rfl, rfl, tyX6_ok, nmX6⟩, rfl⟩
  · exact ⟨⟨RX7, TX7, 4, "PennyQueue$Order", rfl, by decide, uwX7, wd_85, Or.inl rfl, rfl, tyX7_ok, nmX7⟩, rfl⟩
  · exact ⟨⟨RX9, TX9, 5, "PennyQueue$Order", rfl, by decide, uwX9, wd_85, Or.inl rfl, rfl, tyX9_ok, nmX9⟩, rfl⟩
theorem fg_X5_17 : ∀ ci ∈ [5, 1, 2, 4, 6, 7, 9], FLg RX5 17 ci 1 ∧ tI (tyC ci 1) = true := by
  intro ci hci
  simp only [List.mem_cons, List.not_mem_nil, or_false] at hci
  rcases hci with rfl | rfl | rfl | rfl | rfl | rfl | rfl
  · exact ⟨⟨RX5, TX5, 4, "PennyQueue$Order", rfl, by decide, uwX5, wd_88, Or.inl rfl, rfl, tyX5_ok, nmX5⟩, rfl⟩
  · exact ⟨⟨RX1, TX1, 4, "PennyQueue$Order", rfl, by decide, uwX1, wd_88, Or.inl rfl, rfl, tyX1_ok, nmX1⟩, rfl⟩
  · exact ⟨⟨RX2, TX2, 4, "PennyQueue$Order", rfl, by decide, uwX2, wd_88, Or.inl rfl, rfl, tyX2_ok, nmX2⟩, rfl⟩
  · exact ⟨⟨RX4, TX4, 4, "PennyQueue$Order", rfl, by decide, uwX4, wd_88, Or.inl rfl, rfl, tyX4_ok, nmX4⟩, rfl⟩
  · exact ⟨⟨RX6, TX6, 4, "PennyQueue$Order", rfl, by decide, uwX6, wd_88, Or.inl rfl, rfl, tyX6_ok, nmX6⟩, rfl⟩
  · exact ⟨⟨RX7, TX7, 4, "PennyQueue$Order", rfl, by decide, uwX7, wd_88, Or.inl rfl, rfl, tyX7_ok, nmX7⟩, rfl⟩
  · exact ⟨⟨RX9, TX9, 5, "PennyQueue$Order", rfl, by decide, uwX9, wd_88, Or.inl rfl, rfl, tyX9_ok, nmX9⟩, rfl⟩
theorem fg_X5_29 : ∀ ci ∈ [5, 1, 2, 4, 6, 7, 9], FLg RX5 29 ci 2 ∧ tI (tyC ci 2) = true := by
  intro ci hci
  simp only [List.mem_cons, List.not_mem_nil, or_false] at hci
  rcases hci with rfl | rfl | rfl | rfl | rfl | rfl | rfl
  · exact ⟨⟨RX5, TX5, 4, "PennyQueue$Order", rfl, by decide, uwX5, wd_97, Or.inl rfl, rfl, tyX5_ok, nmX5⟩, rfl⟩
  · exact ⟨⟨RX1, TX1, 4, "PennyQueue$Order", rfl, by decide, uwX1, wd_97, Or.inl rfl, rfl, tyX1_ok, nmX1⟩, rfl⟩
  · exact ⟨⟨RX2, TX2, 4, "PennyQueue$Order", rfl, by decide, uwX2, wd_97, Or.inl rfl, rfl, tyX2_ok, nmX2⟩, rfl⟩
  · exact ⟨⟨RX4, TX4, 4, "PennyQueue$Order", rfl, by decide, uwX4, wd_97, Or.inl rfl, rfl, tyX4_ok, nmX4⟩, rfl⟩
  · exact ⟨⟨RX6, TX6, 4, "PennyQueue$Order", rfl, by decide, uwX6, wd_97, Or.inl rfl, rfl, tyX6_ok, nmX6⟩, rfl⟩
  · exact ⟨⟨RX7, TX7, 4, "PennyQueue$Order", rfl, by decide, uwX7, wd_97, Or.inl rfl, rfl, tyX7_ok, nmX7⟩, rfl⟩
  · exact ⟨⟨RX9, TX9, 5, "PennyQueue$Order", rfl, by decide, uwX9, wd_97, Or.inl rfl, rfl, tyX9_ok, nmX9⟩, rfl⟩
theorem fg_X5_9 : ∀ ci ∈ [5, 1, 2, 4, 6, 7, 9], FLg RX5 9 ci 3 ∧ tR (tyC ci 3) = true := by
  intro ci hci
  simp only [List.mem_cons, List.not_mem_nil, or_false] at hci
  rcases hci with rfl | rfl | rfl | rfl | rfl | rfl | rfl
  · exact ⟨⟨RX5, TX5, 4, "PennyQueue$Order", rfl, by decide, uwX5, wd_99, Or.inl rfl, rfl, tyX5_ok, nmX5⟩, rfl⟩
  · exact ⟨⟨RX1, TX1, 4, "PennyQueue$Order", rfl, by decide, uwX1, wd_99, Or.inl rfl, rfl, tyX1_ok, nmX1⟩, rfl⟩
  · exact ⟨⟨RX2, TX2, 4, "PennyQueue$Order", rfl, by decide, uwX2, wd_99, Or.inl rfl, rfl, tyX2_ok, nmX2⟩, rfl⟩
  · exact ⟨⟨RX4, TX4, 4, "PennyQueue$Order", rfl, by decide, uwX4, wd_99, Or.inl rfl, rfl, tyX4_ok, nmX4⟩, rfl⟩
  · exact ⟨⟨RX6, TX6, 4, "PennyQueue$Order", rfl, by decide, uwX6, wd_99, Or.inl rfl, rfl, tyX6_ok, nmX6⟩, rfl⟩
  · exact ⟨⟨RX7, TX7, 4, "PennyQueue$Order", rfl, by decide, uwX7, wd_99, Or.inl rfl, rfl, tyX7_ok, nmX7⟩, rfl⟩
  · exact ⟨⟨RX9, TX9, 5, "PennyQueue$Order", rfl, by decide, uwX9, wd_99, Or.inl rfl, rfl, tyX9_ok, nmX9⟩, rfl⟩
theorem fg_X6_13 : ∀ ci ∈ [6], FLg RX6 13 ci 0 ∧ tI (tyC ci 0) = true := by
  intro ci hci
  simp only [List.mem_cons, List.not_mem_nil, or_false] at hci
  rcases hci with rfl
  · exact ⟨⟨RX6, TX6, 4, "PennyQueue$Poor", rfl, by decide, uwX6, wd_86, Or.inr wd_87, rfl, tyX6_ok, nmX6⟩, rfl⟩
theorem fg_X7_7 : ∀ ci ∈ [7, 6], FLg RX7 7 ci 1 ∧ tI (tyC ci 1) = true := by
  intro ci hci
  simp only [List.mem_cons, List.not_mem_nil, or_false] at hci
  rcases hci with rfl | rfl
  · exact ⟨⟨RX7, TX7, 4, "PennyQueue$Share", rfl, by decide, uwX7, wd_93, Or.inr wd_94, rfl, tyX7_ok, nmX7⟩, rfl⟩
  · exact ⟨⟨RX6, TX6, 4, "PennyQueue$Share", rfl, by decide, uwX6, wd_93, Or.inr wd_94, rfl, tyX6_ok, nmX6⟩, rfl⟩
theorem fg_X8_11 : ∀ ci ∈ [8], FLg RX8 11 ci 0 ∧ tI (tyC ci 0) = true := by
  intro ci hci
  simp only [List.mem_cons, List.not_mem_nil, or_false] at hci
  rcases hci with rfl
  · exact ⟨⟨RX8, TX8, 3, "PennyQueue$Tape", rfl, by decide, uwX8, wd_221, Or.inl rfl, rfl, tyX8_ok, nmX8⟩, rfl⟩
theorem fg_X8_15 : ∀ ci ∈ [8], FLg RX8 15 ci 2 ∧ tR (tyC ci 2) = true := by
  intro ci hci
  simp only [List.mem_cons, List.not_mem_nil, or_false] at hci
  rcases hci with rfl
  · exact ⟨⟨RX8, TX8, 3, "PennyQueue$Tape", rfl, by decide, uwX8, wd_225, Or.inl rfl, rfl, tyX8_ok, nmX8⟩, rfl⟩
theorem fg_X8_19 : ∀ ci ∈ [8], FLg RX8 19 ci 1 ∧ tI (tyC ci 1) = true := by
  intro ci hci
  simp only [List.mem_cons, List.not_mem_nil, or_false] at hci
  rcases hci with rfl
  · exact ⟨⟨RX8, TX8, 3, "PennyQueue$Tape", rfl, by decide, uwX8, wd_223, Or.inl rfl, rfl, tyX8_ok, nmX8⟩, rfl⟩
theorem fg_X9_30 : ∀ ci ∈ [9], FLg RX9 30 ci 1 ∧ tI (tyC ci 1) = true := by
  intro ci hci
  simp only [List.mem_cons, List.not_mem_nil, or_false] at hci
  rcases hci with rfl
  · exact ⟨⟨RX9, TX9, 5, "PennyQueue$Told", rfl, by decide, uwX9, wd_95, Or.inr wd_96, rfl, tyX9_ok, nmX9⟩, rfl⟩
theorem fg_X9_9 : ∀ ci ∈ [9], FLg RX9 9 ci 4 ∧ tR (tyC ci 4) = true := by
  intro ci hci
  simp only [List.mem_cons, List.not_mem_nil, or_false] at hci
  rcases hci with rfl
  · exact ⟨⟨RX9, TX9, 5, "PennyQueue$Told", rfl, by decide, uwX9, wd_525, Or.inl rfl, rfl, tyX9_ok, nmX9⟩, rfl⟩
theorem fp_X0_15 : ∀ ci ∈ [0], FL RX0 15 ci 1 true ∧ tR (tyC ci 1) = true := by
  intro ci hci
  simp only [List.mem_cons, List.not_mem_nil, or_false] at hci
  rcases hci with rfl
  · exact ⟨⟨RX0, TX0, 5, "PennyQueue$Day", rfl, by decide, uwX0, wd_118, Or.inl rfl, rfl, tyX0_ok, nmX0, rfl, (fun _ => rfl)⟩, rfl⟩
theorem fp_X0_19 : ∀ ci ∈ [0], FL RX0 19 ci 2 true ∧ tR (tyC ci 2) = true := by
  intro ci hci
  simp only [List.mem_cons, List.not_mem_nil, or_false] at hci
  rcases hci with rfl
  · exact ⟨⟨RX0, TX0, 5, "PennyQueue$Day", rfl, by decide, uwX0, wd_120, Or.inl rfl, rfl, tyX0_ok, nmX0, rfl, (fun _ => rfl)⟩, rfl⟩
theorem fp_X0_22 : ∀ ci ∈ [0], FL RX0 22 ci 3 true ∧ tR (tyC ci 3) = true := by
  intro ci hci
  simp only [List.mem_cons, List.not_mem_nil, or_false] at hci
  rcases hci with rfl
  · exact ⟨⟨RX0, TX0, 5, "PennyQueue$Day", rfl, by decide, uwX0, wd_123, Or.inl rfl, rfl, tyX0_ok, nmX0, rfl, (fun _ => rfl)⟩, rfl⟩
theorem fp_X0_25 : ∀ ci ∈ [0], FL RX0 25 ci 4 false ∧ tyC ci 4 = .int := by
  intro ci hci
  simp only [List.mem_cons, List.not_mem_nil, or_false] at hci
  rcases hci with rfl
  · exact ⟨⟨RX0, TX0, 5, "PennyQueue$Day", rfl, by decide, uwX0, wd_126, Or.inl rfl, rfl, tyX0_ok, nmX0, rfl, (fun z => by cases z)⟩, rfl⟩
theorem fp_X0_9 : ∀ ci ∈ [0], FL RX0 9 ci 0 false ∧ tyC ci 0 = .int := by
  intro ci hci
  simp only [List.mem_cons, List.not_mem_nil, or_false] at hci
  rcases hci with rfl
  · exact ⟨⟨RX0, TX0, 5, "PennyQueue$Day", rfl, by decide, uwX0, wd_116, Or.inl rfl, rfl, tyX0_ok, nmX0, rfl, (fun z => by cases z)⟩, rfl⟩
theorem fp_X10_11 : ∀ ci ∈ [10], FL RX10 11 ci 2 false ∧ tyC ci 2 = .int := by
  intro ci hci
  simp only [List.mem_cons, List.not_mem_nil, or_false] at hci
  rcases hci with rfl
  · exact ⟨⟨RX10, TX10, 11, "PennyQueue$Window", rfl, by decide, uwX10, wd_42, Or.inl rfl, rfl, tyX10_ok, nmX10, rfl, (fun z => by cases z)⟩, rfl⟩
theorem fp_X10_15 : ∀ ci ∈ [10], FL RX10 15 ci 4 true ∧ tR (tyC ci 4) = true := by
  intro ci hci
  simp only [List.mem_cons, List.not_mem_nil, or_false] at hci
  rcases hci with rfl
  · exact ⟨⟨RX10, TX10, 11, "PennyQueue$Window", rfl, by decide, uwX10, wd_46, Or.inl rfl, rfl, tyX10_ok, nmX10, rfl, (fun _ => rfl)⟩, rfl⟩
theorem fp_X10_19 : ∀ ci ∈ [10], FL RX10 19 ci 5 true ∧ tR (tyC ci 5) = true := by
  intro ci hci
  simp only [List.mem_cons, List.not_mem_nil, or_false] at hci
  rcases hci with rfl
  · exact ⟨⟨RX10, TX10, 11, "PennyQueue$Window", rfl, by decide, uwX10, wd_47, Or.inl rfl, rfl, tyX10_ok, nmX10, rfl, (fun _ => rfl)⟩, rfl⟩
theorem fp_X10_22 : ∀ ci ∈ [10], FL RX10 22 ci 6 true ∧ tR (tyC ci 6) = true := by
  intro ci hci
  simp only [List.mem_cons, List.not_mem_nil, or_false] at hci
  rcases hci with rfl
  · exact ⟨⟨RX10, TX10, 11, "PennyQueue$Window", rfl, by decide, uwX10, wd_48, Or.inl rfl, rfl, tyX10_ok, nmX10, rfl, (fun _ => rfl)⟩, rfl⟩
theorem fp_X10_25 : ∀ ci ∈ [10], FL RX10 25 ci 0 false ∧ tyC ci 0 = .int := by
  intro ci hci
  simp only [List.mem_cons, List.not_mem_nil, or_false] at hci
  rcases hci with rfl
  · exact ⟨⟨RX10, TX10, 11, "PennyQueue$Window", rfl, by decide, uwX10, wd_38, Or.inl rfl, rfl, tyX10_ok, nmX10, rfl, (fun z => by cases z)⟩, rfl⟩
theorem fp_X10_28 : ∀ ci ∈ [10], FL RX10 28 ci 1 false ∧ tyC ci 1 = .int := by
  intro ci hci
  simp only [List.mem_cons, List.not_mem_nil, or_false] at hci
  rcases hci with rfl
  · exact ⟨⟨RX10, TX10, 11, "PennyQueue$Window", rfl, by decide, uwX10, wd_40, Or.inl rfl, rfl, tyX10_ok, nmX10, rfl, (fun z => by cases z)⟩, rfl⟩
theorem fp_X10_31 : ∀ ci ∈ [10], FL RX10 31 ci 3 false ∧ tyC ci 3 = .int := by
  intro ci hci
  simp only [List.mem_cons, List.not_mem_nil, or_false] at hci
  rcases hci with rfl
  · exact ⟨⟨RX10, TX10, 11, "PennyQueue$Window", rfl, by decide, uwX10, wd_45, Or.inl rfl, rfl, tyX10_ok, nmX10, rfl, (fun z => by cases z)⟩, rfl⟩
theorem fp_X10_34 : ∀ ci ∈ [10], FL RX10 34 ci 7 false ∧ tyC ci 7 = .int := by
  intro ci hci
  simp only [List.mem_cons, List.not_mem_nil, or_false] at hci
  rcases hci with rfl
  · exact ⟨⟨RX10, TX10, 11, "PennyQueue$Window", rfl, by decide, uwX10, wd_49, Or.inl rfl, rfl, tyX10_ok, nmX10, rfl, (fun z => by cases z)⟩, rfl⟩
theorem fp_X10_37 : ∀ ci ∈ [10], FL RX10 37 ci 8 false ∧ tR (tyC ci 8) = true := by
  intro ci hci
  simp only [List.mem_cons, List.not_mem_nil, or_false] at hci
  rcases hci with rfl
  · exact ⟨⟨RX10, TX10, 11, "PennyQueue$Window", rfl, by decide, uwX10, wd_50, Or.inl rfl, rfl, tyX10_ok, nmX10, rfl, (fun z => by cases z)⟩, rfl⟩
theorem fp_X10_41 : ∀ ci ∈ [10], FL RX10 41 ci 9 false ∧ tyC ci 9 = .int := by
  intro ci hci
  simp only [List.mem_cons, List.not_mem_nil, or_false] at hci
  rcases hci with rfl
  · exact ⟨⟨RX10, TX10, 11, "PennyQueue$Window", rfl, by decide, uwX10, wd_51, Or.inl rfl, rfl, tyX10_ok, nmX10, rfl, (fun z => by cases z)⟩, rfl⟩
theorem fp_X10_44 : ∀ ci ∈ [10], FL RX10 44 ci 10 false ∧ tyC ci 10 = .int := by
  intro ci hci
  simp only [List.mem_cons, List.not_mem_nil, or_false] at hci
  rcases hci with rfl
  · exact ⟨⟨RX10, TX10, 11, "PennyQueue$Window", rfl, by decide, uwX10, wd_52, Or.inl rfl, rfl, tyX10_ok, nmX10, rfl, (fun z => by cases z)⟩, rfl⟩
theorem fp_X11_102 : ∀ ci ∈ [0], FL RX11 102 ci 0 false ∧ tyC ci 0 = .int := by
  intro ci hci
  simp only [List.mem_cons, List.not_mem_nil, or_false] at hci
  rcases hci with rfl
  · exact ⟨⟨RX0, TX0, 5, "PennyQueue$Day", rfl, by decide, uwX0, wd_117, Or.inl rfl, rfl, tyX0_ok, nmX0, rfl, (fun z => by cases z)⟩, rfl⟩
theorem fp_X11_118 : ∀ ci ∈ [0], FL RX11 118 ci 4 false ∧ tyC ci 4 = .int := by
  intro ci hci
  simp only [List.mem_cons, List.not_mem_nil, or_false] at hci
  rcases hci with rfl
  · exact ⟨⟨RX0, TX0, 5, "PennyQueue$Day", rfl, by decide, uwX0, wd_128, Or.inl rfl, rfl, tyX0_ok, nmX0, rfl, (fun z => by cases z)⟩, rfl⟩
theorem fp_X11_124 : ∀ ci ∈ [11], FL RX11 124 ci 9 false ∧ tyC ci 9 = .int := by
  intro ci hci
  simp only [List.mem_cons, List.not_mem_nil, or_false] at hci
  rcases hci with rfl
  · exact ⟨⟨RX11, TX11, 19, "PennyQueue", rfl, by decide, uwX11, wd_244, Or.inl rfl, rfl, tyX11_ok, nmX11, rfl, (fun z => by cases z)⟩, rfl⟩
theorem fp_X11_13 : ∀ ci ∈ [11], FL RX11 13 ci 0 true ∧ tR (tyC ci 0) = true := by
  intro ci hci
  simp only [List.mem_cons, List.not_mem_nil, or_false] at hci
  rcases hci with rfl
  · exact ⟨⟨RX11, TX11, 19, "PennyQueue", rfl, by decide, uwX11, wd_235, Or.inl rfl, rfl, tyX11_ok, nmX11, rfl, (fun _ => rfl)⟩, rfl⟩
theorem fp_X11_16 : ∀ ci ∈ [11], FL RX11 16 ci 2 true ∧ tR (tyC ci 2) = true := by
  intro ci hci
  simp only [List.mem_cons, List.not_mem_nil, or_false] at hci
  rcases hci with rfl
  · exact ⟨⟨RX11, TX11, 19, "PennyQueue", rfl, by decide, uwX11, wd_237, Or.inl rfl, rfl, tyX11_ok, nmX11, rfl, (fun _ => rfl)⟩, rfl⟩
theorem fp_X11_22 : ∀ ci ∈ [11], FL RX11 22 ci 4 true ∧ tR (tyC ci 4) = true := by
  intro ci hci
  simp only [List.mem_cons, List.not_mem_nil, or_false] at hci
  rcases hci with rfl
  · exact ⟨⟨RX11, TX11, 19, "PennyQueue", rfl, by decide, uwX11, wd_239, Or.inl rfl, rfl, tyX11_ok, nmX11, rfl, (fun _ => rfl)⟩, rfl⟩
theorem fp_X11_244 : ∀ ci ∈ [11], FL RX11 244 ci 15 false ∧ tyC ci 15 = .int := by
  intro ci hci
  simp only [List.mem_cons, List.not_mem_nil, or_false] at hci
  rcases hci with rfl
  · exact ⟨⟨RX11, TX11, 19, "PennyQueue", rfl, by decide, uwX11, wd_250, Or.inl rfl, rfl, tyX11_ok, nmX11, rfl, (fun z => by cases z)⟩, rfl⟩
theorem fp_X11_247 : ∀ ci ∈ [11], FL RX11 247 ci 14 false ∧ tyC ci 14 = .boolean := by
  intro ci hci
  simp only [List.mem_cons, List.not_mem_nil, or_false] at hci
  rcases hci with rfl
  · exact ⟨⟨RX11, TX11, 19, "PennyQueue", rfl, by decide, uwX11, wd_249, Or.inl rfl, rfl, tyX11_ok, nmX11, rfl, (fun z => by cases z)⟩, rfl⟩
theorem fp_X11_251 : ∀ ci ∈ [11], FL RX11 251 ci 10 false ∧ tR (tyC ci 10) = true := by
  intro ci hci
  simp only [List.mem_cons, List.not_mem_nil, or_false] at hci
  rcases hci with rfl
  · exact ⟨⟨RX11, TX11, 19, "PennyQueue", rfl, by decide, uwX11, wd_245, Or.inl rfl, rfl, tyX11_ok, nmX11, rfl, (fun z => by cases z)⟩, rfl⟩
theorem fp_X11_254 : ∀ ci ∈ [5, 1, 2, 4, 6, 7, 9], FL RX11 254 ci 2 false ∧ tyC ci 2 = .int := by
  intro ci hci
  simp only [List.mem_cons, List.not_mem_nil, or_false] at hci
  rcases hci with rfl | rfl | rfl | rfl | rfl | rfl | rfl
  · exact ⟨⟨RX5, TX5, 4, "PennyQueue$Order", rfl, by decide, uwX5, wd_98, Or.inl rfl, rfl, tyX5_ok, nmX5, rfl, (fun z => by cases z)⟩, rfl⟩
  · exact ⟨⟨RX1, TX1, 4, "PennyQueue$Order", rfl, by decide, uwX1, wd_98, Or.inl rfl, rfl, tyX1_ok, nmX1, rfl, (fun z => by cases z)⟩, rfl⟩
  · exact ⟨⟨RX2, TX2, 4, "PennyQueue$Order", rfl, by decide, uwX2, wd_98, Or.inl rfl, rfl, tyX2_ok, nmX2, rfl, (fun z => by cases z)⟩, rfl⟩
  · exact ⟨⟨RX4, TX4, 4, "PennyQueue$Order", rfl, by decide, uwX4, wd_98, Or.inl rfl, rfl, tyX4_ok, nmX4, rfl, (fun z => by cases z)⟩, rfl⟩
  · exact ⟨⟨RX6, TX6, 4, "PennyQueue$Order", rfl, by decide, uwX6, wd_98, Or.inl rfl, rfl, tyX6_ok, nmX6, rfl, (fun z => by cases z)⟩, rfl⟩
  · exact ⟨⟨RX7, TX7, 4, "PennyQueue$Order", rfl, by decide, uwX7, wd_98, Or.inl rfl, rfl, tyX7_ok, nmX7, rfl, (fun z => by cases z)⟩, rfl⟩
  · exact ⟨⟨RX9, TX9, 5, "PennyQueue$Order", rfl, by decide, uwX9, wd_98, Or.inl rfl, rfl, tyX9_ok, nmX9, rfl, (fun z => by cases z)⟩, rfl⟩
theorem fp_X11_27 : ∀ ci ∈ [11], FL RX11 27 ci 5 true ∧ tR (tyC ci 5) = true := by
  intro ci hci
  simp only [List.mem_cons, List.not_mem_nil, or_false] at hci
  rcases hci with rfl
  · exact ⟨⟨RX11, TX11, 19, "PennyQueue", rfl, by decide, uwX11, wd_240, Or.inl rfl, rfl, tyX11_ok, nmX11, rfl, (fun _ => rfl)⟩, rfl⟩
theorem fp_X11_33 : ∀ ci ∈ [11], FL RX11 33 ci 7 true ∧ tR (tyC ci 7) = true := by
  intro ci hci
  simp only [List.mem_cons, List.not_mem_nil, or_false] at hci
  rcases hci with rfl
  · exact ⟨⟨RX11, TX11, 19, "PennyQueue", rfl, by decide, uwX11, wd_242, Or.inl rfl, rfl, tyX11_ok, nmX11, rfl, (fun _ => rfl)⟩, rfl⟩
theorem fp_X11_40 : ∀ ci ∈ [11], FL RX11 40 ci 8 true ∧ tR (tyC ci 8) = true := by
  intro ci hci
  simp only [List.mem_cons, List.not_mem_nil, or_false] at hci
  rcases hci with rfl
  · exact ⟨⟨RX11, TX11, 19, "PennyQueue", rfl, by decide, uwX11, wd_243, Or.inl rfl, rfl, tyX11_ok, nmX11, rfl, (fun _ => rfl)⟩, rfl⟩
theorem fp_X11_47 : ∀ ci ∈ [11], FL RX11 47 ci 11 true ∧ tR (tyC ci 11) = true := by
  intro ci hci
  simp only [List.mem_cons, List.not_mem_nil, or_false] at hci
  rcases hci with rfl
  · exact ⟨⟨RX11, TX11, 19, "PennyQueue", rfl, by decide, uwX11, wd_246, Or.inl rfl, rfl, tyX11_ok, nmX11, rfl, (fun _ => rfl)⟩, rfl⟩
theorem fp_X11_51 : ∀ ci ∈ [11], FL RX11 51 ci 12 true ∧ tR (tyC ci 12) = true := by
  intro ci hci
  simp only [List.mem_cons, List.not_mem_nil, or_false] at hci
  rcases hci with rfl
  · exact ⟨⟨RX11, TX11, 19, "PennyQueue", rfl, by decide, uwX11, wd_247, Or.inl rfl, rfl, tyX11_ok, nmX11, rfl, (fun _ => rfl)⟩, rfl⟩
theorem fp_X11_54 : ∀ ci ∈ [11], FL RX11 54 ci 13 true ∧ tR (tyC ci 13) = true := by
  intro ci hci
  simp only [List.mem_cons, List.not_mem_nil, or_false] at hci
  rcases hci with rfl
  · exact ⟨⟨RX11, TX11, 19, "PennyQueue", rfl, by decide, uwX11, wd_248, Or.inl rfl, rfl, tyX11_ok, nmX11, rfl, (fun _ => rfl)⟩, rfl⟩
theorem fp_X11_62 : ∀ ci ∈ [11], FL RX11 62 ci 16 true ∧ tR (tyC ci 16) = true := by
  intro ci hci
  simp only [List.mem_cons, List.not_mem_nil, or_false] at hci
  rcases hci with rfl
  · exact ⟨⟨RX11, TX11, 19, "PennyQueue", rfl, by decide, uwX11, wd_251, Or.inl rfl, rfl, tyX11_ok, nmX11, rfl, (fun _ => rfl)⟩, rfl⟩
theorem fp_X11_66 : ∀ ci ∈ [11], FL RX11 66 ci 17 true ∧ tR (tyC ci 17) = true := by
  intro ci hci
  simp only [List.mem_cons, List.not_mem_nil, or_false] at hci
  rcases hci with rfl
  · exact ⟨⟨RX11, TX11, 19, "PennyQueue", rfl, by decide, uwX11, wd_252, Or.inl rfl, rfl, tyX11_ok, nmX11, rfl, (fun _ => rfl)⟩, rfl⟩
theorem fp_X11_72 : ∀ ci ∈ [11], FL RX11 72 ci 18 true ∧ tR (tyC ci 18) = true := by
  intro ci hci
  simp only [List.mem_cons, List.not_mem_nil, or_false] at hci
  rcases hci with rfl
  · exact ⟨⟨RX11, TX11, 19, "PennyQueue", rfl, by decide, uwX11, wd_253, Or.inl rfl, rfl, tyX11_ok, nmX11, rfl, (fun _ => rfl)⟩, rfl⟩
theorem fp_X11_81 : ∀ ci ∈ [11], FL RX11 81 ci 1 false ∧ tyC ci 1 = .int := by
  intro ci hci
  simp only [List.mem_cons, List.not_mem_nil, or_false] at hci
  rcases hci with rfl
  · exact ⟨⟨RX11, TX11, 19, "PennyQueue", rfl, by decide, uwX11, wd_236, Or.inl rfl, rfl, tyX11_ok, nmX11, rfl, (fun z => by cases z)⟩, rfl⟩
theorem fp_X11_92 : ∀ ci ∈ [11], FL RX11 92 ci 3 false ∧ tyC ci 3 = .int := by
  intro ci hci
  simp only [List.mem_cons, List.not_mem_nil, or_false] at hci
  rcases hci with rfl
  · exact ⟨⟨RX11, TX11, 19, "PennyQueue", rfl, by decide, uwX11, wd_238, Or.inl rfl, rfl, tyX11_ok, nmX11, rfl, (fun z => by cases z)⟩, rfl⟩
theorem fp_X11_95 : ∀ ci ∈ [11], FL RX11 95 ci 6 false ∧ tyC ci 6 = .int := by
  intro ci hci
  simp only [List.mem_cons, List.not_mem_nil, or_false] at hci
  rcases hci with rfl
  · exact ⟨⟨RX11, TX11, 19, "PennyQueue", rfl, by decide, uwX11, wd_241, Or.inl rfl, rfl, tyX11_ok, nmX11, rfl, (fun z => by cases z)⟩, rfl⟩
theorem fp_X12_102 : ∀ ci ∈ [12], FL RX12 102 ci 30 true ∧ tR (tyC ci 30) = true := by
  intro ci hci
  simp only [List.mem_cons, List.not_mem_nil, or_false] at hci
  rcases hci with rfl
  · exact ⟨⟨RX12, TX12, 67, "PennyQueueModel", rfl, by decide, uwX12, wd_1011, Or.inl rfl, rfl, tyX12_ok, nmX12, rfl, (fun _ => rfl)⟩, rfl⟩
theorem fp_X12_105 : ∀ ci ∈ [12], FL RX12 105 ci 31 false ∧ tyC ci 31 = .int := by
  intro ci hci
  simp only [List.mem_cons, List.not_mem_nil, or_false] at hci
  rcases hci with rfl
  · exact ⟨⟨RX12, TX12, 67, "PennyQueueModel", rfl, by decide, uwX12, wd_1012, Or.inl rfl, rfl, tyX12_ok, nmX12, rfl, (fun z => by cases z)⟩, rfl⟩
theorem fp_X12_108 : ∀ ci ∈ [12], FL RX12 108 ci 32 false ∧ tyC ci 32 = .int := by
  intro ci hci
  simp only [List.mem_cons, List.not_mem_nil, or_false] at hci
  rcases hci with rfl
  · exact ⟨⟨RX12, TX12, 67, "PennyQueueModel", rfl, by decide, uwX12, wd_1013, Or.inl rfl, rfl, tyX12_ok, nmX12, rfl, (fun z => by cases z)⟩, rfl⟩
theorem fp_X12_111 : ∀ ci ∈ [12], FL RX12 111 ci 33 false ∧ tyC ci 33 = .int := by
  intro ci hci
  simp only [List.mem_cons, List.not_mem_nil, or_false] at hci
  rcases hci with rfl
  · exact ⟨⟨RX12, TX12, 67, "PennyQueueModel", rfl, by decide, uwX12, wd_1014, Or.inl rfl, rfl, tyX12_ok, nmX12, rfl, (fun z => by cases z)⟩, rfl⟩
theorem fp_X12_114 : ∀ ci ∈ [12], FL RX12 114 ci 34 false ∧ tyC ci 34 = .int := by
  intro ci hci
  simp only [List.mem_cons, List.not_mem_nil, or_false] at hci
  rcases hci with rfl
  · exact ⟨⟨RX12, TX12, 67, "PennyQueueModel", rfl, by decide, uwX12, wd_1015, Or.inl rfl, rfl, tyX12_ok, nmX12, rfl, (fun z => by cases z)⟩, rfl⟩
theorem fp_X12_117 : ∀ ci ∈ [12], FL RX12 117 ci 35 false ∧ tyC ci 35 = .int := by
  intro ci hci
  simp only [List.mem_cons, List.not_mem_nil, or_false] at hci
  rcases hci with rfl
  · exact ⟨⟨RX12, TX12, 67, "PennyQueueModel", rfl, by decide, uwX12, wd_1016, Or.inl rfl, rfl, tyX12_ok, nmX12, rfl, (fun z => by cases z)⟩, rfl⟩
theorem fp_X12_120 : ∀ ci ∈ [12], FL RX12 120 ci 36 false ∧ tyC ci 36 = .int := by
  intro ci hci
  simp only [List.mem_cons, List.not_mem_nil, or_false] at hci
  rcases hci with rfl
  · exact ⟨⟨RX12, TX12, 67, "PennyQueueModel", rfl, by decide, uwX12, wd_1017, Or.inl rfl, rfl, tyX12_ok, nmX12, rfl, (fun z => by cases z)⟩, rfl⟩
theorem fp_X12_123 : ∀ ci ∈ [12], FL RX12 123 ci 37 false ∧ tyC ci 37 = .int := by
  intro ci hci
  simp only [List.mem_cons, List.not_mem_nil, or_false] at hci
  rcases hci with rfl
  · exact ⟨⟨RX12, TX12, 67, "PennyQueueModel", rfl, by decide, uwX12, wd_1018, Or.inl rfl, rfl, tyX12_ok, nmX12, rfl, (fun z => by cases z)⟩, rfl⟩
theorem fp_X12_126 : ∀ ci ∈ [12], FL RX12 126 ci 38 false ∧ tyC ci 38 = .int := by
  intro ci hci
  simp only [List.mem_cons, List.not_mem_nil, or_false] at hci
  rcases hci with rfl
  · exact ⟨⟨RX12, TX12, 67, "PennyQueueModel", rfl, by decide, uwX12, wd_1019, Or.inl rfl, rfl, tyX12_ok, nmX12, rfl, (fun z => by cases z)⟩, rfl⟩
theorem fp_X12_129 : ∀ ci ∈ [12], FL RX12 129 ci 39 false ∧ tyC ci 39 = .int := by
  intro ci hci
  simp only [List.mem_cons, List.not_mem_nil, or_false] at hci
  rcases hci with rfl
  · exact ⟨⟨RX12, TX12, 67, "PennyQueueModel", rfl, by decide, uwX12, wd_1020, Or.inl rfl, rfl, tyX12_ok, nmX12, rfl, (fun z => by cases z)⟩, rfl⟩
theorem fp_X12_13 : ∀ ci ∈ [12], FL RX12 13 ci 1 false ∧ tyC ci 1 = .int := by
  intro ci hci
  simp only [List.mem_cons, List.not_mem_nil, or_false] at hci
  rcases hci with rfl
  · exact ⟨⟨RX12, TX12, 67, "PennyQueueModel", rfl, by decide, uwX12, wd_982, Or.inl rfl, rfl, tyX12_ok, nmX12, rfl, (fun z => by cases z)⟩, rfl⟩
theorem fp_X12_132 : ∀ ci ∈ [12], FL RX12 132 ci 40 false ∧ tyC ci 40 = .int := by
  intro ci hci
  simp only [List.mem_cons, List.not_mem_nil, or_false] at hci
  rcases hci with rfl
  · exact ⟨⟨RX12, TX12, 67, "PennyQueueModel", rfl, by decide, uwX12, wd_1021, Or.inl rfl, rfl, tyX12_ok, nmX12, rfl, (fun z => by cases z)⟩, rfl⟩
theorem fp_X12_135 : ∀ ci ∈ [12], FL RX12 135 ci 41 true ∧ tR (tyC ci 41) = true := by
  intro ci hci
  simp only [List.mem_cons, List.not_mem_nil, or_false] at hci
  rcases hci with rfl
  · exact ⟨⟨RX12, TX12, 67, "PennyQueueModel", rfl, by decide, uwX12, wd_1022, Or.inl rfl, rfl, tyX12_ok, nmX12, rfl, (fun _ => rfl)⟩, rfl⟩
theorem fp_X12_138 : ∀ ci ∈ [12], FL RX12 138 ci 42 true ∧ tR (tyC ci 42) = true := by
  intro ci hci
  simp only [List.mem_cons, List.not_mem_nil, or_false] at hci
  rcases hci with rfl
  · exact ⟨⟨RX12, TX12, 67, "PennyQueueModel", rfl, by decide, uwX12, wd_1023, Or.inl rfl, rfl, tyX12_ok, nmX12, rfl, (fun _ => rfl)⟩, rfl⟩
theorem fp_X12_141 : ∀ ci ∈ [12], FL RX12 141 ci 43 true ∧ tR (tyC ci 43) = true := by
  intro ci hci
  simp only [List.mem_cons, List.not_mem_nil, or_false] at hci
  rcases hci with rfl
  · exact ⟨⟨RX12, TX12, 67, "PennyQueueModel", rfl, by decide, uwX12, wd_1024, Or.inl rfl, rfl, tyX12_ok, nmX12, rfl, (fun _ => rfl)⟩, rfl⟩
theorem fp_X12_144 : ∀ ci ∈ [12], FL RX12 144 ci 44 true ∧ tR (tyC ci 44) = true := by
  intro ci hci
  simp only [List.mem_cons, List.not_mem_nil, or_false] at hci
  rcases hci with rfl
  · exact ⟨⟨RX12, TX12, 67, "PennyQueueModel", rfl, by decide, uwX12, wd_1025, Or.inl rfl, rfl, tyX12_ok, nmX12, rfl, (fun _ => rfl)⟩, rfl⟩
theorem fp_X12_147 : ∀ ci ∈ [12], FL RX12 147 ci 45 true ∧ tR (tyC ci 45) = true := by
  intro ci hci
  simp only [List.mem_cons, List.not_mem_nil, or_false] at hci
  rcases hci with rfl
  · exact ⟨⟨RX12, TX12, 67, "PennyQueueModel", rfl, by decide, uwX12, wd_1026, Or.inl rfl, rfl, tyX12_ok, nmX12, rfl, (fun _ => rfl)⟩, rfl⟩
theorem fp_X12_150 : ∀ ci ∈ [12], FL RX12 150 ci 46 true ∧ tR (tyC ci 46) = true := by
  intro ci hci
  simp only [List.mem_cons, List.not_mem_nil, or_false] at hci
  rcases hci with rfl
  · exact ⟨⟨RX12, TX12, 67, "PennyQueueModel", rfl, by decide, uwX12, wd_1027, Or.inl rfl, rfl, tyX12_ok, nmX12, rfl, (fun _ => rfl)⟩, rfl⟩
theorem fp_X12_153 : ∀ ci ∈ [12], FL RX12 153 ci 47 true ∧ tR (tyC ci 47) = true := by
  intro ci hci
  simp only [List.mem_cons, List.not_mem_nil, or_false] at hci
  rcases hci with rfl
  · exact ⟨⟨RX12, TX12, 67, "PennyQueueModel", rfl, by decide, uwX12, wd_1028, Or.inl rfl, rfl, tyX12_ok, nmX12, rfl, (fun _ => rfl)⟩, rfl⟩
theorem fp_X12_156 : ∀ ci ∈ [12], FL RX12 156 ci 48 true ∧ tR (tyC ci 48) = true := by
  intro ci hci
  simp only [List.mem_cons, List.not_mem_nil, or_false] at hci
  rcases hci with rfl
  · exact ⟨⟨RX12, TX12, 67, "PennyQueueModel", rfl, by decide, uwX12, wd_1029, Or.inl rfl, rfl, tyX12_ok, nmX12, rfl, (fun _ => rfl)⟩, rfl⟩
theorem fp_X12_159 : ∀ ci ∈ [12], FL RX12 159 ci 49 true ∧ tR (tyC ci 49) = true := by
  intro ci hci
  simp only [List.mem_cons, List.not_mem_nil, or_false] at hci
  rcases hci with rfl
  · exact ⟨⟨RX12, TX12, 67, "PennyQueueModel", rfl, by decide, uwX12, wd_1030, Or.inl rfl, rfl, tyX12_ok, nmX12, rfl, (fun _ => rfl)⟩, rfl⟩
theorem fp_X12_16 : ∀ ci ∈ [12], FL RX12 16 ci 2 true ∧ tR (tyC ci 2) = true := by
  intro ci hci
  simp only [List.mem_cons, List.not_mem_nil, or_false] at hci
  rcases hci with rfl
  · exact ⟨⟨RX12, TX12, 67, "PennyQueueModel", rfl, by decide, uwX12, wd_983, Or.inl rfl, rfl, tyX12_ok, nmX12, rfl, (fun _ => rfl)⟩, rfl⟩
theorem fp_X12_162 : ∀ ci ∈ [12], FL RX12 162 ci 50 true ∧ tR (tyC ci 50) = true := by
  intro ci hci
  simp only [List.mem_cons, List.not_mem_nil, or_false] at hci
  rcases hci with rfl
  · exact ⟨⟨RX12, TX12, 67, "PennyQueueModel", rfl, by decide, uwX12, wd_1031, Or.inl rfl, rfl, tyX12_ok, nmX12, rfl, (fun _ => rfl)⟩, rfl⟩
theorem fp_X12_165 : ∀ ci ∈ [12], FL RX12 165 ci 51 true ∧ tR (tyC ci 51) = true := by
  intro ci hci
  simp only [List.mem_cons, List.not_mem_nil, or_false] at hci
  rcases hci with rfl
  · exact ⟨⟨RX12, TX12, 67, "PennyQueueModel", rfl, by decide, uwX12, wd_1032, Or.inl rfl, rfl, tyX12_ok, nmX12, rfl, (fun _ => rfl)⟩, rfl⟩
theorem fp_X12_168 : ∀ ci ∈ [12], FL RX12 168 ci 52 true ∧ tR (tyC ci 52) = true := by
  intro ci hci
  simp only [List.mem_cons, List.not_mem_nil, or_false] at hci
  rcases hci with rfl
  · exact ⟨⟨RX12, TX12, 67, "PennyQueueModel", rfl, by decide, uwX12, wd_1033, Or.inl rfl, rfl, tyX12_ok, nmX12, rfl, (fun _ => rfl)⟩, rfl⟩
theorem fp_X12_171 : ∀ ci ∈ [12], FL RX12 171 ci 53 true ∧ tR (tyC ci 53) = true := by
  intro ci hci
  simp only [List.mem_cons, List.not_mem_nil, or_false] at hci
  rcases hci with rfl
  · exact ⟨⟨RX12, TX12, 67, "PennyQueueModel", rfl, by decide, uwX12, wd_1034, Or.inl rfl, rfl, tyX12_ok, nmX12, rfl, (fun _ => rfl)⟩, rfl⟩
theorem fp_X12_174 : ∀ ci ∈ [12], FL RX12 174 ci 54 false ∧ tyC ci 54 = .boolean := by
  intro ci hci
  simp only [List.mem_cons, List.not_mem_nil, or_false] at hci
  rcases hci with rfl
  · exact ⟨⟨RX12, TX12, 67, "PennyQueueModel", rfl, by decide, uwX12, wd_1035, Or.inl rfl, rfl, tyX12_ok, nmX12, rfl, (fun z => by cases z)⟩, rfl⟩
theorem fp_X12_178 : ∀ ci ∈ [12], FL RX12 178 ci 55 false ∧ tyC ci 55 = .int := by
  intro ci hci
  simp only [List.mem_cons, List.not_mem_nil, or_false] at hci
  rcases hci with rfl
  · exact ⟨⟨RX12, TX12, 67, "PennyQueueModel", rfl, by decide, uwX12, wd_1036, Or.inl rfl, rfl, tyX12_ok, nmX12, rfl, (fun z => by cases z)⟩, rfl⟩
theorem fp_X12_181 : ∀ ci ∈ [12], FL RX12 181 ci 56 false ∧ tyC ci 56 = .int := by
  intro ci hci
  simp only [List.mem_cons, List.not_mem_nil, or_false] at hci
  rcases hci with rfl
  · exact ⟨⟨RX12, TX12, 67, "PennyQueueModel", rfl, by decide, uwX12, wd_1037, Or.inl rfl, rfl, tyX12_ok, nmX12, rfl, (fun z => by cases z)⟩, rfl⟩
theorem fp_X12_184 : ∀ ci ∈ [12], FL RX12 184 ci 57 false ∧ tyC ci 57 = .int := by
  intro ci hci
  simp only [List.mem_cons, List.not_mem_nil, or_false] at hci
  rcases hci with rfl
  · exact ⟨⟨RX12, TX12, 67, "PennyQueueModel", rfl, by decide, uwX12, wd_1038, Or.inl rfl, rfl, tyX12_ok, nmX12, rfl, (fun z => by cases z)⟩, rfl⟩
theorem fp_X12_187 : ∀ ci ∈ [12], FL RX12 187 ci 58 true ∧ tR (tyC ci 58) = true := by
  intro ci hci
  simp only [List.mem_cons, List.not_mem_nil, or_false] at hci
  rcases hci with rfl
  · exact ⟨⟨RX12, TX12, 67, "PennyQueueModel", rfl, by decide, uwX12, wd_1039, Or.inl rfl, rfl, tyX12_ok, nmX12, rfl, (fun _ => rfl)⟩, rfl⟩
theorem fp_X12_190 : ∀ ci ∈ [12], FL RX12 190 ci 59 true ∧ tR (tyC ci 59) = true := by
  intro ci hci
  simp only [List.mem_cons, List.not_mem_nil, or_false] at hci
  rcases hci with rfl
  · exact ⟨⟨RX12, TX12, 67, "PennyQueueModel", rfl, by decide, uwX12, wd_1040, Or.inl rfl, rfl, tyX12_ok, nmX12, rfl, (fun _ => rfl)⟩, rfl⟩
theorem fp_X12_193 : ∀ ci ∈ [12], FL RX12 193 ci 60 true ∧ tR (tyC ci 60) = true := by
  intro ci hci
  simp only [List.mem_cons, List.not_mem_nil, or_false] at hci
  rcases hci with rfl
  · exact ⟨⟨RX12, TX12, 67, "PennyQueueModel", rfl, by decide, uwX12, wd_1041, Or.inl rfl, rfl, tyX12_ok, nmX12, rfl, (fun _ => rfl)⟩, rfl⟩
theorem fp_X12_196 : ∀ ci ∈ [12], FL RX12 196 ci 61 false ∧ tyC ci 61 = .int := by
  intro ci hci
  simp only [List.mem_cons, List.not_mem_nil, or_false] at hci
  rcases hci with rfl
  · exact ⟨⟨RX12, TX12, 67, "PennyQueueModel", rfl, by decide, uwX12, wd_1042, Or.inl rfl, rfl, tyX12_ok, nmX12, rfl, (fun z => by cases z)⟩, rfl⟩
theorem fp_X12_199 : ∀ ci ∈ [12], FL RX12 199 ci 62 true ∧ tR (tyC ci 62) = true := by
  intro ci hci
  simp only [List.mem_cons, List.not_mem_nil, or_false] at hci
  rcases hci with rfl
  · exact ⟨⟨RX12, TX12, 67, "PennyQueueModel", rfl, by decide, uwX12, wd_1043, Or.inl rfl, rfl, tyX12_ok, nmX12, rfl, (fun _ => rfl)⟩, rfl⟩
theorem fp_X12_20 : ∀ ci ∈ [12], FL RX12 20 ci 3 true ∧ tR (tyC ci 3) = true := by
  intro ci hci
  simp only [List.mem_cons, List.not_mem_nil, or_false] at hci
  rcases hci with rfl
  · exact ⟨⟨RX12, TX12, 67, "PennyQueueModel", rfl, by decide, uwX12, wd_984, Or.inl rfl, rfl, tyX12_ok, nmX12, rfl, (fun _ => rfl)⟩, rfl⟩
theorem fp_X12_202 : ∀ ci ∈ [12], FL RX12 202 ci 63 true ∧ tR (tyC ci 63) = true := by
  intro ci hci
  simp only [List.mem_cons, List.not_mem_nil, or_false] at hci
  rcases hci with rfl
  · exact ⟨⟨RX12, TX12, 67, "PennyQueueModel", rfl, by decide, uwX12, wd_1044, Or.inl rfl, rfl, tyX12_ok, nmX12, rfl, (fun _ => rfl)⟩, rfl⟩
theorem fp_X12_205 : ∀ ci ∈ [12], FL RX12 205 ci 64 true ∧ tR (tyC ci 64) = true := by
  intro ci hci
  simp only [List.mem_cons, List.not_mem_nil, or_false] at hci
  rcases hci with rfl
  · exact ⟨⟨RX12, TX12, 67, "PennyQueueModel", rfl, by decide, uwX12, wd_1045, Or.inl rfl, rfl, tyX12_ok, nmX12, rfl, (fun _ => rfl)⟩, rfl⟩
theorem fp_X12_208 : ∀ ci ∈ [12], FL RX12 208 ci 65 true ∧ tR (tyC ci 65) = true := by
  intro ci hci
  simp only [List.mem_cons, List.not_mem_nil, or_false] at hci
  rcases hci with rfl
  · exact ⟨⟨RX12, TX12, 67, "PennyQueueModel", rfl, by decide, uwX12, wd_1046, Or.inl rfl, rfl, tyX12_ok, nmX12, rfl, (fun _ => rfl)⟩, rfl⟩
theorem fp_X12_212 : ∀ ci ∈ [12], FL RX12 212 ci 66 true ∧ tR (tyC ci 66) = true := by
  intro ci hci
  simp only [List.mem_cons, List.not_mem_nil, or_false] at hci
  rcases hci with rfl
  · exact ⟨⟨RX12, TX12, 67, "PennyQueueModel", rfl, by decide, uwX12, wd_1047, Or.inl rfl, rfl, tyX12_ok, nmX12, rfl, (fun _ => rfl)⟩, rfl⟩
theorem fp_X12_23 : ∀ ci ∈ [12], FL RX12 23 ci 4 true ∧ tR (tyC ci 4) = true := by
  intro ci hci
  simp only [List.mem_cons, List.not_mem_nil, or_false] at hci
  rcases hci with rfl
  · exact ⟨⟨RX12, TX12, 67, "PennyQueueModel", rfl, by decide, uwX12, wd_985, Or.inl rfl, rfl, tyX12_ok, nmX12, rfl, (fun _ => rfl)⟩, rfl⟩
theorem fp_X12_26 : ∀ ci ∈ [12], FL RX12 26 ci 5 true ∧ tR (tyC ci 5) = true := by
  intro ci hci
  simp only [List.mem_cons, List.not_mem_nil, or_false] at hci
  rcases hci with rfl
  · exact ⟨⟨RX12, TX12, 67, "PennyQueueModel", rfl, by decide, uwX12, wd_986, Or.inl rfl, rfl, tyX12_ok, nmX12, rfl, (fun _ => rfl)⟩, rfl⟩
theorem fp_X12_29 : ∀ ci ∈ [12], FL RX12 29 ci 6 true ∧ tR (tyC ci 6) = true := by
  intro ci hci
  simp only [List.mem_cons, List.not_mem_nil, or_false] at hci
  rcases hci with rfl
  · exact ⟨⟨RX12, TX12, 67, "PennyQueueModel", rfl, by decide, uwX12, wd_987, Or.inl rfl, rfl, tyX12_ok, nmX12, rfl, (fun _ => rfl)⟩, rfl⟩
theorem fp_X12_32 : ∀ ci ∈ [12], FL RX12 32 ci 7 true ∧ tR (tyC ci 7) = true := by
  intro ci hci
  simp only [List.mem_cons, List.not_mem_nil, or_false] at hci
  rcases hci with rfl
  · exact ⟨⟨RX12, TX12, 67, "PennyQueueModel", rfl, by decide, uwX12, wd_988, Or.inl rfl, rfl, tyX12_ok, nmX12, rfl, (fun _ => rfl)⟩, rfl⟩
theorem fp_X12_35 : ∀ ci ∈ [12], FL RX12 35 ci 8 true ∧ tR (tyC ci 8) = true := by
  intro ci hci
  simp only [List.mem_cons, List.not_mem_nil, or_false] at hci
  rcases hci with rfl
  · exact ⟨⟨RX12, TX12, 67, "PennyQueueModel", rfl, by decide, uwX12, wd_989, Or.inl rfl, rfl, tyX12_ok, nmX12, rfl, (fun _ => rfl)⟩, rfl⟩
theorem fp_X12_38 : ∀ ci ∈ [12], FL RX12 38 ci 9 false ∧ tyC ci 9 = .int := by
  intro ci hci
  simp only [List.mem_cons, List.not_mem_nil, or_false] at hci
  rcases hci with rfl
  · exact ⟨⟨RX12, TX12, 67, "PennyQueueModel", rfl, by decide, uwX12, wd_990, Or.inl rfl, rfl, tyX12_ok, nmX12, rfl, (fun z => by cases z)⟩, rfl⟩
theorem fp_X12_41 : ∀ ci ∈ [12], FL RX12 41 ci 10 false ∧ tyC ci 10 = .int := by
  intro ci hci
  simp only [List.mem_cons, List.not_mem_nil, or_false] at hci
  rcases hci with rfl
  · exact ⟨⟨RX12, TX12, 67, "PennyQueueModel", rfl, by decide, uwX12, wd_991, Or.inl rfl, rfl, tyX12_ok, nmX12, rfl, (fun z => by cases z)⟩, rfl⟩
theorem fp_X12_44 : ∀ ci ∈ [12], FL RX12 44 ci 11 false ∧ tyC ci 11 = .int := by
  intro ci hci
  simp only [List.mem_cons, List.not_mem_nil, or_false] at hci
  rcases hci with rfl
  · exact ⟨⟨RX12, TX12, 67, "PennyQueueModel", rfl, by decide, uwX12, wd_992, Or.inl rfl, rfl, tyX12_ok, nmX12, rfl, (fun z => by cases z)⟩, rfl⟩
theorem fp_X12_47 : ∀ ci ∈ [12], FL RX12 47 ci 12 false ∧ tyC ci 12 = .int := by
  intro ci hci
  simp only [List.mem_cons, List.not_mem_nil, or_false] at hci
  rcases hci with rfl
  · exact ⟨⟨RX12, TX12, 67, "PennyQueueModel", rfl, by decide, uwX12, wd_993, Or.inl rfl, rfl, tyX12_ok, nmX12, rfl, (fun z => by cases z)⟩, rfl⟩
theorem fp_X12_50 : ∀ ci ∈ [12], FL RX12 50 ci 13 false ∧ tyC ci 13 = .int := by
  intro ci hci
  simp only [List.mem_cons, List.not_mem_nil, or_false] at hci
  rcases hci with rfl
  · exact ⟨⟨RX12, TX12, 67, "PennyQueueModel", rfl, by decide, uwX12, wd_994, Or.inl rfl, rfl, tyX12_ok, nmX12, rfl, (fun z => by cases z)⟩, rfl⟩
theorem fp_X12_53 : ∀ ci ∈ [12], FL RX12 53 ci 14 true ∧ tR (tyC ci 14) = true := by
  intro ci hci
  simp only [List.mem_cons, List.not_mem_nil, or_false] at hci
  rcases hci with rfl
  · exact ⟨⟨RX12, TX12, 67, "PennyQueueModel", rfl, by decide, uwX12, wd_995, Or.inl rfl, rfl, tyX12_ok, nmX12, rfl, (fun _ => rfl)⟩, rfl⟩
theorem fp_X12_56 : ∀ ci ∈ [12], FL RX12 56 ci 15 true ∧ tR (tyC ci 15) = true := by
  intro ci hci
  simp only [List.mem_cons, List.not_mem_nil, or_false] at hci
  rcases hci with rfl
  · exact ⟨⟨RX12, TX12, 67, "PennyQueueModel", rfl, by decide, uwX12, wd_996, Or.inl rfl, rfl, tyX12_ok, nmX12, rfl, (fun _ => rfl)⟩, rfl⟩
theorem fp_X12_59 : ∀ ci ∈ [12], FL RX12 59 ci 16 true ∧ tR (tyC ci 16) = true := by
  intro ci hci
  simp only [List.mem_cons, List.not_mem_nil, or_false] at hci
  rcases hci with rfl
  · exact ⟨⟨RX12, TX12, 67, "PennyQueueModel", rfl, by decide, uwX12, wd_997, Or.inl rfl, rfl, tyX12_ok, nmX12, rfl, (fun _ => rfl)⟩, rfl⟩
theorem fp_X12_62 : ∀ ci ∈ [12], FL RX12 62 ci 17 true ∧ tR (tyC ci 17) = true := by
  intro ci hci
  simp only [List.mem_cons, List.not_mem_nil, or_false] at hci
  rcases hci with rfl
  · exact ⟨⟨RX12, TX12, 67, "PennyQueueModel", rfl, by decide, uwX12, wd_998, Or.inl rfl, rfl, tyX12_ok, nmX12, rfl, (fun _ => rfl)⟩, rfl⟩
theorem fp_X12_65 : ∀ ci ∈ [12], FL RX12 65 ci 18 true ∧ tR (tyC ci 18) = true := by
  intro ci hci
  simp only [List.mem_cons, List.not_mem_nil, or_false] at hci
  rcases hci with rfl
  · exact ⟨⟨RX12, TX12, 67, "PennyQueueModel", rfl, by decide, uwX12, wd_999, Or.inl rfl, rfl, tyX12_ok, nmX12, rfl, (fun _ => rfl)⟩, rfl⟩
theorem fp_X12_68 : ∀ ci ∈ [12], FL RX12 68 ci 19 true ∧ tR (tyC ci 19) = true := by
  intro ci hci
  simp only [List.mem_cons, List.not_mem_nil, or_false] at hci
  rcases hci with rfl
  · exact ⟨⟨RX12, TX12, 67, "PennyQueueModel", rfl, by decide, uwX12, wd_1000, Or.inl rfl, rfl, tyX12_ok, nmX12, rfl, (fun _ => rfl)⟩, rfl⟩
theorem fp_X12_7 : ∀ ci ∈ [12], FL RX12 7 ci 0 false ∧ tyC ci 0 = .int := by
  intro ci hci
  simp only [List.mem_cons, List.not_mem_nil, or_false] at hci
  rcases hci with rfl
  · exact ⟨⟨RX12, TX12, 67, "PennyQueueModel", rfl, by decide, uwX12, wd_981, Or.inl rfl, rfl, tyX12_ok, nmX12, rfl, (fun z => by cases z)⟩, rfl⟩
theorem fp_X12_71 : ∀ ci ∈ [12], FL RX12 71 ci 20 true ∧ tR (tyC ci 20) = true := by
  intro ci hci
  simp only [List.mem_cons, List.not_mem_nil, or_false] at hci
  rcases hci with rfl
  · exact ⟨⟨RX12, TX12, 67, "PennyQueueModel", rfl, by decide, uwX12, wd_1001, Or.inl rfl, rfl, tyX12_ok, nmX12, rfl, (fun _ => rfl)⟩, rfl⟩
theorem fp_X12_74 : ∀ ci ∈ [12], FL RX12 74 ci 21 true ∧ tR (tyC ci 21) = true := by
  intro ci hci
  simp only [List.mem_cons, List.not_mem_nil, or_false] at hci
  rcases hci with rfl
  · exact ⟨⟨RX12, TX12, 67, "PennyQueueModel", rfl, by decide, uwX12, wd_1002, Or.inl rfl, rfl, tyX12_ok, nmX12, rfl, (fun _ => rfl)⟩, rfl⟩
theorem fp_X12_77 : ∀ ci ∈ [12], FL RX12 77 ci 22 true ∧ tR (tyC ci 22) = true := by
  intro ci hci
  simp only [List.mem_cons, List.not_mem_nil, or_false] at hci
  rcases hci with rfl
  · exact ⟨⟨RX12, TX12, 67, "PennyQueueModel", rfl, by decide, uwX12, wd_1003, Or.inl rfl, rfl, tyX12_ok, nmX12, rfl, (fun _ => rfl)⟩, rfl⟩
theorem fp_X12_80 : ∀ ci ∈ [12], FL RX12 80 ci 23 false ∧ tyC ci 23 = .int := by
  intro ci hci
  simp only [List.mem_cons, List.not_mem_nil, or_false] at hci
  rcases hci with rfl
  · exact ⟨⟨RX12, TX12, 67, "PennyQueueModel", rfl, by decide, uwX12, wd_1004, Or.inl rfl, rfl, tyX12_ok, nmX12, rfl, (fun z => by cases z)⟩, rfl⟩
theorem fp_X12_83 : ∀ ci ∈ [12], FL RX12 83 ci 24 false ∧ tyC ci 24 = .int := by
  intro ci hci
  simp only [List.mem_cons, List.not_mem_nil, or_false] at hci
  rcases hci with rfl
  · exact ⟨⟨RX12, TX12, 67, "PennyQueueModel", rfl, by decide, uwX12, wd_1005, Or.inl rfl, rfl, tyX12_ok, nmX12, rfl, (fun z => by cases z)⟩, rfl⟩
theorem fp_X12_86 : ∀ ci ∈ [12], FL RX12 86 ci 25 false ∧ tyC ci 25 = .int := by
  intro ci hci
  simp only [List.mem_cons, List.not_mem_nil, or_false] at hci
  rcases hci with rfl
  · exact ⟨⟨RX12, TX12, 67, "PennyQueueModel", rfl, by decide, uwX12, wd_1006, Or.inl rfl, rfl, tyX12_ok, nmX12, rfl, (fun z => by cases z)⟩, rfl⟩
theorem fp_X12_89 : ∀ ci ∈ [12], FL RX12 89 ci 26 true ∧ tR (tyC ci 26) = true := by
  intro ci hci
  simp only [List.mem_cons, List.not_mem_nil, or_false] at hci
  rcases hci with rfl
  · exact ⟨⟨RX12, TX12, 67, "PennyQueueModel", rfl, by decide, uwX12, wd_1007, Or.inl rfl, rfl, tyX12_ok, nmX12, rfl, (fun _ => rfl)⟩, rfl⟩
theorem fp_X12_93 : ∀ ci ∈ [12], FL RX12 93 ci 27 false ∧ tyC ci 27 = .int := by
  intro ci hci
  simp only [List.mem_cons, List.not_mem_nil, or_false] at hci
  rcases hci with rfl
  · exact ⟨⟨RX12, TX12, 67, "PennyQueueModel", rfl, by decide, uwX12, wd_1008, Or.inl rfl, rfl, tyX12_ok, nmX12, rfl, (fun z => by cases z)⟩, rfl⟩
theorem fp_X12_96 : ∀ ci ∈ [12], FL RX12 96 ci 28 true ∧ tR (tyC ci 28) = true := by
  intro ci hci
  simp only [List.mem_cons, List.not_mem_nil, or_false] at hci
  rcases hci with rfl
  · exact ⟨⟨RX12, TX12, 67, "PennyQueueModel", rfl, by decide, uwX12, wd_1009, Or.inl rfl, rfl, tyX12_ok, nmX12, rfl, (fun _ => rfl)⟩, rfl⟩
theorem fp_X12_99 : ∀ ci ∈ [12], FL RX12 99 ci 29 true ∧ tR (tyC ci 29) = true := by
  intro ci hci
  simp only [List.mem_cons, List.not_mem_nil, or_false] at hci
  rcases hci with rfl
  · exact ⟨⟨RX12, TX12, 67, "PennyQueueModel", rfl, by decide, uwX12, wd_1010, Or.inl rfl, rfl, tyX12_ok, nmX12, rfl, (fun _ => rfl)⟩, rfl⟩
theorem fp_X3_15 : ∀ ci ∈ [3], FL RX3 15 ci 1 true ∧ tR (tyC ci 1) = true := by
  intro ci hci
  simp only [List.mem_cons, List.not_mem_nil, or_false] at hci
  rcases hci with rfl
  · exact ⟨⟨RX3, TX3, 19, "PennyQueue$Hour", rfl, by decide, uwX3, wd_148, Or.inl rfl, rfl, tyX3_ok, nmX3, rfl, (fun _ => rfl)⟩, rfl⟩
theorem fp_X3_18 : ∀ ci ∈ [3], FL RX3 18 ci 2 true ∧ tR (tyC ci 2) = true := by
  intro ci hci
  simp only [List.mem_cons, List.not_mem_nil, or_false] at hci
  rcases hci with rfl
  · exact ⟨⟨RX3, TX3, 19, "PennyQueue$Hour", rfl, by decide, uwX3, wd_150, Or.inl rfl, rfl, tyX3_ok, nmX3, rfl, (fun _ => rfl)⟩, rfl⟩
theorem fp_X3_21 : ∀ ci ∈ [3], FL RX3 21 ci 3 true ∧ tR (tyC ci 3) = true := by
  intro ci hci
  simp only [List.mem_cons, List.not_mem_nil, or_false] at hci
  rcases hci with rfl
  · exact ⟨⟨RX3, TX3, 19, "PennyQueue$Hour", rfl, by decide, uwX3, wd_152, Or.inl rfl, rfl, tyX3_ok, nmX3, rfl, (fun _ => rfl)⟩, rfl⟩
theorem fp_X3_24 : ∀ ci ∈ [3], FL RX3 24 ci 4 true ∧ tR (tyC ci 4) = true := by
  intro ci hci
  simp only [List.mem_cons, List.not_mem_nil, or_false] at hci
  rcases hci with rfl
  · exact ⟨⟨RX3, TX3, 19, "PennyQueue$Hour", rfl, by decide, uwX3, wd_154, Or.inl rfl, rfl, tyX3_ok, nmX3, rfl, (fun _ => rfl)⟩, rfl⟩
theorem fp_X3_27 : ∀ ci ∈ [3], FL RX3 27 ci 5 true ∧ tR (tyC ci 5) = true := by
  intro ci hci
  simp only [List.mem_cons, List.not_mem_nil, or_false] at hci
  rcases hci with rfl
  · exact ⟨⟨RX3, TX3, 19, "PennyQueue$Hour", rfl, by decide, uwX3, wd_156, Or.inl rfl, rfl, tyX3_ok, nmX3, rfl, (fun _ => rfl)⟩, rfl⟩
theorem fp_X3_30 : ∀ ci ∈ [3], FL RX3 30 ci 16 true ∧ tR (tyC ci 16) = true := by
  intro ci hci
  simp only [List.mem_cons, List.not_mem_nil, or_false] at hci
  rcases hci with rfl
  · exact ⟨⟨RX3, TX3, 19, "PennyQueue$Hour", rfl, by decide, uwX3, wd_172, Or.inl rfl, rfl, tyX3_ok, nmX3, rfl, (fun _ => rfl)⟩, rfl⟩
theorem fp_X3_33 : ∀ ci ∈ [3], FL RX3 33 ci 17 true ∧ tR (tyC ci 17) = true := by
  intro ci hci
  simp only [List.mem_cons, List.not_mem_nil, or_false] at hci
  rcases hci with rfl
  · exact ⟨⟨RX3, TX3, 19, "PennyQueue$Hour", rfl, by decide, uwX3, wd_173, Or.inl rfl, rfl, tyX3_ok, nmX3, rfl, (fun _ => rfl)⟩, rfl⟩
theorem fp_X3_36 : ∀ ci ∈ [3], FL RX3 36 ci 10 true ∧ tR (tyC ci 10) = true := by
  intro ci hci
  simp only [List.mem_cons, List.not_mem_nil, or_false] at hci
  rcases hci with rfl
  · exact ⟨⟨RX3, TX3, 19, "PennyQueue$Hour", rfl, by decide, uwX3, wd_166, Or.inl rfl, rfl, tyX3_ok, nmX3, rfl, (fun _ => rfl)⟩, rfl⟩
theorem fp_X3_44 : ∀ ci ∈ [3], FL RX3 44 ci 15 false ∧ tyC ci 15 = .int := by
  intro ci hci
  simp only [List.mem_cons, List.not_mem_nil, or_false] at hci
  rcases hci with rfl
  · exact ⟨⟨RX3, TX3, 19, "PennyQueue$Hour", rfl, by decide, uwX3, wd_171, Or.inl rfl, rfl, tyX3_ok, nmX3, rfl, (fun z => by cases z)⟩, rfl⟩
theorem fp_X3_59 : ∀ ci ∈ [3], FL RX3 59 ci 9 false ∧ tyC ci 9 = .int := by
  intro ci hci
  simp only [List.mem_cons, List.not_mem_nil, or_false] at hci
  rcases hci with rfl
  · exact ⟨⟨RX3, TX3, 19, "PennyQueue$Hour", rfl, by decide, uwX3, wd_164, Or.inl rfl, rfl, tyX3_ok, nmX3, rfl, (fun z => by cases z)⟩, rfl⟩
theorem fp_X3_68 : ∀ ci ∈ [3], FL RX3 68 ci 11 false ∧ tR (tyC ci 11) = true := by
  intro ci hci
  simp only [List.mem_cons, List.not_mem_nil, or_false] at hci
  rcases hci with rfl
  · exact ⟨⟨RX3, TX3, 19, "PennyQueue$Hour", rfl, by decide, uwX3, wd_167, Or.inl rfl, rfl, tyX3_ok, nmX3, rfl, (fun z => by cases z)⟩, rfl⟩
theorem fp_X3_72 : ∀ ci ∈ [3], FL RX3 72 ci 12 false ∧ tR (tyC ci 12) = true := by
  intro ci hci
  simp only [List.mem_cons, List.not_mem_nil, or_false] at hci
  rcases hci with rfl
  · exact ⟨⟨RX3, TX3, 19, "PennyQueue$Hour", rfl, by decide, uwX3, wd_168, Or.inl rfl, rfl, tyX3_ok, nmX3, rfl, (fun z => by cases z)⟩, rfl⟩
theorem fp_X3_76 : ∀ ci ∈ [3], FL RX3 76 ci 13 false ∧ tyC ci 13 = .int := by
  intro ci hci
  simp only [List.mem_cons, List.not_mem_nil, or_false] at hci
  rcases hci with rfl
  · exact ⟨⟨RX3, TX3, 19, "PennyQueue$Hour", rfl, by decide, uwX3, wd_169, Or.inl rfl, rfl, tyX3_ok, nmX3, rfl, (fun z => by cases z)⟩, rfl⟩
theorem fp_X3_79 : ∀ ci ∈ [3], FL RX3 79 ci 14 false ∧ tyC ci 14 = .int := by
  intro ci hci
  simp only [List.mem_cons, List.not_mem_nil, or_false] at hci
  rcases hci with rfl
  · exact ⟨⟨RX3, TX3, 19, "PennyQueue$Hour", rfl, by decide, uwX3, wd_170, Or.inl rfl, rfl, tyX3_ok, nmX3, rfl, (fun z => by cases z)⟩, rfl⟩
theorem fp_X3_82 : ∀ ci ∈ [3], FL RX3 82 ci 6 false ∧ tyC ci 6 = .int := by
  intro ci hci
  simp only [List.mem_cons, List.not_mem_nil, or_false] at hci
  rcases hci with rfl
  · exact ⟨⟨RX3, TX3, 19, "PennyQueue$Hour", rfl, by decide, uwX3, wd_158, Or.inl rfl, rfl, tyX3_ok, nmX3, rfl, (fun z => by cases z)⟩, rfl⟩
theorem fp_X3_85 : ∀ ci ∈ [3], FL RX3 85 ci 7 false ∧ tyC ci 7 = .int := by
  intro ci hci
  simp only [List.mem_cons, List.not_mem_nil, or_false] at hci
  rcases hci with rfl
  · exact ⟨⟨RX3, TX3, 19, "PennyQueue$Hour", rfl, by decide, uwX3, wd_160, Or.inl rfl, rfl, tyX3_ok, nmX3, rfl, (fun z => by cases z)⟩, rfl⟩
theorem fp_X3_88 : ∀ ci ∈ [3], FL RX3 88 ci 8 false ∧ tyC ci 8 = .int := by
  intro ci hci
  simp only [List.mem_cons, List.not_mem_nil, or_false] at hci
  rcases hci with rfl
  · exact ⟨⟨RX3, TX3, 19, "PennyQueue$Hour", rfl, by decide, uwX3, wd_162, Or.inl rfl, rfl, tyX3_ok, nmX3, rfl, (fun z => by cases z)⟩, rfl⟩
theorem fp_X3_9 : ∀ ci ∈ [3], FL RX3 9 ci 0 true ∧ tR (tyC ci 0) = true := by
  intro ci hci
  simp only [List.mem_cons, List.not_mem_nil, or_false] at hci
  rcases hci with rfl
  · exact ⟨⟨RX3, TX3, 19, "PennyQueue$Hour", rfl, by decide, uwX3, wd_146, Or.inl rfl, rfl, tyX3_ok, nmX3, rfl, (fun _ => rfl)⟩, rfl⟩
theorem fp_X3_91 : ∀ ci ∈ [3], FL RX3 91 ci 18 false ∧ tyC ci 18 = .int := by
  intro ci hci
  simp only [List.mem_cons, List.not_mem_nil, or_false] at hci
  rcases hci with rfl
  · exact ⟨⟨RX3, TX3, 19, "PennyQueue$Hour", rfl, by decide, uwX3, wd_174, Or.inl rfl, rfl, tyX3_ok, nmX3, rfl, (fun z => by cases z)⟩, rfl⟩
theorem fp_X5_13 : ∀ ci ∈ [5, 1, 2, 4, 6, 7, 9], FL RX5 13 ci 0 true ∧ tyC ci 0 = .int := by
  intro ci hci
  simp only [List.mem_cons, List.not_mem_nil, or_false] at hci
  rcases hci with rfl | rfl | rfl | rfl | rfl | rfl | rfl
  · exact ⟨⟨RX5, TX5, 4, "PennyQueue$Order", rfl, by decide, uwX5, wd_85, Or.inl rfl, rfl, tyX5_ok, nmX5, rfl, (fun _ => rfl)⟩, rfl⟩
  · exact ⟨⟨RX1, TX1, 4, "PennyQueue$Order", rfl, by decide, uwX1, wd_85, Or.inl rfl, rfl, tyX1_ok, nmX1, rfl, (fun _ => rfl)⟩, rfl⟩
  · exact ⟨⟨RX2, TX2, 4, "PennyQueue$Order", rfl, by decide, uwX2, wd_85, Or.inl rfl, rfl, tyX2_ok, nmX2, rfl, (fun _ => rfl)⟩, rfl⟩
  · exact ⟨⟨RX4, TX4, 4, "PennyQueue$Order", rfl, by decide, uwX4, wd_85, Or.inl rfl, rfl, tyX4_ok, nmX4, rfl, (fun _ => rfl)⟩, rfl⟩
  · exact ⟨⟨RX6, TX6, 4, "PennyQueue$Order", rfl, by decide, uwX6, wd_85, Or.inl rfl, rfl, tyX6_ok, nmX6, rfl, (fun _ => rfl)⟩, rfl⟩
  · exact ⟨⟨RX7, TX7, 4, "PennyQueue$Order", rfl, by decide, uwX7, wd_85, Or.inl rfl, rfl, tyX7_ok, nmX7, rfl, (fun _ => rfl)⟩, rfl⟩
  · exact ⟨⟨RX9, TX9, 5, "PennyQueue$Order", rfl, by decide, uwX9, wd_85, Or.inl rfl, rfl, tyX9_ok, nmX9, rfl, (fun _ => rfl)⟩, rfl⟩
theorem fp_X5_17 : ∀ ci ∈ [5, 1, 2, 4, 6, 7, 9], FL RX5 17 ci 1 true ∧ tyC ci 1 = .int := by
  intro ci hci
  simp only [List.mem_cons, List.not_mem_nil, or_false] at hci
  rcases hci with rfl | rfl | rfl | rfl | rfl | rfl | rfl
  · exact ⟨⟨RX5, TX5, 4, "PennyQueue$Order", rfl, by decide, uwX5, wd_88, Or.inl rfl, rfl, tyX5_ok, nmX5, rfl, (fun _ => rfl)⟩, rfl⟩
  · exact ⟨⟨RX1, TX1, 4, "PennyQueue$Order", rfl, by decide, uwX1, wd_88, Or.inl rfl, rfl, tyX1_ok, nmX1, rfl, (fun _ => rfl)⟩, rfl⟩
  · exact ⟨⟨RX2, TX2, 4, "PennyQueue$Order", rfl, by decide, uwX2, wd_88, Or.inl rfl, rfl, tyX2_ok, nmX2, rfl, (fun _ => rfl)⟩, rfl⟩
  · exact ⟨⟨RX4, TX4, 4, "PennyQueue$Order", rfl, by decide, uwX4, wd_88, Or.inl rfl, rfl, tyX4_ok, nmX4, rfl, (fun _ => rfl)⟩, rfl⟩
  · exact ⟨⟨RX6, TX6, 4, "PennyQueue$Order", rfl, by decide, uwX6, wd_88, Or.inl rfl, rfl, tyX6_ok, nmX6, rfl, (fun _ => rfl)⟩, rfl⟩
  · exact ⟨⟨RX7, TX7, 4, "PennyQueue$Order", rfl, by decide, uwX7, wd_88, Or.inl rfl, rfl, tyX7_ok, nmX7, rfl, (fun _ => rfl)⟩, rfl⟩
  · exact ⟨⟨RX9, TX9, 5, "PennyQueue$Order", rfl, by decide, uwX9, wd_88, Or.inl rfl, rfl, tyX9_ok, nmX9, rfl, (fun _ => rfl)⟩, rfl⟩
theorem fp_X5_29 : ∀ ci ∈ [5, 1, 2, 4, 6, 7, 9], FL RX5 29 ci 2 false ∧ tyC ci 2 = .int := by
  intro ci hci
  simp only [List.mem_cons, List.not_mem_nil, or_false] at hci
  rcases hci with rfl | rfl | rfl | rfl | rfl | rfl | rfl
  · exact ⟨⟨RX5, TX5, 4, "PennyQueue$Order", rfl, by decide, uwX5, wd_97, Or.inl rfl, rfl, tyX5_ok, nmX5, rfl, (fun z => by cases z)⟩, rfl⟩
  · exact ⟨⟨RX1, TX1, 4, "PennyQueue$Order", rfl, by decide, uwX1, wd_97, Or.inl rfl, rfl, tyX1_ok, nmX1, rfl, (fun z => by cases z)⟩, rfl⟩
  · exact ⟨⟨RX2, TX2, 4, "PennyQueue$Order", rfl, by decide, uwX2, wd_97, Or.inl rfl, rfl, tyX2_ok, nmX2, rfl, (fun z => by cases z)⟩, rfl⟩
  · exact ⟨⟨RX4, TX4, 4, "PennyQueue$Order", rfl, by decide, uwX4, wd_97, Or.inl rfl, rfl, tyX4_ok, nmX4, rfl, (fun z => by cases z)⟩, rfl⟩
  · exact ⟨⟨RX6, TX6, 4, "PennyQueue$Order", rfl, by decide, uwX6, wd_97, Or.inl rfl, rfl, tyX6_ok, nmX6, rfl, (fun z => by cases z)⟩, rfl⟩
  · exact ⟨⟨RX7, TX7, 4, "PennyQueue$Order", rfl, by decide, uwX7, wd_97, Or.inl rfl, rfl, tyX7_ok, nmX7, rfl, (fun z => by cases z)⟩, rfl⟩
  · exact ⟨⟨RX9, TX9, 5, "PennyQueue$Order", rfl, by decide, uwX9, wd_97, Or.inl rfl, rfl, tyX9_ok, nmX9, rfl, (fun z => by cases z)⟩, rfl⟩
theorem fp_X5_9 : ∀ ci ∈ [5, 1, 2, 4, 6, 7, 9], FL RX5 9 ci 3 true ∧ tR (tyC ci 3) = true := by
  intro ci hci
  simp only [List.mem_cons, List.not_mem_nil, or_false] at hci
  rcases hci with rfl | rfl | rfl | rfl | rfl | rfl | rfl
  · exact ⟨⟨RX5, TX5, 4, "PennyQueue$Order", rfl, by decide, uwX5, wd_99, Or.inl rfl, rfl, tyX5_ok, nmX5, rfl, (fun _ => rfl)⟩, rfl⟩
  · exact ⟨⟨RX1, TX1, 4, "PennyQueue$Order", rfl, by decide, uwX1, wd_99, Or.inl rfl, rfl, tyX1_ok, nmX1, rfl, (fun _ => rfl)⟩, rfl⟩
  · exact ⟨⟨RX2, TX2, 4, "PennyQueue$Order", rfl, by decide, uwX2, wd_99, Or.inl rfl, rfl, tyX2_ok, nmX2, rfl, (fun _ => rfl)⟩, rfl⟩
  · exact ⟨⟨RX4, TX4, 4, "PennyQueue$Order", rfl, by decide, uwX4, wd_99, Or.inl rfl, rfl, tyX4_ok, nmX4, rfl, (fun _ => rfl)⟩, rfl⟩
  · exact ⟨⟨RX6, TX6, 4, "PennyQueue$Order", rfl, by decide, uwX6, wd_99, Or.inl rfl, rfl, tyX6_ok, nmX6, rfl, (fun _ => rfl)⟩, rfl⟩
  · exact ⟨⟨RX7, TX7, 4, "PennyQueue$Order", rfl, by decide, uwX7, wd_99, Or.inl rfl, rfl, tyX7_ok, nmX7, rfl, (fun _ => rfl)⟩, rfl⟩
  · exact ⟨⟨RX9, TX9, 5, "PennyQueue$Order", rfl, by decide, uwX9, wd_99, Or.inl rfl, rfl, tyX9_ok, nmX9, rfl, (fun _ => rfl)⟩, rfl⟩
theorem fp_X8_11 : ∀ ci ∈ [8], FL RX8 11 ci 0 false ∧ tyC ci 0 = .int := by
  intro ci hci
  simp only [List.mem_cons, List.not_mem_nil, or_false] at hci
  rcases hci with rfl
  · exact ⟨⟨RX8, TX8, 3, "PennyQueue$Tape", rfl, by decide, uwX8, wd_221, Or.inl rfl, rfl, tyX8_ok, nmX8, rfl, (fun z => by cases z)⟩, rfl⟩
theorem fp_X8_15 : ∀ ci ∈ [8], FL RX8 15 ci 2 true ∧ tR (tyC ci 2) = true := by
  intro ci hci
  simp only [List.mem_cons, List.not_mem_nil, or_false] at hci
  rcases hci with rfl
  · exact ⟨⟨RX8, TX8, 3, "PennyQueue$Tape", rfl, by decide, uwX8, wd_225, Or.inl rfl, rfl, tyX8_ok, nmX8, rfl, (fun _ => rfl)⟩, rfl⟩
theorem fp_X8_19 : ∀ ci ∈ [8], FL RX8 19 ci 1 false ∧ tyC ci 1 = .int := by
  intro ci hci
  simp only [List.mem_cons, List.not_mem_nil, or_false] at hci
  rcases hci with rfl
  · exact ⟨⟨RX8, TX8, 3, "PennyQueue$Tape", rfl, by decide, uwX8, wd_223, Or.inl rfl, rfl, tyX8_ok, nmX8, rfl, (fun z => by cases z)⟩, rfl⟩
theorem fp_X9_9 : ∀ ci ∈ [9], FL RX9 9 ci 4 true ∧ tR (tyC ci 4) = true := by
  intro ci hci
  simp only [List.mem_cons, List.not_mem_nil, or_false] at hci
  rcases hci with rfl
  · exact ⟨⟨RX9, TX9, 5, "PennyQueue$Told", rfl, by decide, uwX9, wd_525, Or.inl rfl, rfl, tyX9_ok, nmX9, rfl, (fun _ => rfl)⟩, rfl⟩
theorem wb_J0_charAt_5068e : WB yJ0_charAt_5068e cJ0_charAt_5068e 2 (some .char) 1 := ⟨wd_350, wd_8, ⟨by decide, by decide⟩, by decide⟩
theorem wb_J0_checkIndex_df160 : WB yJ0_checkIndex_df160 cJ0_checkIndex_df160 2 none 2 := ⟨wd_360, wd_8, ⟨by decide, by decide⟩, by decide⟩
theorem wb_J0_coder_7d493 : WB yJ0_coder_7d493 cJ0_coder_7d493 1 (some .byte) 0 := ⟨wd_344, wd_8, ⟨by decide, by decide⟩, by decide⟩
theorem wb_J0_isLatin1_aae02 : WB yJ0_isLatin1_aae02 cJ0_isLatin1_aae02 1 (some .boolean) 0 := ⟨wd_354, wd_8, ⟨by decide, by decide⟩, by decide⟩
theorem wb_J0_length_8abf5 : WB yJ0_length_8abf5 cJ0_length_8abf5 1 (some .int) 0 := ⟨wd_340, wd_8, ⟨by decide, by decide⟩, by decide⟩
theorem wb_J1_charAt_3b067 : WB yJ1_charAt_3b067 cJ1_charAt_3b067 2 (some .char) 2 := ⟨wd_357, wd_9, ⟨by decide, by decide⟩, by decide⟩
theorem wb_J3_checkIndex_8e157 : WB yJ3_checkIndex_8e157 cJ3_checkIndex_8e157 3 (some .int) 3 := ⟨wd_365, wd_10, ⟨by decide, by decide⟩, by decide⟩
theorem wb_J7_fill_53178 : WB yJ7_fill_53178 cJ7_fill_53178 4 none 2 := ⟨wd_524, wd_19, ⟨by decide, by decide⟩, by decide⟩
theorem wb_J7_fill_d0a16 : WB yJ7_fill_d0a16 cJ7_fill_d0a16 5 none 2 := ⟨wd_957, wd_19, ⟨by decide, by decide⟩, by decide⟩
theorem wb_X0_become : WB yX0_become cX0_become 3 none 2 := ⟨wd_766, wd_4, ⟨by decide, by decide⟩, by decide⟩
theorem wb_X0_init : WB yX0_init cX0_init 1 none 0 := ⟨wd_114, wd_4, ⟨by decide, by decide⟩, by decide⟩
theorem wb_X0_tell : WB yX0_tell cX0_tell 3 none 2 := ⟨wd_449, wd_4, ⟨by decide, by decide⟩, by decide⟩
theorem wb_X10_both : WB yX10_both cX10_both 3 (some .boolean) 1 := ⟨wd_396, wd_2, ⟨by decide, by decide⟩, by decide⟩
theorem wb_X10_calls : WB yX10_calls cX10_calls 8 (some .boolean) 5 := ⟨wd_660, wd_2, ⟨by decide, by decide⟩, by decide⟩
theorem wb_X10_comeClause : WB yX10_comeClause cX10_comeClause 2 (some .boolean) 0 := ⟨wd_331, wd_2, ⟨by decide, by decide⟩, by decide⟩
theorem wb_X10_digit : WB yX10_digit cX10_digit 1 (some .int) 0 := ⟨wd_388, wd_2, ⟨by decide, by decide⟩, by decide⟩
theorem wb_X10_either : WB yX10_either cX10_either 3 (some .boolean) 1 := ⟨wd_392, wd_2, ⟨by decide, by decide⟩, by decide⟩
theorem wb_X10_factor : WB yX10_factor cX10_factor 2 (some .boolean) 1 := ⟨wd_400, wd_2, ⟨by decide, by decide⟩, by decide⟩
theorem wb_X10_holds : WB yX10_holds cX10_holds 13 (some .boolean) 6 := ⟨wd_664, wd_2, ⟨by decide, by decide⟩, by decide⟩
theorem wb_X10_init : WB yX10_init cX10_init 1 none 0 := ⟨wd_36, wd_2, ⟨by decide, by decide⟩, by decide⟩
theorem wb_X10_number : WB yX10_number cX10_number 3 (some .int) 0 := ⟨wd_418, wd_2, ⟨by decide, by decide⟩, by decide⟩
theorem wb_X10_numberClause : WB yX10_numberClause cX10_numberClause 3 (some .boolean) 0 := ⟨wd_422, wd_2, ⟨by decide, by decide⟩, by decide⟩
theorem wb_X10_numberWord : WB yX10_numberWord cX10_numberWord 1 (some .int) 0 := ⟨wd_426, wd_2, ⟨by decide, by decide⟩, by decide⟩
theorem wb_X10_oneOf : WB yX10_oneOf cX10_oneOf 3 (some .int) 1 := ⟨wd_413, wd_2, ⟨by decide, by decide⟩, by decide⟩
theorem wb_X10_parse : WB yX10_parse cX10_parse 5 (some .int) 2 := ⟨wd_323, wd_2, ⟨by decide, by decide⟩, by decide⟩
theorem wb_X10_skip : WB yX10_skip cX10_skip 2 (some .boolean) 1 := ⟨wd_327, wd_2, ⟨by decide, by decide⟩, by decide⟩
theorem wb_X10_step : WB yX10_step cX10_step 2 none 1 := ⟨wd_404, wd_2, ⟨by decide, by decide⟩, by decide⟩
theorem wb_X10_test : WB yX10_test cX10_test 4 (some .boolean) 0 := ⟨wd_408, wd_2, ⟨by decide, by decide⟩, by decide⟩
theorem wb_X10_tested : WB yX10_tested cX10_tested 3 (some .boolean) 3 := ⟨wd_667, wd_2, ⟨by decide, by decide⟩, by decide⟩
theorem wb_X10_word : WB yX10_word cX10_word 3 (some .boolean) 1 := ⟨wd_336, wd_2, ⟨by decide, by decide⟩, by decide⟩
theorem wb_X11_chance : WB yX11_chance cX11_chance 6 (some .long) 1 := ⟨wd_786, wd_1, ⟨by decide, by decide⟩, by decide⟩
theorem wb_X11_goThrough : WB yX11_goThrough cX11_goThrough 2 none 1 := ⟨wd_549, wd_1, ⟨by decide, by decide⟩, by decide⟩
theorem wb_X11_goThroughWith : WB yX11_goThroughWith cX11_goThroughWith 5 none 4 := ⟨wd_553, wd_1, ⟨by decide, by decide⟩, by decide⟩
theorem wb_X11_held : WB yX11_held cX11_held 1 (some (.object "PennyQueue$Window")) 0 := ⟨wd_441, wd_1, ⟨by decide, by decide⟩, by decide⟩
theorem wb_X11_isOf : WB yX11_isOf cX11_isOf 2 (some .boolean) 2 := ⟨wd_919, wd_1, ⟨by decide, by decide⟩, by decide⟩
theorem wb_X11_made : WB yX11_made cX11_made 3 (some (.object "PennyQueue$Order")) 3 := ⟨wd_460, wd_1, ⟨by decide, by decide⟩, by decide⟩
theorem wb_X11_noSort : WB yX11_noSort cX11_noSort 2 (some .boolean) 1 := ⟨wd_307, wd_1, ⟨by decide, by decide⟩, by decide⟩
theorem wb_X11_orderAt : WB yX11_orderAt cX11_orderAt 2 (some (.object "PennyQueue$Order")) 1 := ⟨wd_541, wd_1, ⟨by decide, by decide⟩, by decide⟩
theorem wb_X11_outside : WB yX11_outside cX11_outside 3 (some .boolean) 3 := ⟨wd_299, wd_1, ⟨by decide, by decide⟩, by decide⟩
theorem wb_X11_reduced : WB yX11_reduced cX11_reduced 6 (some .long) 3 := ⟨wd_790, wd_1, ⟨by decide, by decide⟩, by decide⟩
theorem wb_X11_tapeAt : WB yX11_tapeAt cX11_tapeAt 2 (some (.object "PennyQueue$Tape")) 1 := ⟨wd_800, wd_1, ⟨by decide, by decide⟩, by decide⟩
theorem wb_X12_behind : WB yX12_behind cX12_behind 1 (some .int) 0 := ⟨wd_1295, wd_7, ⟨by decide, by decide⟩, by decide⟩
theorem wb_X12_body : WB yX12_body cX12_body 2 none 1 := ⟨wd_1456, wd_7, ⟨by decide, by decide⟩, by decide⟩
theorem wb_X12_choose : WB yX12_choose cX12_choose 13 (some .int) 2 := ⟨wd_1336, wd_7, ⟨by decide, by decide⟩, by decide⟩
theorem wb_X12_comes : WB yX12_comes cX12_comes 4 (some .boolean) 2 := ⟨wd_1348, wd_7, ⟨by decide, by decide⟩, by decide⟩
theorem wb_X12_divisor : WB yX12_divisor cX12_divisor 11 (some .long) 2 := ⟨wd_1428, wd_7, ⟨by decide, by decide⟩, by decide⟩
theorem wb_X12_first : WB yX12_first cX12_first 1 (some .int) 0 := ⟨wd_1291, wd_7, ⟨by decide, by decide⟩, by decide⟩
theorem wb_X12_firstTakes : WB yX12_firstTakes cX12_firstTakes 3 (some .int) 2 := ⟨wd_1468, wd_7, ⟨by decide, by decide⟩, by decide⟩
theorem wb_X12_go : WB yX12_go cX12_go 6 none 4 := ⟨wd_1324, wd_7, ⟨by decide, by decide⟩, by decide⟩
theorem wb_X12_goPlainly : WB yX12_goPlainly cX12_goPlainly 2 none 1 := ⟨wd_1319, wd_7, ⟨by decide, by decide⟩, by decide⟩
theorem wb_X12_goesText : WB yX12_goesText cX12_goesText 3 (some .boolean) 1 := ⟨wd_1223, wd_7, ⟨by decide, by decide⟩, by decide⟩
theorem wb_X12_holds : WB yX12_holds cX12_holds 8 (some .boolean) 2 := ⟨wd_1352, wd_7, ⟨by decide, by decide⟩, by decide⟩
theorem wb_X12_in : WB yX12_in cX12_in 4 (some .boolean) 3 := ⟨wd_1191, wd_7, ⟨by decide, by decide⟩, by decide⟩
theorem wb_X12_inLine : WB yX12_inLine cX12_inLine 4 (some .int) 1 := ⟨wd_1376, wd_7, ⟨by decide, by decide⟩, by decide⟩
theorem wb_X12_isDigit : WB yX12_isDigit cX12_isDigit 1 (some .boolean) 0 := ⟨wd_1264, wd_7, ⟨by decide, by decide⟩, by decide⟩
theorem wb_X12_isFirst : WB yX12_isFirst cX12_isFirst 2 (some .boolean) 1 := ⟨wd_1364, wd_7, ⟨by decide, by decide⟩, by decide⟩
theorem wb_X12_isOrder : WB yX12_isOrder cX12_isOrder 2 (some .boolean) 1 := ⟨wd_1311, wd_7, ⟨by decide, by decide⟩, by decide⟩
theorem wb_X12_isSort : WB yX12_isSort cX12_isSort 2 (some .boolean) 1 := ⟨wd_1199, wd_7, ⟨by decide, by decide⟩, by decide⟩
theorem wb_X12_isTape : WB yX12_isTape cX12_isTape 2 (some .boolean) 1 := ⟨wd_1436, wd_7, ⟨by decide, by decide⟩, by decide⟩
theorem wb_X12_joins : WB yX12_joins cX12_joins 5 none 2 := ⟨wd_1332, wd_7, ⟨by decide, by decide⟩, by decide⟩
theorem wb_X12_joinsAct : WB yX12_joinsAct cX12_joinsAct 3 (some .int) 2 := ⟨wd_1452, wd_7, ⟨by decide, by decide⟩, by decide⟩
theorem wb_X12_last : WB yX12_last cX12_last 6 (some .int) 3 := ⟨wd_1287, wd_7, ⟨by decide, by decide⟩, by decide⟩
theorem wb_X12_lossOf : WB yX12_lossOf cX12_lossOf 4 (some .int) 1 := ⟨wd_1400, wd_7, ⟨by decide, by decide⟩, by decide⟩
theorem wb_X12_lost : WB yX12_lost cX12_lost 3 (some .int) 0 := ⟨wd_1380, wd_7, ⟨by decide, by decide⟩, by decide⟩
theorem wb_X12_min : WB yX12_min cX12_min 3 (some .int) 2 := ⟨wd_1299, wd_7, ⟨by decide, by decide⟩, by decide⟩
theorem wb_X12_narrow : WB yX12_narrow cX12_narrow 4 (some .long) 2 := ⟨wd_1504, wd_7, ⟨by decide, by decide⟩, by decide⟩
theorem wb_X12_next : WB yX12_next cX12_next 1 (some .int) 0 := ⟨wd_1235, wd_7, ⟨by decide, by decide⟩, by decide⟩
theorem wb_X12_nextLine : WB yX12_nextLine cX12_nextLine 3 (some .int) 1 := ⟨wd_1360, wd_7, ⟨by decide, by decide⟩, by decide⟩
theorem wb_X12_pence : WB yX12_pence cX12_pence 3 (some .int) 0 := ⟨wd_1384, wd_7, ⟨by decide, by decide⟩, by decide⟩
theorem wb_X12_place : WB yX12_place cX12_place 2 (some .int) 1 := ⟨wd_1256, wd_7, ⟨by decide, by decide⟩, by decide⟩
theorem wb_X12_plainJoins : WB yX12_plainJoins cX12_plainJoins 3 (some .int) 2 := ⟨wd_1460, wd_7, ⟨by decide, by decide⟩, by decide⟩
theorem wb_X12_plainTakes : WB yX12_plainTakes cX12_plainTakes 3 (some .int) 2 := ⟨wd_1472, wd_7, ⟨by decide, by decide⟩, by decide⟩
theorem wb_X12_plainTells : WB yX12_plainTells cX12_plainTells 3 (some .int) 2 := ⟨wd_1480, wd_7, ⟨by decide, by decide⟩, by decide⟩
theorem wb_X12_put : WB yX12_put cX12_put 2 none 1 := ⟨wd_1268, wd_7, ⟨by decide, by decide⟩, by decide⟩
theorem wb_X12_settle : WB yX12_settle cX12_settle 2 none 1 := ⟨wd_1276, wd_7, ⟨by decide, by decide⟩, by decide⟩
theorem wb_X12_standing : WB yX12_standing cX12_standing 2 (some .int) 1 := ⟨wd_1328, wd_7, ⟨by decide, by decide⟩, by decide⟩
theorem wb_X12_takes : WB yX12_takes cX12_takes 4 none 1 := ⟨wd_1356, wd_7, ⟨by decide, by decide⟩, by decide⟩
theorem wb_X12_takesAct : WB yX12_takesAct cX12_takesAct 4 (some .int) 2 := ⟨wd_1464, wd_7, ⟨by decide, by decide⟩, by decide⟩
theorem wb_X12_takesClause : WB yX12_takesClause cX12_takesClause 3 (some .boolean) 1 := ⟨wd_1227, wd_7, ⟨by decide, by decide⟩, by decide⟩
theorem wb_X12_takesE : WB yX12_takesE cX12_takesE 4 (some .boolean) 1 := ⟨wd_1248, wd_7, ⟨by decide, by decide⟩, by decide⟩
theorem wb_X12_takesNumber : WB yX12_takesNumber cX12_takesNumber 2 (some .boolean) 0 := ⟨wd_1260, wd_7, ⟨by decide, by decide⟩, by decide⟩
theorem wb_X12_takesSign : WB yX12_takesSign cX12_takesSign 2 (some .boolean) 1 := ⟨wd_1244, wd_7, ⟨by decide, by decide⟩, by decide⟩
theorem wb_X12_takesTest : WB yX12_takesTest cX12_takesTest 3 (some .boolean) 0 := ⟨wd_1252, wd_7, ⟨by decide, by decide⟩, by decide⟩
theorem wb_X12_takesWord : WB yX12_takesWord cX12_takesWord 4 (some .boolean) 2 := ⟨wd_1240, wd_7, ⟨by decide, by decide⟩, by decide⟩
theorem wb_X12_tellsAct : WB yX12_tellsAct cX12_tellsAct 4 (some .int) 2 := ⟨wd_1476, wd_7, ⟨by decide, by decide⟩, by decide⟩
theorem wb_X12_third : WB yX12_third cX12_third 1 (some .int) 0 := ⟨wd_1231, wd_7, ⟨by decide, by decide⟩, by decide⟩
theorem wb_X12_timeOf : WB yX12_timeOf cX12_timeOf 2 (some .int) 1 := ⟨wd_1344, wd_7, ⟨by decide, by decide⟩, by decide⟩
theorem wb_X12_timesIn : WB yX12_timesIn cX12_timesIn 4 (some .int) 1 := ⟨wd_1340, wd_7, ⟨by decide, by decide⟩, by decide⟩
theorem wb_X12_told : WB yX12_told cX12_told 2 (some .int) 1 := ⟨wd_1283, wd_7, ⟨by decide, by decide⟩, by decide⟩
theorem wb_X12_whole : WB yX12_whole cX12_whole 1 none 0 := ⟨wd_1272, wd_7, ⟨by decide, by decide⟩, by decide⟩
theorem wb_X1_aheadOfPaying : WB yX1_aheadOfPaying cX1_aheadOfPaying 3 (some .int) 2 := ⟨wd_627, wd_13, ⟨by decide, by decide⟩, by decide⟩
theorem wb_X1_init : WB yX1_init cX1_init 3 none 2 := ⟨wd_465, wd_13, ⟨by decide, by decide⟩, by decide⟩
theorem wb_X1_kind : WB yX1_kind cX1_kind 1 (some .int) 0 := ⟨wd_926, wd_13, ⟨by decide, by decide⟩, by decide⟩
theorem wb_X1_next : WB yX1_next cX1_next 4 (some .int) 3 := ⟨wd_682, wd_13, ⟨by decide, by decide⟩, by decide⟩
theorem wb_X1_takes : WB yX1_takes cX1_takes 2 (some .int) 1 := ⟨wd_859, wd_13, ⟨by decide, by decide⟩, by decide⟩
theorem wb_X2_init : WB yX2_init cX2_init 3 none 2 := ⟨wd_509, wd_17, ⟨by decide, by decide⟩, by decide⟩
theorem wb_X2_kind : WB yX2_kind cX2_kind 1 (some .int) 0 := ⟨wd_929, wd_17, ⟨by decide, by decide⟩, by decide⟩
theorem wb_X2_tells : WB yX2_tells cX2_tells 2 (some .int) 1 := ⟨wd_886, wd_17, ⟨by decide, by decide⟩, by decide⟩
theorem wb_X2_turnsAway : WB yX2_turnsAway cX2_turnsAway 2 (some .boolean) 1 := ⟨wd_643, wd_17, ⟨by decide, by decide⟩, by decide⟩
theorem wb_X3_back : WB yX3_back cX3_back 2 (some .int) 0 := ⟨wd_725, wd_5, ⟨by decide, by decide⟩, by decide⟩
theorem wb_X3_begin : WB yX3_begin cX3_begin 5 none 4 := ⟨wd_561, wd_5, ⟨by decide, by decide⟩, by decide⟩
theorem wb_X3_comeByHand : WB yX3_comeByHand cX3_comeByHand 3 none 1 := ⟨wd_566, wd_5, ⟨by decide, by decide⟩, by decide⟩
theorem wb_X3_comeByText : WB yX3_comeByText cX3_comeByText 3 none 1 := ⟨wd_656, wd_5, ⟨by decide, by decide⟩, by decide⟩
theorem wb_X3_enter : WB yX3_enter cX3_enter 4 none 1 := ⟨wd_574, wd_5, ⟨by decide, by decide⟩, by decide⟩
theorem wb_X3_firstOf : WB yX3_firstOf cX3_firstOf 3 (some .int) 1 := ⟨wd_675, wd_5, ⟨by decide, by decide⟩, by decide⟩
theorem wb_X3_howMany : WB yX3_howMany cX3_howMany 4 (some .int) 1 := ⟨wd_712, wd_5, ⟨by decide, by decide⟩, by decide⟩
theorem wb_X3_init : WB yX3_init cX3_init 2 none 1 := ⟨wd_144, wd_5, ⟨by decide, by decide⟩, by decide⟩
theorem wb_X3_lineFor : WB yX3_lineFor cX3_lineFor 13 (some .int) 2 := ⟨wd_604, wd_5, ⟨by decide, by decide⟩, by decide⟩
theorem wb_X3_lossOf : WB yX3_lossOf cX3_lossOf 4 (some .int) 1 := ⟨wd_748, wd_5, ⟨by decide, by decide⟩, by decide⟩
theorem wb_X3_lost : WB yX3_lost cX3_lost 3 (some .int) 0 := ⟨wd_716, wd_5, ⟨by decide, by decide⟩, by decide⟩
theorem wb_X3_pass : WB yX3_pass cX3_pass 8 none 6 := ⟨wd_557, wd_5, ⟨by decide, by decide⟩, by decide⟩
theorem wb_X3_pence : WB yX3_pence cX3_pence 3 (some .int) 0 := ⟨wd_721, wd_5, ⟨by decide, by decide⟩, by decide⟩
theorem wb_X3_rank : WB yX3_rank cX3_rank 3 (some .int) 1 := ⟨wd_700, wd_5, ⟨by decide, by decide⟩, by decide⟩
theorem wb_X3_roomForMore : WB yX3_roomForMore cX3_roomForMore 1 (some .boolean) 0 := ⟨wd_570, wd_5, ⟨by decide, by decide⟩, by decide⟩
theorem wb_X3_sales : WB yX3_sales cX3_sales 5 (some .int) 0 := ⟨wd_777, wd_5, ⟨by decide, by decide⟩, by decide⟩
theorem wb_X3_serve : WB yX3_serve cX3_serve 4 none 0 := ⟨wd_671, wd_5, ⟨by decide, by decide⟩, by decide⟩
theorem wb_X3_stoodAt : WB yX3_stoodAt cX3_stoodAt 5 (some .int) 2 := ⟨wd_735, wd_5, ⟨by decide, by decide⟩, by decide⟩
theorem wb_X3_timeOf : WB yX3_timeOf cX3_timeOf 2 (some .int) 1 := ⟨wd_652, wd_5, ⟨by decide, by decide⟩, by decide⟩
theorem wb_X3_waits : WB yX3_waits cX3_waits 2 (some .int) 1 := ⟨wd_696, wd_5, ⟨by decide, by decide⟩, by decide⟩
theorem wb_X4_asks : WB yX4_asks cX4_asks 3 (some .int) 2 := ⟨wd_583, wd_15, ⟨by decide, by decide⟩, by decide⟩
theorem wb_X4_init : WB yX4_init cX4_init 3 none 2 := ⟨wd_487, wd_15, ⟨by decide, by decide⟩, by decide⟩
theorem wb_X4_joins : WB yX4_joins cX4_joins 2 (some .int) 1 := ⟨wd_825, wd_15, ⟨by decide, by decide⟩, by decide⟩
theorem wb_X4_kind : WB yX4_kind cX4_kind 1 (some .int) 0 := ⟨wd_932, wd_15, ⟨by decide, by decide⟩, by decide⟩
theorem wb_X4_takes : WB yX4_takes cX4_takes 2 (some .int) 1 := ⟨wd_869, wd_15, ⟨by decide, by decide⟩, by decide⟩
theorem wb_X5_aheadOfPaying : WB yX5_aheadOfPaying cX5_aheadOfPaying 3 (some .int) 2 := ⟨wd_635, wd_3, ⟨by decide, by decide⟩, by decide⟩
theorem wb_X5_asks : WB yX5_asks cX5_asks 3 (some .int) 2 := ⟨wd_587, wd_3, ⟨by decide, by decide⟩, by decide⟩
theorem wb_X5_began : WB yX5_began cX5_began 2 none 1 := ⟨wd_831, wd_3, ⟨by decide, by decide⟩, by decide⟩
theorem wb_X5_due : WB yX5_due cX5_due 3 (some .int) 2 := ⟨wd_600, wd_3, ⟨by decide, by decide⟩, by decide⟩
theorem wb_X5_init : WB yX5_init cX5_init 3 none 2 := ⟨wd_83, wd_3, ⟨by decide, by decide⟩, by decide⟩
theorem wb_X5_joins : WB yX5_joins cX5_joins 2 (some .int) 1 := ⟨wd_851, wd_3, ⟨by decide, by decide⟩, by decide⟩
theorem wb_X5_kind : WB yX5_kind cX5_kind 1 (some .int) 0 := ⟨wd_942, wd_3, ⟨by decide, by decide⟩, by decide⟩
theorem wb_X5_lineTold : WB yX5_lineTold cX5_lineTold 2 (some .int) 1 := ⟨wd_617, wd_3, ⟨by decide, by decide⟩, by decide⟩
theorem wb_X5_next : WB yX5_next cX5_next 4 (some .int) 3 := ⟨wd_690, wd_3, ⟨by decide, by decide⟩, by decide⟩
theorem wb_X5_takes : WB yX5_takes cX5_takes 2 (some .int) 1 := ⟨wd_877, wd_3, ⟨by decide, by decide⟩, by decide⟩
theorem wb_X5_tells : WB yX5_tells cX5_tells 2 (some .int) 1 := ⟨wd_907, wd_3, ⟨by decide, by decide⟩, by decide⟩
theorem wb_X5_turnsAway : WB yX5_turnsAway cX5_turnsAway 2 (some .boolean) 1 := ⟨wd_648, wd_3, ⟨by decide, by decide⟩, by decide⟩
theorem wb_X6_due : WB yX6_due cX6_due 3 (some .int) 2 := ⟨wd_597, wd_16, ⟨by decide, by decide⟩, by decide⟩
theorem wb_X6_init : WB yX6_init cX6_init 3 none 2 := ⟨wd_498, wd_16, ⟨by decide, by decide⟩, by decide⟩
theorem wb_X6_kind : WB yX6_kind cX6_kind 1 (some .int) 0 := ⟨wd_935, wd_16, ⟨by decide, by decide⟩, by decide⟩
theorem wb_X6_tells : WB yX6_tells cX6_tells 2 (some .int) 1 := ⟨wd_898, wd_16, ⟨by decide, by decide⟩, by decide⟩
theorem wb_X7_aheadOfPaying : WB yX7_aheadOfPaying cX7_aheadOfPaying 3 (some .int) 2 := ⟨wd_632, wd_14, ⟨by decide, by decide⟩, by decide⟩
theorem wb_X7_init : WB yX7_init cX7_init 3 none 2 := ⟨wd_476, wd_14, ⟨by decide, by decide⟩, by decide⟩
theorem wb_X7_joins : WB yX7_joins cX7_joins 2 (some .int) 1 := ⟨wd_837, wd_14, ⟨by decide, by decide⟩, by decide⟩
theorem wb_X7_kind : WB yX7_kind cX7_kind 1 (some .int) 0 := ⟨wd_938, wd_14, ⟨by decide, by decide⟩, by decide⟩
theorem wb_X7_next : WB yX7_next cX7_next 4 (some .int) 3 := ⟨wd_687, wd_14, ⟨by decide, by decide⟩, by decide⟩
theorem wb_X8_become : WB yX8_become cX8_become 3 none 2 := ⟨wd_954, wd_6, ⟨by decide, by decide⟩, by decide⟩
theorem wb_X8_fitted : WB yX8_fitted cX8_fitted 3 (some .long) 1 := ⟨wd_965, wd_6, ⟨by decide, by decide⟩, by decide⟩
theorem wb_X8_init : WB yX8_init cX8_init 1 none 0 := ⟨wd_219, wd_6, ⟨by decide, by decide⟩, by decide⟩
theorem wb_X8_lacks : WB yX8_lacks cX8_lacks 3 (some .boolean) 1 := ⟨wd_804, wd_6, ⟨by decide, by decide⟩, by decide⟩
theorem wb_X9_init : WB yX9_init cX9_init 3 none 2 := ⟨wd_520, wd_18, ⟨by decide, by decide⟩, by decide⟩
theorem wb_X9_joins : WB yX9_joins cX9_joins 2 (some .int) 1 := ⟨wd_846, wd_18, ⟨by decide, by decide⟩, by decide⟩
theorem wb_X9_kind : WB yX9_kind cX9_kind 1 (some .int) 0 := ⟨wd_941, wd_18, ⟨by decide, by decide⟩, by decide⟩
theorem wb_X9_lineTold : WB yX9_lineTold cX9_lineTold 2 (some .int) 1 := ⟨wd_616, wd_18, ⟨by decide, by decide⟩, by decide⟩
theorem wb_X9_takes : WB yX9_takes cX9_takes 2 (some .int) 1 := ⟨wd_875, wd_18, ⟨by decide, by decide⟩, by decide⟩
theorem wi_X11_306 : WIn RX11 306 yX1_init := ⟨wd_463, wd_464, rfl⟩
theorem wi_X11_309 : WIn RX11 309 yX7_init := ⟨wd_474, wd_475, rfl⟩
theorem wi_X11_312 : WIn RX11 312 yX4_init := ⟨wd_485, wd_486, rfl⟩
theorem wi_X11_315 : WIn RX11 315 yX6_init := ⟨wd_496, wd_497, rfl⟩
theorem wi_X11_318 : WIn RX11 318 yX2_init := ⟨wd_507, wd_508, rfl⟩
theorem wi_X11_319 : WIn RX11 319 yX9_init := ⟨wd_518, wd_519, rfl⟩
theorem wi_X11_37 : WIn RX11 37 yX5_init := ⟨wd_81, wd_82, rfl⟩
theorem wi_X11_59 : WIn RX11 59 yX3_init := ⟨wd_142, wd_143, rfl⟩
theorem wi_X1_1 : WIn RX1 1 yX5_init := ⟨wd_466, wd_82, rfl⟩
theorem wi_X2_1 : WIn RX2 1 yX5_init := ⟨wd_510, wd_82, rfl⟩
theorem wi_X4_1 : WIn RX4 1 yX1_init := ⟨wd_488, wd_464, rfl⟩
theorem wi_X6_1 : WIn RX6 1 yX7_init := ⟨wd_499, wd_475, rfl⟩
theorem wi_X7_1 : WIn RX7 1 yX5_init := ⟨wd_477, wd_82, rfl⟩
theorem wi_X9_1 : WIn RX9 1 yX1_init := ⟨wd_521, wd_464, rfl⟩
theorem wn_X11_26 : WIN RX11 26 yX10_init := ⟨rfl, by decide, wd_35, rfl⟩
theorem wn_X11_46 : WIN RX11 46 yX0_init := ⟨rfl, by decide, wd_113, rfl⟩
theorem wn_X11_76 : WIN RX11 76 yX8_init := ⟨rfl, by decide, wd_218, rfl⟩
theorem wsg_X4_17 : WSg RX4 17 ⟨"PennyQueue$First", "joins", "(I)I"⟩ yX5_joins := ⟨wd_832, wd_833, wd_493, wd_471, wd_818, by decide, rfl, rfl⟩
theorem wsg_X6_17 : WSg RX6 17 ⟨"PennyQueue$Share", "tells", "(I)I"⟩ yX5_tells := ⟨wd_902, wd_903, wd_504, wd_482, wd_880, by decide, rfl, rfl⟩
theorem wsg_X9_27 : WSg RX9 27 ⟨"PennyQueue$First", "joins", "(I)I"⟩ yX5_joins := ⟨wd_850, wd_833, wd_533, wd_471, wd_818, by decide, rfl, rfl⟩
theorem wsu_X1_13 : WSu RX1 13 yX5_takes := ⟨wd_865, wd_856, wd_471, wd_854, by decide⟩
theorem wsu_X2_17 : WSu RX2 17 yX5_tells := ⟨wd_890, wd_882, wd_515, wd_880, by decide⟩
theorem wsu_X4_21 : WSu RX4 21 yX1_takes := ⟨wd_870, wd_1522, wd_493, wd_858, by decide⟩
theorem wsu_X7_17 : WSu RX7 17 yX5_joins := ⟨wd_842, wd_820, wd_482, wd_818, by decide⟩
theorem wsu_X9_23 : WSu RX9 23 yX1_takes := ⟨wd_876, wd_1522, wd_533, wd_858, by decide⟩
theorem wt_J0_1059 : WSt RJ0 1059 yJ3_checkIndex_8e157 := ⟨wd_363, wd_364⟩
theorem wt_J0_495 : WSt RJ0 495 yJ1_charAt_3b067 := ⟨wd_355, wd_356⟩
theorem wt_J1_9 : WSt RJ1 9 yJ0_checkIndex_df160 := ⟨wd_358, wd_359⟩
theorem wt_X10_62 : WSt RX10 62 yX10_tested := ⟨wd_665, wd_666⟩
theorem wt_X11_127 : WSt RX11 127 yX11_made := ⟨wd_458, wd_459⟩
theorem wt_X11_225 : WSt RX11 225 yX11_reduced := ⟨wd_788, wd_789⟩
theorem wt_X11_269 : WSt RX11 269 yX11_isOf := ⟨wd_917, wd_918⟩
theorem wt_X11_77 : WSt RX11 77 yX11_outside := ⟨wd_297, wd_298⟩
theorem wt_X3_94 : WSt RX3 94 yJ7_fill_53178 := ⟨wd_562, wd_523⟩
theorem wt_X8_22 : WSt RX8 22 yJ7_fill_d0a16 := ⟨wd_955, wd_956⟩
theorem wt_X9_13 : WSt RX9 13 yJ7_fill_53178 := ⟨wd_522, wd_523⟩
theorem wu_X11_257_1 : WUp RX11 257 RX1 "PennyQueue$Order" ⟨"PennyQueue$Order", "joins", "(I)I"⟩ yX5_joins 1 := ⟨wd_817, wd_820, wd_821, wd_818, wd_818, ⟨_, _, _, wd_851⟩, ⟨by decide, by decide⟩, by decide⟩
theorem wu_X11_257_2 : WUp RX11 257 RX2 "PennyQueue$Order" ⟨"PennyQueue$Order", "joins", "(I)I"⟩ yX5_joins 1 := ⟨wd_817, wd_820, wd_822, wd_818, wd_818, ⟨_, _, _, wd_851⟩, ⟨by decide, by decide⟩, by decide⟩
theorem wu_X11_257_4 : WUp RX11 257 RX4 "PennyQueue$Order" ⟨"PennyQueue$Order", "joins", "(I)I"⟩ yX4_joins 1 := ⟨wd_817, wd_820, wd_823, wd_824, wd_818, ⟨_, _, _, wd_851⟩, ⟨by decide, by decide⟩, by decide⟩
theorem wu_X11_257_6 : WUp RX11 257 RX6 "PennyQueue$Order" ⟨"PennyQueue$Order", "joins", "(I)I"⟩ yX7_joins 1 := ⟨wd_817, wd_820, wd_835, wd_836, wd_818, ⟨_, _, _, wd_851⟩, ⟨by decide, by decide⟩, by decide⟩
theorem wu_X11_257_7 : WUp RX11 257 RX7 "PennyQueue$Order" ⟨"PennyQueue$Order", "joins", "(I)I"⟩ yX7_joins 1 := ⟨wd_817, wd_820, wd_843, wd_836, wd_818, ⟨_, _, _, wd_851⟩, ⟨by decide, by decide⟩, by decide⟩
theorem wu_X11_257_9 : WUp RX11 257 RX9 "PennyQueue$Order" ⟨"PennyQueue$Order", "joins", "(I)I"⟩ yX9_joins 1 := ⟨wd_817, wd_820, wd_844, wd_845, wd_818, ⟨_, _, _, wd_851⟩, ⟨by decide, by decide⟩, by decide⟩
theorem wu_X11_260_1 : WUp RX11 260 RX1 "PennyQueue$Order" ⟨"PennyQueue$Order", "takes", "(I)I"⟩ yX1_takes 1 := ⟨wd_853, wd_856, wd_857, wd_858, wd_854, ⟨_, _, _, wd_877⟩, ⟨by decide, by decide⟩, by decide⟩
theorem wu_X11_260_2 : WUp RX11 260 RX2 "PennyQueue$Order" ⟨"PennyQueue$Order", "takes", "(I)I"⟩ yX5_takes 1 := ⟨wd_853, wd_856, wd_866, wd_854, wd_854, ⟨_, _, _, wd_877⟩, ⟨by decide, by decide⟩, by decide⟩
theorem wu_X11_260_4 : WUp RX11 260 RX4 "PennyQueue$Order" ⟨"PennyQueue$Order", "takes", "(I)I"⟩ yX4_takes 1 := ⟨wd_853, wd_856, wd_867, wd_868, wd_854, ⟨_, _, _, wd_877⟩, ⟨by decide, by decide⟩, by decide⟩
theorem wu_X11_260_6 : WUp RX11 260 RX6 "PennyQueue$Order" ⟨"PennyQueue$Order", "takes", "(I)I"⟩ yX5_takes 1 := ⟨wd_853, wd_856, wd_871, wd_854, wd_854, ⟨_, _, _, wd_877⟩, ⟨by decide, by decide⟩, by decide⟩
theorem wu_X11_260_7 : WUp RX11 260 RX7 "PennyQueue$Order" ⟨"PennyQueue$Order", "takes", "(I)I"⟩ yX5_takes 1 := ⟨wd_853, wd_856, wd_872, wd_854, wd_854, ⟨_, _, _, wd_877⟩, ⟨by decide, by decide⟩, by decide⟩
theorem wu_X11_260_9 : WUp RX11 260 RX9 "PennyQueue$Order" ⟨"PennyQueue$Order", "takes", "(I)I"⟩ yX9_takes 1 := ⟨wd_853, wd_856, wd_873, wd_874, wd_854, ⟨_, _, _, wd_877⟩, ⟨by decide, by decide⟩, by decide⟩
theorem wu_X11_263_1 : WUp RX11 263 RX1 "PennyQueue$Order" ⟨"PennyQueue$Order", "tells", "(I)I"⟩ yX5_tells 1 := ⟨wd_879, wd_882, wd_883, wd_880, wd_880, ⟨_, _, _, wd_907⟩, ⟨by decide, by decide⟩, by decide⟩
theorem wu_X11_263_2 : WUp RX11 263 RX2 "PennyQueue$Order" ⟨"PennyQueue$Order", "tells", "(I)I"⟩ yX2_tells 1 := ⟨wd_879, wd_882, wd_884, wd_885, wd_880, ⟨_, _, _, wd_907⟩, ⟨by decide, by decide⟩, by decide⟩
theorem wu_X11_263_4 : WUp RX11 263 RX4 "PennyQueue$Order" ⟨"PennyQueue$Order", "tells", "(I)I"⟩ yX5_tells 1 := ⟨wd_879, wd_882, wd_895, wd_880, wd_880, ⟨_, _, _, wd_907⟩, ⟨by decide, by decide⟩, by decide⟩
theorem wu_X11_263_6 : WUp RX11 263 RX6 "PennyQueue$Order" ⟨"PennyQueue$Order", "tells", "(I)I"⟩ yX6_tells 1 := ⟨wd_879, wd_882, wd_896, wd_897, wd_880, ⟨_, _, _, wd_907⟩, ⟨by decide, by decide⟩, by decide⟩
theorem wu_X11_263_7 : WUp RX11 263 RX7 "PennyQueue$Order" ⟨"PennyQueue$Order", "tells", "(I)I"⟩ yX5_tells 1 := ⟨wd_879, wd_882, wd_905, wd_880, wd_880, ⟨_, _, _, wd_907⟩, ⟨by decide, by decide⟩, by decide⟩
theorem wu_X11_263_9 : WUp RX11 263 RX9 "PennyQueue$Order" ⟨"PennyQueue$Order", "tells", "(I)I"⟩ yX5_tells 1 := ⟨wd_879, wd_882, wd_906, wd_880, wd_880, ⟨_, _, _, wd_907⟩, ⟨by decide, by decide⟩, by decide⟩
theorem wu_X11_273_1 : WUp RX11 273 RX1 "PennyQueue$Order" ⟨"PennyQueue$Order", "kind", "()I"⟩ yX1_kind 0 := ⟨wd_920, wd_923, wd_924, wd_925, wd_921, ⟨_, _, _, wd_942⟩, ⟨by decide, by decide⟩, by decide⟩
theorem wu_X11_273_2 : WUp RX11 273 RX2 "PennyQueue$Order" ⟨"PennyQueue$Order", "kind", "()I"⟩ yX2_kind 0 := ⟨wd_920, wd_923, wd_927, wd_928, wd_921, ⟨_, _, _, wd_942⟩, ⟨by decide, by decide⟩, by decide⟩
theorem wu_X11_273_4 : WUp RX11 273 RX4 "PennyQueue$Order" ⟨"PennyQueue$Order", "kind", "()I"⟩ yX4_kind 0 := ⟨wd_920, wd_923, wd_930, wd_931, wd_921, ⟨_, _, _, wd_942⟩, ⟨by decide, by decide⟩, by decide⟩
theorem wu_X11_273_6 : WUp RX11 273 RX6 "PennyQueue$Order" ⟨"PennyQueue$Order", "kind", "()I"⟩ yX6_kind 0 := ⟨wd_920, wd_923, wd_933, wd_934, wd_921, ⟨_, _, _, wd_942⟩, ⟨by decide, by decide⟩, by decide⟩
theorem wu_X11_273_7 : WUp RX11 273 RX7 "PennyQueue$Order" ⟨"PennyQueue$Order", "kind", "()I"⟩ yX7_kind 0 := ⟨wd_920, wd_923, wd_936, wd_937, wd_921, ⟨_, _, _, wd_942⟩, ⟨by decide, by decide⟩, by decide⟩
theorem wu_X11_273_9 : WUp RX11 273 RX9 "PennyQueue$Order" ⟨"PennyQueue$Order", "kind", "()I"⟩ yX9_kind 0 := ⟨wd_920, wd_923, wd_939, wd_940, wd_921, ⟨_, _, _, wd_942⟩, ⟨by decide, by decide⟩, by decide⟩
theorem wu_X1_7_1 : WUp RX1 7 RX1 "PennyQueue$Order" ⟨"PennyQueue$First", "began", "(I)V"⟩ yX5_began 1 := ⟨wd_860, wd_861, wd_862, wd_830, wd_830, ⟨_, _, _, wd_831⟩, ⟨by decide, by decide⟩, by decide⟩
theorem wu_X1_7_4 : WUp RX1 7 RX4 "PennyQueue$Order" ⟨"PennyQueue$First", "began", "(I)V"⟩ yX5_began 1 := ⟨wd_860, wd_861, wd_863, wd_830, wd_830, ⟨_, _, _, wd_831⟩, ⟨by decide, by decide⟩, by decide⟩
theorem wu_X1_7_9 : WUp RX1 7 RX9 "PennyQueue$Order" ⟨"PennyQueue$First", "began", "(I)V"⟩ yX5_began 1 := ⟨wd_860, wd_861, wd_864, wd_830, wd_830, ⟨_, _, _, wd_831⟩, ⟨by decide, by decide⟩, by decide⟩
theorem wu_X2_13_2 : WUp RX2 13 RX2 "PennyQueue$Order" ⟨"PennyQueue$Full", "began", "(I)V"⟩ yX5_began 1 := ⟨wd_887, wd_888, wd_889, wd_830, wd_830, ⟨_, _, _, wd_831⟩, ⟨by decide, by decide⟩, by decide⟩
theorem wu_X2_21_2 : WUp RX2 21 RX2 "PennyQueue$Order" ⟨"PennyQueue$Full", "takes", "(I)I"⟩ yX5_takes 1 := ⟨wd_891, wd_892, wd_894, wd_854, wd_854, ⟨_, _, _, wd_877⟩, ⟨by decide, by decide⟩, by decide⟩
theorem wu_X3_126_1 : WUp RX3 126 RX1 "PennyQueue$Order" ⟨"PennyQueue$Order", "asks", "(II)I"⟩ yX5_asks 2 := ⟨wd_575, wd_578, wd_579, wd_576, wd_576, ⟨_, _, _, wd_587⟩, ⟨by decide, by decide⟩, by decide⟩
theorem wu_X3_126_2 : WUp RX3 126 RX2 "PennyQueue$Order" ⟨"PennyQueue$Order", "asks", "(II)I"⟩ yX5_asks 2 := ⟨wd_575, wd_578, wd_580, wd_576, wd_576, ⟨_, _, _, wd_587⟩, ⟨by decide, by decide⟩, by decide⟩
theorem wu_X3_126_4 : WUp RX3 126 RX4 "PennyQueue$Order" ⟨"PennyQueue$Order", "asks", "(II)I"⟩ yX4_asks 2 := ⟨wd_575, wd_578, wd_581, wd_582, wd_576, ⟨_, _, _, wd_587⟩, ⟨by decide, by decide⟩, by decide⟩
theorem wu_X3_126_6 : WUp RX3 126 RX6 "PennyQueue$Order" ⟨"PennyQueue$Order", "asks", "(II)I"⟩ yX5_asks 2 := ⟨wd_575, wd_578, wd_584, wd_576, wd_576, ⟨_, _, _, wd_587⟩, ⟨by decide, by decide⟩, by decide⟩
theorem wu_X3_126_7 : WUp RX3 126 RX7 "PennyQueue$Order" ⟨"PennyQueue$Order", "asks", "(II)I"⟩ yX5_asks 2 := ⟨wd_575, wd_578, wd_585, wd_576, wd_576, ⟨_, _, _, wd_587⟩, ⟨by decide, by decide⟩, by decide⟩
theorem wu_X3_126_9 : WUp RX3 126 RX9 "PennyQueue$Order" ⟨"PennyQueue$Order", "asks", "(II)I"⟩ yX5_asks 2 := ⟨wd_575, wd_578, wd_586, wd_576, wd_576, ⟨_, _, _, wd_587⟩, ⟨by decide, by decide⟩, by decide⟩
theorem wu_X3_131_1 : WUp RX3 131 RX1 "PennyQueue$Order" ⟨"PennyQueue$Order", "due", "(II)I"⟩ yX5_due 2 := ⟨wd_588, wd_591, wd_592, wd_589, wd_589, ⟨_, _, _, wd_600⟩, ⟨by decide, by decide⟩, by decide⟩
theorem wu_X3_131_2 : WUp RX3 131 RX2 "PennyQueue$Order" ⟨"PennyQueue$Order", "due", "(II)I"⟩ yX5_due 2 := ⟨wd_588, wd_591, wd_593, wd_589, wd_589, ⟨_, _, _, wd_600⟩, ⟨by decide, by decide⟩, by decide⟩
theorem wu_X3_131_4 : WUp RX3 131 RX4 "PennyQueue$Order" ⟨"PennyQueue$Order", "due", "(II)I"⟩ yX5_due 2 := ⟨wd_588, wd_591, wd_594, wd_589, wd_589, ⟨_, _, _, wd_600⟩, ⟨by decide, by decide⟩, by decide⟩
theorem wu_X3_131_6 : WUp RX3 131 RX6 "PennyQueue$Order" ⟨"PennyQueue$Order", "due", "(II)I"⟩ yX6_due 2 := ⟨wd_588, wd_591, wd_595, wd_596, wd_589, ⟨_, _, _, wd_600⟩, ⟨by decide, by decide⟩, by decide⟩
theorem wu_X3_131_7 : WUp RX3 131 RX7 "PennyQueue$Order" ⟨"PennyQueue$Order", "due", "(II)I"⟩ yX5_due 2 := ⟨wd_588, wd_591, wd_598, wd_589, wd_589, ⟨_, _, _, wd_600⟩, ⟨by decide, by decide⟩, by decide⟩
theorem wu_X3_131_9 : WUp RX3 131 RX9 "PennyQueue$Order" ⟨"PennyQueue$Order", "due", "(II)I"⟩ yX5_due 2 := ⟨wd_588, wd_591, wd_599, wd_589, wd_589, ⟨_, _, _, wd_600⟩, ⟨by decide, by decide⟩, by decide⟩
theorem wu_X3_141_1 : WUp RX3 141 RX1 "PennyQueue$Order" ⟨"PennyQueue$Order", "lineTold", "(I)I"⟩ yX5_lineTold 1 := ⟨wd_605, wd_608, wd_609, wd_606, wd_606, ⟨_, _, _, wd_617⟩, ⟨by decide, by decide⟩, by decide⟩
theorem wu_X3_141_2 : WUp RX3 141 RX2 "PennyQueue$Order" ⟨"PennyQueue$Order", "lineTold", "(I)I"⟩ yX5_lineTold 1 := ⟨wd_605, wd_608, wd_610, wd_606, wd_606, ⟨_, _, _, wd_617⟩, ⟨by decide, by decide⟩, by decide⟩
theorem wu_X3_141_4 : WUp RX3 141 RX4 "PennyQueue$Order" ⟨"PennyQueue$Order", "lineTold", "(I)I"⟩ yX5_lineTold 1 := ⟨wd_605, wd_608, wd_611, wd_606, wd_606, ⟨_, _, _, wd_617⟩, ⟨by decide, by decide⟩, by decide⟩
theorem wu_X3_141_6 : WUp RX3 141 RX6 "PennyQueue$Order" ⟨"PennyQueue$Order", "lineTold", "(I)I"⟩ yX5_lineTold 1 := ⟨wd_605, wd_608, wd_612, wd_606, wd_606, ⟨_, _, _, wd_617⟩, ⟨by decide, by decide⟩, by decide⟩
theorem wu_X3_141_7 : WUp RX3 141 RX7 "PennyQueue$Order" ⟨"PennyQueue$Order", "lineTold", "(I)I"⟩ yX5_lineTold 1 := ⟨wd_605, wd_608, wd_613, wd_606, wd_606, ⟨_, _, _, wd_617⟩, ⟨by decide, by decide⟩, by decide⟩
theorem wu_X3_141_9 : WUp RX3 141 RX9 "PennyQueue$Order" ⟨"PennyQueue$Order", "lineTold", "(I)I"⟩ yX9_lineTold 1 := ⟨wd_605, wd_608, wd_614, wd_615, wd_606, ⟨_, _, _, wd_617⟩, ⟨by decide, by decide⟩, by decide⟩
theorem wu_X3_144_1 : WUp RX3 144 RX1 "PennyQueue$Order" ⟨"PennyQueue$Order", "aheadOfPaying", "(II)I"⟩ yX1_aheadOfPaying 2 := ⟨wd_621, wd_624, wd_625, wd_626, wd_622, ⟨_, _, _, wd_635⟩, ⟨by decide, by decide⟩, by decide⟩
theorem wu_X3_144_2 : WUp RX3 144 RX2 "PennyQueue$Order" ⟨"PennyQueue$Order", "aheadOfPaying", "(II)I"⟩ yX5_aheadOfPaying 2 := ⟨wd_621, wd_624, wd_628, wd_622, wd_622, ⟨_, _, _, wd_635⟩, ⟨by decide, by decide⟩, by decide⟩
theorem wu_X3_144_4 : WUp RX3 144 RX4 "PennyQueue$Order" ⟨"PennyQueue$Order", "aheadOfPaying", "(II)I"⟩ yX1_aheadOfPaying 2 := ⟨wd_621, wd_624, wd_629, wd_626, wd_622, ⟨_, _, _, wd_635⟩, ⟨by decide, by decide⟩, by decide⟩
theorem wu_X3_144_6 : WUp RX3 144 RX6 "PennyQueue$Order" ⟨"PennyQueue$Order", "aheadOfPaying", "(II)I"⟩ yX7_aheadOfPaying 2 := ⟨wd_621, wd_624, wd_630, wd_631, wd_622, ⟨_, _, _, wd_635⟩, ⟨by decide, by decide⟩, by decide⟩
theorem wu_X3_144_7 : WUp RX3 144 RX7 "PennyQueue$Order" ⟨"PennyQueue$Order", "aheadOfPaying", "(II)I"⟩ yX7_aheadOfPaying 2 := ⟨wd_621, wd_624, wd_633, wd_631, wd_622, ⟨_, _, _, wd_635⟩, ⟨by decide, by decide⟩, by decide⟩
theorem wu_X3_144_9 : WUp RX3 144 RX9 "PennyQueue$Order" ⟨"PennyQueue$Order", "aheadOfPaying", "(II)I"⟩ yX1_aheadOfPaying 2 := ⟨wd_621, wd_624, wd_634, wd_626, wd_622, ⟨_, _, _, wd_635⟩, ⟨by decide, by decide⟩, by decide⟩
theorem wu_X3_147_1 : WUp RX3 147 RX1 "PennyQueue$Order" ⟨"PennyQueue$Order", "turnsAway", "(I)Z"⟩ yX5_turnsAway 1 := ⟨wd_636, wd_639, wd_640, wd_637, wd_637, ⟨_, _, _, wd_648⟩, ⟨by decide, by decide⟩, by decide⟩
theorem wu_X3_147_2 : WUp RX3 147 RX2 "PennyQueue$Order" ⟨"PennyQueue$Order", "turnsAway", "(I)Z"⟩ yX2_turnsAway 1 := ⟨wd_636, wd_639, wd_641, wd_642, wd_637, ⟨_, _, _, wd_648⟩, ⟨by decide, by decide⟩, by decide⟩
theorem wu_X3_147_4 : WUp RX3 147 RX4 "PennyQueue$Order" ⟨"PennyQueue$Order", "turnsAway", "(I)Z"⟩ yX5_turnsAway 1 := ⟨wd_636, wd_639, wd_644, wd_637, wd_637, ⟨_, _, _, wd_648⟩, ⟨by decide, by decide⟩, by decide⟩
theorem wu_X3_147_6 : WUp RX3 147 RX6 "PennyQueue$Order" ⟨"PennyQueue$Order", "turnsAway", "(I)Z"⟩ yX5_turnsAway 1 := ⟨wd_636, wd_639, wd_645, wd_637, wd_637, ⟨_, _, _, wd_648⟩, ⟨by decide, by decide⟩, by decide⟩
theorem wu_X3_147_7 : WUp RX3 147 RX7 "PennyQueue$Order" ⟨"PennyQueue$Order", "turnsAway", "(I)Z"⟩ yX5_turnsAway 1 := ⟨wd_636, wd_639, wd_646, wd_637, wd_637, ⟨_, _, _, wd_648⟩, ⟨by decide, by decide⟩, by decide⟩
theorem wu_X3_147_9 : WUp RX3 147 RX9 "PennyQueue$Order" ⟨"PennyQueue$Order", "turnsAway", "(I)Z"⟩ yX5_turnsAway 1 := ⟨wd_636, wd_639, wd_647, wd_637, wd_637, ⟨_, _, _, wd_648⟩, ⟨by decide, by decide⟩, by decide⟩
theorem wu_X3_154_1 : WUp RX3 154 RX1 "PennyQueue$Order" ⟨"PennyQueue$Order", "next", "(III)I"⟩ yX1_next 3 := ⟨wd_676, wd_679, wd_680, wd_681, wd_677, ⟨_, _, _, wd_690⟩, ⟨by decide, by decide⟩, by decide⟩
theorem wu_X3_154_2 : WUp RX3 154 RX2 "PennyQueue$Order" ⟨"PennyQueue$Order", "next", "(III)I"⟩ yX5_next 3 := ⟨wd_676, wd_679, wd_683, wd_677, wd_677, ⟨_, _, _, wd_690⟩, ⟨by decide, by decide⟩, by decide⟩
theorem wu_X3_154_4 : WUp RX3 154 RX4 "PennyQueue$Order" ⟨"PennyQueue$Order", "next", "(III)I"⟩ yX1_next 3 := ⟨wd_676, wd_679, wd_684, wd_681, wd_677, ⟨_, _, _, wd_690⟩, ⟨by decide, by decide⟩, by decide⟩
theorem wu_X3_154_6 : WUp RX3 154 RX6 "PennyQueue$Order" ⟨"PennyQueue$Order", "next", "(III)I"⟩ yX7_next 3 := ⟨wd_676, wd_679, wd_685, wd_686, wd_677, ⟨_, _, _, wd_690⟩, ⟨by decide, by decide⟩, by decide⟩
theorem wu_X3_154_7 : WUp RX3 154 RX7 "PennyQueue$Order" ⟨"PennyQueue$Order", "next", "(III)I"⟩ yX7_next 3 := ⟨wd_676, wd_679, wd_688, wd_686, wd_677, ⟨_, _, _, wd_690⟩, ⟨by decide, by decide⟩, by decide⟩
theorem wu_X3_154_9 : WUp RX3 154 RX9 "PennyQueue$Order" ⟨"PennyQueue$Order", "next", "(III)I"⟩ yX1_next 3 := ⟨wd_676, wd_679, wd_689, wd_681, wd_677, ⟨_, _, _, wd_690⟩, ⟨by decide, by decide⟩, by decide⟩
theorem wu_X4_13_4 : WUp RX4 13 RX4 "PennyQueue$Order" ⟨"PennyQueue$Length", "began", "(I)V"⟩ yX5_began 1 := ⟨wd_826, wd_827, wd_829, wd_830, wd_830, ⟨_, _, _, wd_831⟩, ⟨by decide, by decide⟩, by decide⟩
theorem wu_X5_32_1 : WUp RX5 32 RX1 "PennyQueue$Order" ⟨"PennyQueue$Order", "began", "(I)V"⟩ yX5_began 1 := ⟨wd_852, wd_1514, wd_1515, wd_830, wd_830, ⟨_, _, _, wd_831⟩, ⟨by decide, by decide⟩, by decide⟩
theorem wu_X5_32_2 : WUp RX5 32 RX2 "PennyQueue$Order" ⟨"PennyQueue$Order", "began", "(I)V"⟩ yX5_began 1 := ⟨wd_852, wd_1514, wd_1516, wd_830, wd_830, ⟨_, _, _, wd_831⟩, ⟨by decide, by decide⟩, by decide⟩
theorem wu_X5_32_4 : WUp RX5 32 RX4 "PennyQueue$Order" ⟨"PennyQueue$Order", "began", "(I)V"⟩ yX5_began 1 := ⟨wd_852, wd_1514, wd_1517, wd_830, wd_830, ⟨_, _, _, wd_831⟩, ⟨by decide, by decide⟩, by decide⟩
theorem wu_X5_32_6 : WUp RX5 32 RX6 "PennyQueue$Order" ⟨"PennyQueue$Order", "began", "(I)V"⟩ yX5_began 1 := ⟨wd_852, wd_1514, wd_1519, wd_830, wd_830, ⟨_, _, _, wd_831⟩, ⟨by decide, by decide⟩, by decide⟩
theorem wu_X5_32_7 : WUp RX5 32 RX7 "PennyQueue$Order" ⟨"PennyQueue$Order", "began", "(I)V"⟩ yX5_began 1 := ⟨wd_852, wd_1514, wd_1520, wd_830, wd_830, ⟨_, _, _, wd_831⟩, ⟨by decide, by decide⟩, by decide⟩
theorem wu_X5_32_9 : WUp RX5 32 RX9 "PennyQueue$Order" ⟨"PennyQueue$Order", "began", "(I)V"⟩ yX5_began 1 := ⟨wd_852, wd_1514, wd_1521, wd_830, wd_830, ⟨_, _, _, wd_831⟩, ⟨by decide, by decide⟩, by decide⟩
theorem wu_X5_36_1 : WUp RX5 36 RX1 "PennyQueue$Order" ⟨"PennyQueue$Order", "joins", "(I)I"⟩ yX5_joins 1 := ⟨wd_878, wd_820, wd_821, wd_818, wd_818, ⟨_, _, _, wd_851⟩, ⟨by decide, by decide⟩, by decide⟩
theorem wu_X5_36_2 : WUp RX5 36 RX2 "PennyQueue$Order" ⟨"PennyQueue$Order", "joins", "(I)I"⟩ yX5_joins 1 := ⟨wd_878, wd_820, wd_822, wd_818, wd_818, ⟨_, _, _, wd_851⟩, ⟨by decide, by decide⟩, by decide⟩
theorem wu_X5_36_4 : WUp RX5 36 RX4 "PennyQueue$Order" ⟨"PennyQueue$Order", "joins", "(I)I"⟩ yX4_joins 1 := ⟨wd_878, wd_820, wd_823, wd_824, wd_818, ⟨_, _, _, wd_851⟩, ⟨by decide, by decide⟩, by decide⟩
theorem wu_X5_36_6 : WUp RX5 36 RX6 "PennyQueue$Order" ⟨"PennyQueue$Order", "joins", "(I)I"⟩ yX7_joins 1 := ⟨wd_878, wd_820, wd_835, wd_836, wd_818, ⟨_, _, _, wd_851⟩, ⟨by decide, by decide⟩, by decide⟩
theorem wu_X5_36_7 : WUp RX5 36 RX7 "PennyQueue$Order" ⟨"PennyQueue$Order", "joins", "(I)I"⟩ yX7_joins 1 := ⟨wd_878, wd_820, wd_843, wd_836, wd_818, ⟨_, _, _, wd_851⟩, ⟨by decide, by decide⟩, by decide⟩
theorem wu_X5_36_9 : WUp RX5 36 RX9 "PennyQueue$Order" ⟨"PennyQueue$Order", "joins", "(I)I"⟩ yX9_joins 1 := ⟨wd_878, wd_820, wd_844, wd_845, wd_818, ⟨_, _, _, wd_851⟩, ⟨by decide, by decide⟩, by decide⟩
theorem wu_X5_40_1 : WUp RX5 40 RX1 "PennyQueue$Order" ⟨"PennyQueue$Order", "takes", "(I)I"⟩ yX1_takes 1 := ⟨wd_908, wd_856, wd_857, wd_858, wd_854, ⟨_, _, _, wd_877⟩, ⟨by decide, by decide⟩, by decide⟩
theorem wu_X5_40_2 : WUp RX5 40 RX2 "PennyQueue$Order" ⟨"PennyQueue$Order", "takes", "(I)I"⟩ yX5_takes 1 := ⟨wd_908, wd_856, wd_866, wd_854, wd_854, ⟨_, _, _, wd_877⟩, ⟨by decide, by decide⟩, by decide⟩
theorem wu_X5_40_4 : WUp RX5 40 RX4 "PennyQueue$Order" ⟨"PennyQueue$Order", "takes", "(I)I"⟩ yX4_takes 1 := ⟨wd_908, wd_856, wd_867, wd_868, wd_854, ⟨_, _, _, wd_877⟩, ⟨by decide, by decide⟩, by decide⟩
theorem wu_X5_40_6 : WUp RX5 40 RX6 "PennyQueue$Order" ⟨"PennyQueue$Order", "takes", "(I)I"⟩ yX5_takes 1 := ⟨wd_908, wd_856, wd_871, wd_854, wd_854, ⟨_, _, _, wd_877⟩, ⟨by decide, by decide⟩, by decide⟩
theorem wu_X5_40_7 : WUp RX5 40 RX7 "PennyQueue$Order" ⟨"PennyQueue$Order", "takes", "(I)I"⟩ yX5_takes 1 := ⟨wd_908, wd_856, wd_872, wd_854, wd_854, ⟨_, _, _, wd_877⟩, ⟨by decide, by decide⟩, by decide⟩
theorem wu_X5_40_9 : WUp RX5 40 RX9 "PennyQueue$Order" ⟨"PennyQueue$Order", "takes", "(I)I"⟩ yX9_takes 1 := ⟨wd_908, wd_856, wd_873, wd_874, wd_854, ⟨_, _, _, wd_877⟩, ⟨by decide, by decide⟩, by decide⟩
theorem wu_X6_7_6 : WUp RX6 7 RX6 "PennyQueue$Order" ⟨"PennyQueue$Poor", "began", "(I)V"⟩ yX5_began 1 := ⟨wd_899, wd_900, wd_901, wd_830, wd_830, ⟨_, _, _, wd_831⟩, ⟨by decide, by decide⟩, by decide⟩
theorem wu_X7_13_6 : WUp RX7 13 RX6 "PennyQueue$Order" ⟨"PennyQueue$Share", "began", "(I)V"⟩ yX5_began 1 := ⟨wd_838, wd_839, wd_840, wd_830, wd_830, ⟨_, _, _, wd_831⟩, ⟨by decide, by decide⟩, by decide⟩
theorem wu_X7_13_7 : WUp RX7 13 RX7 "PennyQueue$Order" ⟨"PennyQueue$Share", "began", "(I)V"⟩ yX5_began 1 := ⟨wd_838, wd_839, wd_841, wd_830, wd_830, ⟨_, _, _, wd_831⟩, ⟨by decide, by decide⟩, by decide⟩
theorem wu_X9_19_9 : WUp RX9 19 RX9 "PennyQueue$Order" ⟨"PennyQueue$Told", "began", "(I)V"⟩ yX5_began 1 := ⟨wd_847, wd_848, wd_849, wd_830, wd_830, ⟨_, _, _, wd_831⟩, ⟨by decide, by decide⟩, by decide⟩
theorem wv_J0_335 : WVr RJ0 335 yJ0_coder_7d493 := ⟨wd_341, wd_342, wd_343⟩
theorem wv_J0_492 : WVr RJ0 492 yJ0_isLatin1_aae02 := ⟨wd_351, wd_352, wd_353⟩
theorem wv_X10_100 : WVr RX10 100 yX10_both := ⟨wd_393, wd_395, ws_6⟩
theorem wv_X10_103 : WVr RX10 103 yX10_step := ⟨wd_401, wd_403, ws_8⟩
theorem wv_X10_107 : WVr RX10 107 yX10_factor := ⟨wd_397, wd_399, ws_7⟩
theorem wv_X10_110 : WVr RX10 110 yX10_test := ⟨wd_405, wd_407, ws_9⟩
theorem wv_X10_115 : WVr RX10 115 yX10_oneOf := ⟨wd_410, wd_412, ws_10⟩
theorem wv_X10_121 : WVr RX10 121 yJ0_length_8abf5 := ⟨wd_337, wd_338, wd_339⟩
theorem wv_X10_125 : WVr RX10 125 yJ0_charAt_5068e := ⟨wd_347, wd_348, wd_349⟩
theorem wv_X10_47 : WVr RX10 47 yX10_skip := ⟨wd_324, wd_326, ws_1⟩
theorem wv_X10_51 : WVr RX10 51 yX10_comeClause := ⟨wd_328, wd_330, ws_2⟩
theorem wv_X10_55 : WVr RX10 55 yX10_numberClause := ⟨wd_419, wd_421, ws_12⟩
theorem wv_X10_58 : WVr RX10 58 yX10_holds := ⟨wd_661, wd_663, ws_25⟩
theorem wv_X10_68 : WVr RX10 68 yX10_word := ⟨wd_333, wd_335, ws_3⟩
theorem wv_X10_72 : WVr RX10 72 yX10_digit := ⟨wd_385, wd_387, ws_4⟩
theorem wv_X10_76 : WVr RX10 76 yX10_either := ⟨wd_389, wd_391, ws_5⟩
theorem wv_X10_80 : WVr RX10 80 yX10_numberWord := ⟨wd_423, wd_425, ws_13⟩
theorem wv_X10_83 : WVr RX10 83 yX10_number := ⟨wd_415, wd_417, ws_11⟩
theorem wv_X11_105 : WVr RX11 105 yX11_held := ⟨wd_438, wd_440, ws_14⟩
theorem wv_X11_121 : WVr RX11 121 yX0_tell := ⟨wd_446, wd_447, wd_448⟩
theorem wv_X11_131 : WVr RX11 131 yX11_orderAt := ⟨wd_538, wd_540, ws_15⟩
theorem wv_X11_140 : WVr RX11 140 yX11_goThrough := ⟨wd_546, wd_548, ws_16⟩
theorem wv_X11_159 : WVr RX11 159 yX3_waits := ⟨wd_693, wd_694, wd_695⟩
theorem wv_X11_163 : WVr RX11 163 yX3_rank := ⟨wd_697, wd_698, wd_699⟩
theorem wv_X11_175 : WVr RX11 175 yX3_howMany := ⟨wd_709, wd_710, wd_711⟩
theorem wv_X11_178 : WVr RX11 178 yX3_lost := ⟨wd_713, wd_714, wd_715⟩
theorem wv_X11_182 : WVr RX11 182 yX3_pence := ⟨wd_718, wd_719, wd_720⟩
theorem wv_X11_188 : WVr RX11 188 yX3_back := ⟨wd_722, wd_723, wd_724⟩
theorem wv_X11_191 : WVr RX11 191 yX3_stoodAt := ⟨wd_732, wd_733, wd_734⟩
theorem wv_X11_198 : WVr RX11 198 yX11_goThroughWith := ⟨wd_550, wd_552, ws_17⟩
theorem wv_X11_202 : WVr RX11 202 yX3_lossOf := ⟨wd_745, wd_746, wd_747⟩
theorem wv_X11_207 : WVr RX11 207 yX0_become := ⟨wd_763, wd_764, wd_765⟩
theorem wv_X11_214 : WVr RX11 214 yX3_sales := ⟨wd_774, wd_775, wd_776⟩
theorem wv_X11_219 : WVr RX11 219 yX11_chance := ⟨wd_783, wd_785, ws_28⟩
theorem wv_X11_229 : WVr RX11 229 yX11_tapeAt := ⟨wd_797, wd_799, ws_29⟩
theorem wv_X11_236 : WVr RX11 236 yX8_lacks := ⟨wd_801, wd_802, wd_803⟩
theorem wv_X11_257 : WVr RX11 257 yX5_joins := ⟨wd_817, wd_818, wd_819⟩
theorem wv_X11_260 : WVr RX11 260 yX5_takes := ⟨wd_853, wd_854, wd_855⟩
theorem wv_X11_263 : WVr RX11 263 yX5_tells := ⟨wd_879, wd_880, wd_881⟩
theorem wv_X11_273 : WVr RX11 273 yX5_kind := ⟨wd_920, wd_921, wd_922⟩
theorem wv_X11_276 : WVr RX11 276 yX8_become := ⟨wd_951, wd_952, wd_953⟩
theorem wv_X11_278 : WVr RX11 278 yX8_fitted := ⟨wd_962, wd_963, wd_964⟩
theorem wv_X11_291 : WVr RX11 291 yX3_pass := ⟨wd_554, wd_555, wd_556⟩
theorem wv_X11_88 : WVr RX11 88 yX11_noSort := ⟨wd_304, wd_306, ws_0⟩
theorem wv_X11_98 : WVr RX11 98 yX10_parse := ⟨wd_320, wd_321, wd_322⟩
theorem wv_X12_215 : WVr RX12 215 yX12_in := ⟨wd_1188, wd_1190, ws_30⟩
theorem wv_X12_219 : WVr RX12 219 yX12_isSort := ⟨wd_1196, wd_1198, ws_31⟩
theorem wv_X12_223 : WVr RX12 223 yX12_next := ⟨wd_1232, wd_1234, ws_35⟩
theorem wv_X12_227 : WVr RX12 227 yX12_takesSign := ⟨wd_1241, wd_1243, ws_37⟩
theorem wv_X12_230 : WVr RX12 230 yX12_isDigit := ⟨wd_1261, wd_1263, ws_42⟩
theorem wv_X12_234 : WVr RX12 234 yX12_put := ⟨wd_1265, wd_1267, ws_43⟩
theorem wv_X12_238 : WVr RX12 238 yX12_place := ⟨wd_1253, wd_1255, ws_40⟩
theorem wv_X12_242 : WVr RX12 242 yX12_takesNumber := ⟨wd_1257, wd_1259, ws_41⟩
theorem wv_X12_245 : WVr RX12 245 yX12_whole := ⟨wd_1269, wd_1271, ws_44⟩
theorem wv_X12_248 : WVr RX12 248 yX12_takesTest := ⟨wd_1249, wd_1251, ws_39⟩
theorem wv_X12_251 : WVr RX12 251 yX12_settle := ⟨wd_1273, wd_1275, ws_45⟩
theorem wv_X12_254 : WVr RX12 254 yX12_third := ⟨wd_1228, wd_1230, ws_34⟩
theorem wv_X12_258 : WVr RX12 258 yX12_takesWord := ⟨wd_1237, wd_1239, ws_36⟩
theorem wv_X12_262 : WVr RX12 262 yX12_takesE := ⟨wd_1245, wd_1247, ws_38⟩
theorem wv_X12_268 : WVr RX12 268 yX12_takesClause := ⟨wd_1224, wd_1226, ws_33⟩
theorem wv_X12_271 : WVr RX12 271 yX12_goesText := ⟨wd_1220, wd_1222, ws_32⟩
theorem wv_X12_274 : WVr RX12 274 yX12_first := ⟨wd_1288, wd_1290, ws_47⟩
theorem wv_X12_277 : WVr RX12 277 yX12_behind := ⟨wd_1292, wd_1294, ws_48⟩
theorem wv_X12_280 : WVr RX12 280 yX12_min := ⟨wd_1296, wd_1298, ws_49⟩
theorem wv_X12_284 : WVr RX12 284 yX12_last := ⟨wd_1284, wd_1286, ws_46⟩
theorem wv_X12_288 : WVr RX12 288 yX12_standing := ⟨wd_1325, wd_1327, ws_53⟩
theorem wv_X12_291 : WVr RX12 291 yX12_holds := ⟨wd_1349, wd_1351, ws_59⟩
theorem wv_X12_294 : WVr RX12 294 yX12_isOrder := ⟨wd_1308, wd_1310, ws_50⟩
theorem wv_X12_297 : WVr RX12 297 yX12_timeOf := ⟨wd_1341, wd_1343, ws_57⟩
theorem wv_X12_300 : WVr RX12 300 yX12_timesIn := ⟨wd_1337, wd_1339, ws_56⟩
theorem wv_X12_303 : WVr RX12 303 yX12_choose := ⟨wd_1333, wd_1335, ws_55⟩
theorem wv_X12_306 : WVr RX12 306 yX12_isFirst := ⟨wd_1361, wd_1363, ws_62⟩
theorem wv_X12_309 : WVr RX12 309 yX12_nextLine := ⟨wd_1357, wd_1359, ws_61⟩
theorem wv_X12_312 : WVr RX12 312 yX12_told := ⟨wd_1320, wd_1281, wd_1282⟩
theorem wv_X12_315 : WVr RX12 315 yX12_joins := ⟨wd_1329, wd_1331, ws_54⟩
theorem wv_X12_319 : WVr RX12 319 yX12_comes := ⟨wd_1345, wd_1347, ws_58⟩
theorem wv_X12_322 : WVr RX12 322 yX12_takes := ⟨wd_1353, wd_1355, ws_60⟩
theorem wv_X12_325 : WVr RX12 325 yX12_go := ⟨wd_1321, wd_1323, ws_52⟩
theorem wv_X12_329 : WVr RX12 329 yX12_goPlainly := ⟨wd_1316, wd_1318, ws_51⟩
theorem wv_X12_332 : WVr RX12 332 yX12_inLine := ⟨wd_1373, wd_1375, ws_63⟩
theorem wv_X12_335 : WVr RX12 335 yX12_lost := ⟨wd_1377, wd_1379, ws_64⟩
theorem wv_X12_338 : WVr RX12 338 yX12_pence := ⟨wd_1381, wd_1383, ws_65⟩
theorem wv_X12_341 : WVr RX12 341 yX12_lossOf := ⟨wd_1397, wd_1399, ws_66⟩
theorem wv_X12_350 : WVr RX12 350 yX12_divisor := ⟨wd_1425, wd_1427, ws_67⟩
theorem wv_X12_354 : WVr RX12 354 yX12_isTape := ⟨wd_1433, wd_1435, ws_68⟩
theorem wv_X12_357 : WVr RX12 357 yX12_body := ⟨wd_1453, wd_1455, ws_70⟩
theorem wv_X12_360 : WVr RX12 360 yX12_plainJoins := ⟨wd_1457, wd_1459, ws_71⟩
theorem wv_X12_363 : WVr RX12 363 yX12_joinsAct := ⟨wd_1449, wd_1451, ws_69⟩
theorem wv_X12_366 : WVr RX12 366 yX12_plainTakes := ⟨wd_1469, wd_1471, ws_74⟩
theorem wv_X12_369 : WVr RX12 369 yX12_firstTakes := ⟨wd_1465, wd_1467, ws_73⟩
theorem wv_X12_372 : WVr RX12 372 yX12_takesAct := ⟨wd_1461, wd_1463, ws_72⟩
theorem wv_X12_375 : WVr RX12 375 yX12_plainTells := ⟨wd_1477, wd_1479, ws_76⟩
theorem wv_X12_378 : WVr RX12 378 yX12_tellsAct := ⟨wd_1473, wd_1475, ws_75⟩
theorem wv_X12_381 : WVr RX12 381 yX12_narrow := ⟨wd_1501, wd_1503, ws_77⟩
theorem wv_X3_108 : WVr RX3 108 yX3_roomForMore := ⟨wd_567, wd_569, ws_20⟩
theorem wv_X3_114 : WVr RX3 114 yX3_enter := ⟨wd_571, wd_573, ws_21⟩
theorem wv_X3_117 : WVr RX3 117 yX10_calls := ⟨wd_657, wd_658, wd_659⟩
theorem wv_X3_126 : WVr RX3 126 yX5_asks := ⟨wd_575, wd_576, wd_577⟩
theorem wv_X3_131 : WVr RX3 131 yX5_due := ⟨wd_588, wd_589, wd_590⟩
theorem wv_X3_134 : WVr RX3 134 yX3_lineFor := ⟨wd_601, wd_603, ws_22⟩
theorem wv_X3_137 : WVr RX3 137 yX3_timeOf := ⟨wd_649, wd_651, ws_23⟩
theorem wv_X3_141 : WVr RX3 141 yX5_lineTold := ⟨wd_605, wd_606, wd_607⟩
theorem wv_X3_144 : WVr RX3 144 yX5_aheadOfPaying := ⟨wd_621, wd_622, wd_623⟩
theorem wv_X3_147 : WVr RX3 147 yX5_turnsAway := ⟨wd_636, wd_637, wd_638⟩
theorem wv_X3_151 : WVr RX3 151 yX3_firstOf := ⟨wd_672, wd_674, ws_27⟩
theorem wv_X3_154 : WVr RX3 154 yX5_next := ⟨wd_676, wd_677, wd_678⟩
theorem wv_X3_158 : WVr RX3 158 yX3_waits := ⟨wd_717, wd_694, wd_695⟩
theorem wv_X3_161 : WVr RX3 161 yX3_howMany := ⟨wd_726, wd_710, wd_711⟩
theorem wv_X3_164 : WVr RX3 164 yX3_pence := ⟨wd_727, wd_719, wd_720⟩
theorem wv_X3_40 : WVr RX3 40 yX3_begin := ⟨wd_558, wd_560, ws_18⟩
theorem wv_X3_48 : WVr RX3 48 yX3_comeByHand := ⟨wd_563, wd_565, ws_19⟩
theorem wv_X3_52 : WVr RX3 52 yX3_comeByText := ⟨wd_653, wd_655, ws_24⟩
theorem wv_X3_56 : WVr RX3 56 yX3_serve := ⟨wd_668, wd_670, ws_26⟩
theorem wv_X5_32 : WVr RX5 32 yX5_began := ⟨wd_852, wd_830, wd_1518⟩
theorem wv_X5_36 : WVr RX5 36 yX5_joins := ⟨wd_878, wd_818, wd_819⟩
theorem wv_X5_40 : WVr RX5 40 yX5_takes := ⟨wd_908, wd_854, wd_855⟩
