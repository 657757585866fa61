theorem uwX1 : ∀ w ∈ u_ws RX1 TX1 4, w ∈ lw_good := by
  intro w hw
  obtain ⟨j, hj, rfl⟩ := List.mem_map.mp hw
  have hj := List.mem_range.mp hj
  match j, hj with
  | 0, _ => exact wd_467
  | 1, _ => exact wd_468
  | 2, _ => exact wd_469
  | 3, _ => exact wd_470
  | j + 4, hj => exact absurd hj (by omega)
theorem uwX12 : ∀ w ∈ u_ws RX12 TX12 67, w ∈ lw_good := by
  intro w hw
  obtain ⟨j, hj, rfl⟩ := List.mem_map.mp hw
  have hj := List.mem_range.mp hj
  match j, hj with
  | 0, _ => exact wd_1048
  | 1, _ => exact wd_1050
  | 2, _ => exact wd_1052
  | 3, _ => exact wd_1054
  | 4, _ => exact wd_1056
  | 5, _ => exact wd_1058
  | 6, _ => exact wd_1060
  | 7, _ => exact wd_1062
  | 8, _ => exact wd_1064
  | 9, _ => exact wd_1066
  | 10, _ => exact wd_1068
  | 11, _ => exact wd_1070
  | 12, _ => exact wd_1072
  | 13, _ => exact wd_1074
  | 14, _ => exact wd_1076
  | 15, _ => exact wd_1078
  | 16, _ => exact wd_1080
  | 17, _ => exact wd_1082
  | 18, _ => exact wd_1084
  | 19, _ => exact wd_1086
  | 20, _ => exact wd_1088
  | 21, _ => exact wd_1090
  | 22, _ => exact wd_1092
  | 23, _ => exact wd_1094
  | 24, _ => exact wd_1096
  | 25, _ => exact wd_1098
  | 26, _ => exact wd_1100
  | 27, _ => exact wd_1102
  | 28, _ => exact wd_1104
  | 29, _ => exact wd_1106
  | 30, _ => exact wd_1108
  | 31, _ => exact wd_1110
  | 32, _ => exact wd_1112
  | 33, _ => exact wd_1114
  | 34, _ => exact wd_1116
  | 35, _ => exact wd_1118
  | 36, _ => exact wd_1120
  | 37, _ => exact wd_1122
  | 38, _ => exact wd_1124
  | 39, _ => exact wd_1126
  | 40, _ => exact wd_1128
  | 41, _ => exact wd_1130
  | 42, _ => exact wd_1132
  | 43, _ => exact wd_1134
  | 44, _ => exact wd_1136
  | 45, _ => exact wd_1138
  | 46, _ => exact wd_1140
  | 47, _ => exact wd_1142
  | 48, _ => exact wd_1144
  | 49, _ => exact wd_1146
  | 50, _ => exact wd_1148
  | 51, _ => exact wd_1150
  | 52, _ => exact wd_1152
  | 53, _ => exact wd_1154
  | 54, _ => exact wd_1156
  | 55, _ => exact wd_1158
  | 56, _ => exact wd_1160
  | 57, _ => exact wd_1162
  | 58, _ => exact wd_1164
  | 59, _ => exact wd_1166
  | 60, _ => exact wd_1168
  | 61, _ => exact wd_1170
  | 62, _ => exact wd_1172
  | 63, _ => exact wd_1174
  | 64, _ => exact wd_1176
  | 65, _ => exact wd_1178
  | 66, _ => exact wd_1180
  | j + 67, hj => exact absurd hj (by omega)
theorem uwX2 : ∀ w ∈ u_ws RX2 TX2 4, w ∈ lw_good := by
  intro w hw
  obtain ⟨j, hj, rfl⟩ := List.mem_map.mp hw
  have hj := List.mem_range.mp hj
  match j, hj with
  | 0, _ => exact wd_511
  | 1, _ => exact wd_512
  | 2, _ => exact wd_513
  | 3, _ => exact wd_514
  | j + 4, hj => exact absurd hj (by omega)
theorem uwX3 : ∀ w ∈ u_ws RX3 TX3 19, w ∈ lw_good := by
  intro w hw
  obtain ⟨j, hj, rfl⟩ := List.mem_map.mp hw
  have hj := List.mem_range.mp hj
  match j, hj with
  | 0, _ => exact wd_175
  | 1, _ => exact wd_177
  | 2, _ => exact wd_179
  | 3, _ => exact wd_181
  | 4, _ => exact wd_183
  | 5, _ => exact wd_185
  | 6, _ => exact wd_187
  | 7, _ => exact wd_189
  | 8, _ => exact wd_191
  | 9, _ => exact wd_193
  | 10, _ => exact wd_195
  | 11, _ => exact wd_197
  | 12, _ => exact wd_199
  | 13, _ => exact wd_201
  | 14, _ => exact wd_203
  | 15, _ => exact wd_205
  | 16, _ => exact wd_207
  | 17, _ => exact wd_209
  | 18, _ => exact wd_211
  | j + 19, hj => exact absurd hj (by omega)
theorem uwX4 : ∀ w ∈ u_ws RX4 TX4 4, w ∈ lw_good := by
  intro w hw
  obtain ⟨j, hj, rfl⟩ := List.mem_map.mp hw
  have hj := List.mem_range.mp hj
  match j, hj with
  | 0, _ => exact wd_489
  | 1, _ => exact wd_490
  | 2, _ => exact wd_491
  | 3, _ => exact wd_492
  | j + 4, hj => exact absurd hj (by omega)
theorem uwX5 : ∀ w ∈ u_ws RX5 TX5 4, w ∈ lw_good := by
  intro w hw
  obtain ⟨j, hj, rfl⟩ := List.mem_map.mp hw
  have hj := List.mem_range.mp hj
  match j, hj with
  | 0, _ => exact wd_101
  | 1, _ => exact wd_103
  | 2, _ => exact wd_105
  | 3, _ => exact wd_107
  | j + 4, hj => exact absurd hj (by omega)
theorem uwX6 : ∀ w ∈ u_ws RX6 TX6 4, w ∈ lw_good := by
  intro w hw
  obtain ⟨j, hj, rfl⟩ := List.mem_map.mp hw
  have hj := List.mem_range.mp hj
  match j, hj with
  | 0, _ => exact wd_500
  | 1, _ => exact wd_501
  | 2, _ => exact wd_502
  | 3, _ => exact wd_503
  | j + 4, hj => exact absurd hj (by omega)
theorem uwX7 : ∀ w ∈ u_ws RX7 TX7 4, w ∈ lw_good := by
  intro w hw
  obtain ⟨j, hj, rfl⟩ := List.mem_map.mp hw
  have hj := List.mem_range.mp hj
  match j, hj with
  | 0, _ => exact wd_478
  | 1, _ => exact wd_479
  | 2, _ => exact wd_480
  | 3, _ => exact wd_481
  | j + 4, hj => exact absurd hj (by omega)
theorem uwX9 : ∀ w ∈ u_ws RX9 TX9 5, w ∈ lw_good := by
  intro w hw
  obtain ⟨j, hj, rfl⟩ := List.mem_map.mp hw
  have hj := List.mem_range.mp hj
  match j, hj with
  | 0, _ => exact wd_529
  | 1, _ => exact wd_530
  | 2, _ => exact wd_531
  | 3, _ => exact wd_532
  | 4, _ => exact wd_527
  | j + 5, hj => exact absurd hj (by omega)
theorem fg_X12_16 : ∀ ci ∈ [12], FLg RX12 16 ci 2 ∧ tR (tyC ci 2) = true := by
  intro ci hci
  simp only [List.mem_cons, List.not_mem_nil, or_false] at hci
  rcases hci with rfl
  · exact ⟨⟨RX12, TX12, 67, "PennyQueueModel", rfl, by decide, uwX12, wd_983, Or.inl rfl, rfl, tyX12_ok, nmX12⟩, rfl⟩
theorem fg_X12_20 : ∀ ci ∈ [12], FLg RX12 20 ci 3 ∧ tR (tyC ci 3) = true := by
  intro ci hci
  simp only [List.mem_cons, List.not_mem_nil, or_false] at hci
  rcases hci with rfl
  · exact ⟨⟨RX12, TX12, 67, "PennyQueueModel", rfl, by decide, uwX12, wd_984, Or.inl rfl, rfl, tyX12_ok, nmX12⟩, rfl⟩
theorem fg_X12_23 : ∀ ci ∈ [12], FLg RX12 23 ci 4 ∧ tR (tyC ci 4) = true := by
  intro ci hci
  simp only [List.mem_cons, List.not_mem_nil, or_false] at hci
  rcases hci with rfl
  · exact ⟨⟨RX12, TX12, 67, "PennyQueueModel", rfl, by decide, uwX12, wd_985, Or.inl rfl, rfl, tyX12_ok, nmX12⟩, rfl⟩
theorem fg_X12_26 : ∀ ci ∈ [12], FLg RX12 26 ci 5 ∧ tR (tyC ci 5) = true := by
  intro ci hci
  simp only [List.mem_cons, List.not_mem_nil, or_false] at hci
  rcases hci with rfl
  · exact ⟨⟨RX12, TX12, 67, "PennyQueueModel", rfl, by decide, uwX12, wd_986, Or.inl rfl, rfl, tyX12_ok, nmX12⟩, rfl⟩
theorem fg_X12_29 : ∀ ci ∈ [12], FLg RX12 29 ci 6 ∧ tR (tyC ci 6) = true := by
  intro ci hci
  simp only [List.mem_cons, List.not_mem_nil, or_false] at hci
  rcases hci with rfl
  · exact ⟨⟨RX12, TX12, 67, "PennyQueueModel", rfl, by decide, uwX12, wd_987, Or.inl rfl, rfl, tyX12_ok, nmX12⟩, rfl⟩
theorem fg_X12_7 : ∀ ci ∈ [12], FLg RX12 7 ci 0 ∧ tI (tyC ci 0) = true := by
  intro ci hci
  simp only [List.mem_cons, List.not_mem_nil, or_false] at hci
  rcases hci with rfl
  · exact ⟨⟨RX12, TX12, 67, "PennyQueueModel", rfl, by decide, uwX12, wd_981, Or.inl rfl, rfl, tyX12_ok, nmX12⟩, rfl⟩
theorem fg_X3_15 : ∀ ci ∈ [3], FLg RX3 15 ci 1 ∧ tR (tyC ci 1) = true := by
  intro ci hci
  simp only [List.mem_cons, List.not_mem_nil, or_false] at hci
  rcases hci with rfl
  · exact ⟨⟨RX3, TX3, 19, "PennyQueue$Hour", rfl, by decide, uwX3, wd_148, Or.inl rfl, rfl, tyX3_ok, nmX3⟩, rfl⟩
theorem fg_X3_18 : ∀ ci ∈ [3], FLg RX3 18 ci 2 ∧ tR (tyC ci 2) = true := by
  intro ci hci
  simp only [List.mem_cons, List.not_mem_nil, or_false] at hci
  rcases hci with rfl
  · exact ⟨⟨RX3, TX3, 19, "PennyQueue$Hour", rfl, by decide, uwX3, wd_150, Or.inl rfl, rfl, tyX3_ok, nmX3⟩, rfl⟩
theorem fg_X3_24 : ∀ ci ∈ [3], FLg RX3 24 ci 4 ∧ tR (tyC ci 4) = true := by
  intro ci hci
  simp only [List.mem_cons, List.not_mem_nil, or_false] at hci
  rcases hci with rfl
  · exact ⟨⟨RX3, TX3, 19, "PennyQueue$Hour", rfl, by decide, uwX3, wd_154, Or.inl rfl, rfl, tyX3_ok, nmX3⟩, rfl⟩
theorem fg_X3_27 : ∀ ci ∈ [3], FLg RX3 27 ci 5 ∧ tR (tyC ci 5) = true := by
  intro ci hci
  simp only [List.mem_cons, List.not_mem_nil, or_false] at hci
  rcases hci with rfl
  · exact ⟨⟨RX3, TX3, 19, "PennyQueue$Hour", rfl, by decide, uwX3, wd_156, Or.inl rfl, rfl, tyX3_ok, nmX3⟩, rfl⟩
theorem fg_X3_30 : ∀ ci ∈ [3], FLg RX3 30 ci 16 ∧ tR (tyC ci 16) = true := by
  intro ci hci
  simp only [List.mem_cons, List.not_mem_nil, or_false] at hci
  rcases hci with rfl
  · exact ⟨⟨RX3, TX3, 19, "PennyQueue$Hour", rfl, by decide, uwX3, wd_172, Or.inl rfl, rfl, tyX3_ok, nmX3⟩, rfl⟩
theorem fg_X3_36 : ∀ ci ∈ [3], FLg RX3 36 ci 10 ∧ tR (tyC ci 10) = true := by
  intro ci hci
  simp only [List.mem_cons, List.not_mem_nil, or_false] at hci
  rcases hci with rfl
  · exact ⟨⟨RX3, TX3, 19, "PennyQueue$Hour", rfl, by decide, uwX3, wd_166, Or.inl rfl, rfl, tyX3_ok, nmX3⟩, rfl⟩
theorem fg_X3_79 : ∀ ci ∈ [3], FLg RX3 79 ci 14 ∧ tI (tyC ci 14) = true := by
  intro ci hci
  simp only [List.mem_cons, List.not_mem_nil, or_false] at hci
  rcases hci with rfl
  · exact ⟨⟨RX3, TX3, 19, "PennyQueue$Hour", rfl, by decide, uwX3, wd_170, Or.inl rfl, rfl, tyX3_ok, nmX3⟩, rfl⟩
theorem fg_X3_82 : ∀ ci ∈ [3], FLg RX3 82 ci 6 ∧ tI (tyC ci 6) = true := by
  intro ci hci
  simp only [List.mem_cons, List.not_mem_nil, or_false] at hci
  rcases hci with rfl
  · exact ⟨⟨RX3, TX3, 19, "PennyQueue$Hour", rfl, by decide, uwX3, wd_158, Or.inl rfl, rfl, tyX3_ok, nmX3⟩, rfl⟩
theorem fg_X3_85 : ∀ ci ∈ [3], FLg RX3 85 ci 7 ∧ tI (tyC ci 7) = true := by
  intro ci hci
  simp only [List.mem_cons, List.not_mem_nil, or_false] at hci
  rcases hci with rfl
  · exact ⟨⟨RX3, TX3, 19, "PennyQueue$Hour", rfl, by decide, uwX3, wd_160, Or.inl rfl, rfl, tyX3_ok, nmX3⟩, rfl⟩
theorem fg_X5_29 : ∀ ci ∈ [5, 1, 2, 4, 6, 7, 9], FLg RX5 29 ci 2 ∧ tI (tyC ci 2) = true := by
  intro ci hci
  simp only [List.mem_cons, List.not_mem_nil, or_false] at hci
  rcases hci with rfl | rfl | rfl | rfl | rfl | rfl | rfl
  · exact ⟨⟨RX5, TX5, 4, "PennyQueue$Order", rfl, by decide, uwX5, wd_97, Or.inl rfl, rfl, tyX5_ok, nmX5⟩, rfl⟩
  · exact ⟨⟨RX1, TX1, 4, "PennyQueue$Order", rfl, by decide, uwX1, wd_97, Or.inl rfl, rfl, tyX1_ok, nmX1⟩, rfl⟩
  · exact ⟨⟨RX2, TX2, 4, "PennyQueue$Order", rfl, by decide, uwX2, wd_97, Or.inl rfl, rfl, tyX2_ok, nmX2⟩, rfl⟩
  · exact ⟨⟨RX4, TX4, 4, "PennyQueue$Order", rfl, by decide, uwX4, wd_97, Or.inl rfl, rfl, tyX4_ok, nmX4⟩, rfl⟩
  · exact ⟨⟨RX6, TX6, 4, "PennyQueue$Order", rfl, by decide, uwX6, wd_97, Or.inl rfl, rfl, tyX6_ok, nmX6⟩, rfl⟩
  · exact ⟨⟨RX7, TX7, 4, "PennyQueue$Order", rfl, by decide, uwX7, wd_97, Or.inl rfl, rfl, tyX7_ok, nmX7⟩, rfl⟩
  · exact ⟨⟨RX9, TX9, 5, "PennyQueue$Order", rfl, by decide, uwX9, wd_97, Or.inl rfl, rfl, tyX9_ok, nmX9⟩, rfl⟩
theorem fg_X5_9 : ∀ ci ∈ [5, 1, 2, 4, 6, 7, 9], FLg RX5 9 ci 3 ∧ tR (tyC ci 3) = true := by
  intro ci hci
  simp only [List.mem_cons, List.not_mem_nil, or_false] at hci
  rcases hci with rfl | rfl | rfl | rfl | rfl | rfl | rfl
  · exact ⟨⟨RX5, TX5, 4, "PennyQueue$Order", rfl, by decide, uwX5, wd_99, Or.inl rfl, rfl, tyX5_ok, nmX5⟩, rfl⟩
  · exact ⟨⟨RX1, TX1, 4, "PennyQueue$Order", rfl, by decide, uwX1, wd_99, Or.inl rfl, rfl, tyX1_ok, nmX1⟩, rfl⟩
  · exact ⟨⟨RX2, TX2, 4, "PennyQueue$Order", rfl, by decide, uwX2, wd_99, Or.inl rfl, rfl, tyX2_ok, nmX2⟩, rfl⟩
  · exact ⟨⟨RX4, TX4, 4, "PennyQueue$Order", rfl, by decide, uwX4, wd_99, Or.inl rfl, rfl, tyX4_ok, nmX4⟩, rfl⟩
  · exact ⟨⟨RX6, TX6, 4, "PennyQueue$Order", rfl, by decide, uwX6, wd_99, Or.inl rfl, rfl, tyX6_ok, nmX6⟩, rfl⟩
  · exact ⟨⟨RX7, TX7, 4, "PennyQueue$Order", rfl, by decide, uwX7, wd_99, Or.inl rfl, rfl, tyX7_ok, nmX7⟩, rfl⟩
  · exact ⟨⟨RX9, TX9, 5, "PennyQueue$Order", rfl, by decide, uwX9, wd_99, Or.inl rfl, rfl, tyX9_ok, nmX9⟩, rfl⟩
theorem fp_X12_7 : ∀ ci ∈ [12], FL RX12 7 ci 0 false ∧ tyC ci 0 = .int := by
  intro ci hci
  simp only [List.mem_cons, List.not_mem_nil, or_false] at hci
  rcases hci with rfl
  · exact ⟨⟨RX12, TX12, 67, "PennyQueueModel", rfl, by decide, uwX12, wd_981, Or.inl rfl, rfl, tyX12_ok, nmX12, rfl, (fun z => by cases z)⟩, rfl⟩
theorem fp_X5_29 : ∀ ci ∈ [5, 1, 2, 4, 6, 7, 9], FL RX5 29 ci 2 false ∧ tyC ci 2 = .int := by
  intro ci hci
  simp only [List.mem_cons, List.not_mem_nil, or_false] at hci
  rcases hci with rfl | rfl | rfl | rfl | rfl | rfl | rfl
  · exact ⟨⟨RX5, TX5, 4, "PennyQueue$Order", rfl, by decide, uwX5, wd_97, Or.inl rfl, rfl, tyX5_ok, nmX5, rfl, (fun z => by cases z)⟩, rfl⟩
  · exact ⟨⟨RX1, TX1, 4, "PennyQueue$Order", rfl, by decide, uwX1, wd_97, Or.inl rfl, rfl, tyX1_ok, nmX1, rfl, (fun z => by cases z)⟩, rfl⟩
  · exact ⟨⟨RX2, TX2, 4, "PennyQueue$Order", rfl, by decide, uwX2, wd_97, Or.inl rfl, rfl, tyX2_ok, nmX2, rfl, (fun z => by cases z)⟩, rfl⟩
  · exact ⟨⟨RX4, TX4, 4, "PennyQueue$Order", rfl, by decide, uwX4, wd_97, Or.inl rfl, rfl, tyX4_ok, nmX4, rfl, (fun z => by cases z)⟩, rfl⟩
  · exact ⟨⟨RX6, TX6, 4, "PennyQueue$Order", rfl, by decide, uwX6, wd_97, Or.inl rfl, rfl, tyX6_ok, nmX6, rfl, (fun z => by cases z)⟩, rfl⟩
  · exact ⟨⟨RX7, TX7, 4, "PennyQueue$Order", rfl, by decide, uwX7, wd_97, Or.inl rfl, rfl, tyX7_ok, nmX7, rfl, (fun z => by cases z)⟩, rfl⟩
  · exact ⟨⟨RX9, TX9, 5, "PennyQueue$Order", rfl, by decide, uwX9, wd_97, Or.inl rfl, rfl, tyX9_ok, nmX9, rfl, (fun z => by cases z)⟩, rfl⟩
theorem wb_X12_in : WB yX12_in cX12_in 4 (some .boolean) 3 := ⟨wd_1191, wd_7, ⟨by decide, by decide⟩, by decide⟩
theorem wb_X12_isSort : WB yX12_isSort cX12_isSort 2 (some .boolean) 1 := ⟨wd_1199, wd_7, ⟨by decide, by decide⟩, by decide⟩
theorem wv_X12_215 : WVr RX12 215 yX12_in := ⟨wd_1188, wd_1190, ws_30⟩
theorem wv_X12_219 : WVr RX12 219 yX12_isSort := ⟨wd_1196, wd_1198, ws_31⟩
def f_X11_outside (x0 : Int32) (x1 : Int32) (x2 : Int32) (M : Mem) (Q : Bool → Mem → Prop) : Prop := (if x0 < x1 then Q true M else (if x0 ≤ x2 then Q false M else Q true M))
def f_X12_in (a0 : Nat) (x1 : Int32) (x2 : Int32) (x3 : Int32) (M : Mem) (Q : Bool → Mem → Prop) : Prop := (if x1 < x2 then Q false M else (if x3 < x1 then Q false M else Q true M))
def f_X12_isSort (a0 : Nat) (x1 : Int32) (M : Mem) (Q : Bool → Mem → Prop) : Prop := (isO M a0 [12] ∧ (f_X12_in a0 x1 (0 : Int32) ((mI M a0 0) - (1 : Int32)) M (fun w2 M3 => Q w2 M3)))
def f_X12_sort (a0 : Nat) (x1 : Int32) (x2 : Int32) (x3 : Int32) (x4 : Int32) (M : Mem) (Q : Int32 → Mem → Prop) : Prop := (isO M a0 [12] ∧ (f_X12_in a0 x1 (0 : Int32) (9 : Int32) M (fun w1 M2 => (if w1 = true then (isO M2 a0 [12] ∧ (f_X12_in a0 x2 (0 : Int32) (99 : Int32) M2 (fun w5 M6 => (if w5 = true then (isO M6 a0 [12] ∧ (f_X12_in a0 x3 (0 : Int32) (20 : Int32) M6 (fun w9 M10 => (if w9 = true then (isO M10 a0 [12] ∧ (f_X12_in a0 x4 (1 : Int32) (9 : Int32) M10 (fun w13 M14 => (if w13 = true then (isO M14 a0 [12] ∧ (if (mI M14 a0 0) = (6 : Int32) then Q (-4 : Int32) M14 else (∃ b19, (mP M14 a0 2) = some b19 ∧ (isA M14 b19 0 (mI M14 a0 0) ∧ (∀ M22, M22 = sI M14 b19 ((mI M14 a0 0)).toNatClampNeg x1 → (∃ b26, (mP M22 a0 3) = some b26 ∧ (isA M22 b26 0 (mI M22 a0 0) ∧ (∀ M29, M29 = sI M22 b26 ((mI M22 a0 0)).toNatClampNeg x2 → (∃ b34, (mP M29 a0 4) = some b34 ∧ (isA M29 b34 0 (mI M29 a0 0) ∧ (∀ M37, M37 = sI M29 b34 ((mI M29 a0 0)).toNatClampNeg x3 → (∃ b43, (mP M37 a0 5) = some b43 ∧ (isA M37 b43 0 (mI M37 a0 0) ∧ (∀ M46, M46 = sI M37 b43 ((mI M37 a0 0)).toNatClampNeg x4 → (∃ b53, (mP M46 a0 6) = some b53 ∧ (isA M46 b53 0 (mI M46 a0 0) ∧ (∀ M56, M56 = sI M46 b53 ((mI M46 a0 0)).toNatClampNeg (10 : Int32) → (∀ M64, M64 = sI M56 a0 0 ((mI M56 a0 0) + (1 : Int32)) → Q ((mI M64 a0 0) - (1 : Int32)) M64)))))))))))))))))) else Q (-2 : Int32) M14)))) else Q (-2 : Int32) M10)))) else Q (-2 : Int32) M6)))) else Q (-2 : Int32) M2))))
def f_X3_timeOf (a0 : Nat) (x1 : Int32) (M : Mem) (Q : Int32 → Mem → Prop) : Prop := (isO M a0 [3] ∧ (∃ b2, (mP M a0 10) = some b2 ∧ (isA M b2 4 x1 ∧ (∃ b5, (mP M b2 (x1).toNatClampNeg) = some b5 ∧ (isA M b5 0 (3 : Int32) ∧ Q ((mI M b5 ((3 : Int32)).toNatClampNeg) + (mI M a0 14)) M)))))
def f_X3_firstOf_J40 (a0 : Nat) (x1 : Int32) (v2 : Int32) (M : Mem) (K11 : Int32 × Mem → Prop) (Q : Int32 → Mem → Prop) : Prop := K11 ((v2 + 1), M)
def f_X3_firstOf_B11 (a0 : Nat) (x1 : Int32) (v2 : Int32) (M : Mem) (K11 : Int32 × Mem → Prop) (Q : Int32 → Mem → Prop) : Prop := (isO M a0 [3] ∧ (if (mI M a0 6) ≤ v2 then Q (-1 : Int32) M else (∃ b3, (mP M a0 2) = some b3 ∧ (isA M b3 0 v2 ∧ (if (mI M b3 (v2).toNatClampNeg) = x1 then (∃ b7, (mP M a0 4) = some b7 ∧ (isA M b7 0 v2 ∧ (if 0 ≤ (mI M b7 (v2).toNatClampNeg) then f_X3_firstOf_J40 a0 x1 v2 M K11 Q else Q v2 M))) else f_X3_firstOf_J40 a0 x1 v2 M K11 Q)))))
def f_X3_firstOf_L11 (a0 : Nat) (x1 : Int32) (v2 : Int32) (M : Mem) (Q : Int32 → Mem → Prop) : Prop := loopP (fun (K : Int32 × Mem → Prop) z => f_X3_firstOf_B11 a0 x1 z.1 z.2 K Q) (v2, M)
def f_X3_firstOf (a0 : Nat) (x1 : Int32) (M : Mem) (Q : Int32 → Mem → Prop) : Prop := (isO M a0 [3] ∧ (∃ b2, (mP M a0 16) = some b2 ∧ (isA M b2 0 x1 ∧ (if (mI M b2 (x1).toNatClampNeg) ≤ 0 then Q (-1 : Int32) M else f_X3_firstOf_L11 a0 x1 (0 : Int32) M Q))))
def f_X5_began_J26 (a0 : Nat) (x1 : Int32) (M : Mem) (Q : Mem → Prop) : Prop := (isO M a0 [5, 1, 2, 4, 6, 7, 9] ∧ (∀ M2, M2 = sI M a0 2 ((mI M a0 2) + (1 : Int32)) → Q M2))
def f_X5_began (a0 : Nat) (x1 : Int32) (M : Mem) (Q : Mem → Prop) : Prop := (isO M a0 [5, 1, 2, 4, 6, 7, 9] ∧ (if (mI M a0 2) < 0 then f_X5_began_J26 a0 x1 M Q else (if (20 : Int32) ≤ (mI M a0 2) then f_X5_began_J26 a0 x1 M Q else (∃ b4, (mP M a0 3) = some b4 ∧ (isA M b4 0 (mI M a0 2) ∧ (∀ M7, M7 = sI M b4 ((mI M a0 2)).toNatClampNeg x1 → f_X5_began_J26 a0 x1 M7 Q))))))
def f_X12_of (a0 : Nat) (x1 : Int32) (x2 : Int32) (M : Mem) (Q : Int32 → Mem → Prop) : Prop := (isO M a0 [12] ∧ (f_X12_isSort a0 x1 M (fun w1 M2 => (if w1 = true then (if x2 = 0 then (isO M2 a0 [12] ∧ (∃ b7, (mP M2 a0 2) = some b7 ∧ (isA M2 b7 0 x1 ∧ Q (mI M2 b7 (x1).toNatClampNeg) M2))) else (if x2 = 1 then (isO M2 a0 [12] ∧ (∃ b12, (mP M2 a0 3) = some b12 ∧ (isA M2 b12 0 x1 ∧ Q (mI M2 b12 (x1).toNatClampNeg) M2))) else (if x2 = 2 then (isO M2 a0 [12] ∧ (∃ b17, (mP M2 a0 4) = some b17 ∧ (isA M2 b17 0 x1 ∧ Q (mI M2 b17 (x1).toNatClampNeg) M2))) else (if x2 = 3 then (isO M2 a0 [12] ∧ (∃ b22, (mP M2 a0 5) = some b22 ∧ (isA M2 b22 0 x1 ∧ Q (mI M2 b22 (x1).toNatClampNeg) M2))) else (if x2 = 4 then (isO M2 a0 [12] ∧ (∃ b27, (mP M2 a0 6) = some b27 ∧ (isA M2 b27 0 x1 ∧ Q (mI M2 b27 (x1).toNatClampNeg) M2))) else Q (-1 : Int32) M2))))) else Q (-1 : Int32) M2))))
def f_X12_odds (a0 : Nat) (x1 : Int32) (x2 : Int32) (M : Mem) (Q : Int32 → Mem → Prop) : Prop := (isO M a0 [12] ∧ (f_X12_isSort a0 x1 M (fun w1 M2 => (if w1 = true then (isO M2 a0 [12] ∧ (f_X12_in a0 x2 (0 : Int32) (10 : Int32) M2 (fun w5 M6 => (if w5 = true then (isO M6 a0 [12] ∧ (∃ b10, (mP M6 a0 6) = some b10 ∧ (isA M6 b10 0 x1 ∧ (isA M6 b10 0 x1 ∧ (∀ M14, M14 = sI M6 b10 (x1).toNatClampNeg x2 → Q (mI M6 b10 (x1).toNatClampNeg) M14))))) else Q (-2 : Int32) M6)))) else Q (-1 : Int32) M2))))
def f_X3_waits (a0 : Nat) (x1 : Int32) (M : Mem) (Q : Int32 → Mem → Prop) : Prop := (if x1 < 0 then Q (-5 : Int32) M else (isO M a0 [3] ∧ (if (mI M a0 6) ≤ x1 then Q (-5 : Int32) M else (∃ b4, (mP M a0 2) = some b4 ∧ (isA M b4 0 x1 ∧ (if (mI M b4 (x1).toNatClampNeg) = (2 : Int32) then Q (-5 : Int32) M else (∃ b8, (mP M a0 4) = some b8 ∧ (isA M b8 0 x1 ∧ (∃ b11, (mP M a0 1) = some b11 ∧ (isA M b11 0 x1 ∧ Q ((mI M b8 (x1).toNatClampNeg) - (mI M b11 (x1).toNatClampNeg)) M))))))))))
def f_X3_rank_B2 (a0 : Nat) (x1 : Int32) (v2 : Int32) (M : Mem) (K2 : Int32 × Mem → Prop) (Q : Int32 → Mem → Prop) : Prop := (isO M a0 [3] ∧ (if (mI M a0 7) ≤ v2 then Q (-5 : Int32) M else (∃ b3, (mP M a0 5) = some b3 ∧ (isA M b3 0 v2 ∧ (if (mI M b3 (v2).toNatClampNeg) = x1 then Q v2 M else K2 ((v2 + 1), M))))))
def f_X3_rank_L2 (a0 : Nat) (x1 : Int32) (v2 : Int32) (M : Mem) (Q : Int32 → Mem → Prop) : Prop := loopP (fun (K : Int32 × Mem → Prop) z => f_X3_rank_B2 a0 x1 z.1 z.2 K Q) (v2, M)
def f_X3_rank (a0 : Nat) (x1 : Int32) (M : Mem) (Q : Int32 → Mem → Prop) : Prop := f_X3_rank_L2 a0 x1 (0 : Int32) M Q
set_option maxHeartbeats 4000000 in
set_option maxRecDepth 100000 in
theorem w_X11_outside {p : Program} {l : Launch} {e : Env} {s : State} {m : MethodId} {args : Array Value} {below : List Frame} {meth : Method} {c : Code} {g : Geo} (C : Cx p s m args c cX11_outside RX11 3 g) (hr : meth.sig.returnType = (some .boolean)) (hlk : meth.locks = false) {x0 : Int32} {x1 : Int32} {x2 : Int32} {M : Mem} {Q : Bool → Mem → Prop} (h : f_X11_outside x0 x1 x2 M Q) : E p l e (rmO 1 0 0) s m args below meth c g 3 (MQ below (QcM g (rZ Q)) args s 0 0 (gA g)) 0 0 0 [(0, .int x0), (1, .int x1), (2, .int x2)] [] M := by
  unfold f_X11_outside at h
  refine e_iload_n C 0 dX11_outside_0 rfl rfl ?_
  refine e_iload_n C 1 dX11_outside_1 rfl rfl ?_
  refine e_icmp_lt (tgt := 10) C dX11_outside_2 (by decide) (fun q1 => ?_) (fun q1 => ?_)
  · have h := ite_t h q1
    refine e_iconst (v := 1) C dX11_outside_10 (by decide) ?_
    refine e_goto (tgt := 15) C dX11_outside_11 (by decide) ?_
    exact e_zret C hr rfl hlk (Nat.le_refl _) (Nat.le_refl _) dX11_outside_15 ⟨true, rfl, h⟩
  · have h := ite_f h q1
    refine e_iload_n C 0 dX11_outside_5 rfl rfl ?_
    refine e_iload_n C 2 dX11_outside_6 rfl rfl ?_
    refine e_icmp_le (tgt := 14) C dX11_outside_7 (by decide) (fun q2 => ?_) (fun q2 => ?_)
    · have h := ite_t h q2
      refine e_iconst (v := 0) C dX11_outside_14 (by decide) ?_
      exact e_zret C hr rfl hlk (Nat.le_refl _) (Nat.le_refl _) dX11_outside_15 ⟨false, rfl, h⟩
    · have h := ite_f h q2
      refine e_iconst (v := 1) C dX11_outside_10 (by decide) ?_
      refine e_goto (tgt := 15) C dX11_outside_11 (by decide) ?_
      exact e_zret C hr rfl hlk (Nat.le_refl _) (Nat.le_refl _) dX11_outside_15 ⟨true, rfl, h⟩
theorem m_X11_outside {x0 : Int32} {x1 : Int32} {x2 : Int32} {M : Mem} {Q : Bool → Mem → Prop} (h : f_X11_outside x0 x1 x2 M Q) : Con yX11_outside cX11_outside 3 (some .boolean) 1 0 0 [.int x0, .int x1, .int x2] M (rZ Q) :=
  con_of2 (al := [(0, .int x0), (1, .int x1), (2, .int x2)]) (by decide) (by first | decide | simp [lg_sl, va_cat, Value.category]) (by first | rfl | simp [lv_args, va_cat, Value.category]) (fun p l e s m args below meth c g C hr hlk _ => w_X11_outside C hr hlk h)
set_option maxHeartbeats 4000000 in
set_option maxRecDepth 100000 in
theorem w_X12_in {p : Program} {l : Launch} {e : Env} {s : State} {m : MethodId} {args : Array Value} {below : List Frame} {meth : Method} {c : Code} {g : Geo} (C : Cx p s m args c cX12_in RX12 4 g) (hr : meth.sig.returnType = (some .boolean)) (hlk : meth.locks = false) {a0 : Nat} {x1 : Int32} {x2 : Int32} {x3 : Int32} {M : Mem} {Q : Bool → Mem → Prop} (h : f_X12_in a0 x1 x2 x3 M Q) : E p l e (rmO 1 0 0) s m args below meth c g 4 (MQ below (QcM g (rZ Q)) args s 0 0 (gA g)) 0 0 0 [(0, .ref a0), (1, .int x1), (2, .int x2), (3, .int x3)] [] M := by
  unfold f_X12_in at h
  refine e_iload_n C 1 dX12_in_0 rfl rfl ?_
  refine e_iload_n C 2 dX12_in_1 rfl rfl ?_
  refine e_icmp_lt (tgt := 14) C dX12_in_2 (by decide) (fun q1 => ?_) (fun q1 => ?_)
  · have h := ite_t h q1
    refine e_iconst (v := 0) C dX12_in_14 (by decide) ?_
    exact e_zret C hr rfl hlk (Nat.le_refl _) (Nat.le_refl _) dX12_in_15 ⟨false, rfl, h⟩
  · have h := ite_f h q1
    refine e_iload_n C 1 dX12_in_5 rfl rfl ?_
    refine e_iload_n C 3 dX12_in_6 rfl rfl ?_
    refine e_icmp_gt (tgt := 14) C dX12_in_7 (by decide) (fun q2 => ?_) (fun q2 => ?_)
    · have h := ite_t h q2
      refine e_iconst (v := 0) C dX12_in_14 (by decide) ?_
      exact e_zret C hr rfl hlk (Nat.le_refl _) (Nat.le_refl _) dX12_in_15 ⟨false, rfl, h⟩
    · have h := ite_f h q2
      refine e_iconst (v := 1) C dX12_in_10 (by decide) ?_
      refine e_goto (tgt := 15) C dX12_in_11 (by decide) ?_
      exact e_zret C hr rfl hlk (Nat.le_refl _) (Nat.le_refl _) dX12_in_15 ⟨true, rfl, h⟩
theorem m_X12_in {a0 : Nat} {x1 : Int32} {x2 : Int32} {x3 : Int32} {M : Mem} {Q : Bool → Mem → Prop} (h : f_X12_in a0 x1 x2 x3 M Q) : Con yX12_in cX12_in 4 (some .boolean) 1 0 0 [.ref a0, .int x1, .int x2, .int x3] M (rZ Q) :=
  con_of2 (al := [(0, .ref a0), (1, .int x1), (2, .int x2), (3, .int x3)]) (by decide) (by first | decide | simp [lg_sl, va_cat, Value.category]) (by first | rfl | simp [lv_args, va_cat, Value.category]) (fun p l e s m args below meth c g C hr hlk _ => w_X12_in C hr hlk h)
set_option maxHeartbeats 4000000 in
set_option maxRecDepth 100000 in
theorem w_X12_isSort {p : Program} {l : Launch} {e : Env} {s : State} {m : MethodId} {args : Array Value} {below : List Frame} {meth : Method} {c : Code} {g : Geo} (C : Cx p s m args c cX12_isSort RX12 2 g) (hr : meth.sig.returnType = (some .boolean)) (hlk : meth.locks = false) {a0 : Nat} {x1 : Int32} {M : Mem} {Q : Bool → Mem → Prop} (h : f_X12_isSort a0 x1 M Q) : E p l e (rmO 2 0 0) s m args below meth c g 2 (MQ below (QcM g (rZ Q)) args s 0 0 (gA g)) 0 0 0 [(0, .ref a0), (1, .int x1)] [] M := by
  unfold f_X12_isSort at h
  refine e_aload_n C 0 dX12_isSort_0 rfl rfl ?_
  refine e_iload_n C 1 dX12_isSort_1 rfl rfl ?_
  refine e_iconst (v := 0) C dX12_isSort_2 (by decide) ?_
  refine e_aload_n C 0 dX12_isSort_3 rfl rfl ?_
  obtain ⟨o1, h⟩ := h
  refine e_getI C [12] 0 (fg_of fg_X12_7) o1 dX12_isSort_4 ?_
  refine e_iconst (v := 1) C dX12_isSort_7 (by decide) ?_
  refine e_isub C dX12_isSort_8 ?_
  refine e_callV (as := [.int x1, .int (0 : Int32), .int ((mI M a0 0) - (1 : Int32))]) C wb_X12_in wv_X12_215 (ci := 12) rfl rfl (isO_1 o1) (m_X12_in h) rfl ⟨Nat.le_of_ble_eq_true rfl, Nat.le_of_ble_eq_true rfl⟩ ⟨Nat.le_of_ble_eq_true rfl, Nat.le_of_ble_eq_true rfl⟩ (by first | exact Nat.le_of_ble_eq_true rfl | simp [Value.category, va_cat]) dX12_isSort_9 (kZ (fun w2 M3 h => ?_))
  exact e_zret C hr (bi_nar _) hlk (Nat.le_refl _) (Nat.le_refl _) dX12_isSort_12 ⟨_, rfl, h⟩
theorem m_X12_isSort {a0 : Nat} {x1 : Int32} {M : Mem} {Q : Bool → Mem → Prop} (h : f_X12_isSort a0 x1 M Q) : Con yX12_isSort cX12_isSort 2 (some .boolean) 2 0 0 [.ref a0, .int x1] M (rZ Q) :=
  con_of2 (al := [(0, .ref a0), (1, .int x1)]) (by decide) (by first | decide | simp [lg_sl, va_cat, Value.category]) (by first | rfl | simp [lv_args, va_cat, Value.category]) (fun p l e s m args below meth c g C hr hlk _ => w_X12_isSort C hr hlk h)
set_option maxHeartbeats 4000000 in
set_option maxRecDepth 100000 in
theorem w_X12_sort {p : Program} {l : Launch} {e : Env} {s : State} {m : MethodId} {args : Array Value} {below : List Frame} {meth : Method} {c : Code} {g : Geo} (C : Cx p s m args c cX12_sort RX12 5 g) (hr : meth.sig.returnType = (some .int)) (hlk : meth.locks = false) {a0 : Nat} {x1 : Int32} {x2 : Int32} {x3 : Int32} {x4 : Int32} {M : Mem} {Q : Int32 → Mem → Prop} (h : f_X12_sort a0 x1 x2 x3 x4 M Q) : E p l e (rmO 2 0 0) s m args below meth c g 5 (MQ below (QcM g (rI Q)) args s 0 0 (gA g)) 0 0 0 [(0, .ref a0), (1, .int x1), (2, .int x2), (3, .int x3), (4, .int x4)] [] M := by
  unfold f_X12_sort at h
  refine e_aload_n C 0 dX12_sort_0 rfl rfl ?_
  refine e_iload_n C 1 dX12_sort_1 rfl rfl ?_
  refine e_iconst (v := 0) C dX12_sort_2 (by decide) ?_
  refine e_bipush (v := 9) C dX12_sort_3 (by decide) ?_
  obtain ⟨o3, h⟩ := h
  refine e_callV (as := [.int x1, .int (0 : Int32), .int (9 : Int32)]) C wb_X12_in wv_X12_215 (ci := 12) rfl rfl (isO_1 o3) (m_X12_in h) rfl ⟨Nat.le_of_ble_eq_true rfl, Nat.le_of_ble_eq_true rfl⟩ ⟨Nat.le_of_ble_eq_true rfl, Nat.le_of_ble_eq_true rfl⟩ (by first | exact Nat.le_of_ble_eq_true rfl | simp [Value.category, va_cat]) dX12_sort_5 (kZ (fun w1 M2 h => ?_))
  refine e_if_eq (tgt := 45) C dX12_sort_8 (by decide) (fun q4 => ?_) (fun q4 => ?_)
  · have h := ite_f h (bi_ne q4)
    refine e_bipush (v := -2) C dX12_sort_45 (by decide) ?_
    exact e_iret C hr hlk (Nat.le_refl _) (Nat.le_refl _) dX12_sort_47 ⟨_, rfl, h⟩
  · have h := ite_t h (bi_t q4)
    refine e_aload_n C 0 dX12_sort_11 rfl rfl ?_
    refine e_iload_n C 2 dX12_sort_12 rfl rfl ?_
    refine e_iconst (v := 0) C dX12_sort_13 (by decide) ?_
    refine e_bipush (v := 99) C dX12_sort_14 (by decide) ?_
    obtain ⟨o7, h⟩ := h
    refine e_callV (as := [.int x2, .int (0 : Int32), .int (99 : Int32)]) C wb_X12_in wv_X12_215 (ci := 12) rfl rfl (isO_1 o7) (m_X12_in h) rfl ⟨Nat.le_of_ble_eq_true rfl, Nat.le_of_ble_eq_true rfl⟩ ⟨Nat.le_of_ble_eq_true rfl, Nat.le_of_ble_eq_true rfl⟩ (by first | exact Nat.le_of_ble_eq_true rfl | simp [Value.category, va_cat]) dX12_sort_16 (kZ (fun w5 M6 h => ?_))
    refine e_if_eq (tgt := 45) C dX12_sort_19 (by decide) (fun q8 => ?_) (fun q8 => ?_)
    · have h := ite_f h (bi_ne q8)
      refine e_bipush (v := -2) C dX12_sort_45 (by decide) ?_
      exact e_iret C hr hlk (Nat.le_refl _) (Nat.le_refl _) dX12_sort_47 ⟨_, rfl, h⟩
    · have h := ite_t h (bi_t q8)
      refine e_aload_n C 0 dX12_sort_22 rfl rfl ?_
      refine e_iload_n C 3 dX12_sort_23 rfl rfl ?_
      refine e_iconst (v := 0) C dX12_sort_24 (by decide) ?_
      refine e_bipush (v := 20) C dX12_sort_25 (by decide) ?_
      obtain ⟨o11, h⟩ := h
      refine e_callV (as := [.int x3, .int (0 : Int32), .int (20 : Int32)]) C wb_X12_in wv_X12_215 (ci := 12) rfl rfl (isO_1 o11) (m_X12_in h) rfl ⟨Nat.le_of_ble_eq_true rfl, Nat.le_of_ble_eq_true rfl⟩ ⟨Nat.le_of_ble_eq_true rfl, Nat.le_of_ble_eq_true rfl⟩ (by first | exact Nat.le_of_ble_eq_true rfl | simp [Value.category, va_cat]) dX12_sort_27 (kZ (fun w9 M10 h => ?_))
      refine e_if_eq (tgt := 45) C dX12_sort_30 (by decide) (fun q12 => ?_) (fun q12 => ?_)
      · have h := ite_f h (bi_ne q12)
        refine e_bipush (v := -2) C dX12_sort_45 (by decide) ?_
        exact e_iret C hr hlk (Nat.le_refl _) (Nat.le_refl _) dX12_sort_47 ⟨_, rfl, h⟩
      · have h := ite_t h (bi_t q12)
        refine e_aload_n C 0 dX12_sort_33 rfl rfl ?_
        refine e_iload C 4 dX12_sort_34 rfl ?_
        refine e_iconst (v := 1) C dX12_sort_36 (by decide) ?_
        refine e_bipush (v := 9) C dX12_sort_37 (by decide) ?_
        obtain ⟨o15, h⟩ := h
        refine e_callV (as := [.int x4, .int (1 : Int32), .int (9 : Int32)]) C wb_X12_in wv_X12_215 (ci := 12) rfl rfl (isO_1 o15) (m_X12_in h) rfl ⟨Nat.le_of_ble_eq_true rfl, Nat.le_of_ble_eq_true rfl⟩ ⟨Nat.le_of_ble_eq_true rfl, Nat.le_of_ble_eq_true rfl⟩ (by first | exact Nat.le_of_ble_eq_true rfl | simp [Value.category, va_cat]) dX12_sort_39 (kZ (fun w13 M14 h => ?_))
        refine e_if_ne (tgt := 48) C dX12_sort_42 (by decide) (fun q16 => ?_) (fun q16 => ?_)
        · have h := ite_t h (bi_t q16)
          refine e_aload_n C 0 dX12_sort_48 rfl rfl ?_
          obtain ⟨o17, h⟩ := h
          refine e_getI C [12] 0 (fg_of fg_X12_7) o17 dX12_sort_49 ?_
          refine e_bipush (v := 6) C dX12_sort_52 (by decide) ?_
          refine e_icmp_ne (tgt := 60) C dX12_sort_54 (by decide) (fun q18 => ?_) (fun q18 => ?_)
          · have h := ite_f h q18
            refine e_aload_n C 0 dX12_sort_60 rfl rfl ?_
            refine e_getR C [12] 2 (fg_of fg_X12_16) o17 dX12_sort_61 ?_
            refine e_aload_n C 0 dX12_sort_64 rfl rfl ?_
            refine e_getI C [12] 0 (fg_of fg_X12_7) o17 dX12_sort_65 ?_
            refine e_iload_n C 1 dX12_sort_68 rfl rfl ?_
            obtain ⟨b19, p20, h⟩ := h
            try rw [p20]
            obtain ⟨o21, h⟩ := h
            refine e_iast C o21 dX12_sort_69 ?_
            refine nmE (fun M22 e23 => ?_)
            have h := h M22 e23
            have o24 : isO M22 a0 [12] := by rw [e23]; exact o17
            have p25 : mP M22 a0 2 = some b19 := by rw [e23]; exact p20
            refine e_aload_n C 0 dX12_sort_70 rfl rfl ?_
            refine e_getR C [12] 3 (fg_of fg_X12_20) o24 dX12_sort_71 ?_
            refine e_aload_n C 0 dX12_sort_74 rfl rfl ?_
            refine e_getI C [12] 0 (fg_of fg_X12_7) o24 dX12_sort_75 ?_
            refine e_iload_n C 2 dX12_sort_78 rfl rfl ?_
            obtain ⟨b26, p27, h⟩ := h
            try rw [p27]
            obtain ⟨o28, h⟩ := h
            refine e_iast C o28 dX12_sort_79 ?_
            refine nmE (fun M29 e30 => ?_)
            have h := h M29 e30
            have o31 : isO M29 a0 [12] := by rw [e30]; exact o24
            have p32 : mP M29 a0 2 = some b19 := by rw [e30]; exact p25
            have p33 : mP M29 a0 3 = some b26 := by rw [e30]; exact p27
            refine e_aload_n C 0 dX12_sort_80 rfl rfl ?_
            refine e_getR C [12] 4 (fg_of fg_X12_23) o31 dX12_sort_81 ?_
            refine e_aload_n C 0 dX12_sort_84 rfl rfl ?_
            refine e_getI C [12] 0 (fg_of fg_X12_7) o31 dX12_sort_85 ?_
            refine e_iload_n C 3 dX12_sort_88 rfl rfl ?_
            obtain ⟨b34, p35, h⟩ := h
            try rw [p35]
            obtain ⟨o36, h⟩ := h
            refine e_iast C o36 dX12_sort_89 ?_
            refine nmE (fun M37 e38 => ?_)
            have h := h M37 e38
            have o39 : isO M37 a0 [12] := by rw [e38]; exact o31
            have p40 : mP M37 a0 2 = some b19 := by rw [e38]; exact p32
            have p41 : mP M37 a0 3 = some b26 := by rw [e38]; exact p33
            have p42 : mP M37 a0 4 = some b34 := by rw [e38]; exact p35
            refine e_aload_n C 0 dX12_sort_90 rfl rfl ?_
            refine e_getR C [12] 5 (fg_of fg_X12_26) o39 dX12_sort_91 ?_
            refine e_aload_n C 0 dX12_sort_94 rfl rfl ?_
            refine e_getI C [12] 0 (fg_of fg_X12_7) o39 dX12_sort_95 ?_
            refine e_iload C 4 dX12_sort_98 rfl ?_
            obtain ⟨b43, p44, h⟩ := h
            try rw [p44]
            obtain ⟨o45, h⟩ := h
            refine e_iast C o45 dX12_sort_100 ?_
            refine nmE (fun M46 e47 => ?_)
            have h := h M46 e47
            have o48 : isO M46 a0 [12] := by rw [e47]; exact o39
            have p49 : mP M46 a0 2 = some b19 := by rw [e47]; exact p40
            have p50 : mP M46 a0 3 = some b26 := by rw [e47]; exact p41
            have p51 : mP M46 a0 4 = some b34 := by rw [e47]; exact p42
            have p52 : mP M46 a0 5 = some b43 := by rw [e47]; exact p44
            refine e_aload_n C 0 dX12_sort_101 rfl rfl ?_
            refine e_getR C [12] 6 (fg_of fg_X12_29) o48 dX12_sort_102 ?_
            refine e_aload_n C 0 dX12_sort_105 rfl rfl ?_
            refine e_getI C [12] 0 (fg_of fg_X12_7) o48 dX12_sort_106 ?_
            refine e_bipush (v := 10) C dX12_sort_109 (by decide) ?_
            obtain ⟨b53, p54, h⟩ := h
            try rw [p54]
            obtain ⟨o55, h⟩ := h
            refine e_iast C o55 dX12_sort_111 ?_
            refine nmE (fun M56 e57 => ?_)
            have h := h M56 e57
            have o58 : isO M56 a0 [12] := by rw [e57]; exact o48
            have p59 : mP M56 a0 2 = some b19 := by rw [e57]; exact p49
            have p60 : mP M56 a0 3 = some b26 := by rw [e57]; exact p50
            have p61 : mP M56 a0 4 = some b34 := by rw [e57]; exact p51
            have p62 : mP M56 a0 5 = some b43 := by rw [e57]; exact p52
            have p63 : mP M56 a0 6 = some b53 := by rw [e57]; exact p54
            refine e_aload_n C 0 dX12_sort_112 rfl rfl ?_
            refine e_dup C rfl dX12_sort_113 ?_
            refine e_getI C [12] 0 (fg_of fg_X12_7) o58 dX12_sort_114 ?_
            refine e_iconst (v := 1) C dX12_sort_117 (by decide) ?_
            refine e_iadd C dX12_sort_118 ?_
            refine e_putI C [12] 0 false (fun z => by cases z) fp_X12_7 o58 dX12_sort_119 ?_
            refine nmE (fun M64 e65 => ?_)
            have h := h M64 e65
            have o66 : isO M64 a0 [12] := by rw [e65]; exact o58
            have p67 : mP M64 a0 2 = some b19 := by rw [e65]; exact p59
            have p68 : mP M64 a0 3 = some b26 := by rw [e65]; exact p60
            have p69 : mP M64 a0 4 = some b34 := by rw [e65]; exact p61
            have p70 : mP M64 a0 5 = some b43 := by rw [e65]; exact p62
            have p71 : mP M64 a0 6 = some b53 := by rw [e65]; exact p63
            refine e_aload_n C 0 dX12_sort_122 rfl rfl ?_
            refine e_getI C [12] 0 (fg_of fg_X12_7) o66 dX12_sort_123 ?_
            refine e_iconst (v := 1) C dX12_sort_126 (by decide) ?_
            refine e_isub C dX12_sort_127 ?_
            exact e_iret C hr hlk (Nat.le_refl _) (Nat.le_refl _) dX12_sort_128 ⟨_, rfl, h⟩
          · have h := ite_t h q18
            refine e_bipush (v := -4) C dX12_sort_57 (by decide) ?_
            exact e_iret C hr hlk (Nat.le_refl _) (Nat.le_refl _) dX12_sort_59 ⟨_, rfl, h⟩
        · have h := ite_f h (bi_ne q16)
          refine e_bipush (v := -2) C dX12_sort_45 (by decide) ?_
          exact e_iret C hr hlk (Nat.le_refl _) (Nat.le_refl _) dX12_sort_47 ⟨_, rfl, h⟩
theorem m_X12_sort {a0 : Nat} {x1 : Int32} {x2 : Int32} {x3 : Int32} {x4 : Int32} {M : Mem} {Q : Int32 → Mem → Prop} (h : f_X12_sort a0 x1 x2 x3 x4 M Q) : Con yX12_sort cX12_sort 5 (some .int) 2 0 0 [.ref a0, .int x1, .int x2, .int x3, .int x4] M (rI Q) :=
  con_of2 (al := [(0, .ref a0), (1, .int x1), (2, .int x2), (3, .int x3), (4, .int x4)]) (by decide) (by first | decide | simp [lg_sl, va_cat, Value.category]) (by first | rfl | simp [lv_args, va_cat, Value.category]) (fun p l e s m args below meth c g C hr hlk _ => w_X12_sort C hr hlk h)
set_option maxHeartbeats 4000000 in
set_option maxRecDepth 100000 in
theorem w_X3_timeOf {p : Program} {l : Launch} {e : Env} {s : State} {m : MethodId} {args : Array Value} {below : List Frame} {meth : Method} {c : Code} {g : Geo} (C : Cx p s m args c cX3_timeOf RX3 2 g) (hr : meth.sig.returnType = (some .int)) (hlk : meth.locks = false) {a0 : Nat} {x1 : Int32} {M : Mem} {Q : Int32 → Mem → Prop} (h : f_X3_timeOf a0 x1 M Q) : E p l e (rmO 1 0 0) s m args below meth c g 2 (MQ below (QcM g (rI Q)) args s 0 0 (gA g)) 0 0 0 [(0, .ref a0), (1, .int x1)] [] M := by
  unfold f_X3_timeOf at h
  refine e_aload_n C 0 dX3_timeOf_0 rfl rfl ?_
  obtain ⟨o1, h⟩ := h
  refine e_getR C [3] 10 (fg_of fg_X3_36) o1 dX3_timeOf_1 ?_
  refine e_iload_n C 1 dX3_timeOf_4 rfl rfl ?_
  obtain ⟨b2, p3, h⟩ := h
  try rw [p3]
  obtain ⟨o4, h⟩ := h
  refine e_aald C 4 (by decide) o4 dX3_timeOf_5 ?_
  refine e_iconst (v := 3) C dX3_timeOf_6 (by decide) ?_
  obtain ⟨b5, p6, h⟩ := h
  try rw [p6]
  obtain ⟨o7, h⟩ := h
  refine e_iald C o7 dX3_timeOf_7 ?_
  refine e_aload_n C 0 dX3_timeOf_8 rfl rfl ?_
  refine e_getI C [3] 14 (fg_of fg_X3_79) o1 dX3_timeOf_9 ?_
  refine e_iadd C dX3_timeOf_12 ?_
  exact e_iret C hr hlk (Nat.le_refl _) (Nat.le_refl _) dX3_timeOf_13 ⟨_, rfl, h⟩
theorem m_X3_timeOf {a0 : Nat} {x1 : Int32} {M : Mem} {Q : Int32 → Mem → Prop} (h : f_X3_timeOf a0 x1 M Q) : Con yX3_timeOf cX3_timeOf 2 (some .int) 1 0 0 [.ref a0, .int x1] M (rI Q) :=
  con_of2 (al := [(0, .ref a0), (1, .int x1)]) (by decide) (by first | decide | simp [lg_sl, va_cat, Value.category]) (by first | rfl | simp [lv_args, va_cat, Value.category]) (fun p l e s m args below meth c g C hr hlk _ => w_X3_timeOf C hr hlk h)
set_option maxHeartbeats 4000000 in
set_option maxRecDepth 100000 in
theorem w_X3_firstOf_J40 {p : Program} {l : Launch} {e : Env} {s : State} {m : MethodId} {args : Array Value} {below : List Frame} {meth : Method} {c : Code} {g : Geo} (C : Cx p s m args c cX3_firstOf RX3 3 g) (hr : meth.sig.returnType = (some .int)) (hlk : meth.locks = false) {a0 : Nat} {x1 : Int32} {v2 : Int32} {M : Mem} {K11 : Int32 × Mem → Prop} {Q : Int32 → Mem → Prop} (hK11 : ∀ z : Int32 × Mem, K11 z → E p l e (rmO 1 0 0) s m args below meth c g 3 (MQ below (QcM g (rI Q)) args s 0 0 (gA g)) 0 0 11 [(0, .ref a0), (1, .int x1), (2, .int z.1)] [] (z.2)) (h : f_X3_firstOf_J40 a0 x1 v2 M K11 Q) : E p l e (rmO 1 0 0) s m args below meth c g 3 (MQ below (QcM g (rI Q)) args s 0 0 (gA g)) 0 0 40 [(0, .ref a0), (1, .int x1), (2, .int v2)] [] M := by
  unfold f_X3_firstOf_J40 at h
  refine e_iinc (v := (v2 + 1)) (al' := [(2, .int (v2 + 1)), (0, .ref a0), (1, .int x1)]) C 2 dX3_firstOf_40 rfl rfl (by decide) rfl ?_
  refine e_goto (tgt := 11) C dX3_firstOf_43 (by decide) ?_
  refine e_pick [1, 2, 0] rfl ?_
  exact hK11 ((v2 + 1), M) h
set_option maxHeartbeats 4000000 in
set_option maxRecDepth 100000 in
theorem w_X3_firstOf_B11 {p : Program} {l : Launch} {e : Env} {s : State} {m : MethodId} {args : Array Value} {below : List Frame} {meth : Method} {c : Code} {g : Geo} (C : Cx p s m args c cX3_firstOf RX3 3 g) (hr : meth.sig.returnType = (some .int)) (hlk : meth.locks = false) {a0 : Nat} {x1 : Int32} {v2 : Int32} {M : Mem} {K11 : Int32 × Mem → Prop} {Q : Int32 → Mem → Prop} (hK11 : ∀ z : Int32 × Mem, K11 z → E p l e (rmO 1 0 0) s m args below meth c g 3 (MQ below (QcM g (rI Q)) args s 0 0 (gA g)) 0 0 11 [(0, .ref a0), (1, .int x1), (2, .int z.1)] [] (z.2)) (h : f_X3_firstOf_B11 a0 x1 v2 M K11 Q) : E p l e (rmO 1 0 0) s m args below meth c g 3 (MQ below (QcM g (rI Q)) args s 0 0 (gA g)) 0 0 11 [(0, .ref a0), (1, .int x1), (2, .int v2)] [] M := by
  unfold f_X3_firstOf_B11 at h
  refine e_iload_n C 2 dX3_firstOf_11 rfl rfl ?_
  refine e_aload_n C 0 dX3_firstOf_12 rfl rfl ?_
  obtain ⟨o1, h⟩ := h
  refine e_getI C [3] 6 (fg_of fg_X3_82) o1 dX3_firstOf_13 ?_
  refine e_icmp_ge (tgt := 46) C dX3_firstOf_16 (by decide) (fun q2 => ?_) (fun q2 => ?_)
  · have h := ite_t h q2
    refine e_iconst (v := -1) C dX3_firstOf_46 (by decide) ?_
    exact e_iret C hr hlk (Nat.le_refl _) (Nat.le_refl _) dX3_firstOf_47 ⟨_, rfl, h⟩
  · have h := ite_f h q2
    refine e_aload_n C 0 dX3_firstOf_19 rfl rfl ?_
    refine e_getR C [3] 2 (fg_of fg_X3_18) o1 dX3_firstOf_20 ?_
    refine e_iload_n C 2 dX3_firstOf_23 rfl rfl ?_
    obtain ⟨b3, p4, h⟩ := h
    try rw [p4]
    obtain ⟨o5, h⟩ := h
    refine e_iald C o5 dX3_firstOf_24 ?_
    refine e_iload_n C 1 dX3_firstOf_25 rfl rfl ?_
    refine e_icmp_ne (tgt := 40) C dX3_firstOf_26 (by decide) (fun q6 => ?_) (fun q6 => ?_)
    · have h := ite_f h q6
      exact w_X3_firstOf_J40 C hr hlk hK11 h
    · have h := ite_t h q6
      refine e_aload_n C 0 dX3_firstOf_29 rfl rfl ?_
      refine e_getR C [3] 4 (fg_of fg_X3_24) o1 dX3_firstOf_30 ?_
      refine e_iload_n C 2 dX3_firstOf_33 rfl rfl ?_
      obtain ⟨b7, p8, h⟩ := h
      try rw [p8]
      obtain ⟨o9, h⟩ := h
      refine e_iald C o9 dX3_firstOf_34 ?_
      refine e_if_ge (tgt := 40) C dX3_firstOf_35 (by decide) (fun q10 => ?_) (fun q10 => ?_)
      · have h := ite_t h q10
        exact w_X3_firstOf_J40 C hr hlk hK11 h
      · have h := ite_f h q10
        refine e_iload_n C 2 dX3_firstOf_38 rfl rfl ?_
        exact e_iret C hr hlk (Nat.le_refl _) (Nat.le_refl _) dX3_firstOf_39 ⟨_, rfl, h⟩
set_option maxHeartbeats 4000000 in
set_option maxRecDepth 100000 in
theorem w_X3_firstOf_L11 {p : Program} {l : Launch} {e : Env} {s : State} {m : MethodId} {args : Array Value} {below : List Frame} {meth : Method} {c : Code} {g : Geo} (C : Cx p s m args c cX3_firstOf RX3 3 g) (hr : meth.sig.returnType = (some .int)) (hlk : meth.locks = false) {a0 : Nat} {x1 : Int32} {v2 : Int32} {M : Mem} {Q : Int32 → Mem → Prop} (h : f_X3_firstOf_L11 a0 x1 v2 M Q) : E p l e (rmO 1 0 0) s m args below meth c g 3 (MQ below (QcM g (rI Q)) args s 0 0 (gA g)) 0 0 11 [(0, .ref a0), (1, .int x1), (2, .int v2)] [] M := by
  unfold f_X3_firstOf_L11 at h
  refine loop_E (W := fun z : Int32 × Mem => E p l e (rmO 1 0 0) s m args below meth c g 3 (MQ below (QcM g (rI Q)) args s 0 0 (gA g)) 0 0 11 [(0, .ref a0), (1, .int x1), (2, .int z.1)] [] (z.2)) h (fun K z hK h => ?_)
  exact w_X3_firstOf_B11 C hr hlk hK h
set_option maxHeartbeats 4000000 in
set_option maxRecDepth 100000 in
theorem w_X3_firstOf {p : Program} {l : Launch} {e : Env} {s : State} {m : MethodId} {args : Array Value} {below : List Frame} {meth : Method} {c : Code} {g : Geo} (C : Cx p s m args c cX3_firstOf RX3 3 g) (hr : meth.sig.returnType = (some .int)) (hlk : meth.locks = false) {a0 : Nat} {x1 : Int32} {M : Mem} {Q : Int32 → Mem → Prop} (h : f_X3_firstOf a0 x1 M Q) : E p l e (rmO 1 0 0) s m args below meth c g 3 (MQ below (QcM g (rI Q)) args s 0 0 (gA g)) 0 0 0 [(0, .ref a0), (1, .int x1)] [] M := by
  unfold f_X3_firstOf at h
  refine e_aload_n C 0 dX3_firstOf_0 rfl rfl ?_
  obtain ⟨o1, h⟩ := h
  refine e_getR C [3] 16 (fg_of fg_X3_30) o1 dX3_firstOf_1 ?_
  refine e_iload_n C 1 dX3_firstOf_4 rfl rfl ?_
  obtain ⟨b2, p3, h⟩ := h
  try rw [p3]
  obtain ⟨o4, h⟩ := h
  refine e_iald C o4 dX3_firstOf_5 ?_
  refine e_if_le (tgt := 46) C dX3_firstOf_6 (by decide) (fun q5 => ?_) (fun q5 => ?_)
  · have h := ite_t h q5
    refine e_iconst (v := -1) C dX3_firstOf_46 (by decide) ?_
    exact e_iret C hr hlk (Nat.le_refl _) (Nat.le_refl _) dX3_firstOf_47 ⟨_, rfl, h⟩
  · have h := ite_f h q5
    refine e_iconst (v := 0) C dX3_firstOf_9 (by decide) ?_
    refine e_istore_n (al' := [(2, .int (0 : Int32)), (0, .ref a0), (1, .int x1)]) C dX3_firstOf_10 rfl (by decide) rfl ?_
    refine e_pick [1, 2, 0] rfl ?_
    exact w_X3_firstOf_L11 C hr hlk h
theorem m_X3_firstOf {a0 : Nat} {x1 : Int32} {M : Mem} {Q : Int32 → Mem → Prop} (h : f_X3_firstOf a0 x1 M Q) : Con yX3_firstOf cX3_firstOf 3 (some .int) 1 0 0 [.ref a0, .int x1] M (rI Q) :=
  con_of2 (al := [(0, .ref a0), (1, .int x1)]) (by decide) (by first | decide | simp [lg_sl, va_cat, Value.category]) (by first | rfl | simp [lv_args, va_cat, Value.category]) (fun p l e s m args below meth c g C hr hlk _ => w_X3_firstOf C hr hlk h)
set_option maxHeartbeats 4000000 in
set_option maxRecDepth 100000 in
theorem w_X5_began_J26 {p : Program} {l : Launch} {e : Env} {s : State} {m : MethodId} {args : Array Value} {below : List Frame} {meth : Method} {c : Code} {g : Geo} (C : Cx p s m args c cX5_began RX5 2 g) (hr : meth.sig.returnType = none) (hlk : meth.locks = false) {a0 : Nat} {x1 : Int32} {M : Mem} {Q : Mem → Prop} (h : f_X5_began_J26 a0 x1 M Q) : E p l e (rmO 1 0 0) s m args below meth c g 2 (MQ below (QcM g (rV Q)) args s 0 0 (gA g)) 0 0 26 [(0, .ref a0), (1, .int x1)] [] M := by
  unfold f_X5_began_J26 at h
  refine e_aload_n C 0 dX5_began_26 rfl rfl ?_
  refine e_dup C rfl dX5_began_27 ?_
  obtain ⟨o1, h⟩ := h
  refine e_getI C [5, 1, 2, 4, 6, 7, 9] 2 (fg_of fg_X5_29) o1 dX5_began_28 ?_
  refine e_iconst (v := 1) C dX5_began_31 (by decide) ?_
  refine e_iadd C dX5_began_32 ?_
  refine e_putI C [5, 1, 2, 4, 6, 7, 9] 2 false (fun z => by cases z) fp_X5_29 o1 dX5_began_33 ?_
  refine nmE (fun M2 e3 => ?_)
  have h := h M2 e3
  have o4 : isO M2 a0 [5, 1, 2, 4, 6, 7, 9] := by rw [e3]; exact o1
  exact e_vret C hr hlk (Nat.le_refl _) (Nat.le_refl _) dX5_began_36 ⟨rfl, h⟩
set_option maxHeartbeats 4000000 in
set_option maxRecDepth 100000 in
theorem w_X5_began {p : Program} {l : Launch} {e : Env} {s : State} {m : MethodId} {args : Array Value} {below : List Frame} {meth : Method} {c : Code} {g : Geo} (C : Cx p s m args c cX5_began RX5 2 g) (hr : meth.sig.returnType = none) (hlk : meth.locks = false) {a0 : Nat} {x1 : Int32} {M : Mem} {Q : Mem → Prop} (h : f_X5_began a0 x1 M Q) : E p l e (rmO 1 0 0) s m args below meth c g 2 (MQ below (QcM g (rV Q)) args s 0 0 (gA g)) 0 0 0 [(0, .ref a0), (1, .int x1)] [] M := by
  unfold f_X5_began at h
  refine e_aload_n C 0 dX5_began_0 rfl rfl ?_
  obtain ⟨o1, h⟩ := h
  refine e_getI C [5, 1, 2, 4, 6, 7, 9] 2 (fg_of fg_X5_29) o1 dX5_began_1 ?_
  refine e_if_lt (tgt := 26) C dX5_began_4 (by decide) (fun q2 => ?_) (fun q2 => ?_)
  · have h := ite_t h q2
    exact w_X5_began_J26 C hr hlk h
  · have h := ite_f h q2
    refine e_aload_n C 0 dX5_began_7 rfl rfl ?_
    refine e_getI C [5, 1, 2, 4, 6, 7, 9] 2 (fg_of fg_X5_29) o1 dX5_began_8 ?_
    refine e_bipush (v := 20) C dX5_began_11 (by decide) ?_
    refine e_icmp_ge (tgt := 26) C dX5_began_13 (by decide) (fun q3 => ?_) (fun q3 => ?_)
    · have h := ite_t h q3
      exact w_X5_began_J26 C hr hlk h
    · have h := ite_f h q3
      refine e_aload_n C 0 dX5_began_16 rfl rfl ?_
      refine e_getR C [5, 1, 2, 4, 6, 7, 9] 3 (fg_of fg_X5_9) o1 dX5_began_17 ?_
      refine e_aload_n C 0 dX5_began_20 rfl rfl ?_
      refine e_getI C [5, 1, 2, 4, 6, 7, 9] 2 (fg_of fg_X5_29) o1 dX5_began_21 ?_
      refine e_iload_n C 1 dX5_began_24 rfl rfl ?_
      obtain ⟨b4, p5, h⟩ := h
      try rw [p5]
      obtain ⟨o6, h⟩ := h
      refine e_iast C o6 dX5_began_25 ?_
      refine nmE (fun M7 e8 => ?_)
      have h := h M7 e8
      have o9 : isO M7 a0 [5, 1, 2, 4, 6, 7, 9] := by rw [e8]; exact o1
      have p10 : mP M7 a0 3 = some b4 := by rw [e8]; exact p5
      exact w_X5_began_J26 C hr hlk h
theorem m_X5_began {a0 : Nat} {x1 : Int32} {M : Mem} {Q : Mem → Prop} (h : f_X5_began a0 x1 M Q) : Con yX5_began cX5_began 2 none 1 0 0 [.ref a0, .int x1] M (rV Q) :=
  con_of2 (al := [(0, .ref a0), (1, .int x1)]) (by decide) (by first | decide | simp [lg_sl, va_cat, Value.category]) (by first | rfl | simp [lv_args, va_cat, Value.category]) (fun p l e s m args below meth c g C hr hlk _ => w_X5_began C hr hlk h)
set_option maxHeartbeats 4000000 in
set_option maxRecDepth 100000 in
theorem w_X12_of {p : Program} {l : Launch} {e : Env} {s : State} {m : MethodId} {args : Array Value} {below : List Frame} {meth : Method} {c : Code} {g : Geo} (C : Cx p s m args c cX12_of RX12 3 g) (hr : meth.sig.returnType = (some .int)) (hlk : meth.locks = false) {a0 : Nat} {x1 : Int32} {x2 : Int32} {M : Mem} {Q : Int32 → Mem → Prop} (h : f_X12_of a0 x1 x2 M Q) : E p l e (rmO 3 0 0) s m args below meth c g 3 (MQ below (QcM g (rI Q)) args s 0 0 (gA g)) 0 0 0 [(0, .ref a0), (1, .int x1), (2, .int x2)] [] M := by
  unfold f_X12_of at h
  refine e_aload_n C 0 dX12_of_0 rfl rfl ?_
  refine e_iload_n C 1 dX12_of_1 rfl rfl ?_
  obtain ⟨o3, h⟩ := h
  refine e_callV (as := [.int x1]) C wb_X12_isSort wv_X12_219 (ci := 12) rfl rfl (isO_1 o3) (m_X12_isSort h) rfl ⟨Nat.le_of_ble_eq_true rfl, Nat.le_of_ble_eq_true rfl⟩ ⟨Nat.le_of_ble_eq_true rfl, Nat.le_of_ble_eq_true rfl⟩ (by first | exact Nat.le_of_ble_eq_true rfl | simp [Value.category, va_cat]) dX12_of_2 (kZ (fun w1 M2 h => ?_))
  refine e_if_ne (tgt := 10) C dX12_of_5 (by decide) (fun q4 => ?_) (fun q4 => ?_)
  · have h := ite_t h (bi_t q4)
    refine e_iload_n C 2 dX12_of_10 rfl rfl ?_
    by_cases q5 : x2 = 0
    · have h := ite_t h q5
      refine e_tin (tgt := 44) C dX12_of_11 (by rw [q5]; decide) (by rw [q5]; decide) (by rw [q5]; rfl) (by decide) ?_
      refine e_aload_n C 0 dX12_of_44 rfl rfl ?_
      obtain ⟨o6, h⟩ := h
      refine e_getR C [12] 2 (fg_of fg_X12_16) o6 dX12_of_45 ?_
      refine e_iload_n C 1 dX12_of_48 rfl rfl ?_
      obtain ⟨b7, p8, h⟩ := h
      try rw [p8]
      obtain ⟨o9, h⟩ := h
      refine e_iald C o9 dX12_of_49 ?_
      exact e_iret C hr hlk (Nat.le_refl _) (Nat.le_refl _) dX12_of_50 ⟨_, rfl, h⟩
    · have h := ite_f h q5
      by_cases q10 : x2 = 1
      · have h := ite_t h q10
        refine e_tin (tgt := 51) C dX12_of_11 (by rw [q10]; decide) (by rw [q10]; decide) (by rw [q10]; rfl) (by decide) ?_
        refine e_aload_n C 0 dX12_of_51 rfl rfl ?_
        obtain ⟨o11, h⟩ := h
        refine e_getR C [12] 3 (fg_of fg_X12_20) o11 dX12_of_52 ?_
        refine e_iload_n C 1 dX12_of_55 rfl rfl ?_
        obtain ⟨b12, p13, h⟩ := h
        try rw [p13]
        obtain ⟨o14, h⟩ := h
        refine e_iald C o14 dX12_of_56 ?_
        exact e_iret C hr hlk (Nat.le_refl _) (Nat.le_refl _) dX12_of_57 ⟨_, rfl, h⟩
      · have h := ite_f h q10
        by_cases q15 : x2 = 2
        · have h := ite_t h q15
          refine e_tin (tgt := 58) C dX12_of_11 (by rw [q15]; decide) (by rw [q15]; decide) (by rw [q15]; rfl) (by decide) ?_
          refine e_aload_n C 0 dX12_of_58 rfl rfl ?_
          obtain ⟨o16, h⟩ := h
          refine e_getR C [12] 4 (fg_of fg_X12_23) o16 dX12_of_59 ?_
          refine e_iload_n C 1 dX12_of_62 rfl rfl ?_
          obtain ⟨b17, p18, h⟩ := h
          try rw [p18]
          obtain ⟨o19, h⟩ := h
          refine e_iald C o19 dX12_of_63 ?_
          exact e_iret C hr hlk (Nat.le_refl _) (Nat.le_refl _) dX12_of_64 ⟨_, rfl, h⟩
        · have h := ite_f h q15
          by_cases q20 : x2 = 3
          · have h := ite_t h q20
            refine e_tin (tgt := 65) C dX12_of_11 (by rw [q20]; decide) (by rw [q20]; decide) (by rw [q20]; rfl) (by decide) ?_
            refine e_aload_n C 0 dX12_of_65 rfl rfl ?_
            obtain ⟨o21, h⟩ := h
            refine e_getR C [12] 5 (fg_of fg_X12_26) o21 dX12_of_66 ?_
            refine e_iload_n C 1 dX12_of_69 rfl rfl ?_
            obtain ⟨b22, p23, h⟩ := h
            try rw [p23]
            obtain ⟨o24, h⟩ := h
            refine e_iald C o24 dX12_of_70 ?_
            exact e_iret C hr hlk (Nat.le_refl _) (Nat.le_refl _) dX12_of_71 ⟨_, rfl, h⟩
          · have h := ite_f h q20
            by_cases q25 : x2 = 4
            · have h := ite_t h q25
              refine e_tin (tgt := 72) C dX12_of_11 (by rw [q25]; decide) (by rw [q25]; decide) (by rw [q25]; rfl) (by decide) ?_
              refine e_aload_n C 0 dX12_of_72 rfl rfl ?_
              obtain ⟨o26, h⟩ := h
              refine e_getR C [12] 6 (fg_of fg_X12_29) o26 dX12_of_73 ?_
              refine e_iload_n C 1 dX12_of_76 rfl rfl ?_
              obtain ⟨b27, p28, h⟩ := h
              try rw [p28]
              obtain ⟨o29, h⟩ := h
              refine e_iald C o29 dX12_of_77 ?_
              exact e_iret C hr hlk (Nat.le_refl _) (Nat.le_refl _) dX12_of_78 ⟨_, rfl, h⟩
            · have h := ite_f h q25
              refine e_tout (tgt := 79) C dX12_of_11 (by have z0 := lv_neT (a := 0) q5 (by decide); have z1 := lv_neT (a := 1) q10 (by decide); have z2 := lv_neT (a := 2) q15 (by decide); have z3 := lv_neT (a := 3) q20 (by decide); have z4 := lv_neT (a := 4) q25 (by decide); omega) (by decide) ?_
              refine e_iconst (v := -1) C dX12_of_79 (by decide) ?_
              exact e_iret C hr hlk (Nat.le_refl _) (Nat.le_refl _) dX12_of_80 ⟨_, rfl, h⟩
  · have h := ite_f h (bi_ne q4)
    refine e_iconst (v := -1) C dX12_of_8 (by decide) ?_
    exact e_iret C hr hlk (Nat.le_refl _) (Nat.le_refl _) dX12_of_9 ⟨_, rfl, h⟩
theorem m_X12_of {a0 : Nat} {x1 : Int32} {x2 : Int32} {M : Mem} {Q : Int32 → Mem → Prop} (h : f_X12_of a0 x1 x2 M Q) : Con yX12_of cX12_of 3 (some .int) 3 0 0 [.ref a0, .int x1, .int x2] M (rI Q) :=
  con_of2 (al := [(0, .ref a0), (1, .int x1), (2, .int x2)]) (by decide) (by first | decide | simp [lg_sl, va_cat, Value.category]) (by first | rfl | simp [lv_args, va_cat, Value.category]) (fun p l e s m args below meth c g C hr hlk _ => w_X12_of C hr hlk h)
set_option maxHeartbeats 4000000 in
set_option maxRecDepth 100000 in
theorem w_X12_odds {p : Program} {l : Launch} {e : Env} {s : State} {m : MethodId} {args : Array Value} {below : List Frame} {meth : Method} {c : Code} {g : Geo} (C : Cx p s m args c cX12_odds RX12 4 g) (hr : meth.sig.returnType = (some .int)) (hlk : meth.locks = false) {a0 : Nat} {x1 : Int32} {x2 : Int32} {M : Mem} {Q : Int32 → Mem → Prop} (h : f_X12_odds a0 x1 x2 M Q) : E p l e (rmO 3 0 0) s m args below meth c g 4 (MQ below (QcM g (rI Q)) args s 0 0 (gA g)) 0 0 0 [(0, .ref a0), (1, .int x1), (2, .int x2)] [] M := by
  unfold f_X12_odds at h
  refine e_aload_n C 0 dX12_odds_0 rfl rfl ?_
  refine e_iload_n C 1 dX12_odds_1 rfl rfl ?_
  obtain ⟨o3, h⟩ := h
  refine e_callV (as := [.int x1]) C wb_X12_isSort wv_X12_219 (ci := 12) rfl rfl (isO_1 o3) (m_X12_isSort h) rfl ⟨Nat.le_of_ble_eq_true rfl, Nat.le_of_ble_eq_true rfl⟩ ⟨Nat.le_of_ble_eq_true rfl, Nat.le_of_ble_eq_true rfl⟩ (by first | exact Nat.le_of_ble_eq_true rfl | simp [Value.category, va_cat]) dX12_odds_2 (kZ (fun w1 M2 h => ?_))
  refine e_if_ne (tgt := 10) C dX12_odds_5 (by decide) (fun q4 => ?_) (fun q4 => ?_)
  · have h := ite_t h (bi_t q4)
    refine e_aload_n C 0 dX12_odds_10 rfl rfl ?_
    refine e_iload_n C 2 dX12_odds_11 rfl rfl ?_
    refine e_iconst (v := 0) C dX12_odds_12 (by decide) ?_
    refine e_bipush (v := 10) C dX12_odds_13 (by decide) ?_
    obtain ⟨o7, h⟩ := h
    refine e_callV (as := [.int x2, .int (0 : Int32), .int (10 : Int32)]) C wb_X12_in wv_X12_215 (ci := 12) rfl rfl (isO_1 o7) (m_X12_in h) rfl ⟨Nat.le_of_ble_eq_true rfl, Nat.le_of_ble_eq_true rfl⟩ ⟨Nat.le_of_ble_eq_true rfl, Nat.le_of_ble_eq_true rfl⟩ (by first | exact Nat.le_of_ble_eq_true rfl | simp [Value.category, va_cat]) dX12_odds_15 (kZ (fun w5 M6 h => ?_))
    refine e_if_ne (tgt := 24) C dX12_odds_18 (by decide) (fun q8 => ?_) (fun q8 => ?_)
    · have h := ite_t h (bi_t q8)
      refine e_aload_n C 0 dX12_odds_24 rfl rfl ?_
      obtain ⟨o9, h⟩ := h
      refine e_getR C [12] 6 (fg_of fg_X12_29) o9 dX12_odds_25 ?_
      refine e_iload_n C 1 dX12_odds_28 rfl rfl ?_
      obtain ⟨b10, p11, h⟩ := h
      try rw [p11]
      obtain ⟨o12, h⟩ := h
      refine e_iald C o12 dX12_odds_29 ?_
      refine e_istore_n (al' := [(3, .int (mI M6 b10 (x1).toNatClampNeg)), (0, .ref a0), (1, .int x1), (2, .int x2)]) C dX12_odds_30 rfl (by decide) rfl ?_
      refine e_aload_n C 1 dX12_odds_31 rfl rfl ?_
      refine e_getR C [12] 6 (fg_of fg_X12_29) o9 dX12_odds_32 ?_
      rw [p11]
      refine e_iload_n C 2 dX12_odds_35 rfl rfl ?_
      refine e_iload_n C 3 dX12_odds_36 rfl rfl ?_
      obtain ⟨o13, h⟩ := h
      refine e_iast C o13 dX12_odds_37 ?_
      refine nmE (fun M14 e15 => ?_)
      have h := h M14 e15
      have o16 : isO M14 a0 [12] := by rw [e15]; exact o9
      have p17 : mP M14 a0 6 = some b10 := by rw [e15]; exact p11
      refine e_iload_n C 0 dX12_odds_38 rfl rfl ?_
      exact e_iret C hr hlk (Nat.le_refl _) (Nat.le_refl _) dX12_odds_39 ⟨_, rfl, h⟩
    · have h := ite_f h (bi_ne q8)
      refine e_bipush (v := -2) C dX12_odds_21 (by decide) ?_
      exact e_iret C hr hlk (Nat.le_refl _) (Nat.le_refl _) dX12_odds_23 ⟨_, rfl, h⟩
  · have h := ite_f h (bi_ne q4)
    refine e_iconst (v := -1) C dX12_odds_8 (by decide) ?_
    exact e_iret C hr hlk (Nat.le_refl _) (Nat.le_refl _) dX12_odds_9 ⟨_, rfl, h⟩
theorem m_X12_odds {a0 : Nat} {x1 : Int32} {x2 : Int32} {M : Mem} {Q : Int32 → Mem → Prop} (h : f_X12_odds a0 x1 x2 M Q) : Con yX12_odds cX12_odds 4 (some .int) 3 0 0 [.ref a0, .int x1, .int x2] M (rI Q) :=
  con_of2 (al := [(0, .ref a0), (1, .int x1), (2, .int x2)]) (by decide) (by first | decide | simp [lg_sl, va_cat, Value.category]) (by first | rfl | simp [lv_args, va_cat, Value.category]) (fun p l e s m args below meth c g C hr hlk _ => w_X12_odds C hr hlk h)
set_option maxHeartbeats 4000000 in
set_option maxRecDepth 100000 in
theorem w_X3_waits {p : Program} {l : Launch} {e : Env} {s : State} {m : MethodId} {args : Array Value} {below : List Frame} {meth : Method} {c : Code} {g : Geo} (C : Cx p s m args c cX3_waits RX3 2 g) (hr : meth.sig.returnType = (some .int)) (hlk : meth.locks = false) {a0 : Nat} {x1 : Int32} {M : Mem} {Q : Int32 → Mem → Prop} (h : f_X3_waits a0 x1 M Q) : E p l e (rmO 1 0 0) s m args below meth c g 2 (MQ below (QcM g (rI Q)) args s 0 0 (gA g)) 0 0 0 [(0, .ref a0), (1, .int x1)] [] M := by
  unfold f_X3_waits at h
  refine e_iload_n C 1 dX3_waits_0 rfl rfl ?_
  refine e_if_lt (tgt := 22) C dX3_waits_1 (by decide) (fun q1 => ?_) (fun q1 => ?_)
  · have h := ite_t h q1
    refine e_bipush (v := -5) C dX3_waits_22 (by decide) ?_
    refine e_goto (tgt := 40) C dX3_waits_24 (by decide) ?_
    exact e_iret C hr hlk (Nat.le_refl _) (Nat.le_refl _) dX3_waits_40 ⟨_, rfl, h⟩
  · have h := ite_f h q1
    refine e_iload_n C 1 dX3_waits_4 rfl rfl ?_
    refine e_aload_n C 0 dX3_waits_5 rfl rfl ?_
    obtain ⟨o2, h⟩ := h
    refine e_getI C [3] 6 (fg_of fg_X3_82) o2 dX3_waits_6 ?_
    refine e_icmp_ge (tgt := 22) C dX3_waits_9 (by decide) (fun q3 => ?_) (fun q3 => ?_)
    · have h := ite_t h q3
      refine e_bipush (v := -5) C dX3_waits_22 (by decide) ?_
      refine e_goto (tgt := 40) C dX3_waits_24 (by decide) ?_
      exact e_iret C hr hlk (Nat.le_refl _) (Nat.le_refl _) dX3_waits_40 ⟨_, rfl, h⟩
    · have h := ite_f h q3
      refine e_aload_n C 0 dX3_waits_12 rfl rfl ?_
      refine e_getR C [3] 2 (fg_of fg_X3_18) o2 dX3_waits_13 ?_
      refine e_iload_n C 1 dX3_waits_16 rfl rfl ?_
      obtain ⟨b4, p5, h⟩ := h
      try rw [p5]
      obtain ⟨o6, h⟩ := h
      refine e_iald C o6 dX3_waits_17 ?_
      refine e_iconst (v := 2) C dX3_waits_18 (by decide) ?_
      refine e_icmp_ne (tgt := 27) C dX3_waits_19 (by decide) (fun q7 => ?_) (fun q7 => ?_)
      · have h := ite_f h q7
        refine e_aload_n C 0 dX3_waits_27 rfl rfl ?_
        refine e_getR C [3] 4 (fg_of fg_X3_24) o2 dX3_waits_28 ?_
        refine e_iload_n C 1 dX3_waits_31 rfl rfl ?_
        obtain ⟨b8, p9, h⟩ := h
        try rw [p9]
        obtain ⟨o10, h⟩ := h
        refine e_iald C o10 dX3_waits_32 ?_
        refine e_aload_n C 0 dX3_waits_33 rfl rfl ?_
        refine e_getR C [3] 1 (fg_of fg_X3_15) o2 dX3_waits_34 ?_
        refine e_iload_n C 1 dX3_waits_37 rfl rfl ?_
        obtain ⟨b11, p12, h⟩ := h
        try rw [p12]
        obtain ⟨o13, h⟩ := h
        refine e_iald C o13 dX3_waits_38 ?_
        refine e_isub C dX3_waits_39 ?_
        exact e_iret C hr hlk (Nat.le_refl _) (Nat.le_refl _) dX3_waits_40 ⟨_, rfl, h⟩
      · have h := ite_t h q7
        refine e_bipush (v := -5) C dX3_waits_22 (by decide) ?_
        refine e_goto (tgt := 40) C dX3_waits_24 (by decide) ?_
        exact e_iret C hr hlk (Nat.le_refl _) (Nat.le_refl _) dX3_waits_40 ⟨_, rfl, h⟩
theorem m_X3_waits {a0 : Nat} {x1 : Int32} {M : Mem} {Q : Int32 → Mem → Prop} (h : f_X3_waits a0 x1 M Q) : Con yX3_waits cX3_waits 2 (some .int) 1 0 0 [.ref a0, .int x1] M (rI Q) :=
  con_of2 (al := [(0, .ref a0), (1, .int x1)]) (by decide) (by first | decide | simp [lg_sl, va_cat, Value.category]) (by first | rfl | simp [lv_args, va_cat, Value.category]) (fun p l e s m args below meth c g C hr hlk _ => w_X3_waits C hr hlk h)
set_option maxHeartbeats 4000000 in
set_option maxRecDepth 100000 in
theorem w_X3_rank_B2 {p : Program} {l : Launch} {e : Env} {s : State} {m : MethodId} {args : Array Value} {below : List Frame} {meth : Method} {c : Code} {g : Geo} (C : Cx p s m args c cX3_rank RX3 3 g) (hr : meth.sig.returnType = (some .int)) (hlk : meth.locks = false) {a0 : Nat} {x1 : Int32} {v2 : Int32} {M : Mem} {K2 : Int32 × Mem → Prop} {Q : Int32 → Mem → Prop} (hK2 : ∀ z : Int32 × Mem, K2 z → E p l e (rmO 1 0 0) s m args below meth c g 3 (MQ below (QcM g (rI Q)) args s 0 0 (gA g)) 0 0 2 [(0, .ref a0), (1, .int x1), (2, .int z.1)] [] (z.2)) (h : f_X3_rank_B2 a0 x1 v2 M K2 Q) : E p l e (rmO 1 0 0) s m args below meth c g 3 (MQ below (QcM g (rI Q)) args s 0 0 (gA g)) 0 0 2 [(0, .ref a0), (1, .int x1), (2, .int v2)] [] M := by
  unfold f_X3_rank_B2 at h
  refine e_iload_n C 2 dX3_rank_2 rfl rfl ?_
  refine e_aload_n C 0 dX3_rank_3 rfl rfl ?_
  obtain ⟨o1, h⟩ := h
  refine e_getI C [3] 7 (fg_of fg_X3_85) o1 dX3_rank_4 ?_
  refine e_icmp_ge (tgt := 28) C dX3_rank_7 (by decide) (fun q2 => ?_) (fun q2 => ?_)
  · have h := ite_t h q2
    refine e_bipush (v := -5) C dX3_rank_28 (by decide) ?_
    exact e_iret C hr hlk (Nat.le_refl _) (Nat.le_refl _) dX3_rank_30 ⟨_, rfl, h⟩
  · have h := ite_f h q2
    refine e_aload_n C 0 dX3_rank_10 rfl rfl ?_
    refine e_getR C [3] 5 (fg_of fg_X3_27) o1 dX3_rank_11 ?_
    refine e_iload_n C 2 dX3_rank_14 rfl rfl ?_
    obtain ⟨b3, p4, h⟩ := h
    try rw [p4]
    obtain ⟨o5, h⟩ := h
    refine e_iald C o5 dX3_rank_15 ?_
    refine e_iload_n C 1 dX3_rank_16 rfl rfl ?_
    refine e_icmp_ne (tgt := 22) C dX3_rank_17 (by decide) (fun q6 => ?_) (fun q6 => ?_)
    · have h := ite_f h q6
      refine e_iinc (v := (v2 + 1)) (al' := [(2, .int (v2 + 1)), (0, .ref a0), (1, .int x1)]) C 2 dX3_rank_22 rfl rfl (by decide) rfl ?_
      refine e_goto (tgt := 2) C dX3_rank_25 (by decide) ?_
      refine e_pick [1, 2, 0] rfl ?_
      exact hK2 ((v2 + 1), M) h
    · have h := ite_t h q6
      refine e_iload_n C 2 dX3_rank_20 rfl rfl ?_
      exact e_iret C hr hlk (Nat.le_refl _) (Nat.le_refl _) dX3_rank_21 ⟨_, rfl, h⟩
set_option maxHeartbeats 4000000 in
set_option maxRecDepth 100000 in
theorem w_X3_rank_L2 {p : Program} {l : Launch} {e : Env} {s : State} {m : MethodId} {args : Array Value} {below : List Frame} {meth : Method} {c : Code} {g : Geo} (C : Cx p s m args c cX3_rank RX3 3 g) (hr : meth.sig.returnType = (some .int)) (hlk : meth.locks = false) {a0 : Nat} {x1 : Int32} {v2 : Int32} {M : Mem} {Q : Int32 → Mem → Prop} (h : f_X3_rank_L2 a0 x1 v2 M Q) : E p l e (rmO 1 0 0) s m args below meth c g 3 (MQ below (QcM g (rI Q)) args s 0 0 (gA g)) 0 0 2 [(0, .ref a0), (1, .int x1), (2, .int v2)] [] M := by
  unfold f_X3_rank_L2 at h
  refine loop_E (W := fun z : Int32 × Mem => E p l e (rmO 1 0 0) s m args below meth c g 3 (MQ below (QcM g (rI Q)) args s 0 0 (gA g)) 0 0 2 [(0, .ref a0), (1, .int x1), (2, .int z.1)] [] (z.2)) h (fun K z hK h => ?_)
  exact w_X3_rank_B2 C hr hlk hK h
set_option maxHeartbeats 4000000 in
set_option maxRecDepth 100000 in
theorem w_X3_rank {p : Program} {l : Launch} {e : Env} {s : State} {m : MethodId} {args : Array Value} {below : List Frame} {meth : Method} {c : Code} {g : Geo} (C : Cx p s m args c cX3_rank RX3 3 g) (hr : meth.sig.returnType = (some .int)) (hlk : meth.locks = false) {a0 : Nat} {x1 : Int32} {M : Mem} {Q : Int32 → Mem → Prop} (h : f_X3_rank a0 x1 M Q) : E p l e (rmO 1 0 0) s m args below meth c g 3 (MQ below (QcM g (rI Q)) args s 0 0 (gA g)) 0 0 0 [(0, .ref a0), (1, .int x1)] [] M := by
  unfold f_X3_rank at h
  refine e_iconst (v := 0) C dX3_rank_0 (by decide) ?_
  refine e_istore_n (al' := [(2, .int (0 : Int32)), (0, .ref a0), (1, .int x1)]) C dX3_rank_1 rfl (by decide) rfl ?_
  refine e_pick [1, 2, 0] rfl ?_
  exact w_X3_rank_L2 C hr hlk h
theorem m_X3_rank {a0 : Nat} {x1 : Int32} {M : Mem} {Q : Int32 → Mem → Prop} (h : f_X3_rank a0 x1 M Q) : Con yX3_rank cX3_rank 3 (some .int) 1 0 0 [.ref a0, .int x1] M (rI Q) :=
  con_of2 (al := [(0, .ref a0), (1, .int x1)]) (by decide) (by first | decide | simp [lg_sl, va_cat, Value.category]) (by first | rfl | simp [lv_args, va_cat, Value.category]) (fun p l e s m args below meth c g C hr hlk _ => w_X3_rank C hr hlk h)
