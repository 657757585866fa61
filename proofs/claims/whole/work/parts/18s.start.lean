/-! ===== the start ===== -/
def nrL : List Cond := flatC (Jvm.Cond.and given_1 narrow_1)
def tmS (i : Nat) : Term := Term.string "PennyQueue$Window" (strK i)
def M0 : Mem := (0, fun _ => .inl 99, fun _ _ => 0, fun _ _ => 0, fun _ _ => none)
theorem va_OI.of {A : Array Value} {U : State} (h : (Cond.arrayOver (.array .int)).before A U = true) : va_OI U := by
  unfold Cond.before Cond.holds at h
  simp only [Cond.value, beq_iff_eq] at h
  have e0 : (FieldType.array .int).toString = "[I" := rfl
  have e1 : "[" ++ (FieldType.array .int).toString = "[[I" := rfl
  cases hc : U.vm.findClass (FieldType.array .int).toString with
  | none => simp [hc] at h
  | some comp =>
    simp only [hc, Option.bind_some, Option.bind_eq_some_iff, Option.map_eq_some_iff] at h
    obtain ⟨c, hi, k, hk, hb⟩ := h
    obtain ⟨hlt, hp, -⟩ := Array.findIdx?_eq_some_iff_getElem.mp hi
    have hkk : U.vm.classes[c] = k := (Array.getElem?_eq_some_iff.mp hk).2
    rw [hkk] at hp
    cases hkind : k.kind with
    | array component ty =>
      rw [hkind] at hb hp
      simp at hb hp
      exact ⟨comp, c, k, hc, hi, hk, by rw [hkind, hp, hb.1], by rw [← e1]; exact hb.2⟩
    | _ => rw [hkind] at hb; simp at hb
theorem rf_cases {v : Value} (h : v.isRef = true) : v = .null ∨ ∃ a, v = .ref a := by
  cases v <;> simp [Value.isRef] at h <;> first | exact Or.inl rfl | exact Or.inr ⟨_, rfl⟩
set_option maxRecDepth 100000 in
theorem nr_can : ∀ q ∈ lw_not, Cond.not (Cond.castable q.1 q.2) ∈ nrL := by decide +kernel
set_option maxRecDepth 100000 in
theorem nr_ex : ∀ i, i < 7 → Cond.exactly (tmS i) "java/lang/String" ∈ nrL := by decide +kernel
set_option maxRecDepth 100000 in
theorem nr_co : ∀ i, i < 7 → Cond.eq (.field (tmS i) "java/lang/String" "coder" "B") (.int 0) ∈ nrL := by decide +kernel
set_option maxRecDepth 100000 in
theorem nr_ar : ∀ i, i < 7 → Cond.arrayOf (.field (tmS i) "java/lang/String" "value" "[B") .byte ∈ nrL := by decide +kernel
set_option maxRecDepth 100000 in
theorem nr_le : ∀ i, i < 7 → Cond.eq (.length (.field (tmS i) "java/lang/String" "value" "[B")) (.int (Int32.ofNat (strL.getD i 0))) ∈ nrL := by decide +kernel
set_option maxRecDepth 100000 in
theorem nr_el : ∀ i, i < 7 → ∀ j, j < strL.getD i 0 → Cond.eq (.elem (.field (tmS i) "java/lang/String" "value" "[B") (.int (Int32.ofNat j))) (.int ((strB.getD i []).getD j 0)) ∈ nrL := by decide +kernel
set_option maxRecDepth 100000 in
theorem nr_ne : ∀ i, i < 7 → ∀ j, j < 7 → i ≠ j → (Cond.not (Cond.eq (tmS i) (tmS j)) ∈ nrL ∨ Cond.not (Cond.eq (tmS j) (tmS i)) ∈ nrL) := by decide +kernel
set_option maxRecDepth 100000 in
theorem nr_cs : Cond.eq (.static "java/lang/String" "COMPACT_STRINGS" "Z") (.int 1) ∈ nrL := by decide +kernel
set_option maxRecDepth 100000 in
theorem nr_si : Cond.isRef (.static "jdk/internal/util/Preconditions" "SIOOBE_FORMATTER" "Ljava/util/function/BiFunction;") ∈ nrL := by decide +kernel
set_option maxRecDepth 100000 in
set_option maxHeartbeats 4000000 in
theorem kk_start {s : State} {b : Nat} (hts : ∀ w ∈ lw_tbl, w.before #[Value.ref b] s = true) (hgv : (Jvm.Cond.and given_1 narrow_1).before #[Value.ref b] s = true) : ∃ g : Geo, g.1 = s.heap.size ∧ g.2.1 16 = b ∧ KK g s s.heap := by
  have hg : ∀ w ∈ lw_good, w.before #[Value.ref b] s = true := fun w hw => hts w (List.mem_filter.mp hw).1
  have hn : ∀ w ∈ nrL, w.before #[Value.ref b] s = true := flat_of_before _ hgv
  obtain ⟨c0, i0, k0⟩ := u_known (C := RX0) (T := TX0) (N := 5) (n := 5) hg uwX0 (hg _ wd_111)
  obtain ⟨c1, i1, k1⟩ := u_known (C := RX1) (T := TX1) (N := 4) (n := 4) hg uwX1 (hg _ wd_462)
  obtain ⟨c2, i2, k2⟩ := u_known (C := RX2) (T := TX2) (N := 4) (n := 4) hg uwX2 (hg _ wd_506)
  obtain ⟨c3, i3, k3⟩ := u_known (C := RX3) (T := TX3) (N := 19) (n := 19) hg uwX3 (hg _ wd_141)
  obtain ⟨c4, i4, k4⟩ := u_known (C := RX4) (T := TX4) (N := 4) (n := 4) hg uwX4 (hg _ wd_484)
  obtain ⟨c5, i5, k5⟩ := u_known (C := RX5) (T := TX5) (N := 4) (n := 4) hg uwX5 (hg _ wd_80)
  obtain ⟨c6, i6, k6⟩ := u_known (C := RX6) (T := TX6) (N := 4) (n := 4) hg uwX6 (hg _ wd_495)
  obtain ⟨c7, i7, k7⟩ := u_known (C := RX7) (T := TX7) (N := 4) (n := 4) hg uwX7 (hg _ wd_473)
  obtain ⟨c8, i8, k8⟩ := u_known (C := RX8) (T := TX8) (N := 3) (n := 3) hg uwX8 (hg _ wd_216)
  obtain ⟨c9, i9, k9⟩ := u_known (C := RX9) (T := TX9) (N := 5) (n := 5) hg uwX9 (hg _ wd_517)
  obtain ⟨c10, i10, k10⟩ := u_known (C := RX10) (T := TX10) (N := 11) (n := 11) hg uwX10 (hg _ wd_33)
  obtain ⟨c11, i11, k11⟩ := u_known (C := RX11) (T := TX11) (N := 19) (n := 19) hg uwX11 (hg _ wd_22)
  obtain ⟨c12, i12, k12⟩ := u_known (C := RX12) (T := TX12) (N := 67) (n := 67) hg uwX12 (hg _ wd_976)
  obtain ⟨a0, l0, p0, f0, g0, h0⟩ := Cond.arrayClass_spec (hg _ wd_76)
  obtain ⟨a1, l1, p1, f1, g1, h1⟩ := Cond.arrayClass_spec (hg _ wd_77)
  obtain ⟨a2, l2, p2, f2, g2, h2⟩ := Cond.arrayClass_spec (hg _ wd_1183)
  obtain ⟨a3, l3, p3, f3, g3, h3⟩ := Cond.arrayClass_spec (hg _ wd_234)
  have hOI : va_OI s := va_OI.of (hts _ (List.mem_append_right _ (show _ ∈ tables_1 from List.mem_append_left _ (List.mem_of_getElem? (i := 30) rfl))))
  have hAO5 : va_AO "PennyQueue$Window" s := va_AO.of (hts _ (List.mem_append_right _ (show _ ∈ tables_1 from List.mem_append_left _ (List.mem_of_getElem? (i := 32) rfl))))
  obtain ⟨p5, a5, l5, f5, -, g5, h5, e5⟩ := Cond.arrayOver_spec hAO5
  have hAO6 : va_AO "PennyQueue$Order" s := va_AO.of (hts _ (List.mem_append_right _ (show _ ∈ tables_1 from List.mem_append_left _ (List.mem_of_getElem? (i := 79) rfl))))
  obtain ⟨p6, a6, l6, f6, -, g6, h6, e6⟩ := Cond.arrayOver_spec hAO6
  have hAO7 : va_AO "PennyQueue$Tape" s := va_AO.of (hts _ (List.mem_append_right _ (show _ ∈ tables_1 from List.mem_append_left _ (List.mem_of_getElem? (i := 215) rfl))))
  obtain ⟨p7, a7, l7, f7, -, g7, h7, e7⟩ := Cond.arrayOver_spec hAO7
  obtain ⟨p4, a4, l4, f4, q4, g4, h4, e4⟩ := id hOI
  have hA : ∀ a : Nat, a < s.heap.size → ¬ (fun q => s.heap.size ≤ q) a := fun a h q => absurd q (Nat.not_le.mpr h)
  obtain ⟨adK, adV, hS, hev⟩ := vk_Sof (N := 7) (tm := tmS) (len := strL) (byt := strB) (A := fun q => s.heap.size ≤ q) (by decide) (fun i hi => hn _ (nr_ex i hi)) (fun i hi => hn _ (nr_co i hi)) (fun i hi => hn _ (nr_ar i hi)) (fun i hi => hn _ (nr_le i hi)) (fun i hi j hj => hn _ (nr_el i hi j hj)) (fun i j hi hj hij => (nr_ne i hi j hj hij).imp (hn _) (hn _)) hA
  obtain ⟨vs, hvs, hvr⟩ := Cond.isRef_spec (hn _ nr_si)
  have hZ1 := va_Zof (A := fun q => s.heap.size ≤ q) (hts _ (List.mem_append_right _ (show _ ∈ tables_1 from List.mem_append_right _ (List.mem_append_left _ (List.mem_of_getElem? (i := 106) rfl))))) (hg _ wd_8) (va_eqi (hn _ nr_cs)) hA
  have hZ2 := va_Zof (A := fun q => s.heap.size ≤ q) (hts _ (List.mem_append_right _ (show _ ∈ tables_1 from List.mem_append_right _ (List.mem_append_left _ (List.mem_of_getElem? (i := 122) rfl))))) (hg _ wd_10) hvs hA
  obtain ⟨zs, zf, hzs⟩ : ∃ zs zf : Nat, vs = if zf = 0 then .null else .ref zs := by
    rcases rf_cases hvr with h | ⟨a, h⟩
    · exact ⟨0, 0, h⟩
    · exact ⟨a, 1, h⟩
  refine ⟨(s.heap.size, (fun i => if i < 7 then adK i else if i < 14 then adV (i - 7) else if i = 14 then zs else if i = 15 then zf else b), (fun c => match c with | 0 => c0 | 1 => c1 | 2 => c2 | 3 => c3 | 4 => c4 | 5 => c5 | 6 => c6 | 7 => c7 | 8 => c8 | 9 => c9 | 10 => c10 | 11 => c11 | _ => c12), (fun c => match c with | 0 => i0 | 1 => i1 | 2 => i2 | 3 => i3 | 4 => i4 | 5 => i5 | 6 => i6 | 7 => i7 | 8 => i8 | 9 => i9 | 10 => i10 | 11 => i11 | _ => i12), (fun t => match t with | 0 => a0 | 1 => a1 | 2 => a2 | 3 => a3 | 4 => a4 | 5 => a5 | 6 => a6 | _ => a7)), rfl, rfl, ?_⟩
  refine ⟨?_, ?_, ?_, ?_, ?_, ?_, ?_, ?_, ?_, hOI, ?_⟩
  · intro ci q hq
    match ci, hq with
    | 0, hq => cases hq; exact k0
    | 1, hq => cases hq; exact k1
    | 2, hq => cases hq; exact k2
    | 3, hq => cases hq; exact k3
    | 4, hq => cases hq; exact k4
    | 5, hq => cases hq; exact k5
    | 6, hq => cases hq; exact k6
    | 7, hq => cases hq; exact k7
    | 8, hq => cases hq; exact k8
    | 9, hq => cases hq; exact k9
    | 10, hq => cases hq; exact k10
    | 11, hq => cases hq; exact k11
    | 12, hq => cases hq; exact k12
    | ci + 13, hq => simp [vwCl] at hq
  · intro t ht
    match t, ht with
    | 0, _ => exact ⟨fun n z => ⟨fun k h => (by cases h), l0, g0, p0, h0⟩, f0⟩
    | 1, _ => exact ⟨fun n z => ⟨fun k h => (by cases h), l1, g1, p1, h1⟩, f1⟩
    | 2, _ => exact ⟨fun n z => ⟨fun k h => (by cases h), l2, g2, p2, h2⟩, f2⟩
    | 3, _ => exact ⟨fun n z => ⟨fun k h => (by cases h), l3, g3, p3, h3⟩, f3⟩
    | 4, _ => exact ⟨fun n z => ⟨fun k h => (by cases h), l4, g4, p4, h4⟩, e4⟩
    | 5, _ => exact ⟨fun n z => ⟨fun k h => (by cases h), l5, g5, p5, h5⟩, l5, p5, g5, h5, f5, e5⟩
    | 6, _ => exact ⟨fun n z => ⟨fun k h => (by cases h), l6, g6, p6, h6⟩, l6, p6, g6, h6, f6, e6⟩
    | 7, _ => exact ⟨fun n z => ⟨fun k h => (by cases h), l7, g7, p7, h7⟩, l7, p7, g7, h7, f7, e7⟩
    | t + 8, ht => exact absurd ht (by omega)
  · intro q hq
    simp only [lw_nest, List.mem_cons, List.not_mem_nil, or_false] at hq
    rcases hq with rfl | rfl | rfl
    · exact va_Nw.of rfl (hts _ (List.mem_append_right _ (show _ ∈ tables_1 from List.mem_append_left _ (List.mem_of_getElem? (i := 34) rfl))))
    · exact va_Nw.of rfl (hts _ (List.mem_append_right _ (show _ ∈ tables_1 from List.mem_append_left _ (List.mem_of_getElem? (i := 112) rfl))))
    · exact va_Nw.of rfl (hts _ (List.mem_append_right _ (show _ ∈ tables_1 from List.mem_append_left _ (List.mem_of_getElem? (i := 217) rfl))))
  · intro q hq
    simp only [lw_can, List.mem_cons, List.not_mem_nil, or_false] at hq
    rcases hq with rfl | rfl | rfl | rfl | rfl | rfl | rfl | rfl | rfl
    · exact va_Nw.of rfl (hts _ (List.mem_append_right _ (show _ ∈ tables_1 from List.mem_append_right _ (List.mem_append_right _ (List.mem_append_right _ (List.mem_append_right _ (List.mem_append_right _ (List.mem_append_right _ (List.mem_of_getElem? (i := 83) rfl)))))))))
    · exact va_Nw.of rfl (hts _ (List.mem_append_right _ (show _ ∈ tables_1 from List.mem_append_right _ (List.mem_append_right _ (List.mem_append_right _ (List.mem_append_right _ (List.mem_append_right _ (List.mem_append_right _ (List.mem_of_getElem? (i := 84) rfl)))))))))
    · exact va_Nw.of rfl (hts _ (List.mem_append_right _ (show _ ∈ tables_1 from List.mem_append_right _ (List.mem_append_right _ (List.mem_append_right _ (List.mem_append_right _ (List.mem_append_right _ (List.mem_append_right _ (List.mem_of_getElem? (i := 85) rfl)))))))))
    · exact va_Nw.of rfl (hts _ (List.mem_append_right _ (show _ ∈ tables_1 from List.mem_append_right _ (List.mem_append_right _ (List.mem_append_right _ (List.mem_append_right _ (List.mem_append_right _ (List.mem_append_right _ (List.mem_of_getElem? (i := 86) rfl)))))))))
    · exact va_Nw.of rfl (hts _ (List.mem_append_right _ (show _ ∈ tables_1 from List.mem_append_right _ (List.mem_append_right _ (List.mem_append_right _ (List.mem_append_right _ (List.mem_append_right _ (List.mem_append_right _ (List.mem_of_getElem? (i := 87) rfl)))))))))
    · exact va_Nw.of rfl (hts _ (List.mem_append_right _ (show _ ∈ tables_1 from List.mem_append_right _ (List.mem_append_right _ (List.mem_append_right _ (List.mem_append_right _ (List.mem_append_right _ (List.mem_append_right _ (List.mem_of_getElem? (i := 88) rfl)))))))))
    · exact va_Nw.of rfl (hts _ (List.mem_append_right _ (show _ ∈ tables_1 from List.mem_append_right _ (List.mem_append_right _ (List.mem_append_right _ (List.mem_append_right _ (List.mem_append_right _ (List.mem_append_right _ (List.mem_of_getElem? (i := 89) rfl)))))))))
    · exact va_Nw.of rfl (hts _ (List.mem_append_right _ (show _ ∈ tables_1 from List.mem_append_right _ (List.mem_append_right _ (List.mem_append_right _ (List.mem_append_right _ (List.mem_append_right _ (List.mem_append_right _ (List.mem_of_getElem? (i := 90) rfl)))))))))
    · exact va_Nw.of rfl (hts _ (List.mem_append_right _ (show _ ∈ tables_1 from List.mem_append_right _ (List.mem_append_right _ (List.mem_append_right _ (List.mem_append_right _ (List.mem_append_right _ (List.mem_append_right _ (List.mem_of_getElem? (i := 91) rfl)))))))))
  · intro q hq
    exact va_Nc.of (hn _ (nr_can q hq))
  · intro i hi
    have hev2 := hev i hi
    have e : (if i < 7 then adK i else if i < 14 then adV (i - 7) else if i = 14 then zs else if i = 15 then zf else b) = adK i := if_pos hi
    show vk_R _ _ _ (if i < 7 then adK i else if i < 14 then adV (i - 7) else if i = 14 then zs else if i = 15 then zf else b) s
    rw [e]
    refine vk_R.of (A := #[Value.ref b]) ?_ hev2
    match i, hi with
    | 0, _ => exact hts _ (List.mem_append_right _ (show _ ∈ tables_1 from List.mem_append_right _ (List.mem_append_left _ (List.mem_of_getElem? (i := 92) rfl))))
    | 1, _ => exact hts _ (List.mem_append_right _ (show _ ∈ tables_1 from List.mem_append_right _ (List.mem_append_left _ (List.mem_of_getElem? (i := 169) rfl))))
    | 2, _ => exact hts _ (List.mem_append_right _ (show _ ∈ tables_1 from List.mem_append_right _ (List.mem_append_left _ (List.mem_of_getElem? (i := 174) rfl))))
    | 3, _ => exact hts _ (List.mem_append_right _ (show _ ∈ tables_1 from List.mem_append_right _ (List.mem_append_left _ (List.mem_of_getElem? (i := 187) rfl))))
    | 4, _ => exact hts _ (List.mem_append_right _ (show _ ∈ tables_1 from List.mem_append_right _ (List.mem_append_left _ (List.mem_of_getElem? (i := 188) rfl))))
    | 5, _ => exact hts _ (List.mem_append_right _ (show _ ∈ tables_1 from List.mem_append_right _ (List.mem_append_left _ (List.mem_of_getElem? (i := 189) rfl))))
    | 6, _ => exact hts _ (List.mem_append_right _ (show _ ∈ tables_1 from List.mem_append_right _ (List.mem_append_left _ (List.mem_of_getElem? (i := 190) rfl))))
    | i + 7, hi => exact absurd (show i + 7 < 7 from hi) (by omega)
  · refine ⟨fun i hi => ?_, fun i j hi hj => ?_⟩
    · have e1 : (if i < 7 then adK i else if i < 14 then adV (i - 7) else if i = 14 then zs else if i = 15 then zf else b) = adK i := if_pos hi
      have e2 : (if 7 + i < 7 then adK (7 + i) else if 7 + i < 14 then adV (7 + i - 7) else if 7 + i = 14 then zs else if 7 + i = 15 then zf else b) = adV i := by
        have h7 : i < 7 := hi
        rw [if_neg (by omega), if_pos (by omega), Nat.add_sub_cancel_left]
      have h := hS.1 i hi
      rw [← e1, ← e2] at h
      exact h
    · have e1 : ∀ i, i < 7 → (if i < 7 then adK i else if i < 14 then adV (i - 7) else if i = 14 then zs else if i = 15 then zf else b) = adK i := fun i hi => if_pos hi
      intro h
      exact hS.2 i j hi hj (by rw [← e1 i hi, ← e1 j hj]; exact h)
  · exact hZ1
  · intro K hK
    simp only [lw_over, List.mem_cons, List.not_mem_nil, or_false] at hK
    rcases hK with rfl | rfl | rfl
    · exact hAO5
    · exact hAO6
    · exact hAO7
  · rw [hzs] at hZ2
    exact hZ2
set_option maxRecDepth 100000 in
set_option maxHeartbeats 4000000 in
/-- the machine's part of the whole claim: from f_L_law -/
theorem whole_of {p : Program} {e : Env} {s : State} {m : MethodId} {below : List Frame} {meth : Method} {c : Code} (l : Launch) {b L : Nat} {xs : Nat → Int32} (hf : f_L_law M0 xs L) (C0 : lw_At p s m meth c b L xs) : W p l e room_1 s m #[Value.ref b] below meth c s.heap [] 0 0 (lw_Z below #[Value.ref b] s) (entryFrame m ([Value.ref b] : List Value).toArray 4) := by
  obtain ⟨hx, hb, hr, hml, hown, hts, hX, hbl, hlocks, hgv⟩ := id C0
  obtain ⟨g, hg1, hg16, hK⟩ := kk_start hts hgv
  have hbA : ¬ gA g b := by
    show ¬ g.1 ≤ b
    omega
  have C : Cx p s m #[Value.ref b] c cL_law RL 4 g := ⟨hx, hb, hml, hown, fun w hw => hts w (List.mem_filter.mp hw).1, hK⟩
  have X : XC g s b L xs := ⟨hX, hbl, hbA, hg16, hg1⟩
  have hE := w_L_law (l := l) (e := e) (below := below) C X hr hlocks hf
  have hl := lv_entry ([Value.ref b]) (n := 4) (Nat.le_of_ble_eq_true rfl)
  rw [lg_entry_eq]
  have hl2 : lv_has (lg_sl [Value.ref b] ++ List.replicate (4 - (lg_sl [Value.ref b]).length) Slot.unset).toArray 4 (Al g [(0, .retAddr 16)]) := by
    show lv_has _ 4 [(0, Value.ref (g.2.1 16))]
    rw [hg16]
    exact hl
  refine hE _ s.heap [] hl2 ⟨by rw [hg1]; rfl, fun a ha => absurd ha (Nat.not_lt_zero a), fun a _ => rfl⟩ va_S.rf
