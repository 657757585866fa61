-- ===== end of PART A; then your names; then what follows =====
/-! THE CLAIM OUT OF ONE WALK OF THE LAW'S BODY. Your part is whole_start (and what it stands on); all else here is the same for every law, but numbers. -/
def R_law : String := "PennyQueueLaw"
def lw_P (b : Addr) (xs : List Int32) (args : Array Value) (s : State) : Prop := args = #[.ref b] ∧ s.IntsAt b xs ∧ xs.length ≤ 3072 ∧ (Jvm.Cond.and given_1 narrow_1).before args s = true
def lw_Q (_ : Array Value) (s : State) (o : Outcome) (t : State) : Prop := o = .returned (some (.int 1)) ∧ Framed s o t [] 600000 7302250
def lw_Z (below : List Frame) (a : Array Value) (s : State) : State → Prop := fun t => ∃ o, t.status = .running ∧ Ended t below o ∧ lw_Q a s o t
/-- the law's own end, with 1 on the stack, nothing written that was there before, its room as the claim has it -/
theorem lw_ret {p : Program} {l : Launch} {e : Env} {s : State} {m : MethodId} {below : List Frame} {meth : Method} {c : Code} {b : Nat} (hx : p.tables.exec = Jvm.exec) (hb : c.code = code) (hr : meth.sig.returnType = ret) (hlocks : meth.locks = false) {pc : Nat} {H : Heap} {ls : Array Slot} (hdg : decode code pc = .ok (.ireturn, 1)) : W p l e room_1 s m #[Value.ref b] below meth c H [] 600000 7302250 (lw_Z below #[Value.ref b] s) (F0 m pc ls [.int 1]) := by
  intro T hT X
  obtain ⟨fs, hret, hrun, hended, hW, hframe⟩ := X.leave (v := some (.int 1)) (hlocks := hlocks) (fun h => by rw [hr] at h; cases h)
  have hmeth' : T.vm.method? m = some meth := X.method'
  refine ⟨T.setFrames fs, ?_, .returned (some (.int 1)), hrun, hended, rfl, ⟨_, rfl⟩, hW, hframe⟩
  jvm_step X.here [X.here.top, hx, hb, hdg, hmeth', hr, ret, narrow_b1]
  (try refine ⟨rfl, ?_⟩); (try refine ⟨rfl, ?_⟩)
  first | (intro acts; rw [hret _ acts rfl rfl rfl]) | rw [hret _ _ rfl rfl rfl]
  exact Steps.refl _
/-- what holds at the law's entry: the machine, the code, the tables' words (any of lw_tbl by 'hts w (by decide +kernel)'), the script of L ints xs at the cell b, what the Statement gives of the start (any of its parts by flat_of_before) -/
def lw_At (p : Program) (s : State) (m : MethodId) (meth : Method) (c : Code) (b L : Nat) (xs : Nat → Int32) : Prop :=
  p.tables.exec = Jvm.exec ∧ c.code = code ∧ meth.sig.returnType = ret ∧ c.maxLocals = 4 ∧ s.vm.findClass R_law = some m.cls ∧ (∀ w ∈ lw_tbl, w.before #[Value.ref b] s = true) ∧ va_X b L xs s s.heap ∧ b < s.heap.size ∧ meth.locks = false ∧ (Jvm.Cond.and given_1 narrow_1).before #[Value.ref b] s = true
/-- the script: its cell, its length, its ints; where the memory begins -/
def XC (g : Geo) (s : State) (b L : Nat) (xs : Nat → Int32) : Prop := va_X b L xs s s.heap ∧ b < s.heap.size ∧ ¬ gA g b ∧ g.2.1 16 = b ∧ g.1 = s.heap.size
section XROWS
variable {p : Program} {l : Launch} {e : Env} {R : Room} {s : State} {m : MethodId} {args : Array Value} {below : List Frame} {meth : Method} {c : Code} {cc : ByteArray} {own : String} {nL : Nat} {g : Geo} {G : State → Prop} {k n pc : Nat} {al : List (Nat × Value)} {st : List Value} {M : Mem} {b L : Nat} {xs : Nat → Int32}
theorem e_xlen (C : Cx p s m args c cc own nL g) (X : XC g s b L xs) (hdg : decode cc pc = .ok (.arraylength, 1)) (kk : E p l e R s m args below meth c g nL G k n (pc + 1) al (.int (nI L) :: st) M) : E p l e R s m args below meth c g nL G k n pc al (.retAddr 16 :: st) M := by
  intro ls H locs hl hP hS
  have h := va_slen (l := l) (e := e) (R := R) (below := below) (meth := meth) (cells := k) (slots := n) (Q := G) (ls := ls) (rest := st.map (tr g)) C.1 C.2.1 X.1 X.2.1 X.2.2.1 hS hdg (kk ls H locs hl hP hS)
  rw [← X.2.2.2.1] at h
  exact h
theorem e_xld (C : Cx p s m args c cc own nL g) (X : XC g s b L xs) {i : Int32} (hi : vp_in i L) (hdg : decode cc pc = .ok (.iaload, 1)) (kk : E p l e R s m args below meth c g nL G k n (pc + 1) al (.int (xs i.toNatClampNeg) :: st) M) : E p l e R s m args below meth c g nL G k n pc al (.int i :: .retAddr 16 :: st) M := by
  intro ls H locs hl hP hS
  have h := va_sld (l := l) (e := e) (R := R) (below := below) (meth := meth) (cells := k) (slots := n) (Q := G) (ls := ls) (rest := st.map (tr g)) C.1 C.2.1 X.1 X.2.1 X.2.2.1 hS hi hdg (kk ls H locs hl hP hS)
  rw [← X.2.2.2.1] at h
  exact h
theorem e_lwret (C : Cx p s m #[Value.ref b] c cL_law RL nL g) (X : XC g s b L xs) (hr : meth.sig.returnType = ret) (hlk : meth.locks = false) (hk : k ≤ 600000 ∧ n ≤ 7302250) (hdg : decode code pc = .ok (.ireturn, 1)) : E p l e room_1 s m #[Value.ref b] below meth c g nL (lw_Z below #[Value.ref b] s) k n pc al [.int 1] M := by
  intro ls H locs hl hP hS
  refine va_forget (fun q hq => by rw [← X.2.2.2.2]; exact hS.2.2 q hq) ?_
  refine W.widen (k := 600000) (n := 7302250) hk.1 hk.2 ?_
  exact lw_ret C.1 C.2.1 hr hlk hdg
end XROWS
theorem wb_X11_act : WB yX11_act cX11_act 5 (some .int) 3 := ⟨wd_816, wd_1, ⟨by decide, by decide⟩, by decide⟩
theorem wb_X11_all : WB yX11_all cX11_all 4 (some .int) 2 := ⟨wd_708, wd_1, ⟨by decide, by decide⟩, by decide⟩
theorem wb_X11_clear : WB yX11_clear cX11_clear 2 (some .int) 0 := ⟨wd_453, wd_1, ⟨by decide, by decide⟩, by decide⟩
theorem wb_X11_come : WB yX11_come cX11_come 3 (some .int) 2 := ⟨wd_445, wd_1, ⟨by decide, by decide⟩, by decide⟩
theorem wb_X11_comer : WB yX11_comer cX11_comer 5 (some .int) 3 := ⟨wd_545, wd_1, ⟨by decide, by decide⟩, by decide⟩
theorem wb_X11_count : WB yX11_count cX11_count 2 (some .int) 1 := ⟨wd_946, wd_1, ⟨by decide, by decide⟩, by decide⟩
theorem wb_X11_early : WB yX11_early cX11_early 9 (some .int) 3 := ⟨wd_762, wd_1, ⟨by decide, by decide⟩, by decide⟩
theorem wb_X11_feed : WB yX11_feed cX11_feed 4 (some .int) 2 := ⟨wd_315, wd_1, ⟨by decide, by decide⟩, by decide⟩
theorem wb_X11_image : WB yX11_image cX11_image 1 (some .int) 0 := ⟨wd_808, wd_1, ⟨by decide, by decide⟩, by decide⟩
theorem wb_X11_init : WB yX11_init cX11_init 2 none 0 := ⟨wd_25, wd_1, ⟨by decide, by decide⟩, by decide⟩
theorem wb_X11_item : WB yX11_item cX11_item 6 (some .int) 3 := ⟨wd_961, wd_1, ⟨by decide, by decide⟩, by decide⟩
theorem wb_X11_judge : WB yX11_judge cX11_judge 8 (some .int) 4 := ⟨wd_796, wd_1, ⟨by decide, by decide⟩, by decide⟩
theorem wb_X11_loss : WB yX11_loss cX11_loss 4 (some .int) 2 := ⟨wd_752, wd_1, ⟨by decide, by decide⟩, by decide⟩
theorem wb_X11_mean : WB yX11_mean cX11_mean 11 (some .long) 2 := ⟨wd_781, wd_1, ⟨by decide, by decide⟩, by decide⟩
theorem wb_X11_odds : WB yX11_odds cX11_odds 4 (some .int) 2 := ⟨wd_311, wd_1, ⟨by decide, by decide⟩, by decide⟩
theorem wb_X11_of : WB yX11_of cX11_of 3 (some .int) 2 := ⟨wd_303, wd_1, ⟨by decide, by decide⟩, by decide⟩
theorem wb_X11_order : WB yX11_order cX11_order 3 (some .int) 2 := ⟨wd_457, wd_1, ⟨by decide, by decide⟩, by decide⟩
theorem wb_X11_price : WB yX11_price cX11_price 12 (some .int) 2 := ⟨wd_739, wd_1, ⟨by decide, by decide⟩, by decide⟩
theorem wb_X11_read : WB yX11_read cX11_read 4 (some .long) 2 := ⟨wd_969, wd_1, ⟨by decide, by decide⟩, by decide⟩
theorem wb_X11_row : WB yX11_row cX11_row 7 (some .int) 3 := ⟨wd_537, wd_1, ⟨by decide, by decide⟩, by decide⟩
theorem wb_X11_sell : WB yX11_sell cX11_sell 3 (some .int) 1 := ⟨wd_773, wd_1, ⟨by decide, by decide⟩, by decide⟩
theorem wb_X11_served : WB yX11_served cX11_served 6 (some .int) 3 := ⟨wd_704, wd_1, ⟨by decide, by decide⟩, by decide⟩
theorem wb_X11_shift : WB yX11_shift cX11_shift 8 (some .int) 5 := ⟨wd_973, wd_1, ⟨by decide, by decide⟩, by decide⟩
theorem wb_X11_slow : WB yX11_slow cX11_slow 5 (some .int) 2 := ⟨wd_756, wd_1, ⟨by decide, by decide⟩, by decide⟩
theorem wb_X11_sort : WB yX11_sort cX11_sort 6 (some .int) 4 := ⟨wd_296, wd_1, ⟨by decide, by decide⟩, by decide⟩
theorem wb_X11_stand : WB yX11_stand cX11_stand 5 (some .int) 3 := ⟨wd_731, wd_1, ⟨by decide, by decide⟩, by decide⟩
theorem wb_X11_taken : WB yX11_taken cX11_taken 4 (some .int) 2 := ⟨wd_916, wd_1, ⟨by decide, by decide⟩, by decide⟩
theorem wb_X11_tape : WB yX11_tape cX11_tape 5 (some .int) 3 := ⟨wd_950, wd_1, ⟨by decide, by decide⟩, by decide⟩
theorem wb_X11_told : WB yX11_told cX11_told 2 (some .int) 1 := ⟨wd_437, wd_1, ⟨by decide, by decide⟩, by decide⟩
theorem wb_X11_trace : WB yX11_trace cX11_trace 2 (some .int) 1 := ⟨wd_912, wd_1, ⟨by decide, by decide⟩, by decide⟩
theorem wb_X11_undo : WB yX11_undo cX11_undo 1 (some .int) 0 := ⟨wd_812, wd_1, ⟨by decide, by decide⟩, by decide⟩
theorem wb_X11_window : WB yX11_window cX11_window 2 (some .int) 0 := ⟨wd_319, wd_1, ⟨by decide, by decide⟩, by decide⟩
theorem wb_X11_worse : WB yX11_worse cX11_worse 5 (some .int) 1 := ⟨wd_744, wd_1, ⟨by decide, by decide⟩, by decide⟩
theorem wb_X12_act : WB yX12_act cX12_act 4 (some .int) 3 := ⟨wd_1448, wd_7, ⟨by decide, by decide⟩, by decide⟩
theorem wb_X12_all : WB yX12_all cX12_all 3 (some .int) 2 := ⟨wd_1372, wd_7, ⟨by decide, by decide⟩, by decide⟩
theorem wb_X12_clear : WB yX12_clear cX12_clear 2 (some .int) 0 := ⟨wd_1211, wd_7, ⟨by decide, by decide⟩, by decide⟩
theorem wb_X12_come : WB yX12_come cX12_come 3 (some .int) 2 := ⟨wd_1207, wd_7, ⟨by decide, by decide⟩, by decide⟩
theorem wb_X12_comer : WB yX12_comer cX12_comer 4 (some .int) 3 := ⟨wd_1315, wd_7, ⟨by decide, by decide⟩, by decide⟩
theorem wb_X12_count : WB yX12_count cX12_count 2 (some .int) 1 := ⟨wd_1492, wd_7, ⟨by decide, by decide⟩, by decide⟩
theorem wb_X12_early : WB yX12_early cX12_early 8 (some .int) 3 := ⟨wd_1414, wd_7, ⟨by decide, by decide⟩, by decide⟩
theorem wb_X12_feed : WB yX12_feed cX12_feed 4 (some .int) 2 := ⟨wd_1215, wd_7, ⟨by decide, by decide⟩, by decide⟩
theorem wb_X12_image : WB yX12_image cX12_image 2 (some .int) 0 := ⟨wd_1440, wd_7, ⟨by decide, by decide⟩, by decide⟩
theorem wb_X12_init : WB yX12_init cX12_init 1 none 0 := ⟨wd_979, wd_7, ⟨by decide, by decide⟩, by decide⟩
theorem wb_X12_item : WB yX12_item cX12_item 5 (some .int) 3 := ⟨wd_1500, wd_7, ⟨by decide, by decide⟩, by decide⟩
theorem wb_X12_judge : WB yX12_judge cX12_judge 6 (some .int) 4 := ⟨wd_1432, wd_7, ⟨by decide, by decide⟩, by decide⟩
theorem wb_X12_loss : WB yX12_loss cX12_loss 3 (some .int) 2 := ⟨wd_1404, wd_7, ⟨by decide, by decide⟩, by decide⟩
theorem wb_X12_mean : WB yX12_mean cX12_mean 11 (some .long) 2 := ⟨wd_1422, wd_7, ⟨by decide, by decide⟩, by decide⟩
theorem wb_X12_odds : WB yX12_odds cX12_odds 4 (some .int) 2 := ⟨wd_1203, wd_7, ⟨by decide, by decide⟩, by decide⟩
theorem wb_X12_of : WB yX12_of cX12_of 3 (some .int) 2 := ⟨wd_1195, wd_7, ⟨by decide, by decide⟩, by decide⟩
theorem wb_X12_order : WB yX12_order cX12_order 4 (some .int) 2 := ⟨wd_1303, wd_7, ⟨by decide, by decide⟩, by decide⟩
theorem wb_X12_price : WB yX12_price cX12_price 11 (some .int) 2 := ⟨wd_1392, wd_7, ⟨by decide, by decide⟩, by decide⟩
theorem wb_X12_read : WB yX12_read cX12_read 3 (some .long) 2 := ⟨wd_1508, wd_7, ⟨by decide, by decide⟩, by decide⟩
theorem wb_X12_row : WB yX12_row cX12_row 5 (some .int) 3 := ⟨wd_1307, wd_7, ⟨by decide, by decide⟩, by decide⟩
theorem wb_X12_sell : WB yX12_sell cX12_sell 6 (some .int) 1 := ⟨wd_1418, wd_7, ⟨by decide, by decide⟩, by decide⟩
theorem wb_X12_served : WB yX12_served cX12_served 4 (some .int) 3 := ⟨wd_1368, wd_7, ⟨by decide, by decide⟩, by decide⟩
theorem wb_X12_shift : WB yX12_shift cX12_shift 7 (some .int) 5 := ⟨wd_1512, wd_7, ⟨by decide, by decide⟩, by decide⟩
theorem wb_X12_slow : WB yX12_slow cX12_slow 4 (some .int) 2 := ⟨wd_1408, wd_7, ⟨by decide, by decide⟩, by decide⟩
theorem wb_X12_sort : WB yX12_sort cX12_sort 5 (some .int) 4 := ⟨wd_1187, wd_7, ⟨by decide, by decide⟩, by decide⟩
theorem wb_X12_stand : WB yX12_stand cX12_stand 4 (some .int) 3 := ⟨wd_1388, wd_7, ⟨by decide, by decide⟩, by decide⟩
theorem wb_X12_taken : WB yX12_taken cX12_taken 4 (some .int) 2 := ⟨wd_1488, wd_7, ⟨by decide, by decide⟩, by decide⟩
theorem wb_X12_tape : WB yX12_tape cX12_tape 5 (some .int) 3 := ⟨wd_1496, wd_7, ⟨by decide, by decide⟩, by decide⟩
theorem wb_X12_trace : WB yX12_trace cX12_trace 2 (some .int) 1 := ⟨wd_1484, wd_7, ⟨by decide, by decide⟩, by decide⟩
theorem wb_X12_undo : WB yX12_undo cX12_undo 2 (some .int) 0 := ⟨wd_1444, wd_7, ⟨by decide, by decide⟩, by decide⟩
theorem wb_X12_window : WB yX12_window cX12_window 2 (some .int) 0 := ⟨wd_1219, wd_7, ⟨by decide, by decide⟩, by decide⟩
theorem wb_X12_worse : WB yX12_worse cX12_worse 4 (some .int) 1 := ⟨wd_1396, wd_7, ⟨by decide, by decide⟩, by decide⟩
theorem wi_L_12 : WIn RL 12 yX12_init := ⟨wd_977, wd_978, rfl⟩
theorem wi_L_9 : WIn RL 9 yX11_init := ⟨wd_23, wd_24, rfl⟩
theorem wv_L_102 : WVr RL 102 yX12_mean := ⟨wd_1419, wd_1420, wd_1421⟩
theorem wv_L_103 : WVr RL 103 yX11_judge := ⟨wd_793, wd_794, wd_795⟩
theorem wv_L_106 : WVr RL 106 yX12_judge := ⟨wd_1429, wd_1430, wd_1431⟩
theorem wv_L_107 : WVr RL 107 yX11_image := ⟨wd_805, wd_806, wd_807⟩
theorem wv_L_110 : WVr RL 110 yX12_image := ⟨wd_1437, wd_1438, wd_1439⟩
theorem wv_L_111 : WVr RL 111 yX11_undo := ⟨wd_809, wd_810, wd_811⟩
theorem wv_L_114 : WVr RL 114 yX12_undo := ⟨wd_1441, wd_1442, wd_1443⟩
theorem wv_L_115 : WVr RL 115 yX11_act := ⟨wd_813, wd_814, wd_815⟩
theorem wv_L_118 : WVr RL 118 yX12_act := ⟨wd_1445, wd_1446, wd_1447⟩
theorem wv_L_119 : WVr RL 119 yX11_trace := ⟨wd_909, wd_910, wd_911⟩
theorem wv_L_122 : WVr RL 122 yX12_trace := ⟨wd_1481, wd_1482, wd_1483⟩
theorem wv_L_123 : WVr RL 123 yX11_taken := ⟨wd_913, wd_914, wd_915⟩
theorem wv_L_126 : WVr RL 126 yX12_taken := ⟨wd_1485, wd_1486, wd_1487⟩
theorem wv_L_127 : WVr RL 127 yX11_count := ⟨wd_943, wd_944, wd_945⟩
theorem wv_L_13 : WVr RL 13 yX11_sort := ⟨wd_293, wd_294, wd_295⟩
theorem wv_L_130 : WVr RL 130 yX12_count := ⟨wd_1489, wd_1490, wd_1491⟩
theorem wv_L_131 : WVr RL 131 yX11_tape := ⟨wd_947, wd_948, wd_949⟩
theorem wv_L_134 : WVr RL 134 yX12_tape := ⟨wd_1493, wd_1494, wd_1495⟩
theorem wv_L_137 : WVr RL 137 yX11_item := ⟨wd_958, wd_959, wd_960⟩
theorem wv_L_141 : WVr RL 141 yX12_item := ⟨wd_1497, wd_1498, wd_1499⟩
theorem wv_L_142 : WVr RL 142 yX11_read := ⟨wd_966, wd_967, wd_968⟩
theorem wv_L_145 : WVr RL 145 yX12_read := ⟨wd_1505, wd_1506, wd_1507⟩
theorem wv_L_146 : WVr RL 146 yX11_shift := ⟨wd_970, wd_971, wd_972⟩
theorem wv_L_150 : WVr RL 150 yX12_shift := ⟨wd_1509, wd_1510, wd_1511⟩
theorem wv_L_17 : WVr RL 17 yX12_sort := ⟨wd_1184, wd_1185, wd_1186⟩
theorem wv_L_18 : WVr RL 18 yX11_of := ⟨wd_300, wd_301, wd_302⟩
theorem wv_L_22 : WVr RL 22 yX12_of := ⟨wd_1192, wd_1193, wd_1194⟩
theorem wv_L_23 : WVr RL 23 yX11_odds := ⟨wd_308, wd_309, wd_310⟩
theorem wv_L_26 : WVr RL 26 yX12_odds := ⟨wd_1200, wd_1201, wd_1202⟩
theorem wv_L_27 : WVr RL 27 yX11_feed := ⟨wd_312, wd_313, wd_314⟩
theorem wv_L_30 : WVr RL 30 yX12_feed := ⟨wd_1212, wd_1213, wd_1214⟩
theorem wv_L_31 : WVr RL 31 yX11_window := ⟨wd_316, wd_317, wd_318⟩
theorem wv_L_35 : WVr RL 35 yX12_window := ⟨wd_1216, wd_1217, wd_1218⟩
theorem wv_L_36 : WVr RL 36 yX11_told := ⟨wd_434, wd_435, wd_436⟩
theorem wv_L_40 : WVr RL 40 yX12_told := ⟨wd_1280, wd_1281, wd_1282⟩
theorem wv_L_41 : WVr RL 41 yX11_come := ⟨wd_442, wd_443, wd_444⟩
theorem wv_L_44 : WVr RL 44 yX12_come := ⟨wd_1204, wd_1205, wd_1206⟩
theorem wv_L_45 : WVr RL 45 yX11_clear := ⟨wd_450, wd_451, wd_452⟩
theorem wv_L_48 : WVr RL 48 yX12_clear := ⟨wd_1208, wd_1209, wd_1210⟩
theorem wv_L_49 : WVr RL 49 yX11_order := ⟨wd_454, wd_455, wd_456⟩
theorem wv_L_52 : WVr RL 52 yX12_order := ⟨wd_1300, wd_1301, wd_1302⟩
theorem wv_L_53 : WVr RL 53 yX11_row := ⟨wd_534, wd_535, wd_536⟩
theorem wv_L_57 : WVr RL 57 yX12_row := ⟨wd_1304, wd_1305, wd_1306⟩
theorem wv_L_58 : WVr RL 58 yX11_comer := ⟨wd_542, wd_543, wd_544⟩
theorem wv_L_61 : WVr RL 61 yX12_comer := ⟨wd_1312, wd_1313, wd_1314⟩
theorem wv_L_62 : WVr RL 62 yX11_served := ⟨wd_701, wd_702, wd_703⟩
theorem wv_L_65 : WVr RL 65 yX12_served := ⟨wd_1365, wd_1366, wd_1367⟩
theorem wv_L_66 : WVr RL 66 yX11_all := ⟨wd_705, wd_706, wd_707⟩
theorem wv_L_69 : WVr RL 69 yX12_all := ⟨wd_1369, wd_1370, wd_1371⟩
theorem wv_L_70 : WVr RL 70 yX11_stand := ⟨wd_728, wd_729, wd_730⟩
theorem wv_L_73 : WVr RL 73 yX12_stand := ⟨wd_1385, wd_1386, wd_1387⟩
theorem wv_L_74 : WVr RL 74 yX11_price := ⟨wd_736, wd_737, wd_738⟩
theorem wv_L_77 : WVr RL 77 yX12_price := ⟨wd_1389, wd_1390, wd_1391⟩
theorem wv_L_78 : WVr RL 78 yX11_worse := ⟨wd_741, wd_742, wd_743⟩
theorem wv_L_81 : WVr RL 81 yX12_worse := ⟨wd_1393, wd_1394, wd_1395⟩
theorem wv_L_82 : WVr RL 82 yX11_loss := ⟨wd_749, wd_750, wd_751⟩
theorem wv_L_85 : WVr RL 85 yX12_loss := ⟨wd_1401, wd_1402, wd_1403⟩
theorem wv_L_86 : WVr RL 86 yX11_slow := ⟨wd_753, wd_754, wd_755⟩
theorem wv_L_89 : WVr RL 89 yX12_slow := ⟨wd_1405, wd_1406, wd_1407⟩
theorem wv_L_90 : WVr RL 90 yX11_early := ⟨wd_759, wd_760, wd_761⟩
theorem wv_L_93 : WVr RL 93 yX12_early := ⟨wd_1411, wd_1412, wd_1413⟩
theorem wv_L_94 : WVr RL 94 yX11_sell := ⟨wd_770, wd_771, wd_772⟩
theorem wv_L_97 : WVr RL 97 yX12_sell := ⟨wd_1415, wd_1416, wd_1417⟩
theorem wv_L_98 : WVr RL 98 yX11_mean := ⟨wd_778, wd_779, wd_780⟩
set_option maxHeartbeats 4000000 in
set_option maxRecDepth 100000 in
theorem w_L_law_J176 {p : Program} {l : Launch} {e : Env} {s : State} {m : MethodId} {below : List Frame} {meth : Method} {c : Code} {g : Geo} {b L : Nat} {xs : Nat → Int32} (C : Cx p s m #[Value.ref b] c cL_law RL 4 g) (X : XC g s b L xs) (hr : meth.sig.returnType = ret) (hlk : meth.locks = false) {v1 : Nat} {v2 : Nat} {v3 : Int32} {M : Mem} {k n kb nb : Nat} {K : Mem → Prop} (hK : ∀ M', K M' → ∀ k' n', k' ≤ kb → n' ≤ nb → E p l e room_1 s m #[Value.ref b] below meth c g 4 (lw_Z below #[Value.ref b] s) k' n' 1284 [(0, .retAddr 16), (1, .ref v1), (2, .ref v2), (3, .int v3)] [] M') (hk : k + 3 ≤ kb ∧ n + 35 ≤ nb ∧ kb ≤ 600000 ∧ nb ≤ 7302250) (h : f_L_law_J176 v1 v2 v3 M xs L K) : E p l e room_1 s m #[Value.ref b] below meth c g 4 (lw_Z below #[Value.ref b] s) k n 176 [(0, .retAddr 16), (1, .ref v1), (2, .ref v2), (3, .int v3)] [] M := by
  unfold f_L_law_J176 at h
  obtain ⟨hk1, hk2, hk3, hk4⟩ := hk
  refine e_aload_n C 1 dL_law_176 rfl rfl ?_
  refine e_sload_n C 0 dL_law_177 rfl rfl ?_
  refine e_iload_n C 3 dL_law_178 rfl rfl ?_
  refine e_iconst (v := 1) C dL_law_179 (by decide) ?_
  refine e_iadd C dL_law_180 ?_
  obtain ⟨o1, h⟩ := h
  refine e_xld C X o1 dL_law_181 ?_
  refine e_sload_n C 0 dL_law_182 rfl rfl ?_
  refine e_iload_n C 3 dL_law_183 rfl rfl ?_
  refine e_iconst (v := 2) C dL_law_184 (by decide) ?_
  refine e_iadd C dL_law_185 ?_
  obtain ⟨o2, h⟩ := h
  refine e_xld C X o2 dL_law_186 ?_
  refine e_sload_n C 0 dL_law_187 rfl rfl ?_
  refine e_iload_n C 3 dL_law_188 rfl rfl ?_
  refine e_iconst (v := 3) C dL_law_189 (by decide) ?_
  refine e_iadd C dL_law_190 ?_
  obtain ⟨o3, h⟩ := h
  refine e_xld C X o3 dL_law_191 ?_
  refine e_sload_n C 0 dL_law_192 rfl rfl ?_
  refine e_iload_n C 3 dL_law_193 rfl rfl ?_
  refine e_iconst (v := 4) C dL_law_194 (by decide) ?_
  refine e_iadd C dL_law_195 ?_
  obtain ⟨o4, h⟩ := h
  refine e_xld C X o4 dL_law_196 ?_
  obtain ⟨o7, h⟩ := h
  refine e_callV (as := [.int (xs ((v3 + (1 : Int32))).toNatClampNeg), .int (xs ((v3 + (2 : Int32))).toNatClampNeg), .int (xs ((v3 + (3 : Int32))).toNatClampNeg), .int (xs ((v3 + (4 : Int32))).toNatClampNeg)]) C wb_X11_sort wv_L_13 (ci := 11) rfl rfl (isO_1 o7) (m_X11_sort h) rfl ⟨Nat.le_of_ble_eq_true rfl, Nat.le_of_ble_eq_true rfl⟩ ⟨by show _ ≤ 600000; omega, by show _ ≤ 7302250; omega⟩ (by first | exact Nat.le_of_ble_eq_true rfl | (simp only [List.map_cons, List.map_nil, va_cat, List.sum_cons, List.sum_nil]; exact Nat.le_of_ble_eq_true rfl)) dL_law_197 (kI (fun w5 M6 h17 => ?_))
  refine e_aload_n C 2 dL_law_200 rfl rfl ?_
  refine e_sload_n C 0 dL_law_201 rfl rfl ?_
  refine e_iload_n C 3 dL_law_202 rfl rfl ?_
  refine e_iconst (v := 1) C dL_law_203 (by decide) ?_
  refine e_iadd C dL_law_204 ?_
  obtain ⟨o8, h17⟩ := h17
  refine e_xld C X o8 dL_law_205 ?_
  refine e_sload_n C 0 dL_law_206 rfl rfl ?_
  refine e_iload_n C 3 dL_law_207 rfl rfl ?_
  refine e_iconst (v := 2) C dL_law_208 (by decide) ?_
  refine e_iadd C dL_law_209 ?_
  obtain ⟨o9, h17⟩ := h17
  refine e_xld C X o9 dL_law_210 ?_
  refine e_sload_n C 0 dL_law_211 rfl rfl ?_
  refine e_iload_n C 3 dL_law_212 rfl rfl ?_
  refine e_iconst (v := 3) C dL_law_213 (by decide) ?_
  refine e_iadd C dL_law_214 ?_
  obtain ⟨o10, h17⟩ := h17
  refine e_xld C X o10 dL_law_215 ?_
  refine e_sload_n C 0 dL_law_216 rfl rfl ?_
  refine e_iload_n C 3 dL_law_217 rfl rfl ?_
  refine e_iconst (v := 4) C dL_law_218 (by decide) ?_
  refine e_iadd C dL_law_219 ?_
  obtain ⟨o11, h17⟩ := h17
  refine e_xld C X o11 dL_law_220 ?_
  obtain ⟨o14, h17⟩ := h17
  refine e_callV (as := [.int (xs ((v3 + (1 : Int32))).toNatClampNeg), .int (xs ((v3 + (2 : Int32))).toNatClampNeg), .int (xs ((v3 + (3 : Int32))).toNatClampNeg), .int (xs ((v3 + (4 : Int32))).toNatClampNeg)]) C wb_X12_sort wv_L_17 (ci := 12) rfl rfl (isO_1 o14) (m_X12_sort h17) rfl ⟨Nat.le_of_ble_eq_true rfl, Nat.le_of_ble_eq_true rfl⟩ ⟨by show _ ≤ 600000; omega, by show _ ≤ 7302250; omega⟩ (by first | exact Nat.le_of_ble_eq_true rfl | (simp only [List.map_cons, List.map_nil, va_cat, List.sum_cons, List.sum_nil]; exact Nat.le_of_ble_eq_true rfl)) dL_law_221 (kI (fun w12 M13 h16 => ?_))
  refine e_icmp_eq (tgt := 1284) C dL_law_224 (by decide) (fun q15 => ?_) (fun q15 => ?_)
  · replace h16 := ite_t h16 q15
    exact hK _ h16 _ _ (by omega) (by omega)
  · replace h16 := ite_f h16 q15
    refine e_iconst (v := 0) C dL_law_227 (by decide) ?_
    exact h16.elim
set_option maxHeartbeats 4000000 in
set_option maxRecDepth 100000 in
theorem w_L_law_J229 {p : Program} {l : Launch} {e : Env} {s : State} {m : MethodId} {below : List Frame} {meth : Method} {c : Code} {g : Geo} {b L : Nat} {xs : Nat → Int32} (C : Cx p s m #[Value.ref b] c cL_law RL 4 g) (X : XC g s b L xs) (hr : meth.sig.returnType = ret) (hlk : meth.locks = false) {v1 : Nat} {v2 : Nat} {v3 : Int32} {M : Mem} {k n kb nb : Nat} {K : Mem → Prop} (hK : ∀ M', K M' → ∀ k' n', k' ≤ kb → n' ≤ nb → E p l e room_1 s m #[Value.ref b] below meth c g 4 (lw_Z below #[Value.ref b] s) k' n' 1284 [(0, .retAddr 16), (1, .ref v1), (2, .ref v2), (3, .int v3)] [] M') (hk : k + 3 ≤ kb ∧ n + 35 ≤ nb ∧ kb ≤ 600000 ∧ nb ≤ 7302250) (h : f_L_law_J229 v1 v2 v3 M xs L K) : E p l e room_1 s m #[Value.ref b] below meth c g 4 (lw_Z below #[Value.ref b] s) k n 229 [(0, .retAddr 16), (1, .ref v1), (2, .ref v2), (3, .int v3)] [] M := by
  unfold f_L_law_J229 at h
  obtain ⟨hk1, hk2, hk3, hk4⟩ := hk
  refine e_aload_n C 1 dL_law_229 rfl rfl ?_
  refine e_sload_n C 0 dL_law_230 rfl rfl ?_
  refine e_iload_n C 3 dL_law_231 rfl rfl ?_
  refine e_iconst (v := 1) C dL_law_232 (by decide) ?_
  refine e_iadd C dL_law_233 ?_
  obtain ⟨o1, h⟩ := h
  refine e_xld C X o1 dL_law_234 ?_
  refine e_sload_n C 0 dL_law_235 rfl rfl ?_
  refine e_iload_n C 3 dL_law_236 rfl rfl ?_
  refine e_iconst (v := 2) C dL_law_237 (by decide) ?_
  refine e_iadd C dL_law_238 ?_
  obtain ⟨o2, h⟩ := h
  refine e_xld C X o2 dL_law_239 ?_
  obtain ⟨o5, h⟩ := h
  refine e_callV (as := [.int (xs ((v3 + (1 : Int32))).toNatClampNeg), .int (xs ((v3 + (2 : Int32))).toNatClampNeg)]) C wb_X11_of wv_L_18 (ci := 11) rfl rfl (isO_1 o5) (m_X11_of h) rfl ⟨Nat.le_of_ble_eq_true rfl, Nat.le_of_ble_eq_true rfl⟩ ⟨by show _ ≤ 600000; omega, by show _ ≤ 7302250; omega⟩ (by first | exact Nat.le_of_ble_eq_true rfl | (simp only [List.map_cons, List.map_nil, va_cat, List.sum_cons, List.sum_nil]; exact Nat.le_of_ble_eq_true rfl)) dL_law_240 (kI (fun w3 M4 h13 => ?_))
  refine e_aload_n C 2 dL_law_243 rfl rfl ?_
  refine e_sload_n C 0 dL_law_244 rfl rfl ?_
  refine e_iload_n C 3 dL_law_245 rfl rfl ?_
  refine e_iconst (v := 1) C dL_law_246 (by decide) ?_
  refine e_iadd C dL_law_247 ?_
  obtain ⟨o6, h13⟩ := h13
  refine e_xld C X o6 dL_law_248 ?_
  refine e_sload_n C 0 dL_law_249 rfl rfl ?_
  refine e_iload_n C 3 dL_law_250 rfl rfl ?_
  refine e_iconst (v := 2) C dL_law_251 (by decide) ?_
  refine e_iadd C dL_law_252 ?_
  obtain ⟨o7, h13⟩ := h13
  refine e_xld C X o7 dL_law_253 ?_
  obtain ⟨o10, h13⟩ := h13
  refine e_callV (as := [.int (xs ((v3 + (1 : Int32))).toNatClampNeg), .int (xs ((v3 + (2 : Int32))).toNatClampNeg)]) C wb_X12_of wv_L_22 (ci := 12) rfl rfl (isO_1 o10) (m_X12_of h13) rfl ⟨Nat.le_of_ble_eq_true rfl, Nat.le_of_ble_eq_true rfl⟩ ⟨by show _ ≤ 600000; omega, by show _ ≤ 7302250; omega⟩ (by first | exact Nat.le_of_ble_eq_true rfl | (simp only [List.map_cons, List.map_nil, va_cat, List.sum_cons, List.sum_nil]; exact Nat.le_of_ble_eq_true rfl)) dL_law_254 (kI (fun w8 M9 h12 => ?_))
  refine e_icmp_eq (tgt := 1284) C dL_law_257 (by decide) (fun q11 => ?_) (fun q11 => ?_)
  · replace h12 := ite_t h12 q11
    exact hK _ h12 _ _ (by omega) (by omega)
  · replace h12 := ite_f h12 q11
    refine e_iconst (v := 0) C dL_law_260 (by decide) ?_
    exact h12.elim
set_option maxHeartbeats 4000000 in
set_option maxRecDepth 100000 in
theorem w_L_law_J262 {p : Program} {l : Launch} {e : Env} {s : State} {m : MethodId} {below : List Frame} {meth : Method} {c : Code} {g : Geo} {b L : Nat} {xs : Nat → Int32} (C : Cx p s m #[Value.ref b] c cL_law RL 4 g) (X : XC g s b L xs) (hr : meth.sig.returnType = ret) (hlk : meth.locks = false) {v1 : Nat} {v2 : Nat} {v3 : Int32} {M : Mem} {k n kb nb : Nat} {K : Mem → Prop} (hK : ∀ M', K M' → ∀ k' n', k' ≤ kb → n' ≤ nb → E p l e room_1 s m #[Value.ref b] below meth c g 4 (lw_Z below #[Value.ref b] s) k' n' 1284 [(0, .retAddr 16), (1, .ref v1), (2, .ref v2), (3, .int v3)] [] M') (hk : k + 3 ≤ kb ∧ n + 35 ≤ nb ∧ kb ≤ 600000 ∧ nb ≤ 7302250) (h : f_L_law_J262 v1 v2 v3 M xs L K) : E p l e room_1 s m #[Value.ref b] below meth c g 4 (lw_Z below #[Value.ref b] s) k n 262 [(0, .retAddr 16), (1, .ref v1), (2, .ref v2), (3, .int v3)] [] M := by
  unfold f_L_law_J262 at h
  obtain ⟨hk1, hk2, hk3, hk4⟩ := hk
  refine e_aload_n C 1 dL_law_262 rfl rfl ?_
  refine e_sload_n C 0 dL_law_263 rfl rfl ?_
  refine e_iload_n C 3 dL_law_264 rfl rfl ?_
  refine e_iconst (v := 1) C dL_law_265 (by decide) ?_
  refine e_iadd C dL_law_266 ?_
  obtain ⟨o1, h⟩ := h
  refine e_xld C X o1 dL_law_267 ?_
  refine e_sload_n C 0 dL_law_268 rfl rfl ?_
  refine e_iload_n C 3 dL_law_269 rfl rfl ?_
  refine e_iconst (v := 2) C dL_law_270 (by decide) ?_
  refine e_iadd C dL_law_271 ?_
  obtain ⟨o2, h⟩ := h
  refine e_xld C X o2 dL_law_272 ?_
  obtain ⟨o5, h⟩ := h
  refine e_callV (as := [.int (xs ((v3 + (1 : Int32))).toNatClampNeg), .int (xs ((v3 + (2 : Int32))).toNatClampNeg)]) C wb_X11_odds wv_L_23 (ci := 11) rfl rfl (isO_1 o5) (m_X11_odds h) rfl ⟨Nat.le_of_ble_eq_true rfl, Nat.le_of_ble_eq_true rfl⟩ ⟨by show _ ≤ 600000; omega, by show _ ≤ 7302250; omega⟩ (by first | exact Nat.le_of_ble_eq_true rfl | (simp only [List.map_cons, List.map_nil, va_cat, List.sum_cons, List.sum_nil]; exact Nat.le_of_ble_eq_true rfl)) dL_law_273 (kI (fun w3 M4 h13 => ?_))
  refine e_aload_n C 2 dL_law_276 rfl rfl ?_
  refine e_sload_n C 0 dL_law_277 rfl rfl ?_
  refine e_iload_n C 3 dL_law_278 rfl rfl ?_
  refine e_iconst (v := 1) C dL_law_279 (by decide) ?_
  refine e_iadd C dL_law_280 ?_
  obtain ⟨o6, h13⟩ := h13
  refine e_xld C X o6 dL_law_281 ?_
  refine e_sload_n C 0 dL_law_282 rfl rfl ?_
  refine e_iload_n C 3 dL_law_283 rfl rfl ?_
  refine e_iconst (v := 2) C dL_law_284 (by decide) ?_
  refine e_iadd C dL_law_285 ?_
  obtain ⟨o7, h13⟩ := h13
  refine e_xld C X o7 dL_law_286 ?_
  obtain ⟨o10, h13⟩ := h13
  refine e_callV (as := [.int (xs ((v3 + (1 : Int32))).toNatClampNeg), .int (xs ((v3 + (2 : Int32))).toNatClampNeg)]) C wb_X12_odds wv_L_26 (ci := 12) rfl rfl (isO_1 o10) (m_X12_odds h13) rfl ⟨Nat.le_of_ble_eq_true rfl, Nat.le_of_ble_eq_true rfl⟩ ⟨by show _ ≤ 600000; omega, by show _ ≤ 7302250; omega⟩ (by first | exact Nat.le_of_ble_eq_true rfl | (simp only [List.map_cons, List.map_nil, va_cat, List.sum_cons, List.sum_nil]; exact Nat.le_of_ble_eq_true rfl)) dL_law_287 (kI (fun w8 M9 h12 => ?_))
  refine e_icmp_eq (tgt := 1284) C dL_law_290 (by decide) (fun q11 => ?_) (fun q11 => ?_)
  · replace h12 := ite_t h12 q11
    exact hK _ h12 _ _ (by omega) (by omega)
  · replace h12 := ite_f h12 q11
    refine e_iconst (v := 0) C dL_law_293 (by decide) ?_
    exact h12.elim
set_option maxHeartbeats 4000000 in
set_option maxRecDepth 100000 in
theorem w_L_law_J295 {p : Program} {l : Launch} {e : Env} {s : State} {m : MethodId} {below : List Frame} {meth : Method} {c : Code} {g : Geo} {b L : Nat} {xs : Nat → Int32} (C : Cx p s m #[Value.ref b] c cL_law RL 4 g) (X : XC g s b L xs) (hr : meth.sig.returnType = ret) (hlk : meth.locks = false) {v1 : Nat} {v2 : Nat} {v3 : Int32} {M : Mem} {k n kb nb : Nat} {K : Mem → Prop} (hK : ∀ M', K M' → ∀ k' n', k' ≤ kb → n' ≤ nb → E p l e room_1 s m #[Value.ref b] below meth c g 4 (lw_Z below #[Value.ref b] s) k' n' 1284 [(0, .retAddr 16), (1, .ref v1), (2, .ref v2), (3, .int v3)] [] M') (hk : k + 3 ≤ kb ∧ n + 35 ≤ nb ∧ kb ≤ 600000 ∧ nb ≤ 7302250) (h : f_L_law_J295 v1 v2 v3 M xs L K) : E p l e room_1 s m #[Value.ref b] below meth c g 4 (lw_Z below #[Value.ref b] s) k n 295 [(0, .retAddr 16), (1, .ref v1), (2, .ref v2), (3, .int v3)] [] M := by
  unfold f_L_law_J295 at h
  obtain ⟨hk1, hk2, hk3, hk4⟩ := hk
  refine e_aload_n C 1 dL_law_295 rfl rfl ?_
  refine e_sload_n C 0 dL_law_296 rfl rfl ?_
  refine e_iload_n C 3 dL_law_297 rfl rfl ?_
  refine e_iconst (v := 1) C dL_law_298 (by decide) ?_
  refine e_iadd C dL_law_299 ?_
  obtain ⟨o1, h⟩ := h
  refine e_xld C X o1 dL_law_300 ?_
  refine e_sload_n C 0 dL_law_301 rfl rfl ?_
  refine e_iload_n C 3 dL_law_302 rfl rfl ?_
  refine e_iconst (v := 2) C dL_law_303 (by decide) ?_
  refine e_iadd C dL_law_304 ?_
  obtain ⟨o2, h⟩ := h
  refine e_xld C X o2 dL_law_305 ?_
  obtain ⟨o5, h⟩ := h
  refine e_callV (as := [.int (xs ((v3 + (1 : Int32))).toNatClampNeg), .int (xs ((v3 + (2 : Int32))).toNatClampNeg)]) C wb_X11_feed wv_L_27 (ci := 11) rfl rfl (isO_1 o5) (m_X11_feed h) rfl ⟨Nat.le_of_ble_eq_true rfl, Nat.le_of_ble_eq_true rfl⟩ ⟨by show _ ≤ 600000; omega, by show _ ≤ 7302250; omega⟩ (by first | exact Nat.le_of_ble_eq_true rfl | (simp only [List.map_cons, List.map_nil, va_cat, List.sum_cons, List.sum_nil]; exact Nat.le_of_ble_eq_true rfl)) dL_law_306 (kI (fun w3 M4 h13 => ?_))
  refine e_aload_n C 2 dL_law_309 rfl rfl ?_
  refine e_sload_n C 0 dL_law_310 rfl rfl ?_
  refine e_iload_n C 3 dL_law_311 rfl rfl ?_
  refine e_iconst (v := 1) C dL_law_312 (by decide) ?_
  refine e_iadd C dL_law_313 ?_
  obtain ⟨o6, h13⟩ := h13
  refine e_xld C X o6 dL_law_314 ?_
  refine e_sload_n C 0 dL_law_315 rfl rfl ?_
  refine e_iload_n C 3 dL_law_316 rfl rfl ?_
  refine e_iconst (v := 2) C dL_law_317 (by decide) ?_
  refine e_iadd C dL_law_318 ?_
  obtain ⟨o7, h13⟩ := h13
  refine e_xld C X o7 dL_law_319 ?_
  obtain ⟨o10, h13⟩ := h13
  refine e_callV (as := [.int (xs ((v3 + (1 : Int32))).toNatClampNeg), .int (xs ((v3 + (2 : Int32))).toNatClampNeg)]) C wb_X12_feed wv_L_30 (ci := 12) rfl rfl (isO_1 o10) (m_X12_feed h13) rfl ⟨Nat.le_of_ble_eq_true rfl, Nat.le_of_ble_eq_true rfl⟩ ⟨by show _ ≤ 600000; omega, by show _ ≤ 7302250; omega⟩ (by first | exact Nat.le_of_ble_eq_true rfl | (simp only [List.map_cons, List.map_nil, va_cat, List.sum_cons, List.sum_nil]; exact Nat.le_of_ble_eq_true rfl)) dL_law_320 (kI (fun w8 M9 h12 => ?_))
  refine e_icmp_eq (tgt := 1284) C dL_law_323 (by decide) (fun q11 => ?_) (fun q11 => ?_)
  · replace h12 := ite_t h12 q11
    exact hK _ h12 _ _ (by omega) (by omega)
  · replace h12 := ite_f h12 q11
    refine e_iconst (v := 0) C dL_law_326 (by decide) ?_
    exact h12.elim
set_option maxHeartbeats 4000000 in
set_option maxRecDepth 100000 in
theorem w_L_law_J328 {p : Program} {l : Launch} {e : Env} {s : State} {m : MethodId} {below : List Frame} {meth : Method} {c : Code} {g : Geo} {b L : Nat} {xs : Nat → Int32} (C : Cx p s m #[Value.ref b] c cL_law RL 4 g) (X : XC g s b L xs) (hr : meth.sig.returnType = ret) (hlk : meth.locks = false) {v1 : Nat} {v2 : Nat} {v3 : Int32} {M : Mem} {k n kb nb : Nat} {K : Mem → Prop} (hK : ∀ M', K M' → ∀ k' n', k' ≤ kb → n' ≤ nb → E p l e room_1 s m #[Value.ref b] below meth c g 4 (lw_Z below #[Value.ref b] s) k' n' 1284 [(0, .retAddr 16), (1, .ref v1), (2, .ref v2), (3, .int v3)] [] M') (hk : k + 3 ≤ kb ∧ n + 35 ≤ nb ∧ kb ≤ 600000 ∧ nb ≤ 7302250) (h : f_L_law_J328 v1 v2 v3 M xs L K) : E p l e room_1 s m #[Value.ref b] below meth c g 4 (lw_Z below #[Value.ref b] s) k n 328 [(0, .retAddr 16), (1, .ref v1), (2, .ref v2), (3, .int v3)] [] M := by
  unfold f_L_law_J328 at h
  obtain ⟨hk1, hk2, hk3, hk4⟩ := hk
  refine e_aload_n C 1 dL_law_328 rfl rfl ?_
  obtain ⟨o3, h⟩ := h
  refine e_callV (as := []) C wb_X11_window wv_L_31 (ci := 11) rfl rfl (isO_1 o3) (m_X11_window h) rfl ⟨Nat.le_of_ble_eq_true rfl, Nat.le_of_ble_eq_true rfl⟩ ⟨by show _ ≤ 600000; omega, by show _ ≤ 7302250; omega⟩ (by first | exact Nat.le_of_ble_eq_true rfl | (simp only [List.map_cons, List.map_nil, va_cat, List.sum_cons, List.sum_nil]; exact Nat.le_of_ble_eq_true rfl)) dL_law_329 (kI (fun w1 M2 h9 => ?_))
  refine e_aload_n C 2 dL_law_332 rfl rfl ?_
  obtain ⟨o6, h9⟩ := h9
  refine e_callV (as := []) C wb_X12_window wv_L_35 (ci := 12) rfl rfl (isO_1 o6) (m_X12_window h9) rfl ⟨Nat.le_of_ble_eq_true rfl, Nat.le_of_ble_eq_true rfl⟩ ⟨by show _ ≤ 600000; omega, by show _ ≤ 7302250; omega⟩ (by first | exact Nat.le_of_ble_eq_true rfl | (simp only [List.map_cons, List.map_nil, va_cat, List.sum_cons, List.sum_nil]; exact Nat.le_of_ble_eq_true rfl)) dL_law_333 (kI (fun w4 M5 h8 => ?_))
  refine e_icmp_eq (tgt := 1284) C dL_law_336 (by decide) (fun q7 => ?_) (fun q7 => ?_)
  · replace h8 := ite_t h8 q7
    exact hK _ h8 _ _ (by omega) (by omega)
  · replace h8 := ite_f h8 q7
    refine e_iconst (v := 0) C dL_law_339 (by decide) ?_
    exact h8.elim
set_option maxHeartbeats 4000000 in
set_option maxRecDepth 100000 in
theorem w_L_law_J341 {p : Program} {l : Launch} {e : Env} {s : State} {m : MethodId} {below : List Frame} {meth : Method} {c : Code} {g : Geo} {b L : Nat} {xs : Nat → Int32} (C : Cx p s m #[Value.ref b] c cL_law RL 4 g) (X : XC g s b L xs) (hr : meth.sig.returnType = ret) (hlk : meth.locks = false) {v1 : Nat} {v2 : Nat} {v3 : Int32} {M : Mem} {k n kb nb : Nat} {K : Mem → Prop} (hK : ∀ M', K M' → ∀ k' n', k' ≤ kb → n' ≤ nb → E p l e room_1 s m #[Value.ref b] below meth c g 4 (lw_Z below #[Value.ref b] s) k' n' 1284 [(0, .retAddr 16), (1, .ref v1), (2, .ref v2), (3, .int v3)] [] M') (hk : k + 3 ≤ kb ∧ n + 35 ≤ nb ∧ kb ≤ 600000 ∧ nb ≤ 7302250) (h : f_L_law_J341 v1 v2 v3 M xs L K) : E p l e room_1 s m #[Value.ref b] below meth c g 4 (lw_Z below #[Value.ref b] s) k n 341 [(0, .retAddr 16), (1, .ref v1), (2, .ref v2), (3, .int v3)] [] M := by
  unfold f_L_law_J341 at h
  obtain ⟨hk1, hk2, hk3, hk4⟩ := hk
  refine e_aload_n C 1 dL_law_341 rfl rfl ?_
  refine e_sload_n C 0 dL_law_342 rfl rfl ?_
  refine e_iload_n C 3 dL_law_343 rfl rfl ?_
  refine e_iconst (v := 1) C dL_law_344 (by decide) ?_
  refine e_iadd C dL_law_345 ?_
  obtain ⟨o1, h⟩ := h
  refine e_xld C X o1 dL_law_346 ?_
  obtain ⟨o4, h⟩ := h
  refine e_callV (as := [.int (xs ((v3 + (1 : Int32))).toNatClampNeg)]) C wb_X11_told wv_L_36 (ci := 11) rfl rfl (isO_1 o4) (m_X11_told h) rfl ⟨Nat.le_of_ble_eq_true rfl, Nat.le_of_ble_eq_true rfl⟩ ⟨by show _ ≤ 600000; omega, by show _ ≤ 7302250; omega⟩ (by first | exact Nat.le_of_ble_eq_true rfl | (simp only [List.map_cons, List.map_nil, va_cat, List.sum_cons, List.sum_nil]; exact Nat.le_of_ble_eq_true rfl)) dL_law_347 (kI (fun w2 M3 h11 => ?_))
  refine e_aload_n C 2 dL_law_350 rfl rfl ?_
  refine e_sload_n C 0 dL_law_351 rfl rfl ?_
  refine e_iload_n C 3 dL_law_352 rfl rfl ?_
  refine e_iconst (v := 1) C dL_law_353 (by decide) ?_
  refine e_iadd C dL_law_354 ?_
  obtain ⟨o5, h11⟩ := h11
  refine e_xld C X o5 dL_law_355 ?_
  obtain ⟨o8, h11⟩ := h11
  refine e_callV (as := [.int (xs ((v3 + (1 : Int32))).toNatClampNeg)]) C wb_X12_told wv_L_40 (ci := 12) rfl rfl (isO_1 o8) (m_X12_told h11) rfl ⟨Nat.le_of_ble_eq_true rfl, Nat.le_of_ble_eq_true rfl⟩ ⟨by show _ ≤ 600000; omega, by show _ ≤ 7302250; omega⟩ (by first | exact Nat.le_of_ble_eq_true rfl | (simp only [List.map_cons, List.map_nil, va_cat, List.sum_cons, List.sum_nil]; exact Nat.le_of_ble_eq_true rfl)) dL_law_356 (kI (fun w6 M7 h10 => ?_))
  refine e_icmp_eq (tgt := 1284) C dL_law_359 (by decide) (fun q9 => ?_) (fun q9 => ?_)
  · replace h10 := ite_t h10 q9
    exact hK _ h10 _ _ (by omega) (by omega)
  · replace h10 := ite_f h10 q9
    refine e_iconst (v := 0) C dL_law_362 (by decide) ?_
    exact h10.elim
set_option maxHeartbeats 4000000 in
set_option maxRecDepth 100000 in
theorem w_L_law_J364 {p : Program} {l : Launch} {e : Env} {s : State} {m : MethodId} {below : List Frame} {meth : Method} {c : Code} {g : Geo} {b L : Nat} {xs : Nat → Int32} (C : Cx p s m #[Value.ref b] c cL_law RL 4 g) (X : XC g s b L xs) (hr : meth.sig.returnType = ret) (hlk : meth.locks = false) {v1 : Nat} {v2 : Nat} {v3 : Int32} {M : Mem} {k n kb nb : Nat} {K : Mem → Prop} (hK : ∀ M', K M' → ∀ k' n', k' ≤ kb → n' ≤ nb → E p l e room_1 s m #[Value.ref b] below meth c g 4 (lw_Z below #[Value.ref b] s) k' n' 1284 [(0, .retAddr 16), (1, .ref v1), (2, .ref v2), (3, .int v3)] [] M') (hk : k + 3 ≤ kb ∧ n + 35 ≤ nb ∧ kb ≤ 600000 ∧ nb ≤ 7302250) (h : f_L_law_J364 v1 v2 v3 M xs L K) : E p l e room_1 s m #[Value.ref b] below meth c g 4 (lw_Z below #[Value.ref b] s) k n 364 [(0, .retAddr 16), (1, .ref v1), (2, .ref v2), (3, .int v3)] [] M := by
  unfold f_L_law_J364 at h
  obtain ⟨hk1, hk2, hk3, hk4⟩ := hk
  refine e_aload_n C 1 dL_law_364 rfl rfl ?_
  refine e_sload_n C 0 dL_law_365 rfl rfl ?_
  refine e_iload_n C 3 dL_law_366 rfl rfl ?_
  refine e_iconst (v := 1) C dL_law_367 (by decide) ?_
  refine e_iadd C dL_law_368 ?_
  obtain ⟨o1, h⟩ := h
  refine e_xld C X o1 dL_law_369 ?_
  refine e_sload_n C 0 dL_law_370 rfl rfl ?_
  refine e_iload_n C 3 dL_law_371 rfl rfl ?_
  refine e_iconst (v := 2) C dL_law_372 (by decide) ?_
  refine e_iadd C dL_law_373 ?_
  obtain ⟨o2, h⟩ := h
  refine e_xld C X o2 dL_law_374 ?_
  obtain ⟨o5, h⟩ := h
  refine e_callV (as := [.int (xs ((v3 + (1 : Int32))).toNatClampNeg), .int (xs ((v3 + (2 : Int32))).toNatClampNeg)]) C wb_X11_come wv_L_41 (ci := 11) rfl rfl (isO_1 o5) (m_X11_come h) rfl ⟨Nat.le_of_ble_eq_true rfl, Nat.le_of_ble_eq_true rfl⟩ ⟨by show _ ≤ 600000; omega, by show _ ≤ 7302250; omega⟩ (by first | exact Nat.le_of_ble_eq_true rfl | (simp only [List.map_cons, List.map_nil, va_cat, List.sum_cons, List.sum_nil]; exact Nat.le_of_ble_eq_true rfl)) dL_law_375 (kI (fun w3 M4 h13 => ?_))
  refine e_aload_n C 2 dL_law_378 rfl rfl ?_
  refine e_sload_n C 0 dL_law_379 rfl rfl ?_
  refine e_iload_n C 3 dL_law_380 rfl rfl ?_
  refine e_iconst (v := 1) C dL_law_381 (by decide) ?_
  refine e_iadd C dL_law_382 ?_
  obtain ⟨o6, h13⟩ := h13
  refine e_xld C X o6 dL_law_383 ?_
  refine e_sload_n C 0 dL_law_384 rfl rfl ?_
  refine e_iload_n C 3 dL_law_385 rfl rfl ?_
  refine e_iconst (v := 2) C dL_law_386 (by decide) ?_
  refine e_iadd C dL_law_387 ?_
  obtain ⟨o7, h13⟩ := h13
  refine e_xld C X o7 dL_law_388 ?_
  obtain ⟨o10, h13⟩ := h13
  refine e_callV (as := [.int (xs ((v3 + (1 : Int32))).toNatClampNeg), .int (xs ((v3 + (2 : Int32))).toNatClampNeg)]) C wb_X12_come wv_L_44 (ci := 12) rfl rfl (isO_1 o10) (m_X12_come h13) rfl ⟨Nat.le_of_ble_eq_true rfl, Nat.le_of_ble_eq_true rfl⟩ ⟨by show _ ≤ 600000; omega, by show _ ≤ 7302250; omega⟩ (by first | exact Nat.le_of_ble_eq_true rfl | (simp only [List.map_cons, List.map_nil, va_cat, List.sum_cons, List.sum_nil]; exact Nat.le_of_ble_eq_true rfl)) dL_law_389 (kI (fun w8 M9 h12 => ?_))
  refine e_icmp_eq (tgt := 1284) C dL_law_392 (by decide) (fun q11 => ?_) (fun q11 => ?_)
  · replace h12 := ite_t h12 q11
    exact hK _ h12 _ _ (by omega) (by omega)
  · replace h12 := ite_f h12 q11
    refine e_iconst (v := 0) C dL_law_395 (by decide) ?_
    exact h12.elim
set_option maxHeartbeats 4000000 in
set_option maxRecDepth 100000 in
theorem w_L_law_J397 {p : Program} {l : Launch} {e : Env} {s : State} {m : MethodId} {below : List Frame} {meth : Method} {c : Code} {g : Geo} {b L : Nat} {xs : Nat → Int32} (C : Cx p s m #[Value.ref b] c cL_law RL 4 g) (X : XC g s b L xs) (hr : meth.sig.returnType = ret) (hlk : meth.locks = false) {v1 : Nat} {v2 : Nat} {v3 : Int32} {M : Mem} {k n kb nb : Nat} {K : Mem → Prop} (hK : ∀ M', K M' → ∀ k' n', k' ≤ kb → n' ≤ nb → E p l e room_1 s m #[Value.ref b] below meth c g 4 (lw_Z below #[Value.ref b] s) k' n' 1284 [(0, .retAddr 16), (1, .ref v1), (2, .ref v2), (3, .int v3)] [] M') (hk : k + 3 ≤ kb ∧ n + 35 ≤ nb ∧ kb ≤ 600000 ∧ nb ≤ 7302250) (h : f_L_law_J397 v1 v2 v3 M xs L K) : E p l e room_1 s m #[Value.ref b] below meth c g 4 (lw_Z below #[Value.ref b] s) k n 397 [(0, .retAddr 16), (1, .ref v1), (2, .ref v2), (3, .int v3)] [] M := by
  unfold f_L_law_J397 at h
  obtain ⟨hk1, hk2, hk3, hk4⟩ := hk
  refine e_aload_n C 1 dL_law_397 rfl rfl ?_
  obtain ⟨o3, h⟩ := h
  refine e_callV (as := []) C wb_X11_clear wv_L_45 (ci := 11) rfl rfl (isO_1 o3) (m_X11_clear h) rfl ⟨Nat.le_of_ble_eq_true rfl, Nat.le_of_ble_eq_true rfl⟩ ⟨by show _ ≤ 600000; omega, by show _ ≤ 7302250; omega⟩ (by first | exact Nat.le_of_ble_eq_true rfl | (simp only [List.map_cons, List.map_nil, va_cat, List.sum_cons, List.sum_nil]; exact Nat.le_of_ble_eq_true rfl)) dL_law_398 (kI (fun w1 M2 h9 => ?_))
  refine e_aload_n C 2 dL_law_401 rfl rfl ?_
  obtain ⟨o6, h9⟩ := h9
  refine e_callV (as := []) C wb_X12_clear wv_L_48 (ci := 12) rfl rfl (isO_1 o6) (m_X12_clear h9) rfl ⟨Nat.le_of_ble_eq_true rfl, Nat.le_of_ble_eq_true rfl⟩ ⟨by show _ ≤ 600000; omega, by show _ ≤ 7302250; omega⟩ (by first | exact Nat.le_of_ble_eq_true rfl | (simp only [List.map_cons, List.map_nil, va_cat, List.sum_cons, List.sum_nil]; exact Nat.le_of_ble_eq_true rfl)) dL_law_402 (kI (fun w4 M5 h8 => ?_))
  refine e_icmp_eq (tgt := 1284) C dL_law_405 (by decide) (fun q7 => ?_) (fun q7 => ?_)
  · replace h8 := ite_t h8 q7
    exact hK _ h8 _ _ (by omega) (by omega)
  · replace h8 := ite_f h8 q7
    refine e_iconst (v := 0) C dL_law_408 (by decide) ?_
    exact h8.elim
set_option maxHeartbeats 4000000 in
set_option maxRecDepth 100000 in
theorem w_L_law_J410 {p : Program} {l : Launch} {e : Env} {s : State} {m : MethodId} {below : List Frame} {meth : Method} {c : Code} {g : Geo} {b L : Nat} {xs : Nat → Int32} (C : Cx p s m #[Value.ref b] c cL_law RL 4 g) (X : XC g s b L xs) (hr : meth.sig.returnType = ret) (hlk : meth.locks = false) {v1 : Nat} {v2 : Nat} {v3 : Int32} {M : Mem} {k n kb nb : Nat} {K : Mem → Prop} (hK : ∀ M', K M' → ∀ k' n', k' ≤ kb → n' ≤ nb → E p l e room_1 s m #[Value.ref b] below meth c g 4 (lw_Z below #[Value.ref b] s) k' n' 1284 [(0, .retAddr 16), (1, .ref v1), (2, .ref v2), (3, .int v3)] [] M') (hk : k + 3 ≤ kb ∧ n + 35 ≤ nb ∧ kb ≤ 600000 ∧ nb ≤ 7302250) (h : f_L_law_J410 v1 v2 v3 M xs L K) : E p l e room_1 s m #[Value.ref b] below meth c g 4 (lw_Z below #[Value.ref b] s) k n 410 [(0, .retAddr 16), (1, .ref v1), (2, .ref v2), (3, .int v3)] [] M := by
  unfold f_L_law_J410 at h
  obtain ⟨hk1, hk2, hk3, hk4⟩ := hk
  refine e_aload_n C 1 dL_law_410 rfl rfl ?_
  refine e_sload_n C 0 dL_law_411 rfl rfl ?_
  refine e_iload_n C 3 dL_law_412 rfl rfl ?_
  refine e_iconst (v := 1) C dL_law_413 (by decide) ?_
  refine e_iadd C dL_law_414 ?_
  obtain ⟨o1, h⟩ := h
  refine e_xld C X o1 dL_law_415 ?_
  refine e_sload_n C 0 dL_law_416 rfl rfl ?_
  refine e_iload_n C 3 dL_law_417 rfl rfl ?_
  refine e_iconst (v := 2) C dL_law_418 (by decide) ?_
  refine e_iadd C dL_law_419 ?_
  obtain ⟨o2, h⟩ := h
  refine e_xld C X o2 dL_law_420 ?_
  obtain ⟨o5, h⟩ := h
  refine e_callV (as := [.int (xs ((v3 + (1 : Int32))).toNatClampNeg), .int (xs ((v3 + (2 : Int32))).toNatClampNeg)]) C wb_X11_order wv_L_49 (ci := 11) rfl rfl (isO_1 o5) (m_X11_order h) rfl ⟨Nat.le_of_ble_eq_true rfl, Nat.le_of_ble_eq_true rfl⟩ ⟨by show _ ≤ 600000; omega, by show _ ≤ 7302250; omega⟩ (by first | exact Nat.le_of_ble_eq_true rfl | (simp only [List.map_cons, List.map_nil, va_cat, List.sum_cons, List.sum_nil]; exact Nat.le_of_ble_eq_true rfl)) dL_law_421 (kI (fun w3 M4 h13 => ?_))
  refine e_aload_n C 2 dL_law_424 rfl rfl ?_
  refine e_sload_n C 0 dL_law_425 rfl rfl ?_
  refine e_iload_n C 3 dL_law_426 rfl rfl ?_
  refine e_iconst (v := 1) C dL_law_427 (by decide) ?_
  refine e_iadd C dL_law_428 ?_
  obtain ⟨o6, h13⟩ := h13
  refine e_xld C X o6 dL_law_429 ?_
  refine e_sload_n C 0 dL_law_430 rfl rfl ?_
  refine e_iload_n C 3 dL_law_431 rfl rfl ?_
  refine e_iconst (v := 2) C dL_law_432 (by decide) ?_
  refine e_iadd C dL_law_433 ?_
  obtain ⟨o7, h13⟩ := h13
  refine e_xld C X o7 dL_law_434 ?_
  obtain ⟨o10, h13⟩ := h13
  refine e_callV (as := [.int (xs ((v3 + (1 : Int32))).toNatClampNeg), .int (xs ((v3 + (2 : Int32))).toNatClampNeg)]) C wb_X12_order wv_L_52 (ci := 12) rfl rfl (isO_1 o10) (m_X12_order h13) rfl ⟨Nat.le_of_ble_eq_true rfl, Nat.le_of_ble_eq_true rfl⟩ ⟨by show _ ≤ 600000; omega, by show _ ≤ 7302250; omega⟩ (by first | exact Nat.le_of_ble_eq_true rfl | (simp only [List.map_cons, List.map_nil, va_cat, List.sum_cons, List.sum_nil]; exact Nat.le_of_ble_eq_true rfl)) dL_law_435 (kI (fun w8 M9 h12 => ?_))
  refine e_icmp_eq (tgt := 1284) C dL_law_438 (by decide) (fun q11 => ?_) (fun q11 => ?_)
  · replace h12 := ite_t h12 q11
    exact hK _ h12 _ _ (by omega) (by omega)
  · replace h12 := ite_f h12 q11
    refine e_iconst (v := 0) C dL_law_441 (by decide) ?_
    exact h12.elim
set_option maxHeartbeats 4000000 in
set_option maxRecDepth 100000 in
theorem w_L_law_J443 {p : Program} {l : Launch} {e : Env} {s : State} {m : MethodId} {below : List Frame} {meth : Method} {c : Code} {g : Geo} {b L : Nat} {xs : Nat → Int32} (C : Cx p s m #[Value.ref b] c cL_law RL 4 g) (X : XC g s b L xs) (hr : meth.sig.returnType = ret) (hlk : meth.locks = false) {v1 : Nat} {v2 : Nat} {v3 : Int32} {M : Mem} {k n kb nb : Nat} {K : Mem → Prop} (hK : ∀ M', K M' → ∀ k' n', k' ≤ kb → n' ≤ nb → E p l e room_1 s m #[Value.ref b] below meth c g 4 (lw_Z below #[Value.ref b] s) k' n' 1284 [(0, .retAddr 16), (1, .ref v1), (2, .ref v2), (3, .int v3)] [] M') (hk : k + 3 ≤ kb ∧ n + 35 ≤ nb ∧ kb ≤ 600000 ∧ nb ≤ 7302250) (h : f_L_law_J443 v1 v2 v3 M xs L K) : E p l e room_1 s m #[Value.ref b] below meth c g 4 (lw_Z below #[Value.ref b] s) k n 443 [(0, .retAddr 16), (1, .ref v1), (2, .ref v2), (3, .int v3)] [] M := by
  unfold f_L_law_J443 at h
  obtain ⟨hk1, hk2, hk3, hk4⟩ := hk
  refine e_aload_n C 1 dL_law_443 rfl rfl ?_
  refine e_sload_n C 0 dL_law_444 rfl rfl ?_
  refine e_iload_n C 3 dL_law_445 rfl rfl ?_
  refine e_iconst (v := 1) C dL_law_446 (by decide) ?_
  refine e_iadd C dL_law_447 ?_
  obtain ⟨o1, h⟩ := h
  refine e_xld C X o1 dL_law_448 ?_
  refine e_sload_n C 0 dL_law_449 rfl rfl ?_
  refine e_iload_n C 3 dL_law_450 rfl rfl ?_
  refine e_iconst (v := 2) C dL_law_451 (by decide) ?_
  refine e_iadd C dL_law_452 ?_
  obtain ⟨o2, h⟩ := h
  refine e_xld C X o2 dL_law_453 ?_
  refine e_sload_n C 0 dL_law_454 rfl rfl ?_
  refine e_iload_n C 3 dL_law_455 rfl rfl ?_
  refine e_iconst (v := 3) C dL_law_456 (by decide) ?_
  refine e_iadd C dL_law_457 ?_
  obtain ⟨o3, h⟩ := h
  refine e_xld C X o3 dL_law_458 ?_
  obtain ⟨o6, h⟩ := h
  refine e_callV (as := [.int (xs ((v3 + (1 : Int32))).toNatClampNeg), .int (xs ((v3 + (2 : Int32))).toNatClampNeg), .int (xs ((v3 + (3 : Int32))).toNatClampNeg)]) C wb_X11_row wv_L_53 (ci := 11) rfl rfl (isO_1 o6) (m_X11_row h) rfl ⟨Nat.le_of_ble_eq_true rfl, Nat.le_of_ble_eq_true rfl⟩ ⟨by show _ ≤ 600000; omega, by show _ ≤ 7302250; omega⟩ (by first | exact Nat.le_of_ble_eq_true rfl | (simp only [List.map_cons, List.map_nil, va_cat, List.sum_cons, List.sum_nil]; exact Nat.le_of_ble_eq_true rfl)) dL_law_459 (kI (fun w4 M5 h15 => ?_))
  refine e_aload_n C 2 dL_law_462 rfl rfl ?_
  refine e_sload_n C 0 dL_law_463 rfl rfl ?_
  refine e_iload_n C 3 dL_law_464 rfl rfl ?_
  refine e_iconst (v := 1) C dL_law_465 (by decide) ?_
  refine e_iadd C dL_law_466 ?_
  obtain ⟨o7, h15⟩ := h15
  refine e_xld C X o7 dL_law_467 ?_
  refine e_sload_n C 0 dL_law_468 rfl rfl ?_
  refine e_iload_n C 3 dL_law_469 rfl rfl ?_
  refine e_iconst (v := 2) C dL_law_470 (by decide) ?_
  refine e_iadd C dL_law_471 ?_
  obtain ⟨o8, h15⟩ := h15
  refine e_xld C X o8 dL_law_472 ?_
  refine e_sload_n C 0 dL_law_473 rfl rfl ?_
  refine e_iload_n C 3 dL_law_474 rfl rfl ?_
  refine e_iconst (v := 3) C dL_law_475 (by decide) ?_
  refine e_iadd C dL_law_476 ?_
  obtain ⟨o9, h15⟩ := h15
  refine e_xld C X o9 dL_law_477 ?_
  obtain ⟨o12, h15⟩ := h15
  refine e_callV (as := [.int (xs ((v3 + (1 : Int32))).toNatClampNeg), .int (xs ((v3 + (2 : Int32))).toNatClampNeg), .int (xs ((v3 + (3 : Int32))).toNatClampNeg)]) C wb_X12_row wv_L_57 (ci := 12) rfl rfl (isO_1 o12) (m_X12_row h15) rfl ⟨Nat.le_of_ble_eq_true rfl, Nat.le_of_ble_eq_true rfl⟩ ⟨by show _ ≤ 600000; omega, by show _ ≤ 7302250; omega⟩ (by first | exact Nat.le_of_ble_eq_true rfl | (simp only [List.map_cons, List.map_nil, va_cat, List.sum_cons, List.sum_nil]; exact Nat.le_of_ble_eq_true rfl)) dL_law_478 (kI (fun w10 M11 h14 => ?_))
  refine e_icmp_eq (tgt := 1284) C dL_law_481 (by decide) (fun q13 => ?_) (fun q13 => ?_)
  · replace h14 := ite_t h14 q13
    exact hK _ h14 _ _ (by omega) (by omega)
  · replace h14 := ite_f h14 q13
    refine e_iconst (v := 0) C dL_law_484 (by decide) ?_
    exact h14.elim
set_option maxHeartbeats 4000000 in
set_option maxRecDepth 100000 in
theorem w_L_law_J486 {p : Program} {l : Launch} {e : Env} {s : State} {m : MethodId} {below : List Frame} {meth : Method} {c : Code} {g : Geo} {b L : Nat} {xs : Nat → Int32} (C : Cx p s m #[Value.ref b] c cL_law RL 4 g) (X : XC g s b L xs) (hr : meth.sig.returnType = ret) (hlk : meth.locks = false) {v1 : Nat} {v2 : Nat} {v3 : Int32} {M : Mem} {k n kb nb : Nat} {K : Mem → Prop} (hK : ∀ M', K M' → ∀ k' n', k' ≤ kb → n' ≤ nb → E p l e room_1 s m #[Value.ref b] below meth c g 4 (lw_Z below #[Value.ref b] s) k' n' 1284 [(0, .retAddr 16), (1, .ref v1), (2, .ref v2), (3, .int v3)] [] M') (hk : k + 3 ≤ kb ∧ n + 35 ≤ nb ∧ kb ≤ 600000 ∧ nb ≤ 7302250) (h : f_L_law_J486 v1 v2 v3 M xs L K) : E p l e room_1 s m #[Value.ref b] below meth c g 4 (lw_Z below #[Value.ref b] s) k n 486 [(0, .retAddr 16), (1, .ref v1), (2, .ref v2), (3, .int v3)] [] M := by
  unfold f_L_law_J486 at h
  obtain ⟨hk1, hk2, hk3, hk4⟩ := hk
  refine e_aload_n C 1 dL_law_486 rfl rfl ?_
  refine e_sload_n C 0 dL_law_487 rfl rfl ?_
  refine e_iload_n C 3 dL_law_488 rfl rfl ?_
  refine e_iconst (v := 1) C dL_law_489 (by decide) ?_
  refine e_iadd C dL_law_490 ?_
  obtain ⟨o1, h⟩ := h
  refine e_xld C X o1 dL_law_491 ?_
  refine e_sload_n C 0 dL_law_492 rfl rfl ?_
  refine e_iload_n C 3 dL_law_493 rfl rfl ?_
  refine e_iconst (v := 2) C dL_law_494 (by decide) ?_
  refine e_iadd C dL_law_495 ?_
  obtain ⟨o2, h⟩ := h
  refine e_xld C X o2 dL_law_496 ?_
  refine e_sload_n C 0 dL_law_497 rfl rfl ?_
  refine e_iload_n C 3 dL_law_498 rfl rfl ?_
  refine e_iconst (v := 3) C dL_law_499 (by decide) ?_
  refine e_iadd C dL_law_500 ?_
  obtain ⟨o3, h⟩ := h
  refine e_xld C X o3 dL_law_501 ?_
  obtain ⟨o6, h⟩ := h
  refine e_callV (as := [.int (xs ((v3 + (1 : Int32))).toNatClampNeg), .int (xs ((v3 + (2 : Int32))).toNatClampNeg), .int (xs ((v3 + (3 : Int32))).toNatClampNeg)]) C wb_X11_comer wv_L_58 (ci := 11) rfl rfl (isO_1 o6) (m_X11_comer h) rfl ⟨Nat.le_of_ble_eq_true rfl, Nat.le_of_ble_eq_true rfl⟩ ⟨by show _ ≤ 600000; omega, by show _ ≤ 7302250; omega⟩ (by first | exact Nat.le_of_ble_eq_true rfl | (simp only [List.map_cons, List.map_nil, va_cat, List.sum_cons, List.sum_nil]; exact Nat.le_of_ble_eq_true rfl)) dL_law_502 (kI (fun w4 M5 h15 => ?_))
  refine e_aload_n C 2 dL_law_505 rfl rfl ?_
  refine e_sload_n C 0 dL_law_506 rfl rfl ?_
  refine e_iload_n C 3 dL_law_507 rfl rfl ?_
  refine e_iconst (v := 1) C dL_law_508 (by decide) ?_
  refine e_iadd C dL_law_509 ?_
  obtain ⟨o7, h15⟩ := h15
  refine e_xld C X o7 dL_law_510 ?_
  refine e_sload_n C 0 dL_law_511 rfl rfl ?_
  refine e_iload_n C 3 dL_law_512 rfl rfl ?_
  refine e_iconst (v := 2) C dL_law_513 (by decide) ?_
  refine e_iadd C dL_law_514 ?_
  obtain ⟨o8, h15⟩ := h15
  refine e_xld C X o8 dL_law_515 ?_
  refine e_sload_n C 0 dL_law_516 rfl rfl ?_
  refine e_iload_n C 3 dL_law_517 rfl rfl ?_
  refine e_iconst (v := 3) C dL_law_518 (by decide) ?_
  refine e_iadd C dL_law_519 ?_
  obtain ⟨o9, h15⟩ := h15
  refine e_xld C X o9 dL_law_520 ?_
  obtain ⟨o12, h15⟩ := h15
  refine e_callV (as := [.int (xs ((v3 + (1 : Int32))).toNatClampNeg), .int (xs ((v3 + (2 : Int32))).toNatClampNeg), .int (xs ((v3 + (3 : Int32))).toNatClampNeg)]) C wb_X12_comer wv_L_61 (ci := 12) rfl rfl (isO_1 o12) (m_X12_comer h15) rfl ⟨Nat.le_of_ble_eq_true rfl, Nat.le_of_ble_eq_true rfl⟩ ⟨by show _ ≤ 600000; omega, by show _ ≤ 7302250; omega⟩ (by first | exact Nat.le_of_ble_eq_true rfl | (simp only [List.map_cons, List.map_nil, va_cat, List.sum_cons, List.sum_nil]; exact Nat.le_of_ble_eq_true rfl)) dL_law_521 (kI (fun w10 M11 h14 => ?_))
  refine e_icmp_eq (tgt := 1284) C dL_law_524 (by decide) (fun q13 => ?_) (fun q13 => ?_)
  · replace h14 := ite_t h14 q13
    exact hK _ h14 _ _ (by omega) (by omega)
  · replace h14 := ite_f h14 q13
    refine e_iconst (v := 0) C dL_law_527 (by decide) ?_
    exact h14.elim
set_option maxHeartbeats 4000000 in
set_option maxRecDepth 100000 in
theorem w_L_law_J529 {p : Program} {l : Launch} {e : Env} {s : State} {m : MethodId} {below : List Frame} {meth : Method} {c : Code} {g : Geo} {b L : Nat} {xs : Nat → Int32} (C : Cx p s m #[Value.ref b] c cL_law RL 4 g) (X : XC g s b L xs) (hr : meth.sig.returnType = ret) (hlk : meth.locks = false) {v1 : Nat} {v2 : Nat} {v3 : Int32} {M : Mem} {k n kb nb : Nat} {K : Mem → Prop} (hK : ∀ M', K M' → ∀ k' n', k' ≤ kb → n' ≤ nb → E p l e room_1 s m #[Value.ref b] below meth c g 4 (lw_Z below #[Value.ref b] s) k' n' 1284 [(0, .retAddr 16), (1, .ref v1), (2, .ref v2), (3, .int v3)] [] M') (hk : k + 3 ≤ kb ∧ n + 35 ≤ nb ∧ kb ≤ 600000 ∧ nb ≤ 7302250) (h : f_L_law_J529 v1 v2 v3 M xs L K) : E p l e room_1 s m #[Value.ref b] below meth c g 4 (lw_Z below #[Value.ref b] s) k n 529 [(0, .retAddr 16), (1, .ref v1), (2, .ref v2), (3, .int v3)] [] M := by
  unfold f_L_law_J529 at h
  obtain ⟨hk1, hk2, hk3, hk4⟩ := hk
  refine e_aload_n C 1 dL_law_529 rfl rfl ?_
  refine e_sload_n C 0 dL_law_530 rfl rfl ?_
  refine e_iload_n C 3 dL_law_531 rfl rfl ?_
  refine e_iconst (v := 1) C dL_law_532 (by decide) ?_
  refine e_iadd C dL_law_533 ?_
  obtain ⟨o1, h⟩ := h
  refine e_xld C X o1 dL_law_534 ?_
  refine e_sload_n C 0 dL_law_535 rfl rfl ?_
  refine e_iload_n C 3 dL_law_536 rfl rfl ?_
  refine e_iconst (v := 2) C dL_law_537 (by decide) ?_
  refine e_iadd C dL_law_538 ?_
  obtain ⟨o2, h⟩ := h
  refine e_xld C X o2 dL_law_539 ?_
  refine e_sload_n C 0 dL_law_540 rfl rfl ?_
  refine e_iload_n C 3 dL_law_541 rfl rfl ?_
  refine e_iconst (v := 3) C dL_law_542 (by decide) ?_
  refine e_iadd C dL_law_543 ?_
  obtain ⟨o3, h⟩ := h
  refine e_xld C X o3 dL_law_544 ?_
  obtain ⟨o6, h⟩ := h
  refine e_callV (as := [.int (xs ((v3 + (1 : Int32))).toNatClampNeg), .int (xs ((v3 + (2 : Int32))).toNatClampNeg), .int (xs ((v3 + (3 : Int32))).toNatClampNeg)]) C wb_X11_served wv_L_62 (ci := 11) rfl rfl (isO_1 o6) (m_X11_served h) rfl ⟨Nat.le_of_ble_eq_true rfl, Nat.le_of_ble_eq_true rfl⟩ ⟨by show _ ≤ 600000; omega, by show _ ≤ 7302250; omega⟩ (by first | exact Nat.le_of_ble_eq_true rfl | (simp only [List.map_cons, List.map_nil, va_cat, List.sum_cons, List.sum_nil]; exact Nat.le_of_ble_eq_true rfl)) dL_law_545 (kI (fun w4 M5 h15 => ?_))
  refine e_aload_n C 2 dL_law_548 rfl rfl ?_
  refine e_sload_n C 0 dL_law_549 rfl rfl ?_
  refine e_iload_n C 3 dL_law_550 rfl rfl ?_
  refine e_iconst (v := 1) C dL_law_551 (by decide) ?_
  refine e_iadd C dL_law_552 ?_
  obtain ⟨o7, h15⟩ := h15
  refine e_xld C X o7 dL_law_553 ?_
  refine e_sload_n C 0 dL_law_554 rfl rfl ?_
  refine e_iload_n C 3 dL_law_555 rfl rfl ?_
  refine e_iconst (v := 2) C dL_law_556 (by decide) ?_
  refine e_iadd C dL_law_557 ?_
  obtain ⟨o8, h15⟩ := h15
  refine e_xld C X o8 dL_law_558 ?_
  refine e_sload_n C 0 dL_law_559 rfl rfl ?_
  refine e_iload_n C 3 dL_law_560 rfl rfl ?_
  refine e_iconst (v := 3) C dL_law_561 (by decide) ?_
  refine e_iadd C dL_law_562 ?_
  obtain ⟨o9, h15⟩ := h15
  refine e_xld C X o9 dL_law_563 ?_
  obtain ⟨o12, h15⟩ := h15
  refine e_callV (as := [.int (xs ((v3 + (1 : Int32))).toNatClampNeg), .int (xs ((v3 + (2 : Int32))).toNatClampNeg), .int (xs ((v3 + (3 : Int32))).toNatClampNeg)]) C wb_X12_served wv_L_65 (ci := 12) rfl rfl (isO_1 o12) (m_X12_served h15) rfl ⟨Nat.le_of_ble_eq_true rfl, Nat.le_of_ble_eq_true rfl⟩ ⟨by show _ ≤ 600000; omega, by show _ ≤ 7302250; omega⟩ (by first | exact Nat.le_of_ble_eq_true rfl | (simp only [List.map_cons, List.map_nil, va_cat, List.sum_cons, List.sum_nil]; exact Nat.le_of_ble_eq_true rfl)) dL_law_564 (kI (fun w10 M11 h14 => ?_))
  refine e_icmp_eq (tgt := 1284) C dL_law_567 (by decide) (fun q13 => ?_) (fun q13 => ?_)
  · replace h14 := ite_t h14 q13
    exact hK _ h14 _ _ (by omega) (by omega)
  · replace h14 := ite_f h14 q13
    refine e_iconst (v := 0) C dL_law_570 (by decide) ?_
    exact h14.elim
set_option maxHeartbeats 4000000 in
set_option maxRecDepth 100000 in
theorem w_L_law_J572 {p : Program} {l : Launch} {e : Env} {s : State} {m : MethodId} {below : List Frame} {meth : Method} {c : Code} {g : Geo} {b L : Nat} {xs : Nat → Int32} (C : Cx p s m #[Value.ref b] c cL_law RL 4 g) (X : XC g s b L xs) (hr : meth.sig.returnType = ret) (hlk : meth.locks = false) {v1 : Nat} {v2 : Nat} {v3 : Int32} {M : Mem} {k n kb nb : Nat} {K : Mem → Prop} (hK : ∀ M', K M' → ∀ k' n', k' ≤ kb → n' ≤ nb → E p l e room_1 s m #[Value.ref b] below meth c g 4 (lw_Z below #[Value.ref b] s) k' n' 1284 [(0, .retAddr 16), (1, .ref v1), (2, .ref v2), (3, .int v3)] [] M') (hk : k + 3 ≤ kb ∧ n + 35 ≤ nb ∧ kb ≤ 600000 ∧ nb ≤ 7302250) (h : f_L_law_J572 v1 v2 v3 M xs L K) : E p l e room_1 s m #[Value.ref b] below meth c g 4 (lw_Z below #[Value.ref b] s) k n 572 [(0, .retAddr 16), (1, .ref v1), (2, .ref v2), (3, .int v3)] [] M := by
  unfold f_L_law_J572 at h
  obtain ⟨hk1, hk2, hk3, hk4⟩ := hk
  refine e_aload_n C 1 dL_law_572 rfl rfl ?_
  refine e_sload_n C 0 dL_law_573 rfl rfl ?_
  refine e_iload_n C 3 dL_law_574 rfl rfl ?_
  refine e_iconst (v := 1) C dL_law_575 (by decide) ?_
  refine e_iadd C dL_law_576 ?_
  obtain ⟨o1, h⟩ := h
  refine e_xld C X o1 dL_law_577 ?_
  refine e_sload_n C 0 dL_law_578 rfl rfl ?_
  refine e_iload_n C 3 dL_law_579 rfl rfl ?_
  refine e_iconst (v := 2) C dL_law_580 (by decide) ?_
  refine e_iadd C dL_law_581 ?_
  obtain ⟨o2, h⟩ := h
  refine e_xld C X o2 dL_law_582 ?_
  obtain ⟨o5, h⟩ := h
  refine e_callV (as := [.int (xs ((v3 + (1 : Int32))).toNatClampNeg), .int (xs ((v3 + (2 : Int32))).toNatClampNeg)]) C wb_X11_all wv_L_66 (ci := 11) rfl rfl (isO_1 o5) (m_X11_all h) rfl ⟨Nat.le_of_ble_eq_true rfl, Nat.le_of_ble_eq_true rfl⟩ ⟨by show _ ≤ 600000; omega, by show _ ≤ 7302250; omega⟩ (by first | exact Nat.le_of_ble_eq_true rfl | (simp only [List.map_cons, List.map_nil, va_cat, List.sum_cons, List.sum_nil]; exact Nat.le_of_ble_eq_true rfl)) dL_law_583 (kI (fun w3 M4 h13 => ?_))
  refine e_aload_n C 2 dL_law_586 rfl rfl ?_
  refine e_sload_n C 0 dL_law_587 rfl rfl ?_
  refine e_iload_n C 3 dL_law_588 rfl rfl ?_
  refine e_iconst (v := 1) C dL_law_589 (by decide) ?_
  refine e_iadd C dL_law_590 ?_
  obtain ⟨o6, h13⟩ := h13
  refine e_xld C X o6 dL_law_591 ?_
  refine e_sload_n C 0 dL_law_592 rfl rfl ?_
  refine e_iload_n C 3 dL_law_593 rfl rfl ?_
  refine e_iconst (v := 2) C dL_law_594 (by decide) ?_
  refine e_iadd C dL_law_595 ?_
  obtain ⟨o7, h13⟩ := h13
  refine e_xld C X o7 dL_law_596 ?_
  obtain ⟨o10, h13⟩ := h13
  refine e_callV (as := [.int (xs ((v3 + (1 : Int32))).toNatClampNeg), .int (xs ((v3 + (2 : Int32))).toNatClampNeg)]) C wb_X12_all wv_L_69 (ci := 12) rfl rfl (isO_1 o10) (m_X12_all h13) rfl ⟨Nat.le_of_ble_eq_true rfl, Nat.le_of_ble_eq_true rfl⟩ ⟨by show _ ≤ 600000; omega, by show _ ≤ 7302250; omega⟩ (by first | exact Nat.le_of_ble_eq_true rfl | (simp only [List.map_cons, List.map_nil, va_cat, List.sum_cons, List.sum_nil]; exact Nat.le_of_ble_eq_true rfl)) dL_law_597 (kI (fun w8 M9 h12 => ?_))
  refine e_icmp_eq (tgt := 1284) C dL_law_600 (by decide) (fun q11 => ?_) (fun q11 => ?_)
  · replace h12 := ite_t h12 q11
    exact hK _ h12 _ _ (by omega) (by omega)
  · replace h12 := ite_f h12 q11
    refine e_iconst (v := 0) C dL_law_603 (by decide) ?_
    exact h12.elim
set_option maxHeartbeats 4000000 in
set_option maxRecDepth 100000 in
theorem w_L_law_J605 {p : Program} {l : Launch} {e : Env} {s : State} {m : MethodId} {below : List Frame} {meth : Method} {c : Code} {g : Geo} {b L : Nat} {xs : Nat → Int32} (C : Cx p s m #[Value.ref b] c cL_law RL 4 g) (X : XC g s b L xs) (hr : meth.sig.returnType = ret) (hlk : meth.locks = false) {v1 : Nat} {v2 : Nat} {v3 : Int32} {M : Mem} {k n kb nb : Nat} {K : Mem → Prop} (hK : ∀ M', K M' → ∀ k' n', k' ≤ kb → n' ≤ nb → E p l e room_1 s m #[Value.ref b] below meth c g 4 (lw_Z below #[Value.ref b] s) k' n' 1284 [(0, .retAddr 16), (1, .ref v1), (2, .ref v2), (3, .int v3)] [] M') (hk : k + 3 ≤ kb ∧ n + 35 ≤ nb ∧ kb ≤ 600000 ∧ nb ≤ 7302250) (h : f_L_law_J605 v1 v2 v3 M xs L K) : E p l e room_1 s m #[Value.ref b] below meth c g 4 (lw_Z below #[Value.ref b] s) k n 605 [(0, .retAddr 16), (1, .ref v1), (2, .ref v2), (3, .int v3)] [] M := by
  unfold f_L_law_J605 at h
  obtain ⟨hk1, hk2, hk3, hk4⟩ := hk
  refine e_aload_n C 1 dL_law_605 rfl rfl ?_
  refine e_sload_n C 0 dL_law_606 rfl rfl ?_
  refine e_iload_n C 3 dL_law_607 rfl rfl ?_
  refine e_iconst (v := 1) C dL_law_608 (by decide) ?_
  refine e_iadd C dL_law_609 ?_
  obtain ⟨o1, h⟩ := h
  refine e_xld C X o1 dL_law_610 ?_
  refine e_sload_n C 0 dL_law_611 rfl rfl ?_
  refine e_iload_n C 3 dL_law_612 rfl rfl ?_
  refine e_iconst (v := 2) C dL_law_613 (by decide) ?_
  refine e_iadd C dL_law_614 ?_
  obtain ⟨o2, h⟩ := h
  refine e_xld C X o2 dL_law_615 ?_
  refine e_sload_n C 0 dL_law_616 rfl rfl ?_
  refine e_iload_n C 3 dL_law_617 rfl rfl ?_
  refine e_iconst (v := 3) C dL_law_618 (by decide) ?_
  refine e_iadd C dL_law_619 ?_
  obtain ⟨o3, h⟩ := h
  refine e_xld C X o3 dL_law_620 ?_
  obtain ⟨o6, h⟩ := h
  refine e_callV (as := [.int (xs ((v3 + (1 : Int32))).toNatClampNeg), .int (xs ((v3 + (2 : Int32))).toNatClampNeg), .int (xs ((v3 + (3 : Int32))).toNatClampNeg)]) C wb_X11_stand wv_L_70 (ci := 11) rfl rfl (isO_1 o6) (m_X11_stand h) rfl ⟨Nat.le_of_ble_eq_true rfl, Nat.le_of_ble_eq_true rfl⟩ ⟨by show _ ≤ 600000; omega, by show _ ≤ 7302250; omega⟩ (by first | exact Nat.le_of_ble_eq_true rfl | (simp only [List.map_cons, List.map_nil, va_cat, List.sum_cons, List.sum_nil]; exact Nat.le_of_ble_eq_true rfl)) dL_law_621 (kI (fun w4 M5 h15 => ?_))
  refine e_aload_n C 2 dL_law_624 rfl rfl ?_
  refine e_sload_n C 0 dL_law_625 rfl rfl ?_
  refine e_iload_n C 3 dL_law_626 rfl rfl ?_
  refine e_iconst (v := 1) C dL_law_627 (by decide) ?_
  refine e_iadd C dL_law_628 ?_
  obtain ⟨o7, h15⟩ := h15
  refine e_xld C X o7 dL_law_629 ?_
  refine e_sload_n C 0 dL_law_630 rfl rfl ?_
  refine e_iload_n C 3 dL_law_631 rfl rfl ?_
  refine e_iconst (v := 2) C dL_law_632 (by decide) ?_
  refine e_iadd C dL_law_633 ?_
  obtain ⟨o8, h15⟩ := h15
  refine e_xld C X o8 dL_law_634 ?_
  refine e_sload_n C 0 dL_law_635 rfl rfl ?_
  refine e_iload_n C 3 dL_law_636 rfl rfl ?_
  refine e_iconst (v := 3) C dL_law_637 (by decide) ?_
  refine e_iadd C dL_law_638 ?_
  obtain ⟨o9, h15⟩ := h15
  refine e_xld C X o9 dL_law_639 ?_
  obtain ⟨o12, h15⟩ := h15
  refine e_callV (as := [.int (xs ((v3 + (1 : Int32))).toNatClampNeg), .int (xs ((v3 + (2 : Int32))).toNatClampNeg), .int (xs ((v3 + (3 : Int32))).toNatClampNeg)]) C wb_X12_stand wv_L_73 (ci := 12) rfl rfl (isO_1 o12) (m_X12_stand h15) rfl ⟨Nat.le_of_ble_eq_true rfl, Nat.le_of_ble_eq_true rfl⟩ ⟨by show _ ≤ 600000; omega, by show _ ≤ 7302250; omega⟩ (by first | exact Nat.le_of_ble_eq_true rfl | (simp only [List.map_cons, List.map_nil, va_cat, List.sum_cons, List.sum_nil]; exact Nat.le_of_ble_eq_true rfl)) dL_law_640 (kI (fun w10 M11 h14 => ?_))
  refine e_icmp_eq (tgt := 1284) C dL_law_643 (by decide) (fun q13 => ?_) (fun q13 => ?_)
  · replace h14 := ite_t h14 q13
    exact hK _ h14 _ _ (by omega) (by omega)
  · replace h14 := ite_f h14 q13
    refine e_iconst (v := 0) C dL_law_646 (by decide) ?_
    exact h14.elim
set_option maxHeartbeats 4000000 in
set_option maxRecDepth 100000 in
theorem w_L_law_J648 {p : Program} {l : Launch} {e : Env} {s : State} {m : MethodId} {below : List Frame} {meth : Method} {c : Code} {g : Geo} {b L : Nat} {xs : Nat → Int32} (C : Cx p s m #[Value.ref b] c cL_law RL 4 g) (X : XC g s b L xs) (hr : meth.sig.returnType = ret) (hlk : meth.locks = false) {v1 : Nat} {v2 : Nat} {v3 : Int32} {M : Mem} {k n kb nb : Nat} {K : Mem → Prop} (hK : ∀ M', K M' → ∀ k' n', k' ≤ kb → n' ≤ nb → E p l e room_1 s m #[Value.ref b] below meth c g 4 (lw_Z below #[Value.ref b] s) k' n' 1284 [(0, .retAddr 16), (1, .ref v1), (2, .ref v2), (3, .int v3)] [] M') (hk : k + 3 ≤ kb ∧ n + 35 ≤ nb ∧ kb ≤ 600000 ∧ nb ≤ 7302250) (h : f_L_law_J648 v1 v2 v3 M xs L K) : E p l e room_1 s m #[Value.ref b] below meth c g 4 (lw_Z below #[Value.ref b] s) k n 648 [(0, .retAddr 16), (1, .ref v1), (2, .ref v2), (3, .int v3)] [] M := by
  unfold f_L_law_J648 at h
  obtain ⟨hk1, hk2, hk3, hk4⟩ := hk
  refine e_aload_n C 1 dL_law_648 rfl rfl ?_
  refine e_sload_n C 0 dL_law_649 rfl rfl ?_
  refine e_iload_n C 3 dL_law_650 rfl rfl ?_
  refine e_iconst (v := 1) C dL_law_651 (by decide) ?_
  refine e_iadd C dL_law_652 ?_
  obtain ⟨o1, h⟩ := h
  refine e_xld C X o1 dL_law_653 ?_
  refine e_sload_n C 0 dL_law_654 rfl rfl ?_
  refine e_iload_n C 3 dL_law_655 rfl rfl ?_
  refine e_iconst (v := 2) C dL_law_656 (by decide) ?_
  refine e_iadd C dL_law_657 ?_
  obtain ⟨o2, h⟩ := h
  refine e_xld C X o2 dL_law_658 ?_
  obtain ⟨o5, h⟩ := h
  refine e_callV (as := [.int (xs ((v3 + (1 : Int32))).toNatClampNeg), .int (xs ((v3 + (2 : Int32))).toNatClampNeg)]) C wb_X11_price wv_L_74 (ci := 11) rfl rfl (isO_1 o5) (m_X11_price h) rfl ⟨Nat.le_of_ble_eq_true rfl, Nat.le_of_ble_eq_true rfl⟩ ⟨by show _ ≤ 600000; omega, by show _ ≤ 7302250; omega⟩ (by first | exact Nat.le_of_ble_eq_true rfl | (simp only [List.map_cons, List.map_nil, va_cat, List.sum_cons, List.sum_nil]; exact Nat.le_of_ble_eq_true rfl)) dL_law_659 (kI (fun w3 M4 h13 => ?_))
  refine e_aload_n C 2 dL_law_662 rfl rfl ?_
  refine e_sload_n C 0 dL_law_663 rfl rfl ?_
  refine e_iload_n C 3 dL_law_664 rfl rfl ?_
  refine e_iconst (v := 1) C dL_law_665 (by decide) ?_
  refine e_iadd C dL_law_666 ?_
  obtain ⟨o6, h13⟩ := h13
  refine e_xld C X o6 dL_law_667 ?_
  refine e_sload_n C 0 dL_law_668 rfl rfl ?_
  refine e_iload_n C 3 dL_law_669 rfl rfl ?_
  refine e_iconst (v := 2) C dL_law_670 (by decide) ?_
  refine e_iadd C dL_law_671 ?_
  obtain ⟨o7, h13⟩ := h13
  refine e_xld C X o7 dL_law_672 ?_
  obtain ⟨o10, h13⟩ := h13
  refine e_callV (as := [.int (xs ((v3 + (1 : Int32))).toNatClampNeg), .int (xs ((v3 + (2 : Int32))).toNatClampNeg)]) C wb_X12_price wv_L_77 (ci := 12) rfl rfl (isO_1 o10) (m_X12_price h13) rfl ⟨Nat.le_of_ble_eq_true rfl, Nat.le_of_ble_eq_true rfl⟩ ⟨by show _ ≤ 600000; omega, by show _ ≤ 7302250; omega⟩ (by first | exact Nat.le_of_ble_eq_true rfl | (simp only [List.map_cons, List.map_nil, va_cat, List.sum_cons, List.sum_nil]; exact Nat.le_of_ble_eq_true rfl)) dL_law_673 (kI (fun w8 M9 h12 => ?_))
  refine e_icmp_eq (tgt := 1284) C dL_law_676 (by decide) (fun q11 => ?_) (fun q11 => ?_)
  · replace h12 := ite_t h12 q11
    exact hK _ h12 _ _ (by omega) (by omega)
  · replace h12 := ite_f h12 q11
    refine e_iconst (v := 0) C dL_law_679 (by decide) ?_
    exact h12.elim
set_option maxHeartbeats 4000000 in
set_option maxRecDepth 100000 in
theorem w_L_law_J681 {p : Program} {l : Launch} {e : Env} {s : State} {m : MethodId} {below : List Frame} {meth : Method} {c : Code} {g : Geo} {b L : Nat} {xs : Nat → Int32} (C : Cx p s m #[Value.ref b] c cL_law RL 4 g) (X : XC g s b L xs) (hr : meth.sig.returnType = ret) (hlk : meth.locks = false) {v1 : Nat} {v2 : Nat} {v3 : Int32} {M : Mem} {k n kb nb : Nat} {K : Mem → Prop} (hK : ∀ M', K M' → ∀ k' n', k' ≤ kb → n' ≤ nb → E p l e room_1 s m #[Value.ref b] below meth c g 4 (lw_Z below #[Value.ref b] s) k' n' 1284 [(0, .retAddr 16), (1, .ref v1), (2, .ref v2), (3, .int v3)] [] M') (hk : k + 3 ≤ kb ∧ n + 35 ≤ nb ∧ kb ≤ 600000 ∧ nb ≤ 7302250) (h : f_L_law_J681 v1 v2 v3 M xs L K) : E p l e room_1 s m #[Value.ref b] below meth c g 4 (lw_Z below #[Value.ref b] s) k n 681 [(0, .retAddr 16), (1, .ref v1), (2, .ref v2), (3, .int v3)] [] M := by
  unfold f_L_law_J681 at h
  obtain ⟨hk1, hk2, hk3, hk4⟩ := hk
  refine e_aload_n C 1 dL_law_681 rfl rfl ?_
  refine e_sload_n C 0 dL_law_682 rfl rfl ?_
  refine e_iload_n C 3 dL_law_683 rfl rfl ?_
  refine e_iconst (v := 1) C dL_law_684 (by decide) ?_
  refine e_iadd C dL_law_685 ?_
  obtain ⟨o1, h⟩ := h
  refine e_xld C X o1 dL_law_686 ?_
  obtain ⟨o4, h⟩ := h
  refine e_callV (as := [.int (xs ((v3 + (1 : Int32))).toNatClampNeg)]) C wb_X11_worse wv_L_78 (ci := 11) rfl rfl (isO_1 o4) (m_X11_worse h) rfl ⟨Nat.le_of_ble_eq_true rfl, Nat.le_of_ble_eq_true rfl⟩ ⟨by show _ ≤ 600000; omega, by show _ ≤ 7302250; omega⟩ (by first | exact Nat.le_of_ble_eq_true rfl | (simp only [List.map_cons, List.map_nil, va_cat, List.sum_cons, List.sum_nil]; exact Nat.le_of_ble_eq_true rfl)) dL_law_687 (kI (fun w2 M3 h11 => ?_))
  refine e_aload_n C 2 dL_law_690 rfl rfl ?_
  refine e_sload_n C 0 dL_law_691 rfl rfl ?_
  refine e_iload_n C 3 dL_law_692 rfl rfl ?_
  refine e_iconst (v := 1) C dL_law_693 (by decide) ?_
  refine e_iadd C dL_law_694 ?_
  obtain ⟨o5, h11⟩ := h11
  refine e_xld C X o5 dL_law_695 ?_
  obtain ⟨o8, h11⟩ := h11
  refine e_callV (as := [.int (xs ((v3 + (1 : Int32))).toNatClampNeg)]) C wb_X12_worse wv_L_81 (ci := 12) rfl rfl (isO_1 o8) (m_X12_worse h11) rfl ⟨Nat.le_of_ble_eq_true rfl, Nat.le_of_ble_eq_true rfl⟩ ⟨by show _ ≤ 600000; omega, by show _ ≤ 7302250; omega⟩ (by first | exact Nat.le_of_ble_eq_true rfl | (simp only [List.map_cons, List.map_nil, va_cat, List.sum_cons, List.sum_nil]; exact Nat.le_of_ble_eq_true rfl)) dL_law_696 (kI (fun w6 M7 h10 => ?_))
  refine e_icmp_eq (tgt := 1284) C dL_law_699 (by decide) (fun q9 => ?_) (fun q9 => ?_)
  · replace h10 := ite_t h10 q9
    exact hK _ h10 _ _ (by omega) (by omega)
  · replace h10 := ite_f h10 q9
    refine e_iconst (v := 0) C dL_law_702 (by decide) ?_
    exact h10.elim
set_option maxHeartbeats 4000000 in
set_option maxRecDepth 100000 in
theorem w_L_law_J704 {p : Program} {l : Launch} {e : Env} {s : State} {m : MethodId} {below : List Frame} {meth : Method} {c : Code} {g : Geo} {b L : Nat} {xs : Nat → Int32} (C : Cx p s m #[Value.ref b] c cL_law RL 4 g) (X : XC g s b L xs) (hr : meth.sig.returnType = ret) (hlk : meth.locks = false) {v1 : Nat} {v2 : Nat} {v3 : Int32} {M : Mem} {k n kb nb : Nat} {K : Mem → Prop} (hK : ∀ M', K M' → ∀ k' n', k' ≤ kb → n' ≤ nb → E p l e room_1 s m #[Value.ref b] below meth c g 4 (lw_Z below #[Value.ref b] s) k' n' 1284 [(0, .retAddr 16), (1, .ref v1), (2, .ref v2), (3, .int v3)] [] M') (hk : k + 3 ≤ kb ∧ n + 35 ≤ nb ∧ kb ≤ 600000 ∧ nb ≤ 7302250) (h : f_L_law_J704 v1 v2 v3 M xs L K) : E p l e room_1 s m #[Value.ref b] below meth c g 4 (lw_Z below #[Value.ref b] s) k n 704 [(0, .retAddr 16), (1, .ref v1), (2, .ref v2), (3, .int v3)] [] M := by
  unfold f_L_law_J704 at h
  obtain ⟨hk1, hk2, hk3, hk4⟩ := hk
  refine e_aload_n C 1 dL_law_704 rfl rfl ?_
  refine e_sload_n C 0 dL_law_705 rfl rfl ?_
  refine e_iload_n C 3 dL_law_706 rfl rfl ?_
  refine e_iconst (v := 1) C dL_law_707 (by decide) ?_
  refine e_iadd C dL_law_708 ?_
  obtain ⟨o1, h⟩ := h
  refine e_xld C X o1 dL_law_709 ?_
  refine e_sload_n C 0 dL_law_710 rfl rfl ?_
  refine e_iload_n C 3 dL_law_711 rfl rfl ?_
  refine e_iconst (v := 2) C dL_law_712 (by decide) ?_
  refine e_iadd C dL_law_713 ?_
  obtain ⟨o2, h⟩ := h
  refine e_xld C X o2 dL_law_714 ?_
  obtain ⟨o5, h⟩ := h
  refine e_callV (as := [.int (xs ((v3 + (1 : Int32))).toNatClampNeg), .int (xs ((v3 + (2 : Int32))).toNatClampNeg)]) C wb_X11_loss wv_L_82 (ci := 11) rfl rfl (isO_1 o5) (m_X11_loss h) rfl ⟨Nat.le_of_ble_eq_true rfl, Nat.le_of_ble_eq_true rfl⟩ ⟨by show _ ≤ 600000; omega, by show _ ≤ 7302250; omega⟩ (by first | exact Nat.le_of_ble_eq_true rfl | (simp only [List.map_cons, List.map_nil, va_cat, List.sum_cons, List.sum_nil]; exact Nat.le_of_ble_eq_true rfl)) dL_law_715 (kI (fun w3 M4 h13 => ?_))
  refine e_aload_n C 2 dL_law_718 rfl rfl ?_
  refine e_sload_n C 0 dL_law_719 rfl rfl ?_
  refine e_iload_n C 3 dL_law_720 rfl rfl ?_
  refine e_iconst (v := 1) C dL_law_721 (by decide) ?_
  refine e_iadd C dL_law_722 ?_
  obtain ⟨o6, h13⟩ := h13
  refine e_xld C X o6 dL_law_723 ?_
  refine e_sload_n C 0 dL_law_724 rfl rfl ?_
  refine e_iload_n C 3 dL_law_725 rfl rfl ?_
  refine e_iconst (v := 2) C dL_law_726 (by decide) ?_
  refine e_iadd C dL_law_727 ?_
  obtain ⟨o7, h13⟩ := h13
  refine e_xld C X o7 dL_law_728 ?_
  obtain ⟨o10, h13⟩ := h13
  refine e_callV (as := [.int (xs ((v3 + (1 : Int32))).toNatClampNeg), .int (xs ((v3 + (2 : Int32))).toNatClampNeg)]) C wb_X12_loss wv_L_85 (ci := 12) rfl rfl (isO_1 o10) (m_X12_loss h13) rfl ⟨Nat.le_of_ble_eq_true rfl, Nat.le_of_ble_eq_true rfl⟩ ⟨by show _ ≤ 600000; omega, by show _ ≤ 7302250; omega⟩ (by first | exact Nat.le_of_ble_eq_true rfl | (simp only [List.map_cons, List.map_nil, va_cat, List.sum_cons, List.sum_nil]; exact Nat.le_of_ble_eq_true rfl)) dL_law_729 (kI (fun w8 M9 h12 => ?_))
  refine e_icmp_eq (tgt := 1284) C dL_law_732 (by decide) (fun q11 => ?_) (fun q11 => ?_)
  · replace h12 := ite_t h12 q11
    exact hK _ h12 _ _ (by omega) (by omega)
  · replace h12 := ite_f h12 q11
    refine e_iconst (v := 0) C dL_law_735 (by decide) ?_
    exact h12.elim
set_option maxHeartbeats 4000000 in
set_option maxRecDepth 100000 in
theorem w_L_law_J737 {p : Program} {l : Launch} {e : Env} {s : State} {m : MethodId} {below : List Frame} {meth : Method} {c : Code} {g : Geo} {b L : Nat} {xs : Nat → Int32} (C : Cx p s m #[Value.ref b] c cL_law RL 4 g) (X : XC g s b L xs) (hr : meth.sig.returnType = ret) (hlk : meth.locks = false) {v1 : Nat} {v2 : Nat} {v3 : Int32} {M : Mem} {k n kb nb : Nat} {K : Mem → Prop} (hK : ∀ M', K M' → ∀ k' n', k' ≤ kb → n' ≤ nb → E p l e room_1 s m #[Value.ref b] below meth c g 4 (lw_Z below #[Value.ref b] s) k' n' 1284 [(0, .retAddr 16), (1, .ref v1), (2, .ref v2), (3, .int v3)] [] M') (hk : k + 3 ≤ kb ∧ n + 35 ≤ nb ∧ kb ≤ 600000 ∧ nb ≤ 7302250) (h : f_L_law_J737 v1 v2 v3 M xs L K) : E p l e room_1 s m #[Value.ref b] below meth c g 4 (lw_Z below #[Value.ref b] s) k n 737 [(0, .retAddr 16), (1, .ref v1), (2, .ref v2), (3, .int v3)] [] M := by
  unfold f_L_law_J737 at h
  obtain ⟨hk1, hk2, hk3, hk4⟩ := hk
  refine e_aload_n C 1 dL_law_737 rfl rfl ?_
  refine e_sload_n C 0 dL_law_738 rfl rfl ?_
  refine e_iload_n C 3 dL_law_739 rfl rfl ?_
  refine e_iconst (v := 1) C dL_law_740 (by decide) ?_
  refine e_iadd C dL_law_741 ?_
  obtain ⟨o1, h⟩ := h
  refine e_xld C X o1 dL_law_742 ?_
  refine e_sload_n C 0 dL_law_743 rfl rfl ?_
  refine e_iload_n C 3 dL_law_744 rfl rfl ?_
  refine e_iconst (v := 2) C dL_law_745 (by decide) ?_
  refine e_iadd C dL_law_746 ?_
  obtain ⟨o2, h⟩ := h
  refine e_xld C X o2 dL_law_747 ?_
  obtain ⟨o5, h⟩ := h
  refine e_callV (as := [.int (xs ((v3 + (1 : Int32))).toNatClampNeg), .int (xs ((v3 + (2 : Int32))).toNatClampNeg)]) C wb_X11_slow wv_L_86 (ci := 11) rfl rfl (isO_1 o5) (m_X11_slow h) rfl ⟨Nat.le_of_ble_eq_true rfl, Nat.le_of_ble_eq_true rfl⟩ ⟨by show _ ≤ 600000; omega, by show _ ≤ 7302250; omega⟩ (by first | exact Nat.le_of_ble_eq_true rfl | (simp only [List.map_cons, List.map_nil, va_cat, List.sum_cons, List.sum_nil]; exact Nat.le_of_ble_eq_true rfl)) dL_law_748 (kI (fun w3 M4 h13 => ?_))
  refine e_aload_n C 2 dL_law_751 rfl rfl ?_
  refine e_sload_n C 0 dL_law_752 rfl rfl ?_
  refine e_iload_n C 3 dL_law_753 rfl rfl ?_
  refine e_iconst (v := 1) C dL_law_754 (by decide) ?_
  refine e_iadd C dL_law_755 ?_
  obtain ⟨o6, h13⟩ := h13
  refine e_xld C X o6 dL_law_756 ?_
  refine e_sload_n C 0 dL_law_757 rfl rfl ?_
  refine e_iload_n C 3 dL_law_758 rfl rfl ?_
  refine e_iconst (v := 2) C dL_law_759 (by decide) ?_
  refine e_iadd C dL_law_760 ?_
  obtain ⟨o7, h13⟩ := h13
  refine e_xld C X o7 dL_law_761 ?_
  obtain ⟨o10, h13⟩ := h13
  refine e_callV (as := [.int (xs ((v3 + (1 : Int32))).toNatClampNeg), .int (xs ((v3 + (2 : Int32))).toNatClampNeg)]) C wb_X12_slow wv_L_89 (ci := 12) rfl rfl (isO_1 o10) (m_X12_slow h13) rfl ⟨Nat.le_of_ble_eq_true rfl, Nat.le_of_ble_eq_true rfl⟩ ⟨by show _ ≤ 600000; omega, by show _ ≤ 7302250; omega⟩ (by first | exact Nat.le_of_ble_eq_true rfl | (simp only [List.map_cons, List.map_nil, va_cat, List.sum_cons, List.sum_nil]; exact Nat.le_of_ble_eq_true rfl)) dL_law_762 (kI (fun w8 M9 h12 => ?_))
  refine e_icmp_eq (tgt := 1284) C dL_law_765 (by decide) (fun q11 => ?_) (fun q11 => ?_)
  · replace h12 := ite_t h12 q11
    exact hK _ h12 _ _ (by omega) (by omega)
  · replace h12 := ite_f h12 q11
    refine e_iconst (v := 0) C dL_law_768 (by decide) ?_
    exact h12.elim
set_option maxHeartbeats 4000000 in
set_option maxRecDepth 100000 in
theorem w_L_law_J770 {p : Program} {l : Launch} {e : Env} {s : State} {m : MethodId} {below : List Frame} {meth : Method} {c : Code} {g : Geo} {b L : Nat} {xs : Nat → Int32} (C : Cx p s m #[Value.ref b] c cL_law RL 4 g) (X : XC g s b L xs) (hr : meth.sig.returnType = ret) (hlk : meth.locks = false) {v1 : Nat} {v2 : Nat} {v3 : Int32} {M : Mem} {k n kb nb : Nat} {K : Mem → Prop} (hK : ∀ M', K M' → ∀ k' n', k' ≤ kb → n' ≤ nb → E p l e room_1 s m #[Value.ref b] below meth c g 4 (lw_Z below #[Value.ref b] s) k' n' 1284 [(0, .retAddr 16), (1, .ref v1), (2, .ref v2), (3, .int v3)] [] M') (hk : k + 3 ≤ kb ∧ n + 35 ≤ nb ∧ kb ≤ 600000 ∧ nb ≤ 7302250) (h : f_L_law_J770 v1 v2 v3 M xs L K) : E p l e room_1 s m #[Value.ref b] below meth c g 4 (lw_Z below #[Value.ref b] s) k n 770 [(0, .retAddr 16), (1, .ref v1), (2, .ref v2), (3, .int v3)] [] M := by
  unfold f_L_law_J770 at h
  obtain ⟨hk1, hk2, hk3, hk4⟩ := hk
  refine e_aload_n C 1 dL_law_770 rfl rfl ?_
  refine e_sload_n C 0 dL_law_771 rfl rfl ?_
  refine e_iload_n C 3 dL_law_772 rfl rfl ?_
  refine e_iconst (v := 1) C dL_law_773 (by decide) ?_
  refine e_iadd C dL_law_774 ?_
  obtain ⟨o1, h⟩ := h
  refine e_xld C X o1 dL_law_775 ?_
  refine e_sload_n C 0 dL_law_776 rfl rfl ?_
  refine e_iload_n C 3 dL_law_777 rfl rfl ?_
  refine e_iconst (v := 2) C dL_law_778 (by decide) ?_
  refine e_iadd C dL_law_779 ?_
  obtain ⟨o2, h⟩ := h
  refine e_xld C X o2 dL_law_780 ?_
  refine e_sload_n C 0 dL_law_781 rfl rfl ?_
  refine e_iload_n C 3 dL_law_782 rfl rfl ?_
  refine e_iconst (v := 3) C dL_law_783 (by decide) ?_
  refine e_iadd C dL_law_784 ?_
  obtain ⟨o3, h⟩ := h
  refine e_xld C X o3 dL_law_785 ?_
  obtain ⟨o6, h⟩ := h
  refine e_callV (as := [.int (xs ((v3 + (1 : Int32))).toNatClampNeg), .int (xs ((v3 + (2 : Int32))).toNatClampNeg), .int (xs ((v3 + (3 : Int32))).toNatClampNeg)]) C wb_X11_early wv_L_90 (ci := 11) rfl rfl (isO_1 o6) (m_X11_early h) rfl ⟨Nat.le_of_ble_eq_true rfl, Nat.le_of_ble_eq_true rfl⟩ ⟨by show _ ≤ 600000; omega, by show _ ≤ 7302250; omega⟩ (by first | exact Nat.le_of_ble_eq_true rfl | (simp only [List.map_cons, List.map_nil, va_cat, List.sum_cons, List.sum_nil]; exact Nat.le_of_ble_eq_true rfl)) dL_law_786 (kI (fun w4 M5 h15 => ?_))
  refine e_aload_n C 2 dL_law_789 rfl rfl ?_
  refine e_sload_n C 0 dL_law_790 rfl rfl ?_
  refine e_iload_n C 3 dL_law_791 rfl rfl ?_
  refine e_iconst (v := 1) C dL_law_792 (by decide) ?_
  refine e_iadd C dL_law_793 ?_
  obtain ⟨o7, h15⟩ := h15
  refine e_xld C X o7 dL_law_794 ?_
  refine e_sload_n C 0 dL_law_795 rfl rfl ?_
  refine e_iload_n C 3 dL_law_796 rfl rfl ?_
  refine e_iconst (v := 2) C dL_law_797 (by decide) ?_
  refine e_iadd C dL_law_798 ?_
  obtain ⟨o8, h15⟩ := h15
  refine e_xld C X o8 dL_law_799 ?_
  refine e_sload_n C 0 dL_law_800 rfl rfl ?_
  refine e_iload_n C 3 dL_law_801 rfl rfl ?_
  refine e_iconst (v := 3) C dL_law_802 (by decide) ?_
  refine e_iadd C dL_law_803 ?_
  obtain ⟨o9, h15⟩ := h15
  refine e_xld C X o9 dL_law_804 ?_
  obtain ⟨o12, h15⟩ := h15
  refine e_callV (as := [.int (xs ((v3 + (1 : Int32))).toNatClampNeg), .int (xs ((v3 + (2 : Int32))).toNatClampNeg), .int (xs ((v3 + (3 : Int32))).toNatClampNeg)]) C wb_X12_early wv_L_93 (ci := 12) rfl rfl (isO_1 o12) (m_X12_early h15) rfl ⟨Nat.le_of_ble_eq_true rfl, Nat.le_of_ble_eq_true rfl⟩ ⟨by show _ ≤ 600000; omega, by show _ ≤ 7302250; omega⟩ (by first | exact Nat.le_of_ble_eq_true rfl | (simp only [List.map_cons, List.map_nil, va_cat, List.sum_cons, List.sum_nil]; exact Nat.le_of_ble_eq_true rfl)) dL_law_805 (kI (fun w10 M11 h14 => ?_))
  refine e_icmp_eq (tgt := 1284) C dL_law_808 (by decide) (fun q13 => ?_) (fun q13 => ?_)
  · replace h14 := ite_t h14 q13
    exact hK _ h14 _ _ (by omega) (by omega)
  · replace h14 := ite_f h14 q13
    refine e_iconst (v := 0) C dL_law_811 (by decide) ?_
    exact h14.elim
set_option maxHeartbeats 4000000 in
set_option maxRecDepth 100000 in
theorem w_L_law_J813 {p : Program} {l : Launch} {e : Env} {s : State} {m : MethodId} {below : List Frame} {meth : Method} {c : Code} {g : Geo} {b L : Nat} {xs : Nat → Int32} (C : Cx p s m #[Value.ref b] c cL_law RL 4 g) (X : XC g s b L xs) (hr : meth.sig.returnType = ret) (hlk : meth.locks = false) {v1 : Nat} {v2 : Nat} {v3 : Int32} {M : Mem} {k n kb nb : Nat} {K : Mem → Prop} (hK : ∀ M', K M' → ∀ k' n', k' ≤ kb → n' ≤ nb → E p l e room_1 s m #[Value.ref b] below meth c g 4 (lw_Z below #[Value.ref b] s) k' n' 1284 [(0, .retAddr 16), (1, .ref v1), (2, .ref v2), (3, .int v3)] [] M') (hk : k + 3 ≤ kb ∧ n + 35 ≤ nb ∧ kb ≤ 600000 ∧ nb ≤ 7302250) (h : f_L_law_J813 v1 v2 v3 M xs L K) : E p l e room_1 s m #[Value.ref b] below meth c g 4 (lw_Z below #[Value.ref b] s) k n 813 [(0, .retAddr 16), (1, .ref v1), (2, .ref v2), (3, .int v3)] [] M := by
  unfold f_L_law_J813 at h
  obtain ⟨hk1, hk2, hk3, hk4⟩ := hk
  refine e_aload_n C 1 dL_law_813 rfl rfl ?_
  refine e_sload_n C 0 dL_law_814 rfl rfl ?_
  refine e_iload_n C 3 dL_law_815 rfl rfl ?_
  refine e_iconst (v := 1) C dL_law_816 (by decide) ?_
  refine e_iadd C dL_law_817 ?_
  obtain ⟨o1, h⟩ := h
  refine e_xld C X o1 dL_law_818 ?_
  obtain ⟨o4, h⟩ := h
  refine e_callV (as := [.int (xs ((v3 + (1 : Int32))).toNatClampNeg)]) C wb_X11_sell wv_L_94 (ci := 11) rfl rfl (isO_1 o4) (m_X11_sell h) rfl ⟨Nat.le_of_ble_eq_true rfl, Nat.le_of_ble_eq_true rfl⟩ ⟨by show _ ≤ 600000; omega, by show _ ≤ 7302250; omega⟩ (by first | exact Nat.le_of_ble_eq_true rfl | (simp only [List.map_cons, List.map_nil, va_cat, List.sum_cons, List.sum_nil]; exact Nat.le_of_ble_eq_true rfl)) dL_law_819 (kI (fun w2 M3 h11 => ?_))
  refine e_aload_n C 2 dL_law_822 rfl rfl ?_
  refine e_sload_n C 0 dL_law_823 rfl rfl ?_
  refine e_iload_n C 3 dL_law_824 rfl rfl ?_
  refine e_iconst (v := 1) C dL_law_825 (by decide) ?_
  refine e_iadd C dL_law_826 ?_
  obtain ⟨o5, h11⟩ := h11
  refine e_xld C X o5 dL_law_827 ?_
  obtain ⟨o8, h11⟩ := h11
  refine e_callV (as := [.int (xs ((v3 + (1 : Int32))).toNatClampNeg)]) C wb_X12_sell wv_L_97 (ci := 12) rfl rfl (isO_1 o8) (m_X12_sell h11) rfl ⟨Nat.le_of_ble_eq_true rfl, Nat.le_of_ble_eq_true rfl⟩ ⟨by show _ ≤ 600000; omega, by show _ ≤ 7302250; omega⟩ (by first | exact Nat.le_of_ble_eq_true rfl | (simp only [List.map_cons, List.map_nil, va_cat, List.sum_cons, List.sum_nil]; exact Nat.le_of_ble_eq_true rfl)) dL_law_828 (kI (fun w6 M7 h10 => ?_))
  refine e_icmp_eq (tgt := 1284) C dL_law_831 (by decide) (fun q9 => ?_) (fun q9 => ?_)
  · replace h10 := ite_t h10 q9
    exact hK _ h10 _ _ (by omega) (by omega)
  · replace h10 := ite_f h10 q9
    refine e_iconst (v := 0) C dL_law_834 (by decide) ?_
    exact h10.elim
set_option maxHeartbeats 4000000 in
set_option maxRecDepth 100000 in
theorem w_L_law_J836 {p : Program} {l : Launch} {e : Env} {s : State} {m : MethodId} {below : List Frame} {meth : Method} {c : Code} {g : Geo} {b L : Nat} {xs : Nat → Int32} (C : Cx p s m #[Value.ref b] c cL_law RL 4 g) (X : XC g s b L xs) (hr : meth.sig.returnType = ret) (hlk : meth.locks = false) {v1 : Nat} {v2 : Nat} {v3 : Int32} {M : Mem} {k n kb nb : Nat} {K : Mem → Prop} (hK : ∀ M', K M' → ∀ k' n', k' ≤ kb → n' ≤ nb → E p l e room_1 s m #[Value.ref b] below meth c g 4 (lw_Z below #[Value.ref b] s) k' n' 1284 [(0, .retAddr 16), (1, .ref v1), (2, .ref v2), (3, .int v3)] [] M') (hk : k + 3 ≤ kb ∧ n + 35 ≤ nb ∧ kb ≤ 600000 ∧ nb ≤ 7302250) (h : f_L_law_J836 v1 v2 v3 M xs L K) : E p l e room_1 s m #[Value.ref b] below meth c g 4 (lw_Z below #[Value.ref b] s) k n 836 [(0, .retAddr 16), (1, .ref v1), (2, .ref v2), (3, .int v3)] [] M := by
  unfold f_L_law_J836 at h
  obtain ⟨hk1, hk2, hk3, hk4⟩ := hk
  refine e_aload_n C 1 dL_law_836 rfl rfl ?_
  refine e_sload_n C 0 dL_law_837 rfl rfl ?_
  refine e_iload_n C 3 dL_law_838 rfl rfl ?_
  refine e_iconst (v := 1) C dL_law_839 (by decide) ?_
  refine e_iadd C dL_law_840 ?_
  obtain ⟨o1, h⟩ := h
  refine e_xld C X o1 dL_law_841 ?_
  refine e_sload_n C 0 dL_law_842 rfl rfl ?_
  refine e_iload_n C 3 dL_law_843 rfl rfl ?_
  refine e_iconst (v := 2) C dL_law_844 (by decide) ?_
  refine e_iadd C dL_law_845 ?_
  obtain ⟨o2, h⟩ := h
  refine e_xld C X o2 dL_law_846 ?_
  obtain ⟨o5, h⟩ := h
  refine e_callV (as := [.int (xs ((v3 + (1 : Int32))).toNatClampNeg), .int (xs ((v3 + (2 : Int32))).toNatClampNeg)]) C wb_X11_mean wv_L_98 (ci := 11) rfl rfl (isO_1 o5) (m_X11_mean h) rfl ⟨Nat.le_of_ble_eq_true rfl, Nat.le_of_ble_eq_true rfl⟩ ⟨by show _ ≤ 600000; omega, by show _ ≤ 7302250; omega⟩ (by first | exact Nat.le_of_ble_eq_true rfl | (simp only [List.map_cons, List.map_nil, va_cat, List.sum_cons, List.sum_nil]; exact Nat.le_of_ble_eq_true rfl)) dL_law_847 (kJ (fun w3 M4 h13 => ?_))
  refine e_aload_n C 2 dL_law_850 rfl rfl ?_
  refine e_sload_n C 0 dL_law_851 rfl rfl ?_
  refine e_iload_n C 3 dL_law_852 rfl rfl ?_
  refine e_iconst (v := 1) C dL_law_853 (by decide) ?_
  refine e_iadd C dL_law_854 ?_
  obtain ⟨o6, h13⟩ := h13
  refine e_xld C X o6 dL_law_855 ?_
  refine e_sload_n C 0 dL_law_856 rfl rfl ?_
  refine e_iload_n C 3 dL_law_857 rfl rfl ?_
  refine e_iconst (v := 2) C dL_law_858 (by decide) ?_
  refine e_iadd C dL_law_859 ?_
  obtain ⟨o7, h13⟩ := h13
  refine e_xld C X o7 dL_law_860 ?_
  obtain ⟨o10, h13⟩ := h13
  refine e_callV (as := [.int (xs ((v3 + (1 : Int32))).toNatClampNeg), .int (xs ((v3 + (2 : Int32))).toNatClampNeg)]) C wb_X12_mean wv_L_102 (ci := 12) rfl rfl (isO_1 o10) (m_X12_mean h13) rfl ⟨Nat.le_of_ble_eq_true rfl, Nat.le_of_ble_eq_true rfl⟩ ⟨by show _ ≤ 600000; omega, by show _ ≤ 7302250; omega⟩ (by first | exact Nat.le_of_ble_eq_true rfl | (simp only [List.map_cons, List.map_nil, va_cat, List.sum_cons, List.sum_nil]; exact Nat.le_of_ble_eq_true rfl)) dL_law_861 (kJ (fun w8 M9 h12 => ?_))
  refine e_lcmp C dL_law_864 ?_
  refine e_if_eq (tgt := 1284) C dL_law_865 (by decide) (fun q11 => ?_) (fun q11 => ?_)
  · replace h12 := ite_t h12 q11
    exact hK _ h12 _ _ (by omega) (by omega)
  · replace h12 := ite_f h12 q11
    refine e_iconst (v := 0) C dL_law_868 (by decide) ?_
    exact h12.elim
set_option maxHeartbeats 4000000 in
set_option maxRecDepth 100000 in
theorem w_L_law_J870 {p : Program} {l : Launch} {e : Env} {s : State} {m : MethodId} {below : List Frame} {meth : Method} {c : Code} {g : Geo} {b L : Nat} {xs : Nat → Int32} (C : Cx p s m #[Value.ref b] c cL_law RL 4 g) (X : XC g s b L xs) (hr : meth.sig.returnType = ret) (hlk : meth.locks = false) {v1 : Nat} {v2 : Nat} {v3 : Int32} {M : Mem} {k n kb nb : Nat} {K : Mem → Prop} (hK : ∀ M', K M' → ∀ k' n', k' ≤ kb → n' ≤ nb → E p l e room_1 s m #[Value.ref b] below meth c g 4 (lw_Z below #[Value.ref b] s) k' n' 1284 [(0, .retAddr 16), (1, .ref v1), (2, .ref v2), (3, .int v3)] [] M') (hk : k + 3 ≤ kb ∧ n + 35 ≤ nb ∧ kb ≤ 600000 ∧ nb ≤ 7302250) (h : f_L_law_J870 v1 v2 v3 M xs L K) : E p l e room_1 s m #[Value.ref b] below meth c g 4 (lw_Z below #[Value.ref b] s) k n 870 [(0, .retAddr 16), (1, .ref v1), (2, .ref v2), (3, .int v3)] [] M := by
  unfold f_L_law_J870 at h
  obtain ⟨hk1, hk2, hk3, hk4⟩ := hk
  refine e_aload_n C 1 dL_law_870 rfl rfl ?_
  refine e_sload_n C 0 dL_law_871 rfl rfl ?_
  refine e_iload_n C 3 dL_law_872 rfl rfl ?_
  refine e_iconst (v := 1) C dL_law_873 (by decide) ?_
  refine e_iadd C dL_law_874 ?_
  obtain ⟨o1, h⟩ := h
  refine e_xld C X o1 dL_law_875 ?_
  refine e_sload_n C 0 dL_law_876 rfl rfl ?_
  refine e_iload_n C 3 dL_law_877 rfl rfl ?_
  refine e_iconst (v := 2) C dL_law_878 (by decide) ?_
  refine e_iadd C dL_law_879 ?_
  obtain ⟨o2, h⟩ := h
  refine e_xld C X o2 dL_law_880 ?_
  refine e_sload_n C 0 dL_law_881 rfl rfl ?_
  refine e_iload_n C 3 dL_law_882 rfl rfl ?_
  refine e_iconst (v := 3) C dL_law_883 (by decide) ?_
  refine e_iadd C dL_law_884 ?_
  obtain ⟨o3, h⟩ := h
  refine e_xld C X o3 dL_law_885 ?_
  refine e_sload_n C 0 dL_law_886 rfl rfl ?_
  refine e_iload_n C 3 dL_law_887 rfl rfl ?_
  refine e_iconst (v := 4) C dL_law_888 (by decide) ?_
  refine e_iadd C dL_law_889 ?_
  obtain ⟨o4, h⟩ := h
  refine e_xld C X o4 dL_law_890 ?_
  obtain ⟨o7, h⟩ := h
  refine e_callV (as := [.int (xs ((v3 + (1 : Int32))).toNatClampNeg), .int (xs ((v3 + (2 : Int32))).toNatClampNeg), .int (xs ((v3 + (3 : Int32))).toNatClampNeg), .int (xs ((v3 + (4 : Int32))).toNatClampNeg)]) C wb_X11_judge wv_L_103 (ci := 11) rfl rfl (isO_1 o7) (m_X11_judge h) rfl ⟨Nat.le_of_ble_eq_true rfl, Nat.le_of_ble_eq_true rfl⟩ ⟨by show _ ≤ 600000; omega, by show _ ≤ 7302250; omega⟩ (by first | exact Nat.le_of_ble_eq_true rfl | (simp only [List.map_cons, List.map_nil, va_cat, List.sum_cons, List.sum_nil]; exact Nat.le_of_ble_eq_true rfl)) dL_law_891 (kI (fun w5 M6 h17 => ?_))
  refine e_aload_n C 2 dL_law_894 rfl rfl ?_
  refine e_sload_n C 0 dL_law_895 rfl rfl ?_
  refine e_iload_n C 3 dL_law_896 rfl rfl ?_
  refine e_iconst (v := 1) C dL_law_897 (by decide) ?_
  refine e_iadd C dL_law_898 ?_
  obtain ⟨o8, h17⟩ := h17
  refine e_xld C X o8 dL_law_899 ?_
  refine e_sload_n C 0 dL_law_900 rfl rfl ?_
  refine e_iload_n C 3 dL_law_901 rfl rfl ?_
  refine e_iconst (v := 2) C dL_law_902 (by decide) ?_
  refine e_iadd C dL_law_903 ?_
  obtain ⟨o9, h17⟩ := h17
  refine e_xld C X o9 dL_law_904 ?_
  refine e_sload_n C 0 dL_law_905 rfl rfl ?_
  refine e_iload_n C 3 dL_law_906 rfl rfl ?_
  refine e_iconst (v := 3) C dL_law_907 (by decide) ?_
  refine e_iadd C dL_law_908 ?_
  obtain ⟨o10, h17⟩ := h17
  refine e_xld C X o10 dL_law_909 ?_
  refine e_sload_n C 0 dL_law_910 rfl rfl ?_
  refine e_iload_n C 3 dL_law_911 rfl rfl ?_
  refine e_iconst (v := 4) C dL_law_912 (by decide) ?_
  refine e_iadd C dL_law_913 ?_
  obtain ⟨o11, h17⟩ := h17
  refine e_xld C X o11 dL_law_914 ?_
  obtain ⟨o14, h17⟩ := h17
  refine e_callV (as := [.int (xs ((v3 + (1 : Int32))).toNatClampNeg), .int (xs ((v3 + (2 : Int32))).toNatClampNeg), .int (xs ((v3 + (3 : Int32))).toNatClampNeg), .int (xs ((v3 + (4 : Int32))).toNatClampNeg)]) C wb_X12_judge wv_L_106 (ci := 12) rfl rfl (isO_1 o14) (m_X12_judge h17) rfl ⟨Nat.le_of_ble_eq_true rfl, Nat.le_of_ble_eq_true rfl⟩ ⟨by show _ ≤ 600000; omega, by show _ ≤ 7302250; omega⟩ (by first | exact Nat.le_of_ble_eq_true rfl | (simp only [List.map_cons, List.map_nil, va_cat, List.sum_cons, List.sum_nil]; exact Nat.le_of_ble_eq_true rfl)) dL_law_915 (kI (fun w12 M13 h16 => ?_))
  refine e_icmp_eq (tgt := 1284) C dL_law_918 (by decide) (fun q15 => ?_) (fun q15 => ?_)
  · replace h16 := ite_t h16 q15
    exact hK _ h16 _ _ (by omega) (by omega)
  · replace h16 := ite_f h16 q15
    refine e_iconst (v := 0) C dL_law_921 (by decide) ?_
    exact h16.elim
set_option maxHeartbeats 4000000 in
set_option maxRecDepth 100000 in
theorem w_L_law_J923 {p : Program} {l : Launch} {e : Env} {s : State} {m : MethodId} {below : List Frame} {meth : Method} {c : Code} {g : Geo} {b L : Nat} {xs : Nat → Int32} (C : Cx p s m #[Value.ref b] c cL_law RL 4 g) (X : XC g s b L xs) (hr : meth.sig.returnType = ret) (hlk : meth.locks = false) {v1 : Nat} {v2 : Nat} {v3 : Int32} {M : Mem} {k n kb nb : Nat} {K : Mem → Prop} (hK : ∀ M', K M' → ∀ k' n', k' ≤ kb → n' ≤ nb → E p l e room_1 s m #[Value.ref b] below meth c g 4 (lw_Z below #[Value.ref b] s) k' n' 1284 [(0, .retAddr 16), (1, .ref v1), (2, .ref v2), (3, .int v3)] [] M') (hk : k + 3 ≤ kb ∧ n + 35 ≤ nb ∧ kb ≤ 600000 ∧ nb ≤ 7302250) (h : f_L_law_J923 v1 v2 v3 M xs L K) : E p l e room_1 s m #[Value.ref b] below meth c g 4 (lw_Z below #[Value.ref b] s) k n 923 [(0, .retAddr 16), (1, .ref v1), (2, .ref v2), (3, .int v3)] [] M := by
  unfold f_L_law_J923 at h
  obtain ⟨hk1, hk2, hk3, hk4⟩ := hk
  refine e_aload_n C 1 dL_law_923 rfl rfl ?_
  obtain ⟨o3, h⟩ := h
  refine e_callV (as := []) C wb_X11_image wv_L_107 (ci := 11) rfl rfl (isO_1 o3) (m_X11_image h) rfl ⟨Nat.le_of_ble_eq_true rfl, Nat.le_of_ble_eq_true rfl⟩ ⟨by show _ ≤ 600000; omega, by show _ ≤ 7302250; omega⟩ (by first | exact Nat.le_of_ble_eq_true rfl | (simp only [List.map_cons, List.map_nil, va_cat, List.sum_cons, List.sum_nil]; exact Nat.le_of_ble_eq_true rfl)) dL_law_924 (kI (fun w1 M2 h9 => ?_))
  refine e_aload_n C 2 dL_law_927 rfl rfl ?_
  obtain ⟨o6, h9⟩ := h9
  refine e_callV (as := []) C wb_X12_image wv_L_110 (ci := 12) rfl rfl (isO_1 o6) (m_X12_image h9) rfl ⟨Nat.le_of_ble_eq_true rfl, Nat.le_of_ble_eq_true rfl⟩ ⟨by show _ ≤ 600000; omega, by show _ ≤ 7302250; omega⟩ (by first | exact Nat.le_of_ble_eq_true rfl | (simp only [List.map_cons, List.map_nil, va_cat, List.sum_cons, List.sum_nil]; exact Nat.le_of_ble_eq_true rfl)) dL_law_928 (kI (fun w4 M5 h8 => ?_))
  refine e_icmp_eq (tgt := 1284) C dL_law_931 (by decide) (fun q7 => ?_) (fun q7 => ?_)
  · replace h8 := ite_t h8 q7
    exact hK _ h8 _ _ (by omega) (by omega)
  · replace h8 := ite_f h8 q7
    refine e_iconst (v := 0) C dL_law_934 (by decide) ?_
    exact h8.elim
set_option maxHeartbeats 4000000 in
set_option maxRecDepth 100000 in
theorem w_L_law_J936 {p : Program} {l : Launch} {e : Env} {s : State} {m : MethodId} {below : List Frame} {meth : Method} {c : Code} {g : Geo} {b L : Nat} {xs : Nat → Int32} (C : Cx p s m #[Value.ref b] c cL_law RL 4 g) (X : XC g s b L xs) (hr : meth.sig.returnType = ret) (hlk : meth.locks = false) {v1 : Nat} {v2 : Nat} {v3 : Int32} {M : Mem} {k n kb nb : Nat} {K : Mem → Prop} (hK : ∀ M', K M' → ∀ k' n', k' ≤ kb → n' ≤ nb → E p l e room_1 s m #[Value.ref b] below meth c g 4 (lw_Z below #[Value.ref b] s) k' n' 1284 [(0, .retAddr 16), (1, .ref v1), (2, .ref v2), (3, .int v3)] [] M') (hk : k + 3 ≤ kb ∧ n + 35 ≤ nb ∧ kb ≤ 600000 ∧ nb ≤ 7302250) (h : f_L_law_J936 v1 v2 v3 M xs L K) : E p l e room_1 s m #[Value.ref b] below meth c g 4 (lw_Z below #[Value.ref b] s) k n 936 [(0, .retAddr 16), (1, .ref v1), (2, .ref v2), (3, .int v3)] [] M := by
  unfold f_L_law_J936 at h
  obtain ⟨hk1, hk2, hk3, hk4⟩ := hk
  refine e_aload_n C 1 dL_law_936 rfl rfl ?_
  obtain ⟨o3, h⟩ := h
  refine e_callV (as := []) C wb_X11_undo wv_L_111 (ci := 11) rfl rfl (isO_1 o3) (m_X11_undo h) rfl ⟨Nat.le_of_ble_eq_true rfl, Nat.le_of_ble_eq_true rfl⟩ ⟨by show _ ≤ 600000; omega, by show _ ≤ 7302250; omega⟩ (by first | exact Nat.le_of_ble_eq_true rfl | (simp only [List.map_cons, List.map_nil, va_cat, List.sum_cons, List.sum_nil]; exact Nat.le_of_ble_eq_true rfl)) dL_law_937 (kI (fun w1 M2 h9 => ?_))
  refine e_aload_n C 2 dL_law_940 rfl rfl ?_
  obtain ⟨o6, h9⟩ := h9
  refine e_callV (as := []) C wb_X12_undo wv_L_114 (ci := 12) rfl rfl (isO_1 o6) (m_X12_undo h9) rfl ⟨Nat.le_of_ble_eq_true rfl, Nat.le_of_ble_eq_true rfl⟩ ⟨by show _ ≤ 600000; omega, by show _ ≤ 7302250; omega⟩ (by first | exact Nat.le_of_ble_eq_true rfl | (simp only [List.map_cons, List.map_nil, va_cat, List.sum_cons, List.sum_nil]; exact Nat.le_of_ble_eq_true rfl)) dL_law_941 (kI (fun w4 M5 h8 => ?_))
  refine e_icmp_eq (tgt := 1284) C dL_law_944 (by decide) (fun q7 => ?_) (fun q7 => ?_)
  · replace h8 := ite_t h8 q7
    exact hK _ h8 _ _ (by omega) (by omega)
  · replace h8 := ite_f h8 q7
    refine e_iconst (v := 0) C dL_law_947 (by decide) ?_
    exact h8.elim
set_option maxHeartbeats 4000000 in
set_option maxRecDepth 100000 in
theorem w_L_law_J949 {p : Program} {l : Launch} {e : Env} {s : State} {m : MethodId} {below : List Frame} {meth : Method} {c : Code} {g : Geo} {b L : Nat} {xs : Nat → Int32} (C : Cx p s m #[Value.ref b] c cL_law RL 4 g) (X : XC g s b L xs) (hr : meth.sig.returnType = ret) (hlk : meth.locks = false) {v1 : Nat} {v2 : Nat} {v3 : Int32} {M : Mem} {k n kb nb : Nat} {K : Mem → Prop} (hK : ∀ M', K M' → ∀ k' n', k' ≤ kb → n' ≤ nb → E p l e room_1 s m #[Value.ref b] below meth c g 4 (lw_Z below #[Value.ref b] s) k' n' 1284 [(0, .retAddr 16), (1, .ref v1), (2, .ref v2), (3, .int v3)] [] M') (hk : k + 3 ≤ kb ∧ n + 35 ≤ nb ∧ kb ≤ 600000 ∧ nb ≤ 7302250) (h : f_L_law_J949 v1 v2 v3 M xs L K) : E p l e room_1 s m #[Value.ref b] below meth c g 4 (lw_Z below #[Value.ref b] s) k n 949 [(0, .retAddr 16), (1, .ref v1), (2, .ref v2), (3, .int v3)] [] M := by
  unfold f_L_law_J949 at h
  obtain ⟨hk1, hk2, hk3, hk4⟩ := hk
  refine e_aload_n C 1 dL_law_949 rfl rfl ?_
  refine e_sload_n C 0 dL_law_950 rfl rfl ?_
  refine e_iload_n C 3 dL_law_951 rfl rfl ?_
  refine e_iconst (v := 1) C dL_law_952 (by decide) ?_
  refine e_iadd C dL_law_953 ?_
  obtain ⟨o1, h⟩ := h
  refine e_xld C X o1 dL_law_954 ?_
  refine e_sload_n C 0 dL_law_955 rfl rfl ?_
  refine e_iload_n C 3 dL_law_956 rfl rfl ?_
  refine e_iconst (v := 2) C dL_law_957 (by decide) ?_
  refine e_iadd C dL_law_958 ?_
  obtain ⟨o2, h⟩ := h
  refine e_xld C X o2 dL_law_959 ?_
  refine e_sload_n C 0 dL_law_960 rfl rfl ?_
  refine e_iload_n C 3 dL_law_961 rfl rfl ?_
  refine e_iconst (v := 3) C dL_law_962 (by decide) ?_
  refine e_iadd C dL_law_963 ?_
  obtain ⟨o3, h⟩ := h
  refine e_xld C X o3 dL_law_964 ?_
  obtain ⟨o6, h⟩ := h
  refine e_callV (as := [.int (xs ((v3 + (1 : Int32))).toNatClampNeg), .int (xs ((v3 + (2 : Int32))).toNatClampNeg), .int (xs ((v3 + (3 : Int32))).toNatClampNeg)]) C wb_X11_act wv_L_115 (ci := 11) rfl rfl (isO_1 o6) (m_X11_act h) rfl ⟨Nat.le_of_ble_eq_true rfl, Nat.le_of_ble_eq_true rfl⟩ ⟨by show _ ≤ 600000; omega, by show _ ≤ 7302250; omega⟩ (by first | exact Nat.le_of_ble_eq_true rfl | (simp only [List.map_cons, List.map_nil, va_cat, List.sum_cons, List.sum_nil]; exact Nat.le_of_ble_eq_true rfl)) dL_law_965 (kI (fun w4 M5 h15 => ?_))
  refine e_aload_n C 2 dL_law_968 rfl rfl ?_
  refine e_sload_n C 0 dL_law_969 rfl rfl ?_
  refine e_iload_n C 3 dL_law_970 rfl rfl ?_
  refine e_iconst (v := 1) C dL_law_971 (by decide) ?_
  refine e_iadd C dL_law_972 ?_
  obtain ⟨o7, h15⟩ := h15
  refine e_xld C X o7 dL_law_973 ?_
  refine e_sload_n C 0 dL_law_974 rfl rfl ?_
  refine e_iload_n C 3 dL_law_975 rfl rfl ?_
  refine e_iconst (v := 2) C dL_law_976 (by decide) ?_
  refine e_iadd C dL_law_977 ?_
  obtain ⟨o8, h15⟩ := h15
  refine e_xld C X o8 dL_law_978 ?_
  refine e_sload_n C 0 dL_law_979 rfl rfl ?_
  refine e_iload_n C 3 dL_law_980 rfl rfl ?_
  refine e_iconst (v := 3) C dL_law_981 (by decide) ?_
  refine e_iadd C dL_law_982 ?_
  obtain ⟨o9, h15⟩ := h15
  refine e_xld C X o9 dL_law_983 ?_
  obtain ⟨o12, h15⟩ := h15
  refine e_callV (as := [.int (xs ((v3 + (1 : Int32))).toNatClampNeg), .int (xs ((v3 + (2 : Int32))).toNatClampNeg), .int (xs ((v3 + (3 : Int32))).toNatClampNeg)]) C wb_X12_act wv_L_118 (ci := 12) rfl rfl (isO_1 o12) (m_X12_act h15) rfl ⟨Nat.le_of_ble_eq_true rfl, Nat.le_of_ble_eq_true rfl⟩ ⟨by show _ ≤ 600000; omega, by show _ ≤ 7302250; omega⟩ (by first | exact Nat.le_of_ble_eq_true rfl | (simp only [List.map_cons, List.map_nil, va_cat, List.sum_cons, List.sum_nil]; exact Nat.le_of_ble_eq_true rfl)) dL_law_984 (kI (fun w10 M11 h14 => ?_))
  refine e_icmp_eq (tgt := 1284) C dL_law_987 (by decide) (fun q13 => ?_) (fun q13 => ?_)
  · replace h14 := ite_t h14 q13
    exact hK _ h14 _ _ (by omega) (by omega)
  · replace h14 := ite_f h14 q13
    refine e_iconst (v := 0) C dL_law_990 (by decide) ?_
    exact h14.elim
set_option maxHeartbeats 4000000 in
set_option maxRecDepth 100000 in
theorem w_L_law_J992 {p : Program} {l : Launch} {e : Env} {s : State} {m : MethodId} {below : List Frame} {meth : Method} {c : Code} {g : Geo} {b L : Nat} {xs : Nat → Int32} (C : Cx p s m #[Value.ref b] c cL_law RL 4 g) (X : XC g s b L xs) (hr : meth.sig.returnType = ret) (hlk : meth.locks = false) {v1 : Nat} {v2 : Nat} {v3 : Int32} {M : Mem} {k n kb nb : Nat} {K : Mem → Prop} (hK : ∀ M', K M' → ∀ k' n', k' ≤ kb → n' ≤ nb → E p l e room_1 s m #[Value.ref b] below meth c g 4 (lw_Z below #[Value.ref b] s) k' n' 1284 [(0, .retAddr 16), (1, .ref v1), (2, .ref v2), (3, .int v3)] [] M') (hk : k + 3 ≤ kb ∧ n + 35 ≤ nb ∧ kb ≤ 600000 ∧ nb ≤ 7302250) (h : f_L_law_J992 v1 v2 v3 M xs L K) : E p l e room_1 s m #[Value.ref b] below meth c g 4 (lw_Z below #[Value.ref b] s) k n 992 [(0, .retAddr 16), (1, .ref v1), (2, .ref v2), (3, .int v3)] [] M := by
  unfold f_L_law_J992 at h
  obtain ⟨hk1, hk2, hk3, hk4⟩ := hk
  refine e_aload_n C 1 dL_law_992 rfl rfl ?_
  refine e_sload_n C 0 dL_law_993 rfl rfl ?_
  refine e_iload_n C 3 dL_law_994 rfl rfl ?_
  refine e_iconst (v := 1) C dL_law_995 (by decide) ?_
  refine e_iadd C dL_law_996 ?_
  obtain ⟨o1, h⟩ := h
  refine e_xld C X o1 dL_law_997 ?_
  obtain ⟨o4, h⟩ := h
  refine e_callV (as := [.int (xs ((v3 + (1 : Int32))).toNatClampNeg)]) C wb_X11_trace wv_L_119 (ci := 11) rfl rfl (isO_1 o4) (m_X11_trace h) rfl ⟨Nat.le_of_ble_eq_true rfl, Nat.le_of_ble_eq_true rfl⟩ ⟨by show _ ≤ 600000; omega, by show _ ≤ 7302250; omega⟩ (by first | exact Nat.le_of_ble_eq_true rfl | (simp only [List.map_cons, List.map_nil, va_cat, List.sum_cons, List.sum_nil]; exact Nat.le_of_ble_eq_true rfl)) dL_law_998 (kI (fun w2 M3 h11 => ?_))
  refine e_aload_n C 2 dL_law_1001 rfl rfl ?_
  refine e_sload_n C 0 dL_law_1002 rfl rfl ?_
  refine e_iload_n C 3 dL_law_1003 rfl rfl ?_
  refine e_iconst (v := 1) C dL_law_1004 (by decide) ?_
  refine e_iadd C dL_law_1005 ?_
  obtain ⟨o5, h11⟩ := h11
  refine e_xld C X o5 dL_law_1006 ?_
  obtain ⟨o8, h11⟩ := h11
  refine e_callV (as := [.int (xs ((v3 + (1 : Int32))).toNatClampNeg)]) C wb_X12_trace wv_L_122 (ci := 12) rfl rfl (isO_1 o8) (m_X12_trace h11) rfl ⟨Nat.le_of_ble_eq_true rfl, Nat.le_of_ble_eq_true rfl⟩ ⟨by show _ ≤ 600000; omega, by show _ ≤ 7302250; omega⟩ (by first | exact Nat.le_of_ble_eq_true rfl | (simp only [List.map_cons, List.map_nil, va_cat, List.sum_cons, List.sum_nil]; exact Nat.le_of_ble_eq_true rfl)) dL_law_1007 (kI (fun w6 M7 h10 => ?_))
  refine e_icmp_eq (tgt := 1284) C dL_law_1010 (by decide) (fun q9 => ?_) (fun q9 => ?_)
  · replace h10 := ite_t h10 q9
    exact hK _ h10 _ _ (by omega) (by omega)
  · replace h10 := ite_f h10 q9
    refine e_iconst (v := 0) C dL_law_1013 (by decide) ?_
    exact h10.elim
set_option maxHeartbeats 4000000 in
set_option maxRecDepth 100000 in
theorem w_L_law_J1015 {p : Program} {l : Launch} {e : Env} {s : State} {m : MethodId} {below : List Frame} {meth : Method} {c : Code} {g : Geo} {b L : Nat} {xs : Nat → Int32} (C : Cx p s m #[Value.ref b] c cL_law RL 4 g) (X : XC g s b L xs) (hr : meth.sig.returnType = ret) (hlk : meth.locks = false) {v1 : Nat} {v2 : Nat} {v3 : Int32} {M : Mem} {k n kb nb : Nat} {K : Mem → Prop} (hK : ∀ M', K M' → ∀ k' n', k' ≤ kb → n' ≤ nb → E p l e room_1 s m #[Value.ref b] below meth c g 4 (lw_Z below #[Value.ref b] s) k' n' 1284 [(0, .retAddr 16), (1, .ref v1), (2, .ref v2), (3, .int v3)] [] M') (hk : k + 3 ≤ kb ∧ n + 35 ≤ nb ∧ kb ≤ 600000 ∧ nb ≤ 7302250) (h : f_L_law_J1015 v1 v2 v3 M xs L K) : E p l e room_1 s m #[Value.ref b] below meth c g 4 (lw_Z below #[Value.ref b] s) k n 1015 [(0, .retAddr 16), (1, .ref v1), (2, .ref v2), (3, .int v3)] [] M := by
  unfold f_L_law_J1015 at h
  obtain ⟨hk1, hk2, hk3, hk4⟩ := hk
  refine e_aload_n C 1 dL_law_1015 rfl rfl ?_
  refine e_sload_n C 0 dL_law_1016 rfl rfl ?_
  refine e_iload_n C 3 dL_law_1017 rfl rfl ?_
  refine e_iconst (v := 1) C dL_law_1018 (by decide) ?_
  refine e_iadd C dL_law_1019 ?_
  obtain ⟨o1, h⟩ := h
  refine e_xld C X o1 dL_law_1020 ?_
  refine e_sload_n C 0 dL_law_1021 rfl rfl ?_
  refine e_iload_n C 3 dL_law_1022 rfl rfl ?_
  refine e_iconst (v := 2) C dL_law_1023 (by decide) ?_
  refine e_iadd C dL_law_1024 ?_
  obtain ⟨o2, h⟩ := h
  refine e_xld C X o2 dL_law_1025 ?_
  obtain ⟨o5, h⟩ := h
  refine e_callV (as := [.int (xs ((v3 + (1 : Int32))).toNatClampNeg), .int (xs ((v3 + (2 : Int32))).toNatClampNeg)]) C wb_X11_taken wv_L_123 (ci := 11) rfl rfl (isO_1 o5) (m_X11_taken h) rfl ⟨Nat.le_of_ble_eq_true rfl, Nat.le_of_ble_eq_true rfl⟩ ⟨by show _ ≤ 600000; omega, by show _ ≤ 7302250; omega⟩ (by first | exact Nat.le_of_ble_eq_true rfl | (simp only [List.map_cons, List.map_nil, va_cat, List.sum_cons, List.sum_nil]; exact Nat.le_of_ble_eq_true rfl)) dL_law_1026 (kI (fun w3 M4 h13 => ?_))
  refine e_aload_n C 2 dL_law_1029 rfl rfl ?_
  refine e_sload_n C 0 dL_law_1030 rfl rfl ?_
  refine e_iload_n C 3 dL_law_1031 rfl rfl ?_
  refine e_iconst (v := 1) C dL_law_1032 (by decide) ?_
  refine e_iadd C dL_law_1033 ?_
  obtain ⟨o6, h13⟩ := h13
  refine e_xld C X o6 dL_law_1034 ?_
  refine e_sload_n C 0 dL_law_1035 rfl rfl ?_
  refine e_iload_n C 3 dL_law_1036 rfl rfl ?_
  refine e_iconst (v := 2) C dL_law_1037 (by decide) ?_
  refine e_iadd C dL_law_1038 ?_
  obtain ⟨o7, h13⟩ := h13
  refine e_xld C X o7 dL_law_1039 ?_
  obtain ⟨o10, h13⟩ := h13
  refine e_callV (as := [.int (xs ((v3 + (1 : Int32))).toNatClampNeg), .int (xs ((v3 + (2 : Int32))).toNatClampNeg)]) C wb_X12_taken wv_L_126 (ci := 12) rfl rfl (isO_1 o10) (m_X12_taken h13) rfl ⟨Nat.le_of_ble_eq_true rfl, Nat.le_of_ble_eq_true rfl⟩ ⟨by show _ ≤ 600000; omega, by show _ ≤ 7302250; omega⟩ (by first | exact Nat.le_of_ble_eq_true rfl | (simp only [List.map_cons, List.map_nil, va_cat, List.sum_cons, List.sum_nil]; exact Nat.le_of_ble_eq_true rfl)) dL_law_1040 (kI (fun w8 M9 h12 => ?_))
  refine e_icmp_eq (tgt := 1284) C dL_law_1043 (by decide) (fun q11 => ?_) (fun q11 => ?_)
  · replace h12 := ite_t h12 q11
    exact hK _ h12 _ _ (by omega) (by omega)
  · replace h12 := ite_f h12 q11
    refine e_iconst (v := 0) C dL_law_1046 (by decide) ?_
    exact h12.elim
set_option maxHeartbeats 4000000 in
set_option maxRecDepth 100000 in
theorem w_L_law_J1048 {p : Program} {l : Launch} {e : Env} {s : State} {m : MethodId} {below : List Frame} {meth : Method} {c : Code} {g : Geo} {b L : Nat} {xs : Nat → Int32} (C : Cx p s m #[Value.ref b] c cL_law RL 4 g) (X : XC g s b L xs) (hr : meth.sig.returnType = ret) (hlk : meth.locks = false) {v1 : Nat} {v2 : Nat} {v3 : Int32} {M : Mem} {k n kb nb : Nat} {K : Mem → Prop} (hK : ∀ M', K M' → ∀ k' n', k' ≤ kb → n' ≤ nb → E p l e room_1 s m #[Value.ref b] below meth c g 4 (lw_Z below #[Value.ref b] s) k' n' 1284 [(0, .retAddr 16), (1, .ref v1), (2, .ref v2), (3, .int v3)] [] M') (hk : k + 3 ≤ kb ∧ n + 35 ≤ nb ∧ kb ≤ 600000 ∧ nb ≤ 7302250) (h : f_L_law_J1048 v1 v2 v3 M xs L K) : E p l e room_1 s m #[Value.ref b] below meth c g 4 (lw_Z below #[Value.ref b] s) k n 1048 [(0, .retAddr 16), (1, .ref v1), (2, .ref v2), (3, .int v3)] [] M := by
  unfold f_L_law_J1048 at h
  obtain ⟨hk1, hk2, hk3, hk4⟩ := hk
  refine e_aload_n C 1 dL_law_1048 rfl rfl ?_
  refine e_sload_n C 0 dL_law_1049 rfl rfl ?_
  refine e_iload_n C 3 dL_law_1050 rfl rfl ?_
  refine e_iconst (v := 1) C dL_law_1051 (by decide) ?_
  refine e_iadd C dL_law_1052 ?_
  obtain ⟨o1, h⟩ := h
  refine e_xld C X o1 dL_law_1053 ?_
  obtain ⟨o4, h⟩ := h
  refine e_callV (as := [.int (xs ((v3 + (1 : Int32))).toNatClampNeg)]) C wb_X11_count wv_L_127 (ci := 11) rfl rfl (isO_1 o4) (m_X11_count h) rfl ⟨Nat.le_of_ble_eq_true rfl, Nat.le_of_ble_eq_true rfl⟩ ⟨by show _ ≤ 600000; omega, by show _ ≤ 7302250; omega⟩ (by first | exact Nat.le_of_ble_eq_true rfl | (simp only [List.map_cons, List.map_nil, va_cat, List.sum_cons, List.sum_nil]; exact Nat.le_of_ble_eq_true rfl)) dL_law_1054 (kI (fun w2 M3 h11 => ?_))
  refine e_aload_n C 2 dL_law_1057 rfl rfl ?_
  refine e_sload_n C 0 dL_law_1058 rfl rfl ?_
  refine e_iload_n C 3 dL_law_1059 rfl rfl ?_
  refine e_iconst (v := 1) C dL_law_1060 (by decide) ?_
  refine e_iadd C dL_law_1061 ?_
  obtain ⟨o5, h11⟩ := h11
  refine e_xld C X o5 dL_law_1062 ?_
  obtain ⟨o8, h11⟩ := h11
  refine e_callV (as := [.int (xs ((v3 + (1 : Int32))).toNatClampNeg)]) C wb_X12_count wv_L_130 (ci := 12) rfl rfl (isO_1 o8) (m_X12_count h11) rfl ⟨Nat.le_of_ble_eq_true rfl, Nat.le_of_ble_eq_true rfl⟩ ⟨by show _ ≤ 600000; omega, by show _ ≤ 7302250; omega⟩ (by first | exact Nat.le_of_ble_eq_true rfl | (simp only [List.map_cons, List.map_nil, va_cat, List.sum_cons, List.sum_nil]; exact Nat.le_of_ble_eq_true rfl)) dL_law_1063 (kI (fun w6 M7 h10 => ?_))
  refine e_icmp_eq (tgt := 1284) C dL_law_1066 (by decide) (fun q9 => ?_) (fun q9 => ?_)
  · replace h10 := ite_t h10 q9
    exact hK _ h10 _ _ (by omega) (by omega)
  · replace h10 := ite_f h10 q9
    refine e_iconst (v := 0) C dL_law_1069 (by decide) ?_
    exact h10.elim
set_option maxHeartbeats 4000000 in
set_option maxRecDepth 100000 in
theorem w_L_law_J1071 {p : Program} {l : Launch} {e : Env} {s : State} {m : MethodId} {below : List Frame} {meth : Method} {c : Code} {g : Geo} {b L : Nat} {xs : Nat → Int32} (C : Cx p s m #[Value.ref b] c cL_law RL 4 g) (X : XC g s b L xs) (hr : meth.sig.returnType = ret) (hlk : meth.locks = false) {v1 : Nat} {v2 : Nat} {v3 : Int32} {M : Mem} {k n kb nb : Nat} {K : Mem → Prop} (hK : ∀ M', K M' → ∀ k' n', k' ≤ kb → n' ≤ nb → E p l e room_1 s m #[Value.ref b] below meth c g 4 (lw_Z below #[Value.ref b] s) k' n' 1284 [(0, .retAddr 16), (1, .ref v1), (2, .ref v2), (3, .int v3)] [] M') (hk : k + 3 ≤ kb ∧ n + 35 ≤ nb ∧ kb ≤ 600000 ∧ nb ≤ 7302250) (h : f_L_law_J1071 v1 v2 v3 M xs L K) : E p l e room_1 s m #[Value.ref b] below meth c g 4 (lw_Z below #[Value.ref b] s) k n 1071 [(0, .retAddr 16), (1, .ref v1), (2, .ref v2), (3, .int v3)] [] M := by
  unfold f_L_law_J1071 at h
  obtain ⟨hk1, hk2, hk3, hk4⟩ := hk
  refine e_aload_n C 1 dL_law_1071 rfl rfl ?_
  refine e_sload_n C 0 dL_law_1072 rfl rfl ?_
  refine e_iload_n C 3 dL_law_1073 rfl rfl ?_
  refine e_iconst (v := 1) C dL_law_1074 (by decide) ?_
  refine e_iadd C dL_law_1075 ?_
  obtain ⟨o1, h⟩ := h
  refine e_xld C X o1 dL_law_1076 ?_
  refine e_sload_n C 0 dL_law_1077 rfl rfl ?_
  refine e_iload_n C 3 dL_law_1078 rfl rfl ?_
  refine e_iconst (v := 2) C dL_law_1079 (by decide) ?_
  refine e_iadd C dL_law_1080 ?_
  obtain ⟨o2, h⟩ := h
  refine e_xld C X o2 dL_law_1081 ?_
  refine e_sload_n C 0 dL_law_1082 rfl rfl ?_
  refine e_iload_n C 3 dL_law_1083 rfl rfl ?_
  refine e_iconst (v := 3) C dL_law_1084 (by decide) ?_
  refine e_iadd C dL_law_1085 ?_
  obtain ⟨o3, h⟩ := h
  refine e_xld C X o3 dL_law_1086 ?_
  obtain ⟨o6, h⟩ := h
  refine e_callV (as := [.int (xs ((v3 + (1 : Int32))).toNatClampNeg), .int (xs ((v3 + (2 : Int32))).toNatClampNeg), .int (xs ((v3 + (3 : Int32))).toNatClampNeg)]) C wb_X11_tape wv_L_131 (ci := 11) rfl rfl (isO_1 o6) (m_X11_tape h) rfl ⟨Nat.le_of_ble_eq_true rfl, Nat.le_of_ble_eq_true rfl⟩ ⟨by show _ ≤ 600000; omega, by show _ ≤ 7302250; omega⟩ (by first | exact Nat.le_of_ble_eq_true rfl | (simp only [List.map_cons, List.map_nil, va_cat, List.sum_cons, List.sum_nil]; exact Nat.le_of_ble_eq_true rfl)) dL_law_1087 (kI (fun w4 M5 h15 => ?_))
  refine e_aload_n C 2 dL_law_1090 rfl rfl ?_
  refine e_sload_n C 0 dL_law_1091 rfl rfl ?_
  refine e_iload_n C 3 dL_law_1092 rfl rfl ?_
  refine e_iconst (v := 1) C dL_law_1093 (by decide) ?_
  refine e_iadd C dL_law_1094 ?_
  obtain ⟨o7, h15⟩ := h15
  refine e_xld C X o7 dL_law_1095 ?_
  refine e_sload_n C 0 dL_law_1096 rfl rfl ?_
  refine e_iload_n C 3 dL_law_1097 rfl rfl ?_
  refine e_iconst (v := 2) C dL_law_1098 (by decide) ?_
  refine e_iadd C dL_law_1099 ?_
  obtain ⟨o8, h15⟩ := h15
  refine e_xld C X o8 dL_law_1100 ?_
  refine e_sload_n C 0 dL_law_1101 rfl rfl ?_
  refine e_iload_n C 3 dL_law_1102 rfl rfl ?_
  refine e_iconst (v := 3) C dL_law_1103 (by decide) ?_
  refine e_iadd C dL_law_1104 ?_
  obtain ⟨o9, h15⟩ := h15
  refine e_xld C X o9 dL_law_1105 ?_
  obtain ⟨o12, h15⟩ := h15
  refine e_callV (as := [.int (xs ((v3 + (1 : Int32))).toNatClampNeg), .int (xs ((v3 + (2 : Int32))).toNatClampNeg), .int (xs ((v3 + (3 : Int32))).toNatClampNeg)]) C wb_X12_tape wv_L_134 (ci := 12) rfl rfl (isO_1 o12) (m_X12_tape h15) rfl ⟨Nat.le_of_ble_eq_true rfl, Nat.le_of_ble_eq_true rfl⟩ ⟨by show _ ≤ 600000; omega, by show _ ≤ 7302250; omega⟩ (by first | exact Nat.le_of_ble_eq_true rfl | (simp only [List.map_cons, List.map_nil, va_cat, List.sum_cons, List.sum_nil]; exact Nat.le_of_ble_eq_true rfl)) dL_law_1106 (kI (fun w10 M11 h14 => ?_))
  refine e_icmp_eq (tgt := 1284) C dL_law_1109 (by decide) (fun q13 => ?_) (fun q13 => ?_)
  · replace h14 := ite_t h14 q13
    exact hK _ h14 _ _ (by omega) (by omega)
  · replace h14 := ite_f h14 q13
    refine e_iconst (v := 0) C dL_law_1112 (by decide) ?_
    exact h14.elim
set_option maxHeartbeats 4000000 in
set_option maxRecDepth 100000 in
theorem w_L_law_J1114 {p : Program} {l : Launch} {e : Env} {s : State} {m : MethodId} {below : List Frame} {meth : Method} {c : Code} {g : Geo} {b L : Nat} {xs : Nat → Int32} (C : Cx p s m #[Value.ref b] c cL_law RL 4 g) (X : XC g s b L xs) (hr : meth.sig.returnType = ret) (hlk : meth.locks = false) {v1 : Nat} {v2 : Nat} {v3 : Int32} {M : Mem} {k n kb nb : Nat} {K : Mem → Prop} (hK : ∀ M', K M' → ∀ k' n', k' ≤ kb → n' ≤ nb → E p l e room_1 s m #[Value.ref b] below meth c g 4 (lw_Z below #[Value.ref b] s) k' n' 1284 [(0, .retAddr 16), (1, .ref v1), (2, .ref v2), (3, .int v3)] [] M') (hk : k + 3 ≤ kb ∧ n + 35 ≤ nb ∧ kb ≤ 600000 ∧ nb ≤ 7302250) (h : f_L_law_J1114 v1 v2 v3 M xs L K) : E p l e room_1 s m #[Value.ref b] below meth c g 4 (lw_Z below #[Value.ref b] s) k n 1114 [(0, .retAddr 16), (1, .ref v1), (2, .ref v2), (3, .int v3)] [] M := by
  unfold f_L_law_J1114 at h
  obtain ⟨hk1, hk2, hk3, hk4⟩ := hk
  refine e_aload_n C 1 dL_law_1114 rfl rfl ?_
  refine e_sload_n C 0 dL_law_1115 rfl rfl ?_
  refine e_iload_n C 3 dL_law_1116 rfl rfl ?_
  refine e_iconst (v := 1) C dL_law_1117 (by decide) ?_
  refine e_iadd C dL_law_1118 ?_
  obtain ⟨o1, h⟩ := h
  refine e_xld C X o1 dL_law_1119 ?_
  refine e_sload_n C 0 dL_law_1120 rfl rfl ?_
  refine e_iload_n C 3 dL_law_1121 rfl rfl ?_
  refine e_iconst (v := 2) C dL_law_1122 (by decide) ?_
  refine e_iadd C dL_law_1123 ?_
  obtain ⟨o2, h⟩ := h
  refine e_xld C X o2 dL_law_1124 ?_
  refine e_sload_n C 0 dL_law_1125 rfl rfl ?_
  refine e_iload_n C 3 dL_law_1126 rfl rfl ?_
  refine e_iconst (v := 3) C dL_law_1127 (by decide) ?_
  refine e_iadd C dL_law_1128 ?_
  obtain ⟨o3, h⟩ := h
  refine e_xld C X o3 dL_law_1129 ?_
  refine e_i2l C dL_law_1130 ?_
  refine e_bipush (v := 32) C dL_law_1131 (by decide) ?_
  refine e_lshl C dL_law_1133 ?_
  refine e_sload_n C 0 dL_law_1134 rfl rfl ?_
  refine e_iload_n C 3 dL_law_1135 rfl rfl ?_
  refine e_iconst (v := 4) C dL_law_1136 (by decide) ?_
  refine e_iadd C dL_law_1137 ?_
  obtain ⟨o4, h⟩ := h
  refine e_xld C X o4 dL_law_1138 ?_
  refine e_i2l C dL_law_1139 ?_
  refine e_ldc2 (v := 4294967295) C wd_1513 dL_law_1140 ?_
  refine e_land C dL_law_1143 ?_
  refine e_lor C dL_law_1144 ?_
  obtain ⟨o7, h⟩ := h
  refine e_callV (as := [.int (xs ((v3 + (1 : Int32))).toNatClampNeg), .int (xs ((v3 + (2 : Int32))).toNatClampNeg), .long (((((xs ((v3 + (3 : Int32))).toNatClampNeg)).toInt64) <<< (((32 : Int32)).toInt64 &&& 63)) ||| ((((xs ((v3 + (4 : Int32))).toNatClampNeg)).toInt64) &&& (4294967295 : Int64)))]) C wb_X11_item wv_L_137 (ci := 11) rfl rfl (isO_1 o7) (m_X11_item h) rfl ⟨Nat.le_of_ble_eq_true rfl, Nat.le_of_ble_eq_true rfl⟩ ⟨by show _ ≤ 600000; omega, by show _ ≤ 7302250; omega⟩ (by first | exact Nat.le_of_ble_eq_true rfl | (simp only [List.map_cons, List.map_nil, va_cat, List.sum_cons, List.sum_nil]; exact Nat.le_of_ble_eq_true rfl)) dL_law_1145 (kI (fun w5 M6 h17 => ?_))
  refine e_aload_n C 2 dL_law_1148 rfl rfl ?_
  refine e_sload_n C 0 dL_law_1149 rfl rfl ?_
  refine e_iload_n C 3 dL_law_1150 rfl rfl ?_
  refine e_iconst (v := 1) C dL_law_1151 (by decide) ?_
  refine e_iadd C dL_law_1152 ?_
  obtain ⟨o8, h17⟩ := h17
  refine e_xld C X o8 dL_law_1153 ?_
  refine e_sload_n C 0 dL_law_1154 rfl rfl ?_
  refine e_iload_n C 3 dL_law_1155 rfl rfl ?_
  refine e_iconst (v := 2) C dL_law_1156 (by decide) ?_
  refine e_iadd C dL_law_1157 ?_
  obtain ⟨o9, h17⟩ := h17
  refine e_xld C X o9 dL_law_1158 ?_
  refine e_sload_n C 0 dL_law_1159 rfl rfl ?_
  refine e_iload_n C 3 dL_law_1160 rfl rfl ?_
  refine e_iconst (v := 3) C dL_law_1161 (by decide) ?_
  refine e_iadd C dL_law_1162 ?_
  obtain ⟨o10, h17⟩ := h17
  refine e_xld C X o10 dL_law_1163 ?_
  refine e_i2l C dL_law_1164 ?_
  refine e_bipush (v := 32) C dL_law_1165 (by decide) ?_
  refine e_lshl C dL_law_1167 ?_
  refine e_sload_n C 0 dL_law_1168 rfl rfl ?_
  refine e_iload_n C 3 dL_law_1169 rfl rfl ?_
  refine e_iconst (v := 4) C dL_law_1170 (by decide) ?_
  refine e_iadd C dL_law_1171 ?_
  obtain ⟨o11, h17⟩ := h17
  refine e_xld C X o11 dL_law_1172 ?_
  refine e_i2l C dL_law_1173 ?_
  refine e_ldc2 (v := 4294967295) C wd_1513 dL_law_1174 ?_
  refine e_land C dL_law_1177 ?_
  refine e_lor C dL_law_1178 ?_
  obtain ⟨o14, h17⟩ := h17
  refine e_callV (as := [.int (xs ((v3 + (1 : Int32))).toNatClampNeg), .int (xs ((v3 + (2 : Int32))).toNatClampNeg), .long (((((xs ((v3 + (3 : Int32))).toNatClampNeg)).toInt64) <<< (((32 : Int32)).toInt64 &&& 63)) ||| ((((xs ((v3 + (4 : Int32))).toNatClampNeg)).toInt64) &&& (4294967295 : Int64)))]) C wb_X12_item wv_L_141 (ci := 12) rfl rfl (isO_1 o14) (m_X12_item h17) rfl ⟨Nat.le_of_ble_eq_true rfl, Nat.le_of_ble_eq_true rfl⟩ ⟨by show _ ≤ 600000; omega, by show _ ≤ 7302250; omega⟩ (by first | exact Nat.le_of_ble_eq_true rfl | (simp only [List.map_cons, List.map_nil, va_cat, List.sum_cons, List.sum_nil]; exact Nat.le_of_ble_eq_true rfl)) dL_law_1179 (kI (fun w12 M13 h16 => ?_))
  refine e_icmp_eq (tgt := 1284) C dL_law_1182 (by decide) (fun q15 => ?_) (fun q15 => ?_)
  · replace h16 := ite_t h16 q15
    exact hK _ h16 _ _ (by omega) (by omega)
  · replace h16 := ite_f h16 q15
    refine e_iconst (v := 0) C dL_law_1185 (by decide) ?_
    exact h16.elim
set_option maxHeartbeats 4000000 in
set_option maxRecDepth 100000 in
theorem w_L_law_J1187 {p : Program} {l : Launch} {e : Env} {s : State} {m : MethodId} {below : List Frame} {meth : Method} {c : Code} {g : Geo} {b L : Nat} {xs : Nat → Int32} (C : Cx p s m #[Value.ref b] c cL_law RL 4 g) (X : XC g s b L xs) (hr : meth.sig.returnType = ret) (hlk : meth.locks = false) {v1 : Nat} {v2 : Nat} {v3 : Int32} {M : Mem} {k n kb nb : Nat} {K : Mem → Prop} (hK : ∀ M', K M' → ∀ k' n', k' ≤ kb → n' ≤ nb → E p l e room_1 s m #[Value.ref b] below meth c g 4 (lw_Z below #[Value.ref b] s) k' n' 1284 [(0, .retAddr 16), (1, .ref v1), (2, .ref v2), (3, .int v3)] [] M') (hk : k + 3 ≤ kb ∧ n + 35 ≤ nb ∧ kb ≤ 600000 ∧ nb ≤ 7302250) (h : f_L_law_J1187 v1 v2 v3 M xs L K) : E p l e room_1 s m #[Value.ref b] below meth c g 4 (lw_Z below #[Value.ref b] s) k n 1187 [(0, .retAddr 16), (1, .ref v1), (2, .ref v2), (3, .int v3)] [] M := by
  unfold f_L_law_J1187 at h
  obtain ⟨hk1, hk2, hk3, hk4⟩ := hk
  refine e_aload_n C 1 dL_law_1187 rfl rfl ?_
  refine e_sload_n C 0 dL_law_1188 rfl rfl ?_
  refine e_iload_n C 3 dL_law_1189 rfl rfl ?_
  refine e_iconst (v := 1) C dL_law_1190 (by decide) ?_
  refine e_iadd C dL_law_1191 ?_
  obtain ⟨o1, h⟩ := h
  refine e_xld C X o1 dL_law_1192 ?_
  refine e_sload_n C 0 dL_law_1193 rfl rfl ?_
  refine e_iload_n C 3 dL_law_1194 rfl rfl ?_
  refine e_iconst (v := 2) C dL_law_1195 (by decide) ?_
  refine e_iadd C dL_law_1196 ?_
  obtain ⟨o2, h⟩ := h
  refine e_xld C X o2 dL_law_1197 ?_
  obtain ⟨o5, h⟩ := h
  refine e_callV (as := [.int (xs ((v3 + (1 : Int32))).toNatClampNeg), .int (xs ((v3 + (2 : Int32))).toNatClampNeg)]) C wb_X11_read wv_L_142 (ci := 11) rfl rfl (isO_1 o5) (m_X11_read h) rfl ⟨Nat.le_of_ble_eq_true rfl, Nat.le_of_ble_eq_true rfl⟩ ⟨by show _ ≤ 600000; omega, by show _ ≤ 7302250; omega⟩ (by first | exact Nat.le_of_ble_eq_true rfl | (simp only [List.map_cons, List.map_nil, va_cat, List.sum_cons, List.sum_nil]; exact Nat.le_of_ble_eq_true rfl)) dL_law_1198 (kJ (fun w3 M4 h13 => ?_))
  refine e_aload_n C 2 dL_law_1201 rfl rfl ?_
  refine e_sload_n C 0 dL_law_1202 rfl rfl ?_
  refine e_iload_n C 3 dL_law_1203 rfl rfl ?_
  refine e_iconst (v := 1) C dL_law_1204 (by decide) ?_
  refine e_iadd C dL_law_1205 ?_
  obtain ⟨o6, h13⟩ := h13
  refine e_xld C X o6 dL_law_1206 ?_
  refine e_sload_n C 0 dL_law_1207 rfl rfl ?_
  refine e_iload_n C 3 dL_law_1208 rfl rfl ?_
  refine e_iconst (v := 2) C dL_law_1209 (by decide) ?_
  refine e_iadd C dL_law_1210 ?_
  obtain ⟨o7, h13⟩ := h13
  refine e_xld C X o7 dL_law_1211 ?_
  obtain ⟨o10, h13⟩ := h13
  refine e_callV (as := [.int (xs ((v3 + (1 : Int32))).toNatClampNeg), .int (xs ((v3 + (2 : Int32))).toNatClampNeg)]) C wb_X12_read wv_L_145 (ci := 12) rfl rfl (isO_1 o10) (m_X12_read h13) rfl ⟨Nat.le_of_ble_eq_true rfl, Nat.le_of_ble_eq_true rfl⟩ ⟨by show _ ≤ 600000; omega, by show _ ≤ 7302250; omega⟩ (by first | exact Nat.le_of_ble_eq_true rfl | (simp only [List.map_cons, List.map_nil, va_cat, List.sum_cons, List.sum_nil]; exact Nat.le_of_ble_eq_true rfl)) dL_law_1212 (kJ (fun w8 M9 h12 => ?_))
  refine e_lcmp C dL_law_1215 ?_
  refine e_if_eq (tgt := 1284) C dL_law_1216 (by decide) (fun q11 => ?_) (fun q11 => ?_)
  · replace h12 := ite_t h12 q11
    exact hK _ h12 _ _ (by omega) (by omega)
  · replace h12 := ite_f h12 q11
    refine e_iconst (v := 0) C dL_law_1219 (by decide) ?_
    exact h12.elim
set_option maxHeartbeats 4000000 in
set_option maxRecDepth 100000 in
theorem w_L_law_J1221 {p : Program} {l : Launch} {e : Env} {s : State} {m : MethodId} {below : List Frame} {meth : Method} {c : Code} {g : Geo} {b L : Nat} {xs : Nat → Int32} (C : Cx p s m #[Value.ref b] c cL_law RL 4 g) (X : XC g s b L xs) (hr : meth.sig.returnType = ret) (hlk : meth.locks = false) {v1 : Nat} {v2 : Nat} {v3 : Int32} {M : Mem} {k n kb nb : Nat} {K : Mem → Prop} (hK : ∀ M', K M' → ∀ k' n', k' ≤ kb → n' ≤ nb → E p l e room_1 s m #[Value.ref b] below meth c g 4 (lw_Z below #[Value.ref b] s) k' n' 1284 [(0, .retAddr 16), (1, .ref v1), (2, .ref v2), (3, .int v3)] [] M') (hk : k + 3 ≤ kb ∧ n + 35 ≤ nb ∧ kb ≤ 600000 ∧ nb ≤ 7302250) (h : f_L_law_J1221 v1 v2 v3 M xs L K) : E p l e room_1 s m #[Value.ref b] below meth c g 4 (lw_Z below #[Value.ref b] s) k n 1221 [(0, .retAddr 16), (1, .ref v1), (2, .ref v2), (3, .int v3)] [] M := by
  unfold f_L_law_J1221 at h
  obtain ⟨hk1, hk2, hk3, hk4⟩ := hk
  refine e_aload_n C 1 dL_law_1221 rfl rfl ?_
  refine e_sload_n C 0 dL_law_1222 rfl rfl ?_
  refine e_iload_n C 3 dL_law_1223 rfl rfl ?_
  refine e_iconst (v := 1) C dL_law_1224 (by decide) ?_
  refine e_iadd C dL_law_1225 ?_
  obtain ⟨o1, h⟩ := h
  refine e_xld C X o1 dL_law_1226 ?_
  refine e_sload_n C 0 dL_law_1227 rfl rfl ?_
  refine e_iload_n C 3 dL_law_1228 rfl rfl ?_
  refine e_iconst (v := 2) C dL_law_1229 (by decide) ?_
  refine e_iadd C dL_law_1230 ?_
  obtain ⟨o2, h⟩ := h
  refine e_xld C X o2 dL_law_1231 ?_
  refine e_sload_n C 0 dL_law_1232 rfl rfl ?_
  refine e_iload_n C 3 dL_law_1233 rfl rfl ?_
  refine e_iconst (v := 3) C dL_law_1234 (by decide) ?_
  refine e_iadd C dL_law_1235 ?_
  obtain ⟨o3, h⟩ := h
  refine e_xld C X o3 dL_law_1236 ?_
  refine e_sload_n C 0 dL_law_1237 rfl rfl ?_
  refine e_iload_n C 3 dL_law_1238 rfl rfl ?_
  refine e_iconst (v := 4) C dL_law_1239 (by decide) ?_
  refine e_iadd C dL_law_1240 ?_
  obtain ⟨o4, h⟩ := h
  refine e_xld C X o4 dL_law_1241 ?_
  refine e_sload_n C 0 dL_law_1242 rfl rfl ?_
  refine e_iload_n C 3 dL_law_1243 rfl rfl ?_
  refine e_iconst (v := 5) C dL_law_1244 (by decide) ?_
  refine e_iadd C dL_law_1245 ?_
  obtain ⟨o5, h⟩ := h
  refine e_xld C X o5 dL_law_1246 ?_
  obtain ⟨o8, h⟩ := h
  refine e_callV (as := [.int (xs ((v3 + (1 : Int32))).toNatClampNeg), .int (xs ((v3 + (2 : Int32))).toNatClampNeg), .int (xs ((v3 + (3 : Int32))).toNatClampNeg), .int (xs ((v3 + (4 : Int32))).toNatClampNeg), .int (xs ((v3 + (5 : Int32))).toNatClampNeg)]) C wb_X11_shift wv_L_146 (ci := 11) rfl rfl (isO_1 o8) (m_X11_shift h) rfl ⟨Nat.le_of_ble_eq_true rfl, Nat.le_of_ble_eq_true rfl⟩ ⟨by show _ ≤ 600000; omega, by show _ ≤ 7302250; omega⟩ (by first | exact Nat.le_of_ble_eq_true rfl | (simp only [List.map_cons, List.map_nil, va_cat, List.sum_cons, List.sum_nil]; exact Nat.le_of_ble_eq_true rfl)) dL_law_1247 (kI (fun w6 M7 h19 => ?_))
  refine e_aload_n C 2 dL_law_1250 rfl rfl ?_
  refine e_sload_n C 0 dL_law_1251 rfl rfl ?_
  refine e_iload_n C 3 dL_law_1252 rfl rfl ?_
  refine e_iconst (v := 1) C dL_law_1253 (by decide) ?_
  refine e_iadd C dL_law_1254 ?_
  obtain ⟨o9, h19⟩ := h19
  refine e_xld C X o9 dL_law_1255 ?_
  refine e_sload_n C 0 dL_law_1256 rfl rfl ?_
  refine e_iload_n C 3 dL_law_1257 rfl rfl ?_
  refine e_iconst (v := 2) C dL_law_1258 (by decide) ?_
  refine e_iadd C dL_law_1259 ?_
  obtain ⟨o10, h19⟩ := h19
  refine e_xld C X o10 dL_law_1260 ?_
  refine e_sload_n C 0 dL_law_1261 rfl rfl ?_
  refine e_iload_n C 3 dL_law_1262 rfl rfl ?_
  refine e_iconst (v := 3) C dL_law_1263 (by decide) ?_
  refine e_iadd C dL_law_1264 ?_
  obtain ⟨o11, h19⟩ := h19
  refine e_xld C X o11 dL_law_1265 ?_
  refine e_sload_n C 0 dL_law_1266 rfl rfl ?_
  refine e_iload_n C 3 dL_law_1267 rfl rfl ?_
  refine e_iconst (v := 4) C dL_law_1268 (by decide) ?_
  refine e_iadd C dL_law_1269 ?_
  obtain ⟨o12, h19⟩ := h19
  refine e_xld C X o12 dL_law_1270 ?_
  refine e_sload_n C 0 dL_law_1271 rfl rfl ?_
  refine e_iload_n C 3 dL_law_1272 rfl rfl ?_
  refine e_iconst (v := 5) C dL_law_1273 (by decide) ?_
  refine e_iadd C dL_law_1274 ?_
  obtain ⟨o13, h19⟩ := h19
  refine e_xld C X o13 dL_law_1275 ?_
  obtain ⟨o16, h19⟩ := h19
  refine e_callV (as := [.int (xs ((v3 + (1 : Int32))).toNatClampNeg), .int (xs ((v3 + (2 : Int32))).toNatClampNeg), .int (xs ((v3 + (3 : Int32))).toNatClampNeg), .int (xs ((v3 + (4 : Int32))).toNatClampNeg), .int (xs ((v3 + (5 : Int32))).toNatClampNeg)]) C wb_X12_shift wv_L_150 (ci := 12) rfl rfl (isO_1 o16) (m_X12_shift h19) rfl ⟨Nat.le_of_ble_eq_true rfl, Nat.le_of_ble_eq_true rfl⟩ ⟨by show _ ≤ 600000; omega, by show _ ≤ 7302250; omega⟩ (by first | exact Nat.le_of_ble_eq_true rfl | (simp only [List.map_cons, List.map_nil, va_cat, List.sum_cons, List.sum_nil]; exact Nat.le_of_ble_eq_true rfl)) dL_law_1276 (kI (fun w14 M15 h18 => ?_))
  refine e_icmp_eq (tgt := 1284) C dL_law_1279 (by decide) (fun q17 => ?_) (fun q17 => ?_)
  · replace h18 := ite_t h18 q17
    exact hK _ h18 _ _ (by omega) (by omega)
  · replace h18 := ite_f h18 q17
    refine e_iconst (v := 0) C dL_law_1282 (by decide) ?_
    exact h18.elim
set_option maxHeartbeats 4000000 in
set_option maxRecDepth 100000 in
theorem w_L_law_J18 {p : Program} {l : Launch} {e : Env} {s : State} {m : MethodId} {below : List Frame} {meth : Method} {c : Code} {g : Geo} {b L : Nat} {xs : Nat → Int32} (C : Cx p s m #[Value.ref b] c cL_law RL 4 g) (X : XC g s b L xs) (hr : meth.sig.returnType = ret) (hlk : meth.locks = false) {v1 : Nat} {v2 : Nat} {v3 : Int32} {M : Mem} {k n kb nb : Nat} {K : Mem → Prop} (hK : ∀ M', K M' → ∀ k' n', k' ≤ kb → n' ≤ nb → E p l e room_1 s m #[Value.ref b] below meth c g 4 (lw_Z below #[Value.ref b] s) k' n' 1284 [(0, .retAddr 16), (1, .ref v1), (2, .ref v2), (3, .int v3)] [] M') (hk : k + 3 ≤ kb ∧ n + 35 ≤ nb ∧ kb ≤ 600000 ∧ nb ≤ 7302250) (h : f_L_law_J18 v1 v2 v3 M xs L K) : E p l e room_1 s m #[Value.ref b] below meth c g 4 (lw_Z below #[Value.ref b] s) k n 18 [(0, .retAddr 16), (1, .ref v1), (2, .ref v2), (3, .int v3)] [] M := by
  unfold f_L_law_J18 at h
  obtain ⟨hk1, hk2, hk3, hk4⟩ := hk
  refine e_iload_n C 3 dL_law_18 rfl rfl ?_
  refine e_sload_n C 0 dL_law_19 rfl rfl ?_
  refine e_xlen C X dL_law_20 ?_
  refine e_bipush (v := 6) C dL_law_21 (by decide) ?_
  refine e_isub C dL_law_23 ?_
  refine e_icmp_gt (tgt := 1290) C dL_law_24 (by decide) (fun q1 => ?_) (fun q1 => ?_)
  · replace h := ite_t h q1
    refine e_iconst (v := 1) C dL_law_1290 (by decide) ?_
    exact e_lwret C X hr hlk ⟨by show _ ≤ 600000; omega, by show _ ≤ 7302250; omega⟩ dL_law_1291
  · replace h := ite_f h q1
    refine e_sload_n C 0 dL_law_27 rfl rfl ?_
    refine e_iload_n C 3 dL_law_28 rfl rfl ?_
    obtain ⟨o2, h⟩ := h
    refine e_xld C X o2 dL_law_29 ?_
    refine e_bipush (v := 31) C dL_law_30 (by decide) ?_
    refine e_iand C dL_law_32 ?_
    by_cases q3 : ((xs (v3).toNatClampNeg) &&& (31 : Int32)) = 0
    · replace h := ite_t h q3
      refine e_tin (tgt := 176) C dL_law_33 (by rw [q3]; decide) (by rw [q3]; decide) (by rw [q3] <;> rfl) (by decide) ?_
      exact w_L_law_J176 C X hr hlk hK ⟨by omega, by omega, hk3, hk4⟩ h
    · replace h := ite_f h q3
      by_cases q4 : ((xs (v3).toNatClampNeg) &&& (31 : Int32)) = 1
      · replace h := ite_t h q4
        refine e_tin (tgt := 229) C dL_law_33 (by rw [q4]; decide) (by rw [q4]; decide) (by rw [q4] <;> rfl) (by decide) ?_
        exact w_L_law_J229 C X hr hlk hK ⟨by omega, by omega, hk3, hk4⟩ h
      · replace h := ite_f h q4
        by_cases q5 : ((xs (v3).toNatClampNeg) &&& (31 : Int32)) = 2
        · replace h := ite_t h q5
          refine e_tin (tgt := 262) C dL_law_33 (by rw [q5]; decide) (by rw [q5]; decide) (by rw [q5] <;> rfl) (by decide) ?_
          exact w_L_law_J262 C X hr hlk hK ⟨by omega, by omega, hk3, hk4⟩ h
        · replace h := ite_f h q5
          by_cases q6 : ((xs (v3).toNatClampNeg) &&& (31 : Int32)) = 3
          · replace h := ite_t h q6
            refine e_tin (tgt := 295) C dL_law_33 (by rw [q6]; decide) (by rw [q6]; decide) (by rw [q6] <;> rfl) (by decide) ?_
            exact w_L_law_J295 C X hr hlk hK ⟨by omega, by omega, hk3, hk4⟩ h
          · replace h := ite_f h q6
            by_cases q7 : ((xs (v3).toNatClampNeg) &&& (31 : Int32)) = 4
            · replace h := ite_t h q7
              refine e_tin (tgt := 328) C dL_law_33 (by rw [q7]; decide) (by rw [q7]; decide) (by rw [q7] <;> rfl) (by decide) ?_
              exact w_L_law_J328 C X hr hlk hK ⟨by omega, by omega, hk3, hk4⟩ h
            · replace h := ite_f h q7
              by_cases q8 : ((xs (v3).toNatClampNeg) &&& (31 : Int32)) = 5
              · replace h := ite_t h q8
                refine e_tin (tgt := 341) C dL_law_33 (by rw [q8]; decide) (by rw [q8]; decide) (by rw [q8] <;> rfl) (by decide) ?_
                exact w_L_law_J341 C X hr hlk hK ⟨by omega, by omega, hk3, hk4⟩ h
              · replace h := ite_f h q8
                by_cases q9 : ((xs (v3).toNatClampNeg) &&& (31 : Int32)) = 6
                · replace h := ite_t h q9
                  refine e_tin (tgt := 364) C dL_law_33 (by rw [q9]; decide) (by rw [q9]; decide) (by rw [q9] <;> rfl) (by decide) ?_
                  exact w_L_law_J364 C X hr hlk hK ⟨by omega, by omega, hk3, hk4⟩ h
                · replace h := ite_f h q9
                  by_cases q10 : ((xs (v3).toNatClampNeg) &&& (31 : Int32)) = 7
                  · replace h := ite_t h q10
                    refine e_tin (tgt := 397) C dL_law_33 (by rw [q10]; decide) (by rw [q10]; decide) (by rw [q10] <;> rfl) (by decide) ?_
                    exact w_L_law_J397 C X hr hlk hK ⟨by omega, by omega, hk3, hk4⟩ h
                  · replace h := ite_f h q10
                    by_cases q11 : ((xs (v3).toNatClampNeg) &&& (31 : Int32)) = 8
                    · replace h := ite_t h q11
                      refine e_tin (tgt := 410) C dL_law_33 (by rw [q11]; decide) (by rw [q11]; decide) (by rw [q11] <;> rfl) (by decide) ?_
                      exact w_L_law_J410 C X hr hlk hK ⟨by omega, by omega, hk3, hk4⟩ h
                    · replace h := ite_f h q11
                      by_cases q12 : ((xs (v3).toNatClampNeg) &&& (31 : Int32)) = 9
                      · replace h := ite_t h q12
                        refine e_tin (tgt := 443) C dL_law_33 (by rw [q12]; decide) (by rw [q12]; decide) (by rw [q12] <;> rfl) (by decide) ?_
                        exact w_L_law_J443 C X hr hlk hK ⟨by omega, by omega, hk3, hk4⟩ h
                      · replace h := ite_f h q12
                        by_cases q13 : ((xs (v3).toNatClampNeg) &&& (31 : Int32)) = 10
                        · replace h := ite_t h q13
                          refine e_tin (tgt := 486) C dL_law_33 (by rw [q13]; decide) (by rw [q13]; decide) (by rw [q13] <;> rfl) (by decide) ?_
                          exact w_L_law_J486 C X hr hlk hK ⟨by omega, by omega, hk3, hk4⟩ h
                        · replace h := ite_f h q13
                          by_cases q14 : ((xs (v3).toNatClampNeg) &&& (31 : Int32)) = 11
                          · replace h := ite_t h q14
                            refine e_tin (tgt := 529) C dL_law_33 (by rw [q14]; decide) (by rw [q14]; decide) (by rw [q14] <;> rfl) (by decide) ?_
                            exact w_L_law_J529 C X hr hlk hK ⟨by omega, by omega, hk3, hk4⟩ h
                          · replace h := ite_f h q14
                            by_cases q15 : ((xs (v3).toNatClampNeg) &&& (31 : Int32)) = 12
                            · replace h := ite_t h q15
                              refine e_tin (tgt := 572) C dL_law_33 (by rw [q15]; decide) (by rw [q15]; decide) (by rw [q15] <;> rfl) (by decide) ?_
                              exact w_L_law_J572 C X hr hlk hK ⟨by omega, by omega, hk3, hk4⟩ h
                            · replace h := ite_f h q15
                              by_cases q16 : ((xs (v3).toNatClampNeg) &&& (31 : Int32)) = 13
                              · replace h := ite_t h q16
                                refine e_tin (tgt := 605) C dL_law_33 (by rw [q16]; decide) (by rw [q16]; decide) (by rw [q16] <;> rfl) (by decide) ?_
                                exact w_L_law_J605 C X hr hlk hK ⟨by omega, by omega, hk3, hk4⟩ h
                              · replace h := ite_f h q16
                                by_cases q17 : ((xs (v3).toNatClampNeg) &&& (31 : Int32)) = 14
                                · replace h := ite_t h q17
                                  refine e_tin (tgt := 648) C dL_law_33 (by rw [q17]; decide) (by rw [q17]; decide) (by rw [q17] <;> rfl) (by decide) ?_
                                  exact w_L_law_J648 C X hr hlk hK ⟨by omega, by omega, hk3, hk4⟩ h
                                · replace h := ite_f h q17
                                  by_cases q18 : ((xs (v3).toNatClampNeg) &&& (31 : Int32)) = 15
                                  · replace h := ite_t h q18
                                    refine e_tin (tgt := 681) C dL_law_33 (by rw [q18]; decide) (by rw [q18]; decide) (by rw [q18] <;> rfl) (by decide) ?_
                                    exact w_L_law_J681 C X hr hlk hK ⟨by omega, by omega, hk3, hk4⟩ h
                                  · replace h := ite_f h q18
                                    by_cases q19 : ((xs (v3).toNatClampNeg) &&& (31 : Int32)) = 16
                                    · replace h := ite_t h q19
                                      refine e_tin (tgt := 704) C dL_law_33 (by rw [q19]; decide) (by rw [q19]; decide) (by rw [q19] <;> rfl) (by decide) ?_
                                      exact w_L_law_J704 C X hr hlk hK ⟨by omega, by omega, hk3, hk4⟩ h
                                    · replace h := ite_f h q19
                                      by_cases q20 : ((xs (v3).toNatClampNeg) &&& (31 : Int32)) = 17
                                      · replace h := ite_t h q20
                                        refine e_tin (tgt := 737) C dL_law_33 (by rw [q20]; decide) (by rw [q20]; decide) (by rw [q20] <;> rfl) (by decide) ?_
                                        exact w_L_law_J737 C X hr hlk hK ⟨by omega, by omega, hk3, hk4⟩ h
                                      · replace h := ite_f h q20
                                        by_cases q21 : ((xs (v3).toNatClampNeg) &&& (31 : Int32)) = 18
                                        · replace h := ite_t h q21
                                          refine e_tin (tgt := 770) C dL_law_33 (by rw [q21]; decide) (by rw [q21]; decide) (by rw [q21] <;> rfl) (by decide) ?_
                                          exact w_L_law_J770 C X hr hlk hK ⟨by omega, by omega, hk3, hk4⟩ h
                                        · replace h := ite_f h q21
                                          by_cases q22 : ((xs (v3).toNatClampNeg) &&& (31 : Int32)) = 19
                                          · replace h := ite_t h q22
                                            refine e_tin (tgt := 813) C dL_law_33 (by rw [q22]; decide) (by rw [q22]; decide) (by rw [q22] <;> rfl) (by decide) ?_
                                            exact w_L_law_J813 C X hr hlk hK ⟨by omega, by omega, hk3, hk4⟩ h
                                          · replace h := ite_f h q22
                                            by_cases q23 : ((xs (v3).toNatClampNeg) &&& (31 : Int32)) = 20
                                            · replace h := ite_t h q23
                                              refine e_tin (tgt := 836) C dL_law_33 (by rw [q23]; decide) (by rw [q23]; decide) (by rw [q23] <;> rfl) (by decide) ?_
                                              exact w_L_law_J836 C X hr hlk hK ⟨by omega, by omega, hk3, hk4⟩ h
                                            · replace h := ite_f h q23
                                              by_cases q24 : ((xs (v3).toNatClampNeg) &&& (31 : Int32)) = 21
                                              · replace h := ite_t h q24
                                                refine e_tin (tgt := 870) C dL_law_33 (by rw [q24]; decide) (by rw [q24]; decide) (by rw [q24] <;> rfl) (by decide) ?_
                                                exact w_L_law_J870 C X hr hlk hK ⟨by omega, by omega, hk3, hk4⟩ h
                                              · replace h := ite_f h q24
                                                by_cases q25 : ((xs (v3).toNatClampNeg) &&& (31 : Int32)) = 22
                                                · replace h := ite_t h q25
                                                  refine e_tin (tgt := 923) C dL_law_33 (by rw [q25]; decide) (by rw [q25]; decide) (by rw [q25] <;> rfl) (by decide) ?_
                                                  exact w_L_law_J923 C X hr hlk hK ⟨by omega, by omega, hk3, hk4⟩ h
                                                · replace h := ite_f h q25
                                                  by_cases q26 : ((xs (v3).toNatClampNeg) &&& (31 : Int32)) = 23
                                                  · replace h := ite_t h q26
                                                    refine e_tin (tgt := 936) C dL_law_33 (by rw [q26]; decide) (by rw [q26]; decide) (by rw [q26] <;> rfl) (by decide) ?_
                                                    exact w_L_law_J936 C X hr hlk hK ⟨by omega, by omega, hk3, hk4⟩ h
                                                  · replace h := ite_f h q26
                                                    by_cases q27 : ((xs (v3).toNatClampNeg) &&& (31 : Int32)) = 24
                                                    · replace h := ite_t h q27
                                                      refine e_tin (tgt := 949) C dL_law_33 (by rw [q27]; decide) (by rw [q27]; decide) (by rw [q27] <;> rfl) (by decide) ?_
                                                      exact w_L_law_J949 C X hr hlk hK ⟨by omega, by omega, hk3, hk4⟩ h
                                                    · replace h := ite_f h q27
                                                      by_cases q28 : ((xs (v3).toNatClampNeg) &&& (31 : Int32)) = 25
                                                      · replace h := ite_t h q28
                                                        refine e_tin (tgt := 992) C dL_law_33 (by rw [q28]; decide) (by rw [q28]; decide) (by rw [q28] <;> rfl) (by decide) ?_
                                                        exact w_L_law_J992 C X hr hlk hK ⟨by omega, by omega, hk3, hk4⟩ h
                                                      · replace h := ite_f h q28
                                                        by_cases q29 : ((xs (v3).toNatClampNeg) &&& (31 : Int32)) = 26
                                                        · replace h := ite_t h q29
                                                          refine e_tin (tgt := 1015) C dL_law_33 (by rw [q29]; decide) (by rw [q29]; decide) (by rw [q29] <;> rfl) (by decide) ?_
                                                          exact w_L_law_J1015 C X hr hlk hK ⟨by omega, by omega, hk3, hk4⟩ h
                                                        · replace h := ite_f h q29
                                                          by_cases q30 : ((xs (v3).toNatClampNeg) &&& (31 : Int32)) = 27
                                                          · replace h := ite_t h q30
                                                            refine e_tin (tgt := 1048) C dL_law_33 (by rw [q30]; decide) (by rw [q30]; decide) (by rw [q30] <;> rfl) (by decide) ?_
                                                            exact w_L_law_J1048 C X hr hlk hK ⟨by omega, by omega, hk3, hk4⟩ h
                                                          · replace h := ite_f h q30
                                                            by_cases q31 : ((xs (v3).toNatClampNeg) &&& (31 : Int32)) = 28
                                                            · replace h := ite_t h q31
                                                              refine e_tin (tgt := 1071) C dL_law_33 (by rw [q31]; decide) (by rw [q31]; decide) (by rw [q31] <;> rfl) (by decide) ?_
                                                              exact w_L_law_J1071 C X hr hlk hK ⟨by omega, by omega, hk3, hk4⟩ h
                                                            · replace h := ite_f h q31
                                                              by_cases q32 : ((xs (v3).toNatClampNeg) &&& (31 : Int32)) = 29
                                                              · replace h := ite_t h q32
                                                                refine e_tin (tgt := 1114) C dL_law_33 (by rw [q32]; decide) (by rw [q32]; decide) (by rw [q32] <;> rfl) (by decide) ?_
                                                                exact w_L_law_J1114 C X hr hlk hK ⟨by omega, by omega, hk3, hk4⟩ h
                                                              · replace h := ite_f h q32
                                                                by_cases q33 : ((xs (v3).toNatClampNeg) &&& (31 : Int32)) = 30
                                                                · replace h := ite_t h q33
                                                                  refine e_tin (tgt := 1187) C dL_law_33 (by rw [q33]; decide) (by rw [q33]; decide) (by rw [q33] <;> rfl) (by decide) ?_
                                                                  exact w_L_law_J1187 C X hr hlk hK ⟨by omega, by omega, hk3, hk4⟩ h
                                                                · replace h := ite_f h q33
                                                                  by_cases q34 : ((xs (v3).toNatClampNeg) &&& (31 : Int32)) = 31
                                                                  · replace h := ite_t h q34
                                                                    refine e_tin (tgt := 1221) C dL_law_33 (by rw [q34]; decide) (by rw [q34]; decide) (by rw [q34] <;> rfl) (by decide) ?_
                                                                    exact w_L_law_J1221 C X hr hlk hK ⟨by omega, by omega, hk3, hk4⟩ h
                                                                  · replace h := ite_f h q34
                                                                    refine e_tout (tgt := 1284) C dL_law_33 (by have z0 := lv_neT (a := 0) q3 (by decide); have z1 := lv_neT (a := 1) q4 (by decide); have z2 := lv_neT (a := 2) q5 (by decide); have z3 := lv_neT (a := 3) q6 (by decide); have z4 := lv_neT (a := 4) q7 (by decide); have z5 := lv_neT (a := 5) q8 (by decide); have z6 := lv_neT (a := 6) q9 (by decide); have z7 := lv_neT (a := 7) q10 (by decide); have z8 := lv_neT (a := 8) q11 (by decide); have z9 := lv_neT (a := 9) q12 (by decide); have z10 := lv_neT (a := 10) q13 (by decide); have z11 := lv_neT (a := 11) q14 (by decide); have z12 := lv_neT (a := 12) q15 (by decide); have z13 := lv_neT (a := 13) q16 (by decide); have z14 := lv_neT (a := 14) q17 (by decide); have z15 := lv_neT (a := 15) q18 (by decide); have z16 := lv_neT (a := 16) q19 (by decide); have z17 := lv_neT (a := 17) q20 (by decide); have z18 := lv_neT (a := 18) q21 (by decide); have z19 := lv_neT (a := 19) q22 (by decide); have z20 := lv_neT (a := 20) q23 (by decide); have z21 := lv_neT (a := 21) q24 (by decide); have z22 := lv_neT (a := 22) q25 (by decide); have z23 := lv_neT (a := 23) q26 (by decide); have z24 := lv_neT (a := 24) q27 (by decide); have z25 := lv_neT (a := 25) q28 (by decide); have z26 := lv_neT (a := 26) q29 (by decide); have z27 := lv_neT (a := 27) q30 (by decide); have z28 := lv_neT (a := 28) q31 (by decide); have z29 := lv_neT (a := 29) q32 (by decide); have z30 := lv_neT (a := 30) q33 (by decide); have z31 := lv_neT (a := 31) q34 (by decide); omega) (by decide) ?_
                                                                    exact hK _ h _ _ (by omega) (by omega)
theorem w_L_loop {p : Program} {l : Launch} {e : Env} {s : State} {m : MethodId} {below : List Frame} {meth : Method} {c : Code} {g : Geo} {b L : Nat} {xs : Nat → Int32} (C : Cx p s m #[Value.ref b] c cL_law RL 4 g) (X : XC g s b L xs) (hr : meth.sig.returnType = ret) (hlk : meth.locks = false) {a a2 t k n : Nat} {i : Int32} {M : Mem} (hk : k ≤ 200 + 3 * t ∧ n ≤ 9000 + 35 * t) (h : f_L_loop a a2 t i M xs L) : E p l e room_1 s m #[Value.ref b] below meth c g 4 (lw_Z below #[Value.ref b] s) k n 18 [(3, .int i), (2, .ref a2), (1, .ref a), (0, .retAddr 16)] [] M := by
  unfold f_L_loop at h
  refine loop_E (W := fun z : Nat × Int32 × Mem => ∀ k n, k ≤ 200 + 3 * z.1 ∧ n ≤ 9000 + 35 * z.1 → E p l e room_1 s m #[Value.ref b] below meth c g 4 (lw_Z below #[Value.ref b] s) k n 18 [(3, .int z.2.1), (2, .ref a2), (1, .ref a), (0, .retAddr 16)] [] z.2.2) h (fun K z hK h k n hk => ?_) k n hk
  obtain ⟨t, i, M⟩ := z
  obtain ⟨ht, h⟩ := h
  have ht : t < 513 := ht
  have hk : k ≤ 200 + 3 * t ∧ n ≤ 9000 + 35 * t := hk
  refine e_pick [3, 2, 1, 0] rfl ?_
  refine w_L_law_J18 (kb := 203 + 3 * t) (nb := 9035 + 35 * t) C X hr hlk (fun M' hM' k' n' hk' hn' => ?_) ⟨by omega, by omega, by omega, by omega⟩ h
  refine e_iinc (v := i + 6) (al' := [(3, .int (i + 6)), (0, .retAddr 16), (1, .ref a), (2, .ref a2)]) C 3 dL_law_1284 rfl rfl (by decide) rfl ?_
  refine e_goto (tgt := 18) C dL_law_1287 (by decide) ?_
  refine e_pick [0, 3, 2, 1] rfl ?_
  exact hK _ hM' k' n' ⟨by show k' ≤ 200 + 3 * (t + 1); omega, by show n' ≤ 9000 + 35 * (t + 1); omega⟩
set_option maxHeartbeats 4000000 in
set_option maxRecDepth 100000 in
theorem w_L_law {p : Program} {l : Launch} {e : Env} {s : State} {m : MethodId} {below : List Frame} {meth : Method} {c : Code} {g : Geo} {b L : Nat} {xs : Nat → Int32} (C : Cx p s m #[Value.ref b] c cL_law RL 4 g) (X : XC g s b L xs) (hr : meth.sig.returnType = ret) (hlk : meth.locks = false) {M : Mem} (h : f_L_law M xs L) : E p l e room_1 s m #[Value.ref b] below meth c g 4 (lw_Z below #[Value.ref b] s) 0 0 0 [(0, .retAddr 16)] [] M := by
  unfold f_L_law at h
  refine e_new C 11 (K := RX11) (T := TX11) (N := 19) rfl rfl uwX11 tyX11_ok nt_11 wd_21 wd_22 wd_1 (Nat.le_of_ble_eq_true rfl) (Nat.le_of_ble_eq_true rfl) dL_law_0 ?_
  refine nmE (fun M1 e2 => ?_)
  replace h := h M1 e2
  have o3 : isO M1 (mN M) [11] := ⟨11, List.mem_singleton.mpr rfl, by rw [e2]; exact u1_same _ _ _⟩
  refine e_dup C rfl dL_law_3 ?_
  refine e_callI (as := []) C wb_X11_init rfl wi_L_9 (m_X11_init h) rfl ⟨Nat.le_of_ble_eq_true rfl, Nat.le_of_ble_eq_true rfl⟩ ⟨Nat.le_of_ble_eq_true rfl, Nat.le_of_ble_eq_true rfl⟩ (by first | exact Nat.le_of_ble_eq_true rfl | (simp only [List.map_cons, List.map_nil, va_cat, List.sum_cons, List.sum_nil]; exact Nat.le_of_ble_eq_true rfl)) dL_law_4 (kV (fun M5 h12 => ?_))
  refine e_astore_n (al' := [(1, .ref (mN M)), (0, .retAddr 16)]) C dL_law_7 rfl (by decide) rfl ?_
  refine e_new C 12 (K := RX12) (T := TX12) (N := 67) rfl rfl uwX12 tyX12_ok nt_12 wd_975 wd_976 wd_7 (Nat.le_of_ble_eq_true rfl) (Nat.le_of_ble_eq_true rfl) dL_law_8 ?_
  refine nmE (fun M6 e7 => ?_)
  replace h12 := h12 M6 e7
  have o8 : isO M6 (mN M5) [12] := ⟨12, List.mem_singleton.mpr rfl, by rw [e7]; exact u1_same _ _ _⟩
  refine e_dup C rfl dL_law_11 ?_
  refine e_callI (as := []) C wb_X12_init rfl wi_L_12 (m_X12_init h12) rfl ⟨Nat.le_of_ble_eq_true rfl, Nat.le_of_ble_eq_true rfl⟩ ⟨Nat.le_of_ble_eq_true rfl, Nat.le_of_ble_eq_true rfl⟩ (by first | exact Nat.le_of_ble_eq_true rfl | (simp only [List.map_cons, List.map_nil, va_cat, List.sum_cons, List.sum_nil]; exact Nat.le_of_ble_eq_true rfl)) dL_law_12 (kV (fun M10 h11 => ?_))
  refine e_astore_n (al' := [(2, .ref (mN M5)), (1, .ref (mN M)), (0, .retAddr 16)]) C dL_law_15 rfl (by decide) rfl ?_
  refine e_iconst (v := 0) C dL_law_16 (by decide) ?_
  refine e_istore_n (al' := [(3, .int (0 : Int32)), (2, .ref (mN M5)), (1, .ref (mN M)), (0, .retAddr 16)]) C dL_law_17 rfl (by decide) rfl ?_
  exact w_L_loop C X hr hlk ⟨Nat.le_of_ble_eq_true rfl, Nat.le_of_ble_eq_true rfl⟩ h11
