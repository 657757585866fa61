/-! ===== my own: an abstract memory, and the machine's steps over it ===== -/
abbrev Sh : Type := Nat ⊕ (Nat × Nat)
/-- how many cells; what each is (object of a class, or array of a type and length); ints, longs, references of it -/
abbrev Mem : Type := Nat × (Nat → Sh) × (Nat → Nat → Int32) × (Nat → Nat → Int64) × (Nat → Nat → Option Nat)
def mN (M : Mem) : Nat := M.1
def mS (M : Mem) : Nat → Sh := M.2.1
def mI (M : Mem) : Nat → Nat → Int32 := M.2.2.1
def mL (M : Mem) : Nat → Nat → Int64 := M.2.2.2.1
def mP (M : Mem) : Nat → Nat → Option Nat := M.2.2.2.2
def u2 {α : Type} (f : Nat → Nat → α) (a k : Nat) (v : α) : Nat → Nat → α := fun b j => if b = a ∧ j = k then v else f b j
def u1 {α : Type} (f : Nat → α) (a : Nat) (v : α) : Nat → α := fun b => if b = a then v else f b
def sI (M : Mem) (a k : Nat) (v : Int32) : Mem := (M.1, M.2.1, u2 M.2.2.1 a k v, M.2.2.2.1, M.2.2.2.2)
def sL (M : Mem) (a k : Nat) (v : Int64) : Mem := (M.1, M.2.1, M.2.2.1, u2 M.2.2.2.1 a k v, M.2.2.2.2)
def sP (M : Mem) (a k : Nat) (v : Option Nat) : Mem := (M.1, M.2.1, M.2.2.1, M.2.2.2.1, u2 M.2.2.2.2 a k v)
/-- the whole row of an array -/
def sIr (M : Mem) (a : Nat) (f : Nat → Int32) : Mem := (M.1, M.2.1, u1 M.2.2.1 a f, M.2.2.2.1, M.2.2.2.2)
def sLr (M : Mem) (a : Nat) (f : Nat → Int64) : Mem := (M.1, M.2.1, M.2.2.1, u1 M.2.2.2.1 a f, M.2.2.2.2)
/-- a new cell, all 0 -/
def nw (M : Mem) (x : Sh) : Mem := (M.1 + 1, u1 M.2.1 M.1 x, u1 M.2.2.1 M.1 (fun _ => 0), u1 M.2.2.2.1 M.1 (fun _ => 0), u1 M.2.2.2.2 M.1 (fun _ => none))
theorem u2_same {α : Type} (f : Nat → Nat → α) (a k : Nat) (v : α) : u2 f a k v a k = v := if_pos ⟨rfl, rfl⟩
theorem u2_row {α : Type} (f : Nat → Nat → α) {a b : Nat} (k : Nat) (v : α) (h : b ≠ a) : u2 f a k v b = f b := funext fun j => if_neg fun q => h q.1
theorem u2_ne {α : Type} (f : Nat → Nat → α) {a b k j : Nat} (v : α) (h : b ≠ a ∨ j ≠ k) : u2 f a k v b j = f b j := if_neg fun q => h.elim (fun z => z q.1) (fun z => z q.2)
theorem u1_same {α : Type} (f : Nat → α) (a : Nat) (v : α) : u1 f a v a = v := if_pos rfl
theorem u1_ne {α : Type} (f : Nat → α) {a b : Nat} (v : α) (h : b ≠ a) : u1 f a v b = f b := if_neg h
/-- where the memory begins, the String constants, class ids, slots, array classes -/
abbrev Geo : Type := Nat × (Nat → Nat) × (Nat → ClassId) × (Nat → Nat → Nat) × (Nat → ClassId)
def tr (g : Geo) (v : Value) : Value := match v with
  | .ref a => .ref (g.1 + a)
  | .retAddr i => .ref (g.2.1 i)
  | v => v
theorem tr_cat (g : Geo) (v : Value) : (tr g v).category = v.category := by cases v <;> rfl
def tyC (ci : Nat) : Nat → FieldType := match ci with
  | 0 => tyX0
  | 1 => tyX1
  | 2 => tyX2
  | 3 => tyX3
  | 4 => tyX4
  | 5 => tyX5
  | 6 => tyX6
  | 7 => tyX7
  | 8 => tyX8
  | 9 => tyX9
  | 10 => tyX10
  | 11 => tyX11
  | _ => tyX12
def tyA (t : Nat) : FieldType := match t with
  | 0 => .int
  | 1 => .byte
  | 2 => .boolean
  | 3 => .long
  | 4 => .array .int
  | 5 => .object "PennyQueue$Window"
  | 6 => .object "PennyQueue$Order"
  | _ => .object "PennyQueue$Tape"
def clN (ci : Nat) : Nat := match vwCl[ci]? with
  | some q => q.2.2
  | none => 0
def rl (g : Geo) (r : Option Nat) : Option Nat := r.map (g.1 + ·)
theorem tr_rf (g : Geo) (r : Option Nat) : tr g (va_rf r) = va_rf (rl g r) := by cases r <;> rfl
def fv (g : Geo) (M : Mem) (ty : FieldType) (a k : Nat) : Value := match ty with
  | .object _ => va_rf (rl g (mP M a k))
  | .array _ => va_rf (rl g (mP M a k))
  | .long => .long (mL M a k)
  | _ => .int (mI M a k)
def cn (g : Geo) (M : Mem) (a t : Nat) : (Nat → Int32) ⊕ (Nat → Int64) ⊕ (Nat → UInt32) ⊕ (Nat → UInt64) ⊕ (Nat → Option Nat) := match t with
  | 0 => .inl (mI M a)
  | 1 => .inl (mI M a)
  | 2 => .inl (mI M a)
  | 3 => .inr (.inl (mL M a))
  | _ => .inr (.inr (.inr (.inr (fun j => rl g (mP M a j)))))
def ce (g : Geo) (M : Mem) (a : Nat) : va_E := match mS M a with
  | .inl ci => .inr (ci, (List.range (clN ci)).map (fun k => fv g M (tyC ci k) a k))
  | .inr q => .inl (g.2.2.2.2 q.1, q.2, cn g M a q.1)
abbrev gD (g : Geo) : va_G := (g.2.2.1, g.2.2.2.1)
def Pic (g : Geo) (M : Mem) (H : Heap) : Prop := H.size = g.1 + mN M ∧ (∀ a, a < mN M → va_at (gD g) vwCl (g.1 + a, ce g M a) H) ∧ ∀ a, mN M ≤ a → mS M a = .inl 99
abbrev gA (g : Geo) : Nat → Prop := fun q => g.1 ≤ q
def lw_good : List Cond := lw_tbl.filter goodWord
theorem lw_goodIn {w : Cond} (h : w ∈ lw_tbl) (hg : goodWord w = true) : w ∈ lw_good := List.mem_filter.mpr ⟨h, hg⟩
theorem lw_goodT {w : Cond} (i : Nat) (h : tables_1[i]? = some w) (hg : goodWord w = true) : w ∈ lw_good := lw_goodIn (List.mem_append_right _ (List.mem_of_getElem? h)) hg
theorem lw_goodS {w : Cond} (i : Nat) (h : (k2_sels lw_privs)[i]? = some w) (hg : goodWord w = true) : w ∈ lw_good := lw_goodIn (List.mem_append_left _ (List.mem_of_getElem? h)) hg
/-- the words of every method: its own code, and all that is good of the tables -/
abbrev wl (y : MethodName) (b : ByteArray) (nL : Nat) (ret : Option FieldType) : List Cond := Cond.code y b nL ret :: lw_good
theorem GoodIn_lw {ws : List Cond} (h : ∀ w ∈ ws, w ∈ lw_good) : GoodIn lw_good ws := fun w hw => ⟨h w hw, good_of_word (List.mem_filter.mp (h w hw)).2⟩
def StrN : Nat := 7
def strK (i : Nat) : Nat := [66, 113, 119, 92, 94, 96, 98].getD i 0
def strT (i : Nat) : String := ["ome ", "tlfn", "<=>", "rice ", "mo", "e ", "st "].getD i ""
def strL : List Nat := [4, 4, 3, 5, 2, 2, 3]
def strB : List (List Int32) := [[111, 109, 101, 32], [116, 108, 102, 110], [60, 61, 62], [114, 105, 99, 101, 32], [109, 111], [101, 32], [115, 116, 32]]
/-- the special words: links to private constructors of nest mates; casts that hold, and that don't -/
def lw_nest : List (Nat × MethodName) := [(26, ⟨"PennyQueue$Window", "<init>", "()V"⟩), (46, ⟨"PennyQueue$Day", "<init>", "()V"⟩), (76, ⟨"PennyQueue$Tape", "<init>", "()V"⟩)]
def lw_can : List (String × String) := [("PennyQueue$Length", "PennyQueue$First"), ("PennyQueue$Told", "PennyQueue$First"), ("PennyQueue$Poor", "PennyQueue$Share"), ("PennyQueue$First", "PennyQueue$Order"), ("PennyQueue$Share", "PennyQueue$Order"), ("PennyQueue$Length", "PennyQueue$Order"), ("PennyQueue$Poor", "PennyQueue$Order"), ("PennyQueue$Full", "PennyQueue$Order"), ("PennyQueue$Told", "PennyQueue$Order")]
def lw_over : List String := ["PennyQueue$Window", "PennyQueue$Order", "PennyQueue$Tape"]
/-- arrays of int rows -/
def va_OI (U : State) : Prop := ∃ (comp c : ClassId) (k : Class), U.vm.findClass "[I" = some comp ∧ (U.vm.classes.findIdx? fun (x : Class) => match x.kind with | .array component _ => component == comp | _ => false) = some c ∧ U.vm.classes[c]? = some k ∧ k.kind = .array comp (.array .int) ∧ U.vm.findClass "[[I" = some c
theorem va_OI.moved {u U : State} (hvm : u.vm.Alike U.vm) (h : va_OI u) : va_OI U := by
  obtain ⟨comp, c, k, h1, h2, h3, h4, h5⟩ := h
  obtain ⟨k', hk', he⟩ := hvm.2.2 _ _ h3
  have hi : (U.vm.classes.findIdx? fun (x : Class) => match x.kind with | .array component _ => component == comp | _ => false) = some c := by
    refine Eq.trans (va_idx_bare U.vm comp).symm ?_
    first | rw [hvm.bare_eq] | rw [← hvm.bare_eq]
    exact Eq.trans (va_idx_bare u.vm comp) h2
  exact ⟨comp, c, k', by rw [hvm.findClass]; exact h1, hi, hk', by rw [he]; exact h4, by rw [hvm.findClass]; exact h5⟩
def lw_not : List (String × String) := [("PennyQueue$First", "PennyQueue$Share"), ("PennyQueue$First", "PennyQueue$Length"), ("PennyQueue$First", "PennyQueue$Poor"), ("PennyQueue$First", "PennyQueue$Full"), ("PennyQueue$First", "PennyQueue$Told"), ("PennyQueue$Share", "PennyQueue$First"), ("PennyQueue$Share", "PennyQueue$Length"), ("PennyQueue$Share", "PennyQueue$Poor"), ("PennyQueue$Share", "PennyQueue$Full"), ("PennyQueue$Share", "PennyQueue$Told"), ("PennyQueue$Length", "PennyQueue$Share"), ("PennyQueue$Length", "PennyQueue$Poor"), ("PennyQueue$Length", "PennyQueue$Full"), ("PennyQueue$Length", "PennyQueue$Told"), ("PennyQueue$Poor", "PennyQueue$First"), ("PennyQueue$Poor", "PennyQueue$Length"), ("PennyQueue$Poor", "PennyQueue$Full"), ("PennyQueue$Poor", "PennyQueue$Told"), ("PennyQueue$Full", "PennyQueue$First"), ("PennyQueue$Full", "PennyQueue$Share"), ("PennyQueue$Full", "PennyQueue$Length"), ("PennyQueue$Full", "PennyQueue$Poor"), ("PennyQueue$Full", "PennyQueue$Told"), ("PennyQueue$Told", "PennyQueue$Share"), ("PennyQueue$Told", "PennyQueue$Length"), ("PennyQueue$Told", "PennyQueue$Poor"), ("PennyQueue$Told", "PennyQueue$Full"), ("PennyQueue$Order", "PennyQueue$First"), ("PennyQueue$Order", "PennyQueue$Share"), ("PennyQueue$Order", "PennyQueue$Length"), ("PennyQueue$Order", "PennyQueue$Poor"), ("PennyQueue$Order", "PennyQueue$Full"), ("PennyQueue$Order", "PennyQueue$Told")]
/-- what the class tables and the cells from before say: fixed as long as the launch stands -/
def KK (g : Geo) (U : State) (H : Heap) : Prop :=
  (∀ (ci : Nat) (q : vw_C), vwCl[ci]? = some q → u_Kn U q.1 q.2.1 q.2.2 (g.2.2.1 ci) (g.2.2.2.1 ci)) ∧
  (∀ t, t < 8 → ArrOfT U (g.2.2.2.2 t) (tyA t) ∧ va_RA U (g.2.2.2.2 t) (tyA t)) ∧
  (∀ q ∈ lw_nest, va_Nw (.methodLinkNest "PennyQueue" q.1 q.2 "PennyQueue") U) ∧
  (∀ q ∈ lw_can, va_Nw (.castable q.1 q.2) U) ∧
  (∀ q ∈ lw_not, va_Nc q.1 q.2 U) ∧
  (∀ i, i < StrN → vk_R "PennyQueue$Window" (strK i) (strT i) (g.2.1 i) U) ∧
  vk_S StrN strL strB g.2.1 (fun i => g.2.1 (7 + i)) (gA g) U H ∧
  va_Z "java/lang/String" "COMPACT_STRINGS" "Z" (.int 1) (gA g) U H ∧
  (∀ K ∈ lw_over, va_AO K U) ∧ va_OI U ∧
  va_Z "jdk/internal/util/Preconditions" "SIOOBE_FORMATTER" "Ljava/util/function/BiFunction;" (if g.2.1 15 = 0 then .null else .ref (g.2.1 14)) (gA g) U H
theorem KK.warm {g : Geo} {s U : State} {H : Heap} (hW : s.WarmedH U.vm) (h : KK g s H) : KK g U H := by
  obtain ⟨h1, h2, h3, h4, h5, h6, h7, h8, h9, h10, h11⟩ := h
  have hvm := hW.alike
  exact ⟨fun ci q hq => u_Kn_moved hvm (h1 ci q hq), fun t ht => ⟨arrOfT_moved hvm (h2 t ht).1, (h2 t ht).2.moved hvm⟩, fun q hq => va_Nw.warmM hW (h3 q hq), fun q hq => va_Nw.warmC hW (h4 q hq), fun q hq => (h5 q hq).moved hvm, fun i hi => (h6 i hi).warm hW, h7.moved hvm, h8.moved hvm, fun K hK => (h9 K hK).moved hvm, h10.moved hvm, h11.moved hvm⟩
theorem KK.kept {g : Geo} {U : State} {H H1 : Heap} (h : KK g U H) (hq : ∀ a : Nat, a < H.size → ¬ gA g a → H1[a]? = H[a]?) : KK g U H1 := by
  obtain ⟨h1, h2, h3, h4, h5, h6, h7, h8, h9, h10, h11⟩ := h
  exact ⟨h1, h2, h3, h4, h5, h6, h7.kept hq, h8.kept hq, h9, h10, h11.kept hq⟩
theorem KK.same {g : Geo} {u U : State} {H : Heap} (hv : u.vm = U.vm) (h : KK g u H) : KK g U H := by
  obtain ⟨h1, h2, h3, h4, h5, h6, h7, h8, h9, h10, h11⟩ := h
  have hvm : u.vm.Alike U.vm := by rw [hv]; exact Vm.Alike.refl _
  exact ⟨fun ci q hq => u_Kn_moved hvm (h1 ci q hq), fun t ht => ⟨arrOfT_moved hvm (h2 t ht).1, (h2 t ht).2.moved hvm⟩, fun q hq => va_Nw.same rfl hv (h3 q hq), fun q hq => va_Nw.same rfl hv (h4 q hq), fun q hq => (h5 q hq).moved hvm, fun i hi => vk_R.same hv.symm (h6 i hi), h7.moved hvm, h8.moved hvm, fun K hK => (h9 K hK).moved hvm, h10.moved hvm, h11.moved hvm⟩
def Cx (p : Program) (s : State) (m : MethodId) (args : Array Value) (c : Code) (cc : ByteArray) (own : String) (nL : Nat) (g : Geo) : Prop :=
  p.tables.exec = Jvm.exec ∧ c.code = cc ∧ c.maxLocals = nL ∧ s.vm.findClass own = some m.cls ∧ (∀ w ∈ lw_good, w.before args s = true) ∧ KK g s s.heap
abbrev Al (g : Geo) (al : List (Nat × Value)) : List (Nat × Value) := al.map (fun q => (q.1, tr g q.2))
/-- from every machine state that holds this abstract one, the rest of the run comes to G -/
def E (p : Program) (l : Launch) (e : Env) (R : Room) (s : State) (m : MethodId) (args : Array Value) (below : List Frame) (meth : Method) (c : Code) (g : Geo) (nL : Nat) (G : State → Prop) (k n : Nat) (pc : Nat) (al : List (Nat × Value)) (st : List Value) (M : Mem) : Prop :=
  ∀ (ls : Array Slot) (H : Heap) (locs : List Loc), lv_has ls nL (Al g al) → Pic g M H → va_S (gA g) s.heap H locs → W p l e R s m args below meth c H locs k n G (F0 m pc ls (st.map (tr g)))
theorem Al_at {g : Geo} {ls : Array Slot} {nL : Nat} {al : List (Nat × Value)} (h : lv_has ls nL (Al g al)) {j i : Nat} {v : Value} (ha : al[j]? = some (i, v)) : ls[i]? = some (.val (tr g v)) := lv_at h j (by rw [List.getElem?_map, ha]; rfl)
def st1 (al : List (Nat × Value)) (i : Nat) (v : Value) : List (Nat × Value) := (i, v) :: al.filter (fun q => !(q.1 == i) && !(q.1 + 1 == i && q.2.category == 2))
def st2 (al : List (Nat × Value)) (i : Nat) (v : Value) : List (Nat × Value) := (i, v) :: al.filter (fun q => !(q.1 == i) && (!(q.1 == i + 1) && !(q.1 + 1 == i && q.2.category == 2)))
theorem Al_st1 {g : Geo} {al al' : List (Nat × Value)} {i : Nat} {v : Value} (h : st1 al i v = al') : (i, tr g v) :: (Al g al).filter (fun q => !(q.1 == i) && !(q.1 + 1 == i && q.2.category == 2)) = Al g al' := by
  subst h
  show _ = (i, tr g v) :: Al g (al.filter _)
  rw [List.filter_map]
  simp only [Function.comp_def, tr_cat]
theorem Al_st2 {g : Geo} {al al' : List (Nat × Value)} {i : Nat} {v : Value} (h : st2 al i v = al') : (i, tr g v) :: (Al g al).filter (fun q => !(q.1 == i) && (!(q.1 == i + 1) && !(q.1 + 1 == i && q.2.category == 2))) = Al g al' := by
  subst h
  show _ = (i, tr g v) :: Al g (al.filter _)
  rw [List.filter_map]
  simp only [Function.comp_def, tr_cat]
theorem Al_sub {g : Geo} {ls : Array Slot} {nL : Nat} {al al' : List (Nat × Value)} (h : lv_has ls nL (Al g al)) (ks : List Nat) (hl : lv_pick al ks = al') : lv_has ls nL (Al g al') := by
  refine lv_sub h ks ?_
  subst hl
  unfold lv_pick
  show _ = List.map (fun q => (q.1, tr g q.2)) (List.filterMap (fun k => al[k]?) ks)
  rw [List.map_filterMap]
  congr 1
  funext j
  rw [List.getElem?_map]
section ROWS
variable {p : Program} {l : Launch} {e : Env} {R : Room} {s : State} {m : MethodId} {args : Array Value} {below : List Frame} {meth : Method} {c : Code} {cc : ByteArray} {own : String} {nL : Nat} {g : Geo} {G : State → Prop} {k n pc : Nat} {al : List (Nat × Value)} {st : List Value} {M : Mem}
theorem e_iconst (C : Cx p s m args c cc own nL g) {j : Int} {v : Int32} (hdg : decode cc pc = .ok (.iconst j, 1)) (hv : Int32.ofInt j = v)
    (kk : E p l e R s m args below meth c g nL G k n (pc + 1) al (.int v :: st) M) : E p l e R s m args below meth c g nL G k n pc al (st) M := fun ls H locs hl hP hS => lv_iconst C.1 C.2.1 hdg hv (kk ls H locs hl hP hS)
theorem e_bipush (C : Cx p s m args c cc own nL g) {j : Int} {v : Int32} (hdg : decode cc pc = .ok (.bipush j, 2)) (hv : (Int8.ofInt j).toInt32 = v)
    (kk : E p l e R s m args below meth c g nL G k n (pc + 2) al (.int v :: st) M) : E p l e R s m args below meth c g nL G k n pc al (st) M := fun ls H locs hl hP hS => lv_bipush C.1 C.2.1 hdg hv (kk ls H locs hl hP hS)
theorem e_sipush (C : Cx p s m args c cc own nL g) {j : Int} {v : Int32} (hdg : decode cc pc = .ok (.sipush j, 3)) (hv : (Int16.ofInt j).toInt32 = v)
    (kk : E p l e R s m args below meth c g nL G k n (pc + 3) al (.int v :: st) M) : E p l e R s m args below meth c g nL G k n pc al (st) M := fun ls H locs hl hP hS => lv_sipush C.1 C.2.1 hdg hv (kk ls H locs hl hP hS)
theorem e_lconst (C : Cx p s m args c cc own nL g) {j : Fin 2} {v : Int64} (hdg : decode cc pc = .ok (.lconst j, 1)) (hv : Int64.ofNat (j : Nat) = v)
    (kk : E p l e R s m args below meth c g nL G k n (pc + 1) al (.long v :: st) M) : E p l e R s m args below meth c g nL G k n pc al (st) M := fun ls H locs hl hP hS => lv_lconst C.1 C.2.1 hdg hv (kk ls H locs hl hP hS)
theorem e_null (C : Cx p s m args c cc own nL g)  (hdg : decode cc pc = .ok (.aconst_null, 1)) 
    (kk : E p l e R s m args below meth c g nL G k n (pc + 1) al (.null :: st) M) : E p l e R s m args below meth c g nL G k n pc al (st) M := fun ls H locs hl hP hS => lv_null C.1 C.2.1 hdg (kk ls H locs hl hP hS)
theorem e_ldc2 (C : Cx p s m args c cc own nL g) {index : Nat} {v : Int64} (hw : Cond.constantLong own index v ∈ lw_good) (hdg : decode cc pc = .ok (.ldc2_w index, 3)) (kk : E p l e R s m args below meth c g nL G k n (pc + 3) al (.long v :: st) M) : E p l e R s m args below meth c g nL G k n pc al st M := fun ls H locs hl hP hS => lv_ldc2 C.1 C.2.1 C.2.2.2.1 (C.2.2.2.2.1 _ hw) hdg (kk ls H locs hl hP hS)
theorem e_ldc (C : Cx p s m args c cc own nL g) {index : Nat} {v : Int32} (hw : Cond.constant own index v ∈ lw_good) (hdg : decode cc pc = .ok (.ldc index, 2)) (kk : E p l e R s m args below meth c g nL G k n (pc + 2) al (.int v :: st) M) : E p l e R s m args below meth c g nL G k n pc al st M := fun ls H locs hl hP hS => lv_ldc C.1 C.2.1 C.2.2.2.1 (C.2.2.2.2.1 _ hw) hdg (kk ls H locs hl hP hS)
theorem e_ldcw (C : Cx p s m args c cc own nL g) {index : Nat} {v : Int32} (hw : Cond.constant own index v ∈ lw_good) (hdg : decode cc pc = .ok (.ldc_w index, 3)) (kk : E p l e R s m args below meth c g nL G k n (pc + 3) al (.int v :: st) M) : E p l e R s m args below meth c g nL G k n pc al st M := fun ls H locs hl hP hS => lv_ldcw C.1 C.2.1 C.2.2.2.1 (C.2.2.2.2.1 _ hw) hdg (kk ls H locs hl hP hS)
theorem e_ldcS (C : Cx p s m args c cc "PennyQueue$Window" nL g) {index : Nat} (i : Nat) (hi : i < StrN) (hk : strK i = index) (hdg : decode cc pc = .ok (.ldc index, 2)) (kk : E p l e R s m args below meth c g nL G k n (pc + 2) al (.retAddr i :: st) M) : E p l e R s m args below meth c g nL G k n pc al st M := fun ls H locs hl hP hS => by
  subst hk
  exact va_ldcS C.1 C.2.1 C.2.2.2.1 (C.2.2.2.2.2.2.2.2.2.2.1 i hi) hdg (kk ls H locs hl hP hS)
theorem e_iload_n (C : Cx p s m args c cc own nL g) {q : Fin 4} {i : Nat} {x : Int32} (j : Nat) (hdg : decode cc pc = .ok (.iload_n q, 1)) (hi : (q : Nat) = i) (ha : al[j]? = some (i, .int x)) (kk : E p l e R s m args below meth c g nL G k n (pc + 1) al (.int x :: st) M) : E p l e R s m args below meth c g nL G k n pc al st M := fun ls H locs hl hP hS => lv_iload_n C.1 C.2.1 hdg hi (Al_at hl ha) (kk ls H locs hl hP hS)
theorem e_iload (C : Cx p s m args c cc own nL g) {i : Nat} {x : Int32} (j : Nat) (hdg : decode cc pc = .ok (.iload i, 2)) (ha : al[j]? = some (i, .int x)) (kk : E p l e R s m args below meth c g nL G k n (pc + 2) al (.int x :: st) M) : E p l e R s m args below meth c g nL G k n pc al st M := fun ls H locs hl hP hS => lv_iload C.1 C.2.1 hdg (Al_at hl ha) (kk ls H locs hl hP hS)
theorem e_lload_n (C : Cx p s m args c cc own nL g) {q : Fin 4} {i : Nat} {x : Int64} (j : Nat) (hdg : decode cc pc = .ok (.lload_n q, 1)) (hi : (q : Nat) = i) (ha : al[j]? = some (i, .long x)) (kk : E p l e R s m args below meth c g nL G k n (pc + 1) al (.long x :: st) M) : E p l e R s m args below meth c g nL G k n pc al st M := fun ls H locs hl hP hS => lv_lload_n C.1 C.2.1 hdg hi (Al_at hl ha) (kk ls H locs hl hP hS)
theorem e_lload (C : Cx p s m args c cc own nL g) {i : Nat} {x : Int64} (j : Nat) (hdg : decode cc pc = .ok (.lload i, 2)) (ha : al[j]? = some (i, .long x)) (kk : E p l e R s m args below meth c g nL G k n (pc + 2) al (.long x :: st) M) : E p l e R s m args below meth c g nL G k n pc al st M := fun ls H locs hl hP hS => lv_lload C.1 C.2.1 hdg (Al_at hl ha) (kk ls H locs hl hP hS)
theorem e_aload_n (C : Cx p s m args c cc own nL g) {q : Fin 4} {i : Nat} {x : Nat} (j : Nat) (hdg : decode cc pc = .ok (.aload_n q, 1)) (hi : (q : Nat) = i) (ha : al[j]? = some (i, .ref x)) (kk : E p l e R s m args below meth c g nL G k n (pc + 1) al (.ref x :: st) M) : E p l e R s m args below meth c g nL G k n pc al st M := fun ls H locs hl hP hS => lv_aload_n C.1 C.2.1 hdg hi (Al_at hl ha) (kk ls H locs hl hP hS)
theorem e_aload (C : Cx p s m args c cc own nL g) {i : Nat} {x : Nat} (j : Nat) (hdg : decode cc pc = .ok (.aload i, 2)) (ha : al[j]? = some (i, .ref x)) (kk : E p l e R s m args below meth c g nL G k n (pc + 2) al (.ref x :: st) M) : E p l e R s m args below meth c g nL G k n pc al st M := fun ls H locs hl hP hS => lv_aload C.1 C.2.1 hdg (Al_at hl ha) (kk ls H locs hl hP hS)
theorem e_rload_n (C : Cx p s m args c cc own nL g) {q : Fin 4} {i : Nat} {x : Option Nat} (j : Nat) (hdg : decode cc pc = .ok (.aload_n q, 1)) (hi : (q : Nat) = i) (ha : al[j]? = some (i, va_rf x)) (kk : E p l e R s m args below meth c g nL G k n (pc + 1) al (va_rf x :: st) M) : E p l e R s m args below meth c g nL G k n pc al st M := by
  cases x with
  | none => exact fun ls H locs hl hP hS => lv_aload_nN C.1 C.2.1 hdg hi (Al_at hl ha) (kk ls H locs hl hP hS)
  | some a => exact e_aload_n C j hdg hi ha kk
theorem e_rload (C : Cx p s m args c cc own nL g) {i : Nat} {x : Option Nat} (j : Nat) (hdg : decode cc pc = .ok (.aload i, 2)) (ha : al[j]? = some (i, va_rf x)) (kk : E p l e R s m args below meth c g nL G k n (pc + 2) al (va_rf x :: st) M) : E p l e R s m args below meth c g nL G k n pc al st M := by
  cases x with
  | none => exact fun ls H locs hl hP hS => lv_aloadN C.1 C.2.1 hdg (Al_at hl ha) (kk ls H locs hl hP hS)
  | some a => exact e_aload C j hdg ha kk
theorem e_sload_n (C : Cx p s m args c cc own nL g) {q : Fin 4} {i : Nat} {x : Nat} (j : Nat) (hdg : decode cc pc = .ok (.aload_n q, 1)) (hi : (q : Nat) = i) (ha : al[j]? = some (i, .retAddr x)) (kk : E p l e R s m args below meth c g nL G k n (pc + 1) al (.retAddr x :: st) M) : E p l e R s m args below meth c g nL G k n pc al st M := fun ls H locs hl hP hS => lv_aload_n C.1 C.2.1 hdg hi (Al_at hl ha) (kk ls H locs hl hP hS)
theorem e_istore_n (C : Cx p s m args c cc own nL g) {q : Fin 4} {i : Nat} {x : Int32} {al' : List (Nat × Value)} (hdg : decode cc pc = .ok (.istore_n q, 1)) (hi : (q : Nat) = i) (hn : i < nL) (ha : st1 al i (.int x) = al') (kk : E p l e R s m args below meth c g nL G k n (pc + 1) al' st M) : E p l e R s m args below meth c g nL G k n pc al (.int x :: st) M := fun ls H locs hl hP hS => lv_istore_n C.1 C.2.1 hdg hi hl hn (Al_st1 (g := g) ha) (fun ls' hl' => kk ls' H locs hl' hP hS)
theorem e_istore (C : Cx p s m args c cc own nL g) {i : Nat} {x : Int32} {al' : List (Nat × Value)} (hdg : decode cc pc = .ok (.istore i, 2)) (hn : i < nL) (ha : st1 al i (.int x) = al') (kk : E p l e R s m args below meth c g nL G k n (pc + 2) al' st M) : E p l e R s m args below meth c g nL G k n pc al (.int x :: st) M := fun ls H locs hl hP hS => lv_istore C.1 C.2.1 hdg hl hn (Al_st1 (g := g) ha) (fun ls' hl' => kk ls' H locs hl' hP hS)
theorem e_lstore_n (C : Cx p s m args c cc own nL g) {q : Fin 4} {i : Nat} {x : Int64} {al' : List (Nat × Value)} (hdg : decode cc pc = .ok (.lstore_n q, 1)) (hi : (q : Nat) = i) (hn : i + 1 < nL) (ha : st2 al i (.long x) = al') (kk : E p l e R s m args below meth c g nL G k n (pc + 1) al' st M) : E p l e R s m args below meth c g nL G k n pc al (.long x :: st) M := fun ls H locs hl hP hS => lv_lstore_n C.1 C.2.1 hdg hi hl hn (Al_st2 (g := g) ha) (fun ls' hl' => kk ls' H locs hl' hP hS)
theorem e_lstore (C : Cx p s m args c cc own nL g) {i : Nat} {x : Int64} {al' : List (Nat × Value)} (hdg : decode cc pc = .ok (.lstore i, 2)) (hn : i + 1 < nL) (ha : st2 al i (.long x) = al') (kk : E p l e R s m args below meth c g nL G k n (pc + 2) al' st M) : E p l e R s m args below meth c g nL G k n pc al (.long x :: st) M := fun ls H locs hl hP hS => lv_lstore C.1 C.2.1 hdg hl hn (Al_st2 (g := g) ha) (fun ls' hl' => kk ls' H locs hl' hP hS)
theorem e_astore_n (C : Cx p s m args c cc own nL g) {q : Fin 4} {i : Nat} {x : Nat} {al' : List (Nat × Value)} (hdg : decode cc pc = .ok (.astore_n q, 1)) (hi : (q : Nat) = i) (hn : i < nL) (ha : st1 al i (.ref x) = al') (kk : E p l e R s m args below meth c g nL G k n (pc + 1) al' st M) : E p l e R s m args below meth c g nL G k n pc al (.ref x :: st) M := fun ls H locs hl hP hS => lv_astore_n C.1 C.2.1 hdg hi hl hn (Al_st1 (g := g) ha) (fun ls' hl' => kk ls' H locs hl' hP hS)
theorem e_astore (C : Cx p s m args c cc own nL g) {i : Nat} {x : Nat} {al' : List (Nat × Value)} (hdg : decode cc pc = .ok (.astore i, 2)) (hn : i < nL) (ha : st1 al i (.ref x) = al') (kk : E p l e R s m args below meth c g nL G k n (pc + 2) al' st M) : E p l e R s m args below meth c g nL G k n pc al (.ref x :: st) M := fun ls H locs hl hP hS => lv_astore C.1 C.2.1 hdg hl hn (Al_st1 (g := g) ha) (fun ls' hl' => kk ls' H locs hl' hP hS)
theorem e_rstore_n (C : Cx p s m args c cc own nL g) {q : Fin 4} {i : Nat} {x : Option Nat} {al' : List (Nat × Value)} (hdg : decode cc pc = .ok (.astore_n q, 1)) (hi : (q : Nat) = i) (hn : i < nL) (ha : st1 al i (va_rf x) = al') (kk : E p l e R s m args below meth c g nL G k n (pc + 1) al' st M) : E p l e R s m args below meth c g nL G k n pc al (va_rf x :: st) M := by
  cases x with
  | none => exact fun ls H locs hl hP hS => lv_astore_nN C.1 C.2.1 hdg hi hl hn (Al_st1 (g := g) ha) (fun ls' hl' => kk ls' H locs hl' hP hS)
  | some a => exact e_astore_n C hdg hi hn ha kk
theorem e_rstore (C : Cx p s m args c cc own nL g) {i : Nat} {x : Option Nat} {al' : List (Nat × Value)} (hdg : decode cc pc = .ok (.astore i, 2)) (hn : i < nL) (ha : st1 al i (va_rf x) = al') (kk : E p l e R s m args below meth c g nL G k n (pc + 2) al' st M) : E p l e R s m args below meth c g nL G k n pc al (va_rf x :: st) M := by
  cases x with
  | none => exact fun ls H locs hl hP hS => lv_astoreN C.1 C.2.1 hdg hl hn (Al_st1 (g := g) ha) (fun ls' hl' => kk ls' H locs hl' hP hS)
  | some a => exact e_astore C hdg hn ha kk
theorem e_iinc (C : Cx p s m args c cc own nL g) {i : Nat} {z : Int} {x v : Int32} {al' : List (Nat × Value)} (j : Nat) (hdg : decode cc pc = .ok (.iinc i z, 3)) (hj : al[j]? = some (i, .int x)) (hv : x + Int32.ofInt z = v) (hn : i < nL) (ha : st1 al i (.int v) = al') (kk : E p l e R s m args below meth c g nL G k n (pc + 3) al' st M) : E p l e R s m args below meth c g nL G k n pc al st M := fun ls H locs hl hP hS => lv_iinc (k := j) C.1 C.2.1 hdg hl (by rw [List.getElem?_map, hj]; rfl) hv hn (Al_st1 (g := g) ha) (fun ls' hl' => kk ls' H locs hl' hP hS)
theorem e_iadd (C : Cx p s m args c cc own nL g) {x y : Int32} (hdg : decode cc pc = .ok (.iadd, 1)) 
    (kk : E p l e R s m args below meth c g nL G k n (pc + 1) al (.int (x + y) :: st) M) : E p l e R s m args below meth c g nL G k n pc al (.int y :: .int x :: st) M := fun ls H locs hl hP hS => lv_iadd C.1 C.2.1 hdg (kk ls H locs hl hP hS)
theorem e_isub (C : Cx p s m args c cc own nL g) {x y : Int32} (hdg : decode cc pc = .ok (.isub, 1)) 
    (kk : E p l e R s m args below meth c g nL G k n (pc + 1) al (.int (x - y) :: st) M) : E p l e R s m args below meth c g nL G k n pc al (.int y :: .int x :: st) M := fun ls H locs hl hP hS => lv_isub C.1 C.2.1 hdg (kk ls H locs hl hP hS)
theorem e_imul (C : Cx p s m args c cc own nL g) {x y : Int32} (hdg : decode cc pc = .ok (.imul, 1)) 
    (kk : E p l e R s m args below meth c g nL G k n (pc + 1) al (.int (x * y) :: st) M) : E p l e R s m args below meth c g nL G k n pc al (.int y :: .int x :: st) M := fun ls H locs hl hP hS => lv_imul C.1 C.2.1 hdg (kk ls H locs hl hP hS)
theorem e_iand (C : Cx p s m args c cc own nL g) {x y : Int32} (hdg : decode cc pc = .ok (.iand, 1)) 
    (kk : E p l e R s m args below meth c g nL G k n (pc + 1) al (.int (x &&& y) :: st) M) : E p l e R s m args below meth c g nL G k n pc al (.int y :: .int x :: st) M := fun ls H locs hl hP hS => lv_iand C.1 C.2.1 hdg (kk ls H locs hl hP hS)
theorem e_ior (C : Cx p s m args c cc own nL g) {x y : Int32} (hdg : decode cc pc = .ok (.ior, 1)) 
    (kk : E p l e R s m args below meth c g nL G k n (pc + 1) al (.int (x ||| y) :: st) M) : E p l e R s m args below meth c g nL G k n pc al (.int y :: .int x :: st) M := fun ls H locs hl hP hS => lv_ior C.1 C.2.1 hdg (kk ls H locs hl hP hS)
theorem e_ixor (C : Cx p s m args c cc own nL g) {x y : Int32} (hdg : decode cc pc = .ok (.ixor, 1)) 
    (kk : E p l e R s m args below meth c g nL G k n (pc + 1) al (.int (x ^^^ y) :: st) M) : E p l e R s m args below meth c g nL G k n pc al (.int y :: .int x :: st) M := fun ls H locs hl hP hS => lv_ixor C.1 C.2.1 hdg (kk ls H locs hl hP hS)
theorem e_ladd (C : Cx p s m args c cc own nL g) {x y : Int64} (hdg : decode cc pc = .ok (.ladd, 1)) 
    (kk : E p l e R s m args below meth c g nL G k n (pc + 1) al (.long (x + y) :: st) M) : E p l e R s m args below meth c g nL G k n pc al (.long y :: .long x :: st) M := fun ls H locs hl hP hS => lv_ladd C.1 C.2.1 hdg (kk ls H locs hl hP hS)
theorem e_lsub (C : Cx p s m args c cc own nL g) {x y : Int64} (hdg : decode cc pc = .ok (.lsub, 1)) 
    (kk : E p l e R s m args below meth c g nL G k n (pc + 1) al (.long (x - y) :: st) M) : E p l e R s m args below meth c g nL G k n pc al (.long y :: .long x :: st) M := fun ls H locs hl hP hS => lv_lsub C.1 C.2.1 hdg (kk ls H locs hl hP hS)
theorem e_lmul (C : Cx p s m args c cc own nL g) {x y : Int64} (hdg : decode cc pc = .ok (.lmul, 1)) 
    (kk : E p l e R s m args below meth c g nL G k n (pc + 1) al (.long (x * y) :: st) M) : E p l e R s m args below meth c g nL G k n pc al (.long y :: .long x :: st) M := fun ls H locs hl hP hS => lv_lmul C.1 C.2.1 hdg (kk ls H locs hl hP hS)
theorem e_land (C : Cx p s m args c cc own nL g) {x y : Int64} (hdg : decode cc pc = .ok (.land, 1)) 
    (kk : E p l e R s m args below meth c g nL G k n (pc + 1) al (.long (x &&& y) :: st) M) : E p l e R s m args below meth c g nL G k n pc al (.long y :: .long x :: st) M := fun ls H locs hl hP hS => lv_land C.1 C.2.1 hdg (kk ls H locs hl hP hS)
theorem e_lor (C : Cx p s m args c cc own nL g) {x y : Int64} (hdg : decode cc pc = .ok (.lor, 1)) 
    (kk : E p l e R s m args below meth c g nL G k n (pc + 1) al (.long (x ||| y) :: st) M) : E p l e R s m args below meth c g nL G k n pc al (.long y :: .long x :: st) M := fun ls H locs hl hP hS => lv_lor C.1 C.2.1 hdg (kk ls H locs hl hP hS)
theorem e_ineg (C : Cx p s m args c cc own nL g) {x : Int32} (hdg : decode cc pc = .ok (.ineg, 1)) 
    (kk : E p l e R s m args below meth c g nL G k n (pc + 1) al (.int (-x) :: st) M) : E p l e R s m args below meth c g nL G k n pc al (.int x :: st) M := fun ls H locs hl hP hS => lv_ineg C.1 C.2.1 hdg (kk ls H locs hl hP hS)
theorem e_idiv (C : Cx p s m args c cc own nL g) {x y : Int32} (hdg : decode cc pc = .ok (.idiv, 1)) (hne : ¬ y = 0)
    (kk : E p l e R s m args below meth c g nL G k n (pc + 1) al (.int (x / y) :: st) M) : E p l e R s m args below meth c g nL G k n pc al (.int y :: .int x :: st) M := fun ls H locs hl hP hS => lv_idiv C.1 C.2.1 hdg hne (kk ls H locs hl hP hS)
theorem e_irem (C : Cx p s m args c cc own nL g) {x y : Int32} (hdg : decode cc pc = .ok (.irem, 1)) (hne : ¬ y = 0)
    (kk : E p l e R s m args below meth c g nL G k n (pc + 1) al (.int (x - x / y * y) :: st) M) : E p l e R s m args below meth c g nL G k n pc al (.int y :: .int x :: st) M := fun ls H locs hl hP hS => lv_irem C.1 C.2.1 hdg hne (kk ls H locs hl hP hS)
theorem e_ldiv (C : Cx p s m args c cc own nL g) {x y : Int64} (hdg : decode cc pc = .ok (.ldiv, 1)) (hne : ¬ y = 0)
    (kk : E p l e R s m args below meth c g nL G k n (pc + 1) al (.long (x / y) :: st) M) : E p l e R s m args below meth c g nL G k n pc al (.long y :: .long x :: st) M := fun ls H locs hl hP hS => lv_ldiv C.1 C.2.1 hdg hne (kk ls H locs hl hP hS)
theorem e_lrem (C : Cx p s m args c cc own nL g) {x y : Int64} (hdg : decode cc pc = .ok (.lrem, 1)) (hne : ¬ y = 0)
    (kk : E p l e R s m args below meth c g nL G k n (pc + 1) al (.long (x - x / y * y) :: st) M) : E p l e R s m args below meth c g nL G k n pc al (.long y :: .long x :: st) M := fun ls H locs hl hP hS => lv_lrem C.1 C.2.1 hdg hne (kk ls H locs hl hP hS)
theorem e_ishl (C : Cx p s m args c cc own nL g) {x y : Int32} (hdg : decode cc pc = .ok (.ishl, 1)) 
    (kk : E p l e R s m args below meth c g nL G k n (pc + 1) al (.int (x <<< (y &&& 31)) :: st) M) : E p l e R s m args below meth c g nL G k n pc al (.int y :: .int x :: st) M := fun ls H locs hl hP hS => lv_ishl C.1 C.2.1 hdg (kk ls H locs hl hP hS)
theorem e_ishr (C : Cx p s m args c cc own nL g) {x y : Int32} (hdg : decode cc pc = .ok (.ishr, 1)) 
    (kk : E p l e R s m args below meth c g nL G k n (pc + 1) al (.int (x >>> (y &&& 31)) :: st) M) : E p l e R s m args below meth c g nL G k n pc al (.int y :: .int x :: st) M := fun ls H locs hl hP hS => lv_ishr C.1 C.2.1 hdg (kk ls H locs hl hP hS)
theorem e_iushr (C : Cx p s m args c cc own nL g) {x y : Int32} (hdg : decode cc pc = .ok (.iushr, 1)) (kk : E p l e R s m args below meth c g nL G k n (pc + 1) al (.int ((x.toUInt32 >>> (y.toUInt32 &&& Int32.toUInt32 31)).toInt32) :: st) M) : E p l e R s m args below meth c g nL G k n pc al (.int y :: .int x :: st) M := fun ls H locs hl hP hS => lv_iushr C.1 C.2.1 hdg rfl (kk ls H locs hl hP hS)
theorem e_lshl (C : Cx p s m args c cc own nL g) {x : Int64} {y : Int32} (hdg : decode cc pc = .ok (.lshl, 1)) (kk : E p l e R s m args below meth c g nL G k n (pc + 1) al (.long (x <<< (y.toInt64 &&& 63)) :: st) M) : E p l e R s m args below meth c g nL G k n pc al (.int y :: .long x :: st) M := fun ls H locs hl hP hS => lv_lshl C.1 C.2.1 hdg rfl (kk ls H locs hl hP hS)
theorem e_i2l (C : Cx p s m args c cc own nL g) {x : Int32} (hdg : decode cc pc = .ok (.i2l, 1)) (kk : E p l e R s m args below meth c g nL G k n (pc + 1) al (.long x.toInt64 :: st) M) : E p l e R s m args below meth c g nL G k n pc al (.int x :: st) M := fun ls H locs hl hP hS => lv_i2l C.1 C.2.1 hdg rfl (kk ls H locs hl hP hS)
theorem e_l2i (C : Cx p s m args c cc own nL g) {x : Int64} (hdg : decode cc pc = .ok (.l2i, 1)) (kk : E p l e R s m args below meth c g nL G k n (pc + 1) al (.int x.toInt32 :: st) M) : E p l e R s m args below meth c g nL G k n pc al (.long x :: st) M := fun ls H locs hl hP hS => lv_l2i C.1 C.2.1 hdg rfl (kk ls H locs hl hP hS)
theorem e_i2b (C : Cx p s m args c cc own nL g) {x : Int32} (hdg : decode cc pc = .ok (.i2b, 1)) (kk : E p l e R s m args below meth c g nL G k n (pc + 1) al (.int x.toInt8.toInt32 :: st) M) : E p l e R s m args below meth c g nL G k n pc al (.int x :: st) M := fun ls H locs hl hP hS => lv_i2b C.1 C.2.1 hdg rfl (kk ls H locs hl hP hS)
theorem e_i2s (C : Cx p s m args c cc own nL g) {x : Int32} (hdg : decode cc pc = .ok (.i2s, 1)) (kk : E p l e R s m args below meth c g nL G k n (pc + 1) al (.int x.toInt16.toInt32 :: st) M) : E p l e R s m args below meth c g nL G k n pc al (.int x :: st) M := fun ls H locs hl hP hS => lv_i2s C.1 C.2.1 hdg rfl (kk ls H locs hl hP hS)
theorem e_lcmp (C : Cx p s m args c cc own nL g) {x y : Int64} (hdg : decode cc pc = .ok (.lcmp, 1)) (kk : E p l e R s m args below meth c g nL G k n (pc + 1) al (.int (lg_cmp x y) :: st) M) : E p l e R s m args below meth c g nL G k n pc al (.long y :: .long x :: st) M := fun ls H locs hl hP hS => W.lcmp C.1 C.2.1 hdg (kk ls H locs hl hP hS)
theorem e_dup (C : Cx p s m args c cc own nL g) {v : Value} (hv : v.category = 1) (hdg : decode cc pc = .ok (.dup, 1)) (kk : E p l e R s m args below meth c g nL G k n (pc + 1) al (v :: v :: st) M) : E p l e R s m args below meth c g nL G k n pc al (v :: st) M := fun ls H locs hl hP hS => lv_dup C.1 C.2.1 hdg (by rw [tr_cat]; exact hv) (kk ls H locs hl hP hS)
theorem e_pop (C : Cx p s m args c cc own nL g) {v : Value} (hv : v.category = 1) (hdg : decode cc pc = .ok (.pop, 1)) (kk : E p l e R s m args below meth c g nL G k n (pc + 1) al st M) : E p l e R s m args below meth c g nL G k n pc al (v :: st) M := fun ls H locs hl hP hS => lv_pop C.1 C.2.1 hdg (by rw [tr_cat]; exact hv) (kk ls H locs hl hP hS)
theorem e_dup2 (C : Cx p s m args c cc own nL g) {v w : Value} (hv : v.category = 1) (hw : w.category = 1) (hdg : decode cc pc = .ok (.dup2, 1)) (kk : E p l e R s m args below meth c g nL G k n (pc + 1) al (v :: w :: v :: w :: st) M) : E p l e R s m args below meth c g nL G k n pc al (v :: w :: st) M := fun ls H locs hl hP hS => lv_dup2_11 C.1 C.2.1 hdg (by rw [tr_cat]; exact hv) (by rw [tr_cat]; exact hw) (kk ls H locs hl hP hS)
theorem e_goto (C : Cx p s m args c cc own nL g) {off : Int} {tgt : Nat} (hdg : decode cc pc = .ok (.goto off, 3)) (ht : (pc : Int) + off = (tgt : Int)) (kk : E p l e R s m args below meth c g nL G k n tgt al st M) : E p l e R s m args below meth c g nL G k n pc al st M := fun ls H locs hl hP hS => lv_goto C.1 C.2.1 hdg ht (kk ls H locs hl hP hS)
theorem e_if_eq (C : Cx p s m args c cc own nL g) {x : Int32} {off : Int} {tgt : Nat} (hdg : decode cc pc = .ok (.ifCond .eq off, 3)) (ht : (pc : Int) + off = (tgt : Int)) (kt : x = 0 → E p l e R s m args below meth c g nL G k n tgt al st M) (kf : ¬ x = 0 → E p l e R s m args below meth c g nL G k n (pc + 3) al st M) : E p l e R s m args below meth c g nL G k n pc al (.int x :: st) M := fun ls H locs hl hP hS => lv_if_eq C.1 C.2.1 hdg ht (fun h => kt h ls H locs hl hP hS) (fun h => kf h ls H locs hl hP hS)
theorem e_icmp_eq (C : Cx p s m args c cc own nL g) {x y : Int32} {off : Int} {tgt : Nat} (hdg : decode cc pc = .ok (.if_icmp .eq off, 3)) (ht : (pc : Int) + off = (tgt : Int)) (kt : x = y → E p l e R s m args below meth c g nL G k n tgt al st M) (kf : ¬ x = y → E p l e R s m args below meth c g nL G k n (pc + 3) al st M) : E p l e R s m args below meth c g nL G k n pc al (.int y :: .int x :: st) M := fun ls H locs hl hP hS => lv_icmp_eq C.1 C.2.1 hdg ht (fun h => kt h ls H locs hl hP hS) (fun h => kf h ls H locs hl hP hS)
theorem e_if_ne (C : Cx p s m args c cc own nL g) {x : Int32} {off : Int} {tgt : Nat} (hdg : decode cc pc = .ok (.ifCond .ne off, 3)) (ht : (pc : Int) + off = (tgt : Int)) (kt : ¬ x = 0 → E p l e R s m args below meth c g nL G k n tgt al st M) (kf : x = 0 → E p l e R s m args below meth c g nL G k n (pc + 3) al st M) : E p l e R s m args below meth c g nL G k n pc al (.int x :: st) M := fun ls H locs hl hP hS => lv_if_ne C.1 C.2.1 hdg ht (fun h => kt h ls H locs hl hP hS) (fun h => kf h ls H locs hl hP hS)
theorem e_icmp_ne (C : Cx p s m args c cc own nL g) {x y : Int32} {off : Int} {tgt : Nat} (hdg : decode cc pc = .ok (.if_icmp .ne off, 3)) (ht : (pc : Int) + off = (tgt : Int)) (kt : ¬ x = y → E p l e R s m args below meth c g nL G k n tgt al st M) (kf : x = y → E p l e R s m args below meth c g nL G k n (pc + 3) al st M) : E p l e R s m args below meth c g nL G k n pc al (.int y :: .int x :: st) M := fun ls H locs hl hP hS => lv_icmp_ne C.1 C.2.1 hdg ht (fun h => kt h ls H locs hl hP hS) (fun h => kf h ls H locs hl hP hS)
theorem e_if_lt (C : Cx p s m args c cc own nL g) {x : Int32} {off : Int} {tgt : Nat} (hdg : decode cc pc = .ok (.ifCond .lt off, 3)) (ht : (pc : Int) + off = (tgt : Int)) (kt : x < 0 → E p l e R s m args below meth c g nL G k n tgt al st M) (kf : ¬ x < 0 → E p l e R s m args below meth c g nL G k n (pc + 3) al st M) : E p l e R s m args below meth c g nL G k n pc al (.int x :: st) M := fun ls H locs hl hP hS => lv_if_lt C.1 C.2.1 hdg ht (fun h => kt h ls H locs hl hP hS) (fun h => kf h ls H locs hl hP hS)
theorem e_icmp_lt (C : Cx p s m args c cc own nL g) {x y : Int32} {off : Int} {tgt : Nat} (hdg : decode cc pc = .ok (.if_icmp .lt off, 3)) (ht : (pc : Int) + off = (tgt : Int)) (kt : x < y → E p l e R s m args below meth c g nL G k n tgt al st M) (kf : ¬ x < y → E p l e R s m args below meth c g nL G k n (pc + 3) al st M) : E p l e R s m args below meth c g nL G k n pc al (.int y :: .int x :: st) M := fun ls H locs hl hP hS => lv_icmp_lt C.1 C.2.1 hdg ht (fun h => kt h ls H locs hl hP hS) (fun h => kf h ls H locs hl hP hS)
theorem e_if_ge (C : Cx p s m args c cc own nL g) {x : Int32} {off : Int} {tgt : Nat} (hdg : decode cc pc = .ok (.ifCond .ge off, 3)) (ht : (pc : Int) + off = (tgt : Int)) (kt : 0 ≤ x → E p l e R s m args below meth c g nL G k n tgt al st M) (kf : ¬ 0 ≤ x → E p l e R s m args below meth c g nL G k n (pc + 3) al st M) : E p l e R s m args below meth c g nL G k n pc al (.int x :: st) M := fun ls H locs hl hP hS => lv_if_ge C.1 C.2.1 hdg ht (fun h => kt h ls H locs hl hP hS) (fun h => kf h ls H locs hl hP hS)
theorem e_icmp_ge (C : Cx p s m args c cc own nL g) {x y : Int32} {off : Int} {tgt : Nat} (hdg : decode cc pc = .ok (.if_icmp .ge off, 3)) (ht : (pc : Int) + off = (tgt : Int)) (kt : y ≤ x → E p l e R s m args below meth c g nL G k n tgt al st M) (kf : ¬ y ≤ x → E p l e R s m args below meth c g nL G k n (pc + 3) al st M) : E p l e R s m args below meth c g nL G k n pc al (.int y :: .int x :: st) M := fun ls H locs hl hP hS => lv_icmp_ge C.1 C.2.1 hdg ht (fun h => kt h ls H locs hl hP hS) (fun h => kf h ls H locs hl hP hS)
theorem e_if_gt (C : Cx p s m args c cc own nL g) {x : Int32} {off : Int} {tgt : Nat} (hdg : decode cc pc = .ok (.ifCond .gt off, 3)) (ht : (pc : Int) + off = (tgt : Int)) (kt : 0 < x → E p l e R s m args below meth c g nL G k n tgt al st M) (kf : ¬ 0 < x → E p l e R s m args below meth c g nL G k n (pc + 3) al st M) : E p l e R s m args below meth c g nL G k n pc al (.int x :: st) M := fun ls H locs hl hP hS => lv_if_gt C.1 C.2.1 hdg ht (fun h => kt h ls H locs hl hP hS) (fun h => kf h ls H locs hl hP hS)
theorem e_icmp_gt (C : Cx p s m args c cc own nL g) {x y : Int32} {off : Int} {tgt : Nat} (hdg : decode cc pc = .ok (.if_icmp .gt off, 3)) (ht : (pc : Int) + off = (tgt : Int)) (kt : y < x → E p l e R s m args below meth c g nL G k n tgt al st M) (kf : ¬ y < x → E p l e R s m args below meth c g nL G k n (pc + 3) al st M) : E p l e R s m args below meth c g nL G k n pc al (.int y :: .int x :: st) M := fun ls H locs hl hP hS => lv_icmp_gt C.1 C.2.1 hdg ht (fun h => kt h ls H locs hl hP hS) (fun h => kf h ls H locs hl hP hS)
theorem e_if_le (C : Cx p s m args c cc own nL g) {x : Int32} {off : Int} {tgt : Nat} (hdg : decode cc pc = .ok (.ifCond .le off, 3)) (ht : (pc : Int) + off = (tgt : Int)) (kt : x ≤ 0 → E p l e R s m args below meth c g nL G k n tgt al st M) (kf : ¬ x ≤ 0 → E p l e R s m args below meth c g nL G k n (pc + 3) al st M) : E p l e R s m args below meth c g nL G k n pc al (.int x :: st) M := fun ls H locs hl hP hS => lv_if_le C.1 C.2.1 hdg ht (fun h => kt h ls H locs hl hP hS) (fun h => kf h ls H locs hl hP hS)
theorem e_icmp_le (C : Cx p s m args c cc own nL g) {x y : Int32} {off : Int} {tgt : Nat} (hdg : decode cc pc = .ok (.if_icmp .le off, 3)) (ht : (pc : Int) + off = (tgt : Int)) (kt : x ≤ y → E p l e R s m args below meth c g nL G k n tgt al st M) (kf : ¬ x ≤ y → E p l e R s m args below meth c g nL G k n (pc + 3) al st M) : E p l e R s m args below meth c g nL G k n pc al (.int y :: .int x :: st) M := fun ls H locs hl hP hS => lv_icmp_le C.1 C.2.1 hdg ht (fun h => kt h ls H locs hl hP hS) (fun h => kf h ls H locs hl hP hS)
theorem e_ifnull (C : Cx p s m args c cc own nL g) {x : Option Nat} {off : Int} {tgt : Nat} (hdg : decode cc pc = .ok (.ifnull off, 3)) (ht : (pc : Int) + off = (tgt : Int)) (kt : x = none → E p l e R s m args below meth c g nL G k n tgt al st M) (kf : ∀ a, x = some a → E p l e R s m args below meth c g nL G k n (pc + 3) al st M) : E p l e R s m args below meth c g nL G k n pc al (va_rf x :: st) M := by
  cases x with
  | none => exact fun ls H locs hl hP hS => lv_ifnullN C.1 C.2.1 hdg ht (kt rfl ls H locs hl hP hS)
  | some a => exact fun ls H locs hl hP hS => lv_ifnull C.1 C.2.1 hdg (kf a rfl ls H locs hl hP hS)
theorem e_ifnonnull (C : Cx p s m args c cc own nL g) {x : Option Nat} {off : Int} {tgt : Nat} (hdg : decode cc pc = .ok (.ifnonnull off, 3)) (ht : (pc : Int) + off = (tgt : Int)) (kt : ∀ a, x = some a → E p l e R s m args below meth c g nL G k n tgt al st M) (kf : x = none → E p l e R s m args below meth c g nL G k n (pc + 3) al st M) : E p l e R s m args below meth c g nL G k n pc al (va_rf x :: st) M := by
  cases x with
  | none => exact fun ls H locs hl hP hS => lv_ifnonnullN C.1 C.2.1 hdg (kf rfl ls H locs hl hP hS)
  | some a => exact fun ls H locs hl hP hS => lv_ifnonnull C.1 C.2.1 hdg ht (kt a rfl ls H locs hl hP hS)
theorem e_tin (C : Cx p s m args c cc own nL g) {dflt lo hi : Int} {offs : Array Int} {len : Nat} {x : Int32} {off : Int} {tgt : Nat} (hdg : decode cc pc = .ok (.tableswitch dflt lo hi offs, len)) (h1 : ¬ x.toInt < lo) (h2 : ¬ hi < x.toInt) (ho : offs[(x.toInt - lo).toNat]? = some off) (ht : (pc : Int) + off = (tgt : Int)) (kk : E p l e R s m args below meth c g nL G k n tgt al st M) : E p l e R s m args below meth c g nL G k n pc al (.int x :: st) M := fun ls H locs hl hP hS => lv_tableIn C.1 C.2.1 hdg h1 h2 ho ht (kk ls H locs hl hP hS)
theorem e_tout (C : Cx p s m args c cc own nL g) {dflt lo hi : Int} {offs : Array Int} {len : Nat} {x : Int32} {tgt : Nat} (hdg : decode cc pc = .ok (.tableswitch dflt lo hi offs, len)) (h : x.toInt < lo ∨ hi < x.toInt) (ht : (pc : Int) + dflt = (tgt : Int)) (kk : E p l e R s m args below meth c g nL G k n tgt al st M) : E p l e R s m args below meth c g nL G k n pc al (.int x :: st) M := fun ls H locs hl hP hS => lv_tableOut C.1 C.2.1 hdg h ht (kk ls H locs hl hP hS)
theorem e_look (C : Cx p s m args c cc own nL g) {dflt : Int} {ps : Array (Int × Int)} {len : Nat} {x : Int32} {off : Int} {tgt : Nat} (hdg : decode cc pc = .ok (.lookupswitch dflt ps, len)) (hp : (ps.toList.zip (ps.toList.drop 1)).all (fun (a, next) => a.1 < next.1) = true) (ho : Op.lookupswitch.offset ps.toList dflt x.toInt = off) (ht : (pc : Int) + off = (tgt : Int)) (kk : E p l e R s m args below meth c g nL G k n tgt al st M) : E p l e R s m args below meth c g nL G k n pc al (.int x :: st) M := fun ls H locs hl hP hS => lv_lookup C.1 C.2.1 hdg hp ho ht (kk ls H locs hl hP hS)
theorem e_pick (ks : List Nat) {al' : List (Nat × Value)} (h : lv_pick al ks = al') (kk : E p l e R s m args below meth c g nL G k n pc al' st M) : E p l e R s m args below meth c g nL G k n pc al st M := fun ls H locs hl hP hS => kk ls H locs (Al_sub hl ks h) hP hS
theorem e_eq {al' : List (Nat × Value)} {st' : List Value} {M' : Mem} (h1 : al = al') (h2 : st = st') (h3 : M = M') (kk : E p l e R s m args below meth c g nL G k n pc al' st' M') : E p l e R s m args below meth c g nL G k n pc al st M := by subst h1; subst h2; subst h3; exact kk
end ROWS

/-! ===== fields ===== -/
def tI (ty : FieldType) : Bool := match ty with
  | .object _ => false
  | .array _ => false
  | .long => false
  | _ => true
def tR (ty : FieldType) : Bool := match ty with
  | .object _ => true
  | .array _ => true
  | _ => false
def isO (M : Mem) (a : Nat) (cs : List Nat) : Prop := ∃ ci, ci ∈ cs ∧ mS M a = .inl ci
def isA (M : Mem) (a t : Nat) (i : Int32) : Prop := ∃ len, mS M a = .inr (t, len) ∧ vp_in i len
/-- what the tables say of a field: class ci holds it at place k, and this constant links to it -/
def FL (own : String) (index ci k : Nat) (fin : Bool) : Prop := ∃ (K : String) (T : u_T) (N : Nat) (ref : String), vwCl[ci]? = some (K, T, N) ∧ k < N ∧ (∀ w ∈ u_ws K T N, w ∈ lw_good) ∧ Cond.fieldLink own index ref (T k).2.1 (T k).2.2.1 ∈ lw_good ∧ ((T k).1 = ref ∨ Cond.sameField ref (T k).1 (T k).2.1 (T k).2.2.1 ∈ lw_good) ∧ clN ci = N ∧ (∀ j, j < N → parseFieldDescriptor (T j).2.2.1 = some (tyC ci j)) ∧ (∀ x, x < N → ∀ y, y < N → x ≠ y → (T x).2.1 ≠ (T y).2.1) ∧ (T k).2.2.2 = fin ∧ (fin = true → (T k).1 = own)
/-- the same for a read: a final field of any class -/
def FLg (own : String) (index ci k : Nat) : Prop := ∃ (K : String) (T : u_T) (N : Nat) (ref : String), vwCl[ci]? = some (K, T, N) ∧ k < N ∧ (∀ w ∈ u_ws K T N, w ∈ lw_good) ∧ Cond.fieldLink own index ref (T k).2.1 (T k).2.2.1 ∈ lw_good ∧ ((T k).1 = ref ∨ Cond.sameField ref (T k).1 (T k).2.1 (T k).2.2.1 ∈ lw_good) ∧ clN ci = N ∧ (∀ j, j < N → parseFieldDescriptor (T j).2.2.1 = some (tyC ci j)) ∧ (∀ x, x < N → ∀ y, y < N → x ≠ y → (T x).2.1 ≠ (T y).2.1)
theorem ce_obj {g : Geo} {M : Mem} {a ci : Nat} (h : mS M a = .inl ci) : ce g M a = .inr (ci, (List.range (clN ci)).map (fun k => fv g M (tyC ci k) a k)) := by unfold ce; rw [h]
theorem ce_arr {g : Geo} {M : Mem} {a t len : Nat} (h : mS M a = .inr (t, len)) : ce g M a = .inl (g.2.2.2.2 t, len, cn g M a t) := by unfold ce; rw [h]
theorem ce_eq {g : Geo} {M M' : Mem} {b : Nat} (hs : mS M' b = mS M b) (hI : mI M' b = mI M b) (hL : mL M' b = mL M b) (hR : mP M' b = mP M b) : ce g M' b = ce g M b := by
  have hf : ∀ (ty : FieldType) (k : Nat), fv g M' ty b k = fv g M ty b k := by
    intro ty k
    unfold fv
    rw [hI, hL, hR]
  have hc : ∀ t, cn g M' b t = cn g M b t := by
    intro t
    unfold cn
    rw [hI, hL, hR]
  unfold ce
  rw [hs]
  cases mS M b with
  | inl ci => simp only [hf]
  | inr q => simp only [hc]
theorem vpv_range (N : Nat) (f : Nat → Value) {j : Nat} (h : j < N) : vp_V ((List.range N).map f) j = f j := by
  unfold vp_V
  rw [List.getD_eq_getElem?_getD, List.getElem?_map, List.getElem?_range h]
  rfl
theorem Pic.lt {g : Geo} {M : Mem} {H : Heap} {a : Nat} (hP : Pic g M H) (h : mS M a ≠ .inl 99) : a < mN M := by
  rcases Nat.lt_or_ge a (mN M) with q | q
  · exact q
  · exact absurd (hP.2.2 a q) h
theorem Pic.at {g : Geo} {M : Mem} {H : Heap} {a : Nat} (hP : Pic g M H) (h : mS M a ≠ .inl 99) : va_at (gD g) vwCl (g.1 + a, ce g M a) H := hP.2.1 a (hP.lt h)
theorem Pic.put {g : Geo} {M M' : Mem} {H H' : Heap} {a : Nat} (hP : Pic g M H) (ha : a < mN M) (hn : mN M' = mN M) (hs : mS M' = mS M) (hI : ∀ b, b ≠ a → mI M' b = mI M b) (hL : ∀ b, b ≠ a → mL M' b = mL M b) (hR : ∀ b, b ≠ a → mP M' b = mP M b)
    (hat : va_at (gD g) vwCl (g.1 + a, ce g M' a) H') (z : H'.size = H.size) (oq : ∀ q : Nat, q ≠ g.1 + a → H'[q]? = H[q]?) : Pic g M' H' := by
  refine ⟨by rw [z, hn]; exact hP.1, fun b hb => ?_, fun b hb => by rw [hs]; exact hP.2.2 b (by rw [← hn]; exact hb)⟩
  by_cases e : b = a
  · subst e
    exact hat
  · rw [ce_eq (by rw [hs]) (hI b e) (hL b e) (hR b e)]
    exact (hP.2.1 b (by rw [← hn]; exact hb)).kept (oq _ (fun q => e (Nat.add_left_cancel q)))
theorem isO.clsg {own : String} {index ci k : Nat} (h : FLg own index ci k) : ci ≠ 99 := by
  obtain ⟨K, T, N, ref, h1, -⟩ := h
  intro e
  subst e
  simp [vwCl] at h1
theorem isO.cls {own : String} {index ci k : Nat} {fin : Bool} (h : FL own index ci k fin) : ci ≠ 99 := by
  obtain ⟨K, T, N, ref, h1, -⟩ := h
  intro e
  subst e
  simp [vwCl] at h1
section FLD
variable {p : Program} {l : Launch} {e : Env} {R : Room} {s : State} {m : MethodId} {args : Array Value} {below : List Frame} {meth : Method} {c : Code} {cc : ByteArray} {own : String} {nL : Nat} {g : Geo} {G : State → Prop} {k n pc : Nat} {al : List (Nat × Value)} {st : List Value} {M : Mem}
theorem e_getI (C : Cx p s m args c cc own nL g) {index a : Nat} (cs : List Nat) (q : Nat) (hf : ∀ ci ∈ cs, FLg own index ci q ∧ tI (tyC ci q) = true) (ho : isO M a cs) (hdg : decode cc pc = .ok (.getfield index, 3)) (kk : E p l e R s m args below meth c g nL G k n (pc + 3) al (.int (mI M a q) :: st) M) : E p l e R s m args below meth c g nL G k n pc al (.ref a :: st) M := by
  intro ls H locs hl hP hS
  obtain ⟨ci, hci, hS0⟩ := ho
  obtain ⟨hF, hty⟩ := hf ci hci
  have h99 := isO.clsg hF
  obtain ⟨K, T, N, ref, h1, h2, h3, h4, h5, h6, h7, h8⟩ := hF
  have hat := hP.at (a := a) (by rw [hS0]; exact fun z => h99 (Sum.inl.inj z))
  rw [ce_obj hS0, h6] at hat
  refine va_get (D := gD g) (cl := vwCl) (tys := []) (ws := [(g.1 + a, .inr (ci, (List.range N).map (fun k => fv g M (tyC ci k) a k)))]) (ci := ci) (C := K) (T := T) (N := N) (ref := ref) C.1 C.2.1 (fun w hw => C.2.2.2.2.1 w hw) h3 C.2.2.2.1 ⟨C.2.2.2.2.2.1, fun k z h => by simp at h⟩ (fun k z h => ?_) 0 rfl h1 q h2 (C.2.2.2.2.1 _ h4) ?_ (v := tr g (.int (mI M a q))) ?_ hdg (kk ls H locs hl hP hS)
  · cases k with
    | zero => cases h; exact hat
    | succ k => simp at h
  · intro x hx
    rcases h5 with h5 | h5
    · rw [← h5]; exact hx
    · exact u_same (C.2.2.2.2.1 _ h5) x hx
  · rw [List.getElem?_map, List.getElem?_range h2]
    show some (fv g M (tyC ci q) a q) = _
    revert hty
    cases tyC ci q <;> intro hty <;> first | cases hty | skip
    all_goals first | rfl | (rw [tr_rf]; rfl)
theorem e_getR (C : Cx p s m args c cc own nL g) {index a : Nat} (cs : List Nat) (q : Nat) (hf : ∀ ci ∈ cs, FLg own index ci q ∧ tR (tyC ci q) = true) (ho : isO M a cs) (hdg : decode cc pc = .ok (.getfield index, 3)) (kk : E p l e R s m args below meth c g nL G k n (pc + 3) al (va_rf (mP M a q) :: st) M) : E p l e R s m args below meth c g nL G k n pc al (.ref a :: st) M := by
  intro ls H locs hl hP hS
  obtain ⟨ci, hci, hS0⟩ := ho
  obtain ⟨hF, hty⟩ := hf ci hci
  have h99 := isO.clsg hF
  obtain ⟨K, T, N, ref, h1, h2, h3, h4, h5, h6, h7, h8⟩ := hF
  have hat := hP.at (a := a) (by rw [hS0]; exact fun z => h99 (Sum.inl.inj z))
  rw [ce_obj hS0, h6] at hat
  refine va_get (D := gD g) (cl := vwCl) (tys := []) (ws := [(g.1 + a, .inr (ci, (List.range N).map (fun k => fv g M (tyC ci k) a k)))]) (ci := ci) (C := K) (T := T) (N := N) (ref := ref) C.1 C.2.1 (fun w hw => C.2.2.2.2.1 w hw) h3 C.2.2.2.1 ⟨C.2.2.2.2.2.1, fun k z h => by simp at h⟩ (fun k z h => ?_) 0 rfl h1 q h2 (C.2.2.2.2.1 _ h4) ?_ (v := tr g (va_rf (mP M a q))) ?_ hdg (kk ls H locs hl hP hS)
  · cases k with
    | zero => cases h; exact hat
    | succ k => simp at h
  · intro x hx
    rcases h5 with h5 | h5
    · rw [← h5]; exact hx
    · exact u_same (C.2.2.2.2.1 _ h5) x hx
  · rw [List.getElem?_map, List.getElem?_range h2]
    show some (fv g M (tyC ci q) a q) = _
    revert hty
    cases tyC ci q <;> intro hty <;> first | cases hty | skip
    all_goals first | rfl | (rw [tr_rf]; rfl)
theorem e_putI (C : Cx p s m args c cc own nL g) {index a : Nat} {x : Int32} (cs : List Nat) (q : Nat) (fin : Bool) (hfin : fin = true → meth.name = "<init>") (hf : ∀ ci ∈ cs, FL own index ci q fin ∧ tyC ci q = .int) (ho : isO M a cs) (hdg : decode cc pc = .ok (.putfield index, 3)) (kk : E p l e R s m args below meth c g nL G k n (pc + 3) al st (sI M a q x)) : E p l e R s m args below meth c g nL G k n pc al (.int x :: .ref a :: st) M := by
  intro ls H locs hl hP hS
  obtain ⟨ci, hci, hS0⟩ := ho
  obtain ⟨hF, hty⟩ := hf ci hci
  have h99 := isO.cls hF
  obtain ⟨K, T, N, ref, h1, h2, h3, h4, h5, h6, h7, h8, h9, h10⟩ := hF
  have hne : mS M a ≠ .inl 99 := by rw [hS0]; exact fun z => h99 (Sum.inl.inj z)
  have hlt := hP.lt hne
  have hat := hP.at hne
  rw [ce_obj hS0, h6] at hat
  obtain ⟨r0, hr0, cell, q1, q2, q3, q4⟩ := hat
  have hr : r0 = (K, T, N) := Option.some.inj (hr0.symm.trans h1)
  subst hr
  have hK : va_K (gD g) vwCl [] s := ⟨C.2.2.2.2.2.1, fun k z h => by simp at h⟩
  have hap := va_apart (own := own) (cl := vwCl) (tys := []) (D := gD g) (fun w hw => C.2.2.2.2.1 w hw) h3 (tyC ci) h7 h8 hK h1
  obtain ⟨hSl, hfc, kC, hkC, hkind⟩ := hK.1 ci _ h1
  obtain ⟨cf, kf, fi, f, hi, hsl⟩ := hSl q h2
  have hlay := C.2.2.2.2.1 _ (h3 _ (u_in_lay h2))
  unfold u_lay at hlay
  have hst := (u_facts hfc hkC (u_lays (ws := lw_good) (fun w hw => C.2.2.2.2.1 w hw) h3 h2) hi).1
  have hsame : ∀ y, s.fieldFound? (T q).1 (T q).2.1 (T q).2.2.1 = some y → s.fieldFound? ref (T q).2.1 (T q).2.2.1 = some y := by
    intro y hy
    rcases h5 with h5 | h5
    · rw [← h5]; exact hy
    · exact u_same (C.2.2.2.2.1 _ h5) y hy
  have hnar : narrow (tyC ci q) (tr g (.int x)) = tr g (.int x) ∧ fits (tyC ci q) (tr g (.int x)) = true := by
    rw [hty]; exact ⟨rfl, rfl⟩
  have fin2 : ∀ (H' : Heap), H'[g.1 + a]? = some (cell.setSlot (g.2.2.2.1 ci q) (tr g (.int x))) → H'.size = H.size → (∀ y : Nat, y ≠ g.1 + a → H'[y]? = H[y]?) → Pic g (sI M a q x) H' := by
    intro H' e1 e2 e3
    refine hP.put hlt rfl rfl ?_ ?_ ?_ ?_ e2 e3
    · intro b hb; first | rfl | exact u2_row _ _ _ hb
    · intro b hb; first | rfl | exact u2_row _ _ _ hb
    · intro b hb; first | rfl | exact u2_row _ _ _ hb
    rw [ce_obj (show mS (sI M a q x) a = .inl ci from hS0), h6]
    refine ⟨_, h1, t_OB.to (V := updV (vp_V ((List.range N).map (fun k => fv g M (tyC ci k) a k))) q (tr g (.int x))) ⟨_, e1, q2, q3, t_set q4 hap h2 (tr g (.int x))⟩ (fun j hj => ?_)⟩
    have hj2 : j < N := hj
    rw [vpv_range N _ hj2]
    unfold updV
    by_cases e : j = q
    · subst e
      rw [if_pos rfl]
      rw [hty]
      show _ = Value.int (u2 _ _ _ _ _ _)
      rw [u2_same]
      rfl
    · rw [if_neg e, vpv_range N _ hj2]
      unfold fv
      cases tyC ci j <;> first | rfl | (show Value.int _ = Value.int (u2 _ _ _ _ _ _); rw [u2_ne _ _ (Or.inr e)]; rfl) | (show va_rf (rl g _) = va_rf (rl g (u2 _ _ _ _ _ _)); rw [u2_ne _ _ (Or.inr e)]; rfl)
  cases fin with
  | false =>
    rw [if_neg (by rw [h9]; decide)] at hlay
    have h6' := u_store hfc hkC hkind hlay hi (h7 q h2) hnar.1 hnar.2
    refine W.putK C.1 C.2.1 (f := f) ⟨C.2.2.2.1, C.2.2.2.2.1 _ h4, ⟨_, _, _, hsame _ hi⟩, hst⟩ (by rw [q2]; exact h6') q1 q3 (by rw [hsl]; exact k2_hasslot (q4 q h2)) rfl rfl hdg fun H' e1 e2 e3 => ?_
    rw [hsl] at e1 ⊢
    exact kk ls H' _ hl (fin2 H' e1 e2 e3) (hS.put e2 e3 (Nat.le_add_right _ _))
  | true =>
    rw [if_pos h9] at hlay
    have hcf : m.cls = cf := by
      obtain ⟨_, _, c', _, _, _, -, -, hf', -, -, -, hown2, -⟩ := Cond.laysFinal_spec hlay
      have e1 : c' = cf := by have := hi.symm.trans hf'; simp at this; exact this.1.symm
      rw [h10 rfl] at hown2
      rw [← e1]; exact Option.some.inj (C.2.2.2.1.symm.trans hown2)
    have h6' := u_fits hfc hkC hkind (Or.inr hlay) hi (h7 q h2) hnar.1 hnar.2
    refine W.putFinK C.1 C.2.1 C.2.2.2.1 (C.2.2.2.2.1 _ h4) (hsame _ hi) hst hcf (hfin rfl) (by rw [q2]; exact h6') q1 q3 (by rw [hsl]; exact k2_hasslot (q4 q h2)) rfl rfl hdg fun H' e1 e2 e3 => ?_
    rw [hsl] at e1 ⊢
    exact kk ls H' _ hl (fin2 H' e1 e2 e3) (hS.put e2 e3 (Nat.le_add_right _ _))
theorem e_putZ (C : Cx p s m args c cc own nL g) {index a : Nat} {x : Int32} (cs : List Nat) (q : Nat) (fin : Bool) (hfin : fin = true → meth.name = "<init>") (hf : ∀ ci ∈ cs, FL own index ci q fin ∧ tyC ci q = .boolean ∧ narrow .boolean (.int x) = .int x ∧ fits .boolean (.int x) = true) (ho : isO M a cs) (hdg : decode cc pc = .ok (.putfield index, 3)) (kk : E p l e R s m args below meth c g nL G k n (pc + 3) al st (sI M a q x)) : E p l e R s m args below meth c g nL G k n pc al (.int x :: .ref a :: st) M := by
  intro ls H locs hl hP hS
  obtain ⟨ci, hci, hS0⟩ := ho
  obtain ⟨hF, hty⟩ := hf ci hci
  have h99 := isO.cls hF
  obtain ⟨K, T, N, ref, h1, h2, h3, h4, h5, h6, h7, h8, h9, h10⟩ := hF
  have hne : mS M a ≠ .inl 99 := by rw [hS0]; exact fun z => h99 (Sum.inl.inj z)
  have hlt := hP.lt hne
  have hat := hP.at hne
  rw [ce_obj hS0, h6] at hat
  obtain ⟨r0, hr0, cell, q1, q2, q3, q4⟩ := hat
  have hr : r0 = (K, T, N) := Option.some.inj (hr0.symm.trans h1)
  subst hr
  have hK : va_K (gD g) vwCl [] s := ⟨C.2.2.2.2.2.1, fun k z h => by simp at h⟩
  have hap := va_apart (own := own) (cl := vwCl) (tys := []) (D := gD g) (fun w hw => C.2.2.2.2.1 w hw) h3 (tyC ci) h7 h8 hK h1
  obtain ⟨hSl, hfc, kC, hkC, hkind⟩ := hK.1 ci _ h1
  obtain ⟨cf, kf, fi, f, hi, hsl⟩ := hSl q h2
  have hlay := C.2.2.2.2.1 _ (h3 _ (u_in_lay h2))
  unfold u_lay at hlay
  have hst := (u_facts hfc hkC (u_lays (ws := lw_good) (fun w hw => C.2.2.2.2.1 w hw) h3 h2) hi).1
  have hsame : ∀ y, s.fieldFound? (T q).1 (T q).2.1 (T q).2.2.1 = some y → s.fieldFound? ref (T q).2.1 (T q).2.2.1 = some y := by
    intro y hy
    rcases h5 with h5 | h5
    · rw [← h5]; exact hy
    · exact u_same (C.2.2.2.2.1 _ h5) y hy
  have hnar : narrow (tyC ci q) (tr g (.int x)) = tr g (.int x) ∧ fits (tyC ci q) (tr g (.int x)) = true := by
    rw [hty.1]; exact hty.2
  have fin2 : ∀ (H' : Heap), H'[g.1 + a]? = some (cell.setSlot (g.2.2.2.1 ci q) (tr g (.int x))) → H'.size = H.size → (∀ y : Nat, y ≠ g.1 + a → H'[y]? = H[y]?) → Pic g (sI M a q x) H' := by
    intro H' e1 e2 e3
    refine hP.put hlt rfl rfl ?_ ?_ ?_ ?_ e2 e3
    · intro b hb; first | rfl | exact u2_row _ _ _ hb
    · intro b hb; first | rfl | exact u2_row _ _ _ hb
    · intro b hb; first | rfl | exact u2_row _ _ _ hb
    rw [ce_obj (show mS (sI M a q x) a = .inl ci from hS0), h6]
    refine ⟨_, h1, t_OB.to (V := updV (vp_V ((List.range N).map (fun k => fv g M (tyC ci k) a k))) q (tr g (.int x))) ⟨_, e1, q2, q3, t_set q4 hap h2 (tr g (.int x))⟩ (fun j hj => ?_)⟩
    have hj2 : j < N := hj
    rw [vpv_range N _ hj2]
    unfold updV
    by_cases e : j = q
    · subst e
      rw [if_pos rfl]
      rw [hty.1]
      show _ = Value.int (u2 _ _ _ _ _ _)
      rw [u2_same]
      rfl
    · rw [if_neg e, vpv_range N _ hj2]
      unfold fv
      cases tyC ci j <;> first | rfl | (show Value.int _ = Value.int (u2 _ _ _ _ _ _); rw [u2_ne _ _ (Or.inr e)]; rfl) | (show va_rf (rl g _) = va_rf (rl g (u2 _ _ _ _ _ _)); rw [u2_ne _ _ (Or.inr e)]; rfl)
  cases fin with
  | false =>
    rw [if_neg (by rw [h9]; decide)] at hlay
    have h6' := u_store hfc hkC hkind hlay hi (h7 q h2) hnar.1 hnar.2
    refine W.putK C.1 C.2.1 (f := f) ⟨C.2.2.2.1, C.2.2.2.2.1 _ h4, ⟨_, _, _, hsame _ hi⟩, hst⟩ (by rw [q2]; exact h6') q1 q3 (by rw [hsl]; exact k2_hasslot (q4 q h2)) rfl rfl hdg fun H' e1 e2 e3 => ?_
    rw [hsl] at e1 ⊢
    exact kk ls H' _ hl (fin2 H' e1 e2 e3) (hS.put e2 e3 (Nat.le_add_right _ _))
  | true =>
    rw [if_pos h9] at hlay
    have hcf : m.cls = cf := by
      obtain ⟨_, _, c', _, _, _, -, -, hf', -, -, -, hown2, -⟩ := Cond.laysFinal_spec hlay
      have e1 : c' = cf := by have := hi.symm.trans hf'; simp at this; exact this.1.symm
      rw [h10 rfl] at hown2
      rw [← e1]; exact Option.some.inj (C.2.2.2.1.symm.trans hown2)
    have h6' := u_fits hfc hkC hkind (Or.inr hlay) hi (h7 q h2) hnar.1 hnar.2
    refine W.putFinK C.1 C.2.1 C.2.2.2.1 (C.2.2.2.2.1 _ h4) (hsame _ hi) hst hcf (hfin rfl) (by rw [q2]; exact h6') q1 q3 (by rw [hsl]; exact k2_hasslot (q4 q h2)) rfl rfl hdg fun H' e1 e2 e3 => ?_
    rw [hsl] at e1 ⊢
    exact kk ls H' _ hl (fin2 H' e1 e2 e3) (hS.put e2 e3 (Nat.le_add_right _ _))
theorem e_putR (C : Cx p s m args c cc own nL g) {index a : Nat} {x : Option Nat} (cs : List Nat) (q : Nat) (fin : Bool) (hfin : fin = true → meth.name = "<init>") (hf : ∀ ci ∈ cs, FL own index ci q fin ∧ tR (tyC ci q) = true) (ho : isO M a cs) (hdg : decode cc pc = .ok (.putfield index, 3)) (kk : E p l e R s m args below meth c g nL G k n (pc + 3) al st (sP M a q x)) : E p l e R s m args below meth c g nL G k n pc al (va_rf x :: .ref a :: st) M := by
  intro ls H locs hl hP hS
  obtain ⟨ci, hci, hS0⟩ := ho
  obtain ⟨hF, hty⟩ := hf ci hci
  have h99 := isO.cls hF
  obtain ⟨K, T, N, ref, h1, h2, h3, h4, h5, h6, h7, h8, h9, h10⟩ := hF
  have hne : mS M a ≠ .inl 99 := by rw [hS0]; exact fun z => h99 (Sum.inl.inj z)
  have hlt := hP.lt hne
  have hat := hP.at hne
  rw [ce_obj hS0, h6] at hat
  obtain ⟨r0, hr0, cell, q1, q2, q3, q4⟩ := hat
  have hr : r0 = (K, T, N) := Option.some.inj (hr0.symm.trans h1)
  subst hr
  have hK : va_K (gD g) vwCl [] s := ⟨C.2.2.2.2.2.1, fun k z h => by simp at h⟩
  have hap := va_apart (own := own) (cl := vwCl) (tys := []) (D := gD g) (fun w hw => C.2.2.2.2.1 w hw) h3 (tyC ci) h7 h8 hK h1
  obtain ⟨hSl, hfc, kC, hkC, hkind⟩ := hK.1 ci _ h1
  obtain ⟨cf, kf, fi, f, hi, hsl⟩ := hSl q h2
  have hlay := C.2.2.2.2.1 _ (h3 _ (u_in_lay h2))
  unfold u_lay at hlay
  have hst := (u_facts hfc hkC (u_lays (ws := lw_good) (fun w hw => C.2.2.2.2.1 w hw) h3 h2) hi).1
  have hsame : ∀ y, s.fieldFound? (T q).1 (T q).2.1 (T q).2.2.1 = some y → s.fieldFound? ref (T q).2.1 (T q).2.2.1 = some y := by
    intro y hy
    rcases h5 with h5 | h5
    · rw [← h5]; exact hy
    · exact u_same (C.2.2.2.2.1 _ h5) y hy
  have hnar : narrow (tyC ci q) (tr g (va_rf x)) = tr g (va_rf x) ∧ fits (tyC ci q) (tr g (va_rf x)) = true := by
    rw [tr_rf]
    revert hty
    cases tyC ci q <;> intro hty <;> first | cases hty | skip
    all_goals (cases rl g x <;> exact ⟨rfl, rfl⟩)
  have fin2 : ∀ (H' : Heap), H'[g.1 + a]? = some (cell.setSlot (g.2.2.2.1 ci q) (tr g (va_rf x))) → H'.size = H.size → (∀ y : Nat, y ≠ g.1 + a → H'[y]? = H[y]?) → Pic g (sP M a q x) H' := by
    intro H' e1 e2 e3
    refine hP.put hlt rfl rfl ?_ ?_ ?_ ?_ e2 e3
    · intro b hb; first | rfl | exact u2_row _ _ _ hb
    · intro b hb; first | rfl | exact u2_row _ _ _ hb
    · intro b hb; first | rfl | exact u2_row _ _ _ hb
    rw [ce_obj (show mS (sP M a q x) a = .inl ci from hS0), h6]
    refine ⟨_, h1, t_OB.to (V := updV (vp_V ((List.range N).map (fun k => fv g M (tyC ci k) a k))) q (tr g (va_rf x))) ⟨_, e1, q2, q3, t_set q4 hap h2 (tr g (va_rf x))⟩ (fun j hj => ?_)⟩
    have hj2 : j < N := hj
    rw [vpv_range N _ hj2]
    unfold updV
    by_cases e : j = q
    · subst e
      rw [if_pos rfl]
      revert hty
      cases tyC ci j <;> intro hty <;> first | cases hty | skip
      all_goals first | (show _ = Value.int (u2 _ _ _ _ _ _); rw [u2_same]; rfl) | (rw [tr_rf]; show _ = va_rf (rl g (u2 _ _ _ _ _ _)); rw [u2_same])
    · rw [if_neg e, vpv_range N _ hj2]
      unfold fv
      cases tyC ci j <;> first | rfl | (show Value.int _ = Value.int (u2 _ _ _ _ _ _); rw [u2_ne _ _ (Or.inr e)]; rfl) | (show va_rf (rl g _) = va_rf (rl g (u2 _ _ _ _ _ _)); rw [u2_ne _ _ (Or.inr e)]; rfl)
  cases fin with
  | false =>
    rw [if_neg (by rw [h9]; decide)] at hlay
    have h6' := u_store hfc hkC hkind hlay hi (h7 q h2) hnar.1 hnar.2
    refine W.putK C.1 C.2.1 (f := f) ⟨C.2.2.2.1, C.2.2.2.2.1 _ h4, ⟨_, _, _, hsame _ hi⟩, hst⟩ (by rw [q2]; exact h6') q1 q3 (by rw [hsl]; exact k2_hasslot (q4 q h2)) rfl rfl hdg fun H' e1 e2 e3 => ?_
    rw [hsl] at e1 ⊢
    exact kk ls H' _ hl (fin2 H' e1 e2 e3) (hS.put e2 e3 (Nat.le_add_right _ _))
  | true =>
    rw [if_pos h9] at hlay
    have hcf : m.cls = cf := by
      obtain ⟨_, _, c', _, _, _, -, -, hf', -, -, -, hown2, -⟩ := Cond.laysFinal_spec hlay
      have e1 : c' = cf := by have := hi.symm.trans hf'; simp at this; exact this.1.symm
      rw [h10 rfl] at hown2
      rw [← e1]; exact Option.some.inj (C.2.2.2.1.symm.trans hown2)
    have h6' := u_fits hfc hkC hkind (Or.inr hlay) hi (h7 q h2) hnar.1 hnar.2
    refine W.putFinK C.1 C.2.1 C.2.2.2.1 (C.2.2.2.2.1 _ h4) (hsame _ hi) hst hcf (hfin rfl) (by rw [q2]; exact h6') q1 q3 (by rw [hsl]; exact k2_hasslot (q4 q h2)) rfl rfl hdg fun H' e1 e2 e3 => ?_
    rw [hsl] at e1 ⊢
    exact kk ls H' _ hl (fin2 H' e1 e2 e3) (hS.put e2 e3 (Nat.le_add_right _ _))
end FLD
