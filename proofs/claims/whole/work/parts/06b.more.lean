/-! ===== words of the generated texts ===== -/
def bi (b : Bool) : Int32 := if b = true then 1 else 0
theorem bi_t {b : Bool} (h : ¬ bi b = 0) : b = true := by cases b <;> first | rfl | exact absurd rfl h
theorem bi_ne {b : Bool} (h : bi b = 0) : ¬ b = true := fun q => by subst q; exact absurd h (by decide)
theorem bi_nar (b : Bool) : narrow .boolean (.int (bi b)) = .int (bi b) := by cases b <;> rfl
def rI (Q : Int32 → Mem → Prop) : Option Value → Mem → Prop := fun r M => ∃ x, r = some (.int x) ∧ Q x M
def rZ (Q : Bool → Mem → Prop) : Option Value → Mem → Prop := fun r M => ∃ b, r = some (.int (bi b)) ∧ Q b M
def rJ (Q : Int64 → Mem → Prop) : Option Value → Mem → Prop := fun r M => ∃ x, r = some (.long x) ∧ Q x M
def rA (Q : Option Nat → Mem → Prop) : Option Value → Mem → Prop := fun r M => ∃ x, r = some (va_rf x) ∧ Q x M
def rV (Q : Mem → Prop) : Option Value → Mem → Prop := fun r M => r = none ∧ Q M
theorem va_cat (r : Option Nat) : (va_rf r).category = 1 := by cases r <;> rfl
theorem ite_t {c A B : Prop} [Decidable c] (h : if c then A else B) (q : c) : A := by rwa [if_pos q] at h
theorem ite_f {c A B : Prop} [Decidable c] (h : if c then A else B) (q : ¬ c) : B := by rwa [if_neg q] at h
/-- a loop: an invariant, and a measure that falls -/
def loopP {σ : Type} (body : (σ → Prop) → σ → Prop) (z : σ) : Prop := ∃ (I : σ → Prop) (μ : σ → Nat), I z ∧ ∀ z, I z → body (fun z' => I z' ∧ μ z' < μ z) z
theorem loop_E {σ : Type} {body : (σ → Prop) → σ → Prop} {W : σ → Prop} {z : σ} (h : loopP body z) (step : ∀ (K : σ → Prop) (z : σ), (∀ z', K z' → W z') → body K z → W z) : W z := by
  obtain ⟨I, μ, h0, hs⟩ := h
  have key : ∀ (n : Nat) (z : σ), μ z < n → I z → W z := by
    intro n
    induction n with
    | zero => intro z hz; exact absurd hz (Nat.not_lt_zero _)
    | succ n ih =>
      intro z hz hI
      exact step _ z (fun z' hz' => ih z' (Nat.lt_of_lt_of_le hz'.2 (Nat.le_of_lt_succ hz)) hz'.1) (hs z hI)
  exact key (μ z + 1) z (Nat.lt_succ_self _) h0
theorem isO_1 {M : Mem} {a ci : Nat} (h : isO M a [ci]) : mS M a = .inl ci := by
  obtain ⟨c, h1, h2⟩ := h
  rw [List.mem_singleton.mp h1] at h2
  exact h2
theorem fp_z {cs : List Nat} {own : String} {index q : Nat} {fin : Bool} {x : Int32} (h : ∀ ci ∈ cs, FL own index ci q fin ∧ tyC ci q = .boolean) (h1 : narrow .boolean (.int x) = .int x) (h2 : fits .boolean (.int x) = true) : ∀ ci ∈ cs, FL own index ci q fin ∧ (tyC ci q = .boolean ∧ narrow .boolean (.int x) = .int x ∧ fits .boolean (.int x) = true) := fun ci hci => ⟨(h ci hci).1, (h ci hci).2, h1, h2⟩
theorem fg_of {cs : List Nat} {P : Nat → Prop} (h : ∀ ci ∈ cs, P ci) : ∀ ci ∈ cs, P ci := h
theorem con_of2 {y : MethodName} {b : ByteArray} {nLy : Nat} {ret : Option FieldType} {d mc ms : Nat} {as : List Value} {al : List (Nat × Value)} {M : Mem} {QQ : Option Value → Mem → Prop} (hy : plainName y.cls = true) (hn : (lg_sl as).length ≤ nLy) (hal : lv_args 0 as = al)
    (body : ∀ (p : Program) (l : Launch) (e : Env) (s : State) (m : MethodId) (args : Array Value) (below : List Frame) (meth : Method) (c : Code) (g : Geo), Cx p s m args c b y.cls nLy g → meth.sig.returnType = ret → meth.locks = false → meth.name = y.name →
      E p l e (rmO d mc ms) s m args below meth c g nLy (MQ below (QcM g QQ) args s mc ms (gA g)) 0 0 0 al [] M) : Con y b nLy ret d mc ms as M QQ := by
  subst hal
  exact con_of hy hn body
theorem cl_some : ∀ ci, ci < 13 → ∃ r : vw_C, vwCl[ci]? = some r := by
  intro ci h
  exact ⟨_, List.getElem?_eq_getElem (show ci < vwCl.length from h)⟩
theorem ac_5 : ∀ ci ∈ [10], ∃ r : vw_C, vwCl[ci]? = some r ∧ (r.1 = "PennyQueue$Window" ∨ (r.1, "PennyQueue$Window") ∈ lw_can) := by
  intro ci h
  rw [List.mem_singleton.mp h]
  exact ⟨_, rfl, Or.inl rfl⟩
theorem ac_7 : ∀ ci ∈ [8], ∃ r : vw_C, vwCl[ci]? = some r ∧ (r.1 = "PennyQueue$Tape" ∨ (r.1, "PennyQueue$Tape") ∈ lw_can) := by
  intro ci h
  rw [List.mem_singleton.mp h]
  exact ⟨_, rfl, Or.inl rfl⟩
theorem ac_6 : ∀ ci ∈ [5, 1, 2, 4, 6, 7, 9], ∃ r : vw_C, vwCl[ci]? = some r ∧ (r.1 = "PennyQueue$Order" ∨ (r.1, "PennyQueue$Order") ∈ lw_can) := by
  intro ci h
  simp only [List.mem_cons, List.not_mem_nil, or_false] at h
  rcases h with rfl | rfl | rfl | rfl | rfl | rfl | rfl
  · exact ⟨_, rfl, Or.inl rfl⟩
  all_goals exact ⟨_, rfl, Or.inr (by decide)⟩
theorem ic_1 : ∀ ci ∈ [5, 1, 2, 4, 6, 7, 9], ∃ r : vw_C, vwCl[ci]? = some r ∧ ((ci ∈ [1, 4, 9] ∧ (r.1 = "PennyQueue$First" ∨ (r.1, "PennyQueue$First") ∈ lw_can)) ∨ (ci ∉ [1, 4, 9] ∧ (r.1, "PennyQueue$First") ∈ lw_not)) := by
  intro ci h
  simp only [List.mem_cons, List.not_mem_nil, or_false] at h
  rcases h with rfl | rfl | rfl | rfl | rfl | rfl | rfl
  · exact ⟨_, rfl, Or.inr ⟨by decide, by decide⟩⟩
  · exact ⟨_, rfl, Or.inl ⟨by decide, Or.inl rfl⟩⟩
  · exact ⟨_, rfl, Or.inr ⟨by decide, by decide⟩⟩
  · exact ⟨_, rfl, Or.inl ⟨by decide, Or.inr (by decide)⟩⟩
  · exact ⟨_, rfl, Or.inr ⟨by decide, by decide⟩⟩
  · exact ⟨_, rfl, Or.inr ⟨by decide, by decide⟩⟩
  · exact ⟨_, rfl, Or.inl ⟨by decide, Or.inr (by decide)⟩⟩
theorem ic_2 : ∀ ci ∈ [5, 1, 2, 4, 6, 7, 9], ∃ r : vw_C, vwCl[ci]? = some r ∧ ((ci ∈ [2] ∧ (r.1 = "PennyQueue$Full" ∨ (r.1, "PennyQueue$Full") ∈ lw_can)) ∨ (ci ∉ [2] ∧ (r.1, "PennyQueue$Full") ∈ lw_not)) := by
  intro ci h
  simp only [List.mem_cons, List.not_mem_nil, or_false] at h
  rcases h with rfl | rfl | rfl | rfl | rfl | rfl | rfl
  · exact ⟨_, rfl, Or.inr ⟨by decide, by decide⟩⟩
  · exact ⟨_, rfl, Or.inr ⟨by decide, by decide⟩⟩
  · exact ⟨_, rfl, Or.inl ⟨by decide, Or.inl rfl⟩⟩
  · exact ⟨_, rfl, Or.inr ⟨by decide, by decide⟩⟩
  · exact ⟨_, rfl, Or.inr ⟨by decide, by decide⟩⟩
  · exact ⟨_, rfl, Or.inr ⟨by decide, by decide⟩⟩
  · exact ⟨_, rfl, Or.inr ⟨by decide, by decide⟩⟩
theorem ic_4 : ∀ ci ∈ [5, 1, 2, 4, 6, 7, 9], ∃ r : vw_C, vwCl[ci]? = some r ∧ ((ci ∈ [4] ∧ (r.1 = "PennyQueue$Length" ∨ (r.1, "PennyQueue$Length") ∈ lw_can)) ∨ (ci ∉ [4] ∧ (r.1, "PennyQueue$Length") ∈ lw_not)) := by
  intro ci h
  simp only [List.mem_cons, List.not_mem_nil, or_false] at h
  rcases h with rfl | rfl | rfl | rfl | rfl | rfl | rfl
  · exact ⟨_, rfl, Or.inr ⟨by decide, by decide⟩⟩
  · exact ⟨_, rfl, Or.inr ⟨by decide, by decide⟩⟩
  · exact ⟨_, rfl, Or.inr ⟨by decide, by decide⟩⟩
  · exact ⟨_, rfl, Or.inl ⟨by decide, Or.inl rfl⟩⟩
  · exact ⟨_, rfl, Or.inr ⟨by decide, by decide⟩⟩
  · exact ⟨_, rfl, Or.inr ⟨by decide, by decide⟩⟩
  · exact ⟨_, rfl, Or.inr ⟨by decide, by decide⟩⟩
theorem ic_6 : ∀ ci ∈ [5, 1, 2, 4, 6, 7, 9], ∃ r : vw_C, vwCl[ci]? = some r ∧ ((ci ∈ [6] ∧ (r.1 = "PennyQueue$Poor" ∨ (r.1, "PennyQueue$Poor") ∈ lw_can)) ∨ (ci ∉ [6] ∧ (r.1, "PennyQueue$Poor") ∈ lw_not)) := by
  intro ci h
  simp only [List.mem_cons, List.not_mem_nil, or_false] at h
  rcases h with rfl | rfl | rfl | rfl | rfl | rfl | rfl
  · exact ⟨_, rfl, Or.inr ⟨by decide, by decide⟩⟩
  · exact ⟨_, rfl, Or.inr ⟨by decide, by decide⟩⟩
  · exact ⟨_, rfl, Or.inr ⟨by decide, by decide⟩⟩
  · exact ⟨_, rfl, Or.inr ⟨by decide, by decide⟩⟩
  · exact ⟨_, rfl, Or.inl ⟨by decide, Or.inl rfl⟩⟩
  · exact ⟨_, rfl, Or.inr ⟨by decide, by decide⟩⟩
  · exact ⟨_, rfl, Or.inr ⟨by decide, by decide⟩⟩
theorem ic_7 : ∀ ci ∈ [5, 1, 2, 4, 6, 7, 9], ∃ r : vw_C, vwCl[ci]? = some r ∧ ((ci ∈ [7, 6] ∧ (r.1 = "PennyQueue$Share" ∨ (r.1, "PennyQueue$Share") ∈ lw_can)) ∨ (ci ∉ [7, 6] ∧ (r.1, "PennyQueue$Share") ∈ lw_not)) := by
  intro ci h
  simp only [List.mem_cons, List.not_mem_nil, or_false] at h
  rcases h with rfl | rfl | rfl | rfl | rfl | rfl | rfl
  · exact ⟨_, rfl, Or.inr ⟨by decide, by decide⟩⟩
  · exact ⟨_, rfl, Or.inr ⟨by decide, by decide⟩⟩
  · exact ⟨_, rfl, Or.inr ⟨by decide, by decide⟩⟩
  · exact ⟨_, rfl, Or.inr ⟨by decide, by decide⟩⟩
  · exact ⟨_, rfl, Or.inl ⟨by decide, Or.inr (by decide)⟩⟩
  · exact ⟨_, rfl, Or.inl ⟨by decide, Or.inl rfl⟩⟩
  · exact ⟨_, rfl, Or.inr ⟨by decide, by decide⟩⟩
theorem ic_9 : ∀ ci ∈ [5, 1, 2, 4, 6, 7, 9], ∃ r : vw_C, vwCl[ci]? = some r ∧ ((ci ∈ [9] ∧ (r.1 = "PennyQueue$Told" ∨ (r.1, "PennyQueue$Told") ∈ lw_can)) ∨ (ci ∉ [9] ∧ (r.1, "PennyQueue$Told") ∈ lw_not)) := by
  intro ci h
  simp only [List.mem_cons, List.not_mem_nil, or_false] at h
  rcases h with rfl | rfl | rfl | rfl | rfl | rfl | rfl
  · exact ⟨_, rfl, Or.inr ⟨by decide, by decide⟩⟩
  · exact ⟨_, rfl, Or.inr ⟨by decide, by decide⟩⟩
  · exact ⟨_, rfl, Or.inr ⟨by decide, by decide⟩⟩
  · exact ⟨_, rfl, Or.inr ⟨by decide, by decide⟩⟩
  · exact ⟨_, rfl, Or.inr ⟨by decide, by decide⟩⟩
  · exact ⟨_, rfl, Or.inr ⟨by decide, by decide⟩⟩
  · exact ⟨_, rfl, Or.inl ⟨by decide, Or.inl rfl⟩⟩
theorem nt_0 : ∀ j, j < 5 → defaultValue (tyC 0 j) = (if tR (tyC 0 j) = true then Value.null else Value.int 0) ∧ (tR (tyC 0 j) = true ∨ tI (tyC 0 j) = true) := by decide +kernel
theorem nt_1 : ∀ j, j < 4 → defaultValue (tyC 1 j) = (if tR (tyC 1 j) = true then Value.null else Value.int 0) ∧ (tR (tyC 1 j) = true ∨ tI (tyC 1 j) = true) := by decide +kernel
theorem nt_2 : ∀ j, j < 4 → defaultValue (tyC 2 j) = (if tR (tyC 2 j) = true then Value.null else Value.int 0) ∧ (tR (tyC 2 j) = true ∨ tI (tyC 2 j) = true) := by decide +kernel
theorem nt_3 : ∀ j, j < 19 → defaultValue (tyC 3 j) = (if tR (tyC 3 j) = true then Value.null else Value.int 0) ∧ (tR (tyC 3 j) = true ∨ tI (tyC 3 j) = true) := by decide +kernel
theorem nt_4 : ∀ j, j < 4 → defaultValue (tyC 4 j) = (if tR (tyC 4 j) = true then Value.null else Value.int 0) ∧ (tR (tyC 4 j) = true ∨ tI (tyC 4 j) = true) := by decide +kernel
theorem nt_5 : ∀ j, j < 4 → defaultValue (tyC 5 j) = (if tR (tyC 5 j) = true then Value.null else Value.int 0) ∧ (tR (tyC 5 j) = true ∨ tI (tyC 5 j) = true) := by decide +kernel
theorem nt_6 : ∀ j, j < 4 → defaultValue (tyC 6 j) = (if tR (tyC 6 j) = true then Value.null else Value.int 0) ∧ (tR (tyC 6 j) = true ∨ tI (tyC 6 j) = true) := by decide +kernel
theorem nt_7 : ∀ j, j < 4 → defaultValue (tyC 7 j) = (if tR (tyC 7 j) = true then Value.null else Value.int 0) ∧ (tR (tyC 7 j) = true ∨ tI (tyC 7 j) = true) := by decide +kernel
theorem nt_8 : ∀ j, j < 3 → defaultValue (tyC 8 j) = (if tR (tyC 8 j) = true then Value.null else Value.int 0) ∧ (tR (tyC 8 j) = true ∨ tI (tyC 8 j) = true) := by decide +kernel
theorem nt_9 : ∀ j, j < 5 → defaultValue (tyC 9 j) = (if tR (tyC 9 j) = true then Value.null else Value.int 0) ∧ (tR (tyC 9 j) = true ∨ tI (tyC 9 j) = true) := by decide +kernel
theorem nt_10 : ∀ j, j < 11 → defaultValue (tyC 10 j) = (if tR (tyC 10 j) = true then Value.null else Value.int 0) ∧ (tR (tyC 10 j) = true ∨ tI (tyC 10 j) = true) := by decide +kernel
theorem nt_11 : ∀ j, j < 19 → defaultValue (tyC 11 j) = (if tR (tyC 11 j) = true then Value.null else Value.int 0) ∧ (tR (tyC 11 j) = true ∨ tI (tyC 11 j) = true) := by decide +kernel
theorem nt_12 : ∀ j, j < 67 → defaultValue (tyC 12 j) = (if tR (tyC 12 j) = true then Value.null else Value.int 0) ∧ (tR (tyC 12 j) = true ∨ tI (tyC 12 j) = true) := by decide +kernel
section MORE
variable {p : Program} {l : Launch} {e : Env} {R : Room} {s : State} {m : MethodId} {args : Array Value} {below : List Frame} {meth : Method} {c : Code} {cc : ByteArray} {own : String} {nL : Nat} {g : Geo} {G : State → Prop} {k n pc : Nat} {al : List (Nat × Value)} {st : List Value} {M : Mem}
theorem nmE (h : ∀ M1, M1 = M → E p l e R s m args below meth c g nL G k n pc al st M1) : E p l e R s m args below meth c g nL G k n pc al st M := h M rfl
variable {mc' ms' : Nat}
theorem kI {Q : Int32 → Mem → Prop} (hk : ∀ x M', Q x M' → E p l e R s m args below meth c g nL G k n pc al (.int x :: st) M') : ∀ r M', rI Q r M' → E p l e R s m args below meth c g nL G k n pc al (r.toList ++ st) M' := by
  rintro r M' ⟨x, rfl, h⟩
  exact hk x M' h
theorem kZ {Q : Bool → Mem → Prop} (hk : ∀ x M', Q x M' → E p l e R s m args below meth c g nL G k n pc al (.int (bi x) :: st) M') : ∀ r M', rZ Q r M' → E p l e R s m args below meth c g nL G k n pc al (r.toList ++ st) M' := by
  rintro r M' ⟨x, rfl, h⟩
  exact hk x M' h
theorem kJ {Q : Int64 → Mem → Prop} (hk : ∀ x M', Q x M' → E p l e R s m args below meth c g nL G k n pc al (.long x :: st) M') : ∀ r M', rJ Q r M' → E p l e R s m args below meth c g nL G k n pc al (r.toList ++ st) M' := by
  rintro r M' ⟨x, rfl, h⟩
  exact hk x M' h
theorem kA {Q : Option Nat → Mem → Prop} (hk : ∀ x M', Q x M' → E p l e R s m args below meth c g nL G k n pc al (va_rf x :: st) M') : ∀ r M', rA Q r M' → E p l e R s m args below meth c g nL G k n pc al (r.toList ++ st) M' := by
  rintro r M' ⟨x, rfl, h⟩
  exact hk x M' h
theorem kV {Q : Mem → Prop} (hk : ∀ M', Q M' → E p l e R s m args below meth c g nL G k n pc al st M') : ∀ r M', rV Q r M' → E p l e R s m args below meth c g nL G k n pc al (r.toList ++ st) M' := by
  rintro r M' ⟨rfl, h⟩
  exact hk M' h
theorem e_alen (C : Cx p s m args c cc own nL g) {a t len : Nat} (ht : t < 8) (h0 : mS M a = .inr (t, len)) (hdg : decode cc pc = .ok (.arraylength, 1)) (kk : E p l e R s m args below meth c g nL G k n (pc + 1) al (.int (nI len) :: st) M) : E p l e R s m args below meth c g nL G k n pc al (.ref a :: st) M := by
  intro ls H locs hl hP hS
  have hne : mS M a ≠ .inl 99 := by rw [h0]; exact fun z => by cases z
  have hat := hP.at hne
  rw [ce_arr h0] at hat
  have hA := (C.2.2.2.2.2.2.1 t ht)
  exact va_alen (D := gD g) (cl := vwCl) (tys := [(g.2.2.2.2 t, tyA t)]) (ws := [(g.1 + a, .inl (g.2.2.2.2 t, len, cn g M a t))]) (x := (len, cn g M a t)) C.1 C.2.1 ⟨C.2.2.2.2.2.1, fun k z h => by
    cases k with
    | zero => cases h; exact hA
    | succ k => simp at h⟩ (fun k z h => by
    cases k with
    | zero => cases h; exact hat
    | succ k => simp at h) 0 0 rfl rfl rfl hdg (kk ls H locs hl hP hS)
theorem e_cast (C : Cx p s m args c cc own nL g) {index a : Nat} (ci : Nat) {K : String} {r : vw_C} (hcl : Cond.classLink own index K ∈ lw_good) (hr : vwCl[ci]? = some r) (hK : r.1 = K) (ho : isO M a [ci]) (hdg : decode cc pc = .ok (.checkcast index, 3)) (kk : E p l e R s m args below meth c g nL G k n (pc + 3) al (.ref a :: st) M) : E p l e R s m args below meth c g nL G k n pc al (.ref a :: st) M := by
  intro ls H locs hl hP hS
  subst hK
  obtain ⟨hrc, hat⟩ := recvM C hP hr (isO_1 ho)
  exact va_castS C.1 C.2.1 C.2.2.2.1 (C.2.2.2.2.1 _ hcl) hat hrc hdg (kk ls H locs hl hP hS)
variable {y : MethodName} {b : ByteArray} {nLy d' index : Nat} {ret : Option FieldType} {as stk : List Value} {QQ : Option Value → Mem → Prop}
theorem e_callSUx (C : Cx p s m args c cc own nL g) (hB : WB y b nLy ret as.length) (hw : WSu own index y) (cs : List Nat) (hcs : ∀ ci ∈ cs, ci < 13) {b0 : Nat} (ho : isO M b0 cs) (hcon : Con y b nLy ret d' mc' ms' (.ref b0 :: as) M QQ) (hs : stk = as.reverse ++ .ref b0 :: st) (hR : d' + 1 ≤ R.frames ∧ 8 + (nLy + 11) + 48 * d' ≤ R.locals) (hf : k + mc' ≤ R.cells ∧ n + ms' ≤ R.slots) (hc : (st.map (fun v => v.category)).sum ≤ 8) (hdg : decode cc pc = .ok (.invokespecial index, 3))
    (kk : ∀ r M', QQ r M' → E p l e R s m args below meth c g nL G (k + mc') (n + ms') (pc + 3) al (r.toList ++ st) M') : E p l e R s m args below meth c g nL G k n pc al stk M := by
  obtain ⟨ci, h1, h2⟩ := ho
  obtain ⟨r, hr⟩ := cl_some ci (hcs ci h1)
  exact e_callSU C hB hw hr h2 hcon hs hR hf hc hdg kk
/-- super.m(..), where the superclass has m from its own superclass -/
def WSg (own : String) (index : Nat) (x y : MethodName) : Prop := Cond.methodLink own index x ∈ lw_good ∧ Cond.sameMethod x.cls y.cls x.name x.desc ∈ lw_good ∧ Cond.superclass own x.cls ∈ lw_good ∧ Cond.superclass x.cls y.cls ∈ lw_good ∧ Cond.instanceMethod y ∈ lw_good ∧ x.name ≠ "<init>" ∧ x.name = y.name ∧ x.desc = y.desc
theorem va_callSG {T : State} {locs : List Loc} {cells slots : Nat} (X : Stand p l e R s m args below meth c T locs cells slots) (hexec : p.tables.exec = Jvm.exec) {x : MethodName} {maxL : Nat}
    (hown : s.vm.findClass own = some m.cls) (hlink : (Cond.methodLink own index x).before args s = true) (hsame : (Cond.sameMethod x.cls y.cls x.name x.desc).before args s = true) (hsup : (Cond.superclass own x.cls).before args s = true) (hsup2 : (Cond.superclass x.cls y.cls).before args s = true)
    (hinst : (Cond.instanceMethod y).before args s = true) (hcode : (Cond.code y b maxL ret).before args s = true) (hno : x.name ≠ "<init>") (hnm : x.name = y.name) (hds : x.desc = y.desc)
    {W : Nat} {Pre : Pt → Array Value → Prop} {Post : Pt → Array Value → Option Value → Pt → Prop} (hK : Back l R p e below s args y 3 W Pre Post)
    {b0 : Addr} {cellB : Cell} {kB : Class} (hcell : T.heap[b0]? = some cellB) (hobj : cellB.vm.isStatics = false) (hkB : s.vm.classes[cellB.cls]? = some kB)
    {f : JFrame} (hg : f.method = m) (hsize : f.locals.size = c.maxLocals) {argsL rest : List Value} (hlen : ∀ sig, parseMethodDescriptor y.desc = some sig → argsL.length = sig.parameters.length)
    (hstack : f.stack = argsL.reverse ++ .ref b0 :: rest) (hW : 2 * f.monitorRoom + (rest.map fun v => v.category).sum ≤ W) (hdg : decode c.code f.pc = .ok (.invokespecial index, 3))
    (hpre : ∀ vm₁, s.WarmedH vm₁ → Pre ⟨T.setVm vm₁, locs, cells, slots⟩ (Value.ref b0 :: argsL).toArray) :
    ∃ (v : Option Value) (vm₁ : Vm) (B : Pt), s.WarmedH vm₁ ∧ Stand p l e R s m args below meth c B.U B.locs B.cells B.slots ∧ Post ⟨T.setVm vm₁, locs, cells, slots⟩ (Value.ref b0 :: argsL).toArray v B ∧
      ∀ target, Steps p.tables e below (B.U.setTop { f with pc := f.pc + 3, stack := v.toList ++ rest }) target → Steps p.tables e below (T.setTop f) target := by
  obtain ⟨mk, methM, hnamed, hmethM, hstM, habM⟩ := Cond.instanceMethod_spec hinst
  obtain ⟨methM', cM, hmethM', -, -, -, -, -, -, hsigM⟩ := Cond.code_spec hnamed hcode
  cases hmethM.symm.trans hmethM'
  obtain ⟨ps, dk, kp, hps, hdk, hkp, hsuper, -, -, hnid⟩ := Cond.superclass_spec hown hsup
  obtain ⟨ps2, dk2, kp2, hps2, hdk2, hkp2, hsuper2, -, -, hnid2⟩ := Cond.superclass_spec hps hsup2
  cases hkp.symm.trans hdk2
  have hn : s.methodNamed? ⟨y.cls, x.name, x.desc⟩ = some mk := by rw [hnm, hds]; exact hnamed
  have hpm : ps2 = mk.cls := Option.some.inj (hps2.symm.trans (findClass_of_methodNamed hnamed))
  have hsub : s.vm.isSubclass ps mk.cls = true := by
    rw [← hpm]
    obtain ⟨q, hq⟩ : ∃ q, s.vm.classes.size = q + 1 := by
      have := (Array.getElem?_eq_some_iff.mp hkp).1
      exact ⟨s.vm.classes.size - 1, by omega⟩
    simp [Vm.isSubclass, hq, Vm.isSubclassAux, hkp, hsuper2]
  obtain ⟨vm₁, X₁, hstep₁⟩ := X.invokespecialUp hexec hown hlink hsame hn hmethM hstM habM hno hdk hnid hps hsuper hsub (a := b0) (cell := cellB) hcell
    (fun z h => by rw [h] at hobj; cases hobj) hkB (g := f) hg (argsL := argsL) (rest := rest) (hlen _ hsigM) hstack hdg
  obtain ⟨v, B, X', hpost, hsteps⟩ := hK m meth c ⟨T.setVm vm₁, locs, cells, slots⟩ { f with stack := rest } (.invokespecial index) mk (Value.ref b0 :: argsL).toArray X₁ hg hsize hdg hW (X₁.named hnamed) (hpre vm₁ X₁.warmed)
  exact ⟨v, vm₁, B, X₁.warmed, X', hpost, fun target h => hstep₁ _ (by rw [doInvoke_state]; exact hsteps.trans h)⟩
theorem e_callSGx (C : Cx p s m args c cc own nL g) (hB : WB y b nLy ret as.length) {x : MethodName} (hw : WSg own index x y) (cs : List Nat) (hcs : ∀ ci ∈ cs, ci < 13) {b0 : Nat} (ho : isO M b0 cs) (hcon : Con y b nLy ret d' mc' ms' (.ref b0 :: as) M QQ) (hs : stk = as.reverse ++ .ref b0 :: st) (hR : d' + 1 ≤ R.frames ∧ 8 + (nLy + 11) + 48 * d' ≤ R.locals) (hf : k + mc' ≤ R.cells ∧ n + ms' ≤ R.slots) (hc : (st.map (fun v => v.category)).sum ≤ 8) (hdg : decode cc pc = .ok (.invokespecial index, 3))
    (kk : ∀ r M', QQ r M' → E p l e R s m args below meth c g nL G (k + mc') (n + ms') (pc + 3) al (r.toList ++ st) M') : E p l e R s m args below meth c g nL G k n pc al stk M := by
  obtain ⟨ci, h1, h2⟩ := ho
  obtain ⟨r, hr⟩ := cl_some ci (hcs ci h1)
  intro ls H locs hl hP hS
  obtain ⟨⟨cellB, hcB, hoB, hclB⟩, hat⟩ := recvM C hP hr h2
  refine e_fin (QQ := QQ) (a := ((Value.ref b0 :: as).map (tr g)).toArray) ?_ hl hS kk
  have hK : Back l R p e below s args y 3 8 (PreOf R mc' ms' (PcM g (.ref b0 :: as) M)) (PostOf (QcM g QQ) mc' ms' (gA g)) := back_of (bytes := b) (maxL := nLy) (ret := ret) (hcon l g) (PcM_blind g _ M) rfl rfl hR.1 hR.2 (pay_in (fun w hw => C.2.2.2.2.1 w hw) (GoodIn_lw hB.in)) List.mem_cons_self (fun a' U hW => word_at hW (Or.inl (by first | rfl | simp [Cond.onTables, Cond.keeps, Cond.steady])) (C.2.2.2.2.1 _ hB.2.1))
  obtain ⟨hfc, kB, hkB, -⟩ := hat
  rw [Option.some.inj (hfc.symm.trans hclB)] at hkB
  intro T hT X
  obtain ⟨v, vm₁, ⟨U', l2, c2, s2⟩, hW₁, X', ⟨g', mk, t, L, e1, e2, hq, h1, hL, h2, h3⟩, stp⟩ := va_callSG X C.1 (b := b) (maxL := nLy) (ret := ret) C.2.2.2.1 (C.2.2.2.2.1 _ hw.1) (C.2.2.2.2.1 _ hw.2.1) (C.2.2.2.2.1 _ hw.2.2.1) (C.2.2.2.2.1 _ hw.2.2.2.1) (C.2.2.2.2.1 _ hw.2.2.2.2.1) (C.2.2.2.2.1 _ hB.1) hw.2.2.2.2.2.1 hw.2.2.2.2.2.2.1 hw.2.2.2.2.2.2.2 hK (by rw [hT]; exact hcB) hoB hkB (f := F0 m pc ls (stk.map (tr g))) rfl (hl.1.trans C.2.2.1.symm) (argsL := as.map (tr g)) (rest := st.map (tr g)) (fun sig h => by rw [List.length_map]; exact hB.len sig h) (by show stk.map (tr g) = _; rw [hs]; simp only [List.map_append, List.map_reverse, List.map_cons]; rfl) (lv_room (by rw [cat_tr]; exact hc)) (by rw [C.2.1]; exact hdg)
    (fun vm₁ hW₁ => ⟨hf.1, hf.2, PcM_at C (as := .ref b0 :: as) hP hS (T.setVm vm₁) hT hW₁⟩)
  dsimp only [Pt.U, Pt.locs, Pt.cells, Pt.slots] at X' e1 e2 h1 h2 h3 stp
  subst h1; subst h2; subst h3
  exact ⟨v, (T.setVm vm₁).calling g' mk ((Value.ref b0 :: as).map (tr g)).toArray, t, U', L, hT, X', hL, e1, e2, hq, stp⟩
theorem ao_5 (C : Cx p s m args c cc own nL g) : va_AO "PennyQueue$Window" s := C.2.2.2.2.2.2.2.2.2.2.2.2.2.1 _ (by decide)
theorem ao_6 (C : Cx p s m args c cc own nL g) : va_AO "PennyQueue$Order" s := C.2.2.2.2.2.2.2.2.2.2.2.2.2.1 _ (by decide)
theorem ao_7 (C : Cx p s m args c cc own nL g) : va_AO "PennyQueue$Tape" s := C.2.2.2.2.2.2.2.2.2.2.2.2.2.1 _ (by decide)
/-- System.arraycopy: rows of one type, within bounds -/
def acOk (M : Mem) (a b t : Nat) (sp dp q : Int32) : Prop := ∃ n0 n1, mS M a = .inr (t, n0) ∧ mS M b = .inr (t, n1) ∧ ¬ sp < 0 ∧ ¬ dp < 0 ∧ ¬ q < 0 ∧ sp.toNatClampNeg + q.toNatClampNeg ≤ n0 ∧ dp.toNatClampNeg + q.toNatClampNeg ≤ n1
theorem e_acpI (C : Cx p s m args c cc own nL g) {a b0 : Nat} {sp dp q : Int32} (hw1 : Cond.methodLink own index arraycopyName ∈ lw_good) (hw2 : Cond.native arraycopyName ∈ lw_good) (hw3 : Cond.static arraycopyName ∈ lw_good) (hw4 : Cond.initialized "java/lang/System" ∈ lw_good) (ho : acOk M a b0 0 sp dp q) (hR : 1 ≤ R.frames ∧ 8 + (nativeFrameWords "java/lang/System" "arraycopy" 5 + 11) ≤ R.locals) (hc : (st.map (fun v => v.category)).sum ≤ 8) (hdg : decode cc pc = .ok (.invokestatic index, 3))
    (kk : E p l e R s m args below meth c g nL G k n (pc + 3) al st (sIr M b0 (va_cpy (mI M a) (mI M b0) sp.toNatClampNeg dp.toNatClampNeg q.toNatClampNeg))) : E p l e R s m args below meth c g nL G k n pc al (.int q :: .int dp :: .ref b0 :: .int sp :: .ref a :: st) M := by
  intro ls H locs hl hP hS
  obtain ⟨n0, n1, h0a, h0b, h1, h2, h3, h4, h5⟩ := ho
  have nn : ∀ z : Int32, ¬ z < 0 → z.toInt = (z.toNatClampNeg : Int) := by
    intro z hz
    have hz0 : (0 : Int) ≤ z.toInt := by
      have := Int32.not_lt.mp hz
      simpa using Int32.le_iff_toInt_le.mp this
    show z.toInt = ((z.toInt.toNat : Nat) : Int)
    omega
  have hna : mS M a ≠ .inl 99 := by rw [h0a]; exact fun z => by cases z
  have hnb : mS M b0 ≠ .inl 99 := by rw [h0b]; exact fun z => by cases z
  have hata := hP.at hna
  have hatb := hP.at hnb
  rw [ce_arr h0a] at hata
  rw [ce_arr h0b] at hatb
  have hc0 : H[g.1 + a]? = some (vp_cell (g.2.2.2.2 0) (n0, .inl (mI M a))) := hata
  have hc1 : H[g.1 + b0]? = some (vp_cell (g.2.2.2.2 0) (n1, .inl (mI M b0))) := hatb
  have hAr := (C.2.2.2.2.2.2.1 0 (by decide)).1
  obtain ⟨-, k0, hk0, cm0, hkk0⟩ := hAr n0 (fun j => Value.int (mI M a j))
  obtain ⟨-, k1, hk1, cm1, hkk1⟩ := hAr n1 (fun j => Value.int (mI M b0 j))
  intro T hT X
  obtain ⟨vm', X', step⟩ := X.arraycopy C.1 C.2.2.2.1 (C.2.2.2.2.1 _ hw1) (C.2.2.2.2.1 _ hw2) (C.2.2.2.2.1 _ hw3) (C.2.2.2.2.1 _ hw4) (src := g.1 + a) (dst := g.1 + b0) (cs := vp_cell (g.2.2.2.2 0) (n0, .inl (mI M a))) (cd := vp_cell (g.2.2.2.2 0) (n1, .inl (mI M b0))) (srcPos := sp) (destPos := dp) (n := q) (by rw [hT]; exact hc0) (by rw [hT]; exact hc1)
    (fun _ h => by cases h) (fun _ h => by cases h) (fun h => by cases h) (fun h => by cases h) hk0 hk1 hkk0 hkk1 (by rfl) h1 h2 h3
    (by rw [nn sp h1, nn q h3]; show ¬ _ > ((arrV _ n0 (fun j => Value.int (mI M a j))).slots.size : Int); rw [arrV_size]; omega)
    (by rw [nn dp h2, nn q h3]; show ¬ _ > ((arrV _ n1 (fun j => Value.int (mI M b0 j))).slots.size : Int); rw [arrV_size]; omega)
    (fun vm₁ _ i hi => by
      have e : (vp_cell (g.2.2.2.2 0) (n0, .inl (mI M a))).slots.getD (sp.toNatClampNeg + i) .null = Value.int (mI M a (sp.toNatClampNeg + i)) := by
        show (arrV _ n0 (fun j => Value.int (mI M a j))).slots.getD _ _ = _
        rw [Array.getD_eq_getD_getElem?, arrV_read _ _ (by omega)]
        rfl
      refine ⟨?_, ?_⟩
      · rw [e]
        rfl
      · rw [e]
        exact trivial)
    (g := F0 m pc ls ((.int q :: .int dp :: .ref b0 :: .int sp :: .ref a :: st).map (tr g))) rfl (by rw [C.2.2.1]; exact hl.1) (rest := st.map (tr g)) rfl (by rw [C.2.1]; exact hdg) hR.1 (by show 2 * 0 + _ + _ ≤ _; rw [cat_tr]; omega)
  have e1 : copied (vp_cell (g.2.2.2.2 0) (n0, .inl (mI M a))) (vp_cell (g.2.2.2.2 0) (n1, .inl (mI M b0))) sp dp q = vp_cell (g.2.2.2.2 0) (n1, .inl (va_cpy (mI M a) (mI M b0) sp.toNatClampNeg dp.toNatClampNeg q.toNatClampNeg)) := va_copied (fun z => Value.int z) _ _ (mI M a) (mI M b0) h4
  rw [e1] at X' step
  have hlb : g.1 + b0 < H.size := (Array.getElem?_eq_some_iff.mp hc1).1
  generalize hcell : vp_cell (g.2.2.2.2 0) (n1, .inl (va_cpy (mI M a) (mI M b0) sp.toNatClampNeg dp.toNatClampNeg q.toNatClampNeg)) = cellN at X' step
  have hheap : ((T.setVm vm').setCell (g.1 + b0) cellN).heap = H.setIfInBounds (g.1 + b0) cellN := by rw [← hT]; rfl
  have oq : ∀ z : Nat, z ≠ g.1 + b0 → (H.setIfInBounds (g.1 + b0) cellN)[z]? = H[z]? := fun z hz => by simp [Array.getElem?_setIfInBounds, Ne.symm hz]
  have hself : (H.setIfInBounds (g.1 + b0) cellN)[g.1 + b0]? = some cellN := by simp [Array.getElem?_setIfInBounds, hlb]
  have hPn : Pic g (sIr M b0 (va_cpy (mI M a) (mI M b0) sp.toNatClampNeg dp.toNatClampNeg q.toNatClampNeg)) (H.setIfInBounds (g.1 + b0) cellN) := by
    refine hP.put (a := b0) (hP.lt hnb) rfl rfl ?_ ?_ ?_ ?_ (by simp) oq
    · intro z hz; first | rfl | exact u1_ne _ _ hz
    · intro z hz; first | rfl | exact u1_ne _ _ hz
    · intro z hz; first | rfl | exact u1_ne _ _ hz
    rw [ce_arr (show mS (sIr M b0 _) b0 = .inr (0, n1) from h0b)]
    show (H.setIfInBounds (g.1 + b0) cellN)[g.1 + b0]? = some (vp_cell _ (n1, cn g _ b0 0))
    rw [hself, ← hcell]
    show some (vp_cell _ (n1, .inl _)) = some (vp_cell _ (n1, .inl (mI (sIr M b0 _) b0)))
    rw [show mI (sIr M b0 (va_cpy (mI M a) (mI M b0) sp.toNatClampNeg dp.toNatClampNeg q.toNatClampNeg)) b0 = va_cpy (mI M a) (mI M b0) sp.toNatClampNeg dp.toNatClampNeg q.toNatClampNeg from u1_same _ _ _]
  have hSn : ∀ L : List (Value × Nat), va_S (gA g) s.heap (H.setIfInBounds (g.1 + b0) cellN) (locs ++ L.map (fun q => (⟨g.1 + b0, dp.toNatClampNeg + q.2⟩ : Loc))) := fun L => ⟨by simp; exact hS.1, fun z g1 g2 => by
      rw [oq z (fun e => g2 (by rw [e]; exact Nat.le_add_right _ _))]
      exact hS.2.1 z g1 g2, fun z hz => by
      rcases List.mem_append.mp hz with h | h
      · exact hS.2.2 z h
      · obtain ⟨w, -, hw⟩ := List.mem_map.mp h
        rw [← hw]
        exact Nat.le_add_right _ _⟩
  obtain ⟨tt, a1, b1⟩ := kk ls _ _ hl hPn (hSn _) _ hheap X'
  exact ⟨tt, step tt a1, b1⟩
theorem e_acpL (C : Cx p s m args c cc own nL g) {a b0 : Nat} {sp dp q : Int32} (hw1 : Cond.methodLink own index arraycopyName ∈ lw_good) (hw2 : Cond.native arraycopyName ∈ lw_good) (hw3 : Cond.static arraycopyName ∈ lw_good) (hw4 : Cond.initialized "java/lang/System" ∈ lw_good) (ho : acOk M a b0 3 sp dp q) (hR : 1 ≤ R.frames ∧ 8 + (nativeFrameWords "java/lang/System" "arraycopy" 5 + 11) ≤ R.locals) (hc : (st.map (fun v => v.category)).sum ≤ 8) (hdg : decode cc pc = .ok (.invokestatic index, 3))
    (kk : E p l e R s m args below meth c g nL G k n (pc + 3) al st (sLr M b0 (va_cpy (mL M a) (mL M b0) sp.toNatClampNeg dp.toNatClampNeg q.toNatClampNeg))) : E p l e R s m args below meth c g nL G k n pc al (.int q :: .int dp :: .ref b0 :: .int sp :: .ref a :: st) M := by
  intro ls H locs hl hP hS
  obtain ⟨n0, n1, h0a, h0b, h1, h2, h3, h4, h5⟩ := ho
  have nn : ∀ z : Int32, ¬ z < 0 → z.toInt = (z.toNatClampNeg : Int) := by
    intro z hz
    have hz0 : (0 : Int) ≤ z.toInt := by
      have := Int32.not_lt.mp hz
      simpa using Int32.le_iff_toInt_le.mp this
    show z.toInt = ((z.toInt.toNat : Nat) : Int)
    omega
  have hna : mS M a ≠ .inl 99 := by rw [h0a]; exact fun z => by cases z
  have hnb : mS M b0 ≠ .inl 99 := by rw [h0b]; exact fun z => by cases z
  have hata := hP.at hna
  have hatb := hP.at hnb
  rw [ce_arr h0a] at hata
  rw [ce_arr h0b] at hatb
  have hc0 : H[g.1 + a]? = some (vp_cell (g.2.2.2.2 3) (n0, .inr (.inl (mL M a)))) := hata
  have hc1 : H[g.1 + b0]? = some (vp_cell (g.2.2.2.2 3) (n1, .inr (.inl (mL M b0)))) := hatb
  have hAr := (C.2.2.2.2.2.2.1 3 (by decide)).1
  obtain ⟨-, k0, hk0, cm0, hkk0⟩ := hAr n0 (fun j => Value.long (mL M a j))
  obtain ⟨-, k1, hk1, cm1, hkk1⟩ := hAr n1 (fun j => Value.long (mL M b0 j))
  intro T hT X
  obtain ⟨vm', X', step⟩ := X.arraycopy C.1 C.2.2.2.1 (C.2.2.2.2.1 _ hw1) (C.2.2.2.2.1 _ hw2) (C.2.2.2.2.1 _ hw3) (C.2.2.2.2.1 _ hw4) (src := g.1 + a) (dst := g.1 + b0) (cs := vp_cell (g.2.2.2.2 3) (n0, .inr (.inl (mL M a)))) (cd := vp_cell (g.2.2.2.2 3) (n1, .inr (.inl (mL M b0)))) (srcPos := sp) (destPos := dp) (n := q) (by rw [hT]; exact hc0) (by rw [hT]; exact hc1)
    (fun _ h => by cases h) (fun _ h => by cases h) (fun h => by cases h) (fun h => by cases h) hk0 hk1 hkk0 hkk1 (by rfl) h1 h2 h3
    (by rw [nn sp h1, nn q h3]; show ¬ _ > ((arrV _ n0 (fun j => Value.long (mL M a j))).slots.size : Int); rw [arrV_size]; omega)
    (by rw [nn dp h2, nn q h3]; show ¬ _ > ((arrV _ n1 (fun j => Value.long (mL M b0 j))).slots.size : Int); rw [arrV_size]; omega)
    (fun vm₁ _ i hi => by
      have e : (vp_cell (g.2.2.2.2 3) (n0, .inr (.inl (mL M a)))).slots.getD (sp.toNatClampNeg + i) .null = Value.long (mL M a (sp.toNatClampNeg + i)) := by
        show (arrV _ n0 (fun j => Value.long (mL M a j))).slots.getD _ _ = _
        rw [Array.getD_eq_getD_getElem?, arrV_read _ _ (by omega)]
        rfl
      refine ⟨?_, ?_⟩
      · rw [e]
        rfl
      · rw [e]
        exact trivial)
    (g := F0 m pc ls ((.int q :: .int dp :: .ref b0 :: .int sp :: .ref a :: st).map (tr g))) rfl (by rw [C.2.2.1]; exact hl.1) (rest := st.map (tr g)) rfl (by rw [C.2.1]; exact hdg) hR.1 (by show 2 * 0 + _ + _ ≤ _; rw [cat_tr]; omega)
  have e1 : copied (vp_cell (g.2.2.2.2 3) (n0, .inr (.inl (mL M a)))) (vp_cell (g.2.2.2.2 3) (n1, .inr (.inl (mL M b0)))) sp dp q = vp_cell (g.2.2.2.2 3) (n1, .inr (.inl (va_cpy (mL M a) (mL M b0) sp.toNatClampNeg dp.toNatClampNeg q.toNatClampNeg))) := va_copied (fun z => Value.long z) _ _ (mL M a) (mL M b0) h4
  rw [e1] at X' step
  have hlb : g.1 + b0 < H.size := (Array.getElem?_eq_some_iff.mp hc1).1
  generalize hcell : vp_cell (g.2.2.2.2 3) (n1, .inr (.inl (va_cpy (mL M a) (mL M b0) sp.toNatClampNeg dp.toNatClampNeg q.toNatClampNeg))) = cellN at X' step
  have hheap : ((T.setVm vm').setCell (g.1 + b0) cellN).heap = H.setIfInBounds (g.1 + b0) cellN := by rw [← hT]; rfl
  have oq : ∀ z : Nat, z ≠ g.1 + b0 → (H.setIfInBounds (g.1 + b0) cellN)[z]? = H[z]? := fun z hz => by simp [Array.getElem?_setIfInBounds, Ne.symm hz]
  have hself : (H.setIfInBounds (g.1 + b0) cellN)[g.1 + b0]? = some cellN := by simp [Array.getElem?_setIfInBounds, hlb]
  have hPn : Pic g (sLr M b0 (va_cpy (mL M a) (mL M b0) sp.toNatClampNeg dp.toNatClampNeg q.toNatClampNeg)) (H.setIfInBounds (g.1 + b0) cellN) := by
    refine hP.put (a := b0) (hP.lt hnb) rfl rfl ?_ ?_ ?_ ?_ (by simp) oq
    · intro z hz; first | rfl | exact u1_ne _ _ hz
    · intro z hz; first | rfl | exact u1_ne _ _ hz
    · intro z hz; first | rfl | exact u1_ne _ _ hz
    rw [ce_arr (show mS (sLr M b0 _) b0 = .inr (3, n1) from h0b)]
    show (H.setIfInBounds (g.1 + b0) cellN)[g.1 + b0]? = some (vp_cell _ (n1, cn g _ b0 3))
    rw [hself, ← hcell]
    show some (vp_cell _ (n1, .inr (.inl _))) = some (vp_cell _ (n1, .inr (.inl (mL (sLr M b0 _) b0))))
    rw [show mL (sLr M b0 (va_cpy (mL M a) (mL M b0) sp.toNatClampNeg dp.toNatClampNeg q.toNatClampNeg)) b0 = va_cpy (mL M a) (mL M b0) sp.toNatClampNeg dp.toNatClampNeg q.toNatClampNeg from u1_same _ _ _]
  have hSn : ∀ L : List (Value × Nat), va_S (gA g) s.heap (H.setIfInBounds (g.1 + b0) cellN) (locs ++ L.map (fun q => (⟨g.1 + b0, dp.toNatClampNeg + q.2⟩ : Loc))) := fun L => ⟨by simp; exact hS.1, fun z g1 g2 => by
      rw [oq z (fun e => g2 (by rw [e]; exact Nat.le_add_right _ _))]
      exact hS.2.1 z g1 g2, fun z hz => by
      rcases List.mem_append.mp hz with h | h
      · exact hS.2.2 z h
      · obtain ⟨w, -, hw⟩ := List.mem_map.mp h
        rw [← hw]
        exact Nat.le_add_right _ _⟩
  obtain ⟨tt, a1, b1⟩ := kk ls _ _ hl hPn (hSn _) _ hheap X'
  exact ⟨tt, step tt a1, b1⟩
end MORE
