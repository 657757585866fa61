/-- a new array of rows of ints: the outer one, and behind it its rows -/
def nwm (M : Mem) (N K : Nat) : Mem := (M.1 + 1 + N, (fun b => if b = M.1 then .inr (4, N) else if M.1 < b ∧ b ≤ M.1 + N then .inr (0, K) else M.2.1 b),
  (fun b => if M.1 ≤ b ∧ b ≤ M.1 + N then (fun _ => 0) else M.2.2.1 b), (fun b => if M.1 ≤ b ∧ b ≤ M.1 + N then (fun _ => 0) else M.2.2.2.1 b),
  (fun b => if b = M.1 then (fun j => if j < N then some (M.1 + 1 + j) else none) else if M.1 < b ∧ b ≤ M.1 + N then (fun _ => none) else M.2.2.2.2 b))
section MUL
variable {p : Program} {l : Launch} {e : Env} {R : Room} {s : State} {m : MethodId} {args : Array Value} {below : List Frame} {meth : Method} {c : Code} {cc : ByteArray} {own : String} {nL : Nat} {g : Geo} {G : State → Prop} {k n pc : Nat} {al : List (Nat × Value)} {st : List Value} {M : Mem}

theorem e_multi (C : Cx p s m args c cc own nL g) {index N N2 : Nat} {x y : Int32} (hx : x = nI N) (hy : y = nI N2) (hN : N < 1000) (hN2 : N2 < 1000) (hw : Cond.arrayClass .int ∈ lw_good) (hcl : Cond.classLink own index "[[I" ∈ lw_good) (hcells : k + (1 + N) ≤ R.cells) (hslots : n + (N + N * N2) ≤ R.slots) (hdg : decode cc pc = .ok (.multianewarray index 2, 4))
    (kk : E p l e R s m args below meth c g nL G (k + (1 + N)) (n + (N + N * N2)) (pc + 4) al (.ref (mN M) :: st) (nwm M N N2)) : E p l e R s m args below meth c g nL G k n pc al (.int y :: .int x :: st) M := by
  sorry
end MUL
