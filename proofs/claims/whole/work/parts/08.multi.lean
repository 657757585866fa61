/-- a new array of rows of ints: the outer one, and behind it its rows -/
def nwm (M : Mem) (N K : Nat) : Mem := (M.1 + 1 + N, (fun b => if b = M.1 then .inr (4, N) else if M.1 < b ∧ b ≤ M.1 + N then .inr (0, K) else M.2.1 b),
  (fun b => if M.1 ≤ b ∧ b ≤ M.1 + N then (fun _ => 0) else M.2.2.1 b), (fun b => if M.1 ≤ b ∧ b ≤ M.1 + N then (fun _ => 0) else M.2.2.2.1 b),
  (fun b => if b = M.1 then (fun j => if j < N then some (M.1 + 1 + j) else none) else if M.1 < b ∧ b ≤ M.1 + N then (fun _ => none) else M.2.2.2.2 b))
