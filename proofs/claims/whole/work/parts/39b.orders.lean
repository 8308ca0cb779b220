/-! orders: all orders of the pupils, one after another -/
def permL (P : Nat) : Nat → Nat → List Nat → List (List Nat)
  | 0, _, pre => [pre]
  | f + 1, u, pre => (List.range P).flatMap (fun p => if bitN u p then [] else permL P f (u ||| 2 ^ p) (pre ++ [p]))
def fnL (l : List Nat) : Nat → Nat := fun i => l.getD i 0
def stpL (P : Nat) (l l' : List Nat) : Bool := match nextN P (fnL l) with
  | none => false
  | some o => (List.range P).all (fun i => o i == fnL l' i)
def chkL (P : Nat) : List Nat → List (List Nat) → Bool
  | l, [] => (List.range P).all (fun i => decide (fnL l i < P)) && (nextN P (fnL l)).isNone
  | l, l' :: r => ((List.range P).all (fun i => decide (fnL l i < P)) && stpL P l l') && chkL P l' r
def chkP (P : Nat) : Bool := match permL P P 0 [] with
  | [] => false
  | l :: r => (List.range P).all (fun i => decide (fnL l i = i)) && chkL P l r
theorem chk5 : ∀ P, P < 6 → chkP P = true := by decide +kernel
theorem chk6 : chkP 6 = true := by decide +kernel
theorem chk7 : chkP 7 = true := by decide +kernel
