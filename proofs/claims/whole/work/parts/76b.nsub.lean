/-! the next set within another -/
/-- the least set from S on that lies within P -/
def nxt (P S f : Nat) : Option Nat := match f with
  | 0 => none
  | f + 1 => if S &&& P = S then some S else nxt P (S + 1) f
def nsub (c P : Nat) : Nat := (c + 256 - P) &&& P
theorem nsub_nxt : ∀ P, P < 256 → ∀ c, c < 256 → c &&& P = c → nxt P (c + 1) (255 - c) = if c = P then none else some (nsub c P) := by decide +kernel
theorem nsub_end : ∀ P, P < 256 → nsub P P = 0 := by decide +kernel
