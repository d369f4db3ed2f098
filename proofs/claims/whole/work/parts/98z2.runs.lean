def xZk (p q : Nat) (h : XHp) : Bool := (List.range q).all (fun j => decide (h.2.1 p j = 0))
def xZo (p q : Nat) : Option XHp → Bool
  | some h => xZk p q h
  | none => false
set_option profiler true in
theorem zk0 : xZo 143 2 xpre = true := by decide +kernel
set_option profiler true in
theorem zk1 : xZo 143 10 xpre = true := by decide +kernel
set_option profiler true in
theorem zk2 : xZo 19 10 xpre = true := by decide +kernel
