/-! the knob rows at the start, by the closed run itself -/
def xZk (p a q : Nat) (h : XHp) : Bool := (List.range q).all (fun j => decide (h.2.1 p (a + j) = 0))
def xZo (p a q : Nat) : Option XHp → Bool
  | some h => xZk p a q h
  | none => false
theorem zk143 : xZo 143 0 120 xpre = true := by decide +kernel
theorem zk19a : xZo 19 0 40 xpre = true := by decide +kernel
theorem zk19b : xZo 19 40 40 xpre = true := by decide +kernel
theorem zk19c : xZo 19 80 40 xpre = true := by decide +kernel
theorem xZo_of {p a q : Nat} {h : XHp} (hz : xZo p a q xpre = true) (he : xpre = some h) : ∀ j, j < q → h.2.1 p (a + j) = 0 := by
  rw [he] at hz
  exact fun j hj => of_decide_eq_true (List.all_eq_true.mp hz j (List.mem_range.mpr hj))
theorem xZs_of {h : XHp} (he : xpre = some h) : xZs h.2.1 = true := by
  have a := xZo_of zk143 he
  have b := xZo_of zk19a he
  have c := xZo_of zk19b he
  have d := xZo_of zk19c he
  refine List.all_eq_true.mpr (fun j hj => ?_)
  have hj : j < 120 := List.mem_range.mp hj
  rw [Bool.and_eq_true, decide_eq_true_eq, decide_eq_true_eq]
  refine ⟨?_, ?_⟩
  · by_cases h1 : j < 40
    · have := b j h1
      rwa [Nat.zero_add] at this
    · by_cases h2 : j < 80
      · have := c (j - 40) (by omega)
        rwa [show 40 + (j - 40) = j by omega] at this
      · have := d (j - 80) (by omega)
        rwa [show 80 + (j - 80) = j by omega] at this
  · have := a j hj
    rwa [Nat.zero_add] at this
