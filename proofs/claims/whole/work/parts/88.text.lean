/-! the text: what its tokens are -/
def rn (p : Nat → Bool) : Nat → Nat → Nat
  | 0, a => a
  | f + 1, a => if p a = true then rn p f (a + 1) else a
def run (p : Nat → Bool) (n a : Nat) : Nat := rn p (n - a) a
theorem run_e {p : Nat → Bool} {n a : Nat} (h : n ≤ a) : run p n a = a := by
  unfold run
  rw [Nat.sub_eq_zero_of_le h]
  rfl
theorem run_t {p : Nat → Bool} {n a : Nat} (h : a < n) (hp : p a = true) : run p n a = run p n (a + 1) := by
  unfold run
  rw [show n - a = (n - (a + 1)) + 1 by omega]
  show (if p a = true then rn p (n - (a + 1)) (a + 1) else a) = _
  rw [if_pos hp]
theorem run_f {p : Nat → Bool} {n a : Nat} (h : a < n) (hp : p a = false) : run p n a = a := by
  unfold run
  rw [show n - a = (n - (a + 1)) + 1 by omega]
  show (if p a = true then rn p (n - (a + 1)) (a + 1) else a) = _
  rw [hp]
  rfl
theorem run_ge {p : Nat → Bool} {n : Nat} : ∀ m a, n - a = m → a ≤ run p n a := by
  intro m
  induction m with
  | zero => intro a h; rw [run_e (by omega)]; exact Nat.le_refl _
  | succ m ih =>
    intro a h
    cases hp : p a with
    | true =>
      rw [run_t (by omega) hp]
      have := ih (a + 1) (by omega)
      omega
    | false => rw [run_f (by omega) hp]; exact Nat.le_refl _
theorem run_le {p : Nat → Bool} {n : Nat} : ∀ m a, n - a = m → a ≤ n → run p n a ≤ n := by
  intro m
  induction m with
  | zero => intro a h h2; rw [run_e (by omega)]; exact h2
  | succ m ih =>
    intro a h h2
    cases hp : p a with
    | true =>
      rw [run_t (by omega) hp]
      exact ih (a + 1) (by omega) (by omega)
    | false => rw [run_f (by omega) hp]; exact h2
theorem run_all {p : Nat → Bool} {n : Nat} : ∀ m a, n - a = m → ∀ j, a ≤ j → j < run p n a → p j = true := by
  intro m
  induction m with
  | zero =>
    intro a h j h1 h2
    rw [run_e (by omega)] at h2
    omega
  | succ m ih =>
    intro a h j h1 h2
    cases hp : p a with
    | true =>
      rw [run_t (by omega) hp] at h2
      by_cases e : j = a
      · rw [e]; exact hp
      · exact ih (a + 1) (by omega) j (by omega) h2
    | false =>
      rw [run_f (by omega) hp] at h2
      omega
theorem run_stop {p : Nat → Bool} {n : Nat} : ∀ m a, n - a = m → run p n a < n → p (run p n a) = false := by
  intro m
  induction m with
  | zero =>
    intro a h h2
    rw [run_e (by omega)] at h2
    omega
  | succ m ih =>
    intro a h h2
    cases hp : p a with
    | true =>
      rw [run_t (by omega) hp] at h2 ⊢
      exact ih (a + 1) (by omega) h2
    | false => rw [run_f (by omega) hp]; exact hp
theorem run_run {p : Nat → Bool} {n a : Nat} (h : a ≤ n) : run p n (run p n a) = run p n a := by
  have h1 := run_le (p := p) (n := n) _ a rfl h
  by_cases e : run p n a < n
  · exact run_f e (run_stop _ a rfl e)
  · exact run_e (by omega)
def isBl (v : Int32) : Bool := decide (v = 9) || (decide (v = 10) || (decide (v = 13) || decide (v = 32)))
def isLt (v : Int32) : Bool := !decide (v < 97) && !decide (122 < v)
def isDg (v : Int32) : Bool := !decide (v < 48) && !decide (57 < v)
def sgs : List Int32 := [59, 61, 43, 45, 42, 47, 60, 40, 41]
def isSg (v : Int32) : Bool := anyB (fun k => decide (sgs.getD k 0 = v)) 9
def bl (b : Nat → Int32) (j : Nat) : Bool := isBl (b j)
def lt (b : Nat → Int32) (j : Nat) : Bool := isLt (b j)
def dg (b : Nat → Int32) (j : Nat) : Bool := isDg (b j)
def nvN (f : Nat → Nat) : Nat → Nat
  | 0 => 0
  | k + 1 => 27 * nvN f k + (f k - 96)
/-- letters as a number, k from a on -/
def nv (b : Nat → Int32) (a k : Nat) : Nat := nvN (fun t => xN (b (a + t))) k
def kwL : List Nat := [13550, 227126, 10413527, 454132, 10666153, 16922, 3217420, 165575899, 377761, 249, 399641, 107681, 16308991, 90302, 237307, 151648177, 2968, 375062, 381245, 8536420, 380651]
def kwB (N k : Nat) : Bool := decide (kwL.getD k 0 = N)
def wdK (N : Nat) : Nat := match frst (kwB N) 21 with
  | some k => 100 + k
  | none => 2
def vlT (b : Nat → Int32) (a : Nat) : Nat → Int32
  | 0 => 0
  | k + 1 => ((10 * vlT b a k) + b (a + k)) - 48
def kdT (b : Nat → Int32) (n a : Nat) : Nat :=
  if n ≤ a then 0 else if isLt (b a) = true then (if 8 < run (lt b) n a - a then 1 else wdK (nv b a (run (lt b) n a - a))) else if isDg (b a) = true then (if 4 < run (dg b) n a - a then 1 else 3) else if isSg (b a) = true then xN (b a) else 1
def enT (b : Nat → Int32) (n a : Nat) : Nat :=
  if n ≤ a then a else if isLt (b a) = true then run (lt b) n a else if isDg (b a) = true then run (dg b) n a else a + 1
def plc (b : Nat → Int32) (n : Nat) : Nat → Nat
  | 0 => run (bl b) n 0
  | i + 1 => run (bl b) n (enT b n (plc b n i))
def kd (b : Nat → Int32) (n i : Nat) : Nat := kdT b n (plc b n i)
def ln (b : Nat → Int32) (n i : Nat) : Nat := run (lt b) n (plc b n i) - plc b n i
def vl (b : Nat → Int32) (n i : Nat) : Int32 := vlT b (plc b n i) (run (dg b) n (plc b n i) - plc b n i)
def nm (b : Nat → Int32) (n i : Nat) : Nat := nv b (plc b n i) (ln b n i)
def mkL : List (Nat × Nat) := [(59, 4), (61, 5), (40, 6), (41, 7), (43, 8), (45, 9), (42, 10), (60, 13), (47, 15)]
/-- the reference's number of a kind -/
def mk (k : Nat) : Nat := match k with
  | 0 => 0
  | 1 => 3
  | 2 => 1
  | 3 => 2
  | 59 => 4
  | 61 => 5
  | 40 => 6
  | 41 => 7
  | 43 => 8
  | 45 => 9
  | 42 => 10
  | 60 => 13
  | 47 => 15
  | k => k - 80
def okk (k : Nat) : Bool := Nat.ble k 3 || (Nat.ble 100 k && Nat.ble k 120) || (mkL.any (fun p => Nat.beq p.1 k))
def reach (b : Nat → Int32) (n i : Nat) : Prop := i ≤ 400 ∧ ∀ j, j < i → ¬ kd b n j = 0 ∧ ¬ kd b n j = 1
def tkC (b : Nat → Int32) (n : Nat) (I : XI) : Prop := ∀ i, reach b n i → (I 3 i = Int32.ofNat (kd b n i) ∧ I 4 i = Int32.ofNat (plc b n i)) ∧ (kd b n i = 3 → I 5 i = vl b n i) ∧ (kd b n i = 2 → I 5 i = Int32.ofNat (ln b n i))
def tkM (b : Nat → Int32) (n : Nat) (I : XI) (L : XL) : Prop := ∀ i, reach b n i → (I 134 i = Int32.ofNat (mk (kd b n i)) ∧ I 135 i = Int32.ofNat (plc b n i)) ∧ (kd b n i = 3 → I 136 i = vl b n i) ∧ (kd b n i = 2 → L 137 i = Int64.ofNat (nm b n i))
theorem mk_inj : ∀ k, k < 121 → ∀ j, j < 121 → okk k = true → okk j = true → mk k = mk j → k = j := by decide +kernel
theorem mk_lt {k : Nat} (h : k < 121) : mk k < 121 := by
  have : ∀ k, k < 121 → mk k < 121 := by decide +kernel
  exact this k h
theorem frst_ok {p : Nat → Bool} : ∀ N k, frst p N = some k → k < N ∧ p k = true := by
  intro N
  induction N with
  | zero => intro k h; cases h
  | succ N ih =>
    intro k h
    unfold frst at h
    split at h
    · rename_i j hj
      have e := Option.some.inj h
      have := ih j hj
      rw [e] at this
      exact ⟨by omega, this.2⟩
    · split at h
      · rename_i hp
        cases h
        exact ⟨by omega, hp⟩
      · cases h
theorem wdK_ok (N : Nat) : wdK N = 2 ∨ ∃ k, k < 21 ∧ wdK N = 100 + k ∧ kwL.getD k 0 = N := by
  unfold wdK
  split
  · rename_i k hk
    have h := frst_ok _ _ hk
    exact Or.inr ⟨k, h.1, rfl, of_decide_eq_true h.2⟩
  · exact Or.inl rfl
theorem anyB_ex {p : Nat → Bool} : ∀ N, anyB p N = true → ∃ k, k < N ∧ p k = true := by
  intro N
  induction N with
  | zero => intro h; cases h
  | succ N ih =>
    intro h
    unfold anyB at h
    rcases Bool.or_eq_true_iff.mp h with h | h
    · obtain ⟨k, hk, hp⟩ := ih h
      exact ⟨k, by omega, hp⟩
    · exact ⟨N, by omega, h⟩
theorem isSg_ok {v : Int32} (h : isSg v = true) : okk (xN v) = true ∧ xN v < 121 ∧ v = Int32.ofNat (xN v) ∧ 3 < xN v ∧ xN v < 100 := by
  have key : ∀ k, k < 9 → okk (xN (sgs.getD k 0)) = true ∧ xN (sgs.getD k 0) < 121 ∧ sgs.getD k 0 = Int32.ofNat (xN (sgs.getD k 0)) ∧ 3 < xN (sgs.getD k 0) ∧ xN (sgs.getD k 0) < 100 := by decide
  unfold isSg at h
  obtain ⟨k, hk, hp⟩ := anyB_ex _ h
  rw [← of_decide_eq_true hp]
  exact key k hk
theorem kdT_ok (b : Nat → Int32) (n a : Nat) : okk (kdT b n a) = true ∧ kdT b n a < 121 := by
  have hw : ∀ N, okk (wdK N) = true ∧ wdK N < 121 := by
    intro N
    rcases wdK_ok N with h | ⟨k, hk, h, -⟩
    · rw [h]; decide
    · rw [h]
      have : ∀ k, k < 21 → okk (100 + k) = true := by decide
      exact ⟨this k hk, by omega⟩
  unfold kdT
  split
  · decide
  · split
    · split
      · decide
      · exact hw _
    · split
      · split <;> decide
      · split
        · rename_i h
          exact ⟨(isSg_ok h).1, (isSg_ok h).2.1⟩
        · decide
theorem enT_ge (b : Nat → Int32) (n a : Nat) : a ≤ enT b n a := by
  unfold enT
  split
  · exact Nat.le_refl _
  · split
    · exact run_ge _ a rfl
    · split
      · exact run_ge _ a rfl
      · omega
theorem enT_gt {b : Nat → Int32} {n a : Nat} (h : a < n) : a < enT b n a ∧ enT b n a ≤ n := by
  unfold enT
  rw [if_neg (by omega)]
  by_cases e : isLt (b a) = true
  · rw [if_pos e, run_t (p := lt b) h e]
    exact ⟨run_ge _ (a + 1) rfl, run_le _ (a + 1) rfl (by omega)⟩
  · rw [if_neg e]
    by_cases e : isDg (b a) = true
    · rw [if_pos e, run_t (p := dg b) h e]
      exact ⟨run_ge _ (a + 1) rfl, run_le _ (a + 1) rfl (by omega)⟩
    · rw [if_neg e]
      omega
theorem plc_le (b : Nat → Int32) (n : Nat) : ∀ i, plc b n i ≤ n := by
  intro i
  induction i with
  | zero => exact run_le _ 0 rfl (Nat.zero_le _)
  | succ i ih =>
    refine run_le _ _ rfl ?_
    by_cases h : plc b n i < n
    · exact (enT_gt h).2
    · unfold enT
      rw [if_pos (by omega)]
      exact ih
theorem kd_zero {b : Nat → Int32} {n i : Nat} : kd b n i = 0 ↔ n ≤ plc b n i := by
  unfold kd kdT
  constructor
  · intro h
    by_cases e : n ≤ plc b n i
    · exact e
    · rw [if_neg e] at h
      split at h
      · split at h
        · cases h
        · rcases wdK_ok (nv b (plc b n i) (run (lt b) n (plc b n i) - plc b n i)) with h' | ⟨k, hk, h', -⟩ <;> rw [h'] at h <;> omega
      · split at h
        · split at h <;> cases h
        · split at h
          · rename_i h'
            have := (isSg_ok h').2.2.2.1
            omega
          · cases h
  · intro h
    rw [if_pos h]
theorem plc_step {b : Nat → Int32} {n i : Nat} (h : ¬ kd b n i = 0) : plc b n i < plc b n (i + 1) := by
  have h' : plc b n i < n := by
    rw [kd_zero] at h
    omega
  have h1 := (enT_gt (b := b) h').1
  have h2 := run_ge (p := bl b) (n := n) _ (enT b n (plc b n i)) rfl
  show _ < run (bl b) n (enT b n (plc b n i))
  omega
theorem reach_zero {b : Nat → Int32} {n : Nat} : reach b n 0 := ⟨by omega, fun j hj => absurd hj (by omega)⟩
theorem reach_succ {b : Nat → Int32} {n i : Nat} (h : reach b n i) (hi : i < 400) (h0 : ¬ kd b n i = 0) (h1 : ¬ kd b n i = 1) : reach b n (i + 1) := by
  refine ⟨by omega, fun j hj => ?_⟩
  by_cases e : j = i
  · rw [e]; exact ⟨h0, h1⟩
  · exact h.2 j (by omega)
theorem plc_mono {b : Nat → Int32} {n : Nat} {i : Nat} (h : reach b n i) : ∀ j, j < i → plc b n j < plc b n i := by
  induction i with
  | zero => intro j hj; omega
  | succ i ih =>
    intro j hj
    have hi : reach b n i := ⟨by have := h.1; omega, fun k hk => h.2 k (by omega)⟩
    have h1 := plc_step (h.2 i (by omega)).1
    by_cases e : j = i
    · rw [e]; exact h1
    · have := ih hi j (by omega)
      omega
