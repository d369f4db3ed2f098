/-! most: the meaning -/
def isMx (R : Nat → Prop) (v : Int32) : Prop := (∃ k, R k ∧ (∀ j, R j → j ≤ k) ∧ v = Int32.ofNat k) ∨ ((∀ k, ¬ R k) ∧ v = -1)
theorem isMx_congr {A B : Nat → Prop} {v : Int32} (h : isMx A v) (e : ∀ k, A k ↔ B k) : isMx B v := by
  rcases h with ⟨k, h1, h2, h3⟩ | ⟨h1, h2⟩
  · exact Or.inl ⟨k, (e k).mp h1, fun j hj => h2 j ((e j).mpr hj), h3⟩
  · exact Or.inr ⟨fun k hk => h1 k ((e k).mpr hk), h2⟩
theorem isMx_eq {A : Nat → Prop} {v w : Int32} (h : isMx A v) (k : isMx A w) : v = w := by
  rcases h with ⟨a, h1, h2, h3⟩ | ⟨h1, h2⟩
  · rcases k with ⟨b, k1, k2, k3⟩ | ⟨k1, k2⟩
    · have := h2 b k1
      have := k2 a h1
      rw [h3, k3, show a = b by omega]
    · exact absurd h1 (k1 a)
  · rcases k with ⟨b, k1, k2, k3⟩ | ⟨k1, k2⟩
    · exact absurd k1 (h1 b)
    · rw [h2, k2]
theorem m1_lt {k : Nat} (h : k < 2147483648) : (-1 : Int32) < Int32.ofNat k := by
  rw [Int32.lt_iff_toInt_lt, Int32.toInt_ofNat_of_lt h]
  show (-1 : Int) < _
  omega
theorem nlt_m1 {k : Nat} (h : k < 2147483648) : ¬ Int32.ofNat k < (-1 : Int32) := by
  rw [Int32.lt_iff_toInt_lt, Int32.toInt_ofNat_of_lt h]
  show ¬ _ < (-1 : Int)
  omega
theorem isMx_or {A B : Nat → Prop} {v w : Int32} (hA : isMx A v) (hB : isMx B w) (hb : ∀ k, A k ∨ B k → k ≤ 40) : isMx (fun k => A k ∨ B k) (if v < w then w else v) := by
  rcases hA with ⟨a, a1, a2, rfl⟩ | ⟨a1, rfl⟩
  · have ha := hb a (Or.inl a1)
    rcases hB with ⟨b, b1, b2, rfl⟩ | ⟨b1, rfl⟩
    · have hb' := hb b (Or.inr b1)
      by_cases h : a < b
      · rw [if_pos (nk_lt_t h (by omega))]
        refine Or.inl ⟨b, Or.inr b1, fun j hj => ?_, rfl⟩
        rcases hj with hj | hj
        · have := a2 j hj; omega
        · exact b2 j hj
      · rw [if_neg (nk_lt_f (by omega) (by omega))]
        refine Or.inl ⟨a, Or.inl a1, fun j hj => ?_, rfl⟩
        rcases hj with hj | hj
        · exact a2 j hj
        · have := b2 j hj; omega
    · rw [if_neg (nlt_m1 (by omega))]
      exact Or.inl ⟨a, Or.inl a1, fun j hj => hj.elim (a2 j) (fun h => absurd h (b1 j)), rfl⟩
  · rcases hB with ⟨b, b1, b2, rfl⟩ | ⟨b1, rfl⟩
    · have hb' := hb b (Or.inr b1)
      rw [if_pos (m1_lt (by omega))]
      exact Or.inl ⟨b, Or.inr b1, fun j hj => hj.elim (fun h => absurd h (a1 j)) (b2 j), rfl⟩
    · rw [if_neg (show ¬ (-1 : Int32) < -1 by decide)]
      exact Or.inr ⟨fun k hk => hk.elim (a1 k) (b1 k), rfl⟩
def clr (m u : Nat) : Nat := m &&& (2 ^ u ^^^ 4294967295)
/-- whether the chosen before allow cell i -/
def fr6 (p3 p0 : Bool) (c m : Nat) : Bool := (p3 || (Nat.beq c 0 || !m.testBit (c - 1))) && (p0 || !m.testBit c)
def blk (p3 p0 : Bool) (c : Nat) : Nat := (if p3 = true then 0 else 2 ^ c / 2) ||| (if p0 = true then 0 else 2 ^ c)
theorem blk_fr : ∀ p3 p0 : Bool, ∀ m, m < 64 → ∀ c, c < 6 → decide (m &&& blk p3 p0 c = 0) = fr6 p3 p0 c m := by
  intro p3 p0
  cases p3 <;> cases p0 <;> decide
def stp (R : Nat → Nat → Prop) (T : XT) (i m m' k : Nat) : Prop := (R m k ∧ m' = clr m (i % 6)) ∨ ∃ j, R m j ∧ k = j + 1 ∧ isP T i = true ∧ fr6 (pf T i 3) (pf T i 0) (i % 6) m = true ∧ m' = m ||| 2 ^ (i % 6)
/-- what a choice among the first cells may hold: its mask, how many -/
def cR (T : XT) : Nat → Nat → Nat → Prop
  | 0, m, k => m = 0 ∧ k = 0
  | i + 1, m', k => ∃ m, m < 64 ∧ stp (cR T i) T i m m' k
theorem clr_lt {m u : Nat} (h : m < 64) : clr m u < 64 := Nat.lt_of_le_of_lt Nat.and_le_left h
theorem set_lt {m u : Nat} (h : m < 64) (hu : u < 6) : m ||| 2 ^ u < 64 := by
  refine Nat.or_lt_two_pow (n := 6) h (Nat.pow_lt_pow_right (by omega) hu)
theorem cR_bd {T : XT} : ∀ i m k, cR T i m k → m < 64 ∧ k ≤ i := by
  intro i
  induction i with
  | zero => rintro m k ⟨rfl, rfl⟩; omega
  | succ i ih =>
    rintro m' k ⟨m, hm, h⟩
    rcases h with ⟨h1, rfl⟩ | ⟨j, h1, rfl, -, -, rfl⟩
    · have := (ih m k h1).2
      exact ⟨clr_lt hm, by omega⟩
    · have := (ih m j h1).2
      exact ⟨set_lt hm (Nat.mod_lt _ (by omega)), by omega⟩
