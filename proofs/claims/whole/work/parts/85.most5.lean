/-! most: cells and rows say the same -/
theorem pf_sym {T : XT} {a : Nat} (ha : a % 6 < 5) (hp : isP T (a + 1) = true) : pf T a 1 = pf T (a + 1) 3 := by
  have hi := inT_iff.mp (isP_iff.mp hp).1
  have h1 : nb T a 1 = some (a + 1) := by
    show (if a % 6 + 1 < tw T then some (a + 1) else none) = _
    rw [if_pos (by omega)]
  have h2 : nb T (a + 1) 3 = some a := by
    show (if (a + 1) % 6 = 0 then none else some (a + 1 - 1)) = _
    rw [if_neg (by omega)]
    rfl
  unfold pf
  rw [h1, h2]
  show (isP T a && (isP T (a + 1) && decide (tk T (4 * a + 1) + tk T (4 * (a + 1) + 3) = 0))) = (isP T (a + 1) && (isP T a && decide (tk T (4 * (a + 1) + 3) + tk T (4 * a + 1) = 0)))
  rw [Int32.add_comm (tk T (4 * a + 1)), ← Bool.and_assoc, ← Bool.and_assoc, Bool.and_comm (isP T a)]
theorem mid6_iff {T : XT} {r M v : Nat} : midR T r 6 M v ↔ rRow T (r + 1) M v := by
  constructor
  · rintro ⟨m, χ, j, h1, h2, h3, h4, h5, rfl⟩
    have hb : ∀ c, c < 6 → M.testBit c = χ c := fun c hc => by rw [h5 c hc, if_pos hc]
    refine ⟨h2, fun c hc hx => ?_, m, j, h1, h3, fun c hc hx hx' => ?_, ?_⟩
    · rw [hb c hc] at hx
      refine ⟨(h4 c hc hx).1, fun h5c hx' => ?_⟩
      rw [hb (c + 1) (by omega)] at hx'
      obtain ⟨a1, a2, a3⟩ := h4 (c + 1) (by omega) hx'
      have := pf_sym (T := T) (a := 6 * r + c) (by omega) a1
      rw [this]
      exact a2 (by omega) hx
    · rw [hb c hc] at hx'
      exact (h4 c hc hx').2.2 hx
    · rw [cnt_congr (p := M.testBit) (q := χ) hb]
  · rintro ⟨h2, hr, m, j, h1, h3, hcol, rfl⟩
    refine ⟨m, M.testBit, j, h1, h2, h3, fun c hc hx => ⟨(hr c hc hx).1, fun h1c hx' => ?_, fun hm => hcol c hc hm hx⟩, fun c hc => by rw [if_pos hc], rfl⟩
    have := (hr (c - 1) (by omega) hx').2 (by omega) (by rw [show c - 1 + 1 = c by omega]; exact hx)
    rw [show 6 * r + c = 6 * r + (c - 1) + 1 by omega, ← pf_sym (by omega) (by rw [show 6 * r + (c - 1) + 1 = 6 * r + c by omega]; exact (hr c hc hx).1)]
    exact this
theorem row_iff {T : XT} : ∀ r M v, cR T (6 * r) M v ↔ rRow T r M v := by
  intro r
  induction r with
  | zero => intro M v; exact Iff.rfl
  | succ r ih =>
    intro M v
    have h := mid_iff ih 6 (Nat.le_refl _) M v
    rw [show 6 * (r + 1) = 6 * r + 6 by omega, h]
    exact mid6_iff
theorem cnt_zero6 : cnt (Nat.testBit 0) 6 = 0 := by decide
theorem rRow_out {T : XT} {r M v : Nat} (hr : th T ≤ r) : rRow T (r + 1) M v ↔ M = 0 ∧ ∃ m, m < 64 ∧ rRow T r m v := by
  constructor
  · rintro ⟨h2, hro, m, j, h1, h3, hcol, rfl⟩
    have hz : M = 0 := by
      refine ext64 h2 (by omega) (fun c hc => ?_)
      rw [Nat.zero_testBit]
      cases hx : M.testBit c with
      | false => rfl
      | true =>
        have hi := inT_iff.mp (isP_iff.mp (hro c hc hx).1).1
        omega
    refine ⟨hz, m, h1, ?_⟩
    rw [hz, cnt_zero6]
    exact h3
  · rintro ⟨rfl, m, h1, h3⟩
    refine ⟨by omega, fun c hc hx => ?_, m, v, h1, h3, fun c hc hx hx' => ?_, ?_⟩
    · rw [Nat.zero_testBit] at hx; cases hx
    · rw [Nat.zero_testBit] at hx'; cases hx'
    · rw [cnt_zero6]; rfl
theorem most_rows {T : XT} (hO : tOk T) (v : Nat) : mostR T v ↔ ∃ m, m < 64 ∧ rRow T (th T) m v := by
  have key : ∀ d, th T + d ≤ 5 → ((∃ m, m < 64 ∧ rRow T (th T + d) m v) ↔ ∃ m, m < 64 ∧ rRow T (th T) m v) := by
    intro d
    induction d with
    | zero => intro _; exact Iff.rfl
    | succ d ih =>
      intro hd
      rw [← ih (by omega)]
      constructor
      · rintro ⟨m, hm, h⟩
        exact ((rRow_out (r := th T + d) (by omega)).mp h).2
      · intro h
        exact ⟨0, by omega, (rRow_out (r := th T + d) (by omega)).mpr ⟨rfl, h⟩⟩
  have h5 := hO.2.1
  have h := key (5 - th T) (by omega)
  rw [show th T + (5 - th T) = 5 by omega] at h
  rw [← h]
  unfold mostR
  constructor
  · rintro ⟨m, hm, hh⟩
    exact ⟨m, hm, (row_iff 5 m v).mp hh⟩
  · rintro ⟨m, hm, hh⟩
    exact ⟨m, hm, (row_iff 5 m v).mpr hh⟩
/-- a chosen cell of the last row is a piece -/
theorem rRow_pc {T : XT} {r m k : Nat} (h : rRow T r m k) {c : Nat} (hc : c < 6) (hx : m.testBit c = true) : 1 ≤ r ∧ isP T (6 * (r - 1) + c) = true := by
  cases r with
  | zero =>
    rw [h.1, Nat.zero_testBit] at hx
    cases hx
  | succ r => exact ⟨by omega, (h.2.1 c hc hx).1⟩
theorem cnt_le6 {p : Nat → Bool} : cnt p 6 ≤ 6 := cnt_le p 6
theorem rRow_bd {T : XT} : ∀ r m k, rRow T r m k → k ≤ 6 * r := by
  intro r
  induction r with
  | zero => rintro m k ⟨-, rfl⟩; omega
  | succ r ih =>
    rintro m k ⟨-, -, m', j, -, h, -, rfl⟩
    have := ih m' j h
    have := cnt_le6 (p := m.testBit)
    omega
