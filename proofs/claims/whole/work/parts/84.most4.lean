/-! most: row by row -/
def rowK (T : XT) (r m' : Nat) : Prop := ∀ c, c < 6 → m'.testBit c = true → isP T (6 * r + c) = true ∧ (c < 5 → m'.testBit (c + 1) = true → pf T (6 * r + c) 1 = true)
def colK (T : XT) (r m m' : Nat) : Prop := ∀ c, c < 6 → m.testBit c = true → m'.testBit c = true → pf T (6 * r + c) 0 = true
def rRow (T : XT) : Nat → Nat → Nat → Prop
  | 0, m, k => m = 0 ∧ k = 0
  | r + 1, m', k => m' < 64 ∧ rowK T r m' ∧ ∃ m j, m < 64 ∧ rRow T r m j ∧ colK T r m m' ∧ k = j + cnt m'.testBit 6
def midR (T : XT) (r q M v : Nat) : Prop := ∃ (m : Nat) (χ : Nat → Bool) (j : Nat), m < 64 ∧ M < 64 ∧ rRow T r m j ∧ (∀ c, c < q → χ c = true → isP T (6 * r + c) = true ∧ (1 ≤ c → χ (c - 1) = true → pf T (6 * r + c) 3 = true) ∧ (m.testBit c = true → pf T (6 * r + c) 0 = true)) ∧
  (∀ c, c < 6 → M.testBit c = if c < q then χ c else m.testBit c) ∧ v = j + cnt χ q
def updB (χ : Nat → Bool) (q : Nat) (b : Bool) : Nat → Bool := fun c => if c = q then b else χ c
theorem updB_eq {χ : Nat → Bool} {q : Nat} {b : Bool} : updB χ q b q = b := if_pos rfl
theorem updB_ne {χ : Nat → Bool} {q c : Nat} {b : Bool} (h : ¬ c = q) : updB χ q b c = χ c := if_neg h
theorem cnt_updB {χ : Nat → Bool} {q : Nat} {b : Bool} : cnt (updB χ q b) (q + 1) = cnt χ q + (if b = true then 1 else 0) := by
  show cnt (updB χ q b) q + (if updB χ q b q = true then 1 else 0) = _
  rw [updB_eq, cnt_congr (p := updB χ q b) (q := χ) (fun k hk => updB_ne (by omega))]
theorem ext64 {m n : Nat} (hm : m < 64) (hn : n < 64) (h : ∀ c, c < 6 → m.testBit c = n.testBit c) : m = n := by
  refine Nat.eq_of_testBit_eq (fun c => ?_)
  by_cases hc : c < 6
  · exact h c hc
  · have h1 : 64 ≤ 2 ^ c := Nat.pow_le_pow_right (show 0 < 2 by omega) (show 6 ≤ c by omega)
    rw [Nat.testBit_lt_two_pow (Nat.lt_of_lt_of_le hm h1), Nat.testBit_lt_two_pow (Nat.lt_of_lt_of_le hn h1)]
theorem set_tb {m u c : Nat} : (m ||| 2 ^ u).testBit c = (m.testBit c || decide (c = u)) := by
  rw [Nat.testBit_or, Nat.testBit_two_pow]
  by_cases e : c = u
  · rw [decide_eq_true e, decide_eq_true e.symm]
  · rw [decide_eq_false e, decide_eq_false (fun h => e h.symm)]
theorem rRow_lt {T : XT} {r m k : Nat} (h : rRow T r m k) : m < 64 := by
  cases r with
  | zero => rw [h.1]; omega
  | succ r => exact h.1
theorem fr6_iff {p3 p0 : Bool} {c m : Nat} : fr6 p3 p0 c m = true ↔ (1 ≤ c → m.testBit (c - 1) = true → p3 = true) ∧ (m.testBit c = true → p0 = true) := by
  unfold fr6
  cases c with
  | zero => cases p3 <;> cases p0 <;> cases m.testBit 0 <;> simp
  | succ c =>
    rw [show Nat.beq (c + 1) 0 = false from rfl, show c + 1 - 1 = c from rfl]
    cases p3 <;> cases p0 <;> cases m.testBit c <;> cases m.testBit (c + 1) <;> simp
theorem midR_fwd {T : XT} {r q M M' v : Nat} (hq : q < 6) (h : stp (midR T r q) T (6 * r + q) M M' v) : midR T r (q + 1) M' v := by
  have h6 : (6 * r + q) % 6 = q := by omega
  unfold stp at h
  rw [h6] at h
  rcases h with ⟨⟨m, χ, j, h1, h2, h3, h4, h5, rfl⟩, rfl⟩ | ⟨j', ⟨m, χ, j, h1, h2, h3, h4, h5, rfl⟩, rfl, hp, hf, rfl⟩
  · refine ⟨m, updB χ q false, j, h1, clr_lt h2, h3, fun c hc hx => ?_, fun c hc => ?_, ?_⟩
    · by_cases e : c = q
      · rw [e, updB_eq] at hx; cases hx
      · rw [updB_ne e] at hx
        obtain ⟨a1, a2, a3⟩ := h4 c (by omega) hx
        refine ⟨a1, fun h1c hx' => a2 h1c ?_, a3⟩
        rw [updB_ne (show ¬ c - 1 = q by omega)] at hx'
        exact hx'
    · rw [clr, clr_tb (by omega), h5 c hc]
      by_cases e : c = q
      · rw [decide_eq_true e, if_pos (show c < q + 1 by omega), e, updB_eq, Bool.not_true, Bool.and_false]
      · rw [decide_eq_false e, Bool.not_false, Bool.and_true, updB_ne e]
        by_cases e2 : c < q
        · rw [if_pos e2, if_pos (show c < q + 1 by omega)]
        · rw [if_neg e2, if_neg (show ¬ c < q + 1 by omega)]
    · rw [cnt_updB]; rfl
  · have hf' := fr6_iff.mp hf
    refine ⟨m, updB χ q true, j, h1, set_lt h2 hq, h3, fun c hc hx => ?_, fun c hc => ?_, ?_⟩
    · by_cases e : c = q
      · rw [e]
        refine ⟨hp, fun h1c hx' => hf'.1 h1c ?_, fun hm => hf'.2 ?_⟩
        · rw [updB_ne (show ¬ q - 1 = q by omega)] at hx'
          rw [h5 (q - 1) (by omega), if_pos (show q - 1 < q by omega)]
          exact hx'
        · rw [h5 q hq, if_neg (show ¬ q < q by omega)]
          exact hm
      · rw [updB_ne e] at hx
        obtain ⟨a1, a2, a3⟩ := h4 c (by omega) hx
        refine ⟨a1, fun h1c hx' => a2 h1c ?_, a3⟩
        rw [updB_ne (show ¬ c - 1 = q by omega)] at hx'
        exact hx'
    · rw [set_tb, h5 c hc]
      by_cases e : c = q
      · rw [decide_eq_true e, if_pos (show c < q + 1 by omega), e, updB_eq, Bool.or_true]
      · rw [decide_eq_false e, Bool.or_false, updB_ne e]
        by_cases e2 : c < q
        · rw [if_pos e2, if_pos (show c < q + 1 by omega)]
        · rw [if_neg e2, if_neg (show ¬ c < q + 1 by omega)]
    · rw [cnt_updB, if_pos rfl]; omega
theorem midR_bwd {T : XT} {r q M' v : Nat} (hq : q < 6) (h : midR T r (q + 1) M' v) : ∃ M, M < 64 ∧ stp (midR T r q) T (6 * r + q) M M' v := by
  have h6 : (6 * r + q) % 6 = q := by omega
  obtain ⟨m, χ, j, h1, h2, h3, h4, h5, rfl⟩ := h
  obtain ⟨M, hM, hMb⟩ : ∃ M, M < 64 ∧ ∀ c, c < 6 → M.testBit c = if c < q then χ c else m.testBit c := by
    cases hm : m.testBit q with
    | true =>
      refine ⟨M' ||| 2 ^ q, set_lt h2 hq, fun c hc => ?_⟩
      rw [set_tb, h5 c hc]
      by_cases e : c = q
      · rw [decide_eq_true e, Bool.or_true, if_neg (show ¬ c < q by omega), e, hm]
      · rw [decide_eq_false e, Bool.or_false]
        by_cases e2 : c < q
        · rw [if_pos e2, if_pos (show c < q + 1 by omega)]
        · rw [if_neg e2, if_neg (show ¬ c < q + 1 by omega)]
    | false =>
      refine ⟨clr M' q, clr_lt h2, fun c hc => ?_⟩
      rw [clr, clr_tb (by omega), h5 c hc]
      by_cases e : c = q
      · rw [decide_eq_true e, Bool.not_true, Bool.and_false, if_neg (show ¬ c < q by omega), e, hm]
      · rw [decide_eq_false e, Bool.not_false, Bool.and_true]
        by_cases e2 : c < q
        · rw [if_pos e2, if_pos (show c < q + 1 by omega)]
        · rw [if_neg e2, if_neg (show ¬ c < q + 1 by omega)]
  have hmid : midR T r q M (j + cnt χ q) := ⟨m, χ, j, h1, hM, h3, fun c hc hx => h4 c (by omega) hx, hMb, rfl⟩
  refine ⟨M, hM, ?_⟩
  unfold stp
  rw [h6]
  cases hx : χ q with
  | false =>
    left
    refine ⟨?_, ext64 h2 (clr_lt hM) (fun c hc => ?_)⟩
    · show midR T r q M (j + (cnt χ q + (if χ q = true then 1 else 0)))
      rw [hx, if_neg (show ¬ false = true by decide)]
      exact hmid
    · rw [clr, clr_tb (by omega), h5 c hc, hMb c hc]
      by_cases e : c = q
      · rw [decide_eq_true e, if_pos (show c < q + 1 by omega), e, hx, Bool.not_true, Bool.and_false]
      · rw [decide_eq_false e, Bool.not_false, Bool.and_true]
        by_cases e2 : c < q
        · rw [if_pos e2, if_pos (show c < q + 1 by omega)]
        · rw [if_neg e2, if_neg (show ¬ c < q + 1 by omega)]
  | true =>
    right
    obtain ⟨a1, a2, a3⟩ := h4 q (by omega) hx
    refine ⟨j + cnt χ q, hmid, ?_, a1, fr6_iff.mpr ⟨fun h1q hb => a2 h1q ?_, fun hb => a3 ?_⟩, ext64 h2 (set_lt hM hq) (fun c hc => ?_)⟩
    · show j + (cnt χ q + (if χ q = true then 1 else 0)) = _
      rw [hx, if_pos rfl]
      omega
    · rw [hMb (q - 1) (by omega), if_pos (show q - 1 < q by omega)] at hb
      exact hb
    · rw [hMb q hq, if_neg (show ¬ q < q by omega)] at hb
      exact hb
    · rw [set_tb, h5 c hc, hMb c hc]
      by_cases e : c = q
      · rw [decide_eq_true e, if_pos (show c < q + 1 by omega), e, hx, Bool.or_true]
      · rw [decide_eq_false e, Bool.or_false]
        by_cases e2 : c < q
        · rw [if_pos e2, if_pos (show c < q + 1 by omega)]
        · rw [if_neg e2, if_neg (show ¬ c < q + 1 by omega)]
theorem stp_congr {R S : Nat → Nat → Prop} {T : XT} {i m m' k : Nat} (h : ∀ m k, R m k ↔ S m k) : stp R T i m m' k ↔ stp S T i m m' k := by
  unfold stp
  constructor
  · rintro (⟨h1, h2⟩ | ⟨j, h1, h2⟩)
    · exact Or.inl ⟨(h _ _).mp h1, h2⟩
    · exact Or.inr ⟨j, (h _ _).mp h1, h2⟩
  · rintro (⟨h1, h2⟩ | ⟨j, h1, h2⟩)
    · exact Or.inl ⟨(h _ _).mpr h1, h2⟩
    · exact Or.inr ⟨j, (h _ _).mpr h1, h2⟩
theorem mid_iff {T : XT} {r : Nat} (h : ∀ M v, cR T (6 * r) M v ↔ rRow T r M v) : ∀ q, q ≤ 6 → ∀ M v, cR T (6 * r + q) M v ↔ midR T r q M v := by
  intro q
  induction q with
  | zero =>
    intro _ M v
    rw [Nat.add_zero, h]
    constructor
    · intro h1
      exact ⟨M, fun _ => false, v, rRow_lt h1, rRow_lt h1, h1, fun c hc => absurd hc (by omega), fun c hc => by rw [if_neg (by omega)], rfl⟩
    · rintro ⟨m, χ, j, h1, h2, h3, h4, h5, rfl⟩
      rw [ext64 h2 h1 (fun c hc => by rw [h5 c hc, if_neg (by omega)])]
      exact h3
  | succ q ih =>
    intro hq M' v
    have ih := ih (by omega)
    constructor
    · rintro ⟨M, hM, h1⟩
      exact midR_fwd (by omega) ((stp_congr ih).mp h1)
    · intro h1
      obtain ⟨M, hM, h2⟩ := midR_bwd (by omega) h1
      exact ⟨M, hM, (stp_congr ih).mpr h2⟩
