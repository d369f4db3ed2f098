/-! table and board as plain functions; what both sides' methods answer of them -/
theorem xckT {α : Type} {x : Option α} : xck true x = x := rfl
theorem nk_nge {N k : Nat} (h : k < N) (hN : N < 2147483648) : ¬ Int32.ofNat N ≤ Int32.ofNat k := by
  rw [nk_le hN (by omega)]
  omega
theorem nk_nlt0 {k : Nat} (h : k < 2147483648) : ¬ Int32.ofNat k < 0 := by
  rw [nk_neg h]
  exact id
theorem nk_lt_t {a b : Nat} (h : a < b) (hb : b < 2147483648) : Int32.ofNat a < Int32.ofNat b := by
  rw [nk_lt (by omega) hb]
  exact h
theorem nk_lt_f {a b : Nat} (h : b ≤ a) (ha : a < 2147483648) : ¬ Int32.ofNat a < Int32.ofNat b := by
  rw [nk_lt ha (by omega)]
  omega
theorem nk_le_t {a b : Nat} (h : a ≤ b) (hb : b < 2147483648) : Int32.ofNat a ≤ Int32.ofNat b := by
  rw [nk_le (by omega) hb]
  exact h
theorem b2_add {c : Nat} {b : Bool} : Int32.ofNat c + (if b2 b = 0 then 0 else 1) = Int32.ofNat (c + if b = true then 1 else 0) := by
  cases b
  · show Int32.ofNat c + Int32.ofNat 0 = _
    rw [nk_add]
    rfl
  · exact nk_succ c
theorem b2_inc {c : Nat} {b : Bool} : (if b2 b = 0 then Int32.ofNat c else Int32.ofNat c + 1) = Int32.ofNat (c + if b = true then 1 else 0) := by
  cases b
  · rfl
  · exact nk_succ c
theorem b2_norm {b : Bool} : (if b2 b = 0 then (0 : Int32) else 1) = b2 b := by cases b <;> rfl
abbrev XT : Type := Nat × Nat × Nat × (Nat → Int32) × (Nat → Int32) × (Nat → Int32)
def tw (T : XT) : Nat := T.1
def th (T : XT) : Nat := T.2.1
def tn (T : XT) : Nat := T.2.2.1
def tl (T : XT) : Nat → Int32 := T.2.2.2.1
def tk (T : XT) : Nat → Int32 := T.2.2.2.2.1
def ts (T : XT) : Nat → Int32 := T.2.2.2.2.2
def inT (T : XT) (a : Nat) : Bool := decide (a % 6 < tw T) && decide (a / 6 < th T)
def isH (T : XT) (a : Nat) : Bool := decide (tl T a = 9)
def isP (T : XT) (a : Nat) : Bool := inT T a && !isH T a
def tOk (T : XT) : Prop := tw T ≤ 6 ∧ th T ≤ 5 ∧ tn T ≤ 5
def nb (T : XT) (a s : Nat) : Option Nat := match s with
  | 0 => if 6 ≤ a then some (a - 6) else none
  | 1 => if a % 6 + 1 < tw T then some (a + 1) else none
  | 2 => if a / 6 + 1 < th T then some (a + 6) else none
  | _ => if a % 6 = 0 then none else some (a - 1)
def opp (s : Nat) : Nat := (s + 2) % 4
/-- the class's table, the reference's -/
def tbC (S : Nat) (T : XT) (I : XI) : Prop := I S 0 = Int32.ofNat (tw T) ∧ I S 1 = Int32.ofNat (th T) ∧ I S 2 = Int32.ofNat (tn T) ∧ I (S + 1) = tl T ∧ I (S + 2) = tk T ∧ I (S + 3) = ts T
def tbM (lv : Nat) (T : XT) (I : XI) : Prop := (lv < 2 ∧ I 131 18 = Int32.ofNat lv) ∧ (I 140 lv = Int32.ofNat (tw T) ∧ I 141 lv = Int32.ofNat (th T) ∧ I 146 lv = Int32.ofNat (tn T)) ∧
  (∀ a, a < 30 → inT T a = true → I 142 (30 * lv + a) = tl T a) ∧ (∀ a s, a < 30 → s < 4 → I 143 (120 * lv + 4 * a + s) = tk T (4 * a + s)) ∧ (∀ e s, e < tn T → s < 4 → I 147 (4 * (5 * lv + e) + s) = ts T (4 * e + s))
theorem inT_iff {T : XT} {a : Nat} : inT T a = true ↔ a % 6 < tw T ∧ a / 6 < th T := by
  unfold inT
  simp
theorem nb_lt {T : XT} (hO : tOk T) {a : Nat} (ha : a < 30) : ∀ s, s < 4 → ∀ b, nb T a s = some b → b < 30 := by
  obtain ⟨o1, o2, o3⟩ := hO
  refine all4 ?_ ?_ ?_ ?_
  all_goals
    intro b h
    unfold nb at h
    simp only at h
    split at h
    all_goals cases h
    all_goals omega
theorem nb_in {T : XT} (hO : tOk T) {a : Nat} (ha : a < 30) (hi : inT T a = true) : ∀ s, s < 4 → ∀ b, nb T a s = some b → inT T b = true := by
  obtain ⟨o1, o2, o3⟩ := hO
  rw [inT_iff] at hi
  refine all4 ?_ ?_ ?_ ?_
  all_goals
    intro b h
    unfold nb at h
    simp only at h
    rw [inT_iff]
    split at h
    all_goals cases h
    all_goals omega
theorem nb_opp {T : XT} (hO : tOk T) {a : Nat} (ha : a < 30) (hi : inT T a = true) : ∀ s, s < 4 → ∀ b, nb T a s = some b → nb T b (opp s) = some a := by
  obtain ⟨o1, o2, o3⟩ := hO
  rw [inT_iff] at hi
  refine all4 ?_ ?_ ?_ ?_
  · intro b h
    unfold nb at h
    simp only at h
    split at h
    · cases h
      show (if (a - 6) / 6 + 1 < th T then some (a - 6 + 6) else none) = _
      rw [if_pos (by omega), Nat.sub_add_cancel (by omega)]
    · cases h
  · intro b h
    unfold nb at h
    simp only at h
    split at h
    · cases h
      show (if (a + 1) % 6 = 0 then none else some (a + 1 - 1)) = _
      rw [if_neg (by omega), Nat.add_sub_cancel]
    · cases h
  · intro b h
    unfold nb at h
    simp only at h
    split at h
    · cases h
      show (if 6 ≤ a + 6 then some (a + 6 - 6) else none) = _
      rw [if_pos (by omega), Nat.add_sub_cancel]
    · cases h
  · intro b h
    unfold nb at h
    simp only at h
    split at h
    · cases h
    · cases h
      show (if (a - 1) % 6 + 1 < tw T then some (a - 1 + 1) else none) = _
      rw [if_pos (by omega), Nat.sub_add_cancel (by omega)]
theorem c_isPiece {S : Nat} {T : XT} {I : XI} (hT : tbC S T I) (hO : tOk T) {a : Nat} (ha : a < 30) : f_Table_isPiece S I (Int32.ofNat a) = some (b2 (isP T a)) := by
  obtain ⟨h0, h1, h2, h3, h4, h5⟩ := hT
  obtain ⟨o1, o2, o3⟩ := hO
  unfold f_Table_isPiece
  rw [h0, h1, h3]
  simp (disch := omega) only [nl6, nk_div, nk_mul, nk_sub, nk_md, nk_le, nk_N, nk_in, xckT, b2_ifn, b2_nar]
  unfold isP inT isH
  by_cases c1 : a % 6 < tw T
  · rw [if_neg (by omega), decide_eq_true c1]
    by_cases c2 : a / 6 < th T
    · rw [if_neg (by omega), decide_eq_true c2]
      rfl
    · rw [if_pos (by omega), decide_eq_false c2]
      rfl
  · rw [if_pos (by omega), decide_eq_false c1]
    rfl
theorem c_isHole {S : Nat} {T : XT} {I : XI} (hT : tbC S T I) (hO : tOk T) {a : Nat} (ha : a < 30) : f_Table_isHole S I (Int32.ofNat a) = some (b2 (inT T a && isH T a)) := by
  obtain ⟨h0, h1, h2, h3, h4, h5⟩ := hT
  obtain ⟨o1, o2, o3⟩ := hO
  unfold f_Table_isHole
  rw [h0, h1, h3]
  simp (disch := omega) only [nl6, nk_div, nk_mul, nk_sub, nk_md, nk_le, nk_N, nk_in, xckT, b2_if, b2_nar]
  unfold inT isH
  by_cases c1 : a % 6 < tw T
  · rw [if_neg (by omega), decide_eq_true c1]
    by_cases c2 : a / 6 < th T
    · rw [if_neg (by omega), decide_eq_true c2]
      rfl
    · rw [if_pos (by omega), decide_eq_false c2]
      rfl
  · rw [if_pos (by omega), decide_eq_false c1]
    rfl
theorem c_beside {S : Nat} {T : XT} {I : XI} (hT : tbC S T I) (hO : tOk T) {a : Nat} (ha : a < 30) : ∀ s, s < 4 → f_Table_beside S I (Int32.ofNat a) (Int32.ofNat s) = some (oi (nb T a s)) := by
  obtain ⟨h0, h1, h2, h3, h4, h5⟩ := hT
  obtain ⟨o1, o2, o3⟩ := hO
  refine all4 ?_ ?_ ?_ ?_
  · unfold f_Table_beside
    rw [if_neg (by decide), if_pos (by decide)]
    show some (if Int32.ofNat a / 6 ≤ 0 then (-1) else (Int32.ofNat a - 6)) = some (oi (if 6 ≤ a then some (a - 6) else none))
    by_cases h : 6 ≤ a
    · rw [if_pos h, nl6, nl0, nk_div (by omega) (by omega), if_neg (nk_nge (show 0 < a / 6 by omega) (by omega)), nk_sub h]
      rfl
    · rw [if_neg h, nl6, nl0, nk_div (by omega) (by omega), if_pos (nk_le_t (show a / 6 ≤ 0 by omega) (by omega))]
      rfl
  · unfold f_Table_beside
    rw [if_neg (by decide), if_neg (by decide), if_pos (by decide), h0]
    show some (if Int32.ofNat (tw T) - 1 ≤ (Int32.ofNat a - Int32.ofNat a / 6 * 6) then (-1) else (Int32.ofNat a + 1)) = some (oi (if a % 6 + 1 < tw T then some (a + 1) else none))
    rw [nl6]
    simp (disch := omega) only [nk_div, nk_mul, nk_sub, nk_md, nk_pred, nk_succ]
    by_cases h : a % 6 + 1 < tw T
    · rw [if_pos h, if_neg (by omega)]
      rfl
    · rw [if_neg h, if_pos (by omega)]
      rfl
  · unfold f_Table_beside
    rw [if_neg (by decide), if_neg (by decide), if_neg (by decide), if_pos (by decide), h1]
    show some (if Int32.ofNat (th T) - 1 ≤ (Int32.ofNat a / 6) then (-1) else (Int32.ofNat a + 6)) = some (oi (if a / 6 + 1 < th T then some (a + 6) else none))
    rw [nl6]
    simp (disch := omega) only [nk_div, nk_pred, nk_add]
    by_cases h : a / 6 + 1 < th T
    · rw [if_pos h, if_neg (by omega)]
      rfl
    · rw [if_neg h, if_pos (by omega)]
      rfl
  · unfold f_Table_beside
    rw [if_pos (by decide)]
    show some (if (Int32.ofNat a - Int32.ofNat a / 6 * 6) ≤ 0 then (-1) else (Int32.ofNat a - 1)) = some (oi (if a % 6 = 0 then none else some (a - 1)))
    rw [nl6, nl0]
    simp (disch := omega) only [nk_div, nk_mul, nk_sub, nk_md, nk_le]
    by_cases h : a % 6 = 0
    · rw [if_pos h, if_pos (by omega)]
      rfl
    · rw [if_neg h, if_neg (by omega), nl1, nk_sub (by omega)]
      rfl
theorem m_in {a b c : Int32} : f_M_in a b c = some (b2 (decide (b ≤ a) && decide (a ≤ c))) := by
  unfold f_M_in
  by_cases h1 : a < b
  · rw [if_pos h1, decide_eq_false (Int32.not_le.mpr h1)]
    rfl
  · have h1' : b ≤ a := Int32.not_lt.mp h1
    rw [if_neg h1, b2_ifn, b2_nar, xckT, decide_eq_true h1']
    by_cases h2 : c < a
    · rw [decide_eq_true h2, decide_eq_false (Int32.not_le.mpr h2)]
      rfl
    · rw [decide_eq_false h2, decide_eq_true (Int32.not_lt.mp h2)]
      rfl
def inC (T : XT) (x y : Int32) : Bool := (decide (0 ≤ x) && decide (x ≤ Int32.ofNat (tw T) - 1)) && (decide (0 ≤ y) && decide (y ≤ Int32.ofNat (th T) - 1))
theorem m_isCell {lv : Nat} {T : XT} {I : XI} (hM : tbM lv T I) {x y : Int32} : f_M_isCell I x y = some (b2 (inC T x y)) := by
  obtain ⟨⟨a1, a2⟩, ⟨b1, b2', b3⟩, c1, c2, c3⟩ := hM
  unfold f_M_isCell
  rw [a2]
  simp (disch := omega) only [nk_N, nk_in, xckT, b1, b2', m_in, Option.bind_some, b2_norm, b2_nar, b2_z]
  unfold inC
  by_cases h : (decide (0 ≤ x) && decide (x ≤ Int32.ofNat (tw T) - 1)) = true
  · rw [h]
    cases (decide (0 ≤ y) && decide (y ≤ Int32.ofNat (th T) - 1)) <;> rfl
  · have h' := Bool.eq_false_iff.mpr h
    rw [h']
    rfl
theorem nk_ofle {k w : Nat} (hk : k < 2147483648) (hw : w < 2147483648) : decide (Int32.ofNat k ≤ Int32.ofNat w - 1) = decide (k < w) := by
  rw [decide_eq_decide]
  cases w with
  | zero =>
    constructor
    · intro h
      exfalso
      have h : Int32.ofNat k ≤ -1 := h
      rw [Int32.le_iff_toInt_le, Int32.toInt_ofNat_of_lt hk] at h
      have : (-1 : Int32).toInt = -1 := by decide
      omega
    · intro h; omega
  | succ w =>
    rw [nl1, nk_sub (by omega), nk_le hk (by omega)]
    omega
theorem nk_0le {k : Nat} (hk : k < 2147483648) : decide ((0 : Int32) ≤ Int32.ofNat k) = true := decide_eq_true (nk_le_t (Nat.zero_le k) hk)
theorem inC_nat {T : XT} (hO : tOk T) {k j : Nat} (hk : k < 2147483648) (hj : j < 2147483648) : inC T (Int32.ofNat k) (Int32.ofNat j) = (decide (k < tw T) && decide (j < th T)) := by
  obtain ⟨o1, o2, o3⟩ := hO
  unfold inC
  rw [nk_ofle hk (by omega), nk_ofle hj (by omega), nk_0le hk, nk_0le hj]
  simp only [Bool.true_and]
theorem inC_x {T : XT} {y : Int32} : inC T (-1) y = false := by
  unfold inC
  rw [show decide ((0 : Int32) ≤ -1) = false from by decide]
  rfl
theorem inC_y {T : XT} {x : Int32} : inC T x (-1) = false := by
  unfold inC
  rw [show decide ((0 : Int32) ≤ -1) = false from by decide]
  simp
theorem inC_ex {T : XT} (hO : tOk T) {x y : Int32} (h : inC T x y = true) : ∃ a, a < 30 ∧ inT T a = true ∧ x = Int32.ofNat (a % 6) ∧ y = Int32.ofNat (a / 6) := by
  have h0 := h
  unfold inC at h
  simp only [Bool.and_eq_true, decide_eq_true_eq] at h
  have hx : x = Int32.ofNat (xN x) := (Int32.ofNat_toNatClampNeg x h.1.1).symm
  have hy : y = Int32.ofNat (xN y) := (Int32.ofNat_toNatClampNeg y h.2.1).symm
  have lx : xN x < 2147483648 := Int32.toNatClampNeg_lt x
  have ly : xN y < 2147483648 := Int32.toNatClampNeg_lt y
  rw [hx, hy] at h0
  rw [inC_nat hO lx ly] at h0
  simp only [Bool.and_eq_true, decide_eq_true_eq] at h0
  obtain ⟨o1, o2, o3⟩ := hO
  have e1 : (6 * xN y + xN x) % 6 = xN x := by omega
  have e2 : (6 * xN y + xN x) / 6 = xN y := by omega
  refine ⟨6 * xN y + xN x, by omega, ?_, ?_, ?_⟩
  · rw [inT_iff, e1, e2]; exact h0
  · rw [e1]; exact hx
  · rw [e2]; exact hy
theorem cell_ix {a : Nat} : 6 * Int32.ofNat (a / 6) + Int32.ofNat (a % 6) = Int32.ofNat a := by
  rw [nl6, nk_mul, nk_add, Nat.div_add_mod]
theorem cell_ix' {a : Nat} : Int32.ofNat (a / 6) * 6 + Int32.ofNat (a % 6) = Int32.ofNat a := by
  rw [nl6, nk_mul, nk_add, Nat.mul_comm, Nat.div_add_mod]
theorem c_cellAt_in {S : Nat} {T : XT} {I : XI} (hT : tbC S T I) (hO : tOk T) {a : Nat} (ha : a < 30) (hi : inT T a = true) : f_Table_cellAt S I (Int32.ofNat (a % 6)) (Int32.ofNat (a / 6)) = some (Int32.ofNat a) := by
  obtain ⟨h0, h1, h2, h3, h4, h5⟩ := hT
  rw [inT_iff] at hi
  obtain ⟨o1, o2, o3⟩ := hO
  unfold f_Table_cellAt
  rw [if_neg (nk_nlt0 (by omega)), if_neg (nk_nlt0 (by omega)), h0, h1, if_neg (nk_nge hi.1 (by omega)), if_pos (nk_lt_t hi.2 (by omega)), cell_ix']
theorem c_cellAt_out {S : Nat} {T : XT} {I : XI} (hT : tbC S T I) (hO : tOk T) {x y : Int32} (h : inC T x y = false) : f_Table_cellAt S I x y = some (-1) := by
  obtain ⟨h0, h1, h2, h3, h4, h5⟩ := hT
  unfold f_Table_cellAt
  by_cases hx : x < 0
  · rw [if_pos hx]
  · by_cases hy : y < 0
    · rw [if_neg hx, if_pos hy]
    · rw [if_neg hx, if_neg hy, h0, h1]
      have ex : x = Int32.ofNat (xN x) := (Int32.ofNat_toNatClampNeg x (Int32.not_lt.mp hx)).symm
      have ey : y = Int32.ofNat (xN y) := (Int32.ofNat_toNatClampNeg y (Int32.not_lt.mp hy)).symm
      have lx : xN x < 2147483648 := Int32.toNatClampNeg_lt x
      have ly : xN y < 2147483648 := Int32.toNatClampNeg_lt y
      rw [ex, ey] at h ⊢
      rw [inC_nat hO lx ly] at h
      obtain ⟨o1, o2, o3⟩ := hO
      by_cases hw : tw T ≤ xN x
      · rw [if_pos (nk_le_t hw lx)]
      · rw [if_neg (nk_nge (by omega) (by omega))]
        by_cases hh : xN y < th T
        · rw [decide_eq_true (show xN x < tw T by omega), decide_eq_true hh] at h
          cases h
        · rw [if_neg (nk_lt_f (by omega) ly)]
theorem m_isThere {lv : Nat} {T : XT} {I : XI} (hM : tbM lv T I) (hO : tOk T) {a : Nat} (ha : a < 30) : f_M_isThere I (Int32.ofNat a) = some (b2 (inT T a)) := by
  unfold f_M_isThere
  rw [nl6]
  simp (disch := omega) only [nk_div, nk_mul, nk_sub, nk_md]
  rw [m_isCell hM, inC_nat hO (by omega) (by omega)]
  simp only [Option.bind_some, b2_nar, xckT]
  rfl
theorem m_landAt {lv : Nat} {T : XT} {I : XI} (hM : tbM lv T I) {a : Nat} (ha : a < 30) (hi : inT T a = true) : f_M_landAt I (Int32.ofNat a) = some (tl T a) := by
  obtain ⟨⟨a1, a2⟩, ⟨b1, b2', b3⟩, c1, c2, c3⟩ := hM
  unfold f_M_landAt
  rw [a2, nl30]
  simp (disch := omega) only [nk_mul, nk_add, nk_N, nk_in, xckT]
  rw [c1 a ha hi]
theorem m_isHole {lv : Nat} {T : XT} {I : XI} (hM : tbM lv T I) {a : Nat} (ha : a < 30) (hi : inT T a = true) : f_M_isHole I (Int32.ofNat a) = some (b2 (isH T a)) := by
  unfold f_M_isHole
  rw [m_landAt hM ha hi]
  simp only [Option.bind_some, b2_if, b2_nar, xckT]
  rfl
theorem m_overTo {lv : Nat} {T : XT} {I : XI} (hM : tbM lv T I) (hO : tOk T) {a : Nat} (ha : a < 30) (hi : inT T a = true) : ∀ s, s < 4 → f_M_overTo I (Int32.ofNat a) (Int32.ofNat s) = some (oi (nb T a s)) := by
  have hi' := inT_iff.mp hi
  have hO' := hO
  obtain ⟨o1, o2, o3⟩ := hO'
  have e6 : (Int32.ofNat a - Int32.ofNat a / 6 * 6) = Int32.ofNat (a % 6) := by
    rw [nl6]
    simp (disch := omega) only [nk_div, nk_mul, nk_sub, nk_md]
  have d6 : Int32.ofNat a / 6 = Int32.ofNat (a / 6) := by rw [nl6, nk_div (by omega) (by omega)]
  have key : ∀ x y : Int32, f_M_overTo_47 I x y 0 = some (if inC T x (y + 0) = true then (6 * (y + 0)) + x else (-1)) := by
    intro x y
    unfold f_M_overTo_47
    rw [m_isCell hM]
    simp only [Option.bind_some, b2_z]
    cases inC T x (y + 0) <;> rfl
  have keyp : ∀ (x y z : Int32), f_M_overTo_47 I x y z = some (if inC T x (y + z) = true then (6 * (y + z)) + x else (-1)) := by
    intro x y z
    unfold f_M_overTo_47
    rw [m_isCell hM]
    simp only [Option.bind_some, b2_z]
    cases inC T x (y + z) <;> rfl
  refine all4 ?_ ?_ ?_ ?_
  · show f_M_overTo_47 I ((Int32.ofNat a - Int32.ofNat a / 6 * 6) + 0) (Int32.ofNat a / 6) (-1) = _
    rw [e6, d6, keyp]
    show some _ = some (oi (if 6 ≤ a then some (a - 6) else none))
    rw [show Int32.ofNat (a % 6) + 0 = Int32.ofNat (a % 6) from nk_add (a % 6) 0]
    by_cases h : 6 ≤ a
    · rw [show Int32.ofNat (a / 6) + -1 = Int32.ofNat ((a - 6) / 6) from by
        rw [← Int32.sub_eq_add_neg, nl1, nk_sub (by omega), show a / 6 - 1 = (a - 6) / 6 by omega]]
      rw [inC_nat hO (by omega) (by omega), decide_eq_true hi'.1, decide_eq_true (show (a - 6) / 6 < th T by omega), if_pos (by decide), if_pos h, show a % 6 = (a - 6) % 6 by omega, cell_ix]
      rfl
    · rw [show a / 6 = 0 by omega, show Int32.ofNat 0 + -1 = (-1 : Int32) from by decide, inC_y, if_neg (by decide), if_neg h]
      rfl
  · show f_M_overTo_47 I ((Int32.ofNat a - Int32.ofNat a / 6 * 6) + 1) (Int32.ofNat a / 6) 0 = _
    rw [e6, d6, keyp]
    show some _ = some (oi (if a % 6 + 1 < tw T then some (a + 1) else none))
    rw [nk_succ, show Int32.ofNat (a / 6) + 0 = Int32.ofNat (a / 6) from nk_add (a / 6) 0, inC_nat hO (by omega) (by omega), decide_eq_true hi'.2]
    by_cases h : a % 6 + 1 < tw T
    · rw [decide_eq_true h, if_pos (by decide), if_pos h, show a % 6 + 1 = (a + 1) % 6 by omega, show a / 6 = (a + 1) / 6 by omega, cell_ix]
      rfl
    · rw [decide_eq_false h, if_neg (by decide), if_neg h]
      rfl
  · show f_M_overTo_47 I ((Int32.ofNat a - Int32.ofNat a / 6 * 6) + 0) (Int32.ofNat a / 6) 1 = _
    rw [e6, d6, keyp]
    show some _ = some (oi (if a / 6 + 1 < th T then some (a + 6) else none))
    rw [nk_succ, show Int32.ofNat (a % 6) + 0 = Int32.ofNat (a % 6) from nk_add (a % 6) 0, inC_nat hO (by omega) (by omega), decide_eq_true hi'.1]
    by_cases h : a / 6 + 1 < th T
    · rw [decide_eq_true h, if_pos (by decide), if_pos h, show a / 6 + 1 = (a + 6) / 6 by omega, show a % 6 = (a + 6) % 6 by omega, cell_ix]
      rfl
    · rw [decide_eq_false h, if_neg (by decide), if_neg h]
      rfl
  · show f_M_overTo_47 I ((Int32.ofNat a - Int32.ofNat a / 6 * 6) + -1) (Int32.ofNat a / 6) 0 = _
    rw [e6, d6, keyp]
    show some _ = some (oi (if a % 6 = 0 then none else some (a - 1)))
    rw [show Int32.ofNat (a / 6) + 0 = Int32.ofNat (a / 6) from nk_add (a / 6) 0]
    by_cases h : a % 6 = 0
    · rw [h, show Int32.ofNat 0 + -1 = (-1 : Int32) from by decide, inC_x, if_neg (by decide), if_pos rfl]
      rfl
    · rw [show Int32.ofNat (a % 6) + -1 = Int32.ofNat ((a - 1) % 6) from by
        rw [← Int32.sub_eq_add_neg, nl1, nk_sub (by omega), show a % 6 - 1 = (a - 1) % 6 by omega]]
      rw [inC_nat hO (by omega) (by omega), decide_eq_true (show (a - 1) % 6 < tw T by omega), decide_eq_true hi'.2, if_pos (by decide), if_neg h, show a / 6 = (a - 1) / 6 by omega, cell_ix]
      rfl
