/-! what is done: lay, take, press, days, undo, hold, restore -/
abbrev X4 : Type := (Nat → Int32) × Int32 × Int32 × Int32
/-- a state object holds x -/
def oH (A : Nat) (x : X4) (I : XI) : Prop := agW (I (A + 1)) x.1 ∧ I A 1 = x.2.1 ∧ I A 2 = x.2.2.1 ∧ I A 3 = x.2.2.2
/-- the reference's row at a place holds x -/
def oM (o b : Nat) (x : X4) (I : XI) : Prop := (∀ a, a < 30 → I o (b + a) = enc (x.1 a)) ∧ I o (b + 30) = x.2.1 ∧ I o (b + 31) = x.2.2.1 ∧ I o (b + 32) = x.2.2.2
def uH (n p : Nat) (hs : Nat → X4) (I : XI) : Prop := (n ≤ 40 ∧ p < 40) ∧ (I 38 1 = Int32.ofNat n ∧ I 38 2 = Int32.ofNat p) ∧ ∀ j, j < n → oH (41 + 2 * ((p + 40 - n + j) % 40)) (hs j) I
def uM (n : Nat) (hs : Nat → X4) (I : XI) : Prop := I 131 54 = Int32.ofNat n ∧ ∀ j, j < n → oM 166 (33 * j) (hs j) I
def pushN (n : Nat) : Nat := if n = 40 then 40 else n + 1
def pushS (n : Nat) (hs : Nat → X4) (x : X4) : Nat → X4 := if n = 40 then (fun j => if j = 39 then x else hs (j + 1)) else (fun j => if j = n then x else hs j)
theorem xrf39 : ∀ q, q < 40 → xrf 39 q = some (41 + 2 * q) := by decide +kernel
theorem xrf40 : ∀ q, q < 3 → xrf 40 q = some (121 + 2 * q) := by decide +kernel
def scU (o j : Nat) : Bool := (Nat.beq o 38 && (Nat.beq j 1 || Nat.beq j 2)) || (Nat.ble 41 o && Nat.ble o 120)
theorem scU_lo {o j : Nat} (h : o < 38 ∨ o = 39 ∨ o = 40 ∨ 120 < o) : scU o j = false := by
  unfold scU
  rw [beqf (show ¬ o = 38 by omega), Bool.false_and, Bool.false_or]
  cases h1 : Nat.ble 41 o with
  | false => rfl
  | true =>
    have := Nat.le_of_ble_eq_true h1
    cases h2 : Nat.ble o 120 with
    | false => rfl
    | true =>
      have := Nat.le_of_ble_eq_true h2
      omega
theorem scU_in {o j : Nat} (h : 41 ≤ o ∧ o ≤ 120) : scU o j = true := by
  unfold scU
  rw [Nat.ble_eq_true_of_le h.1, Nat.ble_eq_true_of_le h.2]
  simp
theorem oH_same {S : Nat → Nat → Bool} {A : Nat} {x : X4} {I J : XI} (h : oH A x I) (hs : Same S I J) (h1 : ∀ j, S A j = false) (h2 : ∀ j, S (A + 1) j = false) : oH A x J := by
  obtain ⟨a, b, c, d⟩ := h
  exact ⟨fun k hk => by rw [hs _ _ (h2 k)]; exact a k hk, by rw [hs _ _ (h1 1)]; exact b, by rw [hs _ _ (h1 2)]; exact c, by rw [hs _ _ (h1 3)]; exact d⟩
theorem oM_same {S : Nat → Nat → Bool} {o b : Nat} {x : X4} {I J : XI} (h : oM o b x I) (hs : Same S I J) (h1 : ∀ j, S o j = false) : oM o b x J := by
  obtain ⟨a, c, d, e⟩ := h
  exact ⟨fun k hk => by rw [hs _ _ (h1 _)]; exact a k hk, by rw [hs _ _ (h1 _)]; exact c, by rw [hs _ _ (h1 _)]; exact d, by rw [hs _ _ (h1 _)]; exact e⟩
theorem nk_md40 {k : Nat} (h : k < 2147483648) : Int32.ofNat k - Int32.ofNat k / 40 * 40 = Int32.ofNat (k % 40) := by
  rw [nl40]
  simp (disch := omega) only [nk_div, nk_mul, nk_sub, nk_md]
theorem c_keep {n p : Nat} {hs : Nat → X4} {x : X4} {I : XI} (hu : uH n p hs I) (hx : oH 26 x I) : xOk (f_Past_keep 26 I) (fun J => uH (pushN n) ((p + 1) % 40) (pushS n hs x) J ∧ Same scU I J) := by
  obtain ⟨⟨hn, hp⟩, ⟨u1, u2⟩, u3⟩ := hu
  obtain ⟨x1, x2, x3, x4⟩ := hx
  unfold f_Past_keep
  rw [u2]
  refine xOk.ck (nk_in hp (by omega)) ?_
  rw [nk_N (by omega)]
  refine xOk.bnde (xrf39 p hp) ?_
  refine (c_copy (A := 41 + 2 * p) (B := 26) (by omega)).bnd (fun J hJ => ?_)
  obtain ⟨j1, j2, j3, j4, j5⟩ := hJ
  have hsU : Same scU I J := j5.mono (fun o j e => by
    unfold scS
    cases h1 : Nat.beq o (41 + 2 * p) with
    | true =>
      have := Nat.eq_of_beq_eq_true h1
      rw [scU_in (by omega)] at e
      cases e
    | false =>
      cases h2 : Nat.beq o (41 + 2 * p + 1) with
      | true =>
        have := Nat.eq_of_beq_eq_true h2
        rw [scU_in (by omega)] at e
        cases e
      | false => rfl)
  have e38 : ∀ j, scS (41 + 2 * p) 38 j = false := fun j => by
    unfold scS
    rw [beqf (show ¬ 38 = 41 + 2 * p by omega), beqf (show ¬ 38 = 41 + 2 * p + 1 by omega)]
    rfl
  refine xOk.st (xOk.st (xOk.pur ⟨⟨⟨?_, Nat.mod_lt _ (by omega)⟩, ⟨?_, ?_⟩, ?_⟩, (hsU.put' rfl).put' rfl⟩))
  · unfold pushN
    split <;> omega
  · rw [xput_eq, xput_ne (by omega), j5 38 1 (e38 1), u1, nk_succ, nl40]
    unfold pushN
    by_cases e : n = 40
    · rw [if_pos e, if_pos (nk_lt_t (by omega) (by omega))]
    · rw [if_neg e, if_neg (nk_lt_f (by omega) (by omega))]
  · rw [xput_ne (by omega), xput_eq, j5 38 2 (e38 2), u2, nk_succ, nk_md40 (by omega)]
  · have put : ∀ A y, ¬ A = 38 → ¬ A + 1 = 38 → oH A y J → oH A y (xput (xput J 38 2 (J 38 2 + 1 - (J 38 2 + 1) / 40 * 40)) 38 1 (if 40 < xput J 38 2 (J 38 2 + 1 - (J 38 2 + 1) / 40 * 40) 38 1 + 1 then 40 else xput J 38 2 (J 38 2 + 1 - (J 38 2 + 1) / 40 * 40) 38 1 + 1)) := by
      intro A y h1 h2 h
      obtain ⟨a, b, c, d⟩ := h
      refine ⟨fun k hk => ?_, ?_, ?_, ?_⟩
      · rw [xput_neo h2, xput_neo h2]; exact a k hk
      · rw [xput_neo h1, xput_neo h1]; exact b
      · rw [xput_neo h1, xput_neo h1]; exact c
      · rw [xput_neo h1, xput_neo h1]; exact d
    have new : oH (41 + 2 * p) x J := ⟨fun k hk => (j1 k hk).trans (x1 k hk), j2.trans x2, j3.trans x3, j4.trans x4⟩
    have old : ∀ q y, q < 40 → ¬ q = p → oH (41 + 2 * q) y I → oH (41 + 2 * q) y J := by
      intro q y hq hne h
      refine oH_same h j5 (fun j => ?_) (fun j => ?_)
      · unfold scS
        rw [beqf (show ¬ 41 + 2 * q = 41 + 2 * p by omega), beqf (show ¬ 41 + 2 * q = 41 + 2 * p + 1 by omega)]
        rfl
      · unfold scS
        rw [beqf (show ¬ 41 + 2 * q + 1 = 41 + 2 * p by omega), beqf (show ¬ 41 + 2 * q + 1 = 41 + 2 * p + 1 by omega)]
        rfl
    intro j hj
    unfold pushN at hj ⊢
    unfold pushS
    by_cases e : n = 40
    · rw [if_pos e] at hj ⊢
      rw [if_pos e]
      by_cases ej : j = 39
      · rw [show ((p + 1) % 40 + 40 - 40 + j) % 40 = p by omega]
        show oH (41 + 2 * p) (if j = 39 then x else hs (j + 1)) _
        rw [if_pos ej]
        exact put _ _ (by omega) (by omega) new
      · show oH _ (if j = 39 then x else hs (j + 1)) _
        rw [if_neg ej]
        have h := u3 (j + 1) (by omega)
        rw [show (p + 40 - n + (j + 1)) % 40 = ((p + 1) % 40 + 40 - 40 + j) % 40 by omega] at h
        exact put _ _ (by omega) (by omega) (old _ _ (by omega) (by omega) h)
    · rw [if_neg e] at hj ⊢
      rw [if_neg e]
      by_cases ej : j = n
      · rw [show ((p + 1) % 40 + 40 - (n + 1) + j) % 40 = p by omega]
        show oH (41 + 2 * p) (if j = n then x else hs j) _
        rw [if_pos ej]
        exact put _ _ (by omega) (by omega) new
      · show oH _ (if j = n then x else hs j) _
        rw [if_neg ej]
        have h := u3 j (by omega)
        rw [show (p + 40 - n + j) % 40 = ((p + 1) % 40 + 40 - (n + 1) + j) % 40 by omega] at h
        exact put _ _ (by omega) (by omega) (old _ _ (by omega) (by omega) h)
/-! the reference's records -/
def scV (o j : Nat) : Bool := Nat.beq o 162 || Nat.beq o 166 || (Nat.beq o 131 && Nat.beq j 54)
theorem m_keepsRow {F : Nat} (hF : 4000000 ≤ F) {I : XI} : xOk (f_M_keepsRow F I) (fun J => Same (sco 162) I J ∧ ∀ j, j < 33 → J 162 j = I 163 j) := by
  unfold f_M_keepsRow
  refine xloop 33 (fun n (J : XI) k => f_M_keepsRow_2 F n (Int32.ofNat k) J) (fun k J => Same (sco 162) I J ∧ ∀ j, j < k → J 162 j = I 163 j) ?_ ?_ F I 0 (by omega) (by omega) ⟨Same.rfl, fun j hj => absurd hj (by omega)⟩
  · intro n J k hk hP ih
    obtain ⟨h1, h2⟩ := hP
    show xOk (f_M_keepsRow_2 F (n + 1) _ _) _
    rw [f_M_keepsRow_2]
    refine xOk.neg (nk_nge hk (by decide)) (xOk.ck (nk_in hk (by omega)) (xOk.ck (nk_in hk (by omega)) (xOk.st ?_)))
    rw [nk_N (by omega), nk_succ]
    refine ih _ ⟨h1.put' rfl, fun j hj => ?_⟩
    rw [xput_at]
    by_cases e : j = k
    · rw [if_pos e, e]; exact h1 163 k rfl
    · rw [if_neg e]; exact h2 j (by omega)
  · intro n J hP
    show xOk (f_M_keepsRow_2 F (n + 1) _ _) _
    rw [f_M_keepsRow_2]
    exact xOk.pos (by decide) (xOk.pur hP)
theorem oM_of {o b o' b' : Nat} {x : X4} {I J : XI} (h : oM o b x I) (e : ∀ k, k < 33 → J o' (b' + k) = I o (b + k)) : oM o' b' x J := by
  obtain ⟨a, c, d, f⟩ := h
  exact ⟨fun k hk => (e k (by omega)).trans (a k hk), (e 30 (by omega)).trans c, (e 31 (by omega)).trans d, (e 32 (by omega)).trans f⟩
theorem m_records {F : Nat} (hF : 4000000 ≤ F) {n : Nat} {hs : Nat → X4} {x y : X4} {I : XI} (hn : n ≤ 40) (hu : uM n hs I) (hx : oM 162 0 x I) (hy : oM 163 0 y I) : xOk (f_M_records F I) (fun J => uM (pushN n) (pushS n hs x) J ∧ oM 162 0 y J ∧ Same scV I J) := by
  obtain ⟨u1, u2⟩ := hu
  -- the row behind them
  have tail : ∀ (m : Nat) (hs' : Nat → X4) (J : XI), m < 40 → J 131 54 = Int32.ofNat m → (∀ j, j < m → oM 166 (33 * j) (hs' j) J) → Same scV I J → (∀ k, k < 33 → J 162 k = I 162 k) → ∀ F', 100 ≤ F' →
      xOk (f_M_records_51 F F' (Int32.ofNat 0) J) (fun K => uM (m + 1) (fun j => if j = m then x else hs' j) K ∧ oM 162 0 y K ∧ Same scV I K) := by
    intro m hs' J hm h1 h2 h3 h4 F' hF'
    refine xloop 33 (fun n (K : XI) k => f_M_records_51 F n (Int32.ofNat k) K) (fun k K => K 131 54 = Int32.ofNat m ∧ (∀ j, j < m → oM 166 (33 * j) (hs' j) K) ∧ (∀ j, j < k → K 166 (33 * m + j) = I 162 j) ∧ Same scV I K ∧ (∀ k, k < 33 → K 162 k = I 162 k)) ?_ ?_ F' J 0 (by omega) (by omega) ⟨h1, h2, fun j hj => absurd hj (by omega), h3, h4⟩
    · intro n K k hk hP ih
      obtain ⟨p1, p2, p3, p4, p5⟩ := hP
      show xOk (f_M_records_51 F (n + 1) _ _) _
      rw [f_M_records_51]
      refine xOk.neg (nk_nge hk (by decide)) (xOk.ck (nk_in hk (by omega)) ?_)
      rw [p1, nl33, nk_mul, nk_add]
      refine xOk.ck (nk_in (by omega) (by omega)) (xOk.st ?_)
      rw [nk_N (by omega), nk_N (by omega), nk_succ]
      refine ih _ ⟨?_, ?_, ?_, p4.put' rfl, ?_⟩
      · rw [xput_neo (by omega)]; exact p1
      · intro j hj
        refine oM_of (p2 j hj) (fun k' hk' => ?_)
        rw [xput_at, if_neg (by omega)]
      · intro j hj
        rw [xput_at]
        by_cases e : j = k
        · rw [if_pos (by omega), e]; exact p5 k hk
        · rw [if_neg (by omega)]; exact p3 j (by omega)
      · intro k' hk'
        rw [xput_neo (by omega)]; exact p5 k' hk'
    · intro n K hP
      obtain ⟨p1, p2, p3, p4, p5⟩ := hP
      show xOk (f_M_records_51 F (n + 1) _ _) _
      rw [f_M_records_51]
      refine xOk.pos (by decide) (xOk.st ?_)
      refine (m_keepsRow hF).bnd (fun N hN => xOk.pur ?_)
      obtain ⟨n1, n2⟩ := hN
      have e166 : ∀ j, N 166 j = K 166 j := fun j => by rw [n1 166 j rfl, xput_neo (by omega)]
      refine ⟨⟨?_, ?_⟩, ?_, (p4.put' rfl).trans (n1.mono (fun o j e => ?_))⟩
      · rw [n1 131 54 rfl, xput_eq, p1, nk_succ]
      · intro j hj
        by_cases e : j = m
        · show oM _ _ (if j = m then x else hs' j) _
          rw [if_pos e, e]
          refine oM_of hx (fun k hk => ?_)
          rw [e166, p3 k hk, Nat.zero_add]
        · show oM _ _ (if j = m then x else hs' j) _
          rw [if_neg e]
          exact oM_of (p2 j (by omega)) (fun k hk => e166 _)
      · refine oM_of hy (fun k hk => ?_)
        rw [Nat.zero_add, n2 k hk, xput_neo (by omega)]
        exact p4 163 k rfl
      · unfold scV at e
        unfold sco
        simp only [Bool.or_eq_false_iff] at e
        exact e.1.1
  unfold f_M_records pushN pushS
  rw [u1]
  by_cases e : n = 40
  · rw [if_pos e, if_pos e]
    refine xOk.pos (by rw [e]; rfl) ?_
    refine xloop 1287 (fun k (J : XI) i => f_M_records_11 F (fun v1 I => f_M_records_51 F F v1 I) k (Int32.ofNat i) J) (fun i J => (∀ j, j < i → J 166 j = I 166 (j + 33)) ∧ (∀ j, i ≤ j → J 166 j = I 166 j) ∧ Same (sco 166) I J) ?_ ?_ F I 0 (by omega) (by omega) ⟨fun j hj => absurd hj (by omega), fun _ _ => rfl, Same.rfl⟩
    · intro k J i hi hP ih
      obtain ⟨p1, p2, p3⟩ := hP
      show xOk (f_M_records_11 F _ (k + 1) _ _) _
      rw [f_M_records_11]
      refine xOk.neg (nk_nge hi (by decide)) ?_
      rw [nl33, nk_add]
      refine xOk.ck (nk_in (by omega) (by omega)) (xOk.ck (nk_in (by omega) (by omega)) (xOk.st ?_))
      rw [nk_N (by omega), nk_N (by omega), nk_succ]
      refine ih _ ⟨fun j hj => ?_, fun j hj => ?_, p3.put' rfl⟩
      · rw [xput_at]
        by_cases e : j = i
        · rw [if_pos e, e]; exact p2 _ (by omega)
        · rw [if_neg e]; exact p1 j (by omega)
      · rw [xput_at, if_neg (by omega)]; exact p2 j (by omega)
    · intro k J hP
      obtain ⟨p1, p2, p3⟩ := hP
      show xOk (f_M_records_11 F _ (k + 1) _ _) _
      rw [f_M_records_11]
      refine xOk.pos (by decide) (xOk.st ?_)
      have h39 := tail 39 (fun j => hs (j + 1)) (xput J 131 54 (J 131 54 - 1)) (by omega) (by rw [xput_eq, p3 131 54 rfl, u1, e]; rfl) (fun j hj => ?_) ((p3.mono (fun o j e => ?_)).put' rfl) (fun k hk => ?_) F (by omega)
      · exact h39
      · have h := u2 (j + 1) (by omega)
        refine oM_of h (fun k hk => ?_)
        rw [xput_neo (by omega), p1 _ (by omega)]
        congr 1
        omega
      · unfold scV at e
        unfold sco
        simp only [Bool.or_eq_false_iff] at e
        exact e.1.2
      · rw [xput_neo (by omega)]; exact p3 162 k rfl
  · rw [if_neg e, if_neg e]
    refine xOk.neg (by rw [nl40, nk_eq (by omega) (by omega)]; exact e) ?_
    exact tail n hs I (by omega) u1 u2 Same.rfl (fun _ _ => rfl) F (by omega)
