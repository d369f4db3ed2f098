/-! expressions: the reference -/
def scN (o j : Nat) : Bool := (Nat.beq o 131 && (Nat.beq j 11 || Nat.beq j 12 || Nat.beq j 13 || Nat.beq j 14 || Nat.beq j 40 || Nat.beq j 44)) || (Nat.beq o 157 || Nat.beq o 158 || Nat.beq o 159)
def scF3 (o j : Nat) : Bool := Nat.beq o 131 && (Nat.beq j 11 || Nat.beq j 13 || Nat.beq j 14)
theorem Same.F3 {I J : XI} (h : Same scF3 I J) : Same scN I J := h.mono (fun o j e => by
  unfold scN at e
  unfold scF3
  cases h1 : Nat.beq o 131 with
  | false => rfl
  | true =>
    rw [h1] at e
    simp only [Bool.or_eq_false_iff, Bool.true_and] at e ⊢
    exact ⟨⟨e.1.1.1.1.1.1, e.1.1.1.1.2⟩, e.1.1.1.2⟩)
/-- the reference stands at token t, no fault yet; a fault -/
def gm (b : Nat → Int32) (n : Nat) (L : XL) (t : Nat) (J : XI) : Prop := reach b n t ∧ (J 131 11 = Int32.ofNat t ∧ J 131 13 = 0) ∧ tkM b n J L
def bm (b : Nat → Int32) (n : Nat) (e : Nat × Nat) (J : XI) : Prop := (e.1 = 1 ∨ e.1 = 2) ∧ (J 131 13 = Int32.ofNat e.1 ∧ J 131 14 = Int32.ofNat (plc b n e.2)) ∧ ∃ t, t ≤ 400 ∧ J 131 11 = Int32.ofNat t
theorem tkM_same {b : Nat → Int32} {n : Nat} {I J : XI} {L : XL} (h : tkM b n I L) (e3 : J 134 = I 134) (e4 : J 135 = I 135) (e5 : J 136 = I 136) : tkM b n J L := fun i hi => by rw [e3, e4, e5]; exact h i hi
theorem gm_same {S : Nat → Nat → Bool} {b : Nat → Int32} {n t : Nat} {L : XL} {I J : XI} (h : gm b n L t I) (hs : Same S I J) (h6 : S 131 11 = false ∧ S 131 13 = false) (h3 : ∀ j, S 134 j = false ∧ S 135 j = false ∧ S 136 j = false) : gm b n L t J :=
  ⟨h.1, ⟨(hs 131 11 h6.1).trans h.2.1.1, (hs 131 13 h6.2).trans h.2.1.2⟩, tkM_same h.2.2 (hs.row 134 (fun j => (h3 j).1)) (hs.row 135 (fun j => (h3 j).2.1)) (hs.row 136 (fun j => (h3 j).2.2))⟩
theorem bm_same {S : Nat → Nat → Bool} {b : Nat → Int32} {n : Nat} {e : Nat × Nat} {I J : XI} (h : bm b n e I) (hs : Same S I J) (h6 : S 131 11 = false ∧ S 131 13 = false ∧ S 131 14 = false) : bm b n e J := by
  obtain ⟨h1, ⟨h2, h3⟩, t, ht, h4⟩ := h
  exact ⟨h1, ⟨(hs 131 13 h6.2.1).trans h2, (hs 131 14 h6.2.2).trans h3⟩, t, ht, (hs 131 11 h6.1).trans h4⟩
theorem bm_v {b : Nat → Int32} {n : Nat} {e : Nat × Nat} {J : XI} (h : bm b n e J) : ¬ J 131 13 = 0 ∧ ¬ J 131 13 ≤ 0 ∧ 0 < J 131 13 := by
  obtain ⟨h1, ⟨h2, -⟩, -⟩ := h
  rw [h2]
  rcases h1 with h1 | h1 <;> rw [h1] <;> decide
theorem bm_is {b : Nat → Int32} {n : Nat} {e : Nat × Nat} {J : XI} {v : Int32} (h : bm b n e J) : f_M_is J v = some 0 := by
  unfold f_M_is
  rw [if_neg (bm_v h).1]
theorem bm_fail {b : Nat → Int32} {n : Nat} {e : Nat × Nat} {J : XI} {v : Int32} (h : bm b n e J) : f_M_fail v J = some J := by
  unfold f_M_fail
  rw [if_neg (bm_v h).2.1]
theorem bm_goes {b : Nat → Int32} {n : Nat} {e : Nat × Nat} {J : XI} (h : bm b n e J) : xOk (f_M_goesOn J) (fun K => bm b n e K ∧ Same scF3 J K) := by
  have h0 := h
  obtain ⟨h1, ⟨h2, h3⟩, t, ht, h4⟩ := h
  unfold f_M_goesOn
  rw [h4]
  by_cases e4 : t = 400
  · rw [e4]
    exact xOk.pos rfl (xOk.bnde (bm_fail h0) (xOk.pur ⟨h0, Same.rfl⟩))
  · refine xOk.neg (by rw [show (400 : Int32) = Int32.ofNat 400 from rfl, nk_eq (by omega) (by omega)]; exact e4) (xOk.st (xOk.pur ⟨⟨h1, ⟨?_, ?_⟩, t + 1, by omega, ?_⟩, Same.put rfl⟩))
    · rw [xput_ne (by omega)]; exact h2
    · rw [xput_ne (by omega)]; exact h3
    · rw [xput_eq, nk_succ]
theorem bm_must {b : Nat → Int32} {n : Nat} {e : Nat × Nat} {J : XI} {v : Int32} (h : bm b n e J) : f_M_must v J = some J := by
  refine xOk.eq ?_
  unfold f_M_must
  exact xOk.bnde (bm_is h) (xOk.pos rfl (xOk.bnde (bm_fail h) (xOk.pur rfl)))
theorem gm_is {b : Nat → Int32} {n t k : Nat} {L : XL} {J : XI} (h : gm b n L t J) (hk : k < 121) (hk' : okk k = true) : f_M_is J (Int32.ofNat (mk k)) = some (b2 (decide (kd b n t = k))) := by
  unfold f_M_is
  have ht := h.1.1
  have h1 := kdT_ok b n (plc b n t)
  have h2 := mk_lt hk
  have h3 : mk (kd b n t) < 121 := mk_lt h1.2
  rw [if_pos h.2.1.2, h.2.1.1, xck_true (nk_in (by omega) (by omega)), nk_N (by omega), ((h.2.2 t h.1).1).1, b2_if]
  have e : decide (Int32.ofNat (mk (kd b n t)) = Int32.ofNat (mk k)) = decide (kd b n t = k) := by
    by_cases e : kd b n t = k
    · rw [decide_eq_true e, decide_eq_true (by rw [e])]
    · rw [decide_eq_false e, decide_eq_false]
      rw [nk_eq (by omega) (by omega)]
      intro e'
      exact e (mk_inj _ h1.2 k hk h1.1 hk' e')
  rw [e, xck_true b2_nar]
theorem gm_fail {b : Nat → Int32} {n t k : Nat} {L : XL} {J : XI} (h : gm b n L t J) (hk : k = 1 ∨ k = 2) : xOk (f_M_fail (Int32.ofNat k) J) (fun K => bm b n (k, t) K ∧ Same scF3 J K) := by
  unfold f_M_fail
  have ht := h.1.1
  refine xOk.pos (by rw [h.2.1.2]; exact Int32.le_refl _) (xOk.st ?_)
  have e2 : xput J 131 13 (Int32.ofNat k) 131 11 = Int32.ofNat t := by rw [xput_ne (by omega)]; exact h.2.1.1
  rw [e2]
  refine xOk.ck (nk_in (by omega) (by omega)) (xOk.st (xOk.pur ⟨⟨hk, ⟨?_, ?_⟩, t, ht, ?_⟩, (Same.put rfl).put' rfl⟩))
  · rw [xput_ne (by omega), xput_eq]
  · rw [xput_eq, nk_N (by omega), xput_neo (by omega), ((h.2.2 t h.1).1).2]
  · rw [xput_ne (by omega), xput_ne (by omega)]; exact h.2.1.1
def goQ (b : Nat → Int32) (n t : Nat) (L : XL) (J K : XI) : Prop := Same scF3 J K ∧ if t = 400 then bm b n (2, 400) K else gm b n L (t + 1) K
theorem gm_goes {b : Nat → Int32} {n t : Nat} {L : XL} {J : XI} (h : gm b n L t J) (h0 : ¬ kd b n t = 0 ∧ ¬ kd b n t = 1) : xOk (f_M_goesOn J) (goQ b n t L J) := by
  unfold f_M_goesOn
  have ht := h.1.1
  rw [h.2.1.1]
  by_cases e4 : t = 400
  · refine xOk.pos (by rw [e4]; rfl) ((gm_fail (k := 2) h (Or.inr rfl)).bnd (fun K hK => xOk.pur ⟨hK.2, ?_⟩))
    rw [e4] at hK
    rw [if_pos e4]
    exact hK.1
  · refine xOk.neg (by rw [show (400 : Int32) = Int32.ofNat 400 from rfl, nk_eq (by omega) (by omega)]; exact e4) (xOk.st (xOk.pur ⟨Same.put rfl, ?_⟩))
    rw [if_neg e4]
    refine ⟨reach_succ h.1 (by omega) h0.1 h0.2, ⟨?_, ?_⟩, tkM_same h.2.2 ?_ ?_ ?_⟩
    · rw [xput_eq, nk_succ]
    · rw [xput_ne (by omega)]; exact h.2.1.2
    · rw [xput_neo (by omega)]
    · rw [xput_neo (by omega)]
    · rw [xput_neo (by omega)]
def acM (b : Nat → Int32) (n : Nat) (L : XL) (J : XI) (a : Sum (Nat × Nat) Nat) (K : XI) : Prop := Same scF3 J K ∧ match a with
  | Sum.inl e => bm b n e K
  | Sum.inr t => gm b n L t K
theorem gm_must {b : Nat → Int32} {n t k : Nat} {L : XL} {J : XI} (h : gm b n L t J) (hk : 1 < k) (hk' : k < 121) (hk2 : okk k = true) : xOk (f_M_must (Int32.ofNat (mk k)) J) (acM b n L J (acR b n k t)) := by
  unfold f_M_must
  refine xOk.bnde (gm_is h hk' hk2) ?_
  unfold acR
  by_cases e : kd b n t = k
  · rw [decide_eq_true e, if_pos e]
    refine xOk.neg (by decide) ((gm_goes h (by omega)).bnd (fun K hK => xOk.pur ?_))
    obtain ⟨h1, h2⟩ := hK
    by_cases e4 : t = 400
    · rw [if_pos e4] at h2 ⊢
      exact ⟨h1, h2⟩
    · rw [if_neg e4] at h2 ⊢
      exact ⟨h1, h2⟩
  · rw [decide_eq_false e, if_neg e]
    exact xOk.pos rfl ((gm_fail (k := 1) h (Or.inl rfl)).bnd (fun K hK => xOk.pur ⟨hK.2, hK.1⟩))
/-! what waits, what came out -/
def okW : List Nat → Prop
  | [] => True
  | w :: W => okW W ∧ (w = 40 ∨ (isMul w = true ∧ top1 W) ∨ (isAdd w = true ∧ top2 W))
theorem top1_nm {w : Nat} {W : List Nat} (h : isMul w = true) : ¬ top1 (w :: W) := by
  intro h1
  have := h1 []
  rw [fl_mul h] at this
  have grow : ∀ (V : List Nat) (o : XP), o.length ≤ (fl true V o).2.length := by
    intro V
    induction V with
    | nil => intro o; exact Nat.le_refl _
    | cons v V ih =>
      intro o
      unfold fl
      split
      · exact Nat.le_refl _
      · have := ih (o ++ [opt v])
        rw [List.length_append] at this
        exact Nat.le_trans (Nat.le_add_right _ _) this
  have h2 := grow W ([] ++ [opt w])
  rw [this] at h2
  exact absurd h2 (show ¬ (1 ≤ 0) by omega)
theorem top2_no {w : Nat} {W : List Nat} (h : (isMul w || isAdd w) = true) : ¬ top2 (w :: W) := by
  intro h1
  rcases Bool.or_eq_true_iff.mp h with h | h
  · exact top1_nm h (top1_2 h1)
  · have := h1 []
    rw [fl_add h] at this
    have grow : ∀ (V : List Nat) (o : XP), o.length ≤ (fl false V o).2.length := by
      intro V
      induction V with
      | nil => intro o; exact Nat.le_refl _
      | cons v V ih =>
        intro o
        unfold fl
        split
        · exact Nat.le_refl _
        · have := ih (o ++ [opt v])
          rw [List.length_append] at this
          exact Nat.le_trans (Nat.le_add_right _ _) this
    have h2 := grow W ([] ++ [opt w])
    rw [this] at h2
    exact absurd h2 (show ¬ (1 ≤ 0) by omega)
theorem okW_len : ∀ W, okW W → W.length ≤ 3 * nop W + 2 ∧ (top1 W → W.length ≤ 3 * nop W + 1) ∧ (top2 W → W.length ≤ 3 * nop W) := by
  intro W
  induction W with
  | nil => intro _; exact ⟨Nat.zero_le _, fun _ => Nat.zero_le _, fun _ => Nat.zero_le _⟩
  | cons w W ih =>
    rintro ⟨h1, h2⟩
    obtain ⟨i1, i2, i3⟩ := ih h1
    show W.length + 1 ≤ _ ∧ (_ → W.length + 1 ≤ _) ∧ (_ → W.length + 1 ≤ _)
    rcases h2 with rfl | ⟨h2, h3⟩ | ⟨h2, h3⟩
    · have : nop (40 :: W) = nop W + 1 := rfl
      rw [this]
      exact ⟨by omega, fun _ => by omega, fun _ => by omega⟩
    · rw [nop_op (show (isMul w || isAdd w) = true by rw [h2]; rfl)]
      have := i2 h3
      exact ⟨by omega, fun h => absurd h (top1_nm h2), fun h => absurd h (top2_no (by rw [h2]; rfl))⟩
    · rw [nop_op (show (isMul w || isAdd w) = true by rw [h2, Bool.or_true])]
      have := i3 h3
      exact ⟨by omega, fun _ => by omega, fun h => absurd h (top2_no (by rw [h2, Bool.or_true]))⟩
theorem fl_stop {s : Bool} {w : Nat} {W : List Nat} {o : XP} (h : (Nat.beq w 40 || (s && isAdd w)) = true) : fl s (w :: W) o = (w :: W, o) := by
  unfold fl
  rw [if_pos h]
theorem fl_go {s : Bool} {w : Nat} {W : List Nat} {o : XP} (h : (Nat.beq w 40 || (s && isAdd w)) = false) : fl s (w :: W) o = fl s W (o ++ [opt w]) := by
  show (if (Nat.beq w 40 || (s && isAdd w)) = true then (w :: W, o) else fl s W (o ++ [opt w])) = _
  rw [h]
  rfl
theorem fl_ok {s : Bool} : ∀ W o, okW W → okW (fl s W o).1 ∧ nop (fl s W o).1 = nop W ∧ ((fl s W o).1.length + (fl s W o).2.length = W.length + o.length) ∧ (s = true → top1 (fl s W o).1) ∧ (s = false → top2 (fl s W o).1) := by
  intro W
  induction W with
  | nil => intro o _; exact ⟨trivial, rfl, rfl, fun _ _ => rfl, fun _ _ => rfl⟩
  | cons w W ih =>
    rintro o ⟨h1, h2⟩
    cases hc : (Nat.beq w 40 || (s && isAdd w)) with
    | true =>
      rw [fl_stop hc]
      refine ⟨⟨h1, h2⟩, rfl, rfl, fun hs o' => ?_, fun hs o' => ?_⟩
      · rw [hs] at hc
        exact fl_stop hc
      · rw [hs] at hc
        exact fl_stop hc
    | false =>
      rw [fl_go hc]
      obtain ⟨i1, i2, i3, i4, i5⟩ := ih (o ++ [opt w]) h1
      refine ⟨i1, ?_, ?_, i4, i5⟩
      · rw [i2]
        show nop W = nop W + (if w = 40 then 1 else 0)
        rw [if_neg (fun e => by rw [e] at hc; cases hc)]
        rfl
      · rw [i3, List.length_append]
        show W.length + (o.length + 1) = W.length + 1 + o.length
        omega
