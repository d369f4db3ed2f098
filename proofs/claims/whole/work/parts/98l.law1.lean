/-! both readers: laws, step by step -/
def scLc (o j : Nat) : Bool := sc6 o j || ((Nat.beq o 11 && Nat.beq j 1) || (Nat.beq o 12 || Nat.beq o 13))
def scLm (sd o j : Nat) : Bool := scF3 o j || ((Nat.beq o 131 && (Nat.beq j 12 || (Nat.beq j 34 || (Nat.beq j 40 || Nat.beq j 44)))) || (((Nat.beq o 150 || (Nat.beq o 151 || (Nat.beq o 152 || (Nat.beq o 153 || (Nat.beq o 154 || (Nat.beq o 155 || (Nat.beq o 156 || (Nat.beq o 157 || Nat.beq o 158)))))))) && scRM sd o j) || Nat.beq o 159))
theorem Same.L6 {I J : XI} (h : Same sc6 I J) : Same scLc I J := h.mono (fun o j e => by
  unfold scLc at e
  exact (Bool.or_eq_false_iff.mp e).1)
theorem Same.EL {I J : XI} (h : Same scE I J) : Same scLc I J := h.mono (fun o j e => by
  unfold scLc at e
  unfold scE
  simp only [Bool.or_eq_false_iff] at e ⊢
  exact ⟨e.1, e.2.1, e.2.2.1⟩)
theorem Same.L3 {sd : Nat} {I J : XI} (h : Same scF3 I J) : Same (scLm sd) I J := h.mono (fun o j e => by
  unfold scLm at e
  exact (Bool.or_eq_false_iff.mp e).1)
theorem lm157 {sd j : Nat} (h : scLm sd 157 j = false) : ¬ (420 * sd ≤ j ∧ j < 420 * sd + 420) := by
  rintro ⟨h1, h2⟩
  have e1 : scLm sd 157 j = (scRM sd 157 j || false) := rfl
  have e2 : scRM sd 157 j = (rg (420 * sd) 420 j || false) := rfl
  have e3 := rg_in (lo := 420 * sd) (len := 420) (k := j - 420 * sd) (by omega)
  rw [show 420 * sd + (j - 420 * sd) = j by omega] at e3
  rw [e1, e2, e3] at h
  cases h
theorem lm158 {sd j : Nat} (h : scLm sd 158 j = false) : ¬ (420 * sd ≤ j ∧ j < 420 * sd + 420) := by
  rintro ⟨h1, h2⟩
  have e1 : scLm sd 158 j = (scRM sd 158 j || false) := rfl
  have e2 : scRM sd 158 j = (rg (420 * sd) 420 j || false) := rfl
  have e3 := rg_in (lo := 420 * sd) (len := 420) (k := j - 420 * sd) (by omega)
  rw [show 420 * sd + (j - 420 * sd) = j by omega] at e3
  rw [e1, e2, e3] at h
  cases h
theorem keepL {sd : Nat} {I J : XI} (h : keepC (420 * sd) I J) : Same (scLm sd) I J := by
  obtain ⟨h1, h2⟩ := h
  intro o j e
  by_cases e7 : o = 157
  · subst e7
    exact (h2 j (lm157 e)).1
  by_cases e8 : o = 158
  · subst e8
    exact (h2 j (lm158 e)).2
  refine h1 o j ?_
  unfold scLm at e
  unfold scN
  rw [beqf e7, beqf e8]
  cases h131 : Nat.beq o 131 with
  | false =>
    rw [h131] at e
    simp only [Bool.or_eq_false_iff, Bool.false_and] at e ⊢
    exact ⟨by trivial, ⟨by trivial, by trivial⟩, e.2.2.2⟩
  | true =>
    have ho : o = 131 := Nat.eq_of_beq_eq_true h131
    subst ho
    unfold scF3 at e
    simp only [Bool.or_eq_false_iff, Bool.and_eq_false_iff] at e ⊢
    obtain ⟨e1, e2, -⟩ := e
    have e1 := e1.resolve_left (by decide)
    have e2 := e2.resolve_left (by decide)
    exact ⟨Or.inr ⟨⟨⟨⟨⟨e1.1.1, e2.1⟩, e1.1.2⟩, e1.2⟩, e2.2.2.1⟩, e2.2.2.2⟩, ⟨by trivial, by trivial⟩, by trivial⟩
/-- words standing in a row of the class; of the reference -/
def segR (r : Nat → Int32) (a : Nat) (x : XP) : Prop := ∀ j, j < x.length → r (a + j) = cwd (x.getD j (0, 0))
def segM (M : XI) (a : Nat) (x : XP) : Prop := ∀ j, j < x.length → M 157 (a + j) = (x.getD j (0, 0)).1 ∧ M 158 (a + j) = (x.getD j (0, 0)).2
/-- where both stand in a law -/
abbrev XB : Type := Sum (Nat × Nat) (Nat × Nat × Nat × Nat)
def LX (b : Nat → Int32) (n : Nat) (L : XL) (sd B : Nat) (a : XB) (I M : XI) : Prop := match a with
  | Sum.inl e => (bd b n e I ∧ szO I) ∧ bm b n e M ∧ M 131 19 = Int32.ofNat sd ∧ ∃ nb, nb ≤ B ∧ M 131 34 = Int32.ofNat (130 * sd + nb)
  | Sum.inr g => Rs b n L (Sum.inr g.1) I M ∧ (I 11 1 = Int32.ofNat g.2.1 ∧ g.2.1 ≤ 8 + g.1) ∧ (M 131 40 = Int32.ofNat (420 * sd + g.2.2.1) ∧ g.2.2.1 ≤ g.1) ∧ (M 131 34 = Int32.ofNat (130 * sd + g.2.2.2) ∧ g.2.2.2 ≤ 100) ∧ M 131 12 = 0 ∧ M 131 19 = Int32.ofNat sd
def fgB (a : XB) : Int32 := match a with
  | Sum.inl _ => 0
  | Sum.inr _ => 1
theorem L_acc {b : Nat → Int32} {n k sd B : Nat} {L : XL} {a : XB} {I M : XI} (hB : 100 ≤ B) (h : LX b n L sd B a I M) (hk : 1 < k) (hk' : k < 121) (hk2 : okk k = true) : pr (f_Reader_accept (Int32.ofNat k) I) (f_M_must (Int32.ofNat (mk k)) M) (fun r q => ∃ a', (LX b n L sd B a' r.2 q ∧ r.1 = fgB a') ∧ (∀ g', a' = Sum.inr g' → ∃ t sz nc nb, a = Sum.inr (t, sz, nc, nb) ∧ g' = (t + 1, sz, nc, nb) ∧ kd b n t = k) ∧ Same sc6 I r.2 ∧ Same scF3 M q) := by
  cases a with
  | inl e =>
    obtain ⟨⟨h1, h1'⟩, h2, h3⟩ := id h
    exact pr.mk' (bd_accept h1) (bm_must h2) ⟨Sum.inl e, ⟨h, rfl⟩, fun g' hg => (by cases hg), Same.rfl, Same.rfl⟩
  | inr g =>
    obtain ⟨t, sz, nc, nb⟩ := g
    obtain ⟨h1, ⟨h2, h2'⟩, ⟨h3, h3'⟩, ⟨h4, h4'⟩, h5, h6⟩ := h
    have ht := h1.1.1.1.1
    refine (pr_acc h1 hk hk' hk2).mono (fun r q hp => ?_)
    obtain ⟨⟨hR, hf⟩, s1, s2⟩ := hp
    have hR : Rs b n L (acR b n k t) r.2 q := hR
    have hf : r.1 = fg (acR b n k t) := hf
    cases ha : acR b n k t with
    | inl e =>
      rw [ha] at hR hf
      exact ⟨Sum.inl e, ⟨⟨⟨hR.1.1, ⟨sz, by have : sz ≤ 8 + t := h2'; omega, (s1 11 1 rfl).trans h2⟩⟩, hR.1.2, (s2 131 19 rfl).trans h6, nb, by have : nb ≤ 100 := h4'; omega, (s2 131 34 rfl).trans h4⟩, hf⟩, fun g' hg => (by cases hg), s1, s2⟩
    | inr t' =>
      rw [ha] at hR hf
      obtain ⟨c1, c2⟩ := acR_t ha
      subst c1
      have h2' : sz ≤ 8 + t := h2'
      have h3' : nc ≤ t := h3'
      exact ⟨Sum.inr (t + 1, sz, nc, nb), ⟨⟨hR, ⟨(s1 11 1 rfl).trans h2, by show sz ≤ 8 + (t + 1); omega⟩, ⟨(s2 131 40 rfl).trans h3, by show nc ≤ t + 1; omega⟩, ⟨(s2 131 34 rfl).trans h4, h4'⟩, (s2 131 12 rfl).trans h5, (s2 131 19 rfl).trans h6⟩, hf⟩, fun g' hg => ⟨t, sz, nc, nb, rfl, (Sum.inr.inj hg).symm, c2⟩, s1, s2⟩
theorem L_go {b : Nat → Int32} {n k sd B t sz nc nb : Nat} {L : XL} {I M : XI} (hB : 100 ≤ B) (h : LX b n L sd B (Sum.inr (t, sz, nc, nb)) I M) (hkd : kd b n t = k) (hk : 1 < k) : pr (f_Reader_accept (Int32.ofNat k) I) (f_M_goesOn M) (fun r q => ∃ a', (LX b n L sd B a' r.2 q ∧ r.1 = fgB a') ∧ (∀ g', a' = Sum.inr g' → g' = (t + 1, sz, nc, nb)) ∧ Same sc6 I r.2 ∧ Same scF3 M q) := by
  obtain ⟨h1, ⟨h2, h2'⟩, ⟨h3, h3'⟩, ⟨h4, h4'⟩, h5, h6⟩ := h
  have ht := h1.1.1.1.1
  have ht : t ≤ 400 := ht
  refine (pr_go h1 hkd hk).mono (fun r q hp => ?_)
  obtain ⟨⟨hR, hf⟩, s1, s2⟩ := hp
  have hR : Rs b n L (acR b n k t) r.2 q := hR
  have hf : r.1 = fg (acR b n k t) := hf
  cases ha : acR b n k t with
  | inl e =>
    rw [ha] at hR hf
    exact ⟨Sum.inl e, ⟨⟨⟨hR.1.1, ⟨sz, by have : sz ≤ 8 + t := h2'; omega, (s1 11 1 rfl).trans h2⟩⟩, hR.1.2, (s2 131 19 rfl).trans h6, nb, by have : nb ≤ 100 := h4'; omega, (s2 131 34 rfl).trans h4⟩, hf⟩, fun g' hg => (by cases hg), s1, s2⟩
  | inr t' =>
    rw [ha] at hR hf
    obtain ⟨c1, c2⟩ := acR_t ha
    subst c1
    have h2' : sz ≤ 8 + t := h2'
    have h3' : nc ≤ t := h3'
    exact ⟨Sum.inr (t + 1, sz, nc, nb), ⟨⟨hR, ⟨(s1 11 1 rfl).trans h2, by show sz ≤ 8 + (t + 1); omega⟩, ⟨(s2 131 40 rfl).trans h3, by show nc ≤ t + 1; omega⟩, ⟨(s2 131 34 rfl).trans h4, h4'⟩, (s2 131 12 rfl).trans h5, (s2 131 19 rfl).trans h6⟩, hf⟩, fun g' hg => (Sum.inr.inj hg).symm, s1, s2⟩
theorem bm_expr {F : Nat} (hF : 4000000 ≤ F) {b : Nat → Int32} {n : Nat} {e : Nat × Nat} {M : XI} (h : bm b n e M) : f_M_expression F M = some (xput M 131 44 0) := by
  refine xOk.eq ?_
  unfold f_M_expression
  refine xOk.st ?_
  have hb : bm b n e (xput M 131 44 0) := bm_131 h ⟨by rw [xput_ne (by omega)], by rw [xput_ne (by omega)], by rw [xput_ne (by omega)]⟩
  have hh : ∀ k, k = F → xOk (f_M_expression_12 F k (xput M 131 44 0 131 12) 1 (xput M 131 44 0)) (fun r => r = xput M 131 44 0) := by
    intro k hk
    obtain ⟨k, rfl⟩ : ∃ q, k = q + 1 := ⟨k - 1, by omega⟩
    rw [f_M_expression_12]
    exact xOk.neg (by decide) (xOk.neg (bm_v hb).1 (xOk.pur rfl))
  exact hh F rfl
def exL (b : Nat → Int32) (n : Nat) (L : XL) (sd B : Nat) (a : XB) (I M r q : XI) : Prop := ∃ a', LX b n L sd B a' r q ∧ (∀ g', a' = Sum.inr g' → ∃ t sz nc nb x t', (a = Sum.inr (t, sz, nc, nb) ∧ g' = (t', sz + List.length x, nc + List.length x, nb) ∧ t < t') ∧ rp 15 x 0 1 ∧ (segR (r 12) sz x ∧ segM q (420 * sd + nc) x) ∧ (∀ j, j < sz → r 12 j = I 12 j) ∧ ∀ j, j < 420 * sd + nc → q 157 j = M 157 j ∧ q 158 j = M 158 j) ∧ Same scE I r ∧ Same (scLm sd) M q ∧ ∀ o, 150 ≤ o → o ≤ 156 → q o = M o
theorem scN_hi {I J : XI} (h : Same scN I J) : ∀ o, 150 ≤ o → o ≤ 156 → J o = I o := by
  intro o h1 h2
  refine h.row o (fun j => ?_)
  unfold scN
  rw [beqf (show ¬ o = 131 by omega), beqf (show ¬ o = 157 by omega), beqf (show ¬ o = 158 by omega), beqf (show ¬ o = 159 by omega)]
  rfl
theorem L_exp {F : Nat} (hF : 4000000 ≤ F) {b : Nat → Int32} {n sd B : Nat} {L : XL} {a : XB} {I M : XI} (hB : 100 ≤ B) (hsd : sd < 2) (h : LX b n L sd B a I M) : pr (f_Reader_readSumN F 8 0 I) (f_M_expression F M) (exL b n L sd B a I M) := by
  cases a with
  | inl e =>
    obtain ⟨⟨h1, h1'⟩, h2, h3, nb, h4, h5⟩ := h
    refine pr.xx (A := fun K => bdE b n e I K) (B := fun q => q = xput M 131 44 0) ?_ ?_ (fun K q hK hq => ?_)
    · exact b_sum hF (m := 7) (I := I) ⟨h1, h1', Same.rfl⟩
    · exact xOk.of (bm_expr hF h2) rfl
    · rw [hq]
      exact ⟨Sum.inl e, ⟨⟨hK.1, hK.2.1⟩, bm_131 h2 ⟨by rw [xput_ne (by omega)], by rw [xput_ne (by omega)], by rw [xput_ne (by omega)]⟩, by rw [xput_ne (by omega)]; exact h3, nb, h4, by rw [xput_ne (by omega)]; exact h5⟩, fun g' hg => (by cases hg), hK.2.2, Same.put rfl, fun o o1 o2 => xput_neo (by omega)⟩
  | inr g =>
    obtain ⟨t, sz, nc, nb⟩ := g
    obtain ⟨h1, ⟨h2, h2'⟩, ⟨h3, h3'⟩, ⟨h4, h4'⟩, h5, h6⟩ := h
    have h2' : sz ≤ 8 + t := h2'
    have h3' : nc ≤ t := h3'
    have h4' : nb ≤ 100 := h4'
    refine pr.xx (c_expr hF h1.1.1 h2 h2') (m_expr hF h1.1.2 h5 h3 (c0 := 420 * sd) ⟨by omega, by omega, by omega⟩) (fun K K' hK hK' => ?_)
    unfold exQ at hK
    unfold exM at hK'
    cases he : exprR b n t with
    | inl e =>
      rw [he] at hK hK'
      refine ⟨Sum.inl e, ⟨⟨hK.1, hK.2.1⟩, hK'.1, ?_, nb, by omega, ?_⟩, fun g' hg => (by cases hg), hK.2.2, keepL hK'.2, scN_hi hK'.2.1⟩
      · exact (hK'.2.1 131 19 rfl).trans h6
      · exact (hK'.2.1 131 34 rfl).trans h4
    | inr p =>
      obtain ⟨t', x⟩ := p
      rw [he] at hK hK'
      obtain ⟨k1, ⟨k2, k3⟩, k4⟩ := hK
      obtain ⟨q1, q2, q3⟩ := hK'
      have k2 : t < t' := k2
      have k3 : List.length x ≤ t' - t := k3
      obtain ⟨⟨c1, c2⟩, c3, ⟨c4, c5⟩, c6⟩ := k1
      obtain ⟨-, ⟨⟨-, w1⟩, -⟩, ⟨w2, -⟩, w3, w4, w5⟩ := q2
      have hkeep : keepC (420 * sd) M K' := ⟨w3, fun j hj => w4 j (by
        have h4k : t' ≤ 400 := c1.1.1
        have c2 : sz + List.length x ≤ 8 + t' := c2
        have q3 : 420 * sd + nc + List.length x ≤ 420 * sd + t' := q3
        show ¬ (420 * sd + nc ≤ j ∧ j < 420 * sd + nc + List.length x)
        omega)⟩
      refine ⟨Sum.inr (t', sz + List.length x, nc + List.length x, nb), ⟨⟨⟨c1, q1⟩, fun t2 ht2 => ?_⟩, ⟨c3, c2⟩, ⟨?_, ?_⟩, ⟨(w3 131 34 rfl).trans h4, h4'⟩, w1, (w3 131 19 rfl).trans h6⟩, fun g' hg => ⟨t, sz, nc, nb, x, t', ⟨rfl, (Sum.inr.inj hg).symm, k2⟩, k4, ⟨c6, w5⟩, c5, fun j hj => w4 j (fun h => absurd h.1 (Nat.not_le.mpr hj))⟩, c4, keepL hkeep, scN_hi w3⟩
      · rw [← Sum.inr.inj ht2]
        exact SLr_same (SLr_up (h1.2 t rfl) (by show t ≤ t'; omega)) (c4 6 5 rfl) (c4 6 6 rfl) (w3 131 15 rfl) (w3 131 16 rfl)
      · show K' 131 40 = Int32.ofNat (420 * sd + (nc + List.length x))
        rw [← Nat.add_assoc]
        exact w2
      · show nc + List.length x ≤ t'
        have q3 : 420 * sd + nc + List.length x ≤ 420 * sd + t' := q3
        omega
