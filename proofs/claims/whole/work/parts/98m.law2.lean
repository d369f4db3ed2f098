/-! both readers: laws, the other steps -/
theorem LX_put {b : Nat → Int32} {n sd B o j : Nat} {v : Int32} {L : XL} {a : XB} {I M : XI} (h : LX b n L sd B a I M) (ho : 150 ≤ o ∧ o ≤ 156) : LX b n L sd B a I (xput M o j v) := by
  have e131 : xput M o j v 131 = M 131 := xput_neo (by omega)
  have e134 : xput M o j v 134 = M 134 := xput_neo (by omega)
  have e135 : xput M o j v 135 = M 135 := xput_neo (by omega)
  have e136 : xput M o j v 136 = M 136 := xput_neo (by omega)
  cases a with
  | inl e =>
    obtain ⟨h1, h2, h3, nb, h4, h5⟩ := h
    exact ⟨h1, bm_131 h2 ⟨by rw [e131], by rw [e131], by rw [e131]⟩, by rw [e131]; exact h3, nb, h4, by rw [e131]; exact h5⟩
  | inr g =>
    obtain ⟨h1, h2, ⟨h3, h3'⟩, ⟨h4, h4'⟩, h5, h6⟩ := h
    refine ⟨⟨⟨h1.1.1, h1.1.2.1, ⟨by rw [e131]; exact h1.1.2.2.1.1, by rw [e131]; exact h1.1.2.2.1.2⟩, tkM_same h1.1.2.2.2 e134 e135 e136⟩, fun t' ht' => SLr_same (h1.2 t' ht') rfl rfl (by rw [e131]) (by rw [e131])⟩, h2, ⟨by rw [e131]; exact h3, h3'⟩, ⟨by rw [e131]; exact h4, h4'⟩, by rw [e131]; exact h5, by rw [e131]; exact h6⟩
theorem LX_cls {b : Nat → Int32} {n sd B : Nat} {L : XL} {a : XB} {I J M : XI} (h : LX b n L sd B a I M) (hs : ∀ o, ¬ o = 12 → ¬ o = 13 → J o = I o) : LX b n L sd B a J M := by
  have e6 : J 6 = I 6 := hs 6 (by omega) (by omega)
  have e11 : J 11 = I 11 := hs 11 (by omega) (by omega)
  cases a with
  | inl e =>
    obtain ⟨⟨h1, sz, h1', h1''⟩, h2⟩ := h
    exact ⟨⟨bd_row6 h1 e6, sz, h1', by rw [e11]; exact h1''⟩, h2⟩
  | inr g =>
    obtain ⟨h1, ⟨h2, h2'⟩, h3⟩ := h
    exact ⟨⟨⟨⟨h1.1.1.1, ⟨by rw [e6]; exact h1.1.1.2.1.1, by rw [e6]; exact h1.1.1.2.1.2⟩, tkC_same h1.1.1.2.2 (hs 3 (by omega) (by omega)) (hs 4 (by omega) (by omega)) (hs 5 (by omega) (by omega))⟩, h1.1.2⟩, fun t' ht' => SLr_same (h1.2 t' ht') (by rw [e6]) (by rw [e6]) rfl rfl⟩, ⟨by rw [e11]; exact h2, h2'⟩, h3⟩
theorem LX_sz {b : Nat → Int32} {n sd B : Nat} {L : XL} {a : XB} {I M : XI} (h : LX b n L sd B a I M) : ∃ sz, sz ≤ 420 ∧ I 11 1 = Int32.ofNat sz := by
  cases a with
  | inl e => exact h.1.2
  | inr g =>
    have h1 := h.1.1.1.1.1
    have h2 := h.2.1.2
    exact ⟨g.2.1, by omega, h.2.1.1⟩
theorem LX_br {b : Nat → Int32} {n sd B : Nat} {L : XL} {a : XB} {I M : XI} (hB : 100 ≤ B) (h : LX b n L sd B a I M) : ∃ nb, nb ≤ B ∧ M 131 34 = Int32.ofNat (130 * sd + nb) := by
  cases a with
  | inl e => exact h.2.2.2
  | inr g =>
    have h2 := h.2.2.2.1.2
    exact ⟨g.2.2.2, by omega, h.2.2.2.1.1⟩
theorem LX_19 {b : Nat → Int32} {n sd B : Nat} {L : XL} {a : XB} {I M : XI} (h : LX b n L sd B a I M) : M 131 19 = Int32.ofNat sd := by
  cases a with
  | inl e => exact h.2.2.1
  | inr g => exact h.2.2.2.2.2
theorem LX_up {b : Nat → Int32} {n sd B B' : Nat} {L : XL} {a : XB} {I M : XI} (h : LX b n L sd B a I M) (hB : B ≤ B') : LX b n L sd B' a I M := by
  cases a with
  | inl e =>
    obtain ⟨h1, h2, h3, nb, h4, h5⟩ := h
    exact ⟨h1, h2, h3, nb, by omega, h5⟩
  | inr g => exact h
theorem L_emit {b : Nat → Int32} {n sd B : Nat} {w : Int32} {L : XL} {a : XB} {I M : XI} (h : LX b n L sd B a I M) (hg : ∀ g, a = Sum.inr g → g.2.1 < 8 + g.1) : xOk (f_Laws_emit 11 w I) (fun r => ∃ a', LX b n L sd B a' r M ∧ (∀ g', a' = Sum.inr g' → ∃ t sz nc nb, a = Sum.inr (t, sz, nc, nb) ∧ g' = (t, sz + 1, nc, nb) ∧ r 12 sz = w ∧ ∀ j, ¬ j = sz → r 12 j = I 12 j) ∧ Same scE I r) := by
  cases a with
  | inl e =>
    obtain ⟨⟨h1, h1'⟩, h2⟩ := h
    exact (b_emit h1').mono (fun K hK => ⟨Sum.inl e, ⟨⟨bd_row6 h1 hK.2.2, hK.1⟩, h2⟩, fun g' hg' => (by cases hg'), hK.2.1⟩)
  | inr g =>
    obtain ⟨t, sz, nc, nb⟩ := g
    have hg : sz < 8 + t := hg _ rfl
    obtain ⟨h1, ⟨h2, h2'⟩, h3⟩ := h
    have ht := h1.1.1.1.1
    have ht : t ≤ 400 := ht
    rw [c_emit h2 (show sz < 420 by omega)]
    have e6 : xput (xput I 12 sz w) 11 1 (Int32.ofNat (sz + 1)) 6 = I 6 := by rw [xput_neo (by omega), xput_neo (by omega)]
    have hs : Same scE I (xput (xput I 12 sz w) 11 1 (Int32.ofNat (sz + 1))) := (Same.put rfl).put' rfl
    refine xOk.pur ⟨Sum.inr (t, sz + 1, nc, nb), ⟨⟨⟨⟨h1.1.1.1, ⟨by rw [e6]; exact h1.1.1.2.1.1, by rw [e6]; exact h1.1.1.2.1.2⟩, tkC_same h1.1.1.2.2 (hs.row 3 (fun _ => rfl)) (hs.row 4 (fun _ => rfl)) (hs.row 5 (fun _ => rfl))⟩, h1.1.2⟩, fun t' ht' => SLr_same (h1.2 t' ht') (by rw [e6]) (by rw [e6]) rfl rfl⟩, ⟨xput_eq, by show sz + 1 ≤ 8 + t; omega⟩, h3⟩, fun g' hg' => ⟨t, sz, nc, nb, rfl, (Sum.inr.inj hg').symm, ?_, fun j hj => ?_⟩, hs⟩
    · rw [xput_neo (by omega), xput_eq]
    · rw [xput_neo (by omega), xput_at, if_neg hj]
theorem L_aim {b : Nat → Int32} {n sd B s : Nat} {L : XL} {a : XB} {I M : XI} (h : LX b n L sd B a I M) (hs : s ≤ 420) : xOk (f_Laws_aim 11 (Int32.ofNat s) I) (fun r => LX b n L sd B a r M ∧ (s < 420 → r 12 s = 30000 + I 11 1) ∧ (∀ j, ¬ j = s → r 12 j = I 12 j) ∧ Same scE I r) := by
  unfold f_Laws_aim
  by_cases e : 420 ≤ s
  · exact xOk.pos (nk_le_t (a := 420) e (by omega)) (xOk.pur ⟨h, fun hh => absurd hh (by omega), fun _ _ => rfl, Same.rfl⟩)
  · refine xOk.neg (nk_nge (N := 420) (by omega) (by omega)) (xOk.ck (nk_in (by omega) (by omega)) (xOk.st (xOk.pur ⟨LX_cls h (fun o o1 _ => xput_neo o1), fun _ => ?_, fun j hj => ?_, Same.put rfl⟩)))
    · rw [nk_N (by omega), xput_eq]
    · rw [nk_N (by omega), xput_at, if_neg hj]
/-- the end of a term: its branch -/
def trL (b : Nat → Int32) (n : Nat) (L : XL) (sd B : Nat) (a : XB) (I M r q : XI) : Prop := ∃ a', LX b n L sd (B + 1) a' r q ∧ (∀ g', a' = Sum.inr g' → ∃ t sz nc nb x t', (a = Sum.inr (t, sz, nc, nb) ∧ g' = (t', sz + List.length x, nc + List.length x, nb + 1) ∧ t < t') ∧ rp 15 x 0 1 ∧ (segR (r 12) sz x ∧ segM q (420 * sd + nc) x) ∧ (∀ j, j < sz → r 12 j = I 12 j) ∧ (∀ j, j < 420 * sd + nc → q 157 j = M 157 j ∧ q 158 j = M 158 j) ∧ (q 155 (130 * sd + nb) = Int32.ofNat (420 * sd + nc) ∧ q 156 (130 * sd + nb) = Int32.ofNat (420 * sd + (nc + List.length x))) ∧ (∀ j, ¬ j = 130 * sd + nb → q 155 j = M 155 j ∧ q 156 j = M 156 j)) ∧ Same scE I r ∧ Same (scLm sd) M q ∧ ∀ o, 150 ≤ o → o ≤ 154 → q o = M o
theorem lm155 {sd nb o : Nat} (h : nb < 130) (ho : 152 ≤ o ∧ o ≤ 156) : scLm sd o (130 * sd + nb) = true := by
  have e3 := rg_in (lo := 130 * sd) (len := 130) (k := nb) h
  have : o = 152 ∨ o = 153 ∨ o = 154 ∨ o = 155 ∨ o = 156 := by omega
  rcases this with rfl | rfl | rfl | rfl | rfl
  · have e1 : scLm sd 152 (130 * sd + nb) = (scRM sd 152 (130 * sd + nb) || false) := rfl
    have e2 : scRM sd 152 (130 * sd + nb) = (rg (130 * sd) 130 (130 * sd + nb) || false) := rfl
    rw [e1, e2, e3]; rfl
  · have e1 : scLm sd 153 (130 * sd + nb) = (scRM sd 153 (130 * sd + nb) || false) := rfl
    have e2 : scRM sd 153 (130 * sd + nb) = (rg (130 * sd) 130 (130 * sd + nb) || false) := rfl
    rw [e1, e2, e3]; rfl
  · have e1 : scLm sd 154 (130 * sd + nb) = (scRM sd 154 (130 * sd + nb) || false) := rfl
    have e2 : scRM sd 154 (130 * sd + nb) = (rg (130 * sd) 130 (130 * sd + nb) || false) := rfl
    rw [e1, e2, e3]; rfl
  · have e1 : scLm sd 155 (130 * sd + nb) = (scRM sd 155 (130 * sd + nb) || false) := rfl
    have e2 : scRM sd 155 (130 * sd + nb) = (rg (130 * sd) 130 (130 * sd + nb) || false) := rfl
    rw [e1, e2, e3]; rfl
  · have e1 : scLm sd 156 (130 * sd + nb) = (scRM sd 156 (130 * sd + nb) || false) := rfl
    have e2 : scRM sd 156 (130 * sd + nb) = (rg (130 * sd) 130 (130 * sd + nb) || false) := rfl
    rw [e1, e2, e3]; rfl
theorem L_term {F : Nat} (hF : 4000000 ≤ F) {b : Nat → Int32} {n sd B : Nat} {L : XL} {a : XB} {I M : XI} (hB : 100 ≤ B) (hB' : B ≤ 120) (hsd : sd < 2) (h : LX b n L sd B a I M) (hg : ∀ g, a = Sum.inr g → g.2.2.2 < 100) : pr (f_Reader_readSumN F 8 0 I) (f_M_term F M) (trL b n L sd B a I M) := by
  obtain ⟨nb, hnb, h34⟩ := LX_br hB h
  -- the end of the term
  have h24 : ∀ (q : XI) (nb' : Nat), nb' ≤ B → q 131 34 = Int32.ofNat (130 * sd + nb') → f_M_term_24 F q = some (xput (xput q 156 (130 * sd + nb') (q 131 40)) 131 34 (Int32.ofNat (130 * sd + nb' + 1))) := by
    intro q nb' h1 h2
    unfold f_M_term_24
    rw [h2, xck_true (nk_in (by omega) (by omega)), nk_N (by omega)]
    show some (xput (xput q 156 (130 * sd + nb') (q 131 40)) 131 34 (xput q 156 (130 * sd + nb') (q 131 40) 131 34 + 1)) = _
    rw [xput_neo (show ¬ 131 = 156 by omega), h2, nk_succ]
  have key : f_M_term F M = (if xput M 155 (130 * sd + nb) (M 131 40) 131 13 = 0 then (f_M_expression F (xput M 155 (130 * sd + nb) (M 131 40))).bind fun q4 => f_M_term_24 F q4 else f_M_term_24 F (xput M 155 (130 * sd + nb) (M 131 40))) := by
    unfold f_M_term
    rw [h34, xck_true (nk_in (by omega) (by omega)), nk_N (by omega)]
    rfl
  rw [key]
  have hp := LX_put (o := 155) (j := 130 * sd + nb) (v := M 131 40) h (by omega)
  have p155 : Same (scLm sd) M (xput M 155 (130 * sd + nb) (M 131 40)) := Same.put (lm155 (by omega) (by omega))
  have e155 : ∀ j, xput M 155 (130 * sd + nb) (M 131 40) 155 j = if j = 130 * sd + nb then M 131 40 else M 155 j := fun j => xput_at
  have eo : ∀ o, ¬ o = 155 → xput M 155 (130 * sd + nb) (M 131 40) o = M o := fun o ho => xput_neo ho
  generalize xput M 155 (130 * sd + nb) (M 131 40) = M1 at hp p155 e155 eo ⊢
  have hM1 : M1 131 34 = Int32.ofNat (130 * sd + nb) := by rw [eo 131 (by omega)]; exact h34
  cases a with
  | inl e =>
    refine pr.rneg (bm_v hp.2.1).1 ?_
    have hexp := L_exp hF hB hsd hp
    obtain ⟨r, q', ⟨e1, -⟩, a', ha', hga', hs1, -, -⟩ := hexp
    cases a' with
    | inr g' =>
      obtain ⟨t, sz, nc, nb2, x, t', ⟨c1, -⟩, -⟩ := hga' g' rfl
      cases c1
    | inl e' =>
      refine pr.mk' e1 (h24 M1 nb hnb hM1) ⟨Sum.inl e, ⟨⟨?_, ha'.1.2⟩, ?_, ?_, nb + 1, by omega, ?_⟩, fun g' hg => (by cases hg), hs1, (p155.trans (Same.put (lm155 (by omega) (by omega)))).trans (Same.put rfl), fun o o1 o2 => ?_⟩
      · -- the fault stands as it was
        have hb := b_sum hF (m := 7) (a := 0) (I := I) (J := I) ⟨hp.1.1, hp.1.2, Same.rfl⟩
        obtain ⟨r2, e2, hb2⟩ := hb
        have : r = r2 := Option.some.inj (e1.symm.trans e2)
        rw [this]
        exact hb2.1
      · exact bm_131 hp.2.1 ⟨by rw [xput_ne (by omega), xput_neo (by omega)], by rw [xput_ne (by omega), xput_neo (by omega)], by rw [xput_ne (by omega), xput_neo (by omega)]⟩
      · rw [xput_ne (by omega), xput_neo (by omega)]; exact hp.2.2.1
      · rw [xput_eq, Nat.add_assoc]
      · rw [xput_neo (by omega), xput_neo (by omega)]; exact eo o (by omega)
  | inr g =>
    obtain ⟨t, sz, nc, nb0⟩ := g
    have hnb0 : nb0 < 100 := hg _ rfl
    have hq4 := h.2.2.2.1.1
    have hnbe : nb = nb0 := by
      have hq4 : M 131 34 = Int32.ofNat (130 * sd + nb0) := hq4
      rw [h34, nk_eq (by omega) (by omega)] at hq4
      omega
    subst hnbe
    refine pr.rpos hp.1.1.2.2.1.2 ?_
    have hexp := L_exp hF hB hsd hp
    obtain ⟨r, q, ⟨e1, e2⟩, a', ha', hga', hs1, hs2, hs3⟩ := hexp
    obtain ⟨nb2, hnb2, h234⟩ := LX_br hB ha'
    have q34 : q 131 34 = Int32.ofNat (130 * sd + nb2) := h234
    have hbind : (f_M_expression F M1).bind (fun q4 => f_M_term_24 F q4) = some (xput (xput q 156 (130 * sd + nb2) (q 131 40)) 131 34 (Int32.ofNat (130 * sd + nb2 + 1))) := by
      rw [e2]
      exact h24 q nb2 hnb2 q34
    have pq : Same (scLm sd) q (xput (xput q 156 (130 * sd + nb2) (q 131 40)) 131 34 (Int32.ofNat (130 * sd + nb2 + 1))) := (Same.put (lm155 (by omega) (by omega))).trans (Same.put rfl)
    have e131 : ∀ j, ¬ j = 34 → xput (xput q 156 (130 * sd + nb2) (q 131 40)) 131 34 (Int32.ofNat (130 * sd + nb2 + 1)) 131 j = q 131 j := fun j hj => by rw [xput_ne (by omega), xput_neo (by omega)]
    have eqo : ∀ o, ¬ o = 131 → ¬ o = 156 → xput (xput q 156 (130 * sd + nb2) (q 131 40)) 131 34 (Int32.ofNat (130 * sd + nb2 + 1)) o = q o := fun o o1 o2 => by rw [xput_neo o1, xput_neo o2]
    cases a' with
    | inl e' =>
      refine pr.mk' e1 hbind ⟨Sum.inl e', ⟨ha'.1, bm_131 ha'.2.1 ⟨e131 11 (by omega), e131 13 (by omega), e131 14 (by omega)⟩, (e131 19 (by omega)).trans ha'.2.2.1, nb2 + 1, by omega, by rw [xput_eq, Nat.add_assoc]⟩, fun g' hg => (by cases hg), hs1, (p155.trans hs2).trans pq, fun o o1 o2 => ?_⟩
      rw [eqo o (by omega) (by omega), hs3 o o1 (by omega), eo o (by omega)]
    | inr g' =>
      obtain ⟨t2, sz2, nc2, nb3, x, t', ⟨c1, c2, c3⟩, c4, ⟨c5, c5'⟩, c6, c7⟩ := hga' g' rfl
      have c1 := Sum.inr.inj c1
      cases c1
      subst c2
      obtain ⟨k1, ⟨k2, k2'⟩, ⟨k3, k3'⟩, ⟨k4, k4'⟩, k5, k6⟩ := ha'
      have k4 : q 131 34 = Int32.ofNat (130 * sd + nb) := k4
      have k3 : q 131 40 = Int32.ofNat (420 * sd + (nc + List.length x)) := k3
      have hnn : nb2 = nb := by
        rw [q34, nk_eq (by omega) (by omega)] at k4
        omega
      subst hnn
      have q156 : ∀ j, xput (xput q 156 (130 * sd + nb2) (q 131 40)) 131 34 (Int32.ofNat (130 * sd + nb2 + 1)) 156 j = if j = 130 * sd + nb2 then q 131 40 else q 156 j := fun j => by rw [xput_neo (by omega), xput_at]
      refine pr.mk' e1 hbind ⟨Sum.inr (t', sz + List.length x, nc + List.length x, nb2 + 1), ⟨⟨⟨k1.1.1, k1.1.2.1, ⟨?_, ?_⟩, tkM_same k1.1.2.2.2 ?_ ?_ ?_⟩, fun t3 ht3 => SLr_same (k1.2 t3 ht3) rfl rfl (e131 15 (by omega)) (e131 16 (by omega))⟩, ⟨k2, k2'⟩, ⟨(e131 40 (by omega)).trans k3, k3'⟩, ⟨by rw [xput_eq, Nat.add_assoc], ?_⟩, (e131 12 (by omega)).trans k5, (e131 19 (by omega)).trans k6⟩, fun g' hg => ⟨t, sz, nc, nb2, x, t', ⟨rfl, (Sum.inr.inj hg).symm, c3⟩, c4, ⟨c5, fun j hj => ?_⟩, c6, fun j hj => ?_, ⟨?_, ?_⟩, fun j hj => ?_⟩, hs1, (p155.trans hs2).trans pq, fun o o1 o2 => ?_⟩
      · exact (e131 11 (by omega)).trans k1.1.2.2.1.1
      · exact (e131 13 (by omega)).trans k1.1.2.2.1.2
      · exact eqo 134 (by omega) (by omega)
      · exact eqo 135 (by omega) (by omega)
      · exact eqo 136 (by omega) (by omega)
      · show nb2 + 1 ≤ 100
        omega
      · rw [eqo 157 (by omega) (by omega), eqo 158 (by omega) (by omega)]; exact c5' j hj
      · rw [eqo 157 (by omega) (by omega), eqo 158 (by omega) (by omega)]
        have := c7 j hj
        rw [eo 157 (by omega), eo 158 (by omega)] at this
        exact this
      · have hq40 := h.2.2.1.1
        have hq40 : M 131 40 = Int32.ofNat (420 * sd + nc) := hq40
        rw [eqo 155 (by omega) (by omega), hs3 155 (by omega) (by omega), e155, if_pos rfl]
        exact hq40
      · rw [q156, if_pos rfl]; exact k3
      · rw [eqo 155 (by omega) (by omega), hs3 155 (by omega) (by omega), e155, if_neg hj, q156, if_neg hj, hs3 156 (by omega) (by omega), eo 156 (by omega)]
        exact ⟨rfl, rfl⟩
      · rw [eqo o (by omega) (by omega), hs3 o o1 (by omega), eo o (by omega)]
