/-! each call of the law, on both sides -/
theorem Inv_full {F : Nat} {I : XI} (hI : Inv F I) : ∃ lv V T, wfull F lv V T (I 27) I := by
  obtain ⟨⟨lv, V, T, x, h1, h2, -⟩, -⟩ := hI
  exact ⟨lv, V, T, (now_full h1 h2).1⟩
theorem both_of {F : Nat} {I : XI} {h m : XI → Option (Int32 × XI)} (hI : Inv F I) (ha : ask2 F I h m) : both F I h m := ha.mono (fun _ hr => hr.mono (fun _ hq => ⟨hq.1, Inv_X hI hq.2⟩))
theorem cluR_X {lv n : Nat} {T : XT} {I J : XI} (h : cluR lv n T I) (hs : Same scX I J) : cluR lv n T J ∧ J 128 = I 128 ∧ J 129 = I 129 := by
  obtain ⟨h1, ⟨h2, h3⟩, h4, ⟨h5, h6⟩, h7⟩ := h
  have e1 : J 128 = I 128 := hs.row 128 (fun _ => rfl)
  have e2 : J 129 = I 129 := hs.row 129 (fun _ => rfl)
  refine ⟨⟨h1, ⟨tbC_X h2 hs, tbM_X h3 hs⟩, by rw [e1, e2]; exact h4, ⟨?_, ?_⟩, fun i hi => ⟨?_, ?_⟩⟩, e1, e2⟩
  · rw [hs 127 3 rfl]; exact h5
  · rw [hs 131 59 rfl]; exact h6
  · rw [e1, hs 170 i rfl]; exact (h7 i hi).1
  · rw [e2, hs 171 i rfl]; exact (h7 i hi).2

theorem both_cell {F : Nat} (hF : 4000000 ≤ F) {I : XI} (hI : Inv F I) {a b c : Int32} : both F I (f_H_cell F a b c) (f_M_cell F a b c) := by
  obtain ⟨lv, V, T, hX⟩ := Inv_full hI
  refine both_of hI (ask2_of (h_cell hF hX) (fun J hs => ?_))
  have := m_cell hF (wfull_X hX hs) (x := a) (y := b) (w := c)
  simp only [hs 26 1 rfl, hs 26 2 rfl, hs 26 3 rfl, hs 17 3 rfl, hs 17 4 rfl] at this
  exact this
theorem both_land {F : Nat} (hF : 4000000 ≤ F) {I : XI} (hI : Inv F I) {a b : Int32} : both F I (f_H_land F a b) (f_M_land F a b) := by
  obtain ⟨lv, V, T, hX⟩ := Inv_full hI
  refine both_of hI (ask2_of (h_land hF hX) (fun J hs => ?_))
  have := m_land hF (wfull_X hX hs) (l := a) (w := b)
  simp only [hs 26 1 rfl, hs 26 2 rfl, hs 26 3 rfl, hs 17 3 rfl, hs 17 4 rfl] at this
  exact this
theorem both_richest {F : Nat} (hF : 4000000 ≤ F) {I : XI} (hI : Inv F I) {a : Int32} : both F I (f_H_richest F a) (f_M_richest F a) := by
  obtain ⟨lv, V, T, hX⟩ := Inv_full hI
  refine both_of hI (ask2_of (h_richest hF hX) (fun J hs => ?_))
  have := m_richest hF (wfull_X hX hs) (w := a)
  simp only [hs 26 1 rfl, hs 26 2 rfl, hs 26 3 rfl, hs 17 3 rfl, hs 17 4 rfl] at this
  exact this
theorem both_step {F : Nat} (hF : 4000000 ≤ F) {I : XI} (hI : Inv F I) {a b c : Int32} : both F I (f_H_step F a b c) (f_M_step F a b c) := by
  obtain ⟨lv, V, T, hX⟩ := Inv_full hI
  refine both_of hI (ask2_of (h_step hF hX) (fun J hs => ?_))
  have := m_step hF (wfull_X hX hs) (x := a) (y := b) (s := c)
  simp only [hs 26 1 rfl, hs 26 2 rfl, hs 26 3 rfl, hs 17 3 rfl, hs 17 4 rfl] at this
  exact this
theorem both_far {F : Nat} (hF : 4000000 ≤ F) {I : XI} (hI : Inv F I) {a b c d : Int32} : both F I (f_H_far F a b c d) (f_M_far F a b c d) := by
  obtain ⟨lv, V, T, hX⟩ := Inv_full hI
  refine both_of hI (ask2_of (h_far hF hX) (fun J hs => ?_))
  have := m_far hF (wfull_X hX hs) (x := a) (y := b) (p := c) (q := d)
  simp only [hs 26 1 rfl, hs 26 2 rfl, hs 26 3 rfl, hs 17 3 rfl, hs 17 4 rfl] at this
  exact this
theorem both_wetter {F : Nat} (hF : 4000000 ≤ F) {I : XI} (hI : Inv F I) : both F I (f_H_wetter F) (f_M_wetter F) := by
  obtain ⟨lv, V, T, hX⟩ := Inv_full hI
  refine both_of hI (ask2_of (h_wetter hF hX) (fun J hs => ?_))
  have := m_wetter hF (wfull_X hX hs)
  simp only [hs 26 1 rfl, hs 26 2 rfl, hs 26 3 rfl, hs 17 3 rfl, hs 17 4 rfl] at this
  exact this
theorem both_year {F : Nat} (hF : 4000000 ≤ F) {I : XI} (hI : Inv F I) {a b c d e f : Int32} : both F I (f_H_year F a b c d e f) (f_M_year F a b c d e f) := by
  obtain ⟨lv, V, T, hX⟩ := Inv_full hI
  refine both_of hI (ask2_of (h_year hF hX) (fun J hs => ?_))
  have := m_year hF (wfull_X hX hs) (x := a) (y := b) (x2 := c) (y2 := d) (n := e) (m := f)
  simp only [hs 26 1 rfl, hs 26 2 rfl, hs 26 3 rfl, hs 17 3 rfl, hs 17 4 rfl] at this
  exact this
theorem both_more {F : Nat} (hF : 4000000 ≤ F) {I : XI} (hI : Inv F I) {a b c d : Int32} : both F I (f_H_more F a b c d) (f_M_more F a b c d) := by
  obtain ⟨lv, V, T, hX⟩ := Inv_full hI
  exact both_of hI (ask2_of (h_more hF hX.1) (fun J hs => m_more hF (core_X hX.1 hs)))
theorem both_most {F : Nat} (hF : 4000000 ≤ F) {I : XI} (hI : Inv F I) : both F I (f_H_most F) (f_M_most F) := by
  obtain ⟨lv, V, T, hX⟩ := Inv_full hI
  exact both_of hI (ask2_of (h_most hF hX.1) (fun J hs => m_most hF (core_X hX.1 hs)))
theorem both_joined {F : Nat} (hF : 4000000 ≤ F) {I : XI} (hI : Inv F I) {a b : Int32} : both F I (f_H_joined F a b) (f_M_joined F a b) := by
  obtain ⟨lv, V, T, hX⟩ := Inv_full hI
  exact both_of hI (ask2_of (h_joined hF hX.1) (fun J hs => m_joined hF (core_X hX.1 hs)))
theorem both_empire {F : Nat} (hF : 4000000 ≤ F) {I : XI} (hI : Inv F I) : both F I (f_H_empire F) (f_M_empire F) := by
  obtain ⟨lv, V, T, hX⟩ := Inv_full hI
  exact both_of hI (ask2_of (h_empire hF hX.1) (fun J hs => m_empire hF (core_X hX.1 hs)))
theorem both_ask {F : Nat} (hF : 4000000 ≤ F) {I : XI} (hI : Inv F I) {a : Int32} : both F I (f_H_ask F a) (f_M_ask F a) := by
  obtain ⟨lv, n, T, hC⟩ := Inv_clu hI
  refine both_of hI (ask2_of (h_ask hF hC) (fun J hs => ?_))
  obtain ⟨hC', e1, e2⟩ := cluR_X hC hs
  have := m_ask hF hC' (k := a)
  rw [e1, e2] at this
  exact this
theorem both_liesIn {F : Nat} (hF : 4000000 ≤ F) {I : XI} (hI : Inv F I) {a : Int32} : both F I (f_H_liesIn F a) (f_M_liesIn F a) := by
  obtain ⟨lv, V, T, hX⟩ := Inv_full hI
  refine (h_liesIn hF hX).mono (fun r hr => ?_)
  obtain ⟨⟨W1, hA, h1⟩, hs'⟩ := hr
  have hs : Same scX I r.2 := hs'.HX
  have := m_liesIn hF (wfull_X hX hs) hA (n := a)
  simp only [hs 26 1 rfl, hs 26 2 rfl, hs 26 3 rfl, hs 17 3 rfl, hs 17 4 rfl] at this
  exact this.mono (fun q hq => ⟨hq.1.trans h1.symm, Inv_X hI (hs.trans hq.2.MX)⟩)
theorem both_taxIn {F : Nat} (hF : 4000000 ≤ F) {I : XI} (hI : Inv F I) {a : Int32} : both F I (f_H_taxIn F a) (f_M_taxIn F a) := by
  obtain ⟨lv, V, T, hX⟩ := Inv_full hI
  refine (h_taxIn hF hX).mono (fun r hr => ?_)
  obtain ⟨⟨W1, hA, h1⟩, hs'⟩ := hr
  have hs : Same scX I r.2 := hs'.HX
  have := m_taxIn hF (wfull_X hX hs) hA (n := a)
  simp only [hs 26 1 rfl, hs 26 2 rfl, hs 26 3 rfl, hs 17 3 rfl, hs 17 4 rfl] at this
  exact this.mono (fun q hq => ⟨hq.1.trans h1.symm, Inv_X hI (hs.trans hq.2.MX)⟩)
theorem both_stays {F : Nat} (hF : 4000000 ≤ F) {I : XI} (hI : Inv F I) {a b : Int32} : both F I (f_H_stays F a b) (f_M_stays F a b) := by
  obtain ⟨lv, V, T, hX⟩ := Inv_full hI
  refine (h_stays hF hX).mono (fun r hr => ?_)
  obtain ⟨⟨W1, hA, h1⟩, hs'⟩ := hr
  have hs : Same scX I r.2 := hs'.HX
  have := m_stays hF (wfull_X hX hs) hA (x := a) (y := b)
  simp only [hs 26 1 rfl, hs 26 2 rfl, hs 26 3 rfl, hs 17 3 rfl, hs 17 4 rfl] at this
  exact this.mono (fun q hq => ⟨hq.1.trans h1.symm, Inv_X hI (hs.trans hq.2.MX)⟩)
def lwP (X : XX) (F : Nat) (k18 : Int32 → XI → XL → Option (Int32 × XI × XL)) (v3 : Int32) : Prop := (xin (v3 + 1) X.1 = true ∧ xin (v3 + 2) X.1 = true ∧ xin (v3 + 3) X.1 = true ∧ xin (v3 + 4) X.1 = true ∧ xin (v3 + 5) X.1 = true ∧ xin (v3 + 6) X.1 = true) ∧ ∀ I L, Inv F I → keysR L → xOk (k18 (v3 + 7) I L) (fun r => r.1 = 1)
def lwG (F : Nat) (f : XI → XL → Option (Int32 × XI × XL)) : Prop := ∀ I L, Inv F I → keysR L → xOk (f I L) (fun r => r.1 = 1)
theorem lw_208 {X : XX} {F : Nat} (hF : 4000000 ≤ F) {k18 : Int32 → XI → XL → Option (Int32 × XI × XL)} {v3 : Int32} (h : lwP X F k18 v3) : lwG F (f_law_208 X F k18 v3) := by
  intro I L hI hK
  obtain ⟨⟨b1, b2, b3, b4, b5, b6⟩, hk⟩ := h
  unfold f_law_208
  exact xOk.ck b1 (xOk.ck b2 (xOk.ck b3 (xOk.ck b4 (xOk.ck b5 ((xOk.bnd (both_feed hF hI) (fun r hr => xOk.ck b1 (xOk.ck b2 (xOk.ck b3 (xOk.ck b4 (xOk.ck b5 (xOk.bnd hr (fun q hq => xOk.pos hq.1.symm (hk _ _ hq.2 hK))))))))))))))
theorem lw_271 {X : XX} {F : Nat} (hF : 4000000 ≤ F) {k18 : Int32 → XI → XL → Option (Int32 × XI × XL)} {v3 : Int32} (h : lwP X F k18 v3) : lwG F (f_law_271 X F k18 v3) := by
  intro I L hI hK
  obtain ⟨⟨b1, b2, b3, b4, b5, b6⟩, hk⟩ := h
  unfold f_law_271
  exact xOk.ck b1 ((xOk.bnd (both_back hI) (fun r hr => xOk.ck b1 (xOk.bnd hr (fun q hq => xOk.pos hq.1.symm (hk _ _ hq.2 hK))))))
theorem lw_294 {X : XX} {F : Nat} (hF : 4000000 ≤ F) {k18 : Int32 → XI → XL → Option (Int32 × XI × XL)} {v3 : Int32} (h : lwP X F k18 v3) : lwG F (f_law_294 X F k18 v3) := by
  intro I L hI hK
  obtain ⟨⟨b1, b2, b3, b4, b5, b6⟩, hk⟩ := h
  unfold f_law_294
  exact (both_read hF hI hK).bnd (fun r hr => hr.bnd (fun q hq => xOk.pos hq.1.symm (hk _ _ hq.2.1 hq.2.2)))
theorem lw_307 {X : XX} {F : Nat} (hF : 4000000 ≤ F) {k18 : Int32 → XI → XL → Option (Int32 × XI × XL)} {v3 : Int32} (h : lwP X F k18 v3) : lwG F (f_law_307 X F k18 v3) := by
  intro I L hI hK
  obtain ⟨⟨b1, b2, b3, b4, b5, b6⟩, hk⟩ := h
  unfold f_law_307
  exact xOk.bnde (Eq.refl _) (xOk.bnde (Eq.refl _) (xOk.pos hI.2.2.2 (hk _ _ hI hK)))
theorem lw_320 {X : XX} {F : Nat} (hF : 4000000 ≤ F) {k18 : Int32 → XI → XL → Option (Int32 × XI × XL)} {v3 : Int32} (h : lwP X F k18 v3) : lwG F (f_law_320 X F k18 v3) := by
  intro I L hI hK
  obtain ⟨⟨b1, b2, b3, b4, b5, b6⟩, hk⟩ := h
  unfold f_law_320
  exact xOk.ck b1 (xOk.ck b2 (xOk.ck b3 ((xOk.bnd (both_cell hF hI) (fun r hr => xOk.ck b1 (xOk.ck b2 (xOk.ck b3 (xOk.bnd hr (fun q hq => xOk.pos hq.1.symm (hk _ _ hq.2 hK))))))))))
theorem lw_363 {X : XX} {F : Nat} (hF : 4000000 ≤ F) {k18 : Int32 → XI → XL → Option (Int32 × XI × XL)} {v3 : Int32} (h : lwP X F k18 v3) : lwG F (f_law_363 X F k18 v3) := by
  intro I L hI hK
  obtain ⟨⟨b1, b2, b3, b4, b5, b6⟩, hk⟩ := h
  unfold f_law_363
  obtain ⟨lv, V, T, hX⟩ := Inv_full hI
  exact xOk.ck b1 (xOk.ck b2 (xOk.ck b3 ((xOk.bnde (h_knob hX.1) (xOk.ck b1 (xOk.ck b2 (xOk.ck b3 (xOk.bnd (m_knob hF hX.1) (fun q hq => xOk.pos hq.1.symm (hk _ _ (Inv_X hI hq.2.MX) hK))))))))))
theorem lw_406 {X : XX} {F : Nat} (hF : 4000000 ≤ F) {k18 : Int32 → XI → XL → Option (Int32 × XI × XL)} {v3 : Int32} (h : lwP X F k18 v3) : lwG F (f_law_406 X F k18 v3) := by
  intro I L hI hK
  obtain ⟨⟨b1, b2, b3, b4, b5, b6⟩, hk⟩ := h
  unfold f_law_406
  obtain ⟨lv, V, T, hX⟩ := Inv_full hI
  exact xOk.ck b1 (xOk.ck b2 (xOk.ck b3 ((xOk.bnde (h_spare hX.1) (xOk.ck b1 (xOk.ck b2 (xOk.ck b3 (xOk.bnde (m_spare hX.1) (xOk.pos (Eq.refl _) (hk _ _ hI hK))))))))))
theorem lw_449 {X : XX} {F : Nat} (hF : 4000000 ≤ F) {k18 : Int32 → XI → XL → Option (Int32 × XI × XL)} {v3 : Int32} (h : lwP X F k18 v3) : lwG F (f_law_449 X F k18 v3) := by
  intro I L hI hK
  obtain ⟨⟨b1, b2, b3, b4, b5, b6⟩, hk⟩ := h
  unfold f_law_449
  exact xOk.ck b1 (xOk.ck b2 ((xOk.bnd (both_land hF hI) (fun r hr => xOk.ck b1 (xOk.ck b2 (xOk.bnd hr (fun q hq => xOk.pos hq.1.symm (hk _ _ hq.2 hK))))))))
theorem lw_482 {X : XX} {F : Nat} (hF : 4000000 ≤ F) {k18 : Int32 → XI → XL → Option (Int32 × XI × XL)} {v3 : Int32} (h : lwP X F k18 v3) : lwG F (f_law_482 X F k18 v3) := by
  intro I L hI hK
  obtain ⟨⟨b1, b2, b3, b4, b5, b6⟩, hk⟩ := h
  unfold f_law_482
  exact xOk.ck b1 (xOk.ck b2 ((xOk.bnd (both_lay hF hI) (fun r hr => xOk.ck b1 (xOk.ck b2 (xOk.bnd hr (fun q hq => xOk.pos hq.1.symm (hk _ _ hq.2 hK))))))))
theorem lw_515 {X : XX} {F : Nat} (hF : 4000000 ≤ F) {k18 : Int32 → XI → XL → Option (Int32 × XI × XL)} {v3 : Int32} (h : lwP X F k18 v3) : lwG F (f_law_515 X F k18 v3) := by
  intro I L hI hK
  obtain ⟨⟨b1, b2, b3, b4, b5, b6⟩, hk⟩ := h
  unfold f_law_515
  exact xOk.ck b1 (xOk.ck b2 ((xOk.bnd (both_take hF hI) (fun r hr => xOk.ck b1 (xOk.ck b2 (xOk.bnd hr (fun q hq => xOk.pos hq.1.symm (hk _ _ hq.2 hK))))))))
theorem lw_548 {X : XX} {F : Nat} (hF : 4000000 ≤ F) {k18 : Int32 → XI → XL → Option (Int32 × XI × XL)} {v3 : Int32} (h : lwP X F k18 v3) : lwG F (f_law_548 X F k18 v3) := by
  intro I L hI hK
  obtain ⟨⟨b1, b2, b3, b4, b5, b6⟩, hk⟩ := h
  unfold f_law_548
  exact xOk.ck b1 (xOk.ck b2 (xOk.ck b3 (xOk.ck b4 ((xOk.bnd (both_press hF hI) (fun r hr => xOk.ck b1 (xOk.ck b2 (xOk.ck b3 (xOk.ck b4 (xOk.bnd hr (fun q hq => xOk.pos hq.1.symm (hk _ _ hq.2 hK))))))))))))
theorem lw_601 {X : XX} {F : Nat} (hF : 4000000 ≤ F) {k18 : Int32 → XI → XL → Option (Int32 × XI × XL)} {v3 : Int32} (h : lwP X F k18 v3) : lwG F (f_law_601 X F k18 v3) := by
  intro I L hI hK
  obtain ⟨⟨b1, b2, b3, b4, b5, b6⟩, hk⟩ := h
  unfold f_law_601
  exact xOk.ck b1 ((xOk.bnd (both_days hF hI) (fun r hr => xOk.ck b1 (xOk.bnd hr (fun q hq => xOk.pos hq.1.symm (hk _ _ hq.2 hK))))))
theorem lw_624 {X : XX} {F : Nat} (hF : 4000000 ≤ F) {k18 : Int32 → XI → XL → Option (Int32 × XI × XL)} {v3 : Int32} (h : lwP X F k18 v3) : lwG F (f_law_624 X F k18 v3) := by
  intro I L hI hK
  obtain ⟨⟨b1, b2, b3, b4, b5, b6⟩, hk⟩ := h
  unfold f_law_624
  exact (xOk.bnd (both_undo hF hI) (fun r hr => xOk.bnd hr (fun q hq => xOk.pos hq.1.symm (hk _ _ hq.2 hK))))
theorem lw_637 {X : XX} {F : Nat} (hF : 4000000 ≤ F) {k18 : Int32 → XI → XL → Option (Int32 × XI × XL)} {v3 : Int32} (h : lwP X F k18 v3) : lwG F (f_law_637 X F k18 v3) := by
  intro I L hI hK
  obtain ⟨⟨b1, b2, b3, b4, b5, b6⟩, hk⟩ := h
  unfold f_law_637
  obtain ⟨lv, V, T, hX⟩ := Inv_full hI
  exact xOk.ck b1 (xOk.ck b2 ((xOk.bnde (h_clash hF hX.1) (xOk.ck b1 (xOk.ck b2 (xOk.bnd (m_clash hF hX.1) (fun q hq => xOk.pos hq.1.symm (hk _ _ (Inv_X hI hq.2.MX) hK))))))))
theorem lw_670 {X : XX} {F : Nat} (hF : 4000000 ≤ F) {k18 : Int32 → XI → XL → Option (Int32 × XI × XL)} {v3 : Int32} (h : lwP X F k18 v3) : lwG F (f_law_670 X F k18 v3) := by
  intro I L hI hK
  obtain ⟨⟨b1, b2, b3, b4, b5, b6⟩, hk⟩ := h
  unfold f_law_670
  obtain ⟨lv, V, T, hX⟩ := Inv_full hI
  exact xOk.ck b1 (xOk.ck b2 (xOk.ck b3 ((xOk.bnde (h_called hX.1) (xOk.ck b1 (xOk.ck b2 (xOk.ck b3 (xOk.bnde (m_called hX.1) (xOk.pos (Eq.refl _) (hk _ _ hI hK))))))))))
theorem lw_713 {X : XX} {F : Nat} (hF : 4000000 ≤ F) {k18 : Int32 → XI → XL → Option (Int32 × XI × XL)} {v3 : Int32} (h : lwP X F k18 v3) : lwG F (f_law_713 X F k18 v3) := by
  intro I L hI hK
  obtain ⟨⟨b1, b2, b3, b4, b5, b6⟩, hk⟩ := h
  unfold f_law_713
  obtain ⟨lv, V, T, hX⟩ := Inv_full hI
  exact xOk.ck b1 (xOk.ck b2 (xOk.ck b3 ((xOk.bnde (h_spares hF hX.1) (xOk.ck b1 (xOk.ck b2 (xOk.ck b3 (xOk.bnde (m_spares hF hX.1) (xOk.pos (Eq.refl _) (hk _ _ hI hK))))))))))
theorem lw_756 {X : XX} {F : Nat} (hF : 4000000 ≤ F) {k18 : Int32 → XI → XL → Option (Int32 × XI × XL)} {v3 : Int32} (h : lwP X F k18 v3) : lwG F (f_law_756 X F k18 v3) := by
  intro I L hI hK
  obtain ⟨⟨b1, b2, b3, b4, b5, b6⟩, hk⟩ := h
  unfold f_law_756
  obtain ⟨lv, V, T, hX⟩ := Inv_full hI
  exact xOk.ck b1 ((xOk.bnde (h_homes hF hX.1) (xOk.ck b1 (xOk.bnde (m_homes hF hX.1) (xOk.pos (Eq.refl _) (hk _ _ hI hK))))))
theorem lw_779 {X : XX} {F : Nat} (hF : 4000000 ≤ F) {k18 : Int32 → XI → XL → Option (Int32 × XI × XL)} {v3 : Int32} (h : lwP X F k18 v3) : lwG F (f_law_779 X F k18 v3) := by
  intro I L hI hK
  obtain ⟨⟨b1, b2, b3, b4, b5, b6⟩, hk⟩ := h
  unfold f_law_779
  obtain ⟨lv, V, T, hX⟩ := Inv_full hI
  exact (xOk.bnde (h_free hF hX.1) (xOk.bnd (m_free hF hX.1) (fun q hq => xOk.pos hq.1.symm (hk _ _ (Inv_X hI hq.2.MX) hK))))
theorem lw_792 {X : XX} {F : Nat} (hF : 4000000 ≤ F) {k18 : Int32 → XI → XL → Option (Int32 × XI × XL)} {v3 : Int32} (h : lwP X F k18 v3) : lwG F (f_law_792 X F k18 v3) := by
  intro I L hI hK
  obtain ⟨⟨b1, b2, b3, b4, b5, b6⟩, hk⟩ := h
  unfold f_law_792
  obtain ⟨lv, V, T, hX⟩ := Inv_full hI
  exact xOk.ck b1 (xOk.ck b2 ((xOk.bnde (h_border hF hX.1) (xOk.ck b1 (xOk.ck b2 (xOk.bnd (m_border hF hX.1) (fun q hq => xOk.pos hq.1.symm (hk _ _ (Inv_X hI hq.2.MX) hK))))))))
theorem lw_825 {X : XX} {F : Nat} (hF : 4000000 ≤ F) {k18 : Int32 → XI → XL → Option (Int32 × XI × XL)} {v3 : Int32} (h : lwP X F k18 v3) : lwG F (f_law_825 X F k18 v3) := by
  intro I L hI hK
  obtain ⟨⟨b1, b2, b3, b4, b5, b6⟩, hk⟩ := h
  unfold f_law_825
  exact xOk.ck b1 ((xOk.bnd (both_richest hF hI) (fun r hr => xOk.ck b1 (xOk.bnd hr (fun q hq => xOk.pos hq.1.symm (hk _ _ hq.2 hK))))))
theorem lw_848 {X : XX} {F : Nat} (hF : 4000000 ≤ F) {k18 : Int32 → XI → XL → Option (Int32 × XI × XL)} {v3 : Int32} (h : lwP X F k18 v3) : lwG F (f_law_848 X F k18 v3) := by
  intro I L hI hK
  obtain ⟨⟨b1, b2, b3, b4, b5, b6⟩, hk⟩ := h
  unfold f_law_848
  exact xOk.ck b1 (xOk.ck b2 (xOk.ck b3 ((xOk.bnd (both_step hF hI) (fun r hr => xOk.ck b1 (xOk.ck b2 (xOk.ck b3 (xOk.bnd hr (fun q hq => xOk.pos hq.1.symm (hk _ _ hq.2 hK))))))))))
theorem lw_891 {X : XX} {F : Nat} (hF : 4000000 ≤ F) {k18 : Int32 → XI → XL → Option (Int32 × XI × XL)} {v3 : Int32} (h : lwP X F k18 v3) : lwG F (f_law_891 X F k18 v3) := by
  intro I L hI hK
  obtain ⟨⟨b1, b2, b3, b4, b5, b6⟩, hk⟩ := h
  unfold f_law_891
  exact xOk.ck b1 (xOk.ck b2 (xOk.ck b3 (xOk.ck b4 ((xOk.bnd (both_far hF hI) (fun r hr => xOk.ck b1 (xOk.ck b2 (xOk.ck b3 (xOk.ck b4 (xOk.bnd hr (fun q hq => xOk.pos hq.1.symm (hk _ _ hq.2 hK))))))))))))
theorem lw_944 {X : XX} {F : Nat} (hF : 4000000 ≤ F) {k18 : Int32 → XI → XL → Option (Int32 × XI × XL)} {v3 : Int32} (h : lwP X F k18 v3) : lwG F (f_law_944 X F k18 v3) := by
  intro I L hI hK
  obtain ⟨⟨b1, b2, b3, b4, b5, b6⟩, hk⟩ := h
  unfold f_law_944
  exact xOk.ck b1 (xOk.ck b2 (xOk.ck b3 (xOk.ck b4 ((xOk.bnd (both_more hF hI) (fun r hr => xOk.ck b1 (xOk.ck b2 (xOk.ck b3 (xOk.ck b4 (xOk.bnd hr (fun q hq => xOk.pos hq.1.symm (hk _ _ hq.2 hK))))))))))))
theorem lw_997 {X : XX} {F : Nat} (hF : 4000000 ≤ F) {k18 : Int32 → XI → XL → Option (Int32 × XI × XL)} {v3 : Int32} (h : lwP X F k18 v3) : lwG F (f_law_997 X F k18 v3) := by
  intro I L hI hK
  obtain ⟨⟨b1, b2, b3, b4, b5, b6⟩, hk⟩ := h
  unfold f_law_997
  exact (xOk.bnd (both_most hF hI) (fun r hr => xOk.bnd hr (fun q hq => xOk.pos hq.1.symm (hk _ _ hq.2 hK))))
theorem lw_1010 {X : XX} {F : Nat} (hF : 4000000 ≤ F) {k18 : Int32 → XI → XL → Option (Int32 × XI × XL)} {v3 : Int32} (h : lwP X F k18 v3) : lwG F (f_law_1010 X F k18 v3) := by
  intro I L hI hK
  obtain ⟨⟨b1, b2, b3, b4, b5, b6⟩, hk⟩ := h
  unfold f_law_1010
  exact xOk.ck b1 (xOk.ck b2 ((xOk.bnd (both_joined hF hI) (fun r hr => xOk.ck b1 (xOk.ck b2 (xOk.bnd hr (fun q hq => xOk.pos hq.1.symm (hk _ _ hq.2 hK))))))))
theorem lw_1043 {X : XX} {F : Nat} (hF : 4000000 ≤ F) {k18 : Int32 → XI → XL → Option (Int32 × XI × XL)} {v3 : Int32} (h : lwP X F k18 v3) : lwG F (f_law_1043 X F k18 v3) := by
  intro I L hI hK
  obtain ⟨⟨b1, b2, b3, b4, b5, b6⟩, hk⟩ := h
  unfold f_law_1043
  obtain ⟨lv, V, T, hX⟩ := Inv_full hI
  exact (xOk.bnde (h_loose hF hX.1) (xOk.bnd (m_loose hF hX.1) (fun q hq => xOk.pos hq.1.symm (hk _ _ (Inv_X hI hq.2.MX) hK))))
theorem lw_1056 {X : XX} {F : Nat} (hF : 4000000 ≤ F) {k18 : Int32 → XI → XL → Option (Int32 × XI × XL)} {v3 : Int32} (h : lwP X F k18 v3) : lwG F (f_law_1056 X F k18 v3) := by
  intro I L hI hK
  obtain ⟨⟨b1, b2, b3, b4, b5, b6⟩, hk⟩ := h
  unfold f_law_1056
  exact (xOk.bnd (both_empire hF hI) (fun r hr => xOk.bnd hr (fun q hq => xOk.pos hq.1.symm (hk _ _ hq.2 hK))))
theorem lw_1069 {X : XX} {F : Nat} (hF : 4000000 ≤ F) {k18 : Int32 → XI → XL → Option (Int32 × XI × XL)} {v3 : Int32} (h : lwP X F k18 v3) : lwG F (f_law_1069 X F k18 v3) := by
  intro I L hI hK
  obtain ⟨⟨b1, b2, b3, b4, b5, b6⟩, hk⟩ := h
  unfold f_law_1069
  exact xOk.ck b1 ((xOk.bnd (both_liesIn hF hI) (fun r hr => xOk.ck b1 (xOk.bnd hr (fun q hq => xOk.pos hq.1.symm (hk _ _ hq.2 hK))))))
theorem lw_1092 {X : XX} {F : Nat} (hF : 4000000 ≤ F) {k18 : Int32 → XI → XL → Option (Int32 × XI × XL)} {v3 : Int32} (h : lwP X F k18 v3) : lwG F (f_law_1092 X F k18 v3) := by
  intro I L hI hK
  obtain ⟨⟨b1, b2, b3, b4, b5, b6⟩, hk⟩ := h
  unfold f_law_1092
  exact xOk.ck b1 ((xOk.bnd (both_taxIn hF hI) (fun r hr => xOk.ck b1 (xOk.bnd hr (fun q hq => xOk.pos hq.1.symm (hk _ _ hq.2 hK))))))
theorem lw_1115 {X : XX} {F : Nat} (hF : 4000000 ≤ F) {k18 : Int32 → XI → XL → Option (Int32 × XI × XL)} {v3 : Int32} (h : lwP X F k18 v3) : lwG F (f_law_1115 X F k18 v3) := by
  intro I L hI hK
  obtain ⟨⟨b1, b2, b3, b4, b5, b6⟩, hk⟩ := h
  unfold f_law_1115
  exact xOk.ck b1 (xOk.ck b2 ((xOk.bnd (both_stays hF hI) (fun r hr => xOk.ck b1 (xOk.ck b2 (xOk.bnd hr (fun q hq => xOk.pos hq.1.symm (hk _ _ hq.2 hK))))))))
theorem lw_1148 {X : XX} {F : Nat} (hF : 4000000 ≤ F) {k18 : Int32 → XI → XL → Option (Int32 × XI × XL)} {v3 : Int32} (h : lwP X F k18 v3) : lwG F (f_law_1148 X F k18 v3) := by
  intro I L hI hK
  obtain ⟨⟨b1, b2, b3, b4, b5, b6⟩, hk⟩ := h
  unfold f_law_1148
  exact (xOk.bnd (both_wetter hF hI) (fun r hr => xOk.bnd hr (fun q hq => xOk.pos hq.1.symm (hk _ _ hq.2 hK))))
theorem lw_1161 {X : XX} {F : Nat} (hF : 4000000 ≤ F) {k18 : Int32 → XI → XL → Option (Int32 × XI × XL)} {v3 : Int32} (h : lwP X F k18 v3) : lwG F (f_law_1161 X F k18 v3) := by
  intro I L hI hK
  obtain ⟨⟨b1, b2, b3, b4, b5, b6⟩, hk⟩ := h
  unfold f_law_1161
  exact xOk.ck b1 (xOk.ck b2 (xOk.ck b3 (xOk.ck b4 (xOk.ck b5 (xOk.ck b6 ((xOk.bnd (both_year hF hI) (fun r hr => xOk.ck b1 (xOk.ck b2 (xOk.ck b3 (xOk.ck b4 (xOk.ck b5 (xOk.ck b6 (xOk.bnd hr (fun q hq => xOk.pos hq.1.symm (hk _ _ hq.2 hK))))))))))))))))
theorem lw_1236 {X : XX} {F : Nat} (hF : 4000000 ≤ F) {k18 : Int32 → XI → XL → Option (Int32 × XI × XL)} {v3 : Int32} (h : lwP X F k18 v3) : lwG F (f_law_1236 X F k18 v3) := by
  intro I L hI hK
  obtain ⟨⟨b1, b2, b3, b4, b5, b6⟩, hk⟩ := h
  unfold f_law_1236
  exact xOk.ck b1 (xOk.ck b2 ((xOk.bnd (both_tell hI) (fun r hr => xOk.ck b1 (xOk.ck b2 (xOk.bnd hr (fun q hq => xOk.pos hq.1.symm (hk _ _ hq.2 hK))))))))
theorem lw_1269 {X : XX} {F : Nat} (hF : 4000000 ≤ F) {k18 : Int32 → XI → XL → Option (Int32 × XI × XL)} {v3 : Int32} (h : lwP X F k18 v3) : lwG F (f_law_1269 X F k18 v3) := by
  intro I L hI hK
  obtain ⟨⟨b1, b2, b3, b4, b5, b6⟩, hk⟩ := h
  unfold f_law_1269
  exact (xOk.bnd (both_forget hI) (fun r hr => xOk.bnd hr (fun q hq => xOk.pos hq.1.symm (hk _ _ hq.2 hK))))
theorem lw_1282 {X : XX} {F : Nat} (hF : 4000000 ≤ F) {k18 : Int32 → XI → XL → Option (Int32 × XI × XL)} {v3 : Int32} (h : lwP X F k18 v3) : lwG F (f_law_1282 X F k18 v3) := by
  intro I L hI hK
  obtain ⟨⟨b1, b2, b3, b4, b5, b6⟩, hk⟩ := h
  unfold f_law_1282
  obtain ⟨lv, n, T, hC⟩ := Inv_clu hI
  exact xOk.ck b1 ((xOk.bnde (h_missing hF hC) (xOk.ck b1 (xOk.bnde (m_missing hF hC) (xOk.pos (Eq.refl _) (hk _ _ hI hK))))))
theorem lw_1305 {X : XX} {F : Nat} (hF : 4000000 ≤ F) {k18 : Int32 → XI → XL → Option (Int32 × XI × XL)} {v3 : Int32} (h : lwP X F k18 v3) : lwG F (f_law_1305 X F k18 v3) := by
  intro I L hI hK
  obtain ⟨⟨b1, b2, b3, b4, b5, b6⟩, hk⟩ := h
  unfold f_law_1305
  obtain ⟨lv, n, T, hC⟩ := Inv_clu hI
  exact xOk.ck b1 ((xOk.bnde (h_sure hF hC) (xOk.ck b1 (xOk.bnde (m_sure hF hC) (xOk.pos (Eq.refl _) (hk _ _ hI hK))))))
theorem lw_1328 {X : XX} {F : Nat} (hF : 4000000 ≤ F) {k18 : Int32 → XI → XL → Option (Int32 × XI × XL)} {v3 : Int32} (h : lwP X F k18 v3) : lwG F (f_law_1328 X F k18 v3) := by
  intro I L hI hK
  obtain ⟨⟨b1, b2, b3, b4, b5, b6⟩, hk⟩ := h
  unfold f_law_1328
  exact xOk.ck b1 ((xOk.bnd (both_ask hF hI) (fun r hr => xOk.ck b1 (xOk.bnd hr (fun q hq => xOk.pos hq.1.symm (hk _ _ hq.2 hK))))))
theorem lw_1351 {X : XX} {F : Nat} (hF : 4000000 ≤ F) {k18 : Int32 → XI → XL → Option (Int32 × XI × XL)} {v3 : Int32} (h : lwP X F k18 v3) : lwG F (f_law_1351 X F k18 v3) := by
  intro I L hI hK
  obtain ⟨⟨b1, b2, b3, b4, b5, b6⟩, hk⟩ := h
  unfold f_law_1351
  exact xOk.ck b1 ((xOk.bnd (both_hold hF hI) (fun r hr => xOk.ck b1 (xOk.bnd hr (fun q hq => xOk.pos hq.1.symm (hk _ _ hq.2 hK))))))
theorem lw_1374 {X : XX} {F : Nat} (hF : 4000000 ≤ F) {k18 : Int32 → XI → XL → Option (Int32 × XI × XL)} {v3 : Int32} (h : lwP X F k18 v3) : lwG F (f_law_1374 X F k18 v3) := by
  intro I L hI hK
  obtain ⟨⟨b1, b2, b3, b4, b5, b6⟩, hk⟩ := h
  unfold f_law_1374
  exact xOk.ck b1 ((xOk.bnd (both_restore hF hI) (fun r hr => xOk.ck b1 (xOk.bnd hr (fun q hq => xOk.pos hq.1.symm (hk _ _ hq.2 hK))))))
theorem lw_1397 {X : XX} {F : Nat} (hF : 4000000 ≤ F) {k18 : Int32 → XI → XL → Option (Int32 × XI × XL)} {v3 : Int32} (h : lwP X F k18 v3) : lwG F (f_law_1397 X F k18 v3) := by
  intro I L hI hK
  obtain ⟨⟨b1, b2, b3, b4, b5, b6⟩, hk⟩ := h
  unfold f_law_1397
  exact xOk.ck b1 ((xOk.bnd (both_count hF hI) (fun r hr => xOk.ck b1 (xOk.bnd hr (fun q hq => xOk.pos hq.1.symm (hk _ _ hq.2 hK))))))
