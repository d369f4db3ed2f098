/-! both readers: all of the text -/
theorem rn_17 {sd : Nat} : scRN sd 131 17 = true := by
  show (scRM sd 131 17 || true) = true
  rw [Bool.or_true]
theorem Same.RN {sd : Nat} {I J : XI} (h : Same (scRM sd) I J) : Same (scRN sd) I J := h.mono (fun o j e => by
  unfold scRN at e
  exact (Bool.or_eq_false_iff.mp e).1)
theorem m_188f {F sd f : Nat} {L : XL} {M : XI} {p : Int32} (hf : 0 < f ∧ f < 7) (h : M 131 13 = Int32.ofNat f ∨ (M 131 13 = 0 ∧ M 131 15 = Int32.ofNat f)) : f_M_read_188 F p M L = some (Int32.ofNat f, xput M 131 17 p, L) := by
  have pos : ¬ Int32.ofNat f ≤ 0 := nk_nge (N := f) (k := 0) (by omega) (by omega)
  have e13 : xput M 131 17 p 131 13 = M 131 13 := by rw [xput_ne (by omega)]
  have e15 : xput M 131 17 p 131 15 = M 131 15 := by rw [xput_ne (by omega)]
  refine xOk.eq ?_
  unfold f_M_read_188
  refine xOk.st ?_
  rw [e13, e15]
  rcases h with h | ⟨h1, h2⟩
  · rw [h]
    exact xOk.neg pos (xOk.pur rfl)
  · rw [h1, h2]
    exact xOk.pos (Int32.le_refl _) (xOk.neg pos (xOk.pur rfl))
theorem pr_finb {F : Nat} (hF : 4000000 ≤ F) {b : Nat → Int32} {n sd : Nat} {L : XL} {e : Nat × Nat} {I M : XI} (h1 : bd b n e I) (h2 : bm b n e M) : pr (f_Reader_readText_187 F I) (f_M_read_134 F M L) (rdQ b n sd L I M) := by
  obtain ⟨c1, ⟨c2, c3⟩, -⟩ := id h1
  obtain ⟨-, ⟨d2, d3⟩, -⟩ := id h2
  have he : 0 < e.1 ∧ e.1 < 7 := by omega
  have hm : f_M_read_134 F M L = some (Int32.ofNat e.1, xput M 131 17 (M 131 14), L) := by
    unfold f_M_read_134 f_M_read_158
    rw [if_neg (bm_v h2).1, if_neg (bm_v h2).2.1]
    exact m_188f (sd := sd) he (Or.inl d2)
  have fin : ∀ J, Same sc6S I J → J 6 3 = I 6 3 → J 6 4 = I 6 4 → pr (f_Reader_readText_207 F J) (f_M_read_134 F M L) (rdQ b n sd L I M) := by
    intro J s1 s2 s3
    unfold f_Reader_readText_207
    refine pr.lneg (by rw [s2]; exact bd_ne h1) ?_
    unfold f_Reader_readText_230
    refine pr.mk' rfl hm (Or.inl ⟨⟨fun _ _ => rfl, s1.mono (fun _ _ e => rd_6S e), Same.put rn_17⟩, ⟨e.1, he.1, he.2, s2.trans c2⟩, ?_, ?_⟩)
    · show Int32.ofNat e.1 = J 6 3
      rw [s2, c2]
    · show J 6 4 = xput M 131 17 (M 131 14) 131 17
      rw [xput_eq, s3, c3, d3]
  unfold f_Reader_readText_187
  refine pr.lbe (c_astray hF) ?_
  cases anyB (asB I) 30 with
  | false => exact pr.lpos rfl (fin I Same.rfl rfl rfl)
  | true =>
    refine pr.lneg (by decide) ?_
    unfold f_Reader_mark
    by_cases e5 : I 6 5 = 0
    · rw [if_pos e5]
      exact fin _ ((Same.put rfl).put' rfl) (by rw [xput_ne (by omega), xput_ne (by omega)]) (by rw [xput_ne (by omega), xput_ne (by omega)])
    · rw [if_neg e5]
      exact fin I Same.rfl rfl rfl
theorem pr_fin {F : Nat} (hF : 4000000 ≤ F) {b : Nat → Int32} {n sd t : Nat} {L : XL} {I M : XI} (hn : n ≤ 2000) (hsd : sd < 2) (h : Rs b n L (Sum.inr t) I M) (hD : TD b n sd t I M L) (h0 : kd b n t = 0) : pr (f_Reader_readText_187 F I) (f_M_read_134 F M L) (rdQ b n sd L I M) := by
  obtain ⟨⟨hT, h19⟩, dw, dk, dp, dn, dl⟩ := id hD
  obtain ⟨s, s1, ⟨s2, s3⟩, s4, s5⟩ := h.2 t rfl
  obtain ⟨kn, cm, cs, ⟨k1, k2, k3⟩, ⟨k4, k5⟩, k6, k7, k8⟩ := id dk
  have hn1 := hT.2.1
  have ht : t ≤ 400 := h.1.1.1.1
  have hpl : plc b n t = n := by
    have := kd_zero.mp h0
    have := plc_le b n t
    omega
  have m13 : M 131 13 = 0 := h.1.2.2.1.2
  have i63 : I 6 3 = 0 := h.1.1.2.1.2
  have htab := m_isTable hF hsd h19 k1 k3 k6
  have hM135 : M 135 t = Int32.ofNat (plc b n t) := ((h.1.2.2.2 t h.1.2.1).1).2
  unfold f_Reader_readText_187 f_M_read_134
  refine pr.lbe (c_astray hF) (pr.rpos m13 (pr.rbe htab ?_))
  rw [hn1, h.1.2.2.1.1]
  -- where a slight fault stands
  have slight : ∀ (J K : XI) (f p : Int32), (∃ f', 0 < f' ∧ f' < 7 ∧ f = Int32.ofNat f') → Same sc6S I J → Same scFS M K → J 6 3 = 0 → J 6 5 = f → J 6 6 = p → K 131 13 = 0 → K 131 15 = f → K 131 16 = p → pr (f_Reader_readText_207 F J) (f_M_read_158 F K L) (rdQ b n sd L I M) := by
    rintro J K f p ⟨f', f1, f2, rfl⟩ x1 x2 x3 x4 x5 y1 y2 y3
    have pos : ¬ Int32.ofNat f' ≤ 0 := nk_nge (N := f') (k := 0) (by omega) (by omega)
    unfold f_Reader_readText_207 f_M_read_158
    refine pr.lpos x3 (pr.lst (pr.lst (pr.rpos (by rw [y1]; exact Int32.le_refl _) (pr.rneg (by rw [y2]; exact pos) ?_))))
    unfold f_Reader_readText_230
    have e6 : xput J 6 3 (J 6 5) 6 6 = p := by rw [xput_ne (by omega)]; exact x5
    rw [e6]
    refine pr.mk' rfl (m_188f (sd := sd) ⟨f1, f2⟩ (Or.inr ⟨y1, y2⟩)) (Or.inl ⟨⟨fun _ _ => rfl, ((x1.mono (fun _ _ e => rd_6S e)).trans (Same.put (by unfold scRd; rfl))).trans (Same.put (by unfold scRd; rfl)), (x2.mono (fun _ _ e => rm_FS e)).RN.trans (Same.put rn_17)⟩, ⟨f', f1, f2, ?_⟩, ?_, ?_⟩)
    · show xput (xput J 6 3 (J 6 5)) 6 4 p 6 3 = _
      rw [xput_ne (by omega), xput_eq]; exact x4
    · show Int32.ofNat f' = xput (xput J 6 3 (J 6 5)) 6 4 p 6 3
      rw [xput_ne (by omega), xput_eq]; exact x4.symm
    · show xput (xput J 6 3 (J 6 5)) 6 4 p 6 4 = xput K 131 17 (K 131 16) 131 17
      rw [xput_eq, xput_eq, y3]
  by_cases es : s = 0
  · have h65 : I 6 5 = 0 := by rw [s2, es]; rfl
    have m15 : M 131 15 = 0 := by rw [s3, es]; rfl
    have heq := astray_eq (sd := sd) (M := M) ⟨k4, k5⟩ (fun k hk => (k6 k hk).1) k7 dw h65
    rw [heq]
    cases hall : allB (fun k => pcR sd M (cs k)) kn with
    | false =>
      refine pr.lneg (by decide) (pr.rpos rfl ?_)
      have hmk := pr_mark (k := 6) hn (h.2 t rfl) h.1.1.1 (by omega) hM135 m13
      rw [hpl] at hmk
      obtain ⟨r, q, ⟨e1, e2⟩, ⟨s', z1, z2, ⟨z3, z3'⟩, j, z4, z5, z6, z7⟩, g2, g3, g4, g5⟩ := hmk
      have e1 : f_Reader_mark 6 (Int32.ofNat n) I = some r := e1
      have e2 : f_M_wrong 6 (Int32.ofNat t) M = some q := e2
      rw [e1, e2]
      exact slight r q (Int32.ofNat s') (Int32.ofNat (plc b n j)) ⟨s', by omega, z1, rfl⟩ g2 g4 ((g3 3 (by omega)).trans i63) z3 z6 ((g5 13 (by omega)).trans m13) z3' z7
    | true =>
      refine pr.lpos rfl (pr.rneg (by decide) ?_)
      unfold f_Reader_readText_207 f_M_read_158
      refine pr.lpos i63 (pr.lst (pr.lst (pr.rpos (by rw [m13]; exact Int32.le_refl _) (pr.rpos (by rw [m15]; exact Int32.le_refl _) ?_))))
      have e6 : xput I 6 3 (I 6 5) 6 6 = -1 := by rw [xput_ne (by omega)]; exact s4 es
      rw [e6, h65]
      unfold f_Reader_readText_230 f_M_read_188
      refine pr.rst ?_
      rw [show xput M 131 17 (-1) 131 13 = 0 by rw [xput_ne (by omega)]; exact m13, show xput M 131 17 (-1) 131 15 = 0 by rw [xput_ne (by omega)]; exact m15]
      refine pr.rpos (Int32.le_refl _) (pr.rpos (Int32.le_refl _) (pr.rst ?_))
      have g19 : xput M 131 17 (-1) 131 19 = Int32.ofNat sd := by rw [xput_ne (by omega)]; exact h19
      rw [g19]
      refine pr.rb (m_begins hF hsd xput_eq) (fun K1 hK1 => ?_)
      obtain ⟨b1, b2', b3, b4⟩ := hK1
      refine pr.rb (m_keeps hF b1) (fun K2 hK2 => pr.rst (pr.rst ?_))
      obtain ⟨c1, c2⟩ := hK2
      obtain ⟨q, hq, q1, q2, q3, q4⟩ := m_243 (F := F) (M := xput (xput K2 131 54 0) 131 59 0) (L := L) hF
      refine pr.mk' rfl hq (Or.inr ⟨t, xput M 131 17 (-1), ⟨⟨fun _ _ => by rw [q2], (Same.put (by unfold scRd; rfl)).put' (by unfold scRd; rfl), Same.put rn_17⟩, ⟨?_, q1⟩, ?_, xput_eq⟩, ⟨⟨⟨?_, g19⟩, ?_, ?_, ?_, ?_, ?_⟩, ht, ?_⟩, ⟨?_, ?_, ?_, ?_⟩, fun j hj => ⟨?_, ?_⟩, q3, fun j hj => ?_, fun o ho => ?_⟩)
      · show xput (xput I 6 3 0) 6 4 (-1) 6 3 = 0
        rw [xput_ne (by omega), xput_eq]
      · show xput (xput I 6 3 0) 6 4 (-1) 6 4 = -1
        rw [xput_eq]
      · exact txC_same hT (by show xput (xput I 6 3 0) 6 4 (-1) 1 1 = _; rw [xput_neo (by omega), xput_neo (by omega)]) (by show xput (xput I 6 3 0) 6 4 (-1) 2 = _; rw [xput_neo (by omega), xput_neo (by omega)])
      · exact dW_same dw (by show xput (xput I 6 3 0) 6 4 (-1) 7 0 = _; rw [xput_neo (by omega), xput_neo (by omega)]) (by show xput (xput I 6 3 0) 6 4 (-1) 7 1 = _; rw [xput_neo (by omega), xput_neo (by omega)]) (by show xput (xput I 6 3 0) 6 4 (-1) 8 = _; rw [xput_neo (by omega), xput_neo (by omega)]) (fun _ => h65) (by rw [xput_neo (by omega)]) (by rw [xput_neo (by omega)]) (xput_neo (by omega))
      · exact dK_same dk (by show xput (xput I 6 3 0) 6 4 (-1) 6 7 = _; rw [xput_ne (by omega), xput_ne (by omega)]) (by show xput (xput I 6 3 0) 6 4 (-1) 6 8 = _; rw [xput_ne (by omega), xput_ne (by omega)]) (by show xput (xput I 6 3 0) 6 4 (-1) 9 = _; rw [xput_neo (by omega), xput_neo (by omega)]) (by rw [xput_neo (by omega)]) (xput_neo (by omega)) (xput_neo (by omega))
      · rw [q2]
        exact dP_same dp (by show xput (xput I 6 3 0) 6 4 (-1) 7 2 = _; rw [xput_neo (by omega), xput_neo (by omega)]) (by show xput (xput I 6 3 0) 6 4 (-1) 10 = _; rw [xput_neo (by omega), xput_neo (by omega)]) (by show xput (xput I 6 3 0) 6 4 (-1) 16 = _; rw [xput_neo (by omega), xput_neo (by omega)]) (by rw [xput_neo (by omega)]) (by rw [xput_ne (by omega)]) (xput_neo (by omega))
      · refine ⟨?_, ?_⟩
        · show xput (xput I 6 3 0) 6 4 (-1) 7 3 = _
          rw [xput_neo (by omega), xput_neo (by omega), xput_neo (by omega)]; exact dn.1
        · show xput (xput I 6 3 0) 6 4 (-1) 7 4 = _
          rw [xput_neo (by omega), xput_neo (by omega), xput_neo (by omega)]; exact dn.2
      · exact dL_same dl (Nat.le_refl _) (by show xput (xput I 6 3 0) 6 4 (-1) 11 1 = _; rw [xput_neo (by omega), xput_neo (by omega)]) (by show xput (xput I 6 3 0) 6 4 (-1) 12 = _; rw [xput_neo (by omega), xput_neo (by omega)]) (by show xput (xput I 6 3 0) 6 4 (-1) 13 = _; rw [xput_neo (by omega), xput_neo (by omega)]) (by rw [xput_ne (by omega)]) (by rw [xput_ne (by omega)]) (by rw [xput_ne (by omega)]) (fun o o1 o2 => xput_neo (by omega))
      · show xput (xput I 6 3 0) 6 4 (-1) 6 5 = 0
        rw [xput_ne (by omega), xput_ne (by omega)]; exact h65
      · rw [q4 131 (by omega), xput_ne (by omega), xput_ne (by omega), c2 131 (by omega), b3 18 (by omega), xput_eq]
      · rw [q4 131 (by omega), xput_ne (by omega), xput_ne (by omega), c2 131 (by omega), b2', xput_neo (by omega)]
      · rw [q4 131 (by omega), xput_ne (by omega), xput_eq]
      · rw [q4 131 (by omega), xput_eq]
      · rw [q4 162 (by omega), xput_neo (by omega), xput_neo (by omega)]; exact c1 j hj
      · rw [q4 163 (by omega), xput_neo (by omega), xput_neo (by omega), c2 163 (by omega)]; exact b1 j hj
      · rw [q4 131 (by omega), xput_ne (by omega), xput_ne (by omega), c2 131 (by omega), b3 j (by omega), xput_ne (by omega)]
      · rw [q4 o (by omega), xput_neo (by omega), xput_neo (by omega), c2 o (by omega), b4 o (by omega) (by omega), xput_neo (by omega)]
  · obtain ⟨i, ⟨i1, i2⟩, i3, i4⟩ := s5 es
    have hlt : plc b n i < plc b n t := plc_mono h.1.1.1 i i1
    have h65 : ¬ I 6 5 = 0 := by rw [s2, show (0 : Int32) = Int32.ofNat 0 from rfl, nk_eq (by omega) (by omega)]; exact es
    have m15 : ¬ M 131 15 = 0 := by rw [s3, show (0 : Int32) = Int32.ofNat 0 from rfl, nk_eq (by omega) (by omega)]; exact es
    have hmark : f_Reader_mark 6 (Int32.ofNat n) I = some I := by
      unfold f_Reader_mark
      rw [if_neg h65]
    have hwrong : f_M_wrong 6 (Int32.ofNat t) M = some M := by
      unfold f_M_wrong
      rw [xck_true (nk_in (by omega) (by omega)), m13, if_neg (by decide), if_neg m15, nk_N (show t < 2147483648 by omega), hM135, i4, if_pos (nk_lt_t hlt (by omega))]
    have fin := slight I M (Int32.ofNat s) (Int32.ofNat (plc b n i)) ⟨s, by omega, s1, rfl⟩ Same.rfl Same.rfl i63 s2 i3 m13 s3 i4
    have left : pr (if b2 (anyB (asB I) 30) = 0 then f_Reader_readText_207 F I else (f_Reader_mark 6 (Int32.ofNat n) I).bind fun q15 => f_Reader_readText_207 F q15) (f_M_read_158 F M L) (rdQ b n sd L I M) := by
      rw [hmark]
      cases anyB (asB I) 30 with
      | false => exact pr.lpos rfl fin
      | true => exact pr.lneg (by decide) fin
    cases allB (fun k => pcR sd M (cs k)) kn with
    | false =>
      refine pr.rpos rfl ?_
      rw [hwrong]
      exact left
    | true => exact pr.rneg (by decide) left
theorem pr_text {F : Nat} (hF : 4000000 ≤ F) {b : Nat → Int32} {n sd : Nat} (hn : n ≤ 2000) (hsd : sd < 2) : ∀ m k k' v a L I M, (∀ t, a = Sum.inr t → 401 - t ≤ m ∧ v ≤ t ∧ TD b n sd t I M L) → m < k → m < k' → Rs b n L a I M → v ≤ 400 → pr (f_Reader_readText_44 F k (Int32.ofNat v) I) (f_M_read_112 F k' M L) (rdQ b n sd L I M) := by
  intro m
  induction m with
  | zero =>
    intro k k' v a L I M hD hk hk' hR hv
    cases a with
    | inr t =>
      have h1 := (hD t rfl).1
      have ht : t ≤ 400 := hR.1.1.1.1
      omega
    | inl e =>
      obtain ⟨k, rfl⟩ : ∃ q, k = q + 1 := ⟨k - 1, by omega⟩
      obtain ⟨k', rfl⟩ : ∃ q, k' = q + 1 := ⟨k' - 1, by omega⟩
      rw [f_Reader_readText_44, f_M_read_112]
      exact pr.lneg (nk_lt_f (a := 400) hv (by omega)) (pr.lneg (bd_ne hR.1.1) (pr.rneg (bm_v hR.1.2).1 (pr_finb hF hR.1.1 hR.1.2)))
  | succ m ih =>
    intro k k' v a L I M hD hk hk' hR hv
    obtain ⟨k, rfl⟩ : ∃ q, k = q + 1 := ⟨k - 1, by omega⟩
    obtain ⟨k', rfl⟩ : ∃ q, k' = q + 1 := ⟨k' - 1, by omega⟩
    cases a with
    | inl e =>
      rw [f_Reader_readText_44, f_M_read_112]
      exact pr.lneg (nk_lt_f (a := 400) hv (by omega)) (pr.lneg (bd_ne hR.1.1) (pr.rneg (bm_v hR.1.2).1 (pr_finb hF hR.1.1 hR.1.2)))
    | inr t =>
      obtain ⟨h1, h2, h3⟩ := hD t rfl
      have ht : t ≤ 400 := hR.1.1.1.1
      have hgm : gm b n L t M := hR.1.2
      have hgd : gd b n t I := hR.1.1
      have his := gm_is (k := 0) hgm (by omega) rfl
      by_cases e0 : kd b n t = 0
      · rw [decide_eq_true e0] at his
        rw [f_Reader_readText_44, f_M_read_112]
        refine pr.lneg (nk_lt_f (a := 400) hv (by omega)) (pr.lpos hgd.2.1.2 (pr.lbe (gd_kind hgd) (pr.rpos hgm.2.1.2 (pr.rbe his ?_))))
        exact pr.lpos (by rw [e0]; rfl) (pr.rneg (by decide) (pr_fin hF hn hsd hR h3 e0))
      · rw [decide_eq_false e0] at his
        rw [c_step hgd e0 hv, f_M_read_112]
        refine pr.rpos hgm.2.1.2 (pr.rbe his (pr.rpos rfl ?_))
        refine (pr_tell hF hn hsd hR h3 e0).bnd (fun r q hq => ?_)
        obtain ⟨⟨w1, w2, w3⟩, a', w4, w5⟩ := hq
        rw [nk_succ]
        have lift : ∀ x y, rdQ b n sd q.2 r q.1 x y → rdQ b n sd L I M x y := by
          intro x y hxy
          have tL : ∀ {L2 : XL}, onlyL q.2 L2 → onlyL L L2 := fun h o ho => (h o ho).trans (w1 o ho)
          rcases hxy with ⟨⟨x1, x2, x3⟩, x4⟩ | ⟨t2, M1, ⟨⟨x1, x2, x3⟩, x4⟩, x5⟩
          · exact Or.inl ⟨⟨tL x1, w2.trans x2, w3.RN.trans x3⟩, x4⟩
          · exact Or.inr ⟨t2, M1, ⟨⟨tL x1, w2.trans x2, w3.RN.trans x3⟩, x4⟩, x5⟩
        by_cases hv4 : v + 1 ≤ 400
        · exact (ih k k' (v + 1) a' q.2 r q.1 (fun t' ht' => ⟨by have := (w5 t' ht').1; omega, by have := (w5 t' ht').1; omega, (w5 t' ht').2⟩) (by omega) (by omega) w4 hv4).mono (fun x y => lift x y)
        · -- 400 rows need more words than there are
          cases a' with
          | inr t' =>
            have := (w5 t' rfl).1
            have ht' : t' ≤ 400 := w4.1.1.1.1
            omega
          | inl e =>
            obtain ⟨k, rfl⟩ : ∃ q, k = q + 1 := ⟨k - 1, by omega⟩
            obtain ⟨k', rfl⟩ : ∃ q, k' = q + 1 := ⟨k' - 1, by omega⟩
            rw [f_Reader_readText_44, f_M_read_112]
            exact pr.lpos (nk_lt_t (a := 400) (by omega) (by omega)) (pr.rneg (bm_v w4.1.2).1 ((pr_finb hF w4.1.1 w4.1.2).mono (fun x y => lift x y)))
