/-! expressions: the reference's loops -/
def scP (o j : Nat) : Bool := Nat.beq o 131 && (Nat.beq j 11 || Nat.beq j 12 || Nat.beq j 13 || Nat.beq j 14)
theorem scP_F {o j : Nat} (h : scP o j = false) : scF3 o j = false := by
  unfold scP at h
  unfold scF3
  cases h1 : Nat.beq o 131 with
  | false => rfl
  | true =>
    rw [h1] at h
    simp only [Bool.or_eq_false_iff, Bool.true_and] at h ⊢
    exact ⟨⟨h.1.1.1, h.1.2⟩, h.2⟩
theorem Same.PN {I J : XI} (h : Same scP I J) : Same scN I J := h.mono (fun o j e => by
  unfold scN at e
  unfold scP
  cases h1 : Nat.beq o 131 with
  | false => rfl
  | true =>
    rw [h1] at e
    simp only [Bool.or_eq_false_iff, Bool.true_and] at e ⊢
    exact ⟨⟨⟨e.1.1.1.1.1.1, e.1.1.1.1.1.2⟩, e.1.1.1.1.2⟩, e.1.1.1.2⟩)
theorem wO_push {I : XI} {nc0 w : Nat} {W : List Nat} {o : XP} {J G : XI} (h : wO I nc0 W o J) (hs : Same scP J G) (hG : G 131 12 = Int32.ofNat (nop (w :: W))) (hw : okW (w :: W)) (hn : nop (w :: W) ≤ 7) (hb : nc0 + o.length + W.length < 830) : wO I nc0 (w :: W) o (xput (xput G 159 W.length (Int32.ofNat (mk w))) 131 44 (Int32.ofNat (W.length + 1))) := by
  obtain ⟨h1, ⟨⟨h2, h3⟩, h4⟩, ⟨h5, h6⟩, h7, h8, h9⟩ := h
  have hsn : Same scN I (xput (xput G 159 W.length (Int32.ofNat (mk w))) 131 44 (Int32.ofNat (W.length + 1))) := ((h7.trans hs.PN).put' rfl).put' rfl
  refine ⟨⟨hw, hn⟩, ⟨⟨xput_eq, ?_⟩, fun j hj => ?_⟩, ⟨?_, ?_⟩, hsn, fun j hj => ?_, fun j hj => ?_⟩
  · rw [xput_ne (by omega), xput_neo (by omega)]; exact hG
  · have hl : (w :: W).length = W.length + 1 := rfl
    rw [hl] at hj ⊢
    rw [xput_neo (by omega), xput_at]
    cases j with
    | zero => rw [if_pos (by omega)]; rfl
    | succ j =>
      rw [if_neg (by omega), hs 159 _ rfl, show W.length + 1 - 1 - (j + 1) = W.length - 1 - j by omega]
      exact h4 j (by omega)
  · rw [xput_ne (by omega), xput_neo (by omega), hs 131 40 rfl]; exact h5
  · show nc0 + o.length + (W.length + 1) ≤ 830
    omega
  · rw [xput_neo (by omega), xput_neo (by omega), xput_neo (by omega), xput_neo (by omega), hs 157 j rfl, hs 158 j rfl]; exact h8 j hj
  · rw [xput_neo (by omega), xput_neo (by omega), xput_neo (by omega), xput_neo (by omega), hs 157 _ rfl, hs 158 _ rfl]; exact h9 j hj
theorem wO_pop40 {I : XI} {nc0 : Nat} {W : List Nat} {o : XP} {J : XI} (h : wO I nc0 (40 :: W) o J) : wO I nc0 W o (xput (xput J 131 44 (J 131 44 - 1)) 131 12 (J 131 12 - 1)) := by
  obtain ⟨⟨h1, h1'⟩, ⟨⟨h2, h3⟩, h4⟩, ⟨h5, h6⟩, h7, h8, h9⟩ := h
  have hs : Same scN J (xput (xput J 131 44 (J 131 44 - 1)) 131 12 (J 131 12 - 1)) := (Same.put rfl).put' rfl
  have h1' : nop W + 1 ≤ 7 := h1'
  have h2 : J 131 44 = Int32.ofNat (W.length + 1) := h2
  have h3 : J 131 12 = Int32.ofNat (nop W + 1) := h3
  have hlen := (okW_len W h1.1).1
  refine ⟨⟨h1.1, by omega⟩, ⟨⟨?_, ?_⟩, fun j hj => ?_⟩, ⟨by rw [xput_ne (by omega), xput_ne (by omega)]; exact h5, ?_⟩, h7.trans hs, fun j hj => ?_, fun j hj => ?_⟩
  · rw [xput_ne (by omega), xput_eq, h2, show (1 : Int32) = Int32.ofNat 1 from rfl, nk_sub (by omega), Nat.add_sub_cancel]
  · rw [xput_eq, h3, show (1 : Int32) = Int32.ofNat 1 from rfl, nk_sub (by omega), Nat.add_sub_cancel]
  · rw [xput_neo (by omega), xput_neo (by omega)]
    have := h4 (j + 1) (by show j + 1 < W.length + 1; omega)
    rw [show (40 :: W).length - 1 - (j + 1) = W.length - 1 - j by show W.length + 1 - 1 - (j + 1) = _; omega] at this
    exact this
  · have h6 : nc0 + o.length + (W.length + 1) ≤ 830 := h6
    omega
  · rw [xput_neo (by omega), xput_neo (by omega), xput_neo (by omega), xput_neo (by omega)]; exact h8 j hj
  · rw [xput_neo (by omega), xput_neo (by omega), xput_neo (by omega), xput_neo (by omega)]; exact h9 j hj
/-- what the rows keep when a fault came -/
def keepC (c0 : Nat) (I J : XI) : Prop := Same scN I J ∧ ∀ j, ¬ (c0 ≤ j ∧ j < c0 + 420) → J 157 j = I 157 j ∧ J 158 j = I 158 j
def resM (b : Nat → Int32) (n : Nat) (L : XL) (I : XI) (nc0 c0 : Nat) (r : XS) (K : XI) : Prop := match r with
  | Sum.inl e => bm b n e K ∧ keepC c0 I K
  | Sum.inr p => gm b n L p.1 K ∧ wO I nc0 [] p.2 K ∧ nc0 + p.2.length ≤ c0 + p.1
def outM (b : Nat → Int32) (n : Nat) (L : XL) (I : XI) (nc0 c0 : Nat) (c : XC) (K : XI) : Prop := ∃ r, ends b n c r ∧ resM b n L I nc0 c0 r K
theorem wO_keep {I : XI} {nc0 c0 : Nat} {W : List Nat} {o : XP} {J : XI} (h : wO I nc0 W o J) (h0 : c0 ≤ nc0) (h1 : nc0 + o.length ≤ c0 + 420) : keepC c0 I J := ⟨h.2.2.2.1, fun j hj => h.2.2.2.2.1 j (by omega)⟩
theorem keep_F3 {c0 : Nat} {I J K : XI} (h : keepC c0 I J) (hs : Same scF3 J K) : keepC c0 I K := ⟨h.1.trans hs.F3, fun j hj => by rw [hs 157 j rfl, hs 158 j rfl]; exact h.2 j hj⟩
theorem bm_unit {b : Nat → Int32} {n : Nat} {e : Nat × Nat} {J : XI} (h : bm b n e J) : f_M_unit J = some J := by
  refine xOk.eq ?_
  unfold f_M_unit
  refine xOk.bnde (bm_is h) (xOk.pos rfl (xOk.neg (bm_v h).1 ?_))
  unfold f_M_unit_88
  exact xOk.bnde (bm_fail h) (xOk.pur rfl)
theorem bm_23 {F m : Nat} {k12 : Int32 → Int32 → XI → Option XI} {v : Int32} {b : Nat → Int32} {n : Nat} {e : Nat × Nat} {J : XI} (h : bm b n e J) : f_M_expression_23 F k12 (m + 1) v J = some J := by
  refine xOk.eq ?_
  rw [f_M_expression_23]
  exact xOk.bnde (bm_is h) (xOk.pos rfl (xOk.bnde (bm_unit h) (xOk.neg (bm_v h).2.1 (xOk.pur rfl))))
theorem bm_131 {b : Nat → Int32} {n : Nat} {e : Nat × Nat} {J K : XI} (h : bm b n e J) (hs : K 131 11 = J 131 11 ∧ K 131 13 = J 131 13 ∧ K 131 14 = J 131 14) : bm b n e K := by
  obtain ⟨h1, ⟨h2, h3⟩, t, ht, h4⟩ := h
  exact ⟨h1, ⟨hs.2.1.trans h2, hs.2.2.trans h3⟩, t, ht, hs.1.trans h4⟩
theorem bm_204 {F : Nat} (hF : 4000000 ≤ F) {b : Nat → Int32} {n nc0 c0 : Nat} {e : Nat × Nat} {I J : XI} {W : List Nat} {o : XP} (h : bm b n e J) (hw : wO I nc0 W o J) (hc : c0 ≤ nc0 ∧ nc0 + o.length + W.length ≤ c0 + 400 ∧ c0 ≤ 420) : xOk (f_M_expression_204 F J) (fun K => bm b n e K ∧ keepC c0 I K) := by
  unfold f_M_expression_204 f_M_comesOut
  have hl := (okW_len W hw.1.1).1
  have hn := hw.1.2
  have hfl := (fl_ok (s := false) W o hw.1.1).2.2.1
  exact (m_comes (s := false) W F o J (by omega) (by omega) hw).bnd (fun K hK => xOk.pur ⟨bm_131 h hK.2, wO_keep hK.1 hc.1 (by omega)⟩)
theorem bm_96 {F : Nat} (hF : 4000000 ≤ F) {m : Nat} {k12 : Int32 → Int32 → XI → Option XI} {v : Int32} {b : Nat → Int32} {n nc0 c0 : Nat} {e : Nat × Nat} {I J : XI} {W : List Nat} {o : XP} (h : bm b n e J) (hw : wO I nc0 W o J) (hc : c0 ≤ nc0 ∧ nc0 + o.length + W.length ≤ c0 + 400 ∧ c0 ≤ 420) : xOk (f_M_expression_96 F k12 (m + 1) v J) (fun K => bm b n e K ∧ keepC c0 I K) := by
  rw [f_M_expression_96]
  refine xOk.bnde (bm_is h) (xOk.pos rfl ?_)
  unfold f_M_expression_145
  refine xOk.bnde (bm_is h) (xOk.pos rfl (xOk.bnde (bm_is h) (xOk.pos rfl (xOk.bnde (bm_is h) (xOk.pos rfl (xOk.bnde (bm_is h) ?_))))))
  unfold f_M_expression_186
  refine xOk.pos rfl (xOk.ite (fun _ => bm_204 hF h hw hc) (fun _ => xOk.bnde (bm_fail h) (bm_204 hF h hw hc)))
theorem nop0_nil {W : List Nat} (h : okW W) (h2 : top2 W) (h0 : nop W = 0) : W = [] := by
  have := (okW_len W h).2.2 h2
  cases W with
  | nil => rfl
  | cons w W =>
    have hl : (w :: W).length = W.length + 1 := rfl
    omega
theorem top2_40 {W : List Nat} (h : okW W) (h2 : top2 W) (h0 : 0 < nop W) : ∃ V, W = 40 :: V := by
  cases W with
  | nil => exact absurd h0 (Nat.lt_irrefl 0)
  | cons w W =>
    rcases h.2 with rfl | ⟨hm, -⟩ | ⟨ha, -⟩
    · exact ⟨W, rfl⟩
    · exact absurd h2 (top2_no (by rw [hm]; rfl))
    · exact absurd h2 (top2_no (by rw [ha, Bool.or_true]))
theorem mk_var : ∀ k, k < 121 → okk k = true → ¬ (112 ≤ k ∧ k ≤ 120) → mk k < 32 ∨ 40 < mk k := by decide +kernel
theorem mk_var' : ∀ k, k < 121 → 112 ≤ k → mk k = k - 80 := by decide +kernel
/-- a unit that isn't bracketed -/
theorem m_unit {b : Nat → Int32} {n t nc0 c0 : Nat} {L : XL} {I J : XI} {W : List Nat} {o : XP} (hg : gm b n L t J) (hw : wO I nc0 W o J) (hc : c0 ≤ nc0 ∧ nc0 + o.length + W.length ≤ c0 + t ∧ c0 ≤ 420) (h40 : ¬ kd b n t = 40) :
    xOk (f_M_unit J) (fun K => (∃ q, atO q ∧ stA b n t W o = nxE t (false, t + 1, W, o ++ [q]) ∧ wO I nc0 W (o ++ [q]) K ∧ if t = 400 then bm b n (2, 400) K else gm b n L (t + 1) K) ∨ (stA b n t W o = Sum.inl (Sum.inl (1, t)) ∧ bm b n (1, t) K ∧ wO I nc0 W o K)) := by
  have ht := hg.1.1
  have hok := kdT_ok b n (plc b n t)
  have hk := kd_lt b n t
  have h134 : J 134 (xN (J 131 11)) = Int32.ofNat (mk (kd b n t)) := by
    rw [hg.2.1.1, nk_N (by omega)]
    exact ((hg.2.2 t hg.1).1).1
  have hin : xin (J 131 11) 403 = true := by rw [hg.2.1.1]; exact nk_in (by omega) (by omega)
  have hmk : mk (kd b n t) < 121 := mk_lt hk
  unfold f_M_unit
  rw [h134]
  refine xOk.bnde (gm_is (k := 3) hg (by omega) rfl) ?_
  have after : ∀ q, atO q → stA b n t W o = nxE t (false, t + 1, W, o ++ [q]) → ¬ kd b n t = 0 ∧ ¬ kd b n t = 1 → xOk ((f_M_emit q.1 q.2 J).bind fun q13 => (f_M_goesOn q13).bind fun q14 => some q14) (fun K => (∃ q, atO q ∧ stA b n t W o = nxE t (false, t + 1, W, o ++ [q]) ∧ wO I nc0 W (o ++ [q]) K ∧ if t = 400 then bm b n (2, 400) K else gm b n L (t + 1) K) ∨ (stA b n t W o = Sum.inl (Sum.inl (1, t)) ∧ bm b n (1, t) K ∧ wO I nc0 W o K)) := by
    intro q hq hA h01
    refine (wO_emit (q := q) hw (by omega)).bnd (fun K hK => ?_)
    obtain ⟨k1, k2, k3, k4⟩ := hK
    have hgK : gm b n L t K := by
      refine ⟨hg.1, ⟨k2.trans hg.2.1.1, k3.trans hg.2.1.2⟩, tkM_same hg.2.2 ?_ ?_ ?_⟩
      · exact (k1.2.2.2.1.row 134 (fun _ => rfl)).trans (hw.2.2.2.1.row 134 (fun _ => rfl)).symm
      · exact (k1.2.2.2.1.row 135 (fun _ => rfl)).trans (hw.2.2.2.1.row 135 (fun _ => rfl)).symm
      · exact (k1.2.2.2.1.row 136 (fun _ => rfl)).trans (hw.2.2.2.1.row 136 (fun _ => rfl)).symm
    exact (gm_goes hgK h01).bnd (fun K' hK' => xOk.pur (Or.inl ⟨q, hq, hA, wO_F3 k1 hK'.1, hK'.2⟩))
  by_cases e3 : kd b n t = 3
  · rw [decide_eq_true e3]
    refine xOk.neg (by decide) (xOk.ck hin ?_)
    have hv : J 136 (xN (J 131 11)) = vl b n t := by
      rw [hg.2.1.1, nk_N (by omega)]
      exact (hg.2.2 t hg.1).2.1 e3
    rw [hv]
    refine after (0, vl b n t) (Or.inl ⟨rfl, vl_ok e3⟩) ?_ (by omega)
    unfold stA
    rw [if_neg h40, if_pos e3]
  · rw [decide_eq_false e3]
    have h88 : ¬ (112 ≤ kd b n t ∧ kd b n t ≤ 120) → xOk (f_M_unit_88 J) (fun K => (∃ q, atO q ∧ stA b n t W o = nxE t (false, t + 1, W, o ++ [q]) ∧ wO I nc0 W (o ++ [q]) K ∧ if t = 400 then bm b n (2, 400) K else gm b n L (t + 1) K) ∨ (stA b n t W o = Sum.inl (Sum.inl (1, t)) ∧ bm b n (1, t) K ∧ wO I nc0 W o K)) := by
      intro hv
      unfold f_M_unit_88
      refine (gm_fail (k := 1) hg (Or.inl rfl)).bnd (fun K hK => xOk.pur (Or.inr ⟨?_, hK.1, wO_F3 hw hK.2⟩))
      unfold stA
      rw [if_neg h40, if_neg e3, if_neg hv]
    refine xOk.pos rfl (xOk.pos hg.2.1.2 (xOk.ck hin ?_))
    by_cases hv : 112 ≤ kd b n t ∧ kd b n t ≤ 120
    · have hm := mk_var' _ hk hv.1
      refine xOk.neg (nk_lt_f (b := 32) (by omega) (by omega)) (xOk.ck hin (xOk.neg (nk_lt_f (a := 40) (by omega) (by omega)) (xOk.ck hin ?_)))
      rw [show (32 : Int32) = Int32.ofNat 32 from rfl, nk_sub (by omega), show mk (kd b n t) - 32 = kd b n t - 112 by omega]
      refine after (1, Int32.ofNat (kd b n t - 112)) (Or.inr ⟨rfl, kd b n t - 112, by omega, rfl⟩) ?_ (by omega)
      unfold stA
      rw [if_neg h40, if_neg e3, if_pos hv]
    · rcases mk_var _ hk hok.1 hv with hm | hm
      · exact xOk.pos (nk_lt_t (b := 32) hm (by omega)) (h88 hv)
      · exact xOk.neg (nk_lt_f (b := 32) (by omega) (by omega)) (xOk.ck hin (xOk.pos (nk_lt_t (a := 40) hm (by omega)) (h88 hv)))
