/-! days ahead: liesIn, taxIn, stays, wetter, year -/
abbrev X3 : Type := (Nat → Int32) × Int32 × Int32
def d1 (V : XV) (T : XT) (kn sd : Int32) (s : X3) : X3 := (dayW s.1 (flB V T kn sd s.1 s.2.1) 30, s.2.1 + 1, s.2.2 + Int32.ofNat (cnt (flB V T kn sd s.1 s.2.1) 30))
def dn (V : XV) (T : XT) (kn sd : Int32) : Nat → X3 → X3
  | 0, s => s
  | n + 1, s => d1 V T kn sd (dn V T kn sd n s)
noncomputable def pn (V : XV) (T : XT) (kn sd : Int32) : Nat → X3 → Int32 → Int32
  | 0, _, pd => pd
  | n + 1, s, pd => pdF V T (dn V T kn sd n s).1 (dn V T kn sd n s).2.1 5 (pn V T kn sd n s pd)
theorem dn_wf {V : XV} {T : XT} {kn sd : Int32} {n : Nat} {s : X3} (h : wfW T s.1) : wfW T (dn V T kn sd n s).1 := by
  induction n with
  | zero => exact h
  | succ n ih => exact dayW_wf ih
theorem dn_lie {V : XV} {T : XT} {kn sd : Int32} {n : Nat} {s : X3} {a : Nat} (ha : a < 30) (h : lie (dn V T kn sd (n + 1) s).1 a = true) : lie (dn V T kn sd n s).1 a = true := by
  have h' : lie (dayW (dn V T kn sd n s).1 (flB V T kn sd (dn V T kn sd n s).1 (dn V T kn sd n s).2.1) 30) a = true := h
  rw [dayW_lie ha, Bool.and_eq_true] at h'
  exact h'.1
theorem dn_lie_le {V : XV} {T : XT} {kn sd : Int32} {n m : Nat} {s : X3} {a : Nat} (ha : a < 30) (hn : n ≤ m) (h : lie (dn V T kn sd m s).1 a = true) : lie (dn V T kn sd n s).1 a = true := by
  induction hn with
  | refl => exact h
  | step _ ih => exact ih (dn_lie ha h)
def st3 (S : Nat) (s : X3) (I : XI) : Prop := stH S s.1 s.2.1 s.2.2 I
theorem c_pass {F : Nat} (hF : 4000000 ≤ F) {lv S n : Nat} {V : XV} {T : XT} {s : X3} {I : XI} (hS : stS S) (hL : lawR F lv V I) (hT : tbC 17 T I) (hO : tOk T) (hW : wfW T s.1) (hI : st3 S s I) (hn : n ≤ 1000) :
    xOk (f_Calendar_pass F S (Int32.ofNat n) I) (fun J => st3 S (dn V T (I 17 3) (I 17 4) n s) J ∧ J S 2 = pn V T (I 17 3) (I 17 4) n s (I S 2) ∧ Same (scD S) I J) := by
  unfold f_Calendar_pass
  refine xloop n (fun m (J : XI) i => f_Calendar_pass_2 F S m (Int32.ofNat n) (Int32.ofNat i) J) (fun i J => st3 S (dn V T (I 17 3) (I 17 4) i s) J ∧ J S 2 = pn V T (I 17 3) (I 17 4) i s (I S 2) ∧ Same (scD S) I J) ?_ ?_ F I 0 (by omega) (by omega) ⟨hI, rfl, Same.rfl⟩
  · intro m J i hi hP ih
    obtain ⟨p1, p2, p3⟩ := hP
    show xOk (f_Calendar_pass_2 F S (m + 1) _ _ _) _
    rw [f_Calendar_pass_2]
    refine xOk.neg (nk_nge hi (by omega)) ?_
    have hwf : wfW T (dn V T (I 17 3) (I 17 4) i s).1 := dn_wf hW
    generalize hs' : dn V T (I 17 3) (I 17 4) i s = s' at *
    refine xloop 5 (fun k (J : XI) l => f_Calendar_pass_10 F S (fun v2 v3 I => f_Calendar_pass_2 F S m v2 v3 I) k (Int32.ofNat n) (Int32.ofNat i) (Int32.ofNat l) J) (fun l J => st3 S s' J ∧ J S 2 = pdF V T s'.1 s'.2.1 l (pn V T (I 17 3) (I 17 4) i s (I S 2)) ∧ Same (scD S) I J) ?_ ?_ F J 0 (by omega) (by omega) ⟨p1, p2, p3⟩
    · intro k J l hl hP ih2
      obtain ⟨q1, q2, q3⟩ := hP
      show xOk (f_Calendar_pass_10 F S _ (k + 1) _ _ _ _) _
      rw [f_Calendar_pass_10]
      refine xOk.neg (nk_nge hl (by decide)) ?_
      have hS31 : ¬ S + 1 = 31 := by rcases hS with rfl | rfl <;> decide
      refine (c_taxes hF (lawR_D hS hL q3) (tbC_D hS hT q3) hO hwf q1.1 (fun j => (scR_S hS j).2) hS31 (by rw [nk_m1 (by omega)]; exact id)).bnd (fun r hr => ?_)
      refine xOk.st ?_
      rw [nk_succ]
      refine ih2 _ ⟨⟨?_, ?_, ?_⟩, ?_, (q3.trans (hr.2.mono (fun _ _ e => scD_R e))).put' scD_S⟩
      · rw [xput_neo (by omega), hr.2.row (S + 1) (fun j => (scR_S hS j).2)]; exact q1.1
      · rw [xput_ne (by omega), hr.2 S 1 (scR_S hS 1).1]; exact q1.2.1
      · rw [xput_ne (by omega), hr.2 S 3 (scR_S hS 3).1]; exact q1.2.2
      · rw [xput_eq, hr.1, q2, q1.2.1]
        rfl
    · intro k J hP
      obtain ⟨q1, q2, q3⟩ := hP
      show xOk (f_Calendar_pass_10 F S _ (k + 1) _ _ _ _) _
      rw [f_Calendar_pass_10]
      refine xOk.pos (by decide) ?_
      refine (c_endDay hF hS (lawR_D hS hL q3) (tbC_D hS hT q3) hO hwf q1).bnd (fun K hK => ?_)
      obtain ⟨k1, k2, k3⟩ := hK
      rw [nk_succ]
      have e3 : J 17 3 = I 17 3 := q3 17 3 (scD_lo hS (by omega) _)
      have e4 : J 17 4 = I 17 4 := q3 17 4 (scD_lo hS (by omega) _)
      rw [e3, e4] at k1
      refine ih K ⟨?_, ?_, q3.trans k3⟩
      · show st3 S (d1 V T (I 17 3) (I 17 4) (dn V T (I 17 3) (I 17 4) i s)) K
        rw [hs']
        exact k1
      · rw [k2, q2]
        show _ = pdF V T (dn V T (I 17 3) (I 17 4) i s).1 (dn V T (I 17 3) (I 17 4) i s).2.1 5 _
        rw [hs']
  · intro m J hP
    show xOk (f_Calendar_pass_2 F S (m + 1) _ _ _) _
    rw [f_Calendar_pass_2]
    exact xOk.pos (Int32.le_refl _) (xOk.pur hP)
def rw3 (s : X3) (pd sd : Int32) (J : XI) : Prop := rowS s.1 s.2.1 pd s.2.2 sd J
theorem m_goes {F : Nat} (hF : 4000000 ≤ F) {lv n : Nat} {V : XV} {T : XT} {s : X3} {pd sd : Int32} {I : XI} (hL : lawR F lv V I) (hM : tbM lv T I) (hO : tOk T) (hW : wfW T s.1) (hR : rw3 s pd sd I) (hn : n ≤ 1000) :
    xOk (f_M_goes F (Int32.ofNat n) I) (fun J => rw3 (dn V T (I 148 lv) sd n s) (pn V T (I 148 lv) sd n s pd) sd J ∧ Same scM I J) := by
  unfold f_M_goes
  refine xloop n (fun m (J : XI) i => f_M_goes_2 F m (Int32.ofNat n) (Int32.ofNat i) J) (fun i J => rw3 (dn V T (I 148 lv) sd i s) (pn V T (I 148 lv) sd i s pd) sd J ∧ Same scM I J) ?_ ?_ F I 0 (by omega) (by omega) ⟨hR, Same.rfl⟩
  · intro m J i hi hP ih
    obtain ⟨p1, p2⟩ := hP
    show xOk (f_M_goes_2 F (m + 1) _ _ _) _
    rw [f_M_goes_2]
    refine xOk.neg (nk_nge hi (by omega)) ?_
    refine (m_dayGoes hF (lawR_X hL p2.MX) (tbM_X hM p2.MX) hO (dn_wf hW) p1).bnd (fun K hK => ?_)
    obtain ⟨k1, k2, k3⟩ := hK
    rw [p2 148 lv rfl] at k1
    rw [nk_succ]
    exact ih K ⟨k1, p2.trans k3⟩
  · intro m J hP
    show xOk (f_M_goes_2 F (m + 1) _ _ _) _
    rw [f_M_goes_2]
    exact xOk.pos (Int32.le_refl _) (xOk.pur hP)
/-! copies of a state -/
def agW (W W' : Nat → Int32) : Prop := ∀ a, a < 30 → W a = W' a
theorem wf_ag {T : XT} {W W' : Nat → Int32} (h : agW W W') (hW : wfW T W') : wfW T W := fun a ha => by rw [h a ha]; exact hW a ha
def scS (S o _j : Nat) : Bool := Nat.beq o S || Nat.beq o (S + 1)
theorem c_copy {A B : Nat} {I : XI} (hA : ¬ A + 1 = B ∧ ¬ A = B ∧ ¬ A = B + 1) : xOk (f_State_copyFrom A B I) (fun J => agW (J (A + 1)) (I (B + 1)) ∧ J A 1 = I B 1 ∧ J A 2 = I B 2 ∧ J A 3 = I B 3 ∧ Same (scS A) I J) := by
  unfold f_State_copyFrom
  refine xOk.ck (by decide) (xOk.st (xOk.st (xOk.st (xOk.st (xOk.pur ⟨?_, ?_, ?_, ?_, ?_⟩)))))
  · intro a ha
    rw [xput_neo (by omega), xput_neo (by omega), xput_neo (by omega), xrow_eq]
    show (if 0 ≤ a ∧ a < 0 + 30 then I (B + 1) (0 + (a - 0)) else I (A + 1) a) = _
    rw [if_pos ⟨by omega, by omega⟩, Nat.zero_add, Nat.sub_zero]
  · rw [xput_ne (by omega), xput_ne (by omega), xput_eq, xrow_ne (by omega)]
  · rw [xput_ne (by omega), xput_eq, xput_neo (by omega), xrow_ne (by omega)]
  · rw [xput_eq, xput_neo (by omega), xput_neo (by omega), xrow_ne (by omega)]
  · have h1 : ∀ j, scS A A j = true := fun j => by unfold scS; rw [Nat.beq_refl]; rfl
    have h2 : ∀ j, scS A (A + 1) j = true := fun j => by unfold scS; rw [Nat.beq_refl, Bool.or_true]
    exact (((Same.roww h2).put' (h1 _)).put' (h1 _)).put' (h1 _)
theorem scX_28 {o j : Nat} (h : scX o j = false) : scS 28 o j = false := by
  have := scX_H h
  unfold scH at this
  unfold scS
  simp only [Bool.or_eq_false_iff] at this ⊢
  exact ⟨this.1.1.1.2, this.1.1.2⟩
theorem scH_28 {o j : Nat} (h : scH o j = false) : scS 28 o j = false ∧ scD 28 o j = false := by
  unfold scH at h
  unfold scS scD scR
  simp only [Bool.or_eq_false_iff] at h ⊢
  exact ⟨⟨h.1.1.1.2, h.1.1.2⟩, ⟨⟨⟨h.1.1.1.1.1, h.1.1.1.1.2⟩, h.1.2⟩, h.1.1.1.2⟩, h.1.1.2⟩
/-- what the reference holds now -/
def nowM (W : Nat → Int32) (d pd tk : Int32) (I : XI) : Prop := rowE W 162 I ∧ I 162 30 = d ∧ I 162 31 = pd ∧ I 162 32 = tk
theorem m_copiesN {F : Nat} (hF : 4000000 ≤ F) {lv : Nat} {T : XT} {W : Nat → Int32} {d pd tk : Int32} {I : XI} (hM : tbM lv T I) (hN : nowM W d pd tk I) : xOk (f_M_copies F I) (fun J => Same scM I J ∧ rowS W d pd tk (I 149 lv) J) := by
  obtain ⟨h6, h7, h8, h9⟩ := hN
  unfold f_M_copies
  refine xloop 33 (fun n (J : XI) k => f_M_copies_2 F n (Int32.ofNat k) J) (fun k J => Same scM I J ∧ ∀ j, j < k → J 163 j = I 162 j) ?_ ?_ F I 0 (by omega) (by omega) ⟨Same.rfl, fun j hj => absurd hj (by omega)⟩
  · intro n J k hk hP ih
    obtain ⟨hs, hj⟩ := hP
    show xOk (f_M_copies_2 F (n + 1) _ _) _
    rw [f_M_copies_2]
    refine xOk.neg (nk_nge hk (by decide)) ?_
    rw [nk_in hk (by omega), nk_N (by omega), nk_succ]
    refine ih _ ⟨hs.put' rfl, ?_⟩
    intro j hj2
    rw [xput_at]
    by_cases e : j = k
    · rw [if_pos e, e]
      exact hs 162 k rfl
    · rw [if_neg e]
      exact hj j (by omega)
  · intro n J hP
    obtain ⟨hs, hj⟩ := hP
    show xOk (f_M_copies_2 F (n + 1) _ _) _
    rw [f_M_copies_2]
    refine xOk.pos (by decide) ?_
    have e18 : J 131 18 = Int32.ofNat lv := (hs 131 18 rfl).trans hM.1.2
    have hl := hM.1.1
    rw [e18, nk_in (by omega) (by omega), nk_N (by omega)]
    refine xOk.pur ⟨hs.put' rfl, ?_, ?_, ?_, ?_, ?_⟩
    · intro a ha
      rw [xput_neo (by decide)]
      rw [hj a (by omega)]
      exact h6 a ha
    · rw [xput_neo (by decide), hj 30 (by omega)]; exact h7
    · rw [xput_neo (by decide), hj 31 (by omega)]; exact h8
    · rw [xput_neo (by decide), hj 32 (by omega)]; exact h9
    · rw [xput_eq, hs 149 lv rfl]
theorem core_now {lv : Nat} {T : XT} {W W' : Nat → Int32} {I : XI} (h : core lv T W I) (e : agW W' W) : nowM W' (I 26 1) (I 26 2) (I 26 3) I := by
  obtain ⟨-, -, ⟨-, -, h6⟩, ⟨h7, h8, h9⟩, -⟩ := h
  exact ⟨fun a ha => by rw [h6 a ha, e a ha], h7, h8, h9⟩
theorem long_ex {n : Int32} (h : rng n 0 60 = true) : ∃ k, k ≤ 60 ∧ n = Int32.ofNat k := rng_ex (by omega) h
theorem m_isLong {n : Int32} : f_M_isLong n = some (b2 (rng n 0 60)) := by
  unfold f_M_isLong
  rw [m_in, Option.bind_some, b2_nar]
  rfl
/-! liesIn, taxIn -/
def qLiesIn (V : XV) (T : XT) (kn sd : Int32) (W : Nat → Int32) (d tk n : Int32) : Int32 := if rng n 0 60 = true then Int32.ofNat (cnt (lie (dn V T kn sd (xN n) (W, d, tk)).1) 30) else -1
theorem would_copy {F lv : Nat} {V : XV} {T : XT} {W : Nat → Int32} {I : XI} (hX : wfull F lv V T W I) : xOk (f_State_copyFrom 28 26 I) (fun J => agW (J 29) W ∧ wfW T (J 29) ∧ st3 28 (J 29, I 26 1, I 26 3) J ∧ J 28 2 = I 26 2 ∧ Same scH I J ∧ (lawR F lv V J ∧ tbC 17 T J)) := by
  obtain ⟨hC, hL⟩ := hX
  obtain ⟨-, ⟨hT, -⟩, ⟨h4, hW, -⟩, -, -⟩ := hC
  refine (c_copy (A := 28) (B := 26) (by omega)).mono (fun J hJ => ?_)
  obtain ⟨j1, j2, j3, j4, j5⟩ := hJ
  have ha : agW (J 29) W := fun a ha => by
    rw [← h4]
    exact j1 a ha
  have hs : Same scH I J := j5.mono (fun _ _ e => (scH_28 e).1)
  exact ⟨ha, wf_ag ha hW, ⟨rfl, j2, j4⟩, j3, hs, lawR_X hL hs.HX, tbC_X hT hs.HX⟩
theorem h_liesIn {F : Nat} (hF : 4000000 ≤ F) {lv : Nat} {V : XV} {T : XT} {W : Nat → Int32} {I : XI} (hX : wfull F lv V T W I) {n : Int32} : xOk (f_H_liesIn F n I) (fun r => (∃ W1, agW W1 W ∧ r.1 = qLiesIn V T (I 17 3) (I 17 4) W1 (I 26 1) (I 26 3) n) ∧ Same scH I r.2) := by
  have hO := hX.1.1.1
  unfold f_H_liesIn qLiesIn
  by_cases h1 : n < 0
  · rw [if_pos h1, rng_lo h1]
    exact xOk.pur ⟨⟨W, fun _ _ => rfl, rfl⟩, Same.rfl⟩
  · rw [if_neg h1]
    by_cases h2 : n ≤ 60
    · rw [if_pos h2, rng_in h1 h2]
      obtain ⟨k, hk, rfl⟩ := long_ex (rng_in h1 h2)
      refine (would_copy hX).bnd (fun J hJ => ?_)
      obtain ⟨j1, j2, j3, j4, j5, j6, j7⟩ := hJ
      refine (c_pass hF (Or.inr rfl) j6 j7 hO j2 j3 (by omega)).bnd (fun K hK => ?_)
      obtain ⟨k1, k2, k3⟩ := hK
      rw [j5 17 3 rfl, j5 17 4 rfl] at k1
      refine xOk.bnde (c_lying hF (S := 28) k1.1) (xOk.pur ⟨⟨J 29, j1, ?_⟩, j5.trans (k3.mono (fun _ _ e => (scH_28 e).2))⟩)
      rw [iTT, nk_N (by omega)]
    · rw [if_neg h2, rng_hi h2]
      exact xOk.pur ⟨⟨W, fun _ _ => rfl, rfl⟩, Same.rfl⟩
theorem m_liesIn {F : Nat} (hF : 4000000 ≤ F) {lv : Nat} {V : XV} {T : XT} {W W1 : Nat → Int32} {I : XI} (hX : wfull F lv V T W I) (hA : agW W1 W) {n : Int32} : xOk (f_M_liesIn F n I) (fun q => q.1 = qLiesIn V T (I 17 3) (I 17 4) W1 (I 26 1) (I 26 3) n ∧ Same scM I q.2) := by
  obtain ⟨hC, hL⟩ := hX
  have hN := core_now hC hA
  obtain ⟨⟨hO, -, -⟩, ⟨hT, hM⟩, ⟨h4, hW, h6⟩, -, h10, h11⟩ := hC
  have hW1 := wf_ag hA hW
  unfold f_M_liesIn qLiesIn
  refine xOk.bnde m_isLong ?_
  cases hr : rng n 0 60 with
  | false => exact xOk.pos rfl (xOk.pur ⟨rfl, Same.rfl⟩)
  | true =>
    obtain ⟨k, hk, rfl⟩ := long_ex hr
    refine xOk.neg (by decide) ?_
    refine (m_copiesN hF hM hN).bnd (fun J hJ => ?_)
    obtain ⟨j1, j2⟩ := hJ
    have hM' := tbM_X hM j1.MX
    refine (m_goes hF (s := (W1, I 26 1, I 26 3)) (lawR_X hL j1.MX) hM' hO hW1 j2 (by omega)).bnd (fun K hK => ?_)
    obtain ⟨k1, k2⟩ := hK
    rw [j1 148 lv rfl, h10, h11] at k1
    refine xOk.bnde (m_lying hF (tbM_X hM' k2.MX) hO (dn_wf hW1) k1.1) (xOk.pur ⟨?_, j1.trans k2⟩)
    rw [iTT, nk_N (by omega)]
noncomputable def qTaxIn (V : XV) (T : XT) (kn sd : Int32) (W : Nat → Int32) (d pd tk n : Int32) : Int32 := if rng n 0 60 = true then pn V T kn sd (xN n) (W, d, tk) pd - pd else -1
theorem h_taxIn {F : Nat} (hF : 4000000 ≤ F) {lv : Nat} {V : XV} {T : XT} {W : Nat → Int32} {I : XI} (hX : wfull F lv V T W I) {n : Int32} : xOk (f_H_taxIn F n I) (fun r => (∃ W1, agW W1 W ∧ r.1 = qTaxIn V T (I 17 3) (I 17 4) W1 (I 26 1) (I 26 2) (I 26 3) n) ∧ Same scH I r.2) := by
  have hO := hX.1.1.1
  unfold f_H_taxIn qTaxIn
  by_cases h1 : n < 0
  · rw [if_pos h1, rng_lo h1]
    exact xOk.pur ⟨⟨W, fun _ _ => rfl, rfl⟩, Same.rfl⟩
  · rw [if_neg h1]
    by_cases h2 : n ≤ 60
    · rw [if_pos h2, rng_in h1 h2]
      obtain ⟨k, hk, rfl⟩ := long_ex (rng_in h1 h2)
      refine (would_copy hX).bnd (fun J hJ => ?_)
      obtain ⟨j1, j2, j3, j4, j5, j6, j7⟩ := hJ
      refine (c_pass hF (Or.inr rfl) j6 j7 hO j2 j3 (by omega)).bnd (fun K hK => ?_)
      obtain ⟨k1, k2, k3⟩ := hK
      have ks : Same scH J K := k3.mono (fun _ _ e => (scH_28 e).2)
      rw [j5 17 3 rfl, j5 17 4 rfl, j4] at k2
      refine xOk.pur ⟨⟨J 29, j1, ?_⟩, j5.trans ks⟩
      rw [iTT, nk_N (by omega), ← k2]
      show K 28 2 - K 26 2 = _
      rw [ks 26 2 rfl, j5 26 2 rfl]
    · rw [if_neg h2, rng_hi h2]
      exact xOk.pur ⟨⟨W, fun _ _ => rfl, rfl⟩, Same.rfl⟩
theorem m_taxIn {F : Nat} (hF : 4000000 ≤ F) {lv : Nat} {V : XV} {T : XT} {W W1 : Nat → Int32} {I : XI} (hX : wfull F lv V T W I) (hA : agW W1 W) {n : Int32} : xOk (f_M_taxIn F n I) (fun q => q.1 = qTaxIn V T (I 17 3) (I 17 4) W1 (I 26 1) (I 26 2) (I 26 3) n ∧ Same scM I q.2) := by
  obtain ⟨hC, hL⟩ := hX
  have hN := core_now hC hA
  obtain ⟨⟨hO, -, -⟩, ⟨hT, hM⟩, ⟨h4, hW, h6⟩, ⟨h7, h8, h9⟩, h10, h11⟩ := hC
  have hW1 := wf_ag hA hW
  unfold f_M_taxIn qTaxIn
  refine xOk.bnde m_isLong ?_
  cases hr : rng n 0 60 with
  | false => exact xOk.pos rfl (xOk.pur ⟨rfl, Same.rfl⟩)
  | true =>
    obtain ⟨k, hk, rfl⟩ := long_ex hr
    refine xOk.neg (by decide) ?_
    refine (m_copiesN hF hM hN).bnd (fun J hJ => ?_)
    obtain ⟨j1, j2⟩ := hJ
    have hM' := tbM_X hM j1.MX
    refine (m_goes hF (s := (W1, I 26 1, I 26 3)) (lawR_X hL j1.MX) hM' hO hW1 j2 (by omega)).bnd (fun K hK => ?_)
    obtain ⟨k1, k2⟩ := hK
    rw [j1 148 lv rfl, h10, h11] at k1
    refine xOk.ck rfl (xOk.ck rfl (xOk.pur ⟨?_, j1.trans k2⟩))
    rw [iTT, nk_N (by omega)]
    show K 163 31 - K 162 31 = _
    rw [k1.2.2.1, k2 162 31 rfl, j1 162 31 rfl, h8]
/-! stays -/
def foS (o : Option Nat) : Int32 := match o with
  | none => -2
  | some k => Int32.ofNat (k + 1)
def gone (V : XV) (T : XT) (kn sd : Int32) (s : X3) (a k : Nat) : Bool := !lie (dn V T kn sd (k + 1) s).1 a
def qStays (V : XV) (T : XT) (kn sd : Int32) (W : Nat → Int32) (d tk x y : Int32) : Int32 := if inC T x y = true then (if lie W (6 * xN y + xN x) = true then foS (frst (gone V T kn sd (W, d, tk) (6 * xN y + xN x)) 200) else -2) else -1
theorem lie_ag {W W1 : Nat → Int32} (h : agW W1 W) {a : Nat} (ha : a < 30) : lie W1 a = lie W a := by
  unfold lie
  rw [h a ha]
theorem h_stays {F : Nat} (hF : 4000000 ≤ F) {lv : Nat} {V : XV} {T : XT} {W : Nat → Int32} {I : XI} (hX : wfull F lv V T W I) {x y : Int32} : xOk (f_H_stays F x y I) (fun r => (∃ W1, agW W1 W ∧ r.1 = qStays V T (I 17 3) (I 17 4) W1 (I 26 1) (I 26 3) x y) ∧ Same scH I r.2) := by
  have hO := hX.1.1.1
  have hT := hX.1.2.1.1
  have h4 := hX.1.2.2.1.1
  unfold f_H_stays qStays
  rcases cellCases hO x y with hc | ⟨a, ha, hi, hc, rfl, rfl⟩
  · refine xOk.bnde (c_cellAt_out hT hO hc) (xOk.pos rfl (xOk.pur ⟨⟨W, fun _ _ => rfl, ?_⟩, Same.rfl⟩))
    rw [hc, iFT]
  · refine xOk.bnde (c_cellAt_in hT hO ha hi) (xOk.neg (oi_nm1 ha) ?_)
    rw [hc, cell_N ha]
    refine (would_copy hX).bnd (fun J hJ => ?_)
    obtain ⟨j1, j2, j3, j4, j5, j6, j7⟩ := hJ
    refine xOk.bnde (c_lies ha) ?_
    rw [show J (26 + 1) = W from (j5.row 27 (fun _ => rfl)).trans h4]
    cases hl : lie W a with
    | false =>
      refine xOk.pos rfl (xOk.pur ⟨⟨J 29, j1, ?_⟩, j5⟩)
      rw [iTT, lie_ag j1 ha, hl, iFT]
    | true =>
      refine xOk.neg (by decide) ?_
      have key : xOk (f_Calendar_daysUntilTaken F 28 (Int32.ofNat a) J) (fun r => r.1 = foS (frst (gone V T (I 17 3) (I 17 4) (J 29, I 26 1, I 26 3) a) 200) ∧ Same scH J r.2) := by
        unfold f_Calendar_daysUntilTaken
        refine xloop 200 (fun m (K : XI) k => f_Calendar_daysUntilTaken_2 F 28 m (Int32.ofNat a) (Int32.ofNat (k + 1)) K) (fun k K => st3 28 (dn V T (I 17 3) (I 17 4) k (J 29, I 26 1, I 26 3)) K ∧ frst (gone V T (I 17 3) (I 17 4) (J 29, I 26 1, I 26 3) a) k = none ∧ Same (scD 28) J K) ?_ ?_ F J 0 (by omega) (by omega) ⟨j3, rfl, Same.rfl⟩
        · intro m K k hk hP ih
          obtain ⟨p1, p2, p3⟩ := hP
          show xOk (f_Calendar_daysUntilTaken_2 F 28 (m + 1) _ _ _) _
          rw [f_Calendar_daysUntilTaken_2]
          refine xOk.neg (show ¬ (200 : Int32) < Int32.ofNat (k + 1) from by rw [nl200]; exact nk_lt_f (by omega) (by omega)) ?_
          refine (c_endDay hF (Or.inr rfl) (lawR_D (Or.inr rfl) j6 p3) (tbC_D (Or.inr rfl) j7 p3) hO (dn_wf j2) p1).bnd (fun N hN => ?_)
          obtain ⟨n1, n2, n3⟩ := hN
          have e3 : K 17 3 = I 17 3 := (p3 17 3 rfl).trans (j5 17 3 rfl)
          have e4 : K 17 4 = I 17 4 := (p3 17 4 rfl).trans (j5 17 4 rfl)
          rw [e3, e4] at n1
          have n1' : st3 28 (dn V T (I 17 3) (I 17 4) (k + 1) (J 29, I 26 1, I 26 3)) N := n1
          refine xOk.bnde (c_lies ha) ?_
          rw [n1'.1]
          have hf := frst_none_succ p2
          cases hg : lie (dn V T (I 17 3) (I 17 4) (k + 1) (J 29, I 26 1, I 26 3)).1 a with
          | false =>
            have hgo : gone V T (I 17 3) (I 17 4) (J 29, I 26 1, I 26 3) a k = true := by
              unfold gone
              rw [hg]
              rfl
            rw [hgo, iTT] at hf
            refine xOk.pos rfl (xOk.pur ⟨?_, (p3.trans n3).mono (fun _ _ e => (scH_28 e).2)⟩)
            rw [frst_some hf (show k + 1 ≤ 200 by omega)]
            rfl
          | true =>
            have hgo : gone V T (I 17 3) (I 17 4) (J 29, I 26 1, I 26 3) a k = false := by
              unfold gone
              rw [hg]
              rfl
            rw [hgo, iFT] at hf
            refine xOk.neg (by decide) ?_
            rw [nk_succ]
            exact ih N ⟨n1', hf, p3.trans n3⟩
        · intro m K hP
          obtain ⟨p1, p2, p3⟩ := hP
          show xOk (f_Calendar_daysUntilTaken_2 F 28 (m + 1) _ _ _) _
          rw [f_Calendar_daysUntilTaken_2]
          refine xOk.pos (by decide) (xOk.pur ⟨?_, p3.mono (fun _ _ e => (scH_28 e).2)⟩)
          rw [p2]
          rfl
      refine key.bnd (fun r hr => xOk.pur ⟨⟨J 29, j1, ?_⟩, j5.trans hr.2⟩)
      rw [iTT, lie_ag j1 ha, hl, iTT]
      exact hr.1
theorem m_stays {F : Nat} (hF : 4000000 ≤ F) {lv : Nat} {V : XV} {T : XT} {W W1 : Nat → Int32} {I : XI} (hX : wfull F lv V T W I) (hA : agW W1 W) {x y : Int32} : xOk (f_M_stays F x y I) (fun q => q.1 = qStays V T (I 17 3) (I 17 4) W1 (I 26 1) (I 26 3) x y ∧ Same scM I q.2) := by
  obtain ⟨hC, hL⟩ := hX
  have hN := core_now hC hA
  obtain ⟨⟨hO, -, -⟩, ⟨hT, hM⟩, ⟨h4, hW, h6⟩, ⟨h7, h8, h9⟩, h10, h11⟩ := hC
  have hW1 := wf_ag hA hW
  unfold f_M_stays qStays
  refine xOk.bnde (m_isCell hM) ?_
  rcases cellCases hO x y with hc | ⟨a, ha, hi, hc, rfl, rfl⟩
  · rw [hc]
    exact xOk.pos rfl (xOk.pur ⟨rfl, Same.rfl⟩)
  · rw [hc, cell_N ha, iTT]
    refine xOk.neg (by decide) ?_
    refine (m_copiesN hF hM hN).bnd (fun J hJ => ?_)
    obtain ⟨j1, j2⟩ := hJ
    rw [h11] at j2
    refine xloop 200 (fun m (K : XI) k => f_M_stays_17 F m (Int32.ofNat (a % 6)) (Int32.ofNat (a / 6)) (Int32.ofNat (k + 1)) K) (fun k K => rw3 (dn V T (I 17 3) (I 17 4) k (W1, I 26 1, I 26 3)) (pn V T (I 17 3) (I 17 4) k (W1, I 26 1, I 26 3) (I 26 2)) (I 17 4) K ∧ (lie W1 a = true → frst (gone V T (I 17 3) (I 17 4) (W1, I 26 1, I 26 3) a) k = none) ∧ (0 < k → lie W1 a = true ∧ lie (dn V T (I 17 3) (I 17 4) k (W1, I 26 1, I 26 3)).1 a = true) ∧ Same scM I K) ?_ ?_ F J 0 (by omega) (by omega) ⟨j2, fun _ => rfl, fun h => absurd h (by omega), j1⟩
    · intro m K k hk hP ih
      obtain ⟨p1, p2, p3, p4⟩ := hP
      have hMK := tbM_X hM p4.MX
      show xOk (f_M_stays_17 F (m + 1) _ _ _ _) _
      rw [f_M_stays_17]
      refine xOk.neg (show ¬ (200 : Int32) < Int32.ofNat (k + 1) from by rw [nl200]; exact nk_lt_f (by omega) (by omega)) ?_
      rw [cell_ix]
      refine xOk.bnde (m_doesLie hO (dn_wf hW1) p1.1 ha) ?_
      cases hg0 : lie (dn V T (I 17 3) (I 17 4) k (W1, I 26 1, I 26 3)).1 a with
      | false =>
        refine xOk.pos rfl (xOk.pur ⟨?_, p4⟩)
        cases k with
        | zero =>
          have : lie W1 a = false := hg0
          rw [this, iFT]
        | succ k =>
          have := (p3 (by omega)).2
          rw [hg0] at this
          cases this
      | true =>
        have hl1 : lie W1 a = true := dn_lie_le (n := 0) ha (Nat.zero_le k) hg0
        rw [hl1, iTT]
        refine xOk.neg (by decide) ?_
        refine (m_dayGoes hF (lawR_X hL p4.MX) hMK hO (dn_wf hW1) p1).bnd (fun N hN => ?_)
        obtain ⟨n1, n2, n3⟩ := hN
        rw [p4 148 lv rfl, h10] at n1 n2
        refine xOk.ck (nk_in ha (by omega)) ?_
        rw [nk_N (by omega), n2 a ha]
        have hlie : lie (dn V T (I 17 3) (I 17 4) (k + 1) (W1, I 26 1, I 26 3)).1 a = !flB V T (I 17 3) (I 17 4) (dn V T (I 17 3) (I 17 4) k (W1, I 26 1, I 26 3)).1 (dn V T (I 17 3) (I 17 4) k (W1, I 26 1, I 26 3)).2.1 a := by
          show lie (dayW _ _ 30) a = _
          rw [dayW_lie ha, hg0, Bool.true_and]
        have hf := frst_none_succ (p2 hl1)
        cases hfl : flB V T (I 17 3) (I 17 4) (dn V T (I 17 3) (I 17 4) k (W1, I 26 1, I 26 3)).1 (dn V T (I 17 3) (I 17 4) k (W1, I 26 1, I 26 3)).2.1 a with
        | true =>
          rw [hfl] at hlie
          have hgo : gone V T (I 17 3) (I 17 4) (W1, I 26 1, I 26 3) a k = true := by
            unfold gone
            rw [hlie]
            rfl
          rw [hgo, iTT] at hf
          refine xOk.neg (by decide) (xOk.pur ⟨?_, p4.trans n3⟩)
          rw [frst_some hf (show k + 1 ≤ 200 by omega)]
          rfl
        | false =>
          rw [hfl] at hlie
          have hgo : gone V T (I 17 3) (I 17 4) (W1, I 26 1, I 26 3) a k = false := by
            unfold gone
            rw [hlie]
            rfl
          rw [hgo, iFT] at hf
          refine xOk.pos rfl ?_
          rw [nk_succ]
          have ih2 := ih N ⟨n1, fun _ => hf, fun _ => ⟨hl1, hlie⟩, p4.trans n3⟩
          rw [hl1, iTT] at ih2
          exact ih2
    · intro m K hP
      obtain ⟨p1, p2, p3, p4⟩ := hP
      show xOk (f_M_stays_17 F (m + 1) _ _ _ _) _
      rw [f_M_stays_17]
      have hl1 := (p3 (by omega)).1
      refine xOk.pos (by decide) (xOk.pur ⟨?_, p4⟩)
      rw [hl1, iTT, p2 hl1]
      rfl
/-! wetter -/
def fo0 (o : Option Nat) : Int32 := match o with
  | none => -2
  | some k => Int32.ofNat k
def qWetter (V : XV) (d : Int32) : Int32 := fo0 (frst (fun k => sWet V (d + Int32.ofNat k)) 201)
theorem h_wetter {F : Nat} (hF : 4000000 ≤ F) {lv : Nat} {V : XV} {T : XT} {W : Nat → Int32} {I : XI} (hX : wfull F lv V T W I) : xOk (f_H_wetter F I) (fun r => r.1 = qWetter V (I 26 1) ∧ Same scH I r.2) := by
  have hL := hX.2
  unfold f_H_wetter qWetter
  refine xloop 201 (fun m (K : XI) k => f_H_wetter_2 F m (Int32.ofNat k) K) (fun k K => frst (fun k => sWet V (I 26 1 + Int32.ofNat k)) k = none ∧ Same scR I K) ?_ ?_ F I 0 (by omega) (by omega) ⟨rfl, Same.rfl⟩
  · intro m K k hk hP ih
    obtain ⟨p1, p2⟩ := hP
    show xOk (f_H_wetter_2 F (m + 1) _ _) _
    rw [f_H_wetter_2]
    refine xOk.neg (show ¬ (200 : Int32) < Int32.ofNat k from by rw [nl200]; exact nk_lt_f (by omega) (by omega)) ?_
    refine (c_isWet hF (lawR_X hL p2.RX)).bnd (fun r hr => ?_)
    rw [hr.1, p2 26 1 rfl]
    have hf := frst_none_succ p1
    cases hw : sWet V (I 26 1 + Int32.ofNat k) with
    | true =>
      rw [hw, iTT] at hf
      refine xOk.neg (by decide) (xOk.pur ⟨?_, (p2.trans hr.2).RH⟩)
      rw [frst_some hf (show k + 1 ≤ 201 by omega)]
      rfl
    | false =>
      rw [hw, iFT] at hf
      refine xOk.pos rfl ?_
      rw [nk_succ]
      exact ih _ ⟨hf, p2.trans hr.2⟩
  · intro m K hP
    obtain ⟨p1, p2⟩ := hP
    show xOk (f_H_wetter_2 F (m + 1) _ _) _
    rw [f_H_wetter_2]
    refine xOk.pos (by decide) (xOk.pur ⟨?_, p2.RH⟩)
    rw [p1]
    rfl
theorem m_wetter {F : Nat} (hF : 4000000 ≤ F) {lv : Nat} {V : XV} {T : XT} {W : Nat → Int32} {I : XI} (hX : wfull F lv V T W I) : xOk (f_M_wetter F I) (fun q => q.1 = qWetter V (I 26 1) ∧ Same scM I q.2) := by
  obtain ⟨hC, hL⟩ := hX
  unfold f_M_wetter qWetter
  refine (m_copies hF hC).bnd (fun J hJ => ?_)
  obtain ⟨j1, j2⟩ := hJ
  refine xloop 201 (fun m (K : XI) k => f_M_wetter_6 F m (Int32.ofNat k) K) (fun k K => frst (fun k => sWet V (I 26 1 + Int32.ofNat k)) k = none ∧ K 163 30 = I 26 1 + Int32.ofNat k ∧ Same scM I K) ?_ ?_ F J 0 (by omega) (by omega) ⟨rfl, ?_, j1⟩
  · intro m K k hk hP ih
    obtain ⟨p1, p2, p3⟩ := hP
    show xOk (f_M_wetter_6 F (m + 1) _ _) _
    rw [f_M_wetter_6]
    refine xOk.neg (show ¬ (200 : Int32) < Int32.ofNat k from by rw [nl200]; exact nk_lt_f (by omega) (by omega)) ?_
    refine (m_isWet hF (lawR_X hL p3.MX)).bnd (fun r hr => ?_)
    rw [hr.1, p2]
    have hf := frst_none_succ p1
    cases hw : sWet V (I 26 1 + Int32.ofNat k) with
    | true =>
      rw [hw, iTT] at hf
      refine xOk.neg (by decide) (xOk.pur ⟨?_, p3.trans hr.2.QM⟩)
      rw [frst_some hf (show k + 1 ≤ 201 by omega)]
      rfl
    | false =>
      rw [hw, iFT] at hf
      refine xOk.pos rfl (xOk.ck rfl (xOk.ck rfl (xOk.st ?_)))
      rw [nk_succ]
      refine ih _ ⟨hf, ?_, (p3.trans hr.2.QM).put' rfl⟩
      rw [show xN 30 = 30 from rfl, xput_eq, hr.2 163 30 rfl, p2, Int32.add_assoc, nk_succ]
  · intro m K hP
    obtain ⟨p1, p2, p3⟩ := hP
    show xOk (f_M_wetter_6 F (m + 1) _ _) _
    rw [f_M_wetter_6]
    refine xOk.pos (by decide) (xOk.pur ⟨?_, p3⟩)
    rw [p1]
    rfl
  · rw [j2.2.1]
    show _ = _ + 0
    rw [Int32.add_zero]
/-! year -/
noncomputable def yrB (V : XV) (T : XT) (kn sd : Int32) (s : X3) (n a b k : Nat) : Bool := (lie (dn V T kn (sd + Int32.ofNat k) n s).1 a && lie (dn V T kn (sd + Int32.ofNat k) n s).1 b) && cB T (dn V T kn (sd + Int32.ofNat k) n s).1 (-1) a b
/-- one row of days beside another that starts alike below 30 -/
theorem dayW_ag {W W1 : Nat → Int32} {fl gl : Nat → Bool} (h : agW W1 W) (hf : ∀ a, a < 30 → fl a = gl a) : agW (dayW W1 fl 30) (dayW W gl 30) := by
  intro a ha
  unfold dayW
  rw [hf a ha, h a ha]
theorem nb_lie_ag {T : XT} {W W1 : Nat → Int32} (hO : tOk T) (h : agW W1 W) {a s : Nat} (ha : a < 30) (hs : s < 4) : lnk T W1 a s = lnk T W a s := by
  unfold lnk
  cases hn : nb T a s with
  | none => rfl
  | some b =>
    have hb := nb_lt hO ha s hs b hn
    show (lie W1 a && (lie W1 b && fit T W1 a s b)) = (lie W a && (lie W b && fit T W a s b))
    unfold fit
    rw [lie_ag h ha, lie_ag h hb, h a ha, h b hb]
theorem flB_ag {V : XV} {T : XT} {kn sd d : Int32} {W W1 : Nat → Int32} (hO : tOk T) (h : agW W1 W) {a : Nat} (ha : a < 30) : flB V T kn sd W1 d a = flB V T kn sd W d a := by
  unfold flB sFalls
  rw [lie_ag h ha, cnt_congr (fun s hs => nb_lie_ag hO h ha hs)]
theorem dn_ag {V : XV} {T : XT} {kn sd : Int32} {n : Nat} {s s1 : X3} (hO : tOk T) (h : agW s1.1 s.1) (hd : s1.2 = s.2) : agW (dn V T kn sd n s1).1 (dn V T kn sd n s).1 ∧ (dn V T kn sd n s1).2 = (dn V T kn sd n s).2 := by
  induction n with
  | zero => exact ⟨h, hd⟩
  | succ n ih =>
    obtain ⟨i1, i2⟩ := ih
    have hfl : ∀ a, a < 30 → flB V T kn sd (dn V T kn sd n s1).1 (dn V T kn sd n s1).2.1 a = flB V T kn sd (dn V T kn sd n s).1 (dn V T kn sd n s).2.1 a := fun a ha => by
      rw [flB_ag hO i1 ha, i2]
    refine ⟨dayW_ag i1 hfl, ?_⟩
    show ((dn V T kn sd n s1).2.1 + 1, (dn V T kn sd n s1).2.2 + Int32.ofNat (cnt _ 30)) = ((dn V T kn sd n s).2.1 + 1, (dn V T kn sd n s).2.2 + Int32.ofNat (cnt _ 30))
    rw [cnt_congr hfl, i2]
theorem jn_ag {T : XT} {W W1 : Nat → Int32} (hO : tOk T) (h : agW W1 W) {a b : Nat} (hj : jn T W1 (-1) a b) : jn T W (-1) a b := by
  obtain ⟨⟨h1, h2⟩, ⟨h3, h4⟩, s, h5, h6, h7⟩ := hj
  rw [lo_all] at h3 h4
  exact ⟨⟨h1, h2⟩, ⟨by rw [lo_all, ← lie_ag h h1]; exact h3, by rw [lo_all, ← lie_ag h h2]; exact h4⟩, s, h5, h6, by rw [← nb_lie_ag hO h h1 h5]; exact h7⟩
theorem con_ag {T : XT} {W W1 : Nat → Int32} (hO : tOk T) (h : agW W1 W) {a b : Nat} (hj : con T W1 (-1) a b) : con T W (-1) a b :=
  rS.closed (C := fun x => con T W (-1) a x) (fun _ _ hx hr => rS.step hx (jn_ag hO h hr)) rS.refl hj
theorem cB_ag {T : XT} {W W1 : Nat → Int32} (hO : tOk T) (h : agW W1 W) {a b : Nat} : cB T W1 (-1) a b = cB T W (-1) a b := by
  unfold cB
  by_cases e : con T W (-1) a b
  · rw [pB_t e, pB_t (con_ag hO (fun a ha => (h a ha).symm) e)]
  · rw [pB_f e, pB_f (fun e1 => e (con_ag hO h e1))]
theorem yrB_ag {V : XV} {T : XT} {kn sd : Int32} {s s1 : X3} (hO : tOk T) (h : agW s1.1 s.1) (hd : s1.2 = s.2) {n a b k : Nat} (ha : a < 30) (hb : b < 30) : yrB V T kn sd s1 n a b k = yrB V T kn sd s n a b k := by
  unfold yrB
  have hdn := (dn_ag (V := V) (kn := kn) (sd := sd + Int32.ofNat k) (n := n) hO h hd).1
  rw [lie_ag hdn ha, lie_ag hdn hb, cB_ag hO hdn]
noncomputable def qYear (V : XV) (T : XT) (kn sd : Int32) (s : X3) (x y x2 y2 n m : Int32) : Int32 := if inC T x y = true ∧ inC T x2 y2 = true ∧ rng n 0 60 = true ∧ rng m 1 20 = true then Int32.ofNat (cnt (yrB V T kn sd s (xN n) (6 * xN y + xN x) (6 * xN y2 + xN x2)) (xN m)) else -1
theorem seeds_ex {m : Int32} (h : rng m 1 20 = true) : ∃ k, k ≤ 20 ∧ m = Int32.ofNat k := by
  refine rng_ex (n := 20) (by omega) ?_
  unfold rng at h ⊢
  simp only [Bool.and_eq_true, decide_eq_true_eq] at h ⊢
  refine ⟨?_, h.2⟩
  rw [Int32.le_iff_toInt_le] at h ⊢
  have t0 : (0 : Int32).toInt = 0 := by decide
  have t1 : (1 : Int32).toInt = 1 := by decide
  omega
theorem c_joinedAfter {F : Nat} (hF : 4000000 ≤ F) {lv n a b : Nat} {V : XV} {T : XT} {s : X3} {sd : Int32} {I : XI} (hL : lawR F lv V I) (hT : tbC 17 T I) (hO : tOk T) (hW : wfW T s.1) (hI : st3 28 s I) (hn : n ≤ 1000) (ha : a < 30) (hb : b < 30) :
    xOk (f_Calendar_joinedAfter F 28 (Int32.ofNat a) (Int32.ofNat b) (Int32.ofNat n) sd I) (fun r => r.1 = b2 ((lie (dn V T (I 17 3) sd n s).1 a && lie (dn V T (I 17 3) sd n s).1 b) && cB T (dn V T (I 17 3) sd n s).1 (-1) a b) ∧ Same scH I r.2) := by
  unfold f_Calendar_joinedAfter
  have scDH : ∀ {J K : XI}, Same (scD 28) J K → Same scH J K := fun h => h.mono (fun _ _ e => (scH_28 e).2)
  -- one of both is gone at some day: the answer is no
  have stop : ∀ i K, i ≤ n → st3 28 (dn V T (I 17 3) sd i s) K → Same (scD 28) I K → (lie (dn V T (I 17 3) sd i s).1 a && lie (dn V T (I 17 3) sd i s).1 b) = false → xOk (f_Calendar_joinedAfter_39 F 28 (Int32.ofNat a) (Int32.ofNat b) K) (fun r => r.1 = b2 ((lie (dn V T (I 17 3) sd n s).1 a && lie (dn V T (I 17 3) sd n s).1 b) && cB T (dn V T (I 17 3) sd n s).1 (-1) a b) ∧ Same scH I r.2) := by
    intro i K hi hK hs hf
    have hend : (lie (dn V T (I 17 3) sd n s).1 a && lie (dn V T (I 17 3) sd n s).1 b) = false := by
      cases h : (lie (dn V T (I 17 3) sd n s).1 a && lie (dn V T (I 17 3) sd n s).1 b) with
      | false => rfl
      | true =>
        rw [Bool.and_eq_true] at h
        rw [dn_lie_le ha hi h.1, dn_lie_le hb hi h.2] at hf
        cases hf
    rw [hend, Bool.false_and]
    unfold f_Calendar_joinedAfter_39
    refine xOk.bnde (c_lies ha) ?_
    rw [hK.1]
    cases h1 : lie (dn V T (I 17 3) sd i s).1 a with
    | false => exact xOk.pos rfl (xOk.pur ⟨rfl, scDH hs⟩)
    | true =>
      refine xOk.neg (by decide) (xOk.bnde (c_lies hb) ?_)
      rw [hK.1]
      rw [h1, Bool.true_and] at hf
      rw [hf]
      exact xOk.pos rfl (xOk.pur ⟨rfl, scDH hs⟩)
  refine xloop n (fun m (K : XI) i => f_Calendar_joinedAfter_3 F 28 m (Int32.ofNat a) (Int32.ofNat b) (Int32.ofNat n) sd (Int32.ofNat i) K) (fun i K => st3 28 (dn V T (I 17 3) sd i s) K ∧ Same (scD 28) I K) ?_ ?_ F I 0 (by omega) (by omega) ⟨hI, Same.rfl⟩
  · intro m K i hi hP ih
    obtain ⟨p1, p2⟩ := hP
    show xOk (f_Calendar_joinedAfter_3 F 28 (m + 1) _ _ _ _ _ _) _
    rw [f_Calendar_joinedAfter_3]
    refine xOk.neg (nk_nge hi (by omega)) ?_
    refine xOk.bnde (c_lies ha) ?_
    rw [p1.1]
    cases h1 : lie (dn V T (I 17 3) sd i s).1 a with
    | false => exact xOk.pos rfl (stop i K (by omega) p1 p2 (by rw [h1, Bool.false_and]))
    | true =>
      refine xOk.neg (by decide) (xOk.bnde (c_lies hb) ?_)
      rw [p1.1]
      cases h2 : lie (dn V T (I 17 3) sd i s).1 b with
      | false => exact xOk.pos rfl (stop i K (by omega) p1 p2 (by rw [h2, Bool.and_false]))
      | true =>
        refine xOk.neg (by decide) ?_
        refine (c_endDay hF (Or.inr rfl) (lawR_D (Or.inr rfl) hL p2) (tbC_D (Or.inr rfl) hT p2) hO (dn_wf hW) p1).bnd (fun N hN => ?_)
        obtain ⟨n1, n2, n3⟩ := hN
        rw [p2 17 3 rfl] at n1
        rw [nk_succ]
        exact ih N ⟨n1, p2.trans n3⟩
  · intro m K hP
    obtain ⟨p1, p2⟩ := hP
    show xOk (f_Calendar_joinedAfter_3 F 28 (m + 1) _ _ _ _ _ _) _
    rw [f_Calendar_joinedAfter_3]
    refine xOk.pos (Int32.le_refl _) ?_
    cases hl : (lie (dn V T (I 17 3) sd n s).1 a && lie (dn V T (I 17 3) sd n s).1 b) with
    | false =>
      have := stop n K (Nat.le_refl n) p1 p2 hl
      rw [hl] at this
      exact this
    | true =>
      rw [Bool.and_eq_true] at hl
      unfold f_Calendar_joinedAfter_39
      refine xOk.bnde (c_lies ha) ?_
      rw [p1.1, hl.1]
      refine xOk.neg (by decide) (xOk.bnde (c_lies hb) ?_)
      rw [p1.1, hl.2]
      refine xOk.neg (by decide) ?_
      refine (c_group hF (tbC_D (Or.inr rfl) hT p2) hO (dn_wf hW) p1.1 (by decide) (l := -1) ha (by rw [lo_all]; exact hl.1)).bnd (fun r hr => ?_)
      obtain ⟨g, g1, g2, g3, g4⟩ := hr
      rw [g1, bit_get (by omega) (by omega)]
      have e : g.testBit b = cB T (dn V T (I 17 3) sd n s).1 (-1) a b := by
        unfold cB
        by_cases hc : con T (dn V T (I 17 3) sd n s).1 (-1) a b
        · rw [pB_t hc]; exact (g3 b hb).mpr hc
        · rw [pB_f hc]
          cases hb' : g.testBit b with
          | false => rfl
          | true => exact absurd ((g3 b hb).mp hb') hc
      rw [e, Bool.true_and]
      have e2 : ∀ q : Bool, (if b2 q = 1 then (1 : Int32) else 0) = b2 q := by decide
      rw [e2]
      exact xOk.ck b2_nar (xOk.pur ⟨rfl, (scDH p2).trans (g4.mono (fun _ _ e => sc31_H e))⟩)
theorem h_year {F : Nat} (hF : 4000000 ≤ F) {lv : Nat} {V : XV} {T : XT} {W : Nat → Int32} {I : XI} (hX : wfull F lv V T W I) {x y x2 y2 n m : Int32} : xOk (f_H_year F x y x2 y2 n m I) (fun r => r.1 = qYear V T (I 17 3) (I 17 4) (W, I 26 1, I 26 3) x y x2 y2 n m ∧ Same scH I r.2) := by
  have hO := hX.1.1.1
  have hT := hX.1.2.1.1
  unfold f_H_year qYear
  have out : ∀ (p : Prop) [Decidable p], ¬ p → (if p then Int32.ofNat (cnt (yrB V T (I 17 3) (I 17 4) (W, I 26 1, I 26 3) (xN n) (6 * xN y + xN x) (6 * xN y2 + xN x2)) (xN m)) else -1) = -1 := fun p _ h => if_neg h
  rcases cellCases hO x y with hc | ⟨a, ha, hi, hc, rfl, rfl⟩
  · rcases cellCases hO x2 y2 with hc2 | ⟨b, hb, hib, hc2, rfl, rfl⟩
    · refine xOk.bnde (c_cellAt_out hT hO hc) (xOk.bnde (c_cellAt_out hT hO hc2) (xOk.pos rfl (xOk.pur ⟨?_, Same.rfl⟩)))
      rw [out _ (by rw [hc]; intro h; cases h.1)]
    · refine xOk.bnde (c_cellAt_out hT hO hc) (xOk.bnde (c_cellAt_in hT hO hb hib) (xOk.pos rfl (xOk.pur ⟨?_, Same.rfl⟩)))
      rw [out _ (by rw [hc]; intro h; cases h.1)]
  · refine xOk.bnde (c_cellAt_in hT hO ha hi) ?_
    rcases cellCases hO x2 y2 with hc2 | ⟨b, hb, hib, hc2, rfl, rfl⟩
    · refine xOk.bnde (c_cellAt_out hT hO hc2) (xOk.neg (oi_nm1 ha) (xOk.pos rfl (xOk.pur ⟨?_, Same.rfl⟩)))
      rw [out _ (by rw [hc2]; intro h; cases h.2.1)]
    · refine xOk.bnde (c_cellAt_in hT hO hb hib) (xOk.neg (oi_nm1 ha) (xOk.neg (oi_nm1 hb) ?_))
      by_cases n1 : n < 0
      · refine xOk.pos n1 (xOk.pur ⟨?_, Same.rfl⟩)
        rw [out _ (by rw [rng_lo n1]; intro h; cases h.2.2.1)]
      refine xOk.neg n1 ?_
      by_cases n2 : 60 < n
      · refine xOk.pos n2 (xOk.pur ⟨?_, Same.rfl⟩)
        rw [out _ (by rw [rng_hi (Int32.not_le.mpr n2)]; intro h; cases h.2.2.1)]
      refine xOk.neg n2 ?_
      have hn := rng_in n1 (Int32.not_lt.mp n2)
      by_cases m1 : m < 1
      · refine xOk.pos m1 (xOk.pur ⟨?_, Same.rfl⟩)
        have : rng m 1 20 = false := by
          unfold rng
          rw [decide_eq_false (Int32.not_le.mpr m1), Bool.false_and]
        rw [out _ (by rw [this]; intro h; cases h.2.2.2)]
      refine xOk.neg m1 ?_
      by_cases m2 : m ≤ 20
      · refine xOk.pos m2 ?_
        have hm : rng m 1 20 = true := by
          unfold rng
          rw [decide_eq_true (Int32.not_lt.mp m1), decide_eq_true m2, Bool.true_and]
        obtain ⟨kn, hkn, rfl⟩ := long_ex hn
        obtain ⟨km, hkm, rfl⟩ := seeds_ex hm
        rw [if_pos ⟨hc, hc2, hn, hm⟩, cell_N ha, cell_N hb, nk_N (by omega), nk_N (by omega)]
        refine xloop km (fun j (s : Nat × XI) k => f_H_year_68 F j (Int32.ofNat kn) (Int32.ofNat km) (Int32.ofNat a) (Int32.ofNat b) (Int32.ofNat s.1) (Int32.ofNat k) s.2) (fun k s => s.1 = cnt (yrB V T (I 17 3) (I 17 4) (W, I 26 1, I 26 3) kn a b) k ∧ Same scH I s.2) ?_ ?_ F (0, I) 0 (by omega) (by omega) ⟨rfl, Same.rfl⟩
        · intro j s k hk hP ih
          obtain ⟨c, J⟩ := s
          obtain ⟨p1, p2⟩ : c = cnt (yrB V T (I 17 3) (I 17 4) (W, I 26 1, I 26 3) kn a b) k ∧ Same scH I J := hP
          show xOk (f_H_year_68 F (j + 1) (Int32.ofNat kn) (Int32.ofNat km) (Int32.ofNat a) (Int32.ofNat b) (Int32.ofNat c) (Int32.ofNat k) J) _
          rw [f_H_year_68]
          refine xOk.neg (nk_nge hk (by omega)) ?_
          refine (would_copy (wfull_X hX p2.HX)).bnd (fun K hK => ?_)
          obtain ⟨j1, j2, j3, j4, j5, j6, j7⟩ := hK
          rw [p2 26 1 rfl, p2 26 3 rfl] at j3
          have e4 : K 17 4 = I 17 4 := (j5 17 4 rfl).trans (p2 17 4 rfl)
          have e3 : K 17 3 = I 17 3 := (j5 17 3 rfl).trans (p2 17 3 rfl)
          rw [e4]
          refine (c_joinedAfter hF j6 j7 hO j2 j3 (n := kn) (by omega) ha hb).bnd (fun r hr => ?_)
          rw [hr.1, e3]
          have ey : ((lie (dn V T (I 17 3) (I 17 4 + Int32.ofNat k) kn (K 29, I 26 1, I 26 3)).1 a && lie (dn V T (I 17 3) (I 17 4 + Int32.ofNat k) kn (K 29, I 26 1, I 26 3)).1 b) && cB T (dn V T (I 17 3) (I 17 4 + Int32.ofNat k) kn (K 29, I 26 1, I 26 3)).1 (-1) a b) = yrB V T (I 17 3) (I 17 4) (W, I 26 1, I 26 3) kn a b k :=
            yrB_ag (s := (W, I 26 1, I 26 3)) (s1 := (K 29, I 26 1, I 26 3)) hO j1 rfl ha hb
          rw [ey, b2_inc, nk_succ]
          refine ih (_, r.2) ⟨?_, (p2.trans j5).trans hr.2⟩
          show c + _ = _
          rw [p1]
          rfl
        · intro j s hP
          obtain ⟨c, J⟩ := s
          obtain ⟨p1, p2⟩ : c = cnt (yrB V T (I 17 3) (I 17 4) (W, I 26 1, I 26 3) kn a b) km ∧ Same scH I J := hP
          show xOk (f_H_year_68 F (j + 1) (Int32.ofNat kn) (Int32.ofNat km) (Int32.ofNat a) (Int32.ofNat b) (Int32.ofNat c) (Int32.ofNat km) J) _
          rw [f_H_year_68]
          exact xOk.pos (Int32.le_refl _) (xOk.pur ⟨by rw [p1], p2⟩)
      · refine xOk.neg m2 (xOk.pur ⟨?_, Same.rfl⟩)
        have : rng m 1 20 = false := by
          unfold rng
          rw [decide_eq_false m2, Bool.and_false]
        rw [out _ (by rw [this]; intro h; cases h.2.2.2)]
theorem m_year {F : Nat} (hF : 4000000 ≤ F) {lv : Nat} {V : XV} {T : XT} {W : Nat → Int32} {I : XI} (hX : wfull F lv V T W I) {x y x2 y2 n m : Int32} : xOk (f_M_year F x y x2 y2 n m I) (fun q => q.1 = qYear V T (I 17 3) (I 17 4) (W, I 26 1, I 26 3) x y x2 y2 n m ∧ Same scM I q.2) := by
  have hX0 := hX
  obtain ⟨hC, hL⟩ := hX
  have hN := core_now hC (fun _ _ => rfl)
  obtain ⟨⟨hO, -, -⟩, ⟨hT, hM⟩, ⟨h4, hW, h6⟩, -, h10, h11⟩ := hC
  unfold f_M_year qYear
  have out : ∀ (p : Prop) [Decidable p], ¬ p → (if p then Int32.ofNat (cnt (yrB V T (I 17 3) (I 17 4) (W, I 26 1, I 26 3) (xN n) (6 * xN y + xN x) (6 * xN y2 + xN x2)) (xN m)) else -1) = -1 := fun p _ h => if_neg h
  refine xOk.bnde (m_isCell hM) ?_
  rcases cellCases hO x y with hc | ⟨a, ha, hi, hc, rfl, rfl⟩
  · rw [out _ (by rw [hc]; intro h; cases h.1), hc]
    exact xOk.pos rfl (xOk.pur ⟨rfl, Same.rfl⟩)
  rw [show b2 (inC T (Int32.ofNat (a % 6)) (Int32.ofNat (a / 6))) = b2 true by rw [hc]]
  refine xOk.neg (by decide) (xOk.bnde (m_isCell hM) ?_)
  rcases cellCases hO x2 y2 with hc2 | ⟨b, hb, hib, hc2, rfl, rfl⟩
  · rw [out _ (by rw [hc2]; intro h; cases h.2.1), hc2]
    exact xOk.pos rfl (xOk.pur ⟨rfl, Same.rfl⟩)
  rw [show b2 (inC T (Int32.ofNat (b % 6)) (Int32.ofNat (b / 6))) = b2 true by rw [hc2]]
  refine xOk.neg (by decide) (xOk.bnde m_isLong ?_)
  cases hn : rng n 0 60 with
  | false =>
    rw [out _ (by intro h; cases h.2.2.1)]
    exact xOk.pos rfl (xOk.pur ⟨rfl, Same.rfl⟩)
  | true =>
    refine xOk.neg (by decide) (xOk.bnde m_in ?_)
    rw [show (decide (1 ≤ m) && decide (m ≤ 20)) = rng m 1 20 from rfl]
    cases hm : rng m 1 20 with
    | false =>
      rw [out _ (by intro h; cases h.2.2.2)]
      exact xOk.pos rfl (xOk.pur ⟨rfl, Same.rfl⟩)
    | true =>
      refine xOk.neg (by decide) ?_
      obtain ⟨kn, hkn, rfl⟩ := long_ex hn
      obtain ⟨km, hkm, rfl⟩ := seeds_ex hm
      rw [if_pos ⟨hc, hc2, rfl, rfl⟩, cell_N ha, cell_N hb, nk_N (by omega), nk_N (by omega)]
      refine xloop km (fun j (s : Nat × XI) k => f_M_year_46 F j (Int32.ofNat (a % 6)) (Int32.ofNat (a / 6)) (Int32.ofNat (b % 6)) (Int32.ofNat (b / 6)) (Int32.ofNat kn) (Int32.ofNat km) (Int32.ofNat s.1) (Int32.ofNat k) s.2) (fun k s => s.1 = cnt (yrB V T (I 17 3) (I 17 4) (W, I 26 1, I 26 3) kn a b) k ∧ Same scM I s.2) ?_ ?_ F (0, I) 0 (by omega) (by omega) ⟨rfl, Same.rfl⟩
      · intro j s k hk hP ih
        obtain ⟨c, J⟩ := s
        obtain ⟨p1, p2⟩ : c = cnt (yrB V T (I 17 3) (I 17 4) (W, I 26 1, I 26 3) kn a b) k ∧ Same scM I J := hP
        have hXJ := wfull_X hX0 p2.MX
        have hNJ := core_now hXJ.1 (fun _ _ => rfl)
        have hMJ := hXJ.1.2.1.2
        show xOk (f_M_year_46 F (j + 1) (Int32.ofNat (a % 6)) (Int32.ofNat (a / 6)) (Int32.ofNat (b % 6)) (Int32.ofNat (b / 6)) (Int32.ofNat kn) (Int32.ofNat km) (Int32.ofNat c) (Int32.ofNat k) J) _
        rw [f_M_year_46]
        refine xOk.neg (nk_nge hk (by omega)) ?_
        refine (m_copiesN hF hMJ hNJ).bnd (fun K hK => xOk.st ?_)
        obtain ⟨k1, k2⟩ := hK
        have e149 : J 149 lv = I 17 4 := (p2 149 lv rfl).trans h11
        rw [e149, p2 26 1 rfl, p2 26 2 rfl, p2 26 3 rfl] at k2
        have ks := k1.put' (o := 131) (j := 50) (v := K 131 50 + Int32.ofNat k) rfl
        have kr : rw3 (W, I 26 1, I 26 3) (I 26 2) (I 17 4 + Int32.ofNat k) (xput K 131 50 (K 131 50 + Int32.ofNat k)) := by
          obtain ⟨x1, x2, x3, x4, x5⟩ := k2
          refine ⟨fun a ha => ?_, ?_, ?_, ?_, ?_⟩
          · rw [xput_neo (by omega)]; exact x1 a ha
          · rw [xput_neo (by omega)]; exact x2
          · rw [xput_neo (by omega)]; exact x3
          · rw [xput_neo (by omega)]; exact x4
          · rw [xput_eq, x5]
        refine (m_goes hF (lawR_X hXJ.2 ks.MX) (tbM_X hMJ ks.MX) hO hW kr (n := kn) (by omega)).bnd (fun N hN => ?_)
        obtain ⟨n1, n2⟩ := hN
        have e148 : xput K 131 50 (K 131 50 + Int32.ofNat k) 148 lv = I 17 3 := by
          rw [ks 148 lv rfl, p2 148 lv rfl]
          exact h10
        rw [e148] at n1
        have hwd := dn_wf (V := V) (T := T) (kn := I 17 3) (sd := I 17 4 + Int32.ofNat k) (n := kn) (s := (W, I 26 1, I 26 3)) hW
        have ns := ks.trans n2
        refine (m_fillsParts hF (tbM_X hMJ ns.MX) hO hwd n1.1 (l := -1)).bnd (fun P hP2 => ?_)
        obtain ⟨f, f1, f2, f3, f4⟩ := hP2
        have ps : Same scM I P := (p2.trans ns).trans (f4.mono (fun _ _ e => sc164_M e))
        rw [cell_ix, cell_ix]
        have exa : xN (Int32.ofNat a) = a := nk_N (by omega)
        have exb : xN (Int32.ofNat b) = b := nk_N (by omega)
        refine xOk.ck (nk_in ha (by omega)) ?_
        have ih2 := ih (cnt (yrB V T (I 17 3) (I 17 4) (W, I 26 1, I 26 3) kn a b) (k + 1), P) ⟨rfl, ps⟩
        simp only [cnt_succ] at ih2
        rw [← p1] at ih2
        simp only [exa, exb, f2 a ha, f2 b hb]
        have hfa : ∀ c, f a = some c → c < 30 := fun c hc => by have := (lbOk_lt f1.1 ha hc).1; omega
        have hyr : yrB V T (I 17 3) (I 17 4) (W, I 26 1, I 26 3) kn a b k = ((lie (dn V T (I 17 3) (I 17 4 + Int32.ofNat k) kn (W, I 26 1, I 26 3)).1 a && lie (dn V T (I 17 3) (I 17 4 + Int32.ofNat k) kn (W, I 26 1, I 26 3)).1 b) && cB T (dn V T (I 17 3) (I 17 4 + Int32.ofNat k) kn (W, I 26 1, I 26 3)).1 (-1) a b) := rfl
        rw [nk_succ]
        refine xOk.ite (fun h => ?_) (fun h => ?_)
        · rw [oi_neg hfa] at h
          have hla : lie (dn V T (I 17 3) (I 17 4 + Int32.ofNat k) kn (W, I 26 1, I 26 3)).1 a = false := by
            cases hl : lie (dn V T (I 17 3) (I 17 4 + Int32.ofNat k) kn (W, I 26 1, I 26 3)).1 a with
            | false => rfl
            | true =>
              obtain ⟨c', x1, _⟩ := (f1.1 a ha).2 (by rw [lo_all]; exact hl)
              rw [h] at x1
              cases x1
          rw [hyr, hla, Bool.false_and, Bool.false_and, iFT] at ih2
          exact ih2
        · rw [oi_neg hfa] at h
          have hla : lie (dn V T (I 17 3) (I 17 4 + Int32.ofNat k) kn (W, I 26 1, I 26 3)).1 a = true := by
            cases hl : lie (dn V T (I 17 3) (I 17 4 + Int32.ofNat k) kn (W, I 26 1, I 26 3)).1 a with
            | true => rfl
            | false => exact absurd ((f1.1 a ha).1 (by rw [lo_all]; exact hl)) h
          have hlo : lo T (dn V T (I 17 3) (I 17 4 + Int32.ofNat k) kn (W, I 26 1, I 26 3)).1 (-1) a = true := by rw [lo_all]; exact hla
          refine xOk.ck (nk_in ha (by omega)) (xOk.ck (nk_in hb (by omega)) ?_)
          have hcb := lab_con hO hwd f1 ha hb hlo
          by_cases e : oi (f a) = oi (f b)
          · have hcB : cB T (dn V T (I 17 3) (I 17 4 + Int32.ofNat k) kn (W, I 26 1, I 26 3)).1 (-1) a b = true := by
              rw [← hcb]
              exact decide_eq_true e.symm
            have hlb := (con_lt (pB_iff.mp hcB) ⟨ha, hlo⟩).2
            rw [lo_all] at hlb
            rw [hyr, hla, hlb, hcB] at ih2
            rw [if_pos e, nk_succ]
            exact ih2
          · have hcB : cB T (dn V T (I 17 3) (I 17 4 + Int32.ofNat k) kn (W, I 26 1, I 26 3)).1 (-1) a b = false := by
              rw [← hcb]
              exact decide_eq_false (fun h => e h.symm)
            rw [hyr, hcB, Bool.and_false, iFT] at ih2
            rw [if_neg e]
            exact ih2
      · intro j s hP
        obtain ⟨c, J⟩ := s
        obtain ⟨p1, p2⟩ : c = cnt (yrB V T (I 17 3) (I 17 4) (W, I 26 1, I 26 3) kn a b) km ∧ Same scM I J := hP
        show xOk (f_M_year_46 F (j + 1) (Int32.ofNat (a % 6)) (Int32.ofNat (a / 6)) (Int32.ofNat (b % 6)) (Int32.ofNat (b / 6)) (Int32.ofNat kn) (Int32.ofNat km) (Int32.ofNat c) (Int32.ofNat km) J) _
        rw [f_M_year_46]
        exact xOk.pos (Int32.le_refl _) (xOk.pur ⟨by rw [p1], p2⟩)
