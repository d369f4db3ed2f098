/-! both readers: the rows of the text, one after the other -/
def dN (sd : Nat) (I M : XI) : Prop := I 7 3 = M 148 sd ∧ I 7 4 = M 149 sd
/-- all that has been told -/
def TD (b : Nat → Int32) (n sd t : Nat) (I M : XI) (L : XL) : Prop := (txC b n I ∧ M 131 19 = Int32.ofNat sd) ∧ dW sd I M ∧ dK sd I M ∧ dP b n sd I M L ∧ dN sd I M ∧ dL sd t I M
def scRd (o _j : Nat) : Bool := Nat.ble 6 o && Nat.ble o 16
/-- what one row of the text leaves -/
def teQ (b : Nat → Int32) (n sd t : Nat) (L : XL) (I M : XI) (r : XI) (q : XI × XL) : Prop := (onlyL L q.2 ∧ Same scRd I r ∧ Same (scRM sd) M q.1) ∧ ∃ a, Rs b n q.2 a r q.1 ∧ ∀ t', a = Sum.inr t' → t < t' ∧ TD b n sd t' r q.1 q.2
theorem incC {S : Nat → Nat → Bool} {I J : XI} (h : Same S I J) (hS : ∀ o j, scRd o j = false → S o j = false) : Same scRd I J := h.mono hS
theorem rd_ne {o j k : Nat} (h : scRd o j = false) (hk : 6 ≤ k ∧ k ≤ 16) : Nat.beq o k = false := by
  cases e : Nat.beq o k with
  | false => rfl
  | true =>
    have := Nat.eq_of_beq_eq_true e
    subst this
    unfold scRd at h
    rw [Nat.ble_eq_true_of_le hk.1, Nat.ble_eq_true_of_le hk.2] at h
    cases h
theorem rd_6S {o j : Nat} (h : scRd o j = false) : sc6S o j = false := by
  unfold sc6S
  rw [rd_ne h (by omega)]
  rfl
theorem rd_6 {o j : Nat} (h : scRd o j = false) : sc6 o j = false := by
  unfold sc6
  rw [rd_ne h (by omega)]
  rfl
theorem rd_Kn {o j : Nat} (h : scRd o j = false) : scKn o j = false := by
  unfold scKn
  rw [rd_6S h, rd_ne (k := 6) h (by omega), rd_ne (k := 9) h (by omega)]
  rfl
theorem rd_Sn {o j : Nat} (h : scRd o j = false) : scSn o j = false := by
  unfold scSn
  rw [rd_6S h, rd_ne (k := 7) h (by omega), rd_ne (k := 10) h (by omega), rd_ne (k := 16) h (by omega)]
  rfl
theorem rd_Rn {o j : Nat} (h : scRd o j = false) : scRn o j = false := by
  unfold scRn
  rw [rd_6S h, rd_ne (k := 7) h (by omega), rd_ne (k := 8) h (by omega)]
  rfl
theorem rd_Lc {o j : Nat} (h : scRd o j = false) : scLc o j = false := by
  unfold scLc
  rw [rd_6 h, rd_ne (k := 11) h (by omega), rd_ne (k := 12) h (by omega), rd_ne (k := 13) h (by omega)]
  rfl
theorem rm_FS {sd o j : Nat} (h : scRM sd o j = false) : scFS o j = false := by
  unfold scRM at h
  unfold scFS
  cases h1 : Nat.beq o 131 with
  | false => rfl
  | true =>
    rw [h1] at h
    have h := (Bool.or_eq_false_iff.mp h).1
    simp only [Bool.or_eq_false_iff, Bool.true_and] at h ⊢
    exact ⟨h.1, h.2.2.1, h.2.2.2.1, h.2.2.2.2.1, h.2.2.2.2.2.1⟩
theorem rm_and {sd o j : Nat} {A : Bool} (h : scRM sd o j = false) : (scFS o j || (A && scRM sd o j)) = false := by
  rw [rm_FS h, h, Bool.and_false]
  rfl
theorem rm_Lm {sd o j : Nat} (h : scRM sd o j = false) : scLm sd o j = false := by
  unfold scLm
  have h3 : scF3 o j = false := by
    have h2 := rm_FS h
    unfold scFS at h2
    unfold scF3
    cases h1 : Nat.beq o 131 with
    | false => rfl
    | true =>
      rw [h1] at h2
      simp only [Bool.or_eq_false_iff, Bool.true_and] at h2 ⊢
      exact ⟨⟨h2.1, h2.2.1⟩, h2.2.2.1⟩
  have h4 : (Nat.beq o 131 && (Nat.beq j 12 || (Nat.beq j 34 || (Nat.beq j 40 || Nat.beq j 44)))) = false := by
    unfold scRM at h
    cases h1 : Nat.beq o 131 with
    | false => rfl
    | true =>
      rw [h1] at h
      have h := (Bool.or_eq_false_iff.mp h).1
      simp only [Bool.or_eq_false_iff, Bool.true_and] at h ⊢
      exact ⟨h.2.1, h.2.2.2.2.2.2.2.1, h.2.2.2.2.2.2.2.2.1, h.2.2.2.2.2.2.2.2.2⟩
  have h5 : Nat.beq o 159 = false := by
    unfold scRM at h
    simp only [Bool.or_eq_false_iff] at h
    exact h.2.2.2.2.2.2.2.2.2
  rw [h3, h4, h5, h, Bool.and_false]
  rfl
theorem teQ_bad {b : Nat → Int32} {n sd t : Nat} {L : XL} {I M r q : XI} {e : Nat × Nat} (h1 : bd b n e r) (h2 : bm b n e q) (s1 : Same scRd I r) (s2 : Same (scRM sd) M q) : teQ b n sd t L I M r (q, L) :=
  ⟨⟨fun _ _ => rfl, s1, s2⟩, Sum.inl e, ⟨⟨h1, h2⟩, fun t' ht' => by cases ht'⟩, fun t' ht' => by cases ht'⟩
noncomputable def clsOth (κ : Int32) (I : XI) : Option XI :=
  if κ = 107 then (f_Reader_readOneNumber κ 100 I).bind fun q => some (xput q.2 7 3 q.1) else if κ = 108 then (f_Reader_readOneNumber κ 9999 I).bind fun q => some (xput q.2 7 4 q.1) else f_Reader_fail 1 I
noncomputable def clsTell (F : Nat) (κ : Int32) (I : XI) : Option XI :=
  if κ = 100 then f_Reader_readRow F I else if κ = 101 then f_Reader_readKnob I else if κ = 102 then f_Reader_readSpare F I else if κ < 103 then clsOth κ I else if 106 < κ then clsOth κ I else f_Reader_readLaw F κ I
theorem c_step {F m v : Nat} {b : Nat → Int32} {n t : Nat} {I : XI} (h : gd b n t I) (h0 : ¬ kd b n t = 0) (hv : v ≤ 400) : f_Reader_readText_44 F (m + 1) (Int32.ofNat v) I = (clsTell F (Int32.ofNat (kd b n t)) I).bind fun q => f_Reader_readText_44 F m (Int32.ofNat v + 1) q := by
  have hk := kd_lt b n t
  rw [f_Reader_readText_44, if_neg (show ¬ (400 : Int32) < Int32.ofNat v from nk_lt_f (a := 400) hv (by omega)), if_pos h.2.1.2, gd_kind h]
  show (if Int32.ofNat (kd b n t) = 0 then _ else _) = _
  rw [if_neg (show ¬ Int32.ofNat (kd b n t) = 0 by rw [show (0 : Int32) = Int32.ofNat 0 from rfl, nk_eq (by omega) (by omega)]; exact h0)]
  have oth : f_Reader_readText_129 F (fun v1 I => f_Reader_readText_44 F m v1 I) (Int32.ofNat v) (Int32.ofNat (kd b n t)) I = (clsOth (Int32.ofNat (kd b n t)) I).bind fun q => f_Reader_readText_44 F m (Int32.ofNat v + 1) q := by
    unfold f_Reader_readText_129 clsOth
    split
    · cases f_Reader_readOneNumber (Int32.ofNat (kd b n t)) 100 I <;> rfl
    · split
      · cases f_Reader_readOneNumber (Int32.ofNat (kd b n t)) 9999 I <;> rfl
      · rfl
  show (if Int32.ofNat (kd b n t) = 100 then _ else _) = _
  unfold clsTell
  split
  · rfl
  · split
    · rfl
    · split
      · rfl
      · split
        · exact oth
        · split
          · exact oth
          · rfl
theorem pr_tell {F : Nat} (hF : 4000000 ≤ F) {b : Nat → Int32} {n t sd : Nat} {L : XL} {I M : XI} (hn : n ≤ 2000) (hsd : sd < 2) (h : Rs b n L (Sum.inr t) I M) (hD : TD b n sd t I M L) (h0 : ¬ kd b n t = 0) : pr (clsTell F (Int32.ofNat (kd b n t)) I) (f_M_tellOne F M L) (teQ b n sd t L I M) := by
  obtain ⟨⟨hT, h19⟩, dw, dk, dp, ⟨dn3, dn4⟩, dl⟩ := hD
  have hk := kd_lt b n t
  have ht : t ≤ 400 := h.1.1.1.1
  have h134 : M 134 (xN (M 131 11)) = Int32.ofNat (mk (kd b n t)) := by
    rw [h.1.2.2.1.1, nk_N (by omega)]
    exact ((h.1.2.2.2 t h.1.2.1).1).1
  have hin : xin (M 131 11) 403 = true := by rw [h.1.2.2.1.1]; exact nk_in (by omega) (by omega)
  have hin2 : xin (M 131 19) 2 = true := by rw [h19]; exact nk_in hsd (by omega)
  have hN19 : xN (M 131 19) = sd := by rw [h19]; exact nk_N (by omega)
  have bad : kd b n t < 100 ∨ 108 < kd b n t → pr (f_Reader_fail 1 I) (f_M_tellOne F M L) (teQ b n sd t L I M) := by
    intro hr
    have hm : mk (kd b n t) < 20 ∨ 28 < mk (kd b n t) := by
      have key : ∀ k, k < 121 → okk k = true → k < 100 ∨ 108 < k → mk k < 20 ∨ 28 < mk k := by decide +kernel
      exact key _ hk (kdT_ok b n (plc b n t)).1 hr
    have hm121 := mk_lt hk
    have h233 : ∀ v, pr (f_Reader_fail 1 I) (f_M_tellOne_233 F (fun v1 I L => f_M_tellOne_238 F v1 I L) v M L) (teQ b n sd t L I M) := by
      intro v
      unfold f_M_tellOne_233
      refine pr.rb (gm_fail (k := 1) h.1.2 (Or.inl rfl)) (fun K hK => ?_)
      show pr _ (f_M_tellOne_238 F v K L) _
      unfold f_M_tellOne_238
      refine pr.rneg (bm_v hK.1).2.1 ?_
      refine pr.xx (gd_fail (k := 1) h.1.1 (Or.inl rfl)) (xOk.of rfl (Eq.refl (K, L))) (fun r q hr hq => ?_)
      rw [← hq]
      exact teQ_bad hr.1 hK.1 (hr.2.mono (fun _ _ e => rd_6 e)) (hK.2.FS.mono (fun _ _ e => rm_FS e))
    unfold f_M_tellOne
    rw [h134]
    have hlt : (Int32.ofNat (mk (kd b n t)) < 20 ∨ 28 < Int32.ofNat (mk (kd b n t))) := by
      rcases hm with hm | hm
      · exact Or.inl (nk_lt_t (b := 20) hm (by omega))
      · exact Or.inr (nk_lt_t (a := 28) hm (by omega))
    refine pr.rck hin (pr.rpos hlt (pr.rck hin ?_))
    by_cases c : Int32.ofNat (mk (kd b n t)) - 23 < 0
    · exact pr.rpos c (h233 _)
    · refine pr.rneg c (pr.rck hin (pr.rneg ?_ (h233 _)))
      rcases hm with hm | hm
      · exfalso
        have : Int32.ofNat (mk (kd b n t)) - 23 < 0 := by
          have key : ∀ k, k < 20 → Int32.ofNat k - 23 < 0 := by decide
          exact key _ hm
        exact c this
      · exact nk_nge (k := 26) (by omega) (by omega)
  have hlaw : ∀ k, k < 4 → kd b n t = 103 + k → pr (clsTell F (Int32.ofNat (kd b n t)) I) (f_M_tellOne F M L) (teQ b n sd t L I M) := by
    intro k hk4 hkd
    have hpr := pr_law hF hsd hk4 h hkd h19 dl
    have hcls : clsTell F (Int32.ofNat (kd b n t)) I = f_Reader_readLaw F (Int32.ofNat (103 + k)) I := by
      unfold clsTell
      rw [hkd]
      have hk4' : k = 0 ∨ k = 1 ∨ k = 2 ∨ k = 3 := by omega
      rcases hk4' with rfl | rfl | rfl | rfl
      · rw [if_neg (by decide), if_neg (by decide), if_neg (by decide), if_neg (by decide), if_neg (by decide)]
      · rw [if_neg (by decide), if_neg (by decide), if_neg (by decide), if_neg (by decide), if_neg (by decide)]
      · rw [if_neg (by decide), if_neg (by decide), if_neg (by decide), if_neg (by decide), if_neg (by decide)]
      · rw [if_neg (by decide), if_neg (by decide), if_neg (by decide), if_neg (by decide), if_neg (by decide)]
    have hone : f_M_tellOne F M L = f_M_tellOne_238 F (Int32.ofNat k) M L := by
      unfold f_M_tellOne
      rw [h134, hkd, xck_true hin]
      have hk4' : k = 0 ∨ k = 1 ∨ k = 2 ∨ k = 3 := by omega
      rcases hk4' with rfl | rfl | rfl | rfl
      · rw [if_neg (by decide), if_neg (by decide), if_neg (by decide), if_neg (by decide), if_pos (by decide), xck_true hin, if_neg (by decide), xck_true hin, if_pos (by decide)]
        rfl
      · rw [if_neg (by decide), if_neg (by decide), if_neg (by decide), if_neg (by decide), if_neg (by decide), if_pos (by decide), xck_true hin, if_neg (by decide), xck_true hin, if_pos (by decide)]
        rfl
      · rw [if_neg (by decide), if_neg (by decide), if_neg (by decide), if_neg (by decide), if_neg (by decide), if_neg (by decide), if_pos (by decide), xck_true hin, if_neg (by decide), xck_true hin, if_pos (by decide)]
        rfl
      · rw [if_neg (by decide), if_neg (by decide), if_neg (by decide), if_neg (by decide), if_neg (by decide), if_neg (by decide), if_neg (by decide), if_pos (by decide), xck_true hin, if_neg (by decide), xck_true hin, if_pos (by decide)]
        rfl
    rw [hcls, hone]
    refine hpr.mono (fun r q hq => ?_)
    obtain ⟨⟨eL, a, hR, hd⟩, s1, s2⟩ := hq
    refine ⟨⟨fun _ _ => by rw [eL], s1.mono (fun _ _ e => rd_Lc e), s2.mono (fun _ _ e => rm_Lm e)⟩, a, by rw [eL]; exact hR, fun t' ht' => ?_⟩
    obtain ⟨d1, d2⟩ := hd t' ht'
    refine ⟨d1, ⟨txC_same hT (s1 1 1 rfl) (s1.row 2 (fun _ => rfl)), (s2 131 19 rfl).trans h19⟩, dW_same dw (s1 7 0 rfl) (s1 7 1 rfl) (s1.row 8 (fun _ => rfl)) (fun e => (s1 6 5 rfl).symm.trans e) (s2 140 sd rfl) (s2 141 sd rfl) (s2.row 142 (fun _ => rfl)), dK_same dk (s1 6 7 rfl) (s1 6 8 rfl) (s1.row 9 (fun _ => rfl)) (s2 144 sd rfl) (s2.row 145 (fun _ => rfl)) (s2.row 143 (fun _ => rfl)), ?_, ⟨(s1 7 3 rfl).trans (dn3.trans (s2 148 sd rfl).symm), (s1 7 4 rfl).trans (dn4.trans (s2 149 sd rfl).symm)⟩, d2⟩
    rw [eL]
    exact dP_same dp (s1 7 2 rfl) (s1.row 10 (fun _ => rfl)) (s1.row 16 (fun _ => rfl)) (s2 146 sd rfl) (s2 131 20 rfl) (s2.row 147 (fun _ => rfl))
  -- a number
  have hnum : ∀ w m f O, (w = 107 ∧ m = 100 ∧ f = 3 ∧ O = 148) ∨ (w = 108 ∧ m = 9999 ∧ f = 4 ∧ O = 149) → kd b n t = w → pr (clsTell F (Int32.ofNat (kd b n t)) I) (f_M_tellOne F M L) (teQ b n sd t L I M) := by
    intro w m f O hw hkd
    have hpr := pr_one (O := O) (m := m) hn hsd h hkd (by omega) (by omega) h19 (by omega)
    have hcls : clsTell F (Int32.ofNat (kd b n t)) I = (f_Reader_readOneNumber (Int32.ofNat w) (Int32.ofNat m) I).bind fun q => some (xput q.2 7 f q.1) := by
      unfold clsTell clsOth
      rw [hkd]
      rcases hw with ⟨rfl, rfl, rfl, rfl⟩ | ⟨rfl, rfl, rfl, rfl⟩
      · rw [if_neg (by decide), if_neg (by decide), if_neg (by decide), if_neg (by decide), if_pos (by decide), if_pos (by decide)]
        rfl
      · rw [if_neg (by decide), if_neg (by decide), if_neg (by decide), if_neg (by decide), if_pos (by decide), if_neg (by decide), if_pos (by decide)]
        rfl
    have hone : f_M_tellOne F M L = (f_M_goesOn M).bind fun q46 => (f_M_bounded 0 (Int32.ofNat m) q46).bind fun q47 => xck (xin (q46 131 19) 2) (xst (xput q47.2 O (xN (q46 131 19)) q47.1) fun I49 => (f_M_must 4 I49).bind fun q50 => some (q50, L)) := by
      unfold f_M_tellOne
      rw [h134, hkd, xck_true hin]
      rcases hw with ⟨rfl, rfl, rfl, rfl⟩ | ⟨rfl, rfl, rfl, rfl⟩
      · rw [if_neg (by decide), if_neg (by decide), if_neg (by decide), if_neg (by decide), if_neg (by decide), if_neg (by decide), if_neg (by decide), if_neg (by decide), if_pos (by decide)]
        rfl
      · rw [if_neg (by decide), if_neg (by decide), if_neg (by decide), if_neg (by decide), if_neg (by decide), if_neg (by decide), if_neg (by decide), if_neg (by decide), if_neg (by decide), if_pos (by decide)]
        rfl
    rw [hcls, hone]
    obtain ⟨r, q, ⟨e1, e2⟩, ⟨eL, a, hR, hd⟩, s1, s2⟩ := hpr
    have e1 : f_Reader_readOneNumber (Int32.ofNat w) (Int32.ofNat m) I = some r := e1
    refine pr.mk' (r := xput r.2 7 f r.1) (by rw [e1]; rfl) e2 ?_
    have p7 : Same scRd r.2 (xput r.2 7 f r.1) := Same.put (by unfold scRd; rfl)
    have e7o : ∀ o, ¬ o = 7 → xput r.2 7 f r.1 o = r.2 o := fun o ho => xput_neo ho
    have e7j : ∀ j, ¬ j = f → xput r.2 7 f r.1 7 j = r.2 7 j := fun j hj => by rw [xput_at, if_neg hj]
    have s1' : Same scRd I (xput r.2 7 f r.1) := (s1.1.mono (fun _ _ e => rd_6S e)).trans p7
    refine ⟨⟨fun _ _ => by rw [eL], s1', s2.mono (fun _ _ e => rm_and e)⟩, a, ?_, fun t' ht' => ?_⟩
    · rw [eL]
      obtain ⟨k1, k2⟩ := hR
      cases a with
      | inl e => exact ⟨⟨bd_row6 k1.1 (e7o 6 (by omega)), k1.2⟩, fun t ht => by cases ht⟩
      | inr t1 => exact ⟨⟨⟨k1.1.1, ⟨by rw [e7o 6 (by omega)]; exact k1.1.2.1.1, by rw [e7o 6 (by omega)]; exact k1.1.2.1.2⟩, tkC_same k1.1.2.2 (e7o 3 (by omega)) (e7o 4 (by omega)) (e7o 5 (by omega))⟩, k1.2⟩, fun t' ht' => SLr_same (k2 t' ht') (by rw [e7o 6 (by omega)]) (by rw [e7o 6 (by omega)]) rfl rfl⟩
    · obtain ⟨d1, d2⟩ := hd t' ht'
      have x : ∀ o, ¬ o = 6 → ¬ o = 7 → xput r.2 7 f r.1 o = I o := fun o h6 h7 => by
        rw [e7o o h7]
        refine s1.1.row o (fun j => ?_)
        unfold sc6S
        rw [beqf h6]
        rfl
      have x7 : ∀ j, ¬ j = f → xput r.2 7 f r.1 7 j = I 7 j := fun j hj => (e7j j hj).trans (s1.1 7 j rfl)
      have y : ∀ o, ¬ o = 131 → ¬ o = O → q.1 o = M o := fun o h1 h2 => s2.row o (fun j => by
        unfold scOm scFS
        rw [beqf h1, beqf h2]
        rfl)
      have hO : O = 148 ∨ O = 149 := by omega
      have y131 : ∀ j, scFS 131 j = false → q.1 131 j = M 131 j := fun j hj => s2 131 j (by
        show (scFS 131 j || _) = false
        rw [hj]
        rcases hO with rfl | rfl <;> rfl)
      have x65 : xput r.2 7 f r.1 6 5 = 0 → I 6 5 = 0 := fun e => s1.2 (by rw [← e7o 6 (by omega)]; exact e)
      refine ⟨d1, ⟨txC_same hT (by rw [x 1 (by omega) (by omega)]) (x 2 (by omega) (by omega)), (y131 19 rfl).trans h19⟩, dW_same dw (x7 0 (by omega)) (x7 1 (by omega)) (x 8 (by omega) (by omega)) x65 (by rw [y 140 (by omega) (by omega)]) (by rw [y 141 (by omega) (by omega)]) (y 142 (by omega) (by omega)), dK_same dk (by rw [e7o 6 (by omega)]; exact s1.1 6 7 rfl) (by rw [e7o 6 (by omega)]; exact s1.1 6 8 rfl) (x 9 (by omega) (by omega)) (by rw [y 144 (by omega) (by omega)]) (y 145 (by omega) (by omega)) (y 143 (by omega) (by omega)), ?_, ?_, dL_same dl (by omega) (by rw [x 11 (by omega) (by omega)]) (x 12 (by omega) (by omega)) (x 13 (by omega) (by omega)) (y131 40 rfl) (y131 34 rfl) (y131 12 rfl) (fun o o1 o2 => y o (by omega) (by omega))⟩
      · rw [eL]
        exact dP_same dp (x7 2 (by omega)) (x 10 (by omega) (by omega)) (x 16 (by omega) (by omega)) (by rw [y 146 (by omega) (by omega)]) (y131 20 rfl) (y 147 (by omega) (by omega))
      · rcases hw with ⟨rfl, rfl, rfl, rfl⟩ | ⟨rfl, rfl, rfl, rfl⟩
        · exact ⟨by rw [xput_eq]; exact d2, (x7 4 (by omega)).trans (dn4.trans (by rw [y 149 (by omega) (by omega)]))⟩
        · exact ⟨(x7 3 (by omega)).trans (dn3.trans (by rw [y 148 (by omega) (by omega)])), by rw [xput_eq]; exact d2⟩
  by_cases c0 : kd b n t = 100
  · have hpr := pr_row hF hn hsd hT h c0 h19 dw
    have hcls : clsTell F (Int32.ofNat (kd b n t)) I = f_Reader_readRow F I := by
      unfold clsTell
      rw [c0, if_pos (by decide)]
    have hone : f_M_tellOne F M L = (f_M_roomFor (M 141 sd) 5 M).bind fun q12 => if (q12 131 13) = 0 then ((f_M_tellRow F L q12).bind fun q14 => some (q14, L)) else (some (q12, L)) := by
      unfold f_M_tellOne
      rw [h134, c0, xck_true hin, if_neg (by decide), if_pos (by decide), xck_true hin2, hN19]
    rw [hcls, hone]
    refine hpr.mono (fun r q hq => ?_)
    obtain ⟨⟨eL, a, hR, hd⟩, ⟨s1, s1'⟩, s2⟩ := hq
    refine ⟨⟨fun _ _ => by rw [eL], s1.mono (fun _ _ e => rd_Rn e), s2.mono (fun _ _ e => rm_and e)⟩, a, by rw [eL]; exact hR, fun t' ht' => ?_⟩
    obtain ⟨d1, d2⟩ := hd t' ht'
    refine ⟨d1, ⟨txC_same hT (s1 1 1 rfl) (s1.row 2 (fun _ => rfl)), (s2 131 19 rfl).trans h19⟩, d2, dK_same dk (s1 6 7 rfl) (s1 6 8 rfl) (s1.row 9 (fun _ => rfl)) (s2 144 sd rfl) (s2.row 145 (fun _ => rfl)) (s2.row 143 (fun _ => rfl)), ?_, ⟨(s1 7 3 rfl).trans (dn3.trans (s2 148 sd rfl).symm), (s1 7 4 rfl).trans (dn4.trans (s2 149 sd rfl).symm)⟩, dL_same dl (by omega) (s1 11 1 rfl) (s1.row 12 (fun _ => rfl)) (s1.row 13 (fun _ => rfl)) (s2 131 40 rfl) (s2 131 34 rfl) (s2 131 12 rfl) (fun o o1 o2 => s2.row o (fun j => ?_))⟩
    · rw [eL]
      exact dP_same dp (s1 7 2 rfl) (s1.row 10 (fun _ => rfl)) (s1.row 16 (fun _ => rfl)) (s2 146 sd rfl) (s2 131 20 rfl) (s2.row 147 (fun _ => rfl))
    · unfold scRw scFS
      rw [beqf (show ¬ o = 131 by omega), beqf (show ¬ o = 140 by omega), beqf (show ¬ o = 141 by omega), beqf (show ¬ o = 142 by omega)]
      rfl
  by_cases c1 : kd b n t = 101
  · have hpr := pr_knob hn hsd h c1 h19 dk
    have hcls : clsTell F (Int32.ofNat (kd b n t)) I = f_Reader_readKnob I := by
      unfold clsTell
      rw [c1, if_neg (by decide), if_pos (by decide)]
    have hone : f_M_tellOne F M L = (f_M_roomFor (M 144 sd) 40 M).bind fun q17 => if (q17 131 13) = 0 then ((f_M_tellKnob q17).bind fun q19 => some (q19, L)) else (some (q17, L)) := by
      unfold f_M_tellOne
      rw [h134, c1, xck_true hin, if_neg (by decide), if_neg (by decide), if_pos (by decide), xck_true hin2, hN19]
    rw [hcls, hone]
    refine hpr.mono (fun r q hq => ?_)
    obtain ⟨⟨eL, a, hR, hd⟩, ⟨s1, s1'⟩, s2⟩ := hq
    refine ⟨⟨fun _ _ => by rw [eL], s1.mono (fun _ _ e => rd_Kn e), s2.mono (fun _ _ e => rm_and e)⟩, a, by rw [eL]; exact hR, fun t' ht' => ?_⟩
    obtain ⟨d1, d2⟩ := hd t' ht'
    refine ⟨d1, ⟨txC_same hT (s1 1 1 rfl) (s1.row 2 (fun _ => rfl)), (s2 131 19 rfl).trans h19⟩, dW_same dw (s1 7 0 rfl) (s1 7 1 rfl) (s1.row 8 (fun _ => rfl)) s1' (s2 140 sd rfl) (s2 141 sd rfl) (s2.row 142 (fun _ => rfl)), d2, ?_, ⟨(s1 7 3 rfl).trans (dn3.trans (s2 148 sd rfl).symm), (s1 7 4 rfl).trans (dn4.trans (s2 149 sd rfl).symm)⟩, dL_same dl (by omega) (s1 11 1 rfl) (s1.row 12 (fun _ => rfl)) (s1.row 13 (fun _ => rfl)) (s2 131 40 rfl) (s2 131 34 rfl) (s2 131 12 rfl) (fun o o1 o2 => s2.row o (fun j => ?_))⟩
    · rw [eL]
      exact dP_same dp (s1 7 2 rfl) (s1.row 10 (fun _ => rfl)) (s1.row 16 (fun _ => rfl)) (s2 146 sd rfl) (s2 131 20 rfl) (s2.row 147 (fun _ => rfl))
    · unfold scKm scFS
      rw [beqf (show ¬ o = 131 by omega), beqf (show ¬ o = 143 by omega), beqf (show ¬ o = 144 by omega), beqf (show ¬ o = 145 by omega)]
      rfl
  by_cases c2 : kd b n t = 102
  · have hpr := pr_spare hF hn hsd hT h c2 h19 dp
    have hcls : clsTell F (Int32.ofNat (kd b n t)) I = f_Reader_readSpare F I := by
      unfold clsTell
      rw [c2, if_neg (by decide), if_neg (by decide), if_pos (by decide)]
    have hone : f_M_tellOne F M L = (f_M_roomFor (M 146 sd) 5 M).bind fun q22 => if (q22 131 13) = 0 then ((f_M_tellSpare F q22 L).bind fun q24 => some (q24.1, q24.2)) else (some (q22, L)) := by
      unfold f_M_tellOne
      rw [h134, c2, xck_true hin, if_neg (by decide), if_neg (by decide), if_neg (by decide), if_pos (by decide), xck_true hin2, hN19]
    rw [hcls, hone]
    refine hpr.mono (fun r q hq => ?_)
    obtain ⟨⟨oL, a, hR, hd⟩, ⟨s1, s1'⟩, s2⟩ := hq
    refine ⟨⟨oL, s1.mono (fun _ _ e => rd_Sn e), s2.mono (fun _ _ e => rm_and e)⟩, a, hR, fun t' ht' => ?_⟩
    obtain ⟨d1, d2⟩ := hd t' ht'
    refine ⟨d1, ⟨txC_same hT (s1 1 1 rfl) (s1.row 2 (fun _ => rfl)), (s2 131 19 rfl).trans h19⟩, dW_same dw (s1 7 0 rfl) (s1 7 1 rfl) (s1.row 8 (fun _ => rfl)) s1' (s2 140 sd rfl) (s2 141 sd rfl) (s2.row 142 (fun _ => rfl)), dK_same dk (s1 6 7 rfl) (s1 6 8 rfl) (s1.row 9 (fun _ => rfl)) (s2 144 sd rfl) (s2.row 145 (fun _ => rfl)) (s2.row 143 (fun _ => rfl)), d2, ⟨(s1 7 3 rfl).trans (dn3.trans (s2 148 sd rfl).symm), (s1 7 4 rfl).trans (dn4.trans (s2 149 sd rfl).symm)⟩, dL_same dl (by omega) (s1 11 1 rfl) (s1.row 12 (fun _ => rfl)) (s1.row 13 (fun _ => rfl)) (s2 131 40 rfl) (s2 131 34 rfl) (s2 131 12 rfl) (fun o o1 o2 => s2.row o (fun j => ?_))⟩
    unfold scSm scFS
    rw [beqf (show ¬ o = 131 by omega), beqf (show ¬ o = 146 by omega), beqf (show ¬ o = 147 by omega)]
    rfl
  by_cases c3 : 103 ≤ kd b n t ∧ kd b n t ≤ 106
  · exact hlaw (kd b n t - 103) (by omega) (by omega)
  by_cases c7 : kd b n t = 107
  · exact hnum 107 100 3 148 (Or.inl ⟨rfl, rfl, rfl, rfl⟩) c7
  by_cases c8 : kd b n t = 108
  · exact hnum 108 9999 4 149 (Or.inr ⟨rfl, rfl, rfl, rfl⟩) c8
  have hcls : clsTell F (Int32.ofNat (kd b n t)) I = f_Reader_fail 1 I := by
    have ne : ∀ c, c < 200 → ¬ kd b n t = c → ¬ Int32.ofNat (kd b n t) = Int32.ofNat c := fun c hc h => by rw [nk_eq (by omega) (by omega)]; exact h
    have hoth : clsOth (Int32.ofNat (kd b n t)) I = f_Reader_fail 1 I := by
      unfold clsOth
      rw [if_neg (show ¬ Int32.ofNat (kd b n t) = 107 from ne 107 (by omega) c7), if_neg (show ¬ Int32.ofNat (kd b n t) = 108 from ne 108 (by omega) c8)]
    unfold clsTell
    rw [if_neg (show ¬ Int32.ofNat (kd b n t) = 100 from ne 100 (by omega) c0), if_neg (show ¬ Int32.ofNat (kd b n t) = 101 from ne 101 (by omega) c1), if_neg (show ¬ Int32.ofNat (kd b n t) = 102 from ne 102 (by omega) c2)]
    by_cases c : kd b n t < 103
    · rw [if_pos (show Int32.ofNat (kd b n t) < 103 from nk_lt_t (b := 103) c (by omega))]; exact hoth
    · rw [if_neg (show ¬ Int32.ofNat (kd b n t) < 103 from nk_lt_f (b := 103) (by omega) (by omega)), if_pos (show (106 : Int32) < Int32.ofNat (kd b n t) from nk_lt_t (a := 106) (by omega) (by omega))]; exact hoth
  rw [hcls]
  exact bad (by omega)
