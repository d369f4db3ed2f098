/-! both readers: the start of the text -/
theorem c_setC {I : XI} {k sz : Nat} {w : Int32} (hk : k < 4) (h : I 11 1 = Int32.ofNat sz) (hs : sz + 2 ≤ 420) : f_Laws_setConstant 11 (Int32.ofNat k) w I = some (xput (xput (xput (xput (xput I 13 k (Int32.ofNat sz)) 12 sz w) 11 1 (Int32.ofNat (sz + 1))) 12 (sz + 1) 20000) 11 1 (Int32.ofNat (sz + 2))) := by
  refine xOk.eq ?_
  unfold f_Laws_setConstant
  refine xOk.ck (nk_in hk (by omega)) (xOk.st ?_)
  rw [nk_N (show k < 2147483648 by omega), h]
  refine xOk.bnde (c_emit (sz := sz) (by show xput I 13 k _ 11 1 = _; rw [xput_neo (by omega)]; exact h) (by omega)) ?_
  refine xOk.bnde (c_emit (sz := sz + 1) xput_eq (by omega)) (xOk.pur rfl)
def lw0 (j : Nat) : Int32 := match j with
  | 0 => 1
  | 1 => 20000
  | 2 => 10006
  | 3 => 20000
  | 4 => 1
  | 5 => 20000
  | 6 => 50
  | _ => 20000
theorem c_lawsClear {I : XI} : xOk (f_Laws_clear 11 I) (fun J => J 11 1 = 8 ∧ (∀ j, j < 8 → J 12 j = lw0 j) ∧ (∀ k, k < 4 → J 13 k = Int32.ofNat (2 * k)) ∧ ∀ o, ¬ o = 11 → ¬ o = 12 → ¬ o = 13 → J o = I o) := by
  unfold f_Laws_clear
  refine xOk.st ?_
  refine xOk.bnde (c_setC (k := 0) (sz := 0) (by omega) xput_eq (by omega)) ?_
  refine xOk.bnde (c_setC (k := 1) (sz := 2) (by omega) xput_eq (by omega)) ?_
  refine xOk.bnde (c_setC (k := 2) (sz := 4) (by omega) xput_eq (by omega)) ?_
  refine xOk.bnde (c_setC (k := 3) (sz := 6) (by omega) xput_eq (by omega)) (xOk.pur ⟨xput_eq, ?_, ?_, ?_⟩)
  · have h12 : ∀ (X : XI) (a j : Nat) (v : Int32), xput X 12 a v 12 j = if j = a then v else X 12 j := fun _ _ _ _ => xput_at
    have h11 : ∀ (X : XI) (v : Int32) (j : Nat), xput X 11 1 v 12 j = X 12 j := fun X v j => by rw [xput_neo (by omega)]
    have h13 : ∀ (X : XI) (a : Nat) (v : Int32) (j : Nat), xput X 13 a v 12 j = X 12 j := fun X a v j => by rw [xput_neo (by omega)]
    intro j hj
    rw [h11, h12, h11, h12, h13, h11, h12, h11, h12, h13, h11, h12, h11, h12, h13, h11, h12, h11, h12]
    have : j = 0 ∨ j = 1 ∨ j = 2 ∨ j = 3 ∨ j = 4 ∨ j = 5 ∨ j = 6 ∨ j = 7 := by omega
    rcases this with rfl | rfl | rfl | rfl | rfl | rfl | rfl | rfl <;> rfl
  · have h13 : ∀ (X : XI) (a j : Nat) (v : Int32), xput X 13 a v 13 j = if j = a then v else X 13 j := fun _ _ _ _ => xput_at
    have h11 : ∀ (X : XI) (v : Int32) (j : Nat), xput X 11 1 v 13 j = X 13 j := fun X v j => by rw [xput_neo (by omega)]
    have h12 : ∀ (X : XI) (a : Nat) (v : Int32) (j : Nat), xput X 12 a v 13 j = X 13 j := fun X a v j => by rw [xput_neo (by omega)]
    intro j hj
    rw [h11, h12, h11, h12, h13, h11, h12, h11, h12, h13, h11, h12, h11, h12, h13, h11, h12, h11, h12, h13]
    have : j = 0 ∨ j = 1 ∨ j = 2 ∨ j = 3 := by omega
    rcases this with rfl | rfl | rfl | rfl <;> rfl
  · intro o h1 h2 h3
    rw [xput_neo h1, xput_neo h2, xput_neo h1, xput_neo h2, xput_neo h3, xput_neo h1, xput_neo h2, xput_neo h1, xput_neo h2, xput_neo h3, xput_neo h1, xput_neo h2, xput_neo h1, xput_neo h2, xput_neo h3, xput_neo h1, xput_neo h2, xput_neo h1, xput_neo h2, xput_neo h3, xput_neo h1]
/-- the class's draft, empty -/
def emC (I J : XI) : Prop := (∀ j, j < 5 → J 7 j = 0) ∧ (∀ j, j < 120 → J 9 j = 0) ∧ (J 11 1 = 8 ∧ (∀ j, j < 8 → J 12 j = lw0 j) ∧ ∀ k, k < 4 → J 13 k = Int32.ofNat (2 * k)) ∧ ∀ o, ¬ (o = 7 ∨ o = 9 ∨ o = 11 ∨ o = 12 ∨ o = 13) → J o = I o
theorem c_clear {F : Nat} (hF : 4000000 ≤ F) {I : XI} : xOk (f_Table_clear F 7 I) (emC I) := by
  unfold f_Table_clear
  refine xOk.st (xOk.st (xOk.st (xOk.st (xOk.st ?_))))
  refine (c_fill hF (A := 7 + 2) (n := 120) (v := 0) (by omega)).bnd (fun K hK => ?_)
  refine (c_lawsClear (I := K)).bnd (fun J hJ => xOk.pur ?_)
  obtain ⟨k1, k2⟩ := hK
  obtain ⟨j1, j2, j3, j4⟩ := hJ
  have kr : ∀ o, ¬ o = 9 → K o = xput (xput (xput (xput (xput I 7 0 0) 7 1 0) 7 2 0) 7 3 0) 7 4 0 o := fun o ho => k1.row o (fun _ => beqf ho)
  refine ⟨fun j hj => ?_, fun j hj => ?_, ⟨j1, j2, j3⟩, fun o ho => ?_⟩
  · rw [j4 7 (by omega) (by omega) (by omega), kr 7 (by omega)]
    have h7 : ∀ (X : XI) (a j : Nat) (v : Int32), xput X 7 a v 7 j = if j = a then v else X 7 j := fun _ _ _ _ => xput_at
    rw [h7, h7, h7, h7, h7]
    have : j = 0 ∨ j = 1 ∨ j = 2 ∨ j = 3 ∨ j = 4 := by omega
    rcases this with rfl | rfl | rfl | rfl | rfl <;> rfl
  · rw [j4 9 (by omega) (by omega) (by omega)]
    exact k2 j hj
  · rw [j4 o (by omega) (by omega) (by omega), kr o (by omega), xput_neo (by omega), xput_neo (by omega), xput_neo (by omega), xput_neo (by omega), xput_neo (by omega)]
/-- the reference's half, empty -/
def emM (sd : Nat) (I J : XI) : Prop := (J 140 sd = 0 ∧ J 141 sd = 0 ∧ J 144 sd = 0 ∧ J 146 sd = 0 ∧ J 148 sd = 0 ∧ J 149 sd = 0) ∧ (∀ j, j < 120 → J 143 (120 * sd + j) = 0) ∧ (∀ k, k < 4 → J 150 (4 * sd + k) = 0 ∧ J 151 (4 * sd + k) = 0) ∧ Same (scRM sd) I J
theorem rm_sd {sd o : Nat} (h : o = 140 ∨ o = 141 ∨ o = 144 ∨ o = 146 ∨ o = 148 ∨ o = 149) : scRM sd o sd = true := by
  rcases h with rfl | rfl | rfl | rfl | rfl | rfl
  · have : scRM sd 140 sd = (Nat.beq sd sd || false) := rfl
    rw [this, Nat.beq_refl]; rfl
  · have : scRM sd 141 sd = (Nat.beq sd sd || false) := rfl
    rw [this, Nat.beq_refl]; rfl
  · have : scRM sd 144 sd = (Nat.beq sd sd || false) := rfl
    rw [this, Nat.beq_refl]; rfl
  · have : scRM sd 146 sd = (Nat.beq sd sd || false) := rfl
    rw [this, Nat.beq_refl]; rfl
  · have : scRM sd 148 sd = (Nat.beq sd sd || false) := rfl
    rw [this, Nat.beq_refl]; rfl
  · have : scRM sd 149 sd = (Nat.beq sd sd || false) := rfl
    rw [this, Nat.beq_refl]; rfl
theorem rm_143 {sd j : Nat} (h : j < 120) : scRM sd 143 (120 * sd + j) = true := by
  have : scRM sd 143 (120 * sd + j) = (rg (120 * sd) 120 (120 * sd + j) || false) := rfl
  rw [this, rg_in h]
  rfl
theorem rm_150 {sd o k : Nat} (h : k < 4) (ho : o = 150 ∨ o = 151) : scRM sd o (4 * sd + k) = true := by
  rcases ho with rfl | rfl
  · have : scRM sd 150 (4 * sd + k) = (rg (4 * sd) 4 (4 * sd + k) || false) := rfl
    rw [this, rg_in h]; rfl
  · have : scRM sd 151 (4 * sd + k) = (rg (4 * sd) 4 (4 * sd + k) || false) := rfl
    rw [this, rg_in h]; rfl
theorem m_plain {F : Nat} (hF : 4000000 ≤ F) {sd : Nat} (hsd : sd < 2) {I : XI} : xOk (f_M_plain F (Int32.ofNat sd) I) (fun J => emM sd I J ∧ J 131 = I 131) := by
  unfold f_M_plain
  have i2 : xin (Int32.ofNat sd) 2 = true := nk_in hsd (by omega)
  rw [nk_N (show sd < 2147483648 by omega)]
  refine xOk.ck i2 (xOk.st (xOk.ck i2 (xOk.st (xOk.ck i2 (xOk.st (xOk.ck i2 (xOk.st (xOk.ck i2 (xOk.st (xOk.ck i2 (xOk.st ?_)))))))))))
  have hs : Same (scRM sd) I (xput (xput (xput (xput (xput (xput I 140 sd 0) 141 sd 0) 144 sd 0) 146 sd 0) 148 sd 0) 149 sd 0) := (((((Same.put (rm_sd (by omega))).put' (rm_sd (by omega))).put' (rm_sd (by omega))).put' (rm_sd (by omega))).put' (rm_sd (by omega))).put' (rm_sd (by omega))
  have hv : ∀ o, (o = 140 ∨ o = 141 ∨ o = 144 ∨ o = 146 ∨ o = 148 ∨ o = 149) → xput (xput (xput (xput (xput (xput I 140 sd 0) 141 sd 0) 144 sd 0) 146 sd 0) 148 sd 0) 149 sd 0 o sd = 0 := by
    intro o ho
    rcases ho with rfl | rfl | rfl | rfl | rfl | rfl
    · rw [xput_neo (by omega), xput_neo (by omega), xput_neo (by omega), xput_neo (by omega), xput_neo (by omega), xput_eq]
    · rw [xput_neo (by omega), xput_neo (by omega), xput_neo (by omega), xput_neo (by omega), xput_eq]
    · rw [xput_neo (by omega), xput_neo (by omega), xput_neo (by omega), xput_eq]
    · rw [xput_neo (by omega), xput_neo (by omega), xput_eq]
    · rw [xput_neo (by omega), xput_eq]
    · rw [xput_eq]
  have hX131 : xput (xput (xput (xput (xput (xput I 140 sd 0) 141 sd 0) 144 sd 0) 146 sd 0) 148 sd 0) 149 sd 0 131 = I 131 := by
    rw [xput_neo (by omega), xput_neo (by omega), xput_neo (by omega), xput_neo (by omega), xput_neo (by omega), xput_neo (by omega)]
  generalize xput (xput (xput (xput (xput (xput I 140 sd 0) 141 sd 0) 144 sd 0) 146 sd 0) 148 sd 0) 149 sd 0 = X at hs hv hX131 ⊢
  refine xloop 120 (fun m (K : XI) j => f_M_plain_44 F m (Int32.ofNat sd) (Int32.ofNat j) K) (fun j K => (∀ i, i < j → K 143 (120 * sd + i) = 0) ∧ (∀ o, ¬ o = 143 → K o = X o) ∧ Same (scRM sd) I K) ?_ ?_ F X 0 (by omega) (by omega) ⟨fun i hi => absurd hi (Nat.not_lt_zero i), fun _ _ => rfl, hs⟩
  · rintro m K j hj ⟨h1, h2, h3⟩ ih
    show xOk (f_M_plain_44 F (m + 1) (Int32.ofNat sd) (Int32.ofNat j) K) _
    rw [f_M_plain_44, nk_succ, show (120 : Int32) = Int32.ofNat 120 from rfl, nk_mul, nk_add]
    refine xOk.neg (nk_nge hj (by omega)) (xOk.ck (nk_in (by omega) (by omega)) (xOk.st (ih _ ⟨fun i hi => ?_, fun o ho => ?_, ?_⟩)))
    · rw [nk_N (by omega), xput_at]
      by_cases e : i = j
      · rw [if_pos (by rw [e])]
      · rw [if_neg (by omega)]; exact h1 i (by omega)
    · rw [xput_neo ho]; exact h2 o ho
    · rw [nk_N (by omega)]; exact h3.put' (rm_143 hj)
  · rintro m K ⟨h1, h2, h3⟩
    show xOk (f_M_plain_44 F (m + 1) (Int32.ofNat sd) (Int32.ofNat 120) K) _
    rw [f_M_plain_44]
    refine xOk.pos (by decide) ?_
    refine xloop 4 (fun m (J : XI) k => f_M_plain_70 F m (Int32.ofNat sd) (Int32.ofNat k) J) (fun k J => (∀ i, i < k → J 150 (4 * sd + i) = 0 ∧ J 151 (4 * sd + i) = 0) ∧ (∀ o, ¬ o = 150 → ¬ o = 151 → J o = K o) ∧ Same (scRM sd) I J) ?_ ?_ F K 0 (by omega) (by omega) ⟨fun i hi => absurd hi (Nat.not_lt_zero i), fun _ _ _ => rfl, h3⟩
    · rintro m J k hk ⟨g1, g2, g3⟩ ih
      show xOk (f_M_plain_70 F (m + 1) (Int32.ofNat sd) (Int32.ofNat k) J) _
      rw [f_M_plain_70, nk_succ, show (4 : Int32) = Int32.ofNat 4 from rfl, nk_mul, nk_add]
      refine xOk.neg (nk_nge hk (by omega)) (xOk.ck (nk_in (by omega) (by omega)) (xOk.st (xOk.ck (nk_in (by omega) (by omega)) (xOk.st (ih _ ⟨fun i hi => ?_, fun o h1 h2 => ?_, ?_⟩)))))
      · rw [nk_N (by omega), xput_neo (show ¬ 150 = 151 by omega), xput_at, xput_at, xput_neo (show ¬ 151 = 150 by omega)]
        by_cases e : i = k
        · rw [if_pos (by rw [e]), if_pos (by rw [e])]; exact ⟨rfl, rfl⟩
        · rw [if_neg (by omega), if_neg (by omega)]; exact g1 i (by omega)
      · rw [xput_neo h2, xput_neo h1]; exact g2 o h1 h2
      · rw [nk_N (by omega)]; exact (g3.put' (rm_150 hk (Or.inl rfl))).put' (rm_150 hk (Or.inr rfl))
    · rintro m J ⟨g1, g2, g3⟩
      show xOk (f_M_plain_70 F (m + 1) (Int32.ofNat sd) (Int32.ofNat 4) J) _
      rw [f_M_plain_70]
      have hJ : ∀ o, (o = 140 ∨ o = 141 ∨ o = 144 ∨ o = 146 ∨ o = 148 ∨ o = 149) → J o sd = 0 := fun o ho => by
        rw [g2 o (by omega) (by omega), h2 o (by omega)]
        exact hv o ho
      refine xOk.pos (by decide) (xOk.pur ⟨⟨⟨hJ 140 (by omega), hJ 141 (by omega), hJ 144 (by omega), hJ 146 (by omega), hJ 148 (by omega), hJ 149 (by omega)⟩, fun j hj => ?_, g1, g3⟩, by rw [g2 131 (by omega) (by omega), h2 131 (by omega)]; exact hX131⟩)
      rw [g2 143 (by omega) (by omega)]
      exact h1 j hj
theorem rp_dfl : ∀ k, k < 4 → rp 15 (dfl k) 0 1 := by
  intro k hk
  have : k = 0 ∨ k = 1 ∨ k = 2 ∨ k = 3 := by omega
  rcases this with rfl | rfl | rfl | rfl
  · exact Or.inl ⟨Or.inl ⟨rfl, 1, by omega, rfl⟩, by omega, rfl⟩
  · exact Or.inl ⟨Or.inr ⟨rfl, 6, by omega, rfl⟩, by omega, rfl⟩
  · exact Or.inl ⟨Or.inl ⟨rfl, 1, by omega, rfl⟩, by omega, rfl⟩
  · exact Or.inl ⟨Or.inl ⟨rfl, 50, by omega, rfl⟩, by omega, rfl⟩
theorem dfl_len : ∀ k, List.length (dfl k) = 1 := by
  intro k
  match k with
  | 0 => rfl
  | 1 => rfl
  | 2 => rfl
  | k + 3 => rfl
/-- nothing told yet -/
theorem TD_zero {b : Nat → Int32} {n sd : Nat} {I0 I M0 M : XI} {L : XL} (hT : txC b n I) (h19 : M 131 19 = Int32.ofNat sd) (hI : (∀ j, j < 5 → I 7 j = 0) ∧ (∀ j, j < 120 → I 9 j = 0) ∧ (I 11 1 = 8 ∧ (∀ j, j < 8 → I 12 j = lw0 j) ∧ ∀ k, k < 4 → I 13 k = Int32.ofNat (2 * k))) (h67 : I 6 7 = 0 ∧ I 6 8 = 0) (hM : emM sd M0 M) (h20 : M 131 20 = 0) (h34 : M 131 34 = Int32.ofNat (130 * sd)) (h40 : M 131 40 = Int32.ofNat (420 * sd)) (h12 : M 131 12 = 0) : TD b n sd 0 I M L := by
  obtain ⟨i1, i2, i3, i4, i5⟩ := hI
  obtain ⟨⟨m0, m1, m4, m6, m8, m9⟩, p1, p2, -⟩ := hM
  refine ⟨⟨hT, h19⟩, ⟨0, 0, ⟨by omega, by omega⟩, ⟨i1 0 (by omega), i1 1 (by omega)⟩, ⟨m0, m1⟩, fun _ => ⟨by omega, fun y x hy => absurd hy (Nat.not_lt_zero y)⟩⟩, ⟨0, 0, fun _ => 0, ⟨by omega, h67.1, m4⟩, ⟨by omega, h67.2⟩, fun k hk => absurd hk (Nat.not_lt_zero k), fun c hc => ⟨fun h => ?_, fun h => ?_⟩, fun c s hc hs => ?_⟩, ⟨0, ⟨by omega, i1 2 (by omega)⟩, ⟨m6, h20⟩, fun e s he => absurd he (Nat.not_lt_zero e), fun e he => absurd he (Nat.not_lt_zero e)⟩, ⟨(i1 3 (by omega)).trans m8.symm, (i1 4 (by omega)).trans m9.symm⟩, ⟨fun _ => none, 8, 0, 0, ⟨i3, by omega⟩, ⟨h40, by omega⟩, ⟨h34, by omega⟩, h12, fun k hk => ⟨⟨rp_dfl k hk, 2 * k, 2 * k + 2, i5 k hk, by omega, ⟨fun j hj => ?_, ?_, ?_⟩⟩, ?_⟩⟩⟩
  · rw [Nat.zero_testBit] at h; cases h
  · obtain ⟨k, hk, -⟩ := h
    exact absurd hk (Nat.not_lt_zero k)
  · rw [i2 _ (by omega), p1 _ (by omega)]
    exact ⟨rfl, by unfold kOk; decide⟩
  · have hj : j < List.length (dfl k) := hj
    rw [dfl_len] at hj
    have hj0 : j = 0 := by omega
    subst hj0
    show I 12 (2 * k + 0) = cwd ((dfl k).getD 0 (0, 0))
    rw [i4 _ (by omega)]
    have : k = 0 ∨ k = 1 ∨ k = 2 ∨ k = 3 := by omega
    rcases this with rfl | rfl | rfl | rfl <;> decide
  · show I 12 (2 * k + List.length (dfl k)) = 20000
    rw [dfl_len, i4 _ (by omega)]
    have : k = 0 ∨ k = 1 ∨ k = 2 ∨ k = 3 := by omega
    rcases this with rfl | rfl | rfl | rfl <;> rfl
  · show 2 * k + 2 = 2 * k + List.length (dfl k) + 1
    rw [dfl_len]
  · show M 150 (4 * sd + k) = M 151 (4 * sd + k)
    rw [(p2 k hk).1, (p2 k hk).2]
