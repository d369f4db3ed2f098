/-! read, on both sides -/
def scRF (lv o j : Nat) : Bool := Nat.ble o 16 || ((scPr o j || scRM (1 - lv) o j) || (Nat.beq o 131 && Nat.beq j 17))
theorem rf_row {lv o : Nat} (h : 17 ≤ o ∧ (o ≤ 130 ∨ 160 ≤ o)) : ∀ j, scRF lv o j = false := by
  intro j
  have hb : Nat.ble o 16 = false := by
    cases e : Nat.ble o 16 with
    | false => rfl
    | true =>
      have := Nat.le_of_ble_eq_true e
      omega
  have b : ∀ c, (131 ≤ c ∧ c ≤ 159) → Nat.beq o c = false := fun c hc => beqf (by omega)
  unfold scRF scPr scRM
  rw [hb]
  simp only [b 131 (by omega), b 133 (by omega), b 134 (by omega), b 135 (by omega), b 136 (by omega), b 140 (by omega), b 141 (by omega), b 142 (by omega), b 143 (by omega), b 144 (by omega), b 145 (by omega), b 146 (by omega), b 147 (by omega), b 148 (by omega), b 149 (by omega), b 150 (by omega), b 151 (by omega), b 152 (by omega), b 153 (by omega), b 154 (by omega), b 155 (by omega), b 156 (by omega), b 157 (by omega), b 158 (by omega), b 159 (by omega), Bool.false_and, Bool.or_false]
theorem rf_one {lv o : Nat} (hlv : lv < 2) (ho : o = 140 ∨ o = 141 ∨ o = 146 ∨ o = 148 ∨ o = 149) : scRF lv o lv = false := by
  have e : Nat.beq lv (1 - lv) = false := beqf (by omega)
  rcases ho with rfl | rfl | rfl | rfl | rfl
  · have : scRF lv 140 lv = ((false || (Nat.beq lv (1 - lv) || false)) || false) := rfl
    rw [this, e]; rfl
  · have : scRF lv 141 lv = ((false || (Nat.beq lv (1 - lv) || false)) || false) := rfl
    rw [this, e]; rfl
  · have : scRF lv 146 lv = ((false || (Nat.beq lv (1 - lv) || false)) || false) := rfl
    rw [this, e]; rfl
  · have : scRF lv 148 lv = ((false || (Nat.beq lv (1 - lv) || false)) || false) := rfl
    rw [this, e]; rfl
  · have : scRF lv 149 lv = ((false || (Nat.beq lv (1 - lv) || false)) || false) := rfl
    rw [this, e]; rfl
theorem rf_half {lv o w j : Nat} (hlv : lv < 2) (ho : (o = 142 ∧ w = 30) ∨ (o = 143 ∧ w = 120) ∨ (o = 147 ∧ w = 20) ∨ (o = 150 ∧ w = 4) ∨ (o = 151 ∧ w = 4) ∨ (o = 152 ∧ w = 130) ∨ (o = 153 ∧ w = 130) ∨ (o = 154 ∧ w = 130) ∨ (o = 155 ∧ w = 130) ∨ (o = 156 ∧ w = 130) ∨ (o = 157 ∧ w = 420) ∨ (o = 158 ∧ w = 420)) (hj : j < w) : scRF lv o (w * lv + j) = false := by
  have e : rg (w * (1 - lv)) w (w * lv + j) = false := by
    have : lv = 0 ∨ lv = 1 := by omega
    rcases this with rfl | rfl
    · exact rg_out (Or.inl (by omega))
    · exact rg_out (Or.inr (by omega))
  rcases ho with ⟨rfl, rfl⟩ | ⟨rfl, rfl⟩ | ⟨rfl, rfl⟩ | ⟨rfl, rfl⟩ | ⟨rfl, rfl⟩ | ⟨rfl, rfl⟩ | ⟨rfl, rfl⟩ | ⟨rfl, rfl⟩ | ⟨rfl, rfl⟩ | ⟨rfl, rfl⟩ | ⟨rfl, rfl⟩ | ⟨rfl, rfl⟩
  · have : scRF lv 142 (30 * lv + j) = ((false || (rg (30 * (1 - lv)) 30 (30 * lv + j) || false)) || false) := rfl
    rw [this, e]; rfl
  · have : scRF lv 143 (120 * lv + j) = ((false || (rg (120 * (1 - lv)) 120 (120 * lv + j) || false)) || false) := rfl
    rw [this, e]; rfl
  · have : scRF lv 147 (20 * lv + j) = ((false || (rg (20 * (1 - lv)) 20 (20 * lv + j) || false)) || false) := rfl
    rw [this, e]; rfl
  · have : scRF lv 150 (4 * lv + j) = ((false || (rg (4 * (1 - lv)) 4 (4 * lv + j) || false)) || false) := rfl
    rw [this, e]; rfl
  · have : scRF lv 151 (4 * lv + j) = ((false || (rg (4 * (1 - lv)) 4 (4 * lv + j) || false)) || false) := rfl
    rw [this, e]; rfl
  · have : scRF lv 152 (130 * lv + j) = ((false || (rg (130 * (1 - lv)) 130 (130 * lv + j) || false)) || false) := rfl
    rw [this, e]; rfl
  · have : scRF lv 153 (130 * lv + j) = ((false || (rg (130 * (1 - lv)) 130 (130 * lv + j) || false)) || false) := rfl
    rw [this, e]; rfl
  · have : scRF lv 154 (130 * lv + j) = ((false || (rg (130 * (1 - lv)) 130 (130 * lv + j) || false)) || false) := rfl
    rw [this, e]; rfl
  · have : scRF lv 155 (130 * lv + j) = ((false || (rg (130 * (1 - lv)) 130 (130 * lv + j) || false)) || false) := rfl
    rw [this, e]; rfl
  · have : scRF lv 156 (130 * lv + j) = ((false || (rg (130 * (1 - lv)) 130 (130 * lv + j) || false)) || false) := rfl
    rw [this, e]; rfl
  · have : scRF lv 157 (420 * lv + j) = ((false || (rg (420 * (1 - lv)) 420 (420 * lv + j) || false)) || false) := rfl
    rw [this, e]; rfl
  · have : scRF lv 158 (420 * lv + j) = ((false || (rg (420 * (1 - lv)) 420 (420 * lv + j) || false)) || false) := rfl
    rw [this, e]; rfl
/-- what is played stays while a text with a fault is read -/
theorem play_RF {F lv : Nat} {V : XV} {T : XT} {x : X4} {I J : XI} (h1 : stat F lv V T I) (h2 : nowR T x I) (h3 : pastR T I) (hs : Same (scRF lv) I J) : playR F J := by
  obtain ⟨a1, ⟨a2, a3⟩, ⟨a4, a5⟩, a6, a7, a8⟩ := h1
  obtain ⟨b1, b2, b3⟩ := h2
  obtain ⟨n, p, hst, fl, ss, ⟨p1, p2, p3⟩, p4, ⟨p5, p5'⟩, p6, p7⟩ := h3
  obtain ⟨⟨l1, l2⟩, ⟨l3, l4, l5⟩, l6, l7, l8⟩ := a3
  have row : ∀ o, 17 ≤ o ∧ (o ≤ 130 ∨ 160 ≤ o) → J o = I o := fun o ho => hs.row o (rf_row ho)
  refine ⟨lv, V, T, x, ⟨a1, ⟨tbC_same a2 hs (rf_row (by omega)) (rf_row (by omega)) (rf_row (by omega)) (rf_row (by omega)), ⟨⟨l1, ?_⟩, ⟨?_, ?_, ?_⟩, ?_, ?_, ?_⟩⟩, ⟨?_, ?_⟩, a6, ?_, ?_⟩, ⟨oH_same b1 hs (rf_row (by omega)) (rf_row (by omega)), oM_same b2 hs (rf_row (by omega)), b3⟩, ⟨n, p, hst, fl, ss, ⟨⟨p1.1, ⟨?_, ?_⟩, ?_⟩, ⟨?_, ?_⟩, p3⟩, p4, ⟨?_, fun s s1 s2 => oH_same (p5' s s1 s2) hs (rf_row (by omega)) (rf_row (by omega))⟩, fun s s1 => ⟨?_, fun e => oM_same ((p6 s s1).2 e) hs (rf_row (by omega))⟩, p7⟩⟩
  · rw [hs 131 18 rfl]; exact l2
  · rw [hs 140 lv (rf_one l1 (by omega))]; exact l3
  · rw [hs 141 lv (rf_one l1 (by omega))]; exact l4
  · rw [hs 146 lv (rf_one l1 (by omega))]; exact l5
  · intro a ha hi
    rw [hs 142 _ (rf_half (w := 30) l1 (by omega) ha)]; exact l6 a ha hi
  · intro a s ha h4
    rw [show 120 * lv + 4 * a + s = 120 * lv + (4 * a + s) by omega, hs 143 _ (rf_half (w := 120) l1 (by omega) (by omega))]
    have := l7 a s ha h4
    rwa [show 120 * lv + 4 * a + s = 120 * lv + (4 * a + s) by omega] at this
  · intro e s he h4
    have h5 := a1.1.2.2
    have := l8 e s he h4
    rw [show 4 * (5 * lv + e) + s = 20 * lv + (4 * e + s) by omega] at this ⊢
    rw [hs 147 _ (rf_half (w := 20) l1 (by omega) (by omega))]
    exact this
  · rw [hs 148 lv (rf_one l1 (by omega)), row 17 (by omega)]; exact a4
  · rw [hs 149 lv (rf_one l1 (by omega)), row 17 (by omega)]; exact a5
  · intro k hk K e1 e2 e3
    exact a7 k hk K (e1.trans (by rw [row 21 (by omega)])) (e2.trans (row 22 (by omega))) (e3.trans (row 23 (by omega)))
  · intro k hk K e
    refine a8 k hk K (agM_trans ⟨hs 131 18 rfl, fun k hk => ⟨hs 150 _ (rf_half (w := 4) l1 (by omega) hk), hs 151 _ (rf_half (w := 4) l1 (by omega) hk)⟩, fun b hb => ⟨hs 152 _ (rf_half (w := 130) l1 (by omega) hb), hs 153 _ (rf_half (w := 130) l1 (by omega) hb), hs 154 _ (rf_half (w := 130) l1 (by omega) hb), hs 155 _ (rf_half (w := 130) l1 (by omega) hb), hs 156 _ (rf_half (w := 130) l1 (by omega) hb)⟩, fun c hc => ⟨hs 157 _ (rf_half (w := 420) l1 (by omega) hc), hs 158 _ (rf_half (w := 420) l1 (by omega) hc)⟩⟩ e)
  · rw [row 38 (by omega)]; exact p1.2.1.1
  · rw [row 38 (by omega)]; exact p1.2.1.2
  · intro j hj
    exact oH_same (p1.2.2 j hj) hs (rf_row (by omega)) (rf_row (by omega))
  · rw [hs 131 54 rfl]; exact p2.1
  · intro j hj
    exact oM_same (p2.2 j hj) hs (rf_row (by omega))
  · rw [row 38 (by omega)]; exact p5
  · rw [row 173 (by omega)]; exact (p6 s s1).1
/-- both stand before the text -/
theorem pre_both {b : Nat → Int32} {n sd : Nat} {I1 M1 M0 : XI} {L1 : XL} (hT : txC b n I1) (hg : gd b n 0 I1) (hs : I1 6 5 = 0 ∧ I1 6 6 = -1) (h67 : I1 6 7 = 0 ∧ I1 6 8 = 0) (hI : (∀ j, j < 5 → I1 7 j = 0) ∧ (∀ j, j < 120 → I1 9 j = 0) ∧ (I1 11 1 = 8 ∧ (∀ j, j < 8 → I1 12 j = lw0 j) ∧ ∀ k, k < 4 → I1 13 k = Int32.ofNat (2 * k))) (hm : gm b n L1 0 M1 ∧ M1 131 15 = 0 ∧ M1 131 2 = 0) (hf : M1 131 19 = Int32.ofNat sd ∧ M1 131 20 = 0 ∧ M1 131 34 = Int32.ofNat (130 * sd) ∧ M1 131 40 = Int32.ofNat (420 * sd) ∧ M1 131 12 = 0) (he : emM sd M0 M1) : Rs b n L1 (Sum.inr 0) I1 M1 ∧ TD b n sd 0 I1 M1 L1 :=
  ⟨⟨⟨hg, hm.1⟩, fun t ht => ⟨0, by omega, ⟨hs.1, hm.2.1⟩, fun _ => hs.2, fun h => absurd rfl h⟩⟩, TD_zero (I0 := I1) hT hf.1 hI h67 he hf.2.1 hf.2.2.1 hf.2.2.2.1 hf.2.2.2.2⟩
theorem ps_lo {sd o : Nat} (h : o ≤ 130) : ∀ j, scPs sd o j = false ∧ scRN sd o j = false := by
  intro j
  have b : ∀ c, 131 ≤ c → Nat.beq o c = false := fun c hc => beqf (by omega)
  unfold scPs scRN scPr scRM
  simp only [b 131 (by omega), b 133 (by omega), b 134 (by omega), b 135 (by omega), b 136 (by omega), b 140 (by omega), b 141 (by omega), b 142 (by omega), b 143 (by omega), b 144 (by omega), b 145 (by omega), b 146 (by omega), b 147 (by omega), b 148 (by omega), b 149 (by omega), b 150 (by omega), b 151 (by omega), b 152 (by omega), b 153 (by omega), b 154 (by omega), b 155 (by omega), b 156 (by omega), b 157 (by omega), b 158 (by omega), b 159 (by omega), Bool.false_and, Bool.or_false]
  exact ⟨by trivial, by trivial⟩
theorem both_read {F : Nat} (hF : 4000000 ≤ F) {I : XI} {L : XL} (hI : Inv F I) (hK : keysR L) : xOk (f_H_read F I) (fun r => xOk (f_M_read F r.2 L) (fun q => q.1 = r.1 ∧ Inv F q.2.1 ∧ keysR q.2.2)) := by
  obtain ⟨⟨lv, V, T, x, hst, hnow, hpast⟩, ⟨tn, t1, ⟨t2, t3⟩, t4⟩, ⟨n, n1, ⟨n2, n3⟩, n4⟩, hplace⟩ := id hI
  have hlv := hst.2.1.2.1.1
  have h18 := hst.2.1.2.1.2
  have hsd : 1 - lv < 2 := by omega
  have hT : txC (I 2) n I := ⟨n1, n2, fun j _ => rfl⟩
  obtain ⟨I1, ⟨c1, c2, c3, c4, c5, c6⟩, hread⟩ := c_pre hF hT
  -- the reference, from any world in which its own rows stand as here
  have ref : ∀ H : XI, (∀ o, 131 ≤ o → H o = I o) → ∃ M1 L1 r q, (f_Reader_readText_44 F F 0 I1 = some r ∧ f_M_read F H L = some q) ∧ rdQ (I 2) n (1 - lv) L1 I1 M1 r q ∧ (M1 131 2 = 0 ∧ (∀ o, ¬ o = 137 → L1 o = L o) ∧ Same (scPs (1 - lv)) H M1) := by
    intro H hH
    obtain ⟨M1, L1, ⟨m1, m2, ⟨M0, m3⟩, m4, m5⟩, meq⟩ := m_pre hF (b := I 2) (H := H) n1 hlv (by rw [hH 131 (by omega)]; exact n3) (by rw [hH 131 (by omega)]; exact h18) (fun j hj => ⟨by rw [hH 132 (by omega)]; exact (n4 j hj).1.symm, (n4 j hj).2⟩) hK
    obtain ⟨hR, hD⟩ := pre_both c1 c2 c3 c4 c5 m1 m2 m3
    obtain ⟨r, q, ⟨e1, e2⟩, hq⟩ := pr_text hF n1 hsd 401 F F 0 (Sum.inr 0) L1 I1 M1 (fun t ht => by
      have : (0 : Nat) = t := Sum.inr.inj ht
      subst this
      exact ⟨by omega, by omega, hD⟩) (by omega) (by omega) hR (by omega)
    exact ⟨M1, L1, r, q, ⟨e1, meq.trans e2⟩, hq, m1.2.2, m4, m5⟩
  obtain ⟨Ma, La, r, qa, ⟨e44, -⟩, hq0, -⟩ := ref I (fun _ _ => rfl)
  have sI2 : Same scRd I1 r.2 := by
    rcases hq0 with h | ⟨t, M1, h, -⟩
    · exact h.1.2.1
    · exact h.1.2.1
  have r2o : ∀ o, ¬ (3 ≤ o ∧ o ≤ 16) → r.2 o = I o := fun o ho => by
    rw [← c6 o ho]
    refine sI2.row o (fun j => ?_)
    unfold scRd
    by_cases h6 : 6 ≤ o
    · rw [show Nat.ble o 16 = false by
        cases e : Nat.ble o 16 with
        | false => rfl
        | true =>
          have := Nat.le_of_ble_eq_true e
          omega, Bool.and_false]
    · rw [show Nat.ble 6 o = false by
        cases e : Nat.ble 6 o with
        | false => rfl
        | true =>
          have := Nat.le_of_ble_eq_true e
          omega, Bool.false_and]
  rw [hread]
  refine xOk.bnde e44 (xOk.st ?_)
  rcases hq0 with ⟨-, ⟨f, f1, f2, f3⟩, -⟩ | ⟨t0, M10, ⟨-, ⟨g1, -⟩, g3, -⟩, ⟨gT, gt, g65⟩, -⟩
  · -- a fault
    have hne : ¬ r.1 = 0 := by rw [f3, show (0 : Int32) = Int32.ofNat 0 from rfl, nk_eq (by omega) (by omega)]; omega
    refine xOk.neg hne (xOk.pur ?_)
    show xOk (f_M_read F (xput r.2 1 1 0) L) (fun q => q.1 = r.1 ∧ Inv F q.2.1 ∧ keysR q.2.2)
    obtain ⟨M1, L1, r', q, ⟨e1, e2⟩, hq, h2, hL, hM⟩ := ref (xput r.2 1 1 0) (fun o ho => by rw [xput_neo (by omega)]; exact r2o o (by omega))
    have er : r' = r := Option.some.inj (e1.symm.trans e44)
    subst er
    rcases hq with ⟨⟨w1, w2, w3⟩, -, w5, w6⟩ | ⟨t, M1', ⟨-, ⟨z, -⟩, -⟩, -⟩
    · refine xOk.of e2 ⟨w5, ?_, fun j hj => ?_⟩
      · have lo : ∀ o, o ≤ 130 → q.2.1 o = xput r'.2 1 1 0 o := fun o ho => by
          rw [w3.row o (fun j => (ps_lo ho j).2), hM.row o (fun j => (ps_lo ho j).1)]
        have hs : Same (scRF lv) I q.2.1 := by
          intro o j e
          have hbb : Nat.ble o 16 = false := (Bool.or_eq_false_iff.mp e).1
          have e2 := (Bool.or_eq_false_iff.mp e).2
          have e3 := (Bool.or_eq_false_iff.mp e2).1
          have e4 := (Bool.or_eq_false_iff.mp e2).2
          have ho : 17 ≤ o := by
            by_cases h : o ≤ 16
            · rw [Nat.ble_eq_true_of_le h] at hbb; cases hbb
            · omega
          have s1 : scRN (1 - lv) o j = false := by
            unfold scRN
            rw [(Bool.or_eq_false_iff.mp e3).2, e4]; rfl
          have s2 : scPs (1 - lv) o j = false := e3
          rw [w3 o j s1, hM o j s2, xput_neo (by omega), r2o o (by omega)]
        have row : ∀ o, 17 ≤ o ∧ (o ≤ 130 ∨ 160 ≤ o) → q.2.1 o = I o := fun o ho => hs.row o (rf_row ho)
        refine ⟨play_RF hst hnow hpast hs, ⟨tn, t1, ⟨?_, ?_⟩, fun i hi => ?_⟩, ⟨0, by omega, ⟨?_, ?_⟩, fun i hi => absurd hi (Nat.not_lt_zero i)⟩, ?_⟩
        · rw [row 127 (by omega)]; exact t2
        · rw [hs 131 59 rfl]; exact t3
        · rw [row 128 (by omega), row 129 (by omega), row 170 (by omega), row 171 (by omega)]; exact t4 i hi
        · rw [lo 1 (by omega), xput_eq]; rfl
        · rw [w3 131 2 rfl]; exact h2
        · rw [lo 6 (by omega), xput_neo (by omega)]; exact w6
      · rw [w1 138 (by omega), hL 138 (by omega)]; exact hK j hj
    · exact absurd z hne
  · -- none
    refine xOk.pos g1 ?_
    obtain ⟨⟨gT1, -⟩, ⟨w0, h0, ⟨-, -⟩, ⟨-, -⟩, -, -⟩, -, -, -, ⟨lw, sz, nb, nc, ⟨l1, l2⟩, -⟩⟩ := id gT
    have i11 : xput r.2 1 1 0 11 1 = Int32.ofNat sz := by rw [xput_neo (by omega)]; exact l1
    refine (c_tcopy i11 (by omega)).bnd (fun A hA => ?_)
    obtain ⟨A1, ⟨A2, A3, A4⟩, ⟨A5, A6, A7⟩, A8⟩ := hA
    refine (c_sclear hF).bnd (fun B hB => ?_)
    obtain ⟨B1, B2, B3⟩ := hB
    have hpc : f_Past_clear B = some (xput (xput B 38 1 0) 38 4 0) := rfl
    refine xOk.bnde hpc (xOk.st (xOk.pur ?_))
    obtain ⟨H, hH⟩ : ∃ H, H = xput (xput (xput B 38 1 0) 38 4 0) 127 3 0 := ⟨_, rfl⟩
    rw [← hH]
    show xOk (f_M_read F H L) (fun q => q.1 = r.1 ∧ Inv F q.2.1 ∧ keysR q.2.2)
    have Ho : ∀ o, ¬ o = 38 → ¬ o = 127 → H o = B o := fun o h1 h2 => by rw [hH, xput_neo h2, xput_neo h1, xput_neo h1]
    have Hr : ∀ o, ¬ (17 ≤ o ∧ o ≤ 23) → ¬ o = 26 → ¬ o = 27 → ¬ o = 38 → ¬ o = 127 → ¬ o = 1 → H o = r.2 o := fun o h1 h2 h3 h4 h5 h6 => by
      rw [Ho o h4 h5, B3 o (by omega), A8 o h1, xput_neo h6]
    have Ht : ∀ o, 17 ≤ o ∧ o ≤ 23 → H o = A o := fun o h1 => by rw [Ho o (by omega) (by omega), B3 o (by omega)]
    obtain ⟨M1, L1, r', q, ⟨e1, e2⟩, hq, h2, hL, hM⟩ := ref H (fun o ho => by rw [Hr o (by omega) (by omega) (by omega) (by omega) (by omega) (by omega)]; exact r2o o (by omega))
    have er : r' = r := Option.some.inj (e1.symm.trans e44)
    subst er
    rcases hq with ⟨-, ⟨f, f1, f2, f3⟩, -⟩ | ⟨t, Mx, ⟨⟨w1, w2, w3⟩, ⟨w4, w5⟩, ⟨w6, w7⟩⟩, ⟨TDx, tx, x65⟩, ⟨y1, y2, y3, y4⟩, y5, y6, y7, y8⟩
    · rw [g1] at f3
      rw [show (0 : Int32) = Int32.ofNat 0 from rfl, nk_eq (by omega) (by omega)] at f3
      omega
    · refine xOk.of e2 ⟨by rw [w4, w5], ?_, fun j hj => ?_⟩
      · -- the reference leaves the class's rows
        have lo : ∀ o, o ≤ 130 → q.2.1 o = H o := fun o ho => by
          rw [y8 o (by omega), w3.row o (fun j => (ps_lo ho j).2), hM.row o (fun j => (ps_lo ho j).1)]
        obtain ⟨⟨-, x19⟩, ⟨w, h, ⟨dw1, dw2⟩, ⟨dw3, dw4⟩, ⟨dw5, dw6⟩, dw7⟩, ⟨kn, cm, cs, -, -, -, -, dk⟩, ⟨m, ⟨dp1, dp2⟩, ⟨dp3, -⟩, dp4, -⟩, ⟨dn3, dn4⟩, dl⟩ := TDx
        obtain ⟨dw8, dw9⟩ := dw7 x65
        have xo : ∀ o, ¬ (o = 131 ∨ o = 162 ∨ o = 163 ∨ o = 173) → q.2.1 o = Mx o := y8
        have T17 : ∀ j, j < 5 → q.2.1 17 j = r'.2 7 j := fun j hj => by
          rw [lo 17 (by omega), Ht 17 (by omega), A1 j hj, xput_neo (by omega)]
        have T18 : ∀ j, j < 30 → q.2.1 18 j = r'.2 8 j := fun j hj => by
          rw [lo 18 (by omega), Ht 18 (by omega), A2 j hj, xput_neo (by omega)]
        have T19 : ∀ j, j < 120 → q.2.1 19 j = r'.2 9 j := fun j hj => by
          rw [lo 19 (by omega), Ht 19 (by omega), A3 j hj, xput_neo (by omega)]
        have T20 : ∀ j, j < 20 → q.2.1 20 j = r'.2 10 j := fun j hj => by
          rw [lo 20 (by omega), Ht 20 (by omega), A4 j hj, xput_neo (by omega)]
        have c21 : q.2.1 21 1 = r'.2 11 1 := by rw [lo 21 (by omega), Ht 21 (by omega), A5, xput_neo (by omega)]
        have c22 : ∀ j, j < sz → q.2.1 22 j = r'.2 12 j := fun j hj => by rw [lo 22 (by omega), Ht 22 (by omega), A6 j hj, xput_neo (by omega)]
        have c23 : ∀ k, k < 4 → q.2.1 23 k = r'.2 13 k := fun k hk => by rw [lo 23 (by omega), Ht 23 (by omega), A7 k hk, xput_neo (by omega)]
        obtain ⟨V', hV'⟩ := law_dL hF (K := q.2.1) hsd tx dl ⟨c21, fun j hj => c22 j (hj sz l1 (by omega)), c23⟩ y1 (fun o o1 o2 => xo o (by omega))
        · have hz : ∀ a, a < 30 → q.2.1 27 a = -2 := fun a ha => by
            rw [lo 27 (by omega), Ho 27 (by omega) (by omega)]; exact B1 a ha
          have h26 : ∀ j, j = 1 ∨ j = 2 ∨ j = 3 → q.2.1 26 j = 0 := fun j hj => by
            rw [lo 26 (by omega), Ho 26 (by omega) (by omega)]
            rcases hj with rfl | rfl | rfl
            · exact B2.1
            · exact B2.2.1
            · exact B2.2.2
          obtain ⟨pn, pp, phs, pfl, pss, ⟨⟨⟨-, pp40⟩, ⟨-, pp2⟩, -⟩, -, -⟩, -, -⟩ := hpast
          have h38 : q.2.1 38 1 = 0 ∧ q.2.1 38 4 = 0 ∧ q.2.1 38 2 = Int32.ofNat pp := by
            rw [lo 38 (by omega), hH, xput_neo (by omega)]
            refine ⟨by rw [xput_ne (by omega), xput_eq], by rw [xput_eq], ?_⟩
            rw [xput_ne (by omega), xput_ne (by omega), B3 38 (by omega), A8 38 (by omega), xput_neo (by omega), r2o 38 (by omega)]
            exact pp2
          refine ⟨⟨1 - lv, V', (w, h, m, q.2.1 18, q.2.1 19, q.2.1 20), ((fun _ => -2), 0, 0, 0), ⟨⟨⟨dw8, dw2, dp1⟩, ?_, ⟨?_, ?_⟩⟩, ⟨⟨?_, ?_, ?_, rfl, rfl, rfl⟩, ⟨⟨hsd, y1⟩, ⟨?_, ?_, ?_⟩, ?_, ?_, ?_⟩⟩, ⟨?_, ?_⟩, hV'⟩, ⟨⟨hz, h26 1 (by omega), h26 2 (by omega), h26 3 (by omega)⟩, ⟨fun a ha => ?_, ?_, ?_, ?_⟩, fun a ha => Or.inl rfl⟩, ⟨0, pp, fun _ => ((fun _ => -2), 0, 0, 0), 0, fun _ => ((fun _ => -2), 0, 0, 0), ⟨⟨⟨by omega, pp40⟩, ⟨h38.1, h38.2.2⟩, fun j hj => absurd hj (Nat.not_lt_zero j)⟩, ⟨y3, fun j hj => absurd hj (Nat.not_lt_zero j)⟩, fun j hj => absurd hj (Nat.not_lt_zero j)⟩, by omega, ⟨h38.2.1, fun s _ e => by rw [Nat.zero_testBit] at e; cases e⟩, fun s hs => ⟨?_, fun e => by rw [Nat.zero_testBit] at e; cases e⟩, fun s _ e => by rw [Nat.zero_testBit] at e; cases e⟩⟩, ⟨0, by omega, ⟨?_, y4⟩, fun i hi => absurd hi (Nat.not_lt_zero i)⟩, ⟨0, by omega, ⟨?_, ?_⟩, fun i hi => absurd hi (Nat.not_lt_zero i)⟩, ?_⟩
          · -- lands
            intro a ha hi hh
            have hin := inT_iff.mp hi
            have hin1 : a % 6 < w := hin.1
            have hin2 : a / 6 < h := hin.2
            have := (dw9 (a / 6) (a % 6) hin2 hin1).2
            rw [show 6 * (a / 6) + a % 6 = a by omega] at this
            have e18 : tl (w, h, m, q.2.1 18, q.2.1 19, q.2.1 20) a = r'.2 8 a := T18 a ha
            rcases this with h9 | ⟨k, hk, hk'⟩
            · have : isH (w, h, m, q.2.1 18, q.2.1 19, q.2.1 20) a = true := decide_eq_true (e18.trans h9)
              rw [hh] at this
              cases this
            · exact ⟨k, hk, e18.trans hk'⟩
          · intro a s ha hs
            show kOk (q.2.1 19 (4 * a + s))
            rw [T19 _ (by omega)]
            exact (dk a s ha hs).2
          · intro e s he hs
            have he : e < m := he
            show kOk (q.2.1 20 (4 * e + s))
            rw [T20 _ (by omega)]
            exact (dp4 e s he hs).2
          · rw [T17 0 (by omega)]; exact dw3
          · rw [T17 1 (by omega)]; exact dw4
          · rw [T17 2 (by omega)]; exact dp2
          · rw [xo 140 (by omega)]; exact dw5
          · rw [xo 141 (by omega)]; exact dw6
          · rw [xo 146 (by omega)]; exact dp3
          · intro a ha hi
            have hin := inT_iff.mp hi
            have hin1 : a % 6 < w := hin.1
            have hin2 : a / 6 < h := hin.2
            have := (dw9 (a / 6) (a % 6) hin2 hin1).1
            rw [show 6 * (a / 6) + a % 6 = a by omega] at this
            show q.2.1 142 (30 * (1 - lv) + a) = q.2.1 18 a
            rw [xo 142 (by omega), T18 a ha]
            exact this.symm
          · intro a s ha hs
            show q.2.1 143 (120 * (1 - lv) + 4 * a + s) = q.2.1 19 (4 * a + s)
            rw [xo 143 (by omega), T19 _ (by omega), show 120 * (1 - lv) + 4 * a + s = 120 * (1 - lv) + (4 * a + s) by omega]
            exact (dk a s ha hs).1.symm
          · intro e s he hs
            have he : e < m := he
            show q.2.1 147 (4 * (5 * (1 - lv) + e) + s) = q.2.1 20 (4 * e + s)
            rw [xo 147 (by omega), T20 _ (by omega)]
            exact (dp4 e s he hs).1.symm
          · rw [xo 148 (by omega), T17 3 (by omega)]; exact dn3.symm
          · rw [xo 149 (by omega), T17 4 (by omega)]; exact dn4.symm
          · rw [Nat.zero_add]
            show q.2.1 162 a = enc (-2)
            rw [(y5 a (by omega)).1]; rfl
          · exact (y5 30 (by omega)).1
          · exact (y5 31 (by omega)).1
          · exact (y5 32 (by omega)).1
          · rw [y6 s hs, Nat.zero_testBit]; rfl
          · rw [lo 127 (by omega), hH, xput_eq]; rfl
          · rw [lo 1 (by omega), Ho 1 (by omega) (by omega), B3 1 (by omega), A8 1 (by omega), xput_eq]; rfl
          · rw [y7 2 (by omega), w3 131 2 rfl]; exact h2
          · rw [lo 6 (by omega), Hr 6 (by omega) (by omega) (by omega) (by omega) (by omega) (by omega), w6, y7 17 (by omega)]; exact w7.symm
      · rw [w1 138 (by omega), hL 138 (by omega)]; exact hK j hj
