/-! both readers: a knob, a number -/
def rg (lo len j : Nat) : Bool := Nat.ble lo j && !Nat.ble (lo + len) j
theorem rg_in {lo len k : Nat} (h : k < len) : rg lo len (lo + k) = true := by
  unfold rg
  rw [Nat.ble_eq_true_of_le (Nat.le_add_right lo k)]
  cases e : Nat.ble (lo + len) (lo + k) with
  | false => rfl
  | true =>
    have := Nat.le_of_ble_eq_true e
    omega
theorem rg_out {lo len j : Nat} (h : j < lo ∨ lo + len ≤ j) : rg lo len j = false := by
  unfold rg
  rcases h with h | h
  · cases e : Nat.ble lo j with
    | false => rfl
    | true =>
      have := Nat.le_of_ble_eq_true e
      omega
  · rw [Nat.ble_eq_true_of_le h]
    cases Nat.ble lo j <;> rfl
/-- what the reference's reader writes: the half of side sd -/
def scRM (sd o j : Nat) : Bool :=
  (Nat.beq o 131 && (Nat.beq j 11 || (Nat.beq j 12 || (Nat.beq j 13 || (Nat.beq j 14 || (Nat.beq j 15 || (Nat.beq j 16 || (Nat.beq j 20 || (Nat.beq j 34 || (Nat.beq j 40 || Nat.beq j 44))))))))))
  || (((Nat.beq o 140 || (Nat.beq o 141 || (Nat.beq o 144 || (Nat.beq o 146 || (Nat.beq o 148 || Nat.beq o 149))))) && Nat.beq j sd)
  || ((Nat.beq o 142 && rg (30 * sd) 30 j) || ((Nat.beq o 143 && rg (120 * sd) 120 j) || ((Nat.beq o 145 && rg (40 * sd) 40 j) || ((Nat.beq o 147 && rg (20 * sd) 20 j)
  || (((Nat.beq o 150 || Nat.beq o 151) && rg (4 * sd) 4 j) || (((Nat.beq o 152 || (Nat.beq o 153 || (Nat.beq o 154 || (Nat.beq o 155 || Nat.beq o 156)))) && rg (130 * sd) 130 j)
  || (((Nat.beq o 157 || Nat.beq o 158) && rg (420 * sd) 420 j) || Nat.beq o 159))))))))
def scKn (o j : Nat) : Bool := sc6S o j || ((Nat.beq o 6 && (Nat.beq j 7 || Nat.beq j 8)) || Nat.beq o 9)
def scKm (sd o j : Nat) : Bool := scFS o j || ((Nat.beq o 143 || (Nat.beq o 144 || Nat.beq o 145)) && scRM sd o j)
theorem Same.Kn {I J : XI} (h : Same sc6S I J) : Same scKn I J := h.mono (fun o j e => by
  unfold scKn at e
  exact (Bool.or_eq_false_iff.mp e).1)
theorem Same.Km {sd : Nat} {I J : XI} (h : Same scFS I J) : Same (scKm sd) I J := h.mono (fun o j e => by
  unfold scKm at e
  exact (Bool.or_eq_false_iff.mp e).1)
/-- the knobs told -/
def dK (sd : Nat) (I M : XI) : Prop := ∃ (kn cm : Nat) (cs : Nat → Nat), (kn ≤ 40 ∧ I 6 7 = Int32.ofNat kn ∧ M 144 sd = Int32.ofNat kn) ∧ (cm < 1073741824 ∧ I 6 8 = Int32.ofNat cm) ∧ (∀ k, k < kn → cs k < 30 ∧ M 145 (40 * sd + k) = Int32.ofNat (cs k)) ∧ (∀ c, c < 30 → (cm.testBit c = true ↔ ∃ k, k < kn ∧ cs k = c)) ∧ ∀ c s, c < 30 → s < 4 → I 9 (4 * c + s) = M 143 (120 * sd + (4 * c + s)) ∧ kOk (I 9 (4 * c + s))
theorem dK_same {sd : Nat} {I M I' M' : XI} (h : dK sd I M) (h7 : I' 6 7 = I 6 7) (h8 : I' 6 8 = I 6 8) (h9 : I' 9 = I 9) (m4 : M' 144 sd = M 144 sd) (m5 : M' 145 = M 145) (m3 : M' 143 = M 143) : dK sd I' M' := by
  obtain ⟨kn, cm, cs, ⟨k1, k2, k3⟩, ⟨k4, k5⟩, k6, k7, k8⟩ := h
  exact ⟨kn, cm, cs, ⟨k1, h7.trans k2, m4.trans k3⟩, ⟨k4, h8.trans k5⟩, fun k hk => by rw [m5]; exact k6 k hk, k7, fun c s hc hs => by rw [h9, m3]; exact k8 c s hc hs⟩
theorem b_sgn {b : Nat → Int32} {n : Nat} {e : Nat × Nat} {J : XI} (h : bd b n e J) : ∃ v, f_Reader_signedNumber J = some (v, J) := by
  obtain ⟨v, hv⟩ := bd_kind h
  have hx : xOk (f_Reader_signedNumber J) (fun r => r.2 = J) := by
    unfold f_Reader_signedNumber
    refine xOk.bnde hv ?_
    by_cases e45 : v = 45
    · exact xOk.pos e45 (xOk.bnde (bd_accept h) (xOk.bnde (bd_number h) (xOk.pur rfl)))
    · exact xOk.neg e45 (xOk.bnde (bd_number h) (xOk.pur rfl))
  obtain ⟨r, e1, e2⟩ := hx
  exact ⟨r.1, by rw [e1, ← e2]⟩
theorem bm_num {b : Nat → Int32} {n : Nat} {e : Nat × Nat} {J : XI} {v : Int32} (h : bm b n e J) : f_M_bounded 0 v J = some (0, J) := by
  refine xOk.eq ?_
  unfold f_M_bounded
  refine xOk.pos (bm_v h).2.2 ?_
  unfold f_M_bounded_15
  exact xOk.bnde (bm_fail h) (xOk.pur rfl)
theorem bm_tk {b : Nat → Int32} {n : Nat} {e : Nat × Nat} {J : XI} (h : bm b n e J) : f_M_toldKnob J = some (0, J) := by
  refine xOk.eq ?_
  unfold f_M_toldKnob
  refine xOk.neg (bm_v h).1 ?_
  unfold f_M_toldKnob_21
  refine xOk.pos rfl ?_
  unfold f_M_toldKnob_30
  exact xOk.bnde (bm_num h) (xOk.pur rfl)
/-- where a row of that sort has no room -/
theorem m_full {b : Nat → Int32} {n t : Nat} {L : XL} {M : XI} {v : Int32} (h : gm b n L t M) : xOk (f_M_roomFor v v M) (fun K => bm b n (2, t) K ∧ Same scF3 M K) := by
  unfold f_M_roomFor
  refine xOk.pos rfl ((gm_fail (k := 2) h (Or.inr rfl)).bnd (fun K hK => ?_))
  unfold f_M_roomFor_10
  exact xOk.neg (bm_v hK.1).1 (xOk.pur hK)
theorem m_room {b : Nat → Int32} {n t : Nat} {L : XL} {M : XI} {v w : Int32} (h : gm b n L t M) (hv : ¬ v = w) : f_M_roomFor v w M = f_M_goesOn M := by
  unfold f_M_roomFor f_M_roomFor_10
  rw [if_neg hv, if_pos h.2.1.2]
  cases f_M_goesOn M <;> rfl
/-- the end of one row of the text -/
def tlQ (b : Nat → Int32) (n : Nat) (L : XL) (t : Nat) (D : XI → XI → Prop) (I M : XI) : Prop := ∃ a, Rs b n L a I M ∧ ∀ t', a = Sum.inr t' → t < t' ∧ D I M
theorem pr_knob {b : Nat → Int32} {n t sd : Nat} {L : XL} {I M : XI} (hn : n ≤ 2000) (hsd : sd < 2) (h : Rs b n L (Sum.inr t) I M) (hk : kd b n t = 101) (h19 : M 131 19 = Int32.ofNat sd) (hD : dK sd I M) :
    pr (f_Reader_readKnob I) ((f_M_roomFor (M 144 sd) 40 M).bind fun q17 => if (q17 131 13) = 0 then ((f_M_tellKnob q17).bind fun q19 => some (q19, L)) else (some (q17, L))) (fun r q => (q.2 = L ∧ tlQ b n L t (dK sd) r q.1) ∧ (Same scKn I r ∧ (r 6 5 = 0 → I 6 5 = 0)) ∧ Same (scKm sd) M q.1) := by
  obtain ⟨kn, cm, cs, ⟨k1, k2, k3⟩, ⟨k4, k5⟩, k6, k7, k8⟩ := hD
  have hs := h.2 t rfl
  unfold f_Reader_readKnob
  rw [k2, k3]
  by_cases e40 : kn = 40
  · rw [e40]
    refine pr.lneg (show ¬ Int32.ofNat 40 < 40 by decide) (pr.lb (gd_fail (k := 2) h.1.1 (Or.inr rfl)) (fun K hK => ?_))
    refine pr.rb (m_full (v := 40) h.1.2) (fun G hG => ?_)
    refine pr.rneg (bm_v hG.1).1 (pr.pur ⟨⟨rfl, Sum.inl (2, t), ⟨⟨hK.1, hG.1⟩, fun t' ht' => by cases ht'⟩, fun t' ht' => by cases ht'⟩, ⟨hK.2.S6.Kn, fun e => (hK.2 6 5 rfl).symm.trans e⟩, hG.2.FS.Km⟩)
  · have hroom : f_M_roomFor (Int32.ofNat kn) 40 M = f_M_goesOn M := m_room h.1.2 (by rw [show (40 : Int32) = Int32.ofNat 40 from rfl, nk_eq (by omega) (by omega)]; exact e40)
    rw [hroom]
    refine pr.lpos (nk_lt_t (b := 40) (by omega) (by omega)) (pr.lst ?_)
    rw [nk_succ]
    -- the counter
    have hsI : Same scKn I (xput I 6 7 (Int32.ofNat (kn + 1))) := Same.put rfl
    have hI65 : xput I 6 7 (Int32.ofNat (kn + 1)) 6 5 = I 6 5 := by rw [xput_ne (by omega)]
    have hR1 : Rs b n L (Sum.inr t) (xput I 6 7 (Int32.ofNat (kn + 1))) M := by
      refine ⟨⟨⟨h.1.1.1, ⟨by rw [xput_ne (by omega)]; exact h.1.1.2.1.1, by rw [xput_ne (by omega)]; exact h.1.1.2.1.2⟩, tkC_same h.1.1.2.2 ?_ ?_ ?_⟩, h.1.2⟩, fun t' ht' => ?_⟩
      · rw [xput_neo (by omega)]
      · rw [xput_neo (by omega)]
      · rw [xput_neo (by omega)]
      · rw [← Sum.inr.inj ht']
        exact SLr_same hs hI65 (by rw [xput_ne (by omega)]) rfl rfl
    have h67 : xput I 6 7 (Int32.ofNat (kn + 1)) 6 7 = Int32.ofNat (kn + 1) := xput_eq
    have h68 : xput I 6 7 (Int32.ofNat (kn + 1)) 6 8 = Int32.ofNat cm := by rw [xput_ne (by omega)]; exact k5
    have h9 : xput I 6 7 (Int32.ofNat (kn + 1)) 9 = I 9 := by rw [xput_neo (by omega)]
    generalize xput I 6 7 (Int32.ofNat (kn + 1)) = I1 at hsI hI65 hR1 h67 h68 h9 ⊢
    refine (pr_go (k := 101) hR1 hk (by omega)).bnd (fun r3 q17 hp => ?_)
    obtain ⟨⟨hR3, hf3⟩, s3, m17⟩ := hp
    have ht1 : ∀ t', acR b n 101 t = Sum.inr t' → t' = t + 1 := fun t' ht' => (acR_t ht').1
    generalize acR b n 101 t = a3 at hR3 ht1
    cases a3 with
    | inl e =>
      obtain ⟨⟨b1, b2'⟩, -⟩ := hR3
      obtain ⟨v, hv⟩ := b_sgn b1
      refine pr.rneg (bm_v b2').1 (pr.lbe (bd_number b1) (pr.lbe (bd_number b1) (pr.lbe (bd_number b1) (pr.lbe hv (pr.lbe (bd_accept b1) (pr.lpos rfl (pr.pur ?_)))))))
      exact ⟨⟨rfl, Sum.inl e, ⟨⟨b1, b2'⟩, fun t' ht' => by cases ht'⟩, fun t' ht' => by cases ht'⟩, ⟨hsI.trans s3.S6.Kn, fun e => by rw [← hI65, ← s3 6 5 rfl]; exact e⟩, m17.FS.Km⟩
    | inr t1 =>
      have ht1 := ht1 t1 rfl
      refine pr.rpos hR3.1.2.2.1.2 ?_
      unfold f_M_tellKnob
      have flat : ∀ {α β γ : Type} (x : Option α) (f : α → Option β) (g : β → Option γ), ((x.bind f).bind g) = x.bind (fun a => (f a).bind g) := fun x f g => by cases x <;> rfl
      rw [flat]
      refine (pr_num (m := 5) hn hR3 (by omega)).bnd (fun r4 p1 h4 => ?_)
      rw [flat]
      refine (pr_num (m := 4) hn h4.1.1 (by omega)).bnd (fun r5 p2 h5 => ?_)
      rw [flat]
      refine (pr_num (m := 3) hn h5.1.1 (by omega)).bnd (fun r6 p3 h6 => ?_)
      rw [flat]
      refine (pr_sgn hn h6.1.1).bnd (fun r7 p4 h7 => ?_)
      rw [flat]
      refine (pr_acc (k := 59) h7.1.1 (by omega) (by omega) rfl).bnd (fun r8 p5 h8 => ?_)
      obtain ⟨⟨hR8, hf8⟩, s8, m8⟩ := h8
      have hSm : Sm I1 r8.2 := s3.Sm.trans (h4.2.1.trans (h5.2.1.trans (h6.2.1.trans (h7.2.1.trans s8.Sm))))
      have hSM : Same scFS M p5 := m17.FS.trans (h4.2.2.trans (h5.2.2.trans (h6.2.2.trans (h7.2.2.trans m8.FS))))
      have hS6 : Same scKn I r8.2 := hsI.trans hSm.1.Kn
      have hmon : r8.2 6 5 = 0 → I 6 5 = 0 := fun e => by rw [← hI65]; exact hSm.2 e
      cases ha : acX b n 59 (sgX b n (acX b n 3 (acX b n 3 (acX b n 3 (Sum.inr t1))))) with
      | inl e =>
        rw [ha] at hR8 hf8
        refine pr.lpos hf8 (pr.rbe (q := p5) (by rw [if_neg (bm_v hR8.1.2).2.1]) (pr.pur ⟨⟨rfl, Sum.inl e, hR8, fun t' ht' => by cases ht'⟩, ⟨hS6, hmon⟩, hSM.Km⟩))
      | inr t8 =>
        rw [ha] at hR8 hf8
        obtain ⟨t7, a7, c7, -⟩ := acX_t ha
        obtain ⟨e7, kk7⟩ := h7.1.2 t7 a7
        -- before the sign
        have a6' : ∃ t6, acX b n 3 (acX b n 3 (acX b n 3 (Sum.inr t1))) = Sum.inr t6 ∧ t6 < t7 := by
          cases hh : acX b n 3 (acX b n 3 (acX b n 3 (Sum.inr t1))) with
          | inl e => rw [hh] at a7; cases a7
          | inr t6 =>
            refine ⟨t6, rfl, ?_⟩
            rw [hh] at a7
            have a7 : (if kd b n t6 = 45 then acX b n 3 (acR b n 45 t6) else acR b n 3 t6) = Sum.inr t7 := a7
            split at a7
            · obtain ⟨t65, c1, c2, -⟩ := acX_t a7
              have := (acR_t c1).1
              omega
            · have := (acR_t a7).1
              omega
        obtain ⟨t6, a6, c6⟩ := a6'
        obtain ⟨t5, a5, c5, -⟩ := acX_t a6
        obtain ⟨t4, a4, c4, -⟩ := acX_t a5
        obtain ⟨t3', a3', c3, -⟩ := acX_t a4
        have a3'' := Sum.inr.inj a3'
        obtain ⟨e4, x, hx, hx'⟩ := h4.1.2 t4 a4
        obtain ⟨e5, y, hy, hy'⟩ := h5.1.2 t5 a5
        obtain ⟨e6, s, hs', hs''⟩ := h6.1.2 t6 a6
        have hcell : y * 6 + x < 30 := by omega
        have hM8 : ∀ o j, scFS o j = false → p5 o j = M o j := fun o j e => hSM o j e
        rw [hx', hy', hs'', show (6 : Int32) = Int32.ofNat 6 from rfl, show (4 : Int32) = Int32.ofNat 4 from rfl]
        rw [← e5, ← e4, ← e6, hx', hy', hs'']
        simp only [nk_mul, nk_add]
        refine pr.lneg (by rw [hf8]; exact (show ¬ (1 : Int32) = 0 by decide)) (pr.lck (nk_in (by omega) (by omega)) (pr.lst (pr.lst ?_)))
        rw [nk_N (show (y * 6 + x) * 4 + s < 2147483648 by omega), xput_neo (show ¬ 6 = 9 by omega), hSm.1 6 8 rfl, h68, bit_set k4 hcell]
        rw [if_pos (show p5 131 13 ≤ 0 by rw [hR8.1.2.2.1.2]; exact Int32.le_refl _)]
        rw [hM8 131 19 rfl, h19, hM8 144 _ rfl, nk_N (show sd < 2147483648 by omega), k3, show (40 : Int32) = Int32.ofNat 40 from rfl]
        simp only [nk_mul, nk_add]
        rw [xck_true (nk_in hsd (by omega)), xck_true (nk_in (show 40 * sd + kn < 80 by omega) (by omega)), nk_N (show 40 * sd + kn < 2147483648 by omega)]
        unfold xst
        simp only [xput_neo (show ¬ 131 = 145 by omega), xput_neo (show ¬ 144 = 145 by omega), xput_neo (show ¬ 131 = 144 by omega)]
        rw [hM8 131 19 rfl, h19, xck_true (nk_in hsd (by omega)), nk_N (show sd < 2147483648 by omega), hM8 144 _ rfl, k3, nk_succ, show (120 : Int32) = Int32.ofNat 120 from rfl]
        simp only [nk_mul, nk_add]
        rw [xck_true (nk_in hsd (by omega)), xck_true (nk_in (show 120 * sd + 4 * (6 * y + x) + s < 240 by omega) (by omega)), nk_N (show 120 * sd + 4 * (6 * y + x) + s < 2147483648 by omega)]
        refine pr.mk' rfl rfl ?_
        have hI' : Same scKn r8.2 (xput (xput r8.2 9 ((y * 6 + x) * 4 + s) r7.1) 6 8 (Int32.ofNat (cm ||| 2 ^ (y * 6 + x)))) := (Same.put rfl).put' rfl
        have hM' : Same (scKm sd) p5 (xput (xput (xput p5 145 (40 * sd + kn) (Int32.ofNat (6 * y + x))) 144 sd (Int32.ofNat (kn + 1))) 143 (120 * sd + 4 * (6 * y + x) + s) p4.1) := by
          refine ((Same.put ?_).put' ?_).put' ?_
          · show (scFS 145 _ || (true && scRM sd 145 (40 * sd + kn))) = true
            have : scRM sd 145 (40 * sd + kn) = (rg (40 * sd) 40 (40 * sd + kn) || _) := rfl
            rw [this, rg_in (by omega)]
            rfl
          · show (scFS 144 sd || (true && scRM sd 144 sd)) = true
            have : scRM sd 144 sd = (Nat.beq sd sd || false) := rfl
            rw [this, Nat.beq_refl]
            rfl
          · show (scFS 143 _ || (true && scRM sd 143 (120 * sd + 4 * (6 * y + x) + s))) = true
            have : scRM sd 143 (120 * sd + 4 * (6 * y + x) + s) = (rg (120 * sd) 120 (120 * sd + 4 * (6 * y + x) + s) || _) := rfl
            rw [this, show 120 * sd + 4 * (6 * y + x) + s = 120 * sd + (4 * (6 * y + x) + s) by omega, rg_in (by omega)]
            rfl
        show (L = L ∧ tlQ b n L t (dK sd) (xput (xput r8.2 9 ((y * 6 + x) * 4 + s) r7.1) 6 8 (Int32.ofNat (cm ||| 2 ^ (y * 6 + x)))) (xput (xput (xput p5 145 (40 * sd + kn) (Int32.ofNat (6 * y + x))) 144 sd (Int32.ofNat (kn + 1))) 143 (120 * sd + 4 * (6 * y + x) + s) p4.1)) ∧ (Same scKn I (xput (xput r8.2 9 ((y * 6 + x) * 4 + s) r7.1) 6 8 (Int32.ofNat (cm ||| 2 ^ (y * 6 + x)))) ∧ ((xput (xput r8.2 9 ((y * 6 + x) * 4 + s) r7.1) 6 8 (Int32.ofNat (cm ||| 2 ^ (y * 6 + x)))) 6 5 = 0 → I 6 5 = 0)) ∧ Same (scKm sd) M (xput (xput (xput p5 145 (40 * sd + kn) (Int32.ofNat (6 * y + x))) 144 sd (Int32.ofNat (kn + 1))) 143 (120 * sd + 4 * (6 * y + x) + s) p4.1)
        refine ⟨⟨rfl, Sum.inr t8, ⟨⟨?_, ?_⟩, fun t' ht' => ?_⟩, fun t' ht' => ⟨?_, ?_⟩⟩, ⟨hS6.trans hI', fun e => hmon ?_⟩, hSM.Km.trans hM'⟩
        · refine ⟨hR8.1.1.1, ⟨by rw [xput_ne (by omega), xput_neo (by omega)]; exact hR8.1.1.2.1.1, by rw [xput_ne (by omega), xput_neo (by omega)]; exact hR8.1.1.2.1.2⟩, tkC_same hR8.1.1.2.2 ?_ ?_ ?_⟩
          · rw [xput_neo (by omega), xput_neo (by omega)]
          · rw [xput_neo (by omega), xput_neo (by omega)]
          · rw [xput_neo (by omega), xput_neo (by omega)]
        · refine ⟨hR8.1.2.1, ⟨by rw [xput_neo (by omega), xput_neo (by omega), xput_neo (by omega)]; exact hR8.1.2.2.1.1, by rw [xput_neo (by omega), xput_neo (by omega), xput_neo (by omega)]; exact hR8.1.2.2.1.2⟩, tkM_same hR8.1.2.2.2 ?_ ?_ ?_⟩
          · rw [xput_neo (by omega), xput_neo (by omega), xput_neo (by omega)]
          · rw [xput_neo (by omega), xput_neo (by omega), xput_neo (by omega)]
          · rw [xput_neo (by omega), xput_neo (by omega), xput_neo (by omega)]
        · rw [← Sum.inr.inj ht']
          refine SLr_same (hR8.2 t8 rfl) ?_ ?_ ?_ ?_
          · rw [xput_ne (by omega), xput_neo (by omega)]
          · rw [xput_ne (by omega), xput_neo (by omega)]
          · rw [xput_neo (by omega), xput_neo (by omega), xput_neo (by omega)]
          · rw [xput_neo (by omega), xput_neo (by omega), xput_neo (by omega)]
        · have := Sum.inr.inj ht'
          omega
        · obtain ⟨cs2, hcs2⟩ : ∃ f : Nat → Nat, ∀ k, f k = if k = kn then y * 6 + x else cs k := ⟨fun k => if k = kn then y * 6 + x else cs k, fun _ => rfl⟩
          refine ⟨kn + 1, cm ||| 2 ^ (y * 6 + x), cs2, ⟨by omega, ?_, ?_⟩, ⟨or_lt30 k4 hcell, xput_eq⟩, fun k hk => ?_, fun c hc => ?_, fun c s2 hc hs2 => ?_⟩
          · rw [xput_ne (by omega), xput_neo (by omega), hSm.1 6 7 rfl]; exact h67
          · rw [xput_neo (by omega), xput_eq]
          · rw [xput_neo (by omega), xput_neo (by omega), xput_at]
            by_cases e : k = kn
            · rw [if_pos (by omega), hcs2, if_pos e, show 6 * y + x = y * 6 + x by omega]
              exact ⟨hcell, rfl⟩
            · rw [if_neg (by omega), hcs2, if_neg e, hM8 145 _ rfl]
              exact k6 k (by omega)
          · rw [tb_set, Bool.or_eq_true, decide_eq_true_eq, k7 c hc]
            constructor
            · rintro (⟨k, hk, hk'⟩ | e)
              · exact ⟨k, by omega, by rw [hcs2, if_neg (by omega)]; exact hk'⟩
              · exact ⟨kn, by omega, by rw [hcs2, if_pos rfl]; exact e⟩
            · rintro ⟨k, hk, hk'⟩
              by_cases e : k = kn
              · rw [hcs2, if_pos e] at hk'; exact Or.inr hk'
              · rw [hcs2, if_neg e] at hk'; exact Or.inl ⟨k, by omega, hk'⟩
          · rw [xput_neo (show ¬ 9 = 6 by omega), xput_at, xput_at, xput_neo (show ¬ 143 = 144 by omega), xput_neo (show ¬ 143 = 145 by omega), hM8 143 _ rfl, hSm.1 9 _ rfl, h9]
            by_cases e : 4 * c + s2 = (y * 6 + x) * 4 + s
            · rw [if_pos e, if_pos (by omega)]
              exact ⟨e7, kk7⟩
            · rw [if_neg e, if_neg (by omega)]
              exact k8 c s2 hc hs2
        · rw [xput_ne (by omega), xput_neo (by omega)] at e; exact e
