/-! both readers: a row of the table, side by side -/
def dW (sd : Nat) (I M : XI) : Prop := ∃ w h, (w ≤ 8 ∧ h ≤ 5) ∧ (I 7 0 = Int32.ofNat w ∧ I 7 1 = Int32.ofNat h) ∧ (M 140 sd = Int32.ofNat w ∧ M 141 sd = Int32.ofNat h) ∧ (I 6 5 = 0 → w ≤ 6 ∧ ∀ y x, y < h → x < w → I 8 (6 * y + x) = M 142 (30 * sd + (6 * y + x)) ∧ (I 8 (6 * y + x) = 9 ∨ ∃ k, k < 5 ∧ I 8 (6 * y + x) = Int32.ofNat k))
theorem dW_same {sd : Nat} {I M I' M' : XI} (h : dW sd I M) (h0 : I' 7 0 = I 7 0) (h1 : I' 7 1 = I 7 1) (h8 : I' 8 = I 8) (h6 : I' 6 5 = 0 → I 6 5 = 0) (m0 : M' 140 sd = M 140 sd) (m1 : M' 141 sd = M 141 sd) (m2 : M' 142 = M 142) : dW sd I' M' := by
  obtain ⟨w, hh, a1, ⟨a2, a3⟩, ⟨a4, a5⟩, a6⟩ := h
  refine ⟨w, hh, a1, ⟨h0.trans a2, h1.trans a3⟩, ⟨m0.trans a4, m1.trans a5⟩, fun e => ?_⟩
  obtain ⟨b1, b2⟩ := a6 (h6 e)
  exact ⟨b1, fun y x hy hx => by rw [h8, m2]; exact b2 y x hy hx⟩
def scRn (o j : Nat) : Bool := sc6S o j || ((Nat.beq o 7 && (Nat.beq j 0 || Nat.beq j 1)) || Nat.beq o 8)
def scRw (sd o j : Nat) : Bool := scFS o j || ((Nat.beq o 140 || (Nat.beq o 141 || Nat.beq o 142)) && scRM sd o j)
theorem Same.Rn {I J : XI} (h : Same sc6S I J) : Same scRn I J := h.mono (fun o j e => by
  unfold scRn at e
  exact (Bool.or_eq_false_iff.mp e).1)
theorem Same.Rw {sd : Nat} {I J : XI} (h : Same scFS I J) : Same (scRw sd) I J := h.mono (fun o j e => by
  unfold scRw at e
  exact (Bool.or_eq_false_iff.mp e).1)
theorem Same.W8 {lo : Nat} {I J : XI} (h : Same (scW lo) I J) : Same scRn I J := fun o j e => by
  refine h o j ?_
  unfold scRn at e
  unfold scW scW8
  simp only [Bool.or_eq_false_iff, Bool.and_eq_false_iff] at e ⊢
  refine ⟨Or.inl e.2.2, ?_⟩
  rcases e.2.1 with h1 | h1
  · exact Or.inl h1
  · exact Or.inr h1.1
theorem Same.V2 {sd h : Nat} {I J : XI} (hs : Same (scV2 (30 * sd + 6 * h)) I J) (hh : h < 5) : Same (scRw sd) I J := fun o j e => by
  refine hs o j ?_
  unfold scRw at e
  unfold scV2
  cases h1 : Nat.beq o 142 with
  | false => rfl
  | true =>
    rw [Bool.true_and]
    have ho : o = 142 := Nat.eq_of_beq_eq_true h1
    subst ho
    have e2 := (Bool.or_eq_false_iff.mp e).2
    have e3 : (true && scRM sd 142 j) = false := e2
    rw [Bool.true_and] at e3
    have e4 : (rg (30 * sd) 30 j || false) = false := by
      have : scRM sd 142 j = (rg (30 * sd) 30 j || false) := Eq.refl _
      rw [← this]; exact e3
    rw [Bool.or_false] at e4
    cases hr : rg (30 * sd + 6 * h) 6 j with
    | false => rfl
    | true =>
      unfold rg at hr e4
      rw [Bool.and_eq_true] at hr
      have a1 := Nat.le_of_ble_eq_true hr.1
      have a2 : ¬ 30 * sd + 6 * h + 6 ≤ j := fun h' => by
        rw [Nat.ble_eq_true_of_le h'] at hr
        cases hr.2
      rw [Nat.ble_eq_true_of_le (show 30 * sd ≤ j by omega)] at e4
      cases hb : Nat.ble (30 * sd + 30) j with
      | true =>
        have := Nat.le_of_ble_eq_true hb
        omega
      | false => rw [hb] at e4; cases e4
theorem lv_ok {b : Nat → Int32} {n i x : Nat} (h : kd b n i = 2) (hx : x < ln b n i) (hg : gl (ch b n i x) = true) : lvc (ch b n i x) = 9 ∨ ∃ k, k < 5 ∧ lvc (ch b n i x) = Int32.ofNat k := by
  obtain ⟨-, c2, c3⟩ := ch_ok h hx
  unfold lvc
  unfold gl at hg
  by_cases e : ch b n i x = 111
  · rw [if_pos e]; exact Or.inl rfl
  · rw [decide_eq_false e, Bool.false_or] at hg
    have := of_decide_eq_true hg
    rw [if_neg e]
    exact Or.inr ⟨ch b n i x - 97, by omega, rfl⟩
theorem m_178 {F : Nat} {b : Nat → Int32} {n t sd h : Nat} {L : XL} {M : XI} (hsd : sd < 2) (hg : gm b n L t M) (h19 : M 131 19 = Int32.ofNat sd) (h141 : M 141 sd = Int32.ofNat h) : xOk (f_M_tellRow_178 F L M) (fun q => match acR b n 59 t with
  | Sum.inl e => bm b n e q ∧ Same scF3 M q
  | Sum.inr t' => gm b n L t' q ∧ q 141 sd = Int32.ofNat (h + 1) ∧ ∃ K, Same scF3 M K ∧ q = xput K 141 sd (Int32.ofNat (h + 1))) := by
  unfold f_M_tellRow_178
  refine (gm_must (k := 59) hg (by omega) (by omega) rfl).bnd (fun K hK => ?_)
  obtain ⟨k1, k2⟩ := hK
  cases ha : acR b n 59 t with
  | inl e =>
    rw [ha] at k2
    exact xOk.neg (bm_v k2).1 (xOk.pur ⟨k2, k1⟩)
  | inr t' =>
    rw [ha] at k2
    refine xOk.pos k2.2.1.2 ?_
    rw [k1 131 19 rfl, h19, nk_N (show sd < 2147483648 by omega), k1 141 sd rfl, h141, nk_succ]
    refine xOk.ck (nk_in hsd (by omega)) (xOk.ck (nk_in hsd (by omega)) (xOk.st (xOk.pur ⟨⟨k2.1, ⟨?_, ?_⟩, tkM_same k2.2.2 ?_ ?_ ?_⟩, xput_eq, K, k1, rfl⟩)))
    · rw [xput_neo (by omega)]; exact k2.2.1.1
    · rw [xput_neo (by omega)]; exact k2.2.1.2
    · rw [xput_neo (by omega)]
    · rw [xput_neo (by omega)]
    · rw [xput_neo (by omega)]
theorem pr_row {F : Nat} (hF : 4000000 ≤ F) {b : Nat → Int32} {n t sd : Nat} {L : XL} {I M : XI} (hn : n ≤ 2000) (hsd : sd < 2) (hT : txC b n I) (h : Rs b n L (Sum.inr t) I M) (hk : kd b n t = 100) (h19 : M 131 19 = Int32.ofNat sd) (hD : dW sd I M) :
    pr (f_Reader_readRow F I) ((f_M_roomFor (M 141 sd) 5 M).bind fun q12 => if (q12 131 13) = 0 then ((f_M_tellRow F L q12).bind fun q14 => some (q14, L)) else (some (q12, L))) (fun r q => (q.2 = L ∧ tlQ b n L t (dW sd) r q.1) ∧ (Same scRn I r ∧ (r 6 5 = 0 → I 6 5 = 0)) ∧ Same (scRw sd) M q.1) := by
  obtain ⟨w, hh, ⟨d1, d2⟩, ⟨d3, d4⟩, ⟨d5, d6⟩, d7⟩ := hD
  have hs := h.2 t rfl
  unfold f_Reader_readRow
  rw [d4, d6]
  by_cases e5 : hh = 5
  · rw [e5]
    refine pr.lneg (show ¬ Int32.ofNat 5 < 5 by decide) (pr.lb (gd_fail (k := 2) h.1.1 (Or.inr rfl)) (fun K hK => ?_))
    refine pr.rb (m_full (v := 5) h.1.2) (fun G hG => ?_)
    exact pr.rneg (bm_v hG.1).1 (pr.pur ⟨⟨rfl, Sum.inl (2, t), ⟨⟨hK.1, hG.1⟩, fun t' ht' => by cases ht'⟩, fun t' ht' => by cases ht'⟩, ⟨hK.2.S6.Rn, fun e => (hK.2 6 5 rfl).symm.trans e⟩, hG.2.FS.Rw⟩)
  · have hroom : f_M_roomFor (Int32.ofNat hh) 5 M = f_M_goesOn M := m_room h.1.2 (by rw [show (5 : Int32) = Int32.ofNat 5 from rfl, nk_eq (by omega) (by omega)]; exact e5)
    rw [hroom]
    refine pr.lpos (nk_lt_t (b := 5) (by omega) (by omega)) ?_
    refine (pr_go (k := 100) h hk (by omega)).bnd (fun r2 q12 hp => ?_)
    obtain ⟨⟨hR2, hf2⟩, s2, m12⟩ := hp
    have ht1 : ∀ t', acR b n 100 t = Sum.inr t' → t' = t + 1 := fun t' ht' => (acR_t ht').1
    generalize acR b n 100 t = a2 at hR2 ht1
    cases a2 with
    | inl e =>
      obtain ⟨⟨b1, b2'⟩, -⟩ := hR2
      exact pr.rneg (bm_v b2').1 (pr.lbe (bd_accept b1) (pr.lpos rfl (pr.pur ⟨⟨rfl, Sum.inl e, ⟨⟨b1, b2'⟩, fun t' ht' => by cases ht'⟩, fun t' ht' => by cases ht'⟩, ⟨s2.S6.Rn, fun e => (s2 6 5 rfl).symm.trans e⟩, m12.FS.Rw⟩)))
    | inr t1 =>
      have ht1 := ht1 t1 rfl
      subst ht1
      have hg1 := hR2.1.1
      have hgm1 := hR2.1.2
      have ht4 := hg1.1.1
      refine pr.rpos hgm1.2.1.2 ?_
      unfold f_M_tellRow
      have flat : ∀ {α β γ : Type} (x : Option α) (f : α → Option β) (g : β → Option γ), ((x.bind f).bind g) = x.bind (fun a => (f a).bind g) := fun x f g => by cases x <;> rfl
      rw [flat, hgm1.2.1.1, hg1.2.1.1, nk_N (show t + 1 < 2147483648 by omega)]
      refine (pr_acc (k := 2) hR2 (by omega) (by omega) rfl).bnd (fun r3 q3 h3 => ?_)
      obtain ⟨⟨hR3, hf3⟩, s3, m3⟩ := h3
      have hmI : Sm I r3.2 := s2.Sm.trans s3.Sm
      have hmM : Same scFS M q3 := m12.FS.trans m3.FS
      cases ha : acX b n 2 (Sum.inr (t + 1)) with
      | inl e =>
        rw [ha] at hR3 hf3
        obtain ⟨⟨b1, b2'⟩, -⟩ := hR3
        refine pr.lpos hf3 ?_
        rw [if_neg (bm_v b2').2.1]
        exact pr.pur ⟨⟨rfl, Sum.inl e, ⟨⟨b1, b2'⟩, fun t' ht' => by cases ht'⟩, fun t' ht' => by cases ht'⟩, ⟨hmI.1.Rn, hmI.2⟩, hmM.Rw⟩
      | inr t2 =>
        rw [ha] at hR3 hf3
        obtain ⟨t1', et1, c2, hk2⟩ := acX_t ha
        have et1 := Sum.inr.inj et1
        subst et1
        refine pr.lneg (by rw [hf3]; exact (show ¬ (1 : Int32) = 0 by decide)) ?_
        have hl := (nm_ok hk2).1
        have hchs : ∀ x, x < ln b n (t + 1) → 97 ≤ xN (b (plc b n (t + 1) + x)) ∧ xN (b (plc b n (t + 1) + x)) ≤ 122 := fun x hx => (ch_ok hk2 hx).2
        have hL137 : L 137 (t + 1) = Int64.ofNat (nvN (fun x => xN (b (plc b n (t + 1) + x))) (ln b n (t + 1))) := (hR3.1.2.2.2 (t + 1) hg1.1).2.2 hk2
        have q19 : q3 131 19 = Int32.ofNat sd := (hmM 131 19 rfl).trans h19
        have q141 : q3 141 sd = Int32.ofNat hh := (hmM 141 sd rfl).trans d6
        have q140 : q3 140 sd = Int32.ofNat w := (hmM 140 sd rfl).trans d5
        rw [if_pos (show q3 131 13 ≤ 0 by rw [hR3.1.2.2.1.2]; exact Int32.le_refl _), xck_true (nk_in (by omega) (by omega)), hL137, m_lettersIn hF (by omega) hchs]
        show pr _ (Option.bind (xck (xin (q3 131 19) 2) _) _) _
        rw [q19, xck_true (nk_in hsd (by omega)), nk_N (show sd < 2147483648 by omega), q141]
        -- the width
        obtain ⟨w', hw'⟩ : ∃ w', w' = if hh = 0 then ln b n (t + 1) else w := ⟨_, rfl⟩
        have hw8 : w' ≤ 8 := by rw [hw']; split <;> omega
        have hmid : ∃ J, (Same (scRw sd) q3 J ∧ J 140 sd = Int32.ofNat w' ∧ J 141 sd = Int32.ofNat hh ∧ J 131 = q3 131 ∧ (J 134 = q3 134 ∧ J 135 = q3 135 ∧ J 136 = q3 136) ∧ (∀ j, ¬ (30 * sd + 6 * hh ≤ j ∧ j < 30 * sd + 6 * hh + 6) → J 142 j = q3 142 j) ∧ (rowG b n (t + 1) w' = true → ∀ x, x < ln b n (t + 1) → J 142 (30 * sd + 6 * hh + x) = lvc (ch b n (t + 1) x))) ∧ (if Int32.ofNat hh = 0 then xck (xin (Int32.ofNat sd) 2) (xst (xput q3 140 sd (Int32.ofNat (ln b n (t + 1)))) fun I8 => f_M_tellRow_50 F L (Int32.ofNat (t + 1)) (Int32.ofNat (ln b n (t + 1))) I8) else f_M_tellRow_50 F L (Int32.ofNat (t + 1)) (Int32.ofNat (ln b n (t + 1))) q3) = if rowG b n (t + 1) w' = true then f_M_tellRow_178 F L J else (f_M_wrong 6 (Int32.ofNat (t + 1)) J).bind fun q => f_M_tellRow_178 F L q := by
          have go : ∀ Y, Same (scRw sd) q3 Y → Y 140 sd = Int32.ofNat w' → Y 141 sd = Int32.ofNat hh → Y 131 = q3 131 → (Y 134 = q3 134 ∧ Y 135 = q3 135 ∧ Y 136 = q3 136) → Y 142 = q3 142 → ∃ J, (Same (scRw sd) q3 J ∧ J 140 sd = Int32.ofNat w' ∧ J 141 sd = Int32.ofNat hh ∧ J 131 = q3 131 ∧ (J 134 = q3 134 ∧ J 135 = q3 135 ∧ J 136 = q3 136) ∧ (∀ j, ¬ (30 * sd + 6 * hh ≤ j ∧ j < 30 * sd + 6 * hh + 6) → J 142 j = q3 142 j) ∧ (rowG b n (t + 1) w' = true → ∀ x, x < ln b n (t + 1) → J 142 (30 * sd + 6 * hh + x) = lvc (ch b n (t + 1) x))) ∧ f_M_tellRow_50 F L (Int32.ofNat (t + 1)) (Int32.ofNat (ln b n (t + 1))) Y = if rowG b n (t + 1) w' = true then f_M_tellRow_178 F L J else (f_M_wrong 6 (Int32.ofNat (t + 1)) J).bind fun q => f_M_tellRow_178 F L q := by
            intro Y y1 y2 y3 y4 y5 y6
            obtain ⟨J, ⟨j1, j2⟩, j3⟩ := m_row50 hF (tkM_same hR3.1.2.2.2 y5.1 y5.2.1 y5.2.2) hg1.1 hk2 (show hh < 5 by omega) hsd (by rw [y4]; exact q19) y3 y2 hw8
            refine ⟨J, ⟨y1.trans (j1.V2 (by omega)), (j1 140 sd rfl).trans y2, (j1 141 sd rfl).trans y3, (j1.row 131 (fun _ => rfl)).trans y4, ⟨(j1.row 134 (fun _ => rfl)).trans y5.1, (j1.row 135 (fun _ => rfl)).trans y5.2.1, (j1.row 136 (fun _ => rfl)).trans y5.2.2⟩, fun j hj => ?_, j2⟩, j3⟩
            rw [← y6]
            refine j1 142 j ?_
            show (true && rg (30 * sd + 6 * hh) 6 j) = false
            rw [Bool.true_and]
            exact rg_out (by omega)
          by_cases e0 : hh = 0
          · rw [if_pos (by rw [e0]; rfl), xck_true (nk_in hsd (by omega))]
            rw [if_pos e0] at hw'
            have hp : Same (scRw sd) q3 (xput q3 140 sd (Int32.ofNat (ln b n (t + 1)))) := by
              refine Same.put ?_
              show (scFS 140 sd || (true && scRM sd 140 sd)) = true
              have : scRM sd 140 sd = (Nat.beq sd sd || false) := rfl
              rw [this, Nat.beq_refl]
              rfl
            exact go _ hp (by rw [xput_eq, hw']) (by rw [xput_neo (by omega)]; exact q141) (xput_neo (by omega)) ⟨xput_neo (by omega), xput_neo (by omega), xput_neo (by omega)⟩ (xput_neo (by omega))
          · rw [if_neg (by rw [show (0 : Int32) = Int32.ofNat 0 from rfl, nk_eq (by omega) (by omega)]; exact e0)]
            rw [if_neg e0] at hw'
            exact go q3 Same.rfl (by rw [hw']; exact q140) q141 rfl ⟨rfl, rfl, rfl⟩ rfl
        obtain ⟨J, ⟨j1, j2, j3, j4, j5, j6, j7⟩, jeq⟩ := hmid
        have bindsome : ∀ (x : Option XI) (P : XI → XI × XL → Prop) (y : Option XI), pr y x (fun r q => P r (q, L)) → pr y (x.bind fun q14 => some (q14, L)) P := by
          intro x P y hx
          obtain ⟨r, q, ⟨e1, e2⟩, hp⟩ := hx
          exact ⟨r, (q, L), ⟨e1, by rw [e2]; rfl⟩, hp⟩
        refine bindsome _ _ _ ?_
        rw [jeq]
        have hgJ : gm b n L t2 J := ⟨hR3.1.2.1, ⟨by rw [j4]; exact hR3.1.2.2.1.1, by rw [j4]; exact hR3.1.2.2.1.2⟩, tkM_same hR3.1.2.2.2 j5.1 j5.2.1 j5.2.2⟩
        have hJ19 : J 131 19 = Int32.ofNat sd := by rw [j4]; exact q19
        have hJ135 : J 135 (t + 1) = Int32.ofNat (plc b n (t + 1)) := by rw [j5.2.1]; exact ((hR3.1.2.2.2 (t + 1) hg1.1).1).2
        have hSL3 : SLr b n (t + 1) r3.2 J := SLr_same (hR2.2 (t + 1) rfl) (s3 6 5 rfl) (s3 6 6 rfl) (by rw [j4]; exact m3 131 15 rfl) (by rw [j4]; exact m3 131 16 rfl)
        have hJ13 : J 131 13 = 0 := hgJ.2.1.2
        have hJM : Same (scRw sd) M J := hmM.Rw.trans j1
        refine pr.lb (gd_accept (k := 59) hR3.1.1 (by omega) (by omega)) (fun r5 h5 => ?_)
        obtain ⟨s5, h5'⟩ := h5
        cases ha5 : acR b n 59 t2 with
        | inl e =>
          rw [ha5] at h5'
          refine pr.lpos h5'.1 ?_
          have fin : ∀ Y, gm b n L t2 Y → Y 131 19 = Int32.ofNat sd → Y 141 sd = Int32.ofNat hh → Same (scRw sd) M Y → pr (some r5.2) (f_M_tellRow_178 F L Y) (fun r q => ((q, L).2 = L ∧ tlQ b n L t (dW sd) r (q, L).1) ∧ (Same scRn I r ∧ (r 6 5 = 0 → I 6 5 = 0)) ∧ Same (scRw sd) M (q, L).1) := by
            intro Y y1 y2 y3 y4
            obtain ⟨q, hq, hq'⟩ := m_178 (F := F) hsd y1 y2 y3
            rw [ha5] at hq'
            exact pr.mk' rfl hq ⟨⟨rfl, Sum.inl e, ⟨⟨h5'.2, hq'.1⟩, fun t' ht' => by cases ht'⟩, fun t' ht' => by cases ht'⟩, ⟨(hmI.1.trans s5.S6).Rn, fun e => hmI.2 ((s5 6 5 rfl).symm.trans e)⟩, y4.trans hq'.2.FS.Rw⟩
          by_cases hg : rowG b n (t + 1) w' = true
          · rw [if_pos hg]; exact fin J hgJ hJ19 j3 hJM
          · rw [if_neg hg]
            have hmk := pr_mark (k := 6) hn hSL3 hg1.1 (by omega) hJ135 hJ13
            obtain ⟨r', q', ⟨-, e2⟩, -, -, -, k4, k5⟩ := hmk
            have e2 : f_M_wrong 6 (Int32.ofNat (t + 1)) J = some q' := e2
            rw [e2]
            exact fin q' (gm_fields hgJ k4 (k5 11 (by omega)) (k5 13 (by omega))) ((k5 19 (by omega)).trans hJ19) ((k4 141 sd rfl).trans j3) (hJM.trans k4.Rw)
        | inr t5 =>
          rw [ha5] at h5'
          have ht5 := (acR_t ha5).1
          refine pr.lneg (by rw [h5'.1]; decide) ?_
          have hT5 : txC b n r5.2 := txC_same hT ((s5 1 1 rfl).trans (hmI.1 1 1 rfl)) ((s5.row 2 (fun _ => rfl)).trans (hmI.1.row 2 (fun _ => rfl)))
          have h570 : r5.2 7 0 = Int32.ofNat w := ((s5 7 0 rfl).trans (hmI.1 7 0 rfl)).trans d3
          have h571 : r5.2 7 1 = Int32.ofNat hh := ((s5 7 1 rfl).trans (hmI.1 7 1 rfl)).trans d4
          have h58 : r5.2 8 = I 8 := (s5.row 8 (fun _ => rfl)).trans (hmI.1.row 8 (fun _ => rfl))
          obtain ⟨I4, ⟨i1, i2, i3⟩, ieq⟩ := c_addRow hF hT5 h5'.2.2.2 hg1.1 hk2 (show hh < 5 by omega) h570 d1 h571
          rw [← hw'] at i2 i3 ieq
          rw [ieq]
          have i1n : Same scRn r5.2 I4 := i1.W8
          have hI4 : Same scRn I I4 := ((hmI.1.trans s5.S6).Rn).trans i1n
          have i6 : I4 6 = r5.2 6 := i1.row 6 (fun _ => rfl)
          have i71 : I4 7 1 = Int32.ofNat hh := (i1 7 1 rfl).trans h571
          have hgd4 : gd b n t5 I4 := ⟨h5'.2.1, ⟨by rw [i6]; exact h5'.2.2.1.1, by rw [i6]; exact h5'.2.2.1.2⟩, tkC_same h5'.2.2.2 (i1.row 3 (fun _ => rfl)) (i1.row 4 (fun _ => rfl)) (i1.row 5 (fun _ => rfl))⟩
          have hSL4 : SLr b n (t + 1) I4 J := SLr_same hSL3 (by rw [i6]; exact s5 6 5 rfl) (by rw [i6]; exact s5 6 6 rfl) rfl rfl
          have i8 : ∀ j, ¬ (6 * hh ≤ j ∧ j < 6 * hh + 6) → I4 8 j = I 8 j := fun j hj => by
            rw [← h58]
            refine i1 8 j ?_
            show (rg (6 * hh) 6 j || false) = false
            rw [rg_out (by omega)]
            rfl
          have h65 : I4 6 5 = I 6 5 ∨ ¬ I4 6 5 = 0 := by
            by_cases e : I4 6 5 = 0
            · left
              have : r3.2 6 5 = 0 := by rw [← s5 6 5 rfl, ← i6]; exact e
              rw [e, hmI.2 this]
            · exact Or.inr e
          -- the end, in worlds alike but in the slight faults
          have fin : ∀ X Y, gd b n t5 X → gm b n L t2 Y → SLr b n t5 X Y → Same sc6S I4 X → Same scFS J Y → (X 6 5 = 0 → I 6 5 = 0 ∧ rowG b n (t + 1) w' = true) → Y 131 19 = Int32.ofNat sd → pr ((f_Reader_addRow_166 F X).bind fun q7 => some q7) (f_M_tellRow_178 F L Y) (fun r q => ((q, L).2 = L ∧ tlQ b n L t (dW sd) r (q, L).1) ∧ (Same scRn I r ∧ (r 6 5 = 0 → I 6 5 = 0)) ∧ Same (scRw sd) M (q, L).1) := by
            intro X Y x1 y1 xs x2 y2 x3 y19
            obtain ⟨q, hq, hq'⟩ := m_178 (F := F) hsd y1 y19 ((y2 141 sd rfl).trans j3)
            rw [ha5] at hq'
            obtain ⟨g1, g2, K, g3, g4⟩ := hq'
            have x71 : X 7 1 = Int32.ofNat hh := (x2 7 1 rfl).trans i71
            have hX : (f_Reader_addRow_166 F X).bind (fun q7 => some q7) = some (xput X 7 1 (Int32.ofNat (hh + 1))) := by
              unfold f_Reader_addRow_166
              show some (xput X 7 1 (X 7 1 + 1)) = _
              rw [x71, nk_succ]
            have x6 : xput X 7 1 (Int32.ofNat (hh + 1)) 6 = X 6 := xput_neo (by omega)
            have q131 : ∀ j, q 131 j = K 131 j := fun j => by rw [g4, xput_neo (by omega)]
            have hq15 : q 131 15 = Y 131 15 := (q131 15).trans (g3 131 15 rfl)
            have hq16 : q 131 16 = Y 131 16 := (q131 16).trans (g3 131 16 rfl)
            have pq : Same (scRw sd) K q := by
              rw [g4]
              refine Same.put ?_
              show (scFS 141 sd || (true && scRM sd 141 sd)) = true
              have : scRM sd 141 sd = (Nat.beq sd sd || false) := rfl
              rw [this, Nat.beq_refl]
              rfl
            refine pr.mk' hX hq ⟨⟨rfl, Sum.inr t5, ⟨⟨⟨x1.1, ⟨by rw [x6]; exact x1.2.1.1, by rw [x6]; exact x1.2.1.2⟩, tkC_same x1.2.2 (xput_neo (by omega)) (xput_neo (by omega)) (xput_neo (by omega))⟩, g1⟩, fun t' ht' => ?_⟩, fun t' ht' => ⟨?_, ?_⟩⟩, ⟨(hI4.trans x2.Rn).trans (Same.put rfl), fun e => ?_⟩, ((hJM.trans y2.Rw).trans g3.FS.Rw).trans pq⟩
            · rw [← Sum.inr.inj ht']
              exact SLr_same xs (by rw [x6]) (by rw [x6]) hq15 hq16
            · have := Sum.inr.inj ht'
              omega
            · refine ⟨w', hh + 1, ⟨hw8, by omega⟩, ⟨?_, xput_eq⟩, ⟨?_, g2⟩, fun e => ?_⟩
              · rw [xput_ne (by omega), x2 7 0 rfl]; exact i2
              · show q 140 sd = _
                rw [g4, xput_neo (by omega), g3 140 sd rfl, y2 140 sd rfl]; exact j2
              · rw [x6] at e
                obtain ⟨z1, z2⟩ := x3 e
                obtain ⟨z3, z4⟩ := d7 z1
                have z2' := z2
                unfold rowG at z2'
                rw [Bool.and_eq_true, Bool.and_eq_true] at z2'
                obtain ⟨⟨zl, z6⟩, zall⟩ := z2'
                have zl := of_decide_eq_true zl
                have z6 := of_decide_eq_true z6
                refine ⟨by omega, fun y x hy hx => ?_⟩
                have q142 : ∀ j, q 142 j = J 142 j := fun j => by
                  rw [g4, xput_neo (by omega), g3 142 j rfl, y2 142 j rfl]
                have X8 : ∀ j, xput X 7 1 (Int32.ofNat (hh + 1)) 8 j = I4 8 j := fun j => by rw [xput_neo (by omega), x2 8 j rfl]
                show xput X 7 1 (Int32.ofNat (hh + 1)) 8 (6 * y + x) = q 142 (30 * sd + (6 * y + x)) ∧ _
                rw [q142, X8]
                by_cases ey : y = hh
                · have hxl : x < ln b n (t + 1) := by omega
                  rw [ey, i3 z2 x hxl, show 30 * sd + (6 * hh + x) = 30 * sd + 6 * hh + x by omega, j7 z2 x hxl]
                  exact ⟨rfl, lv_ok hk2 hxl (allB_iff.mp zall x hxl)⟩
                · have hw0 : w' = w := by rw [hw', if_neg (by omega)]
                  rw [i8 _ (by omega), j6 _ (by omega), hmM 142 _ rfl]
                  exact z4 y x (by omega) (by omega)
            · rw [x6] at e
              exact (x3 e).1
          have monI4 : I4 6 5 = 0 → I 6 5 = 0 := fun e => by
            rcases h65 with h' | h'
            · rw [← h']; exact e
            · exact absurd e h'
          cases hg : rowG b n (t + 1) w' with
          | true =>
            rw [if_pos rfl, if_pos rfl]
            exact fin I4 J hgd4 hgJ (SLr_up hSL4 (by omega)) Same.rfl Same.rfl (fun e => ⟨monI4 e, hg⟩) hJ19
          | false =>
            rw [if_neg (by decide), if_neg (by decide), flat]
            have hmk := pr_mark (k := 6) hn hSL4 hg1.1 (by omega) hJ135 hJ13
            obtain ⟨r', q', ⟨e1, e2⟩, ⟨s, s1, s0, s2', j, jj1, jj2, jj3, jj4⟩, k2, k3, k4, k5⟩ := hmk
            have e1 : f_Reader_mark 6 (Int32.ofNat (plc b n (t + 1))) I4 = some r' := e1
            have e2 : f_M_wrong 6 (Int32.ofNat (t + 1)) J = some q' := e2
            rw [e1, e2]
            refine fin r' q' (gd_fields hgd4 k2 (k3 2 (by omega)) (k3 3 (by omega))) (gm_fields hgJ k4 (k5 11 (by omega)) (k5 13 (by omega))) ⟨s, s1, s2', fun h => absurd h s0, fun _ => ⟨j, ⟨by omega, jj2⟩, jj3, jj4⟩⟩ k2 k4 (fun e => ?_) ((k5 19 (by omega)).trans hJ19)
            rw [s2'.1, show (0 : Int32) = Int32.ofNat 0 from rfl, nk_eq (by omega) (by omega)] at e
            exact absurd e s0
