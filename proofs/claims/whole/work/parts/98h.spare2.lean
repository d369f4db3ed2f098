/-! both readers: a spare, its name -/
theorem pr_names {F : Nat} (hF : 4000000 ≤ F) {b : Nat → Int32} {n sd m t tk : Nat} {L : XL} {I0 M0 : XI} {v1 : Int32} {KC : XI → Option XI} {Q : XI → XI × XL → Prop} (hn : n ≤ 2000) (hm : m < 5) (htk : reach b n tk ∧ kd b n tk = 2) (hD : dP b n sd I0 M0 L) (h72 : I0 7 2 = Int32.ofNat m) (hT : txC b n I0) (ht : gd b n t I0 ∧ gm b n L t M0)
    (hend : ∀ I M, SLn b n tk I M → gd b n t I → gm b n L t M → Sm I0 I → Same scFS M0 M → pr (KC (xput I 16 m (Int32.ofNat tk))) (f_M_tellSpare_74 F F v1 (Int32.ofNat tk) 0 M L) Q) :
    ∀ j e k k' I M, e + j = m → j < k → j < k' → SLn b n tk I M → gd b n t I → gm b n L t M → Sm I0 I → Same scFS M0 M → pr ((f_Reader_addSpareName_2 F k (Int32.ofNat tk) (Int32.ofNat e) I).bind KC) (f_M_tellSpare_29 F k' v1 (Int32.ofNat tk) (Int32.ofNat e) M L) Q := by
  have htk4 := htk.1.1
  intro j
  induction j with
  | zero =>
    intro e k k' I M he hk hk' hs hg hgm hI hM
    obtain ⟨k, rfl⟩ : ∃ q, k = q + 1 := ⟨k - 1, by omega⟩
    obtain ⟨k', rfl⟩ : ∃ q, k' = q + 1 := ⟨k' - 1, by omega⟩
    obtain ⟨m', ⟨a1, a2⟩, ⟨a3, a4⟩, a5, a6⟩ := hD
    have i72 : I 7 2 = Int32.ofNat m := (hI.1 7 2 rfl).trans h72
    have hmm : m' = m := by
      rw [h72, nk_eq (by omega) (by omega)] at a2
      omega
    subst hmm
    have m20 : M 131 20 = Int32.ofNat m' := (hM 131 20 rfl).trans a4
    rw [f_Reader_addSpareName_2, f_M_tellSpare_29, i72, m20, show e = m' by omega]
    rw [if_pos (Int32.le_refl _), if_pos (Int32.le_refl _), xck_true (nk_in (by omega) (by omega)), nk_N (by omega)]
    exact hend I M hs hg hgm hI hM
  | succ j ih =>
    intro e k k' I M he hk hk' hs hg hgm hI hM
    obtain ⟨k, rfl⟩ : ∃ q, k = q + 1 := ⟨k - 1, by omega⟩
    obtain ⟨k', rfl⟩ : ∃ q, k' = q + 1 := ⟨k' - 1, by omega⟩
    have ih := ih (e + 1) k k'
    obtain ⟨m', ⟨a1, a2⟩, ⟨a3, a4⟩, a5, a6⟩ := hD
    have i72 : I 7 2 = Int32.ofNat m := (hI.1 7 2 rfl).trans h72
    have hmm : m' = m := by
      rw [h72, nk_eq (by omega) (by omega)] at a2
      omega
    subst hmm
    have m20 : M 131 20 = Int32.ofNat m' := (hM 131 20 rfl).trans a4
    obtain ⟨i, ⟨i1, i2⟩, i3, i4⟩ := a6 e (by omega)
    have hT' : txC b n I := txC_same hT (hI.1 1 1 rfl) (hI.1.row 2 (fun _ => rfl))
    have i16 : I 16 e = Int32.ofNat i := (hI.1 16 e rfl).trans i3
    have hlg : decide (lg_cmp (L 139 e) (L 137 tk) = 0) = decide (nm b n tk = nm b n i) := by
      rw [i4, (hgm.2.2 tk htk.1).2.2 htk.2]
      have hbig : ∀ x, kd b n x = 2 → nm b n x < 9223372036854775808 := fun x hx => nvN_big (nm_ok hx).1.2.1 (fun t ht => (lt_ok ((nm_ok hx).2 t ht)).2)
      by_cases ee : nm b n tk = nm b n i
      · rw [decide_eq_true ee, decide_eq_true (by rw [lg_z, ee])]
      · rw [decide_eq_false ee, decide_eq_false (by rw [lg_z]; exact fun h => ee (i64_inj (hbig i i2) (hbig tk htk.2) h).symm)]
    rw [f_Reader_addSpareName_2, f_M_tellSpare_29, i72, m20]
    rw [if_neg (nk_nge (by omega) (by omega)), if_neg (nk_nge (by omega) (by omega)), if_pos hgm.2.1.2, xck_true (nk_in (by omega) (by omega)), xck_true (nk_in (by omega) (by omega)), xck_true (nk_in (show tk < 403 by omega) (by omega)), nk_N (show e < 2147483648 by omega), nk_N (show tk < 2147483648 by omega), i16, c_same hF hT' hg.2.2 htk.1 i1 htk.2 i2, nk_succ]
    show pr ((if b2 (decide (nm b n tk = nm b n i)) = 0 then _ else _ : Option XI).bind KC) _ Q
    by_cases ee : nm b n tk = nm b n i
    · rw [decide_eq_true ee, if_neg (by decide), xck_true (nk_in (by omega) (by omega)), ((hg.2.2 tk htk.1).1).2]
      rw [if_pos (show lg_cmp (L 139 e) (L 137 tk) = 0 from of_decide_eq_true (hlg.trans (decide_eq_true ee)))]
      have hmk := pr_mark3 hn hs htk.1 ((hgm.2.2 tk htk.1).1).2 hgm.2.1.2
      obtain ⟨r, q, ⟨e1, e2⟩, h1, ⟨h2, h3⟩, h4, h5⟩ := hmk
      rw [e1, e2]
      exact ih r q (by omega) (by omega) (by omega) h1 (gd_fields hg h2.1 (h3 2 (by omega)) (h3 3 (by omega))) (gm_fields hgm h4 (h5 11 (by omega)) (h5 13 (by omega))) (hI.trans h2) (hM.trans h4)
    · rw [decide_eq_false ee, if_pos (show b2 false = 0 from rfl), xck_true (nk_in (by omega) (by omega)), if_neg (show ¬ lg_cmp (L 139 e) (L 137 tk) = 0 from of_decide_eq_false (hlg.trans (decide_eq_false ee)))]
      exact ih I M (by omega) (by omega) (by omega) hs hg hgm hI hM
theorem pr_spare {F : Nat} (hF : 4000000 ≤ F) {b : Nat → Int32} {n t sd : Nat} {L : XL} {I M : XI} (hn : n ≤ 2000) (hsd : sd < 2) (hT : txC b n I) (h : Rs b n L (Sum.inr t) I M) (hk : kd b n t = 102) (h19 : M 131 19 = Int32.ofNat sd) (hD : dP b n sd I M L) :
    pr (f_Reader_readSpare F I) ((f_M_roomFor (M 146 sd) 5 M).bind fun q22 => if (q22 131 13) = 0 then ((f_M_tellSpare F q22 L).bind fun q24 => some (q24.1, q24.2)) else (some (q22, L))) (spQ b n sd L t I M) := by
  obtain ⟨m, ⟨d1, d2⟩, ⟨d3, d4⟩, d5, d6⟩ := id hD
  have hs := h.2 t rfl
  unfold f_Reader_readSpare
  rw [d2, d3]
  by_cases e5 : m = 5
  · rw [e5]
    refine pr.lneg (show ¬ Int32.ofNat 5 < 5 by decide) (pr.lb (gd_fail (k := 2) h.1.1 (Or.inr rfl)) (fun K hK => ?_))
    refine pr.rb (m_full (v := 5) h.1.2) (fun G hG => ?_)
    exact pr.rneg (bm_v hG.1).1 (pr.pur ⟨⟨fun _ _ => rfl, Sum.inl (2, t), ⟨⟨hK.1, hG.1⟩, fun t' ht' => by cases ht'⟩, fun t' ht' => by cases ht'⟩, ⟨hK.2.S6.Sn, fun e => (hK.2 6 5 rfl).symm.trans e⟩, hG.2.FS.Sq⟩)
  · have hroom : f_M_roomFor (Int32.ofNat m) 5 M = f_M_goesOn M := m_room h.1.2 (by rw [show (5 : Int32) = Int32.ofNat 5 from rfl, nk_eq (by omega) (by omega)]; exact e5)
    rw [hroom]
    refine pr.lpos (nk_lt_t (b := 5) (by omega) (by omega)) ?_
    refine (pr_go (k := 102) h hk (by omega)).bnd (fun r2 q22 hp => ?_)
    obtain ⟨⟨hR2, hf2⟩, s2, m22⟩ := hp
    have ht1 : ∀ t', acR b n 102 t = Sum.inr t' → t' = t + 1 := fun t' ht' => (acR_t ht').1
    generalize acR b n 102 t = a2 at hR2 ht1
    cases a2 with
    | inl e =>
      obtain ⟨⟨b1, b2'⟩, -⟩ := hR2
      refine pr.rneg (bm_v b2').1 (pr.lbe (bd_accept b1) (pr.lpos rfl ?_))
      unfold f_Reader_readSpare_91
      exact pr.lbe (bd_accept b1) (pr.pur ⟨⟨fun _ _ => rfl, Sum.inl e, ⟨⟨b1, b2'⟩, fun t' ht' => by cases ht'⟩, fun t' ht' => by cases ht'⟩, ⟨s2.S6.Sn, fun e => (s2 6 5 rfl).symm.trans e⟩, m22.FS.Sq⟩)
    | inr t1 =>
      have ht1 := ht1 t1 rfl
      subst ht1
      have hg1 := hR2.1.1
      have hgm1 := hR2.1.2
      have ht4 := hg1.1.1
      refine pr.rpos hgm1.2.1.2 ?_
      unfold f_M_tellSpare
      have q19 : q22 131 19 = Int32.ofNat sd := (m22 131 19 rfl).trans h19
      have q146 : q22 146 sd = Int32.ofNat m := (m22 146 sd rfl).trans d3
      rw [q19, xck_true (nk_in hsd (by omega)), nk_N (show sd < 2147483648 by omega), q146, hgm1.2.1.1, hg1.2.1.1, show (5 : Int32) = Int32.ofNat 5 from rfl, nk_mul, nk_add]
      have flat : ∀ {α β γ : Type} (x : Option α) (f : α → Option β) (g : β → Option γ), ((x.bind f).bind g) = x.bind (fun a => (f a).bind g) := fun x f g => by cases x <;> rfl
      rw [flat]
      refine (pr_acc (k := 2) hR2 (by omega) (by omega) rfl).bnd (fun r3 q3 h3 => ?_)
      obtain ⟨⟨hR3, hf3⟩, s3, m3⟩ := h3
      have ret : ∀ (x : Option (XI × XL)), (x.bind fun q24 => some (q24.1, q24.2)) = x := fun x => by cases x <;> rfl
      rw [ret]
      have hmI : Sm I r3.2 := s2.Sm.trans s3.Sm
      have hmM : Same scFS M q3 := m22.FS.trans m3.FS
      cases ha : acX b n 2 (Sum.inr (t + 1)) with
      | inl e =>
        rw [ha] at hR3 hf3
        obtain ⟨⟨b1, b2'⟩, -⟩ := hR3
        refine pr.lpos hf3 ?_
        unfold f_Reader_readSpare_91
        refine pr.lbe (bd_accept b1) ?_
        obtain ⟨q, hq, hq1, hq2, hq3⟩ := bm_29 (tok := Int32.ofNat (t + 1)) (L := L) hF hsd (show m < 5 by omega) b2'
        rw [hq]
        exact pr.pur ⟨⟨fun _ _ => by rw [hq2], Sum.inl e, ⟨⟨b1, hq1⟩, fun t' ht' => by cases ht'⟩, fun t' ht' => by cases ht'⟩, ⟨hmI.1.Sn, hmI.2⟩, hmM.Sq.trans hq3⟩
      | inr t2 =>
        rw [ha] at hR3 hf3
        obtain ⟨t1', et1, c2, hk2⟩ := acX_t ha
        have et1 := Sum.inr.inj et1
        subst et1
        refine pr.lneg (by rw [hf3]; exact (show ¬ (1 : Int32) = 0 by decide)) ?_
        have htk : reach b n (t + 1) ∧ kd b n (t + 1) = 2 := ⟨hg1.1, hk2⟩
        have hD3 : dP b n sd r3.2 q3 L := dP_same hD (hmI.1 7 2 rfl) (hmI.1.row 10 (fun _ => rfl)) (hmI.1.row 16 (fun _ => rfl)) (hmM 146 sd rfl) (hmM 131 20 rfl) (hmM.row 147 (fun _ => rfl))
        have hT3 : txC b n r3.2 := txC_same hT (hmI.1 1 1 rfl) (hmI.1.row 2 (fun _ => rfl))
        have h723 : r3.2 7 2 = Int32.ofNat m := (hmI.1 7 2 rfl).trans d2
        have hSL : SLn b n (t + 1) r3.2 q3 := SLn_same (SLn_r (hR2.2 (t + 1) rfl)) (s3 6 5 rfl) (s3 6 6 rfl) (m3 131 15 rfl) (m3 131 16 rfl)
        have h193 : q3 131 19 = Int32.ofNat sd := (m3 131 19 rfl).trans q19
        unfold f_Reader_addSpareName
        refine pr_names (t := t2) (sd := sd) (m := m) (I0 := r3.2) (M0 := q3) hF hn (by omega) htk hD3 h723 hT3 ⟨hR3.1.1, hR3.1.2⟩ (fun I' M' l1 l2 l3 l4 l5 => ?_) m 0 F F r3.2 q3 (by omega) (by omega) (by omega) hSL hR3.1.1 hR3.1.2 Sm.rfl Same.rfl
        have p16 : Same scSn I' (xput I' 16 m (Int32.ofNat (t + 1))) := Same.put rfl
        have e6 : xput I' 16 m (Int32.ofNat (t + 1)) 6 = I' 6 := xput_neo (by omega)
        have hRR : Rs b n L (Sum.inr t2) (xput I' 16 m (Int32.ofNat (t + 1))) M' := ⟨⟨⟨l2.1, ⟨by rw [e6]; exact l2.2.1.1, by rw [e6]; exact l2.2.1.2⟩, tkC_same l2.2.2 (xput_neo (by omega)) (xput_neo (by omega)) (xput_neo (by omega))⟩, l3⟩, fun t' ht' => by
          rw [← Sum.inr.inj ht', c2]
          exact SLr_same (SLr_n l1) (by rw [e6]) (by rw [e6]) rfl rfl⟩
        refine (pr_44 (t := t) (tk := t + 1) (I0 := r3.2) (M0 := q3) (a := Sum.inr t2) hF hn hsd (show m < 5 by omega) htk hD3 h723 h193 hR3.1.2.2.2 4 0 F F _ M' (by omega) (by omega) (by omega) hRR ⟨l4.1.Sn.trans p16, ?_, ⟨?_, fun i _ => ?_⟩, fun e => l4.2 ?_⟩ ⟨l5.Sq, ⟨?_, ?_⟩, fun i _ => ?_⟩ (fun t' ht' => ⟨?_, fun s' hs' => absurd hs' (Nat.not_lt_zero s')⟩)).mono (fun r q hq => ?_)
        · funext e
          rw [xput_at]
          by_cases ee : e = m
          · rw [if_pos ee, if_pos ee]
          · rw [if_neg ee, if_neg ee]; exact l4.1 16 e rfl
        · rw [xput_neo (by omega), l4.1 7 2 rfl]; exact h723
        · rw [xput_neo (by omega)]; exact l4.1 10 i rfl
        · rw [e6] at e; exact e
        · rw [l5 131 20 rfl, hmM 131 20 rfl]; exact d4
        · rw [l5 146 sd rfl, hmM 146 sd rfl]; exact d3
        · exact l5 147 i rfl
        · have := Sum.inr.inj ht'
          omega
        · obtain ⟨z1, ⟨z2, z3⟩, z4⟩ := hq
          exact ⟨z1, ⟨hmI.1.Sn.trans z2, fun e => hmI.2 (z3 e)⟩, hmM.Sq.trans z4⟩
