/-! expressions: the reference's answer -/
theorem nxE_4 {t : Nat} {c : XC} (h : t = 400) : nxE t c = Sum.inl (Sum.inl (2, 400)) := by unfold nxE; rw [if_pos h]
theorem nxE_n {t : Nat} {c : XC} (h : ¬ t = 400) : nxE t c = Sum.inr c := by unfold nxE; rw [if_neg h]
theorem stB_op {b : Nat → Int32} {n t : Nat} {W : List Nat} {o : XP} (h : (isMul (kd b n t) || isAdd (kd b n t)) = true) : stB b n t W o = nxE t (true, t + 1, kd b n t :: (fl (isMul (kd b n t)) W o).1, (fl (isMul (kd b n t)) W o).2) := by
  unfold stB
  rw [if_neg (fun h' => (mul_n40 h).2.1 h'.1), if_pos h]
theorem gm_131 {b : Nat → Int32} {n t : Nat} {L : XL} {I J K : XI} {nc0 : Nat} {W W' : List Nat} {o o' : XP} (hg : gm b n L t J) (hJ : wO I nc0 W o J) (hK : wO I nc0 W' o' K) (h1 : K 131 11 = J 131 11) (h2 : K 131 13 = J 131 13) : gm b n L t K := by
  refine ⟨hg.1, ⟨h1.trans hg.2.1.1, h2.trans hg.2.1.2⟩, tkM_same hg.2.2 ?_ ?_ ?_⟩
  · exact (hK.2.2.2.1.row 134 (fun _ => rfl)).trans (hJ.2.2.2.1.row 134 (fun _ => rfl)).symm
  · exact (hK.2.2.2.1.row 135 (fun _ => rfl)).trans (hJ.2.2.2.1.row 135 (fun _ => rfl)).symm
  · exact (hK.2.2.2.1.row 136 (fun _ => rfl)).trans (hJ.2.2.2.1.row 136 (fun _ => rfl)).symm
/-- the end of an expression: all comes out -/
theorem m_done {F : Nat} (hF : 4000000 ≤ F) {b : Nat → Int32} {n t nc0 c0 : Nat} {L : XL} {I J : XI} {W : List Nat} {o : XP} (hg : gm b n L t J) (hw : wO I nc0 W o J) (hc : c0 ≤ nc0 ∧ nc0 + o.length + W.length ≤ c0 + t ∧ c0 ≤ 420) (h0 : nop W = 0) (hS : stB b n t W o = Sum.inl (Sum.inr (t, (fl false W o).2))) : xOk (f_M_expression_204 F J) (outM b n L I nc0 c0 (false, t, W, o)) := by
  unfold f_M_expression_204 f_M_comesOut
  have ht := hg.1.1
  have hl := (okW_len W hw.1.1).1
  have hf := fl_ok (s := false) W o hw.1.1
  refine (m_comes (s := false) W F o J (by omega) (by omega) hw).bnd (fun K hK => xOk.pur ⟨_, ends_done (r := Sum.inr (t, (fl false W o).2)) hS, ?_⟩)
  have hnil : (fl false W o).1 = [] := nop0_nil hf.1 (hf.2.2.2.2 rfl) (by rw [hf.2.1]; exact h0)
  have hK1 := hK.1
  rw [hnil] at hK1
  have hlen := hf.2.2.1
  rw [hnil] at hlen
  refine ⟨gm_131 hg hw hK1 hK.2.1 hK.2.2.1, hK1, ?_⟩
  have : ([] : List Nat).length = 0 := rfl
  show nc0 + (fl false W o).2.length ≤ c0 + t
  omega
theorem m_run {F : Nat} (hF : 4000000 ≤ F) {b : Nat → Int32} {n nc0 c0 : Nat} {L : XL} {I : XI} (hc0 : c0 ≤ nc0 ∧ c0 ≤ 420) : ∀ m,
    (∀ t W o J, 401 - t ≤ m → gm b n L t J → wO I nc0 W o J → nop W ≤ 6 → nc0 + o.length + W.length ≤ c0 + t → ∀ n12 n23, 401 < t + n12 → 401 < t + n23 → xOk (f_M_expression_23 F (fun v1 v2 I => f_M_expression_12 F n12 v1 v2 I) n23 0 J) (outM b n L I nc0 c0 (true, t, W, o))) ∧
    (∀ t W o J, 401 - t ≤ m → gm b n L t J → wO I nc0 W o J → nop W ≤ 6 → nc0 + o.length + W.length ≤ c0 + t → ∀ n12 n96, 401 < t + n12 → 401 < t + n96 → xOk (f_M_expression_96 F (fun v1 v2 I => f_M_expression_12 F n12 v1 v2 I) n96 0 J) (outM b n L I nc0 c0 (false, t, W, o))) := by
  intro m
  induction m with
  | zero =>
    refine ⟨fun t W o J h1 hg => ?_, fun t W o J h1 hg => ?_⟩
    · have := hg.1.1; omega
    · have := hg.1.1; omega
  | succ m ih =>
    obtain ⟨ihA, ihB⟩ := ih
    refine ⟨?_, ?_⟩
    · intro t W o J hm hg hw hn hcc n12 n23 h12 h23
      have ht := hg.1.1
      have hk := kd_lt b n t
      obtain ⟨n23, rfl⟩ : ∃ k, n23 = k + 1 := ⟨n23 - 1, by omega⟩
      rw [f_M_expression_23]
      refine xOk.bnde (gm_is (k := 40) hg (by omega) rfl) ?_
      have hbadA : ∀ (e : Nat × Nat) (K : XI), stA b n t W o = Sum.inl (Sum.inl e) → bm b n e K → keepC c0 I K → outM b n L I nc0 c0 (true, t, W, o) K := fun e K h1 h2 h3 => ⟨_, ends_done (c := (true, t, W, o)) h1, h2, h3⟩
      by_cases e40 : kd b n t = 40
      · rw [decide_eq_true e40]
        refine xOk.neg (by decide) ?_
        rw [hw.2.1.1.2]
        have hwl := (okW_len W hw.1.1).1
        -- the bracket, in a world K0 with or without a fault
        have hbad : ∀ (e : Nat × Nat) (K0 : XI), bm b n e K0 → Same scF3 J K0 → stA b n t W o = Sum.inl (Sum.inl e) → xOk (f_M_expression_46 F (fun v1 I => f_M_expression_23 F (fun v1 v2 I => f_M_expression_12 F n12 v1 v2 I) n23 v1 I) 0 K0) (outM b n L I nc0 c0 (true, t, W, o)) := by
          intro e K0 hb hs hA
          have hw0 := wO_F3 hw hs
          unfold f_M_expression_46
          refine xOk.st ?_
          have hb1 : bm b n e (xput K0 131 12 (K0 131 12 + 1)) := bm_131 hb ⟨by rw [xput_ne (by omega)], by rw [xput_ne (by omega)], by rw [xput_ne (by omega)]⟩
          refine (bm_goes hb1).bnd (fun G hG => ?_)
          have hP : Same scP K0 G := (Same.put (by rfl)).trans (hG.2.mono (fun _ _ h => scP_F h))
          have h44 : G 131 44 = Int32.ofNat W.length := (hP 131 44 rfl).trans hw0.2.1.1.1
          rw [h44]
          refine xOk.ck (nk_in (by omega) (by omega)) (xOk.st (xOk.st ?_))
          rw [nk_N (by omega), xput_neo (show ¬ 131 = 159 by omega), h44, nk_succ]
          have hb2 : bm b n e (xput (xput G 159 W.length 6) 131 44 (Int32.ofNat (W.length + 1))) := bm_131 hG.1 ⟨by rw [xput_ne (by omega), xput_neo (by omega)], by rw [xput_ne (by omega), xput_neo (by omega)], by rw [xput_ne (by omega), xput_neo (by omega)]⟩
          obtain ⟨n23', rfl⟩ : ∃ k, n23 = k + 1 := ⟨n23 - 1, by omega⟩
          show xOk (f_M_expression_23 F _ (n23' + 1) 0 _) _
          rw [bm_23 hb2]
          refine xOk.pur (hbadA e _ hA hb2 ⟨(((wO_keep hw0 hc0.1 (by omega)).1.trans hP.PN).put' rfl).put' rfl, fun j hj => ?_⟩)
          rw [xput_neo (by omega), xput_neo (by omega), xput_neo (by omega), xput_neo (by omega), hP 157 j rfl, hP 158 j rfl]
          exact (wO_keep hw0 hc0.1 (by omega)).2 j hj
        by_cases e6 : nop W = 6
        · refine xOk.pos (by rw [e6]; rfl) ((gm_fail (k := 2) hg (Or.inr rfl)).bnd (fun K0 hK0 => hbad _ _ hK0.1 hK0.2 ?_))
          unfold stA
          rw [if_pos e40, if_pos e6]
        · refine xOk.neg (by rw [show (6 : Int32) = Int32.ofNat 6 from rfl, nk_eq (by omega) (by omega)]; exact e6) ?_
          have hA : stA b n t W o = nxE t (true, t + 1, 40 :: W, o) := by
            unfold stA
            rw [if_pos e40, if_neg e6]
          unfold f_M_expression_46
          refine xOk.st ?_
          have s12 : Same scP J (xput J 131 12 (J 131 12 + 1)) := Same.put rfl
          have hg1 : gm b n L t (xput J 131 12 (J 131 12 + 1)) := by
            refine ⟨hg.1, ⟨by rw [xput_ne (by omega)]; exact hg.2.1.1, by rw [xput_ne (by omega)]; exact hg.2.1.2⟩, tkM_same hg.2.2 ?_ ?_ ?_⟩
            · rw [xput_neo (by omega)]
            · rw [xput_neo (by omega)]
            · rw [xput_neo (by omega)]
          refine (gm_goes hg1 (by omega)).bnd (fun G hG => ?_)
          obtain ⟨hG1, hG2⟩ := hG
          have hP : Same scP J G := s12.trans (hG1.mono (fun _ _ h => scP_F h))
          have h44 : G 131 44 = Int32.ofNat W.length := (hP 131 44 rfl).trans hw.2.1.1.1
          have h12' : G 131 12 = Int32.ofNat (nop (40 :: W)) := by
            rw [hG1 131 12 rfl, xput_eq, hw.2.1.1.2, nk_succ]
            rfl
          rw [h44]
          refine xOk.ck (nk_in (by omega) (by omega)) (xOk.st (xOk.st ?_))
          rw [nk_N (by omega), xput_neo (show ¬ 131 = 159 by omega), h44, nk_succ]
          have hw2 : wO I nc0 (40 :: W) o (xput (xput G 159 W.length 6) 131 44 (Int32.ofNat (W.length + 1))) := wO_push hw hP h12' ⟨hw.1.1, Or.inl rfl⟩ (by show nop W + 1 ≤ 7; omega) (by omega)
          by_cases e4 : t = 400
          · rw [if_pos e4] at hG2
            have hb2 : bm b n (2, 400) (xput (xput G 159 W.length 6) 131 44 (Int32.ofNat (W.length + 1))) := bm_131 hG2 ⟨by rw [xput_ne (by omega), xput_neo (by omega)], by rw [xput_ne (by omega), xput_neo (by omega)], by rw [xput_ne (by omega), xput_neo (by omega)]⟩
            obtain ⟨n23', rfl⟩ : ∃ k, n23 = k + 1 := ⟨n23 - 1, by omega⟩
            show xOk (f_M_expression_23 F _ (n23' + 1) 0 _) _
            rw [bm_23 hb2]
            exact xOk.pur (hbadA _ _ (hA.trans (nxE_4 e4)) hb2 (wO_keep hw2 hc0.1 (by omega)))
          · rw [if_neg e4] at hG2
            have hg2 : gm b n L (t + 1) (xput (xput G 159 W.length 6) 131 44 (Int32.ofNat (W.length + 1))) := by
              refine ⟨hG2.1, ⟨by rw [xput_ne (by omega), xput_neo (by omega)]; exact hG2.2.1.1, by rw [xput_ne (by omega), xput_neo (by omega)]; exact hG2.2.1.2⟩, tkM_same hG2.2.2 ?_ ?_ ?_⟩
              · rw [xput_neo (by omega), xput_neo (by omega)]
              · rw [xput_neo (by omega), xput_neo (by omega)]
              · rw [xput_neo (by omega), xput_neo (by omega)]
            refine (ihA (t + 1) (40 :: W) o _ (by omega) hg2 hw2 (by show nop W + 1 ≤ 6; omega) (by show nc0 + o.length + (W.length + 1) ≤ _; omega) n12 n23 (by omega) (by omega)).mono (fun K hK => ?_)
            obtain ⟨r, r1, r2⟩ := hK
            exact ⟨r, ends_step (c := (true, t, W, o)) (hA.trans (nxE_n e4)) r1, r2⟩
      · rw [decide_eq_false e40]
        refine xOk.pos rfl ((m_unit hg hw ⟨hc0.1, hcc, hc0.2⟩ e40).bnd (fun K hK => ?_))
        rcases hK with ⟨q, hq, hA, hwK, hK⟩ | ⟨hA, hb, hwK⟩
        · have hl : (o ++ [q]).length = o.length + 1 := by rw [List.length_append]; rfl
          by_cases e4 : t = 400
          · rw [if_pos e4] at hK
            exact xOk.neg (bm_v hK).2.1 (xOk.pur (hbadA _ _ (hA.trans (nxE_4 e4)) hK (wO_keep hwK hc0.1 (by omega))))
          · rw [if_neg e4] at hK
            refine xOk.pos (by rw [hK.2.1.2]; exact Int32.le_refl _) ((ihB (t + 1) W (o ++ [q]) K (by omega) hK hwK hn (by omega) n12 F (by omega) (by omega)).mono (fun K' hK' => ?_))
            obtain ⟨r, r1, r2⟩ := hK'
            exact ⟨r, ends_step (c := (true, t, W, o)) (hA.trans (nxE_n e4)) r1, r2⟩
        · exact xOk.neg (bm_v hb).2.1 (xOk.pur (hbadA _ _ hA hb (wO_keep hwK hc0.1 (by omega))))
    · intro t W o J hm hg hw hn hcc n12 n96 h12 h96
      have ht := hg.1.1
      have hk := kd_lt b n t
      have hwl := (okW_len W hw.1.1).1
      obtain ⟨n96, rfl⟩ : ∃ k, n96 = k + 1 := ⟨n96 - 1, by omega⟩
      have hbadB : ∀ (e : Nat × Nat) (K : XI), stB b n t W o = Sum.inl (Sum.inl e) → bm b n e K → keepC c0 I K → outM b n L I nc0 c0 (false, t, W, o) K := fun e K h1 h2 h3 => ⟨_, ends_done (c := (false, t, W, o)) h1, h2, h3⟩
      rw [f_M_expression_96]
      refine xOk.bnde (gm_is (k := 41) hg (by omega) rfl) ?_
      -- no sign
      have hno : (isMul (kd b n t) || isAdd (kd b n t)) = false → ¬ (kd b n t = 41 ∧ 0 < nop W) → xOk (f_M_expression_145 F (fun v1 v2 I => f_M_expression_12 F n12 v1 v2 I) 0 J) (outM b n L I nc0 c0 (false, t, W, o)) := by
        intro hop h41
        have n43 : ¬ kd b n t = 43 := fun e => by rw [e] at hop; cases hop
        have n45 : ¬ kd b n t = 45 := fun e => by rw [e] at hop; cases hop
        have n42 : ¬ kd b n t = 42 := fun e => by rw [e] at hop; cases hop
        have n47 : ¬ kd b n t = 47 := fun e => by rw [e] at hop; cases hop
        have i8 := gm_is (k := 43) hg (by omega) rfl
        have i9 := gm_is (k := 45) hg (by omega) rfl
        have i10 := gm_is (k := 42) hg (by omega) rfl
        have i15 := gm_is (k := 47) hg (by omega) rfl
        rw [decide_eq_false n43] at i8
        rw [decide_eq_false n45] at i9
        rw [decide_eq_false n42] at i10
        rw [decide_eq_false n47] at i15
        unfold f_M_expression_145
        refine xOk.bnde i8 (xOk.pos rfl (xOk.bnde i9 (xOk.pos rfl (xOk.bnde i10 (xOk.pos rfl (xOk.bnde i15 ?_))))))
        unfold f_M_expression_186
        refine xOk.pos rfl ?_
        rw [hw.2.1.1.2]
        by_cases h0 : nop W = 0
        · refine xOk.pos (by rw [h0]; exact Int32.le_refl _) (m_done hF hg hw ⟨hc0.1, hcc, hc0.2⟩ h0 ?_)
          unfold stB
          rw [if_neg h41, hop, if_neg (by decide), if_neg (by omega)]
        · refine xOk.neg (show ¬ Int32.ofNat (nop W) ≤ Int32.ofNat 0 from nk_nge (by omega) (by omega)) ((gm_fail (k := 1) hg (Or.inl rfl)).bnd (fun K hK => ?_))
          refine (bm_204 hF hK.1 (wO_F3 hw hK.2) ⟨hc0.1, by omega, hc0.2⟩).mono (fun K' hK' => hbadB _ _ ?_ hK'.1 hK'.2)
          unfold stB
          rw [if_neg h41, hop, if_neg (by decide), if_pos (by omega)]
      by_cases e41 : kd b n t = 41
      · rw [decide_eq_true e41]
        refine xOk.neg (by decide) ?_
        rw [hw.2.1.1.2]
        have hop : (isMul (kd b n t) || isAdd (kd b n t)) = false := by rw [e41]; rfl
        by_cases h0 : nop W = 0
        · exact xOk.pos (by rw [h0]; exact Int32.le_refl _) (hno hop (fun h => by omega))
        · refine xOk.neg (show ¬ Int32.ofNat (nop W) ≤ Int32.ofNat 0 from nk_nge (by omega) (by omega)) ?_
          have hf := fl_ok (s := false) W o hw.1.1
          unfold f_M_comesOut
          refine (m_comes (s := false) W F o J (by omega) (by omega) hw).bnd (fun K hK => xOk.st (xOk.st ?_))
          obtain ⟨V, hV⟩ := top2_40 hf.1 (hf.2.2.2.2 rfl) (by rw [hf.2.1]; omega)
          have hlen := hf.2.2.1
          have hnop := hf.2.1
          rw [hV] at hlen hnop
          have hlen : V.length + 1 + (fl false W o).2.length = W.length + o.length := hlen
          have hnop : nop V + 1 = nop W := hnop
          have hK1 := hK.1
          rw [hV] at hK1
          have hwV := wO_pop40 hK1
          have h12b : xput K 131 44 (K 131 44 - 1) 131 12 = K 131 12 := by rw [xput_ne (by omega)]
          rw [h12b]
          have hgV : gm b n L t (xput (xput K 131 44 (K 131 44 - 1)) 131 12 (K 131 12 - 1)) := gm_131 hg hw hwV (by rw [xput_ne (by omega), xput_ne (by omega)]; exact hK.2.1) (by rw [xput_ne (by omega), xput_ne (by omega)]; exact hK.2.2.1)
          have hS : stB b n t W o = nxE t (false, t + 1, V, (fl false W o).2) := by
            unfold stB
            rw [if_pos ⟨e41, by omega⟩, hV]
            rfl
          refine (gm_goes hgV (by omega)).bnd (fun G hG => ?_)
          obtain ⟨hG1, hG2⟩ := hG
          have hwG := wO_F3 hwV hG1
          by_cases e4 : t = 400
          · rw [if_pos e4] at hG2
            obtain ⟨n96', rfl⟩ : ∃ k, n96 = k + 1 := ⟨n96 - 1, by omega⟩
            exact (bm_96 hF hG2 hwG ⟨hc0.1, by omega, hc0.2⟩).mono (fun K' hK' => hbadB _ _ (hS.trans (nxE_4 e4)) hK'.1 hK'.2)
          · rw [if_neg e4] at hG2
            refine (ihB (t + 1) V _ G (by omega) hG2 hwG (by omega) (by omega) n12 n96 (by omega) (by omega)).mono (fun K' hK' => ?_)
            obtain ⟨r, r1, r2⟩ := hK'
            exact ⟨r, ends_step (c := (false, t, W, o)) (hS.trans (nxE_n e4)) r1, r2⟩
      · rw [decide_eq_false e41]
        refine xOk.pos rfl ?_
        cases hop : (isMul (kd b n t) || isAdd (kd b n t)) with
        | false => exact hno hop (fun h => e41 h.1)
        | true =>
          have hf := fl_ok (s := isMul (kd b n t)) W o hw.1.1
          have hS := stB_op (W := W) (o := o) hop
          have h01 := mul_n40 hop
          have h234 : xOk (f_M_expression_234 F (fun v1 v2 I => f_M_expression_12 F n12 v1 v2 I) 0 1 (b2 (isMul (kd b n t))) J) (outM b n L I nc0 c0 (false, t, W, o)) := by
            unfold f_M_expression_234 f_M_comesOut
            refine (m_comes (s := isMul (kd b n t)) W F o J (by omega) (by omega) hw).bnd (fun K hK => ?_)
            obtain ⟨hwK, k1, k2, k3⟩ := hK
            have hgK := gm_131 hg hw hwK k1 k2
            have hlW := (okW_len _ hf.1).1
            have hlen := hf.2.2.1
            have h134 : K 134 t = Int32.ofNat (mk (kd b n t)) := ((hgK.2.2 t hg.1).1).1
            rw [hgK.2.1.1, hwK.2.1.1.1, nk_N (show t < 2147483648 by omega), h134]
            refine xOk.ck (nk_in (by omega) (by omega)) (xOk.ck (nk_in (by rw [hf.2.1] at hlW; omega) (by omega)) (xOk.st (xOk.st ?_)))
            rw [nk_N (by rw [hf.2.1] at hlW; omega), xput_neo (show ¬ 131 = 159 by omega), hwK.2.1.1.1, nk_succ]
            have hokW : okW (kd b n t :: (fl (isMul (kd b n t)) W o).1) := by
              refine ⟨hf.1, Or.inr ?_⟩
              cases hm : isMul (kd b n t) with
              | true =>
                have h1 := hf.2.2.2.1 hm
                rw [hm] at h1
                exact Or.inl ⟨rfl, h1⟩
              | false =>
                have h2 := hf.2.2.2.2 hm
                rw [hm] at h2 hop
                exact Or.inr ⟨by rw [Bool.false_or] at hop; exact hop, h2⟩
            have hnop : nop (kd b n t :: (fl (isMul (kd b n t)) W o).1) = nop W := by rw [nop_op hop, hf.2.1]
            have hwP := wO_push (w := kd b n t) hwK Same.rfl (by rw [hnop, ← hf.2.1]; exact hwK.2.1.1.2) hokW (by omega) (by omega)
            have hgP : gm b n L t (xput (xput K 159 (fl (isMul (kd b n t)) W o).1.length (Int32.ofNat (mk (kd b n t)))) 131 44 (Int32.ofNat ((fl (isMul (kd b n t)) W o).1.length + 1))) := gm_131 hgK hwK hwP (by rw [xput_ne (by omega), xput_neo (by omega)]) (by rw [xput_ne (by omega), xput_neo (by omega)])
            refine (gm_goes hgP (by omega)).bnd (fun G hG => ?_)
            obtain ⟨hG1, hG2⟩ := hG
            have hwG := wO_F3 hwP hG1
            have hlP : (kd b n t :: (fl (isMul (kd b n t)) W o).1).length = (fl (isMul (kd b n t)) W o).1.length + 1 := rfl
            obtain ⟨n12', rfl⟩ : ∃ k, n12 = k + 1 := ⟨n12 - 1, by omega⟩
            show xOk (f_M_expression_12 F (n12' + 1) 0 1 G) _
            rw [f_M_expression_12]
            refine xOk.neg (by decide) ?_
            by_cases e4 : t = 400
            · rw [if_pos e4] at hG2
              exact xOk.neg (bm_v hG2).1 (xOk.pur (hbadB _ _ (hS.trans (nxE_4 e4)) hG2 (wO_keep hwG hc0.1 (by omega))))
            · rw [if_neg e4] at hG2
              refine xOk.pos hG2.2.1.2 ((ihA (t + 1) _ _ G (by omega) hG2 hwG (by omega) (by omega) n12' F (by omega) (by omega)).mono (fun K' hK' => ?_))
              obtain ⟨r, r1, r2⟩ := hK'
              exact ⟨r, ends_step (c := (false, t, W, o)) (hS.trans (nxE_n e4)) r1, r2⟩
          have h186 : xOk (f_M_expression_186 F (fun v1 v2 I => f_M_expression_12 F n12 v1 v2 I) 0 1 J) (outM b n L I nc0 c0 (false, t, W, o)) := by
            unfold f_M_expression_186
            refine xOk.neg (by decide) (xOk.bnde (gm_is (k := 42) hg (by omega) rfl) ?_)
            by_cases e42 : kd b n t = 42
            · rw [decide_eq_true e42]
              rw [show isMul (kd b n t) = true by rw [e42]; rfl] at h234
              exact xOk.neg (by decide) h234
            · rw [decide_eq_false e42]
              refine xOk.pos rfl (xOk.bnde (gm_is (k := 47) hg (by omega) rfl) ?_)
              have : isMul (kd b n t) = decide (kd b n t = 47) := by
                by_cases e47 : kd b n t = 47
                · rw [e47]; rfl
                · rw [decide_eq_false e47]
                  cases hm : isMul (kd b n t) with
                  | false => rfl
                  | true =>
                    rcases isMul_iff.mp hm with h | h
                    · exact absurd h e42
                    · exact absurd h e47
              rw [this] at h234
              rw [b2_norm]
              exact h234
          have h4 : kd b n t = 43 ∨ kd b n t = 45 ∨ kd b n t = 42 ∨ kd b n t = 47 := by
            rcases Bool.or_eq_true_iff.mp hop with h | h
            · rcases isMul_iff.mp h with h | h
              · exact Or.inr (Or.inr (Or.inl h))
              · exact Or.inr (Or.inr (Or.inr h))
            · rcases isAdd_iff.mp h with h | h
              · exact Or.inl h
              · exact Or.inr (Or.inl h)
          unfold f_M_expression_145
          refine xOk.bnde (gm_is (k := 43) hg (by omega) rfl) ?_
          by_cases c1 : kd b n t = 43
          · rw [decide_eq_true c1]; exact xOk.neg (by decide) h186
          rw [decide_eq_false c1]
          refine xOk.pos rfl (xOk.bnde (gm_is (k := 45) hg (by omega) rfl) ?_)
          by_cases c2 : kd b n t = 45
          · rw [decide_eq_true c2]; exact xOk.neg (by decide) h186
          rw [decide_eq_false c2]
          refine xOk.pos rfl (xOk.bnde (gm_is (k := 42) hg (by omega) rfl) ?_)
          by_cases c3 : kd b n t = 42
          · rw [decide_eq_true c3]; exact xOk.neg (by decide) h186
          rw [decide_eq_false c3]
          refine xOk.pos rfl (xOk.bnde (gm_is (k := 47) hg (by omega) rfl) ?_)
          have c4 : kd b n t = 47 := by omega
          rw [decide_eq_true c4]
          exact h186
/-- an expression from token t on, the code standing at nc -/
def exM (b : Nat → Int32) (n : Nat) (L : XL) (I : XI) (nc c0 t : Nat) (K : XI) : Prop := match exprR b n t with
  | Sum.inl e => bm b n e K ∧ keepC c0 I K
  | Sum.inr p => gm b n L p.1 K ∧ wO I nc [] p.2 K ∧ nc + p.2.length ≤ c0 + p.1
theorem m_expr {F : Nat} (hF : 4000000 ≤ F) {b : Nat → Int32} {n t nc c0 : Nat} {L : XL} {I : XI} (hg : gm b n L t I) (h12 : I 131 12 = 0) (h40 : I 131 40 = Int32.ofNat nc) (hc : c0 ≤ nc ∧ nc ≤ c0 + t ∧ c0 ≤ 420) : xOk (f_M_expression F I) (exM b n L I nc c0 t) := by
  have ht := hg.1.1
  unfold f_M_expression
  refine xOk.st ?_
  obtain ⟨F', hF'⟩ : ∃ k, F = k + 1 := ⟨F - 1, by omega⟩
  have h12' : xput I 131 44 0 131 12 = 0 := by rw [xput_ne (by omega)]; exact h12
  rw [h12']
  have hs : Same scN I (xput I 131 44 0) := Same.put rfl
  have hw : wO I nc [] [] (xput I 131 44 0) := by
    refine ⟨⟨trivial, Nat.zero_le _⟩, ⟨⟨xput_eq, h12'⟩, fun j hj => absurd hj (Nat.not_lt_zero j)⟩, ⟨by rw [xput_ne (by omega)]; exact h40, ?_⟩, hs, fun j _ => ?_, fun j hj => absurd hj (Nat.not_lt_zero j)⟩
    · show nc + 0 + 0 ≤ 830
      omega
    · rw [xput_neo (by omega), xput_neo (by omega)]; exact ⟨rfl, rfl⟩
  have hg1 : gm b n L t (xput I 131 44 0) := by
    refine ⟨hg.1, ⟨by rw [xput_ne (by omega)]; exact hg.2.1.1, by rw [xput_ne (by omega)]; exact hg.2.1.2⟩, tkM_same hg.2.2 ?_ ?_ ?_⟩
    · rw [xput_neo (by omega)]
    · rw [xput_neo (by omega)]
    · rw [xput_neo (by omega)]
  have hrun := (m_run (L := L) (I := I) (b := b) (n := n) hF ⟨hc.1, hc.2.2⟩ (401 - t)).1 t [] [] _ (Nat.le_refl _) hg1 hw (Nat.zero_le _) (show nc + 0 + 0 ≤ c0 + t by omega) F' F (by omega) (by omega)
  have e12 : f_M_expression_12 F F 0 1 (xput I 131 44 0) = f_M_expression_23 F (fun v1 v2 I => f_M_expression_12 F F' v1 v2 I) F 0 (xput I 131 44 0) := by
    have hh : ∀ m, m = F' + 1 → f_M_expression_12 F m 0 1 (xput I 131 44 0) = f_M_expression_23 F (fun v1 v2 I => f_M_expression_12 F F' v1 v2 I) F 0 (xput I 131 44 0) := by
      intro m hm
      rw [hm, f_M_expression_12, if_neg (by decide), if_pos hg1.2.1.2]
    exact hh F hF'
  rw [e12]
  refine hrun.mono (fun K hK => ?_)
  obtain ⟨r, r1, r2⟩ := hK
  unfold exM
  rw [exprR_eq r1]
  cases r with
  | inl e => exact r2
  | inr p => exact r2
