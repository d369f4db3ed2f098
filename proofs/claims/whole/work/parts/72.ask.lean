/-! ask of the reference; count -/
theorem m_ask {F : Nat} (hF : 4000000 ≤ F) {lv n : Nat} {T : XT} {I : XI} (hC : cluR lv n T I) {k : Int32} : xOk (f_M_ask F k I) (fun q => q.1 = qAsk T (I 128) (I 129) n k ∧ Same scM I q.2) := by
  obtain ⟨⟨hO, hK⟩, ⟨hT, hM⟩, hR, ⟨n2, n3⟩, h5⟩ := hC
  have o3 := hO.2.2
  have hn := hR.1
  have hl := hM.1.1
  unfold f_M_ask qAsk
  rw [n3]
  refine xOk.bnde m_in ?_
  rw [show (decide (0 ≤ k) && decide (k ≤ Int32.ofNat n)) = kw n k from rfl]
  cases hk : kw n k with
  | false => exact xOk.pos rfl (xOk.pur ⟨rfl, Same.rfl⟩)
  | true =>
    obtain ⟨m, hm, rfl⟩ := kw_ex hR.1 hk
    rw [iTT, nk_N (by omega)]
    refine xOk.neg (by decide) ?_
    have sX : ∀ {J : XI}, Same (sco 172) I J → Same scM I J := fun h => h.mono (fun o j e => by
      unfold scM at e
      unfold sco
      cases h1 : Nat.beq o 172
      · rfl
      · simp_all)
    -- which side
    have fin : ∀ J, Same (sco 172) I J → (∀ s j, s < 4 → j < 7 → J 172 (7 * s + j) = Int32.ofNat (cw T (I 128) (I 129) m s (4 * tn T) j)) →
        xOk (f_M_ask_128 F F (Int32.ofNat (cnt (so T (I 128) (I 129) m) (4 * tn T))) (-2) 0 0 J) (fun q => q.1 = (if cnt (so T (I 128) (I 129) m) (4 * tn T) = 0 then -2 else Int32.ofNat (bsF (wst T (I 128) (I 129) m) 3)) ∧ Same scM I q.2) := by
      intro J hJ hrow
      have hle := cnt_le (so T (I 128) (I 129) m) (4 * tn T)
      by_cases h0 : cnt (so T (I 128) (I 129) m) (4 * tn T) = 0
      · rw [h0, if_pos rfl]
        obtain ⟨F', rfl⟩ : ∃ F', F = F' + 1 := ⟨F - 1, by omega⟩
        rw [f_M_ask_128]
        exact xOk.neg (by decide) (xOk.pos (by decide) (xOk.pur ⟨rfl, sX hJ⟩))
      · rw [if_neg h0]
        refine xloop 4 (fun i (q : Int32 × Int32) s => f_M_ask_128 F i (Int32.ofNat (cnt (so T (I 128) (I 129) m) (4 * tn T))) q.1 q.2 (Int32.ofNat s) J) (fun s q => (s = 0 ∧ q.1 = -2) ∨ (0 < s ∧ q.1 = Int32.ofNat (bsF (wst T (I 128) (I 129) m) (s - 1)) ∧ q.2 = Int32.ofNat (wst T (I 128) (I 129) m (bsF (wst T (I 128) (I 129) m) (s - 1))))) ?_ ?_ F (-2, 0) 0 (by omega) (by omega) (Or.inl ⟨rfl, rfl⟩)
        · intro i q s hs hP ih
          obtain ⟨b, l⟩ := q
          show xOk (f_M_ask_128 F (i + 1) _ b l (Int32.ofNat s) J) _
          rw [f_M_ask_128]
          refine xOk.neg (nk_nge hs (by decide)) (xOk.neg (show ¬ Int32.ofNat _ ≤ 0 from nk_nge (k := 0) (by omega) (by omega)) ?_)
          have gle : ∀ j, cw T (I 128) (I 129) m s (4 * tn T) j ≤ 20 := fun j => Nat.le_trans cw_le (by omega)
          have w1 := @wst_le T (I 128) (I 129) m s hO
          refine xloop 7 (fun i2 (w : Nat) j => f_M_ask_144 F (fun v2 v3 v4 v5 I => f_M_ask_128 F i v2 v3 v4 v5 I) i2 (Int32.ofNat (cnt (so T (I 128) (I 129) m) (4 * tn T))) b l (Int32.ofNat s) (Int32.ofNat w) (Int32.ofNat j) J) (fun j w => w = mx (cw T (I 128) (I 129) m s (4 * tn T)) j) ?_ ?_ F 0 0 (by omega) (by omega) rfl
          · intro i2 w j hj hw ih2
            have hwle : w ≤ 20 := by rw [hw]; exact mx_le (fun j _ => gle j)
            show xOk (f_M_ask_144 F _ (i2 + 1) _ b l (Int32.ofNat s) (Int32.ofNat w) (Int32.ofNat j) J) _
            rw [f_M_ask_144]
            refine xOk.neg (nk_nge hj (by decide)) ?_
            have exx : xN (Int32.ofNat (7 * s + j)) = 7 * s + j := nk_N (by omega)
            have g := gle j
            rw [nl7, nk_mul, nk_add]
            refine xOk.ck (nk_in (by omega) (by omega)) ?_
            simp only [exx, hrow s j hs hj]
            have eb : mx (cw T (I 128) (I 129) m s (4 * tn T)) (j + 1) = if w < cw T (I 128) (I 129) m s (4 * tn T) j then cw T (I 128) (I 129) m s (4 * tn T) j else w := by
              rw [hw]; rfl
            rw [nk_succ]
            by_cases hlt : w < cw T (I 128) (I 129) m s (4 * tn T) j
            · rw [if_pos hlt] at eb
              exact xOk.neg (nk_nge hlt (by omega)) (xOk.ck (nk_in (by omega) (by omega)) (ih2 _ eb.symm))
            · rw [if_neg hlt] at eb
              exact xOk.pos (nk_le_t (by omega) (by omega)) (ih2 _ eb.symm)
          · intro i2 w hw
            have hw' : w = wst T (I 128) (I 129) m s := hw
            show xOk (f_M_ask_144 F _ (i2 + 1) _ b l (Int32.ofNat s) (Int32.ofNat w) (Int32.ofNat 7) J) _
            rw [f_M_ask_144]
            refine xOk.pos (by decide) ?_
            rw [nk_succ]
            rcases hP with ⟨s0, hb⟩ | ⟨s1, hb, hll⟩
            · subst s0
              have hb : b = -2 := hb
              refine xOk.pos (by rw [hb]; decide) (ih (Int32.ofNat 0, Int32.ofNat w) (Or.inr ⟨by omega, rfl, ?_⟩))
              rw [hw']
              rfl
            · have hb : b = Int32.ofNat (bsF (wst T (I 128) (I 129) m) (s - 1)) := hb
              have hll : l = Int32.ofNat (wst T (I 128) (I 129) m (bsF (wst T (I 128) (I 129) m) (s - 1))) := hll
              have hbl := @bsF_le (wst T (I 128) (I 129) m) (s - 1)
              have w2 := @wst_le T (I 128) (I 129) m (bsF (wst T (I 128) (I 129) m) (s - 1)) hO
              refine xOk.neg (by rw [hb]; exact nk_nlt0 (by omega)) ?_
              have eb : bsF (wst T (I 128) (I 129) m) s = if w < wst T (I 128) (I 129) m (bsF (wst T (I 128) (I 129) m) (s - 1)) then s else bsF (wst T (I 128) (I 129) m) (s - 1) := by
                obtain ⟨s', rfl⟩ : ∃ s', s = s' + 1 := ⟨s - 1, by omega⟩
                rw [hw', Nat.add_sub_cancel]
                rfl
              rw [hll]
              by_cases hlt : w < wst T (I 128) (I 129) m (bsF (wst T (I 128) (I 129) m) (s - 1))
              · rw [if_pos (nk_lt_t hlt (by omega)), if_pos (nk_lt_t hlt (by omega))]
                rw [if_pos hlt] at eb
                refine ih (Int32.ofNat s, Int32.ofNat w) (Or.inr ⟨by omega, ?_, ?_⟩)
                · rw [Nat.add_sub_cancel, eb]
                · rw [Nat.add_sub_cancel, eb, hw']
              · rw [if_neg (nk_lt_f (by omega) (by omega)), if_neg (nk_lt_f (by omega) (by omega)), hb]
                rw [if_neg hlt] at eb
                refine ih (Int32.ofNat (bsF (wst T (I 128) (I 129) m) (s - 1)), Int32.ofNat (wst T (I 128) (I 129) m (bsF (wst T (I 128) (I 129) m) (s - 1)))) (Or.inr ⟨by omega, ?_, ?_⟩)
                · rw [Nat.add_sub_cancel, eb]
                · rw [Nat.add_sub_cancel, eb]
        · intro i q hP
          obtain ⟨b, l⟩ := q
          show xOk (f_M_ask_128 F (i + 1) _ b l (Int32.ofNat 4) J) _
          rw [f_M_ask_128]
          rcases hP with ⟨s0, hb⟩ | ⟨s1, hb, hll⟩
          · omega
          · exact xOk.pos (by decide) (xOk.pur ⟨hb, sX hJ⟩)
    -- all are reckoned
    have ways : ∀ J, Same (sco 172) I J → (∀ j, j < 28 → J 172 j = 0) → xOk (f_M_ask_39 F F (Int32.ofNat m) 0 0 J) (fun q => q.1 = (if cnt (so T (I 128) (I 129) m) (4 * tn T) = 0 then -2 else Int32.ofNat (bsF (wst T (I 128) (I 129) m) 3)) ∧ Same scM I q.2) := by
      intro J hJ hz
      refine xloop (4 * tn T) (fun i (q : Nat × XI) w => f_M_ask_39 F i (Int32.ofNat m) (Int32.ofNat q.1) (Int32.ofNat w) q.2) (fun w q => q.1 = cnt (so T (I 128) (I 129) m) w ∧ Same (sco 172) I q.2 ∧ ∀ s j, s < 4 → j < 7 → q.2 172 (7 * s + j) = Int32.ofNat (cw T (I 128) (I 129) m s w j)) ?_ ?_ F (0, J) 0 (by omega) (by omega) ⟨rfl, hJ, fun s j hs hj => (by
        show J 172 (7 * s + j) = _
        rw [hz _ (by omega)]
        rfl)⟩
      · intro i q w hw hP ih
        obtain ⟨c, K⟩ := q
        obtain ⟨p1, p2, p3⟩ : c = cnt (so T (I 128) (I 129) m) w ∧ Same (sco 172) I K ∧ ∀ s j, s < 4 → j < 7 → K 172 (7 * s + j) = Int32.ofNat (cw T (I 128) (I 129) m s w j) := hP
        have hMK := tbM_X hM (sX p2).MX
        show xOk (f_M_ask_39 F (i + 1) (Int32.ofNat m) (Int32.ofNat c) (Int32.ofNat w) K) _
        rw [f_M_ask_39, hMK.1.2, nk_in hl (by omega), nk_N (by omega), hMK.2.1.2.2, nl4, nk_mul]
        refine xOk.ck rfl (xOk.neg (nk_nge hw (by omega)) ?_)
        refine xOk.bnde (m_isSo hF hMK hO (sd := I 128) (kb := I 129) hR (fun i hi => ⟨(p2 170 i rfl).trans (h5 i hi).1, (p2 171 i rfl).trans (h5 i hi).2⟩) hm hw) ?_
        rw [nk_succ]
        cases hq : so T (I 128) (I 129) m w with
        | false =>
          refine xOk.pos rfl (ih (c, K) ⟨?_, p2, fun s j hs hj => ?_⟩)
          · show c = _
            rw [p1, cnt_succ, hq]
            rfl
          · show K 172 _ = _
            rw [p3 s j hs hj]
            congr 1
            show cnt _ _ = cnt _ (w + 1)
            rw [cnt_succ]
            unfold cwP
            rw [hq]
            rfl
        | true =>
          refine xOk.neg (by decide) ?_
          rw [nk_succ]
          refine xloop 4 (fun i2 (N : XI) s => f_M_ask_72 F (fun v1 v2 v3 I => f_M_ask_39 F i v1 v2 v3 I) i2 (Int32.ofNat m) (Int32.ofNat (c + 1)) (Int32.ofNat w) (Int32.ofNat s) N) (fun s N => Same (sco 172) I N ∧ ∀ s' j, s' < 4 → j < 7 → N 172 (7 * s' + j) = Int32.ofNat (cw T (I 128) (I 129) m s' (if s' < s then w + 1 else w) j)) ?_ ?_ F K 0 (by omega) (by omega) ⟨p2, fun s' j hs hj => by rw [if_neg (by omega)]; exact p3 s' j hs hj⟩
          · intro i2 N s hs hP2 ih2
            obtain ⟨a1, a2⟩ := hP2
            have hMN := tbM_X hM (sX a1).MX
            show xOk (f_M_ask_72 F _ (i2 + 1) _ _ _ _ _) _
            rw [f_M_ask_72]
            refine xOk.neg (nk_nge hs (by decide)) ?_
            have e4 : Int32.ofNat w / 4 = Int32.ofNat (w / 4) := by rw [nl4, nk_div (by omega) (by omega)]
            have m4 : Int32.ofNat w - Int32.ofNat w / 4 * 4 = Int32.ofNat (w % 4) := by
              rw [nl4]
              simp (disch := omega) only [nk_div, nk_mul, nk_sub, nk_md]
            rw [m4, e4]
            refine xOk.bnde (m_turned hMN hO (show w / 4 < tn T by omega) (show w % 4 < 4 by omega) hs) ?_
            obtain ⟨j0, hj0, hv⟩ := knob_ex (s := s) hK hw
            have eix : ((7 * Int32.ofNat s) + spk T (w / 4) (w % 4) s) + 3 = Int32.ofNat (7 * s + j0) := by
              rw [Int32.add_assoc, Int32.add_comm _ 3, hv, nl7, nk_mul, nk_add]
            rw [eix]
            refine xOk.ck (nk_in (by omega) (by omega)) (xOk.ck (nk_in (by omega) (by omega)) (xOk.st ?_))
            rw [nk_N (by omega), nk_succ]
            refine ih2 _ ⟨a1.put' rfl, fun s' j hs' hj => ?_⟩
            rw [xput_at]
            have hcs : ∀ j, cw T (I 128) (I 129) m s (w + 1) j = cw T (I 128) (I 129) m s w j + (if decide (3 + spk T (w / 4) (w % 4) s = Int32.ofNat j) = true then 1 else 0) := by
              intro j
              show cnt _ (w + 1) = cnt _ w + _
              rw [cnt_succ]
              congr 1
              unfold cwP
              rw [hq, Bool.true_and]
            by_cases es : s' = s
            · subst es
              rw [if_pos (show s' < s' + 1 by omega), hcs j, hv]
              by_cases ej : j = j0
              · rw [if_pos (by omega), a2 s' j0 hs' hj0, if_neg (show ¬ s' < s' by omega), ej, decide_eq_true rfl, nk_succ]
                rfl
              · rw [if_neg (by omega), a2 s' j hs' hj, if_neg (show ¬ s' < s' by omega), decide_eq_false (by rw [nk_eq (by omega) (by omega)]; exact fun h => ej h.symm)]
                rfl
            · rw [if_neg (by omega), a2 s' j hs' hj]
              by_cases hlt : s' < s
              · rw [if_pos hlt, if_pos (by omega)]
              · rw [if_neg hlt, if_neg (by omega)]
          · intro i2 N hP2
            obtain ⟨a1, a2⟩ := hP2
            show xOk (f_M_ask_72 F _ (i2 + 1) _ _ _ _ _) _
            rw [f_M_ask_72]
            refine xOk.pos (by decide) ?_
            rw [nk_succ]
            refine ih (c + 1, N) ⟨?_, a1, fun s j hs hj => ?_⟩
            · show c + 1 = _
              rw [p1, cnt_succ, hq]
              rfl
            · show N 172 _ = _
              rw [a2 s j hs hj, if_pos hs]
      · intro i q hP
        obtain ⟨c, K⟩ := q
        obtain ⟨p1, p2, p3⟩ : c = cnt (so T (I 128) (I 129) m) (4 * tn T) ∧ Same (sco 172) I K ∧ ∀ s j, s < 4 → j < 7 → K 172 (7 * s + j) = Int32.ofNat (cw T (I 128) (I 129) m s (4 * tn T) j) := hP
        have hMK := tbM_X hM (sX p2).MX
        show xOk (f_M_ask_39 F (i + 1) (Int32.ofNat m) (Int32.ofNat c) (Int32.ofNat (4 * tn T)) K) _
        rw [f_M_ask_39, hMK.1.2, nk_in hl (by omega), nk_N (by omega), hMK.2.1.2.2, nl4, nk_mul]
        refine xOk.ck rfl (xOk.pos (Int32.le_refl _) ?_)
        rw [p1]
        exact fin K p2 p3
    refine xloop 28 (fun i (J : XI) j => f_M_ask_16 F i (Int32.ofNat m) (Int32.ofNat j) J) (fun j J => Same (sco 172) I J ∧ ∀ i, i < j → J 172 i = 0) ?_ ?_ F I 0 (by omega) (by omega) ⟨Same.rfl, fun i hi => absurd hi (by omega)⟩
    · intro i J j hj hP ih
      obtain ⟨a1, a2⟩ := hP
      show xOk (f_M_ask_16 F (i + 1) _ _ _) _
      rw [f_M_ask_16]
      refine xOk.neg (nk_nge hj (by decide)) (xOk.ck (nk_in hj (by omega)) (xOk.st ?_))
      rw [nk_N (by omega), nk_succ]
      refine ih _ ⟨a1.put' rfl, fun k hk => ?_⟩
      rw [xput_at]
      by_cases e : k = j
      · rw [if_pos e]
      · rw [if_neg e]; exact a2 k (by omega)
    · intro i J hP
      obtain ⟨a1, a2⟩ := hP
      show xOk (f_M_ask_16 F (i + 1) _ _ _) _
      rw [f_M_ask_16]
      exact xOk.pos (by decide) (ways J a1 a2)
