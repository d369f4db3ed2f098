/-! missing, sure, ask -/
theorem c_turnsOf {F : Nat} (hF : 4000000 ≤ F) {T : XT} {I : XI} (hT : tbC 17 T I) (hO : tOk T) {n k e : Nat} (hR : tolR n (I 128) (I 129)) (hk : k ≤ n) (he : e < tn T) : f_Clues_turnsOf F I (Int32.ofNat e) (Int32.ofNat k) = some (Int32.ofNat (cnt (fun t => so T (I 128) (I 129) k (4 * e + t)) 4)) := by
  unfold f_Clues_turnsOf
  refine xOk.eq (xloop 4 (fun m (c : Nat) t => f_Clues_turnsOf_5 F I m (Int32.ofNat e) (Int32.ofNat k) (Int32.ofNat c) (Int32.ofNat t)) (fun t c => c = cnt (fun t => so T (I 128) (I 129) k (4 * e + t)) t) ?_ ?_ F 0 0 (by omega) (by omega) rfl)
  · intro m c t ht hc ih
    subst hc
    show xOk (f_Clues_turnsOf_5 F I (m + 1) _ _ _ _) _
    rw [f_Clues_turnsOf_5]
    refine xOk.neg (nk_nge ht (by decide)) ?_
    refine xOk.bnde (c_isSo hF hT hO hR hk he ht) ?_
    rw [b2_add, nk_succ]
    exact ih _ rfl
  · intro m c hc
    subst hc
    show xOk (f_Clues_turnsOf_5 F I (m + 1) _ _ _ _) _
    rw [f_Clues_turnsOf_5]
    exact xOk.pos (by decide) (xOk.pur rfl)
theorem cnt_four {p : Nat → Bool} {e : Nat} : cnt p (4 * (e + 1)) = cnt p (4 * e) + cnt (fun t => p (4 * e + t)) 4 := by
  rw [show 4 * (e + 1) = 4 * e + 1 + 1 + 1 + 1 by omega, cnt_succ, cnt_succ, cnt_succ, cnt_succ]
  simp only [cnt, Nat.add_zero, Nat.zero_add]
  omega
theorem c_fitting {F : Nat} (hF : 4000000 ≤ F) {T : XT} {I : XI} (hT : tbC 17 T I) (hO : tOk T) {n k : Nat} (hR : tolR n (I 128) (I 129)) (hk : k ≤ n) : f_Clues_fitting F I (Int32.ofNat k) = some (Int32.ofNat (cnt (so T (I 128) (I 129) k) (4 * tn T))) := by
  have o3 := hO.2.2
  unfold f_Clues_fitting
  refine xOk.eq (xloop (tn T) (fun m (c : Nat) e => f_Clues_fitting_4 F I m (Int32.ofNat k) (Int32.ofNat c) (Int32.ofNat e)) (fun e c => c = cnt (so T (I 128) (I 129) k) (4 * e)) ?_ ?_ F 0 0 (by omega) (by omega) rfl)
  · intro m c e he hc ih
    subst hc
    show xOk (f_Clues_fitting_4 F I (m + 1) _ _ _) _
    rw [f_Clues_fitting_4, hT.2.2.1]
    refine xOk.neg (nk_nge he (by omega)) ?_
    refine xOk.bnde (c_turnsOf hF hT hO hR hk he) ?_
    rw [nk_add, nk_succ]
    exact ih _ cnt_four.symm
  · intro m c hc
    subst hc
    show xOk (f_Clues_fitting_4 F I (m + 1) _ _ _) _
    rw [f_Clues_fitting_4, hT.2.2.1]
    exact xOk.pos (Int32.le_refl _) (xOk.pur rfl)
/-- what is told, with the table -/
def cluR (lv n : Nat) (T : XT) (I : XI) : Prop := (tOk T ∧ tKb T) ∧ (tbC 17 T I ∧ tbM lv T I) ∧ tolR n (I 128) (I 129) ∧ (I 127 3 = Int32.ofNat n ∧ I 131 59 = Int32.ofNat n) ∧ ∀ i, i < n → I 170 i = I 128 i ∧ I 171 i = I 129 i
theorem Inv_clu {F : Nat} {I : XI} (hI : Inv F I) : ∃ lv n T, cluR lv n T I := by
  obtain ⟨⟨lv, V, T, x, ⟨⟨a1, a1', a1''⟩, ⟨a2, a3⟩, -⟩, -⟩, ⟨n, n1, n2, n3⟩, -, -⟩ := hI
  exact ⟨lv, n, T, ⟨a1, a1''⟩, ⟨a2, a3⟩, ⟨n1, fun i hi => (n3 i hi).2⟩, n2, fun i hi => ⟨(n3 i hi).1.1.symm, (n3 i hi).1.2.symm⟩⟩
def qMissing (T : XT) (sd kb : Nat → Int32) (n : Nat) (k : Int32) : Int32 := if kw n k = true then Int32.ofNat (cnt (so T sd kb (xN k)) (4 * tn T)) else -1
theorem h_missing {F : Nat} (hF : 4000000 ≤ F) {lv n : Nat} {T : XT} {I : XI} (hC : cluR lv n T I) {k : Int32} : f_H_missing F I k = some (qMissing T (I 128) (I 129) n k) := by
  obtain ⟨⟨hO, hK⟩, ⟨hT, hM⟩, hR, ⟨n2, n3⟩, h5⟩ := hC
  unfold f_H_missing qMissing
  rw [c_knows n2, Option.bind_some]
  cases hk : kw n k with
  | false => rfl
  | true =>
    obtain ⟨m, hm, rfl⟩ := kw_ex hR.1 hk
    have := hR.1
    rw [if_neg (by decide), iTT, c_fitting hF hT hO hR hm, nk_N (by omega)]
    rfl
theorem m_missing {F : Nat} (hF : 4000000 ≤ F) {lv n : Nat} {T : XT} {I : XI} (hC : cluR lv n T I) {k : Int32} : f_M_missing F I k = some (qMissing T (I 128) (I 129) n k) := by
  obtain ⟨⟨hO, hK⟩, ⟨hT, hM⟩, hR, ⟨n2, n3⟩, h5⟩ := hC
  have o3 := hO.2.2
  have hn := hR.1
  have hl := hM.1.1
  unfold f_M_missing qMissing
  rw [n3, m_in, Option.bind_some, show (decide (0 ≤ k) && decide (k ≤ Int32.ofNat n)) = kw n k from rfl]
  cases hk : kw n k with
  | false => rfl
  | true =>
    obtain ⟨m, hm, rfl⟩ := kw_ex hR.1 hk
    rw [if_neg (by decide), iTT, nk_N (by omega)]
    refine xOk.eq (xloop (4 * tn T) (fun j (c : Nat) w => f_M_missing_18 F I j (Int32.ofNat m) (Int32.ofNat c) (Int32.ofNat w)) (fun w c => c = cnt (so T (I 128) (I 129) m) w) ?_ ?_ F 0 0 (by omega) (by omega) rfl)
    · intro j c w hw hc ih
      subst hc
      show xOk (f_M_missing_18 F I (j + 1) _ _ _) _
      rw [f_M_missing_18, hM.1.2, nk_in hl (by omega), nk_N (by omega), hM.2.1.2.2, nl4, nk_mul]
      refine xOk.ck rfl (xOk.neg (nk_nge hw (by omega)) ?_)
      refine xOk.bnde (m_isSo hF hM hO hR h5 hm hw) ?_
      rw [b2_inc, nk_succ]
      exact ih _ rfl
    · intro j c hc
      subst hc
      show xOk (f_M_missing_18 F I (j + 1) _ _ _) _
      rw [f_M_missing_18, hM.1.2, nk_in hl (by omega), nk_N (by omega), hM.2.1.2.2, nl4, nk_mul]
      exact xOk.ck rfl (xOk.pos (Int32.le_refl _) (xOk.pur rfl))
/-! sure -/
theorem frst_none_all {p : Nat → Bool} {N : Nat} (h : frst p N = none) : ∀ w, w < N → p w = false := by
  induction N with
  | zero => intro w hw; omega
  | succ n ih =>
    intro w hw
    have h0 : frst p n = none := by
      cases e : frst p n with
      | none => rfl
      | some k => rw [frst_some e (Nat.le_succ n)] at h; cases h
    rw [frst_none_succ h0] at h
    by_cases e : w = n
    · subst e
      cases hp : p w with
      | false => rfl
      | true => rw [hp, iTT] at h; cases h
    · exact ih h0 w (by omega)
theorem frst_p {p : Nat → Bool} {N k : Nat} (h : frst p N = some k) : p k = true := by
  induction N with
  | zero => cases h
  | succ n ih =>
    cases e : frst p n with
    | some j =>
      rw [frst_some e (Nat.le_succ n)] at h
      cases h
      exact ih e
    | none =>
      rw [frst_none_succ e] at h
      split at h
      · rename_i hp
        cases h
        exact hp
      · cases h
def sureF (p : Nat → Bool) (N : Nat) : Int32 := match frst p N with
  | none => -2
  | some k0 => if allB (fun w => !p w || decide (w / 4 = k0 / 4)) N = true then Int32.ofNat (k0 / 4) else -2
def surP (p : Nat → Bool) (w : Nat) (v : Int32) : Prop := (frst p w = none ∧ v = -2) ∨ ∃ k0, frst p w = some k0 ∧ v = Int32.ofNat (k0 / 4) ∧ ∀ w', w' < w → p w' = true → w' / 4 = k0 / 4
theorem surP_end {p : Nat → Bool} {N : Nat} {v : Int32} (h : surP p N v) : v = sureF p N := by
  unfold sureF
  rcases h with ⟨h1, h2⟩ | ⟨k0, h1, h2, h3⟩
  · rw [h1, h2]
  · rw [h1]
    show v = if _ then _ else _
    rw [if_pos, h2]
    apply allB_iff.mpr
    intro w hw
    cases hp : p w with
    | false => rfl
    | true => rw [decide_eq_true (h3 w hw hp)]; rfl
theorem surP_two {p : Nat → Bool} {N w k0 : Nat} (h : frst p N = some k0) (hw : w < N) (hp : p w = true) (hne : ¬ w / 4 = k0 / 4) : sureF p N = -2 := by
  unfold sureF
  rw [h]
  show (if _ then _ else _) = _
  rw [if_neg]
  intro ha
  have := allB_iff.mp ha w hw
  rw [hp, decide_eq_false hne] at this
  cases this
def qSure (T : XT) (sd kb : Nat → Int32) (n : Nat) (k : Int32) : Int32 := if kw n k = true then sureF (so T sd kb (xN k)) (4 * tn T) else -1
theorem h_sure {F : Nat} (hF : 4000000 ≤ F) {lv n : Nat} {T : XT} {I : XI} (hC : cluR lv n T I) {k : Int32} : f_H_sure F I k = some (qSure T (I 128) (I 129) n k) := by
  obtain ⟨⟨hO, hK⟩, ⟨hT, hM⟩, hR, ⟨n2, n3⟩, h5⟩ := hC
  have o3 := hO.2.2
  have hn := hR.1
  unfold f_H_sure qSure
  rw [c_knows n2, Option.bind_some]
  cases hk : kw n k with
  | false => rfl
  | true =>
    obtain ⟨m, hm, rfl⟩ := kw_ex hR.1 hk
    rw [if_neg (by decide), iTT, nk_N (by omega)]
    have key : f_Clues_onlySpare F I (Int32.ofNat m) = some (sureF (so T (I 128) (I 129) m) (4 * tn T)) := by
      unfold f_Clues_onlySpare
      refine xOk.eq (xloop (tn T) (fun j (v : Int32) e => f_Clues_onlySpare_5 F I j (Int32.ofNat m) v (Int32.ofNat e)) (fun e v => surP (so T (I 128) (I 129) m) (4 * e) v) ?_ ?_ F (-2) 0 (by omega) (by omega) (Or.inl ⟨rfl, rfl⟩))
      · intro j v e he hv ih
        show xOk (f_Clues_onlySpare_5 F I (j + 1) _ _ _) _
        rw [f_Clues_onlySpare_5, hT.2.2.1]
        refine xOk.neg (nk_nge he (by omega)) ?_
        refine xOk.bnde (c_turnsOf hF hT hO hR hm he) ?_
        have hc4 := cnt_le (fun t => so T (I 128) (I 129) m (4 * e + t)) 4
        rw [nk_succ]
        by_cases h0 : cnt (fun t => so T (I 128) (I 129) m (4 * e + t)) 4 = 0
        · rw [h0]
          refine xOk.pos (by decide) (ih v ?_)
          have hall := cnt_pos.mp h0
          have none4 : ∀ w, 4 * e ≤ w → w < 4 * (e + 1) → so T (I 128) (I 129) m w = false := by
            intro w w1 w2
            have := hall (w - 4 * e) (by omega)
            rw [show 4 * e + (w - 4 * e) = w by omega] at this
            exact this
          rcases hv with ⟨v1, v2⟩ | ⟨k0, v1, v2, v3⟩
          · left
            refine ⟨?_, v2⟩
            cases hf : frst (so T (I 128) (I 129) m) (4 * (e + 1)) with
            | none => rfl
            | some w =>
              exfalso
              have w1 := frst_lt hf
              have w2 := frst_p hf
              by_cases hw : w < 4 * e
              · rw [frst_none_all v1 w hw] at w2; cases w2
              · rw [none4 w (by omega) w1] at w2; cases w2
          · right
            refine ⟨k0, frst_some v1 (by omega), v2, fun w' x1 x2 => ?_⟩
            by_cases hw : w' < 4 * e
            · exact v3 w' hw x2
            · rw [none4 w' (by omega) x1] at x2; cases x2
        · refine xOk.neg (show ¬ Int32.ofNat _ ≤ 0 from nk_nge (k := 0) (by omega) (by omega)) ?_
          -- some way of this spare
          have hex : ∃ t, t < 4 ∧ so T (I 128) (I 129) m (4 * e + t) = true := by
            apply Classical.byContradiction
            intro hno
            apply h0
            apply cnt_pos.mpr
            intro t ht
            cases hq : so T (I 128) (I 129) m (4 * e + t) with
            | false => rfl
            | true => exact absurd ⟨t, ht, hq⟩ hno
          obtain ⟨t, ht, hq⟩ := hex
          rcases hv with ⟨v1, v2⟩ | ⟨k0, v1, v2, v3⟩
          · refine xOk.pos v2 (ih _ (Or.inr ?_))
            cases hf : frst (so T (I 128) (I 129) m) (4 * (e + 1)) with
            | none => rw [frst_none_all hf _ (by omega)] at hq; cases hq
            | some w =>
              have w1 := frst_lt hf
              have w2 := frst_p hf
              have w3 : 4 * e ≤ w := by
                apply Classical.byContradiction
                intro hlt
                rw [frst_none_all v1 w (by omega)] at w2
                cases w2
              refine ⟨w, rfl, by rw [show w / 4 = e by omega], fun w' x1 x2 => ?_⟩
              by_cases hw : w' < 4 * e
              · rw [frst_none_all v1 w' hw] at x2; cases x2
              · omega
          · have hk0 := frst_lt v1
            refine xOk.neg (by rw [v2, nk_m2 (by omega)]; exact id) (xOk.pur ?_)
            rw [surP_two (frst_some v1 (show 4 * e ≤ 4 * tn T by omega)) (show 4 * e + t < 4 * tn T by omega) hq (by omega)]
      · intro j v hv
        show xOk (f_Clues_onlySpare_5 F I (j + 1) _ _ _) _
        rw [f_Clues_onlySpare_5, hT.2.2.1]
        exact xOk.pos (Int32.le_refl _) (xOk.pur (surP_end hv))
    rw [key]
    rfl
theorem m_sure {F : Nat} (hF : 4000000 ≤ F) {lv n : Nat} {T : XT} {I : XI} (hC : cluR lv n T I) {k : Int32} : f_M_sure F I k = some (qSure T (I 128) (I 129) n k) := by
  obtain ⟨⟨hO, hK⟩, ⟨hT, hM⟩, hR, ⟨n2, n3⟩, h5⟩ := hC
  have o3 := hO.2.2
  have hn := hR.1
  have hl := hM.1.1
  unfold f_M_sure qSure
  rw [n3, m_in, Option.bind_some, show (decide (0 ≤ k) && decide (k ≤ Int32.ofNat n)) = kw n k from rfl]
  cases hk : kw n k with
  | false => rfl
  | true =>
    obtain ⟨m, hm, rfl⟩ := kw_ex hR.1 hk
    rw [if_neg (by decide), iTT, nk_N (by omega)]
    refine xOk.eq (xloop (4 * tn T) (fun j (v : Int32) w => f_M_sure_19 F I j (Int32.ofNat m) v (Int32.ofNat w)) (fun w v => surP (so T (I 128) (I 129) m) w v) ?_ ?_ F (-2) 0 (by omega) (by omega) (Or.inl ⟨rfl, rfl⟩))
    · intro j v w hw hv ih
      show xOk (f_M_sure_19 F I (j + 1) _ _ _) _
      rw [f_M_sure_19, hM.1.2, nk_in hl (by omega), nk_N (by omega), hM.2.1.2.2, nl4, nk_mul]
      refine xOk.ck rfl (xOk.neg (nk_nge hw (by omega)) ?_)
      refine xOk.bnde (m_isSo hF hM hO hR h5 hm hw) ?_
      rw [nk_div (by omega) (by omega), nk_succ]
      cases hq : so T (I 128) (I 129) m w with
      | false =>
        refine xOk.pos rfl (ih v ?_)
        rcases hv with ⟨v1, v2⟩ | ⟨k0, v1, v2, v3⟩
        · left
          refine ⟨?_, v2⟩
          rw [frst_none_succ v1, hq, iFT]
        · right
          refine ⟨k0, frst_some v1 (by omega), v2, fun w' x1 x2 => ?_⟩
          by_cases e : w' = w
          · subst e
            rw [hq] at x2; cases x2
          · exact v3 w' (by omega) x2
      | true =>
        refine xOk.neg (by decide) ?_
        rcases hv with ⟨v1, v2⟩ | ⟨k0, v1, v2, v3⟩
        · refine xOk.pos (by rw [v2]; decide) (ih _ (Or.inr ⟨w, ?_, rfl, fun w' x1 x2 => ?_⟩))
          · rw [frst_none_succ v1, hq, iTT]
          · by_cases e : w' = w
            · rw [e]
            · rw [frst_none_all v1 w' (by omega)] at x2; cases x2
        · have hk0 := frst_lt v1
          refine xOk.neg (by rw [v2]; exact nk_nlt0 (by omega)) ?_
          by_cases e : k0 / 4 = w / 4
          · refine xOk.pos (by rw [v2, e]) (ih _ (Or.inr ⟨k0, frst_some v1 (by omega), by rw [e], fun w' x1 x2 => ?_⟩))
            by_cases e' : w' = w
            · rw [e', e]
            · exact v3 w' (by omega) x2
          · refine xOk.neg (by rw [v2, nk_eq (by omega) (by omega)]; exact e) (xOk.pur ?_)
            rw [surP_two (frst_some v1 (show w ≤ 4 * tn T by omega)) hw hq (fun h => e h.symm)]
    · intro j v hv
      show xOk (f_M_sure_19 F I (j + 1) _ _ _) _
      rw [f_M_sure_19, hM.1.2, nk_in hl (by omega), nk_N (by omega), hM.2.1.2.2, nl4, nk_mul]
      exact xOk.ck rfl (xOk.pos (Int32.le_refl _) (xOk.pur (surP_end hv)))
/-! ask -/
def cwP (T : XT) (sd kb : Nat → Int32) (k s j w : Nat) : Bool := so T sd kb k w && decide (3 + spk T (w / 4) (w % 4) s = Int32.ofNat j)
def cw (T : XT) (sd kb : Nat → Int32) (k s N j : Nat) : Nat := cnt (cwP T sd kb k s j) N
def wst (T : XT) (sd kb : Nat → Int32) (k s : Nat) : Nat := mx (cw T sd kb k s (4 * tn T)) 7
def bsF (g : Nat → Nat) : Nat → Nat
  | 0 => 0
  | m + 1 => if g (m + 1) < g (bsF g m) then m + 1 else bsF g m
theorem bsF_le {g : Nat → Nat} {m : Nat} : bsF g m ≤ m := by
  induction m with
  | zero => exact Nat.le_refl _
  | succ m ih =>
    unfold bsF
    split <;> omega
def qAsk (T : XT) (sd kb : Nat → Int32) (n : Nat) (k : Int32) : Int32 := if kw n k = true then (if cnt (so T sd kb (xN k)) (4 * tn T) = 0 then -2 else Int32.ofNat (bsF (wst T sd kb (xN k)) 3)) else -1
theorem knob_ex {T : XT} (hK : tKb T) {w s : Nat} (hw : w < 4 * tn T) : ∃ j, j < 7 ∧ 3 + spk T (w / 4) (w % 4) s = Int32.ofNat j := by
  have h := hK.2 (w / 4) ((s + 4 - w % 4) % 4) (by omega) (Nat.mod_lt _ (by omega))
  obtain ⟨h1, h2⟩ := h
  have e : spk T (w / 4) (w % 4) s = ts T (4 * (w / 4) + (s + 4 - w % 4) % 4) := rfl
  rw [← e] at h1 h2
  generalize spk T (w / 4) (w % 4) s = v at *
  rw [Int32.le_iff_toInt_le] at h1 h2
  have t3 : (3 : Int32).toInt = 3 := by decide
  have tm3 : (-3 : Int32).toInt = -3 := by decide
  refine ⟨(3 + v.toInt).toNat, by omega, ?_⟩
  apply Int32.toInt_inj.mp
  rw [Int32.toInt_ofNat_of_lt (by omega), Int32.toInt_add, t3]
  rw [Int.bmod_eq_of_le (by omega) (by omega)]
  omega
theorem mx_congr {g h : Nat → Nat} {N : Nat} (e : ∀ k, k < N → g k = h k) : mx g N = mx h N := by
  induction N with
  | zero => rfl
  | succ n ih =>
    unfold mx
    rw [ih (fun k hk => e k (by omega)), e n (by omega)]
theorem mx_upd {g g' : Nat → Nat} {N j0 : Nat} (hj : j0 < N) (h0 : g' j0 = g j0 + 1) (h1 : ∀ j, ¬ j = j0 → g' j = g j) : mx g' N = if mx g N < g' j0 then g' j0 else mx g N := by
  apply Nat.le_antisymm
  · apply mx_le
    intro k hk
    by_cases e : k = j0
    · rw [e]
      split <;> omega
    · rw [h1 k e]
      have := mx_ge (g := g) hk
      split <;> omega
  · have a := mx_ge (g := g') hj
    have b : mx g N ≤ mx g' N := by
      apply mx_le
      intro k hk
      have := mx_ge (g := g') hk
      by_cases e : k = j0
      · rw [e] at this ⊢; omega
      · rw [h1 k e] at this; exact this
    split <;> omega
theorem cw_le {T : XT} {sd kb : Nat → Int32} {k s N j : Nat} : cw T sd kb k s N j ≤ N := cnt_le _ _
theorem c_worstOf {F : Nat} (hF : 4000000 ≤ F) {T : XT} {I : XI} (hT : tbC 17 T I) (hO : tOk T) (hK : tKb T) {n k s : Nat} (hR : tolR n (I 128) (I 129)) (hk : k ≤ n) (hs : s < 4) : xOk (f_Clues_worstOf F (Int32.ofNat s) (Int32.ofNat k) I) (fun r => r.1 = Int32.ofNat (wst T (I 128) (I 129) k s) ∧ Same (sco 130) I r.2) := by
  have o3 := hO.2.2
  unfold f_Clues_worstOf
  refine (c_fill hF (A := 130) (n := 7) (by omega)).bnd (fun J hJ => ?_)
  obtain ⟨j1, j2⟩ := hJ
  have mx7 : ∀ N, N ≤ 20 → mx (cw T (I 128) (I 129) k s N) 7 ≤ 20 := fun N hN => mx_le (fun j _ => Nat.le_trans cw_le hN)
  have z0 : mx (cw T (I 128) (I 129) k s 0) 7 = 0 := Nat.le_antisymm (mx_le (fun j _ => cw_le)) (Nat.zero_le _)
  refine xloop (tn T) (fun m (q : Nat × XI) e => f_Clues_worstOf_13 F m (Int32.ofNat s) (Int32.ofNat k) (Int32.ofNat q.1) (Int32.ofNat e) q.2) (fun e q => q.1 = mx (cw T (I 128) (I 129) k s (4 * e)) 7 ∧ (∀ j, j < 7 → q.2 130 j = Int32.ofNat (cw T (I 128) (I 129) k s (4 * e) j)) ∧ Same (sco 130) I q.2) ?_ ?_ F (0, J) 0 (by omega) (by omega) ⟨z0.symm, fun j hj => j2 j hj, j1⟩
  · intro m q e he hP ih
    obtain ⟨v, K⟩ := q
    obtain ⟨p1, p2, p3⟩ : v = mx (cw T (I 128) (I 129) k s (4 * e)) 7 ∧ (∀ j, j < 7 → K 130 j = Int32.ofNat (cw T (I 128) (I 129) k s (4 * e) j)) ∧ Same (sco 130) I K := hP
    show xOk (f_Clues_worstOf_13 F (m + 1) (Int32.ofNat s) (Int32.ofNat k) (Int32.ofNat v) (Int32.ofNat e) K) _
    rw [f_Clues_worstOf_13, p3 17 2 rfl, hT.2.2.1]
    refine xOk.neg (nk_nge he (by omega)) ?_
    refine xloop 4 (fun i (q : Nat × XI) t => f_Clues_worstOf_28 F (fun v1 v2 v3 v4 I => f_Clues_worstOf_13 F m v1 v2 v3 v4 I) i (Int32.ofNat s) (Int32.ofNat k) (Int32.ofNat q.1) (Int32.ofNat e) (Int32.ofNat t) q.2) (fun t q => q.1 = mx (cw T (I 128) (I 129) k s (4 * e + t)) 7 ∧ (∀ j, j < 7 → q.2 130 j = Int32.ofNat (cw T (I 128) (I 129) k s (4 * e + t) j)) ∧ Same (sco 130) I q.2) ?_ ?_ F (v, K) 0 (by omega) (by omega) ⟨p1, p2, p3⟩
    · intro i q t ht hP ih2
      obtain ⟨v, K⟩ := q
      obtain ⟨p1, p2, p3⟩ : v = mx (cw T (I 128) (I 129) k s (4 * e + t)) 7 ∧ (∀ j, j < 7 → K 130 j = Int32.ofNat (cw T (I 128) (I 129) k s (4 * e + t) j)) ∧ Same (sco 130) I K := hP
      have hTK : tbC 17 T K := tbC_same hT p3 (fun _ => rfl) (fun _ => rfl) (fun _ => rfl) (fun _ => rfl)
      have e128 : K 128 = I 128 := p3.row 128 (fun _ => rfl)
      have e129 : K 129 = I 129 := p3.row 129 (fun _ => rfl)
      show xOk (f_Clues_worstOf_28 F _ (i + 1) (Int32.ofNat s) (Int32.ofNat k) (Int32.ofNat v) (Int32.ofNat e) (Int32.ofNat t) K) _
      rw [f_Clues_worstOf_28]
      refine xOk.neg (nk_nge ht (by decide)) ?_
      refine xOk.bnde (c_isSo hF hTK hO (by rw [e128, e129]; exact hR) hk he ht) ?_
      rw [e128, e129, nk_succ]
      cases hq : so T (I 128) (I 129) k (4 * e + t) with
      | false =>
        refine xOk.pos rfl (ih2 (v, K) ⟨?_, ?_, p3⟩)
        · show v = mx _ 7
          rw [p1]
          congr 1
          funext j
          show cnt _ _ = cnt _ (4 * e + t + 1)
          rw [cnt_succ]
          unfold cwP
          rw [hq]
          rfl
        · intro j hj
          show K 130 j = _
          rw [p2 j hj]
          congr 1
          show cnt _ _ = cnt _ (4 * e + t + 1)
          rw [cnt_succ]
          unfold cwP
          rw [hq]
          rfl
      | true =>
        refine xOk.neg (by decide) ?_
        refine xOk.bnde (c_spareKnob hTK hO he ht hs) ?_
        obtain ⟨j0, hj0, hv⟩ := knob_ex (s := s) hK (show 4 * e + t < 4 * tn T by omega)
        rw [show (4 * e + t) / 4 = e by omega, show (4 * e + t) % 4 = t by omega] at hv
        simp only [hv, show xN (Int32.ofNat j0) = j0 from nk_N (by omega)]
        refine xOk.ck (nk_in hj0 (by omega)) (xOk.ck (nk_in hj0 (by omega)) (xOk.st (xOk.ck (nk_in hj0 (by omega)) ?_)))
        have hs0 : cw T (I 128) (I 129) k s (4 * e + t + 1) j0 = cw T (I 128) (I 129) k s (4 * e + t) j0 + 1 := by
          show cnt _ (4 * e + t + 1) = cnt _ _ + 1
          rw [cnt_succ, show cwP T (I 128) (I 129) k s j0 (4 * e + t) = true from by
            unfold cwP
            rw [hq, show (4 * e + t) / 4 = e by omega, show (4 * e + t) % 4 = t by omega, decide_eq_true hv]
            rfl]
          rfl
        have hs1 : ∀ j, j < 7 → ¬ j = j0 → cw T (I 128) (I 129) k s (4 * e + t + 1) j = cw T (I 128) (I 129) k s (4 * e + t) j := by
          intro j hj hne
          show cnt _ (4 * e + t + 1) = cnt _ _
          rw [cnt_succ, show cwP T (I 128) (I 129) k s j (4 * e + t) = false from by
            unfold cwP
            rw [hq, show (4 * e + t) / 4 = e by omega, show (4 * e + t) % 4 = t by omega, decide_eq_false (by rw [hv, nk_eq (by omega) (by omega)]; exact fun h => hne h.symm)]
            rfl]
          rfl
        have hput : ∀ j, j < 7 → xput K 130 j0 (K 130 j0 + 1) 130 j = Int32.ofNat (cw T (I 128) (I 129) k s (4 * e + t + 1) j) := by
          intro j hj
          rw [xput_at]
          by_cases ej : j = j0
          · rw [if_pos ej, ej, hs0, p2 j0 hj0, nk_succ]
          · rw [if_neg ej, hs1 j hj ej, p2 j hj]
        have hb1 := @cw_le T (I 128) (I 129) k s (4 * e + t + 1) j0
        have hb2 := mx7 (4 * e + t) (by omega)
        rw [hput j0 hj0]
        -- the greatest so far
        have hmx : mx (cw T (I 128) (I 129) k s (4 * e + t + 1)) 7 = if v < cw T (I 128) (I 129) k s (4 * e + t + 1) j0 then cw T (I 128) (I 129) k s (4 * e + t + 1) j0 else v := by
          have := mx_upd (g := fun j => if j < 7 then cw T (I 128) (I 129) k s (4 * e + t) j else 0) (g' := fun j => if j < 7 then cw T (I 128) (I 129) k s (4 * e + t + 1) j else 0) (N := 7) hj0 (by simp [hj0, hs0]) (fun j hne => by
            by_cases h7 : j < 7
            · simp [h7, hs1 j h7 hne]
            · simp [h7])
          have c1 : ∀ (g : Nat → Nat), mx (fun j => if j < 7 then g j else 0) 7 = mx g 7 := fun g => mx_congr (fun k hk => if_pos hk)
          rw [c1, c1] at this
          rw [this, p1]
          simp [hj0]
        by_cases hlt : v < cw T (I 128) (I 129) k s (4 * e + t + 1) j0
        · rw [if_pos (nk_lt_t hlt (by omega))]
          refine ih2 (cw T (I 128) (I 129) k s (4 * e + t + 1) j0, xput K 130 j0 (K 130 j0 + 1)) ⟨?_, hput, p3.put' rfl⟩
          show cw T (I 128) (I 129) k s (4 * e + t + 1) j0 = mx (cw T (I 128) (I 129) k s (4 * e + t + 1)) 7
          rw [hmx, if_pos hlt]
        · rw [if_neg (nk_lt_f (by omega) (by omega))]
          refine ih2 (v, xput K 130 j0 (K 130 j0 + 1)) ⟨?_, hput, p3.put' rfl⟩
          show v = mx (cw T (I 128) (I 129) k s (4 * e + t + 1)) 7
          rw [hmx, if_neg hlt]
    · intro i q hP
      obtain ⟨v, K⟩ := q
      obtain ⟨p1, p2, p3⟩ : v = mx (cw T (I 128) (I 129) k s (4 * e + 4)) 7 ∧ (∀ j, j < 7 → K 130 j = Int32.ofNat (cw T (I 128) (I 129) k s (4 * e + 4) j)) ∧ Same (sco 130) I K := hP
      show xOk (f_Clues_worstOf_28 F _ (i + 1) (Int32.ofNat s) (Int32.ofNat k) (Int32.ofNat v) (Int32.ofNat e) (Int32.ofNat 4) K) _
      rw [f_Clues_worstOf_28]
      refine xOk.pos (by decide) ?_
      rw [nk_succ]
      exact ih (v, K) ⟨p1, p2, p3⟩
  · intro m q hP
    obtain ⟨v, K⟩ := q
    obtain ⟨p1, p2, p3⟩ : v = mx (cw T (I 128) (I 129) k s (4 * tn T)) 7 ∧ (∀ j, j < 7 → K 130 j = Int32.ofNat (cw T (I 128) (I 129) k s (4 * tn T) j)) ∧ Same (sco 130) I K := hP
    show xOk (f_Clues_worstOf_13 F (m + 1) (Int32.ofNat s) (Int32.ofNat k) (Int32.ofNat v) (Int32.ofNat (tn T)) K) _
    rw [f_Clues_worstOf_13, p3 17 2 rfl, hT.2.2.1]
    exact xOk.pos (Int32.le_refl _) (xOk.pur ⟨by rw [p1]; rfl, p3⟩)
theorem wst_le {T : XT} {sd kb : Nat → Int32} {k s : Nat} (hO : tOk T) : wst T sd kb k s ≤ 20 := by
  have o3 := hO.2.2
  exact mx_le (fun j _ => Nat.le_trans cw_le (by omega))
theorem scH_130 {o j : Nat} (h : scH o j = false) : sco 130 o j = false := by
  unfold scH at h
  unfold sco
  simp only [Bool.or_eq_false_iff] at h
  exact h.2.2
theorem h_ask {F : Nat} (hF : 4000000 ≤ F) {lv n : Nat} {T : XT} {I : XI} (hC : cluR lv n T I) {k : Int32} : xOk (f_H_ask F k I) (fun r => r.1 = qAsk T (I 128) (I 129) n k ∧ Same scH I r.2) := by
  obtain ⟨⟨hO, hK⟩, ⟨hT, hM⟩, hR, ⟨n2, n3⟩, h5⟩ := hC
  have o3 := hO.2.2
  have hn := hR.1
  unfold f_H_ask qAsk
  refine xOk.bnde (c_knows n2) ?_
  cases hk : kw n k with
  | false => exact xOk.pos rfl (xOk.pur ⟨rfl, Same.rfl⟩)
  | true =>
    obtain ⟨m, hm, rfl⟩ := kw_ex hR.1 hk
    rw [iTT, nk_N (by omega)]
    refine xOk.neg (by decide) ?_
    have key : xOk (f_Clues_bestSide F (Int32.ofNat m) I) (fun r => r.1 = (if cnt (so T (I 128) (I 129) m) (4 * tn T) = 0 then -2 else Int32.ofNat (bsF (wst T (I 128) (I 129) m) 3)) ∧ Same (sco 130) I r.2) := by
      unfold f_Clues_bestSide
      refine xOk.bnde (c_fitting hF hT hO hR hm) ?_
      have hle := cnt_le (so T (I 128) (I 129) m) (4 * tn T)
      by_cases h0 : cnt (so T (I 128) (I 129) m) (4 * tn T) = 0
      · rw [if_pos h0]
        exact xOk.pos (by rw [h0]; rfl) (xOk.pur ⟨rfl, Same.rfl⟩)
      · rw [if_neg h0]
        refine xOk.neg (by rw [nk_z (by omega)]; exact h0) ?_
        refine xloop 3 (fun i (J : XI) s => f_Clues_bestSide_15 F i (Int32.ofNat m) (Int32.ofNat (bsF (wst T (I 128) (I 129) m) s)) (Int32.ofNat (s + 1)) J) (fun s J => Same (sco 130) I J) ?_ ?_ F I 0 (by omega) (by omega) Same.rfl
        · intro i J s hs hJ ih
          have hTJ : tbC 17 T J := tbC_same hT hJ (fun _ => rfl) (fun _ => rfl) (fun _ => rfl) (fun _ => rfl)
          have e128 : J 128 = I 128 := hJ.row 128 (fun _ => rfl)
          have e129 : J 129 = I 129 := hJ.row 129 (fun _ => rfl)
          have hb := @bsF_le (wst T (I 128) (I 129) m) s
          show xOk (f_Clues_bestSide_15 F (i + 1) _ _ _ _) _
          rw [f_Clues_bestSide_15]
          refine xOk.neg (show ¬ (4 : Int32) ≤ Int32.ofNat (s + 1) from nk_nge (N := 4) (by omega) (by decide)) ?_
          refine (c_worstOf hF hTJ hO hK (by rw [e128, e129]; exact hR) hm (show s + 1 < 4 by omega)).bnd (fun q hq => ?_)
          have hJ2 := hJ.trans hq.2
          have hTJ2 : tbC 17 T q.2 := tbC_same hT hJ2 (fun _ => rfl) (fun _ => rfl) (fun _ => rfl) (fun _ => rfl)
          have f128 : q.2 128 = I 128 := hJ2.row 128 (fun _ => rfl)
          have f129 : q.2 129 = I 129 := hJ2.row 129 (fun _ => rfl)
          refine (c_worstOf hF hTJ2 hO hK (by rw [f128, f129]; exact hR) hm (show bsF (wst T (I 128) (I 129) m) s < 4 by omega)).bnd (fun q2 hq2 => ?_)
          rw [hq.1, hq2.1, e128, e129, f128, f129, nk_succ]
          have w1 := @wst_le T (I 128) (I 129) m (s + 1) hO
          have w2 := @wst_le T (I 128) (I 129) m (bsF (wst T (I 128) (I 129) m) s) hO
          have ih2 := ih q2.2 (hJ2.trans hq2.2)
          have eb : bsF (wst T (I 128) (I 129) m) (s + 1) = if wst T (I 128) (I 129) m (s + 1) < wst T (I 128) (I 129) m (bsF (wst T (I 128) (I 129) m) s) then s + 1 else bsF (wst T (I 128) (I 129) m) s := rfl
          by_cases hlt : wst T (I 128) (I 129) m (s + 1) < wst T (I 128) (I 129) m (bsF (wst T (I 128) (I 129) m) s)
          · rw [if_neg (nk_nge hlt (by omega))]
            rw [eb, if_pos hlt] at ih2
            exact ih2
          · rw [if_pos (nk_le_t (by omega) (by omega))]
            rw [eb, if_neg hlt] at ih2
            exact ih2
        · intro i J hJ
          show xOk (f_Clues_bestSide_15 F (i + 1) _ _ _ _) _
          rw [f_Clues_bestSide_15]
          exact xOk.pos (by decide) (xOk.pur ⟨rfl, hJ⟩)
    exact key.bnd (fun r hr => xOk.pur ⟨hr.1, hr.2.mono (fun _ _ e => scH_130 e)⟩)
