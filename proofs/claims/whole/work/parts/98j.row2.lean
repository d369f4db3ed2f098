/-! both readers: a row of the table, the reference -/
def scV2 (lo o j : Nat) : Bool := Nat.beq o 142 && rg lo 6 j
theorem m_row78 {F : Nat} (hF : 4000000 ≤ F) {b : Nat → Int32} {n i h sd : Nat} {f0 : Bool} {L : XL} {M : XI} (hk : tkM b n M L) (hr : reach b n i) (h2 : kd b n i = 2) (hh : h < 5) (hsd : sd < 2) (h19 : M 131 19 = Int32.ofNat sd) (h141 : M 141 sd = Int32.ofNat h) :
    ∃ J, (Same (scV2 (30 * sd + 6 * h)) M J ∧ ((f0 && allB (fun x => gl (ch b n i x)) (ln b n i)) = true → ln b n i ≤ 6 → ∀ x, x < ln b n i → J 142 (30 * sd + 6 * h + x) = lvc (ch b n i x))) ∧ f_M_tellRow_78 F L F (Int32.ofNat i) (Int32.ofNat (ln b n i)) (b2 f0) 0 M = if (f0 && allB (fun x => gl (ch b n i x)) (ln b n i)) = true then f_M_tellRow_178 F L J else (f_M_wrong 6 (Int32.ofNat i) J).bind fun q => f_M_tellRow_178 F L q := by
  have hl := (nm_ok h2).1
  have hi4 := hr.1
  have hchs : ∀ t, t < ln b n i → 97 ≤ xN (b (plc b n i + t)) ∧ xN (b (plc b n i + t)) ≤ 122 := fun t ht => (ch_ok h2 ht).2
  have hnm : L 137 i = Int64.ofNat (nvN (fun t => xN (b (plc b n i + t))) (ln b n i)) := (hk i hr).2.2 h2
  have loop : ∀ j x m (s : Bool) J, x + j = ln b n i → j < m → Same (scV2 (30 * sd + 6 * h)) M J → s = (f0 && allB (fun x => gl (ch b n i x)) x) → (∀ y, y < x → y < 6 → J 142 (30 * sd + 6 * h + y) = lvc (ch b n i y)) → ∃ J', (Same (scV2 (30 * sd + 6 * h)) M J' ∧ ((f0 && allB (fun x => gl (ch b n i x)) (ln b n i)) = true → ln b n i ≤ 6 → ∀ x, x < ln b n i → J' 142 (30 * sd + 6 * h + x) = lvc (ch b n i x))) ∧ f_M_tellRow_78 F L m (Int32.ofNat i) (Int32.ofNat (ln b n i)) (b2 s) (Int32.ofNat x) J = if (f0 && allB (fun x => gl (ch b n i x)) (ln b n i)) = true then f_M_tellRow_178 F L J' else (f_M_wrong 6 (Int32.ofNat i) J').bind fun q => f_M_tellRow_178 F L q := by
    intro j
    induction j with
    | zero =>
      intro x m s J hx hm hs hsv hw
      obtain ⟨m, rfl⟩ : ∃ q, m = q + 1 := ⟨m - 1, by omega⟩
      have ex : x = ln b n i := by omega
      subst ex
      refine ⟨J, ⟨hs, fun _ e6 x hx => hw x hx (by omega)⟩, ?_⟩
      rw [f_M_tellRow_78, if_pos (Int32.le_refl _), ← hsv]
      cases s with
      | false => rw [if_pos (show b2 false = 0 from rfl), if_neg (by decide)]
      | true => rw [if_neg (by decide), if_pos rfl]
    | succ j ih =>
      intro x m s J hx hm hs hsv hw
      obtain ⟨m, rfl⟩ : ∃ q, m = q + 1 := ⟨m - 1, by omega⟩
      have hxl : x < ln b n i := by omega
      obtain ⟨c1, c2, c3⟩ := ch_ok h2 hxl
      have hlet : f_M_letterIn F (L 137 i) (Int32.ofNat x) = some (Int32.ofNat (ch b n i x - 97)) := by
        rw [hnm]
        exact m_letterIn hF (f := fun t => xN (b (plc b n i + t))) (by omega) hxl hchs
      rw [f_M_tellRow_78, if_neg (nk_nge hxl (by omega)), xck_true (nk_in (by omega) (by omega)), nk_N (show i < 2147483648 by omega), hlet]
      show ∃ J', _ ∧ (if Int32.ofNat (ch b n i x - 97) ≤ 4 then _ else _) = _
      have j19 : J 131 19 = Int32.ofNat sd := (hs 131 19 rfl).trans h19
      have j141 : J 141 sd = Int32.ofNat h := (hs 141 sd rfl).trans h141
      have step : ∀ s' : Bool, s' = (s && gl (ch b n i x)) → ∃ J', (Same (scV2 (30 * sd + 6 * h)) M J' ∧ ((f0 && allB (fun x => gl (ch b n i x)) (ln b n i)) = true → ln b n i ≤ 6 → ∀ x, x < ln b n i → J' 142 (30 * sd + 6 * h + x) = lvc (ch b n i x))) ∧ f_M_tellRow_112 F L (fun v1 v2 v3 v4 I => f_M_tellRow_78 F L m v1 v2 v3 v4 I) (Int32.ofNat i) (Int32.ofNat (ln b n i)) (b2 s') (Int32.ofNat x) (Int32.ofNat (ch b n i x - 97)) J = if (f0 && allB (fun x => gl (ch b n i x)) (ln b n i)) = true then f_M_tellRow_178 F L J' else (f_M_wrong 6 (Int32.ofNat i) J').bind fun q => f_M_tellRow_178 F L q := by
        intro s' hs'
        have hsv' : s' = (f0 && allB (fun x => gl (ch b n i x)) (x + 1)) := by
          show s' = (f0 && (allB (fun x => gl (ch b n i x)) x && gl (ch b n i x)))
          rw [← Bool.and_assoc, ← hsv]
          exact hs'
        unfold f_M_tellRow_112
        by_cases e6 : 6 ≤ x
        · rw [if_pos (show (6 : Int32) ≤ Int32.ofNat x from nk_le_t (a := 6) e6 (by omega)), nk_succ]
          exact ih (x + 1) m s' J (by omega) (by omega) hs hsv' (fun y hy hy6 => hw y (by omega) hy6)
        · rw [if_neg (show ¬ (6 : Int32) ≤ Int32.ofNat x from nk_nge (N := 6) (by omega) (by omega)), j19, xck_true (nk_in hsd (by omega)), nk_N (show sd < 2147483648 by omega), j141]
          unfold f_M_tellRow_160
          rw [show (30 : Int32) = Int32.ofNat 30 from rfl, show (6 : Int32) = Int32.ofNat 6 from rfl, nk_mul, nk_mul, nk_add, nk_add, xck_true (nk_in (by omega) (by omega)), nk_N (by omega), nk_succ]
          have hv : (if Int32.ofNat (ch b n i x - 97) = 14 then (9 : Int32) else Int32.ofNat (ch b n i x - 97)) = lvc (ch b n i x) := by
            unfold lvc
            have e14 : (Int32.ofNat (ch b n i x - 97) = 14) = (ch b n i x - 97 = 14) := by rw [show (14 : Int32) = Int32.ofNat 14 from rfl, nk_eq (by omega) (by omega)]
            by_cases e : ch b n i x = 111
            · rw [if_pos (by rw [e14]; omega), if_pos e]
            · rw [if_neg (by rw [e14]; omega), if_neg e]
          rw [hv]
          have hput : Same (scV2 (30 * sd + 6 * h)) J (xput J 142 (30 * sd + 6 * h + x) (lvc (ch b n i x))) := by
            refine Same.put ?_
            show rg (30 * sd + 6 * h) 6 (30 * sd + 6 * h + x) = true
            exact rg_in (by omega)
          refine ih (x + 1) m s' _ (by omega) (by omega) (hs.trans hput) hsv' (fun y hy hy6 => ?_)
          rw [xput_at]
          by_cases e : y = x
          · rw [if_pos (by omega), e]
          · rw [if_neg (by omega)]; exact hw y (by omega) hy6
      have hgl : gl (ch b n i x) = decide (ch b n i x - 97 ≤ 4 ∨ ch b n i x - 97 = 14) := by
        unfold gl
        by_cases e1 : ch b n i x = 111
        · rw [decide_eq_true e1, decide_eq_true (show ch b n i x - 97 ≤ 4 ∨ ch b n i x - 97 = 14 by omega)]; rfl
        · rw [decide_eq_false e1, Bool.false_or]
          by_cases e2 : ch b n i x < 102
          · rw [decide_eq_true e2, decide_eq_true (show ch b n i x - 97 ≤ 4 ∨ ch b n i x - 97 = 14 by omega)]
          · rw [decide_eq_false e2, decide_eq_false (show ¬ (ch b n i x - 97 ≤ 4 ∨ ch b n i x - 97 = 14) by omega)]
      by_cases e4 : ch b n i x - 97 ≤ 4
      · rw [if_pos (show Int32.ofNat (ch b n i x - 97) ≤ 4 from nk_le_t (b := 4) e4 (by omega))]
        exact step s (by rw [hgl, decide_eq_true (Or.inl e4), Bool.and_true])
      · rw [if_neg (show ¬ Int32.ofNat (ch b n i x - 97) ≤ 4 from nk_nge (k := 4) (by omega) (by omega))]
        by_cases e14 : ch b n i x - 97 = 14
        · rw [if_pos (show Int32.ofNat (ch b n i x - 97) = 14 by rw [e14]; rfl)]
          exact step s (by rw [hgl, decide_eq_true (Or.inr e14), Bool.and_true])
        · rw [if_neg (show ¬ Int32.ofNat (ch b n i x - 97) = 14 by rw [show (14 : Int32) = Int32.ofNat 14 from rfl, nk_eq (by omega) (by omega)]; exact e14)]
          exact step false (by rw [hgl, decide_eq_false (show ¬ (ch b n i x - 97 ≤ 4 ∨ ch b n i x - 97 = 14) by omega), Bool.and_false])
  exact loop (ln b n i) 0 F f0 M (by omega) (by omega) Same.rfl (by show f0 = (f0 && true); rw [Bool.and_true]) (fun y hy => absurd hy (Nat.not_lt_zero y))
def scVW (sd h o j : Nat) : Bool := scV2 (30 * sd + 6 * h) o j || (Nat.beq o 140 && Nat.beq j sd)
theorem m_row50 {F : Nat} (hF : 4000000 ≤ F) {b : Nat → Int32} {n i w h sd : Nat} {L : XL} {M : XI} (hk : tkM b n M L) (hr : reach b n i) (h2 : kd b n i = 2) (hh : h < 5) (hsd : sd < 2) (h19 : M 131 19 = Int32.ofNat sd) (h141 : M 141 sd = Int32.ofNat h) (h140 : M 140 sd = Int32.ofNat w) (hw : w ≤ 8) :
    ∃ J, (Same (scV2 (30 * sd + 6 * h)) M J ∧ (rowG b n i w = true → ∀ x, x < ln b n i → J 142 (30 * sd + 6 * h + x) = lvc (ch b n i x))) ∧ f_M_tellRow_50 F L (Int32.ofNat i) (Int32.ofNat (ln b n i)) M = if rowG b n i w = true then f_M_tellRow_178 F L J else (f_M_wrong 6 (Int32.ofNat i) J).bind fun q => f_M_tellRow_178 F L q := by
  have hl := (nm_ok h2).1
  obtain ⟨J, ⟨j1, j2⟩, j3⟩ := m_row78 hF (f0 := decide (ln b n i = w) && decide (ln b n i ≤ 6)) hk hr h2 hh hsd h19 h141
  refine ⟨J, ⟨j1, fun hg => ?_⟩, ?_⟩
  · have hg' := hg
    unfold rowG at hg'
    rw [Bool.and_eq_true, Bool.and_eq_true] at hg'
    exact j2 hg (of_decide_eq_true hg'.1.2)
  · have e50 : f_M_tellRow_50 F L (Int32.ofNat i) (Int32.ofNat (ln b n i)) M = f_M_tellRow_78 F L F (Int32.ofNat i) (Int32.ofNat (ln b n i)) (b2 (decide (ln b n i = w) && decide (ln b n i ≤ 6))) 0 M := by
      unfold f_M_tellRow_50
      rw [h19, xck_true (nk_in hsd (by omega)), nk_N (show sd < 2147483648 by omega), h140]
      by_cases e : ln b n i = w
      · rw [if_pos (by rw [e]), decide_eq_true e, Bool.true_and]
        by_cases e6 : ln b n i ≤ 6
        · rw [if_neg (show ¬ (6 : Int32) < Int32.ofNat (ln b n i) from nk_lt_f (a := 6) (by omega) (by omega)), decide_eq_true e6]; rfl
        · rw [if_pos (show (6 : Int32) < Int32.ofNat (ln b n i) from nk_lt_t (a := 6) (by omega) (by omega)), decide_eq_false e6]; rfl
      · rw [if_neg (by rw [nk_eq (by omega) (by omega)]; exact e), decide_eq_false e]; rfl
    rw [e50, j3]
    rfl
