/-! most: the class's answer -/
def mostR (T : XT) (k : Nat) : Prop := ∃ m, m < 64 ∧ cR T 30 m k
noncomputable def qMost (T : XT) : Int32 := @Classical.epsilon Int32 ⟨0⟩ (fun v => isMx (mostR T) v)
theorem qMost_eq {T : XT} {v : Int32} (h : isMx (mostR T) v) : v = qMost T :=
  isMx_eq h (@Classical.epsilon_spec_aux Int32 ⟨0⟩ (fun v => isMx (mostR T) v) ⟨v, h⟩)
theorem cR_zero {T : XT} : ∀ i, cR T i 0 0 := by
  intro i
  induction i with
  | zero => exact ⟨rfl, rfl⟩
  | succ i ih => exact ⟨0, by omega, Or.inl ⟨ih, (Nat.zero_and _).symm⟩⟩
theorem h_most {F : Nat} (hF : 4000000 ≤ F) {lv : Nat} {T : XT} {W : Nat → Int32} {I : XI} (hC : core lv T W I) : xOk (f_H_most F I) (fun r => r.1 = qMost T ∧ Same scH I r.2) := by
  obtain ⟨⟨hO, -, -⟩, ⟨hT, hM⟩, ⟨h4, hW, h6⟩, -, -⟩ := hC
  have key : xOk (f_Paths_mostTogether F I) (fun r => r.1 = qMost T ∧ Same scH I r.2) := by
    unfold f_Paths_mostTogether
    refine (c_fill hF (A := 35) (n := 64) (v := -1) (by omega)).bnd (fun J hJ => xOk.ck (by decide) (xOk.st ?_))
    have hJs : Same scH I J := hJ.1.mono (fun o j e => by
      have h1 := e
      unfold scH at h1
      unfold sco
      simp only [Bool.or_eq_false_iff] at h1
      exact h1.2.1.1.2)
    rw [show xN 0 = 0 from rfl]
    refine xloop 30 (fun n (K : XI) i => f_Paths_mostTogether_17 F n (Int32.ofNat i) K) (fun i K => Same scH I K ∧ ∀ m, m < 64 → isMx (cR T i m) (K 35 m)) ?_ ?_ F _ 0 (by omega) (by omega) ⟨hJs.put' rfl, fun m hm => ?_⟩
    · rintro n K i hi ⟨hK, hK35⟩ ih
      show xOk (f_Paths_mostTogether_17 F (n + 1) (Int32.ofNat i) K) _
      rw [f_Paths_mostTogether_17, nk_succ]
      refine xOk.neg (nk_nge hi (by decide)) ((c_goOverCell hF (tbC_X hT hK.HX) hO hi hK35).bnd (fun K' hK' => ih K' ⟨hK.trans hK'.2, hK'.1⟩))
    · rintro n K ⟨hK, hK35⟩
      show xOk (f_Paths_mostTogether_17 F (n + 1) (Int32.ofNat 30) K) _
      rw [f_Paths_mostTogether_17]
      refine xOk.pos (Int32.le_refl _) ?_
      refine xloop 64 (fun n (v : Int32) q => f_Paths_mostTogether_38 F n v (Int32.ofNat q) K) (fun q v => isMx (fun k => k = 0 ∨ ∃ m, m < q ∧ cR T 30 m k) v) ?_ ?_ F 0 0 (by omega) (by omega) ?_
      · intro n v q hq hP ih
        show xOk (f_Paths_mostTogether_38 F (n + 1) v (Int32.ofNat q) K) _
        rw [f_Paths_mostTogether_38, nk_succ]
        refine xOk.neg (nk_nge hq (by decide)) (xOk.ck (nk_in hq (by omega)) ?_)
        simp only [nk_N (show q < 2147483648 by omega)]
        refine ih _ (isMx_congr (isMx_or hP (hK35 q hq) ?_) (fun k => ⟨fun h => ?_, fun h => ?_⟩))
        · rintro k ((h | ⟨m, hm, h⟩) | h)
          · omega
          · have := (cR_bd 30 m k h).2; omega
          · have := (cR_bd 30 q k h).2; omega
        · rcases h with (h | ⟨m, hm, h⟩) | h
          · exact Or.inl h
          · exact Or.inr ⟨m, by omega, h⟩
          · exact Or.inr ⟨q, by omega, h⟩
        · rcases h with h | ⟨m, hm, h⟩
          · exact Or.inl (Or.inl h)
          · by_cases e : m = q
            · rw [e] at h; exact Or.inr h
            · exact Or.inl (Or.inr ⟨m, by omega, h⟩)
      · intro n v hP
        show xOk (f_Paths_mostTogether_38 F (n + 1) v (Int32.ofNat 64) K) _
        rw [f_Paths_mostTogether_38]
        refine xOk.pos (Int32.le_refl _) (xOk.pur ⟨qMost_eq (isMx_congr hP (fun k => ⟨fun h => ?_, fun h => Or.inr h⟩)), hK⟩)
        rcases h with h | h
        · rw [h]; exact ⟨0, by omega, cR_zero 30⟩
        · exact h
      · exact Or.inl ⟨0, Or.inl rfl, fun j hj => by
          rcases hj with h | ⟨m, hm, h⟩
          · omega
          · omega, rfl⟩
    · rw [xput_at]
      by_cases e : m = 0
      · rw [if_pos e, e]
        exact Or.inl ⟨0, ⟨rfl, rfl⟩, fun j hj => by
          have := hj.2
          omega, rfl⟩
      · rw [if_neg e]
        exact Or.inr ⟨fun k hk => e hk.1, hJ.2 m hm⟩
  unfold f_H_most
  exact key.bnd (fun r hr => xOk.pur hr)
