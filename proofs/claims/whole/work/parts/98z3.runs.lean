/-! the law runs and answers 1 -/
theorem law_from2 {X : XX} (hf : ∀ (I : XI) (L : XL), xIat I xN_C = true → xIat I xN_R = true → xKeysAt L = true → xZs I = true → ∃ (F : Nat) (r : Int32 × XI × XL), f_law_18 X F F 0 I L = some r ∧ r.1 = 1) :
    ∃ (n : Nat) (hp' : XHp), xexec X n 64 xlaw 0 [.ref xSCR, .null, .null, .null] [] ([], fun _ _ => 0, fun _ _ => 0) = some (some (.int 1), hp') ∧ hp'.1.length ≤ 600000 ∧ xsz hp'.1 ≤ 7302250 := by
  obtain ⟨h2, hh2⟩ := Option.isSome_iff_exists.mp xpre_ok
  have hz := xZs_of hh2
  unfold xpre at hh2
  split at hh2
  rotate_left
  · cases hh2
  rename_i h e1
  split at hh2
  rotate_left
  · cases hh2
  rename_i h2' e2
  cases hb : (decide (h.1 = xSHc) && (decide (h2'.1 = xSH) && (xIat h2'.2.1 xN_C && (xIat h2'.2.1 xN_R && xKeysAt h2'.2.2)))) with
  | false => rw [hb] at hh2; cases hh2
  | true =>
    rw [hb] at hh2
    have e : some h2' = some h2 := hh2
    rw [← Option.some.inj e] at hz
    simp only [Bool.and_eq_true, decide_eq_true_eq] at hb
    obtain ⟨b1, b2, b3, b4, b5⟩ := hb
    obtain ⟨F, r, hr, hr1⟩ := hf _ _ b3 b4 b5 hz
    have hn := g_law_18 (X := X) (d := 28) F 0 h2'.2.1 h2'.2.2 hr
    rw [hr1] at hn
    have e1' := xexecK_ok (X := X) _ _ _ _ _ _ _ _ e1
    have e2' := xexecK_ok (X := X) _ _ _ _ _ _ _ _ e2
    obtain ⟨hs, hI, hL⟩ := h
    obtain ⟨hs2, hI2, hL2⟩ := h2'
    have b1 : hs = xSHc := b1
    have b2 : hs2 = xSH := b2
    subst b1
    subst b2
    have hk : ∃ n, xexec X n 64 xlaw 0 [.ref xSCR, .null, .null, .null] [] ([], fun _ _ => 0, fun _ _ => 0) = some (some (.int 1), (xSH, r.2.1, r.2.2)) := by
      refine xhs3 rfl rfl rfl rfl rfl rfl (st' := [.ref 0]) (hp1 := xh0) (xs3_new xk1) ?_
      refine xhs1 rfl rfl (ls' := [.ref xSCR, .null, .null, .null]) (st' := [.ref 0, .ref 0]) ?_
      refine xhcall rfl rfl rfl rfl rfl rfl (by decide) e1' xk2 ?_
      refine xhs1 rfl rfl (ls' := [.ref xSCR, .ref 0, .null, .null]) (st' := []) ?_
      refine xhs3 rfl rfl rfl rfl rfl rfl (st' := [.ref 131]) (hp1 := xh1 (xSHc, hI, hL)) (xs3_new xk3) ?_
      refine xhs1 rfl rfl (ls' := [.ref xSCR, .ref 0, .null, .null]) (st' := [.ref 131, .ref 131]) ?_
      refine xhcall rfl rfl rfl rfl rfl rfl ⟨by decide, fun h => absurd h (by decide), fun _ => rfl⟩ e2' xk4 ?_
      refine xhs1 rfl rfl (ls' := [.ref xSCR, .ref 0, .ref 131, .null]) (st' := []) ?_
      refine xhs1 rfl rfl (ls' := [.ref xSCR, .ref 0, .ref 131, .null]) (st' := [.int 0]) ?_
      refine xhs1 rfl rfl (ls' := [.ref xSCR, .ref 0, .ref 131, .int 0]) (st' := []) ?_
      exact hn
    obtain ⟨n, hn'⟩ := hk
    exact ⟨n, _, hn', xk5⟩
theorem law_runs (L : Nat) (xs : Nat → Int32) (hL : L ≤ 3584) : ∃ (n : Nat) (hp' : XHp), xexec (L, xs) n 64 xlaw 0 [.ref xSCR, .null, .null, .null] [] ([], fun _ _ => 0, fun _ _ => 0) = some (some (.int 1), hp') ∧ hp'.1.length ≤ 600000 ∧ xsz hp'.1 ≤ 7302250 := by
  refine law_from2 (X := (L, xs)) (fun I K hC hR hK hZ => ?_)
  have hI := start_inv (F := 4000000) (Nat.le_refl _) hC hR hZ
  have hk : keysR K := fun j hj => of_decide_eq_true (List.all_eq_true.mp hK j (List.mem_range.mpr hj))
  obtain ⟨r, e, h1⟩ := law_loop (X := (L, xs)) (F := 4000000) (Nat.le_refl _) hL 4000000 0 (by omega) (by omega) I K hI hk
  exact ⟨4000000, r, e, h1⟩
