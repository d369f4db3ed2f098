/-! the law's start, its loop behind it -/
section XH
variable {X : XX} {d m pc : Nat} {ls st : List Value} {hp hp1 : XHp} {q : Option Value × XHp} {x : Int32} {a b c nx : Nat}
theorem xhs1 {ins : ClassFile.Instr} {ls' st' : List Value} (hop : xop m pc = (ins, x, a, b, c, nx)) (h1 : xs1 ins x a c ls st = some (ls', st')) (k : ∃ n, xexec X n d m nx ls' st' hp = some q) : ∃ n, xexec X n d m pc ls st hp = some q := by
  obtain ⟨n, h⟩ := k
  refine ⟨n + 1, ?_⟩
  rw [xexec]
  simp only [hop, h1]
  exact h
theorem xhs3 {ins : ClassFile.Instr} {st' : List Value} (hop : xop m pc = (ins, x, a, b, c, nx)) (h1 : xs1 ins x a c ls st = none) (h2 : xjmp ins a nx pc st = none) (h3 : xs2 X ins a b c hp st = none) (h4 : xret ins c st = none) (h5 : xcall ins c = none) (h6 : xs3 ins a b c hp ls st = some (st', hp1)) (k : ∃ n, xexec X n d m nx ls st' hp1 = some q) : ∃ n, xexec X n d m pc ls st hp = some q := by
  obtain ⟨n, h⟩ := k
  refine ⟨n + 1, ?_⟩
  rw [xexec]
  simp only [hop, h1, h2, h3, h4, h5, h6]
  exact h
theorem xhcall {ins : ClassFile.Instr} {kd n1 : Nat} {v : Option Value} (hop : xop m pc = (ins, x, a, b, c, nx)) (h1 : xs1 ins x a c ls st = none) (h2 : xjmp ins a nx pc st = none) (h3 : xs2 X ins a b c hp st = none) (h4 : xret ins c st = none) (h5 : xcall ins c = some kd)
    (hif : ((b ≤ st.length ∧ (xsl (st.take b).reverse).length ≤ (xmi a).2.2.2.1) ∧ ((st.drop b).map fun v => v.category).sum ≤ 8) ∧ ((kd = 1 → xrecv hp.1 (xmi a).1 ((st.take b).reverse.head?) = true) ∧ (kd = 2 → xisref ((st.take b).reverse.head?) = true)))
    (hcal : xexec X n1 d a 0 (xent (st.take b).reverse (xmi a).2.2.2.1) [] hp = some (v, hp1)) (hok : xoks hp.1.length (ls ++ st.drop b) = true ∧ hp1.1.length < 1000000)
    (k : ∃ n, xexec X n (d + 1) m nx ls (v.toList ++ st.drop b) hp1 = some q) : ∃ n, xexec X n (d + 1) m pc ls st hp = some q := by
  obtain ⟨n2, e2⟩ := k
  refine ⟨max n1 n2 + 1, ?_⟩
  rw [xexec]
  simp only [hop, h1, h2, h3, h4, h5]
  rw [if_pos hif, xexec_le hcal (Nat.le_max_left n1 n2)]
  simp only [if_pos (Or.inr hok)]
  exact xexec_le e2 (Nat.le_max_right n1 n2)
theorem xs3_new {i : Nat} (h : xokh hp.1 = true ∧ xoks hp.1.length (ls ++ st) = true) : xs3 (.new i) a b c hp ls st = some (.ref hp.1.length :: st, hp.1 ++ [(5 + a, b, List.replicate b none)], xrow hp.2.1 hp.1.length (fun _ => 0), xrow hp.2.2 hp.1.length (fun _ => 0)) := by
  show (if xokh hp.1 = true ∧ xoks hp.1.length (ls ++ st) = true then _ else none) = _
  rw [if_pos h]
end XH
theorem xk1 : xokh ([] : XSh) = true ∧ xoks ([] : XSh).length ([.ref xSCR, .null, .null, .null] ++ []) = true := by decide
theorem xk2 : xoks 1 ([.ref xSCR, .null, .null, .null] ++ [.ref 0]) = true ∧ xSHc.length < 1000000 := by decide +kernel
theorem xk3 : xokh xSHc = true ∧ xoks xSHc.length ([.ref xSCR, .ref 0, .null, .null] ++ []) = true := by decide +kernel
theorem xk4 : xoks (xSHc ++ [(17, 65, List.replicate 65 none)]).length ([.ref xSCR, .ref 0, .null, .null] ++ [.ref 131]) = true ∧ xSH.length < 1000000 := by decide +kernel
theorem xk5 : xSH.length ≤ 600000 ∧ xsz xSH ≤ 7302250 := by decide +kernel
theorem law_from {X : XX} (hf : ∀ (I : XI) (L : XL), xIat I xN_C = true → xIat I xN_R = true → xKeysAt L = true → ∃ (F : Nat) (r : Int32 × XI × XL), f_law_18 X F F 0 I L = some r ∧ r.1 = 1) :
    ∃ (n : Nat) (hp' : XHp), xexec X n 64 xlaw 0 [.ref xSCR, .null, .null, .null] [] ([], fun _ _ => 0, fun _ _ => 0) = some (some (.int 1), hp') ∧ hp'.1.length ≤ 600000 ∧ xsz hp'.1 ≤ 7302250 := by
  obtain ⟨h2, hh2⟩ := Option.isSome_iff_exists.mp xpre_ok
  unfold xpre at hh2
  split at hh2
  rotate_left
  · cases hh2
  rename_i h e1
  split at hh2
  rotate_left
  · cases hh2
  rename_i h2' e2
  cases hb : (decide (h.1 = xSHc) && (decide (h2'.1 = xSH) && (xIat h2'.2.1 xN_C && (xIat h2'.2.1 xN_R && xKeysAt h2'.2.2)))) with
  | false => rw [hb] at hh2; cases hh2
  | true =>
    simp only [Bool.and_eq_true, decide_eq_true_eq] at hb
    obtain ⟨b1, b2, b3, b4, b5⟩ := hb
    obtain ⟨F, r, hr, hr1⟩ := hf _ _ b3 b4 b5
    have hn := g_law_18 (X := X) (d := 28) F 0 h2'.2.1 h2'.2.2 hr
    rw [hr1] at hn
    have e1' := xexecK_ok (X := X) _ _ _ _ _ _ _ _ e1
    have e2' := xexecK_ok (X := X) _ _ _ _ _ _ _ _ e2
    obtain ⟨hs, hI, hL⟩ := h
    obtain ⟨hs2, hI2, hL2⟩ := h2'
    have b1 : hs = xSHc := b1
    have b2 : hs2 = xSH := b2
    subst b1
    subst b2
    have hk : ∃ n, xexec X n 64 xlaw 0 [.ref xSCR, .null, .null, .null] [] ([], fun _ _ => 0, fun _ _ => 0) = some (some (.int 1), (xSH, r.2.1, r.2.2)) := by
      refine xhs3 rfl rfl rfl rfl rfl rfl (st' := [.ref 0]) (hp1 := xh0) (xs3_new xk1) ?_
      refine xhs1 rfl rfl (ls' := [.ref xSCR, .null, .null, .null]) (st' := [.ref 0, .ref 0]) ?_
      refine xhcall rfl rfl rfl rfl rfl rfl (by decide) e1' xk2 ?_
      refine xhs1 rfl rfl (ls' := [.ref xSCR, .ref 0, .null, .null]) (st' := []) ?_
      refine xhs3 rfl rfl rfl rfl rfl rfl (st' := [.ref 131]) (hp1 := xh1 (xSHc, hI, hL)) (xs3_new xk3) ?_
      refine xhs1 rfl rfl (ls' := [.ref xSCR, .ref 0, .null, .null]) (st' := [.ref 131, .ref 131]) ?_
      refine xhcall rfl rfl rfl rfl rfl rfl ⟨by decide, fun h => absurd h (by decide), fun _ => rfl⟩ e2' xk4 ?_
      refine xhs1 rfl rfl (ls' := [.ref xSCR, .ref 0, .ref 131, .null]) (st' := []) ?_
      refine xhs1 rfl rfl (ls' := [.ref xSCR, .ref 0, .ref 131, .null]) (st' := [.int 0]) ?_
      refine xhs1 rfl rfl (ls' := [.ref xSCR, .ref 0, .ref 131, .int 0]) (st' := []) ?_
      exact hn
    obtain ⟨n, hn'⟩ := hk
    exact ⟨n, _, hn', xk5⟩
