/-! THE SMALL MACHINE runs; its shapes grow only -/
def xisref (v : Option Value) : Bool := match v with
  | some (.ref _) => true
  | _ => false
noncomputable def xexec (X : XX) : Nat → Nat → Nat → Nat → List Value → List Value → XHp → XR
  | 0, _, _, _, _, _, _ => none
  | n + 1, d, m, pc, ls, st, h =>
    match xop m pc with
    | (ins, x, a, b, c, nx) =>
    match xs1 ins x a c ls st with
    | some (ls', st') => xexec X n d m nx ls' st' h
    | none => match xjmp ins a nx pc st with
      | some (pc', st') => xexec X n d m pc' ls st' h
      | none => match xs2 X ins a b c h st with
        | some (st', h') => xexec X n d m nx ls st' h'
        | none => match xret ins c st with
          | some r => some (r, h)
          | none => match xcall ins c with
            | some kd => match d with
              | 0 => none
              | d' + 1 => if ((b ≤ st.length ∧ (xsl (st.take b).reverse).length ≤ (xmi a).2.2.2.1) ∧ ((st.drop b).map fun v => v.category).sum ≤ 8) ∧ ((kd = 1 → xrecv h.1 (xmi a).1 ((st.take b).reverse.head?) = true) ∧ (kd = 2 → xisref ((st.take b).reverse.head?) = true)) then
                  match xexec X n d' a 0 (xent (st.take b).reverse (xmi a).2.2.2.1) [] h with
                  | some (v, h') => if h'.1.length = h.1.length ∨ (xoks h.1.length (ls ++ st.drop b) = true ∧ h'.1.length < 1000000) then xexec X n d m nx ls (v.toList ++ st.drop b) h' else none
                  | none => none
                  else none
            | none => match xs3 ins a b c h ls st with
              | some (st', h') => xexec X n d m nx ls st' h'
              | none => none
theorem xs2_shape {X : XX} {ins : ClassFile.Instr} {a b c0 : Nat} {st st' : List Value} {hp hp' : XHp} (h : xs2 X ins a b c0 hp st = some (st', hp')) : hp'.1 = hp.1 := by
  unfold xs2 at h
  split at h
  all_goals (repeat' (first | (cases h; done) | (cases h; rfl) | split at h))
theorem xs3_mono {ins : ClassFile.Instr} {a b c0 : Nat} {ls st st' : List Value} {hp hp' : XHp} (h : xs3 ins a b c0 hp ls st = some (st', hp')) : hp.1.length ≤ hp'.1.length ∧ xsz hp.1 ≤ xsz hp'.1 := by
  unfold xs3 at h
  split at h
  · split at h
    · cases h
      exact ⟨by simp, by rw [xsz_app]; omega⟩
    · cases h
  · split at h
    · cases h
      exact ⟨by simp, by rw [xsz_app]; omega⟩
    · cases h
  · split at h
    · cases h
      exact ⟨by simp, by rw [xsz_app]; omega⟩
    · cases h
  · split at h
    · rename_i hcell
      split at h
      · cases h
        exact ⟨by simp, by rw [xsz_set hcell]; omega⟩
      · cases h
    · cases h
  · split at h
    · rename_i hcell hcell2
      split at h
      · cases h
        exact ⟨by simp, by rw [xsz_set hcell]; omega⟩
      · cases h
    · cases h
  · cases h
theorem xs3_len {ins : ClassFile.Instr} {a b c0 : Nat} {ls st st' : List Value} {hp hp' : XHp} (h : xs3 ins a b c0 hp ls st = some (st', hp')) : hp'.1.length ≤ 1000000 ∨ hp'.1.length = hp.1.length := by
  unfold xs3 at h
  split at h
  · split at h
    · rename_i hk
      have := xokh_len hk.1
      cases h
      exact Or.inl (by simp; omega)
    · cases h
  · split at h
    · rename_i hk
      have := xokh_len hk.1.1
      cases h
      exact Or.inl (by simp; omega)
    · cases h
  · split at h
    · rename_i hk
      have := xokh_len hk.1.1
      cases h
      exact Or.inl (by simp; omega)
    · cases h
  · split at h
    · split at h
      · cases h
        exact Or.inr (by simp)
      · cases h
    · cases h
  · split at h
    · split at h
      · cases h
        exact Or.inr (by simp)
      · cases h
    · cases h
  · cases h
theorem xmono {X : XX} : ∀ (n d m pc : Nat) (ls st : List Value) (hp : XHp) (r : Option Value) (hp' : XHp), xexec X n d m pc ls st hp = some (r, hp') → hp.1.length ≤ hp'.1.length ∧ xsz hp.1 ≤ xsz hp'.1 := by
  intro n
  induction n with
  | zero => intro d m pc ls st hp r hp' h; cases h
  | succ n ih =>
    intro d m pc ls st hp r hp' h
    unfold xexec at h
    split at h
    split at h
    · exact ih _ _ _ _ _ _ _ _ h
    · split at h
      · exact ih _ _ _ _ _ _ _ _ h
      · split at h
        · rename_i h2
          have e := xs2_shape h2
          have := ih _ _ _ _ _ _ _ _ h
          rw [e] at this
          exact this
        · split at h
          · cases h
            exact ⟨Nat.le_refl _, Nat.le_refl _⟩
          · split at h
            · split at h
              · cases h
              · split at h
                · split at h
                  · rename_i hcal
                    split at h
                    · have h1 := ih _ _ _ _ _ _ _ _ hcal
                      have h2 := ih _ _ _ _ _ _ _ _ h
                      exact ⟨Nat.le_trans h1.1 h2.1, Nat.le_trans h1.2 h2.2⟩
                    · cases h
                  · cases h
                · cases h
            · split at h
              · rename_i h3
                have h1 := xs3_mono h3
                have h2 := ih _ _ _ _ _ _ _ _ h
                exact ⟨Nat.le_trans h1.1 h2.1, Nat.le_trans h1.2 h2.2⟩
              · cases h
