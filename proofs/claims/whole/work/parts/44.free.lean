/-! runs that don't look at the script -/
def xlook (ins : ClassFile.Instr) (st : List Value) : Bool := match ins, st with
  | .arraylength, .ref o :: _ => Nat.beq o xSCR
  | .iaload, _ :: .ref o :: _ => Nat.beq o xSCR
  | _, _ => false
theorem xlook_ne {o : Nat} (h : Nat.beq o xSCR = false) : ¬ o = xSCR := fun e => by
  rw [e, Nat.beq_refl] at h
  cases h
theorem xs2_free {X : XX} {ins : ClassFile.Instr} {a b c : Nat} {h : XHp} {st : List Value} (hl : xlook ins st = false) : xs2 X ins a b c h st = xs2 (0, fun _ => 0) ins a b c h st := by
  unfold xs2
  split
  all_goals first
    | rfl
    | (have ho := xlook_ne hl
       have ho2 : ∀ (P : Prop), ¬ (_ = xSCR ∧ P) := fun P e => ho e.1
       simp only [if_neg ho, if_neg (ho2 _)]
       done)
    | (have ho := xlook_ne hl
       simp only [if_neg ho]
       done)
    | skip
noncomputable def xexecK : Nat → Nat → Nat → Nat → List Value → List Value → XHp → XR
  | 0, _, _, _, _, _, _ => none
  | n + 1, d, m, pc, ls, st, h =>
    match xop m pc with
    | (ins, x, a, b, c, nx) =>
    bif xlook ins st then none else
    match xs1 ins x a c ls st with
    | some (ls', st') => xexecK n d m nx ls' st' h
    | none => match xjmp ins a nx pc st with
      | some (pc', st') => xexecK n d m pc' ls st' h
      | none => match xs2 (0, fun _ => 0) ins a b c h st with
        | some (st', h') => xexecK n d m nx ls st' h'
        | none => match xret ins c st with
          | some r => some (r, h)
          | none => match xcall ins c with
            | some kd => match d with
              | 0 => none
              | d' + 1 => if ((b ≤ st.length ∧ (xsl (st.take b).reverse).length ≤ (xmi a).2.2.2.1) ∧ ((st.drop b).map fun v => v.category).sum ≤ 8) ∧ ((kd = 1 → xrecv h.1 (xmi a).1 ((st.take b).reverse.head?) = true) ∧ (kd = 2 → xisref ((st.take b).reverse.head?) = true)) then
                  match xexecK n d' a 0 (xent (st.take b).reverse (xmi a).2.2.2.1) [] h with
                  | some (v, h') => if h'.1.length = h.1.length ∨ (xoks h.1.length (ls ++ st.drop b) = true ∧ h'.1.length < 1000000) then xexecK n d m nx ls (v.toList ++ st.drop b) h' else none
                  | none => none
                  else none
            | none => match xs3 ins a b c h ls st with
              | some (st', h') => xexecK n d m nx ls st' h'
              | none => none
theorem xexecK_ok {X : XX} : ∀ (n d m pc : Nat) (ls st : List Value) (hp : XHp) (q : Option Value × XHp), xexecK n d m pc ls st hp = some q → xexec X n d m pc ls st hp = some q := by
  intro n
  induction n with
  | zero => intro d m pc ls st hp q h; cases h
  | succ n ih =>
    intro d m pc ls st hp q h
    rw [xexecK] at h
    rw [xexec]
    split at h
    rename_i ins x a b c nx hop
    try simp only [hop]
    cases hl : xlook ins st with
    | true => rw [hl] at h; cases h
    | false =>
      rw [hl] at h
      simp only [cond_false] at h
      rw [xs2_free (X := X) hl]
      cases h1 : xs1 ins x a c ls st with
      | some p =>
        simp only [h1] at h ⊢
        exact ih _ _ _ _ _ _ _ h
      | none =>
        simp only [h1] at h ⊢
        cases h2 : xjmp ins a nx pc st with
        | some p =>
          simp only [h2] at h ⊢
          exact ih _ _ _ _ _ _ _ h
        | none =>
          simp only [h2] at h ⊢
          cases h3 : xs2 (0, fun _ => 0) ins a b c hp st with
          | some p =>
            simp only [h3] at h ⊢
            exact ih _ _ _ _ _ _ _ h
          | none =>
            simp only [h3] at h ⊢
            cases h4 : xret ins c st with
            | some p =>
              simp only [h4] at h ⊢
              exact h
            | none =>
              simp only [h4] at h ⊢
              cases h5 : xcall ins c with
              | none =>
                simp only [h5] at h ⊢
                cases h6 : xs3 ins a b c hp ls st with
                | some p =>
                  simp only [h6] at h ⊢
                  exact ih _ _ _ _ _ _ _ h
                | none =>
                  simp only [h6] at h
                  cases h
              | some kd =>
                simp only [h5] at h ⊢
                cases d with
                | zero => cases h
                | succ d =>
                  simp only at h ⊢
                  split at h
                  · rename_i hif
                    rw [if_pos hif]
                    cases h7 : xexecK n d a 0 (xent (st.take b).reverse (xmi a).2.2.2.1) [] hp with
                    | none =>
                      rw [h7] at h
                      cases h
                    | some p =>
                      obtain ⟨v, h'⟩ := p
                      rw [h7] at h
                      rw [ih _ _ _ _ _ _ _ h7]
                      simp only at h ⊢
                      split at h
                      · rename_i hok
                        rw [if_pos hok]
                        exact ih _ _ _ _ _ _ _ h
                      · cases h
                  · cases h
section XX1
variable {X : XX} {d m pc : Nat} {ls st : List Value} {I I' : XI} {L L' : XL} {r : Option Value} {x : Int32} {a b c nx : Nat}
theorem xarrS : xarr xSH xSCR 0 = none := rfl
theorem xSHS : xSH[xSCR]? = none := rfl
theorem xeiaX {i : Int32} (hop : xop m pc = (.iaload, x, a, b, c, nx)) (hi : xin i X.1 = true) (k : xEv X d m nx ls (.int (X.2 (xN i)) :: st) I L r I' L') : xEv X d m pc ls (.int i :: .ref xSCR :: st) I L r I' L' :=
  xe2 hop rfl rfl (by simp only [xs2, xarrS, hi, and_self, if_true]) k
theorem xelenX (hop : xop m pc = (.arraylength, x, a, b, c, nx)) (k : xEv X d m nx ls (.int (Int32.ofNat X.1) :: st) I L r I' L') : xEv X d m pc ls (.ref xSCR :: st) I L r I' L' :=
  xe2 hop rfl rfl (by simp only [xs2, xSHS, if_true]) k
end XX1
