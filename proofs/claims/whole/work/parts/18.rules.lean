/-! RUNS ON THE FIXED SHAPE: one rule an instruction -/
theorem xexec_up {X : XX} : ∀ (n d m pc : Nat) (ls st : List Value) (hp : XHp) (q : Option Value × XHp), xexec X n d m pc ls st hp = some q → xexec X (n + 1) d m pc ls st hp = some q := by
  intro n
  induction n with
  | zero => intro d m pc ls st hp q h; cases h
  | succ n ih =>
    intro d m pc ls st hp q h
    rw [xexec] at h ⊢
    split at h
    rename_i ins x a b c nx hop
    try simp only [hop]
    split at h
    · exact ih _ _ _ _ _ _ _ h
    · split at h
      · exact ih _ _ _ _ _ _ _ h
      · split at h
        · exact ih _ _ _ _ _ _ _ h
        · split at h
          · exact h
          · split at h
            · split at h
              · exact h
              · split at h
                · rename_i hif
                  rw [if_pos hif]
                  split at h
                  · rename_i v h' hcal
                    rw [ih _ _ _ _ _ _ _ hcal]
                    split at h
                    · rename_i hok
                      simp only [if_pos hok]
                      exact ih _ _ _ _ _ _ _ h
                    · cases h
                  · cases h
                · cases h
            · split at h
              · exact ih _ _ _ _ _ _ _ h
              · exact h
theorem xexec_le {X : XX} {n k d m pc : Nat} {ls st : List Value} {hp : XHp} {q : Option Value × XHp} (h : xexec X n d m pc ls st hp = some q) (hk : n ≤ k) : xexec X k d m pc ls st hp = some q := by
  induction hk with
  | refl => exact h
  | step _ ih => exact xexec_up _ _ _ _ _ _ _ _ ih
abbrev XI : Type := Nat → Nat → Int32
abbrev XL : Type := Nat → Nat → Int64
abbrev xN (i : Int32) : Nat := i.toNatClampNeg
def xEv (X : XX) (d m pc : Nat) (ls st : List Value) (I : XI) (L : XL) (r : Option Value) (I' : XI) (L' : XL) : Prop := ∃ n, xexec X n d m pc ls st (xSH, I, L) = some (r, xSH, I', L')
def xput (I : XI) (o j : Nat) (v : Int32) : XI := xrow I o (upd (I o) j v)
def xputL (L : XL) (o j : Nat) (v : Int64) : XL := xrow L o (vp_updL (L o) j v)
def xck {α : Type} (b : Bool) (x : Option α) : Option α := bif b then x else none
theorem xck_some {α : Type} {b : Bool} {x : Option α} {r : α} (h : xck b x = some r) : b = true ∧ x = some r := by
  cases b
  · cases h
  · exact ⟨rfl, h⟩
theorem xbind_some {α β : Type} {x : Option α} {f : α → Option β} {r : β} (h : x.bind f = some r) : ∃ a, x = some a ∧ f a = some r := by
  cases x with
  | none => cases h
  | some a => exact ⟨a, rfl, h⟩
def xst {α β : Type} (a : α) (f : α → β) : β := f a
theorem xst_e {α β : Type} {a : α} {f : α → β} : xst a f = f a := rfl
noncomputable def xrf (o j : Nat) : Option Nat := match xSH[o]? with
  | some (_, _, rs) => rs.getD j none
  | none => none
/-- a store, said so that what stood before it needn't be known -/
def xkv (v : Value) : Value := if v.category = 2 then .null else v
def xset1k : List Value → Nat → Value → List Value
  | [], _, _ => []
  | _ :: t, 0, v => v :: t
  | w :: _ :: t, 1, v => xkv w :: v :: t
  | [w], 1, _ => [w]
  | w :: t, i + 2, v => w :: xset1k t (i + 1) v
def xset2k (ls : List Value) (i : Nat) (v : Value) : List Value := (xset1k ls i v).set (i + 1) .null
theorem xset1k_e : ∀ (ls : List Value) (i : Nat) (v : Value), i < ls.length → xset1k ls i v = xset1 ls i v
  | [], i, v, h => by cases h
  | _ :: t, 0, v, _ => rfl
  | w :: w2 :: t, 1, v, _ => by
    show xkv w :: v :: t = ((if w.category = 2 then (w :: w2 :: t).set 0 .null else w :: w2 :: t)).set 1 v
    unfold xkv
    by_cases h : w.category = 2
    · rw [if_pos h, if_pos h]; rfl
    · rw [if_neg h, if_neg h]; rfl
  | [w], 1, v, h => by cases h with | step h => cases h
  | w :: t, i + 2, v, h => by
    have ih := xset1k_e t (i + 1) v (Nat.lt_of_succ_lt_succ h)
    show w :: xset1k t (i + 1) v = _
    rw [ih]
    unfold xset1 xkill
    simp only [List.getElem?_cons_succ]
    split
    · split
      · rfl
      · rfl
    · rfl
/-- an instruction on stack and locals alone -/
def xs1k (ins : ClassFile.Instr) (x : Int32) (a c : Nat) (ls st : List Value) : Option (List Value × List Value) := match ins, st with
  | .istore_n _, .int y :: st => if a < ls.length then some (xset1k ls a (.int y), st) else none
  | .istore _, .int y :: st => if a < ls.length then some (xset1k ls a (.int y), st) else none
  | .astore_n _, .ref y :: st => if a < ls.length then some (xset1k ls a (.ref y), st) else none
  | .astore _, .ref y :: st => if a < ls.length then some (xset1k ls a (.ref y), st) else none
  | .lstore_n _, .long y :: st => if a + 1 < ls.length then some (xset2k ls a (.long y), st) else none
  | .lstore _, .long y :: st => if a + 1 < ls.length then some (xset2k ls a (.long y), st) else none
  | .iinc _ _, st => match ls[a]? with
    | some (.int y) => some (xset1k ls a (.int (y + x)), st)
    | _ => none
  | ins, st => xs1 ins x a c ls st
theorem xset2k_e {ls : List Value} {i : Nat} {v : Value} (h : i + 1 < ls.length) : xset2k ls i v = xset2 ls i v := by
  unfold xset2k
  rw [xset1k_e ls i v (by omega)]
  rfl
theorem xs1k_e {ins : ClassFile.Instr} {x : Int32} {a c : Nat} {ls st : List Value} : xs1k ins x a c ls st = xs1 ins x a c ls st := by
  unfold xs1k
  split
  · show (if a < ls.length then _ else none) = (if a < ls.length then _ else none)
    by_cases h : a < ls.length
    · rw [if_pos h, if_pos h, xset1k_e _ _ _ h]
    · rw [if_neg h, if_neg h]
  · show (if a < ls.length then _ else none) = (if a < ls.length then _ else none)
    by_cases h : a < ls.length
    · rw [if_pos h, if_pos h, xset1k_e _ _ _ h]
    · rw [if_neg h, if_neg h]
  · show (if a < ls.length then _ else none) = (if a < ls.length then _ else none)
    by_cases h : a < ls.length
    · rw [if_pos h, if_pos h, xset1k_e _ _ _ h]
    · rw [if_neg h, if_neg h]
  · show (if a < ls.length then _ else none) = (if a < ls.length then _ else none)
    by_cases h : a < ls.length
    · rw [if_pos h, if_pos h, xset1k_e _ _ _ h]
    · rw [if_neg h, if_neg h]
  · show (if a + 1 < ls.length then _ else none) = (if a + 1 < ls.length then _ else none)
    by_cases h : a + 1 < ls.length
    · rw [if_pos h, if_pos h, xset2k_e h]
    · rw [if_neg h, if_neg h]
  · show (if a + 1 < ls.length then _ else none) = (if a + 1 < ls.length then _ else none)
    by_cases h : a + 1 < ls.length
    · rw [if_pos h, if_pos h, xset2k_e h]
    · rw [if_neg h, if_neg h]
  · show _ = (match ls[a]? with
      | some (.int y) => some (xset1 ls a (.int (y + x)), st)
      | _ => none)
    split
    · rename_i y hy
      have hl : a < ls.length := by
        have := hy
        rw [List.getElem?_eq_some_iff] at this
        exact this.1
      simp only [xset1k_e _ _ _ hl]
    · rfl
  · rfl
/-- k instructions on stack and locals alone, or jumps without a condition -/
noncomputable def xblk : Nat → Nat → Nat → List Value → List Value → Option (Nat × List Value × List Value)
  | 0, _, pc, ls, st => some (pc, ls, st)
  | k + 1, m, pc, ls, st => match xop m pc with
    | (ins, x, a, _, c, nx) => match xs1k ins x a c ls st with
      | some (ls', st') => xblk k m nx ls' st'
      | none => match ins with
        | .goto _ => xblk k m a ls st
        | _ => none
section XE
variable {X : XX} {d m pc : Nat} {ls st : List Value} {I I' : XI} {L L' : XL} {r : Option Value} {x : Int32} {a b c nx : Nat}
theorem xe1 {ins : ClassFile.Instr} {ls' st' : List Value} (hop : xop m pc = (ins, x, a, b, c, nx)) (h1 : xs1 ins x a c ls st = some (ls', st')) (k : xEv X d m nx ls' st' I L r I' L') : xEv X d m pc ls st I L r I' L' := by
  obtain ⟨n, h⟩ := k
  refine ⟨n + 1, ?_⟩
  rw [xexec]
  simp only [hop, h1]
  exact h
theorem xegoto {off : Int} (hop : xop m pc = (.goto off, x, a, b, c, nx)) (k : xEv X d m a ls st I L r I' L') : xEv X d m pc ls st I L r I' L' := by
  obtain ⟨n, h⟩ := k
  refine ⟨n + 1, ?_⟩
  rw [xexec]
  simp only [hop, xs1, xjmp]
  exact h
theorem xeb : ∀ (k : Nat) {pc pc' : Nat} {ls ls' st st' : List Value}, xblk k m pc ls st = some (pc', ls', st') → xEv X d m pc' ls' st' I L r I' L' → xEv X d m pc ls st I L r I' L' := by
  intro k
  induction k with
  | zero => intro pc pc' ls ls' st st' h hk; cases h; exact hk
  | succ k ih =>
    intro pc pc' ls ls' st st' h hk
    rw [xblk] at h
    split at h
    rename_i ins x a b c nx hop
    split at h
    · rename_i h1
      exact xe1 hop (xs1k_e.symm.trans h1) (ih h hk)
    · split at h
      · exact xegoto hop (ih h hk)
      · cases h
theorem xejmp {ins : ClassFile.Instr} {pc' : Nat} {st' : List Value} (hop : xop m pc = (ins, x, a, b, c, nx)) (h1 : xs1 ins x a c ls st = none) (h2 : xjmp ins a nx pc st = some (pc', st')) (k : xEv X d m pc' ls st' I L r I' L') : xEv X d m pc ls st I L r I' L' := by
  obtain ⟨n, h⟩ := k
  refine ⟨n + 1, ?_⟩
  rw [xexec]
  simp only [hop, h1, h2]
  exact h
theorem xe2 {ins : ClassFile.Instr} {st' : List Value} {I1 : XI} {L1 : XL} (hop : xop m pc = (ins, x, a, b, c, nx)) (h1 : xs1 ins x a c ls st = none) (h2 : xjmp ins a nx pc st = none) (h3 : xs2 X ins a b c (xSH, I, L) st = some (st', xSH, I1, L1)) (k : xEv X d m nx ls st' I1 L1 r I' L') : xEv X d m pc ls st I L r I' L' := by
  obtain ⟨n, h⟩ := k
  refine ⟨n + 1, ?_⟩
  rw [xexec]
  simp only [hop, h1, h2, h3]
  exact h
theorem xef_eq_t {y : Int32} {off : Int} (hop : xop m pc = (.ifCond .eq off, x, a, b, c, nx)) (hc : y = 0) (k : xEv X d m a ls st I L r I' L') : xEv X d m pc ls (.int y :: st) I L r I' L' :=
  xejmp hop rfl (by show some (bif xcnd .eq y 0 then a else nx, st) = some (a, st); rw [show xcnd .eq y 0 = true by simp only [xcnd, decide_eq_true_eq, decide_eq_false_iff_not, Bool.not_eq_true', Bool.not_eq_false', decide_eq_false_iff_not, decide_eq_true_eq]; exact hc]; rfl) k
theorem xef_eq_f {y : Int32} {off : Int} (hop : xop m pc = (.ifCond .eq off, x, a, b, c, nx)) (hc : ¬ y = 0) (k : xEv X d m nx ls st I L r I' L') : xEv X d m pc ls (.int y :: st) I L r I' L' :=
  xejmp hop rfl (by show some (bif xcnd .eq y 0 then a else nx, st) = some (nx, st); rw [show xcnd .eq y 0 = false by simp only [xcnd, decide_eq_true_eq, decide_eq_false_iff_not, Bool.not_eq_true', Bool.not_eq_false', decide_eq_false_iff_not, decide_eq_true_eq]; exact hc]; rfl) k
theorem xei_eq_t {y z : Int32} {off : Int} (hop : xop m pc = (.if_icmp .eq off, x, a, b, c, nx)) (hc : y = z) (k : xEv X d m a ls st I L r I' L') : xEv X d m pc ls (.int z :: .int y :: st) I L r I' L' :=
  xejmp hop rfl (by show some (bif xcnd .eq y z then a else nx, st) = some (a, st); rw [show xcnd .eq y z = true by simp only [xcnd, decide_eq_true_eq, decide_eq_false_iff_not, Bool.not_eq_true', Bool.not_eq_false', decide_eq_false_iff_not, decide_eq_true_eq]; exact hc]; rfl) k
theorem xei_eq_f {y z : Int32} {off : Int} (hop : xop m pc = (.if_icmp .eq off, x, a, b, c, nx)) (hc : ¬ y = z) (k : xEv X d m nx ls st I L r I' L') : xEv X d m pc ls (.int z :: .int y :: st) I L r I' L' :=
  xejmp hop rfl (by show some (bif xcnd .eq y z then a else nx, st) = some (nx, st); rw [show xcnd .eq y z = false by simp only [xcnd, decide_eq_true_eq, decide_eq_false_iff_not, Bool.not_eq_true', Bool.not_eq_false', decide_eq_false_iff_not, decide_eq_true_eq]; exact hc]; rfl) k
theorem xef_ne_t {y : Int32} {off : Int} (hop : xop m pc = (.ifCond .ne off, x, a, b, c, nx)) (hc : y = 0) (k : xEv X d m nx ls st I L r I' L') : xEv X d m pc ls (.int y :: st) I L r I' L' :=
  xejmp hop rfl (by show some (bif xcnd .ne y 0 then a else nx, st) = some (nx, st); rw [show xcnd .ne y 0 = false by simp only [xcnd, decide_eq_true_eq, decide_eq_false_iff_not, Bool.not_eq_true', Bool.not_eq_false', decide_eq_false_iff_not, decide_eq_true_eq]; exact hc]; rfl) k
theorem xef_ne_f {y : Int32} {off : Int} (hop : xop m pc = (.ifCond .ne off, x, a, b, c, nx)) (hc : ¬ y = 0) (k : xEv X d m a ls st I L r I' L') : xEv X d m pc ls (.int y :: st) I L r I' L' :=
  xejmp hop rfl (by show some (bif xcnd .ne y 0 then a else nx, st) = some (a, st); rw [show xcnd .ne y 0 = true by simp only [xcnd, decide_eq_true_eq, decide_eq_false_iff_not, Bool.not_eq_true', Bool.not_eq_false', decide_eq_false_iff_not, decide_eq_true_eq]; exact hc]; rfl) k
theorem xei_ne_t {y z : Int32} {off : Int} (hop : xop m pc = (.if_icmp .ne off, x, a, b, c, nx)) (hc : y = z) (k : xEv X d m nx ls st I L r I' L') : xEv X d m pc ls (.int z :: .int y :: st) I L r I' L' :=
  xejmp hop rfl (by show some (bif xcnd .ne y z then a else nx, st) = some (nx, st); rw [show xcnd .ne y z = false by simp only [xcnd, decide_eq_true_eq, decide_eq_false_iff_not, Bool.not_eq_true', Bool.not_eq_false', decide_eq_false_iff_not, decide_eq_true_eq]; exact hc]; rfl) k
theorem xei_ne_f {y z : Int32} {off : Int} (hop : xop m pc = (.if_icmp .ne off, x, a, b, c, nx)) (hc : ¬ y = z) (k : xEv X d m a ls st I L r I' L') : xEv X d m pc ls (.int z :: .int y :: st) I L r I' L' :=
  xejmp hop rfl (by show some (bif xcnd .ne y z then a else nx, st) = some (a, st); rw [show xcnd .ne y z = true by simp only [xcnd, decide_eq_true_eq, decide_eq_false_iff_not, Bool.not_eq_true', Bool.not_eq_false', decide_eq_false_iff_not, decide_eq_true_eq]; exact hc]; rfl) k
theorem xef_lt_t {y : Int32} {off : Int} (hop : xop m pc = (.ifCond .lt off, x, a, b, c, nx)) (hc : y < 0) (k : xEv X d m a ls st I L r I' L') : xEv X d m pc ls (.int y :: st) I L r I' L' :=
  xejmp hop rfl (by show some (bif xcnd .lt y 0 then a else nx, st) = some (a, st); rw [show xcnd .lt y 0 = true by simp only [xcnd, decide_eq_true_eq, decide_eq_false_iff_not, Bool.not_eq_true', Bool.not_eq_false', decide_eq_false_iff_not, decide_eq_true_eq]; exact hc]; rfl) k
theorem xef_lt_f {y : Int32} {off : Int} (hop : xop m pc = (.ifCond .lt off, x, a, b, c, nx)) (hc : ¬ y < 0) (k : xEv X d m nx ls st I L r I' L') : xEv X d m pc ls (.int y :: st) I L r I' L' :=
  xejmp hop rfl (by show some (bif xcnd .lt y 0 then a else nx, st) = some (nx, st); rw [show xcnd .lt y 0 = false by simp only [xcnd, decide_eq_true_eq, decide_eq_false_iff_not, Bool.not_eq_true', Bool.not_eq_false', decide_eq_false_iff_not, decide_eq_true_eq]; exact hc]; rfl) k
theorem xei_lt_t {y z : Int32} {off : Int} (hop : xop m pc = (.if_icmp .lt off, x, a, b, c, nx)) (hc : y < z) (k : xEv X d m a ls st I L r I' L') : xEv X d m pc ls (.int z :: .int y :: st) I L r I' L' :=
  xejmp hop rfl (by show some (bif xcnd .lt y z then a else nx, st) = some (a, st); rw [show xcnd .lt y z = true by simp only [xcnd, decide_eq_true_eq, decide_eq_false_iff_not, Bool.not_eq_true', Bool.not_eq_false', decide_eq_false_iff_not, decide_eq_true_eq]; exact hc]; rfl) k
theorem xei_lt_f {y z : Int32} {off : Int} (hop : xop m pc = (.if_icmp .lt off, x, a, b, c, nx)) (hc : ¬ y < z) (k : xEv X d m nx ls st I L r I' L') : xEv X d m pc ls (.int z :: .int y :: st) I L r I' L' :=
  xejmp hop rfl (by show some (bif xcnd .lt y z then a else nx, st) = some (nx, st); rw [show xcnd .lt y z = false by simp only [xcnd, decide_eq_true_eq, decide_eq_false_iff_not, Bool.not_eq_true', Bool.not_eq_false', decide_eq_false_iff_not, decide_eq_true_eq]; exact hc]; rfl) k
theorem xef_ge_t {y : Int32} {off : Int} (hop : xop m pc = (.ifCond .ge off, x, a, b, c, nx)) (hc : 0 ≤ y) (k : xEv X d m a ls st I L r I' L') : xEv X d m pc ls (.int y :: st) I L r I' L' :=
  xejmp hop rfl (by show some (bif xcnd .ge y 0 then a else nx, st) = some (a, st); rw [show xcnd .ge y 0 = true by simp only [xcnd, decide_eq_true_eq, decide_eq_false_iff_not, Bool.not_eq_true', Bool.not_eq_false', decide_eq_false_iff_not, decide_eq_true_eq]; exact hc]; rfl) k
theorem xef_ge_f {y : Int32} {off : Int} (hop : xop m pc = (.ifCond .ge off, x, a, b, c, nx)) (hc : ¬ 0 ≤ y) (k : xEv X d m nx ls st I L r I' L') : xEv X d m pc ls (.int y :: st) I L r I' L' :=
  xejmp hop rfl (by show some (bif xcnd .ge y 0 then a else nx, st) = some (nx, st); rw [show xcnd .ge y 0 = false by simp only [xcnd, decide_eq_true_eq, decide_eq_false_iff_not, Bool.not_eq_true', Bool.not_eq_false', decide_eq_false_iff_not, decide_eq_true_eq]; exact hc]; rfl) k
theorem xei_ge_t {y z : Int32} {off : Int} (hop : xop m pc = (.if_icmp .ge off, x, a, b, c, nx)) (hc : z ≤ y) (k : xEv X d m a ls st I L r I' L') : xEv X d m pc ls (.int z :: .int y :: st) I L r I' L' :=
  xejmp hop rfl (by show some (bif xcnd .ge y z then a else nx, st) = some (a, st); rw [show xcnd .ge y z = true by simp only [xcnd, decide_eq_true_eq, decide_eq_false_iff_not, Bool.not_eq_true', Bool.not_eq_false', decide_eq_false_iff_not, decide_eq_true_eq]; exact hc]; rfl) k
theorem xei_ge_f {y z : Int32} {off : Int} (hop : xop m pc = (.if_icmp .ge off, x, a, b, c, nx)) (hc : ¬ z ≤ y) (k : xEv X d m nx ls st I L r I' L') : xEv X d m pc ls (.int z :: .int y :: st) I L r I' L' :=
  xejmp hop rfl (by show some (bif xcnd .ge y z then a else nx, st) = some (nx, st); rw [show xcnd .ge y z = false by simp only [xcnd, decide_eq_true_eq, decide_eq_false_iff_not, Bool.not_eq_true', Bool.not_eq_false', decide_eq_false_iff_not, decide_eq_true_eq]; exact hc]; rfl) k
theorem xef_gt_t {y : Int32} {off : Int} (hop : xop m pc = (.ifCond .gt off, x, a, b, c, nx)) (hc : 0 < y) (k : xEv X d m a ls st I L r I' L') : xEv X d m pc ls (.int y :: st) I L r I' L' :=
  xejmp hop rfl (by show some (bif xcnd .gt y 0 then a else nx, st) = some (a, st); rw [show xcnd .gt y 0 = true by simp only [xcnd, decide_eq_true_eq, decide_eq_false_iff_not, Bool.not_eq_true', Bool.not_eq_false', decide_eq_false_iff_not, decide_eq_true_eq]; exact hc]; rfl) k
theorem xef_gt_f {y : Int32} {off : Int} (hop : xop m pc = (.ifCond .gt off, x, a, b, c, nx)) (hc : ¬ 0 < y) (k : xEv X d m nx ls st I L r I' L') : xEv X d m pc ls (.int y :: st) I L r I' L' :=
  xejmp hop rfl (by show some (bif xcnd .gt y 0 then a else nx, st) = some (nx, st); rw [show xcnd .gt y 0 = false by simp only [xcnd, decide_eq_true_eq, decide_eq_false_iff_not, Bool.not_eq_true', Bool.not_eq_false', decide_eq_false_iff_not, decide_eq_true_eq]; exact hc]; rfl) k
theorem xei_gt_t {y z : Int32} {off : Int} (hop : xop m pc = (.if_icmp .gt off, x, a, b, c, nx)) (hc : z < y) (k : xEv X d m a ls st I L r I' L') : xEv X d m pc ls (.int z :: .int y :: st) I L r I' L' :=
  xejmp hop rfl (by show some (bif xcnd .gt y z then a else nx, st) = some (a, st); rw [show xcnd .gt y z = true by simp only [xcnd, decide_eq_true_eq, decide_eq_false_iff_not, Bool.not_eq_true', Bool.not_eq_false', decide_eq_false_iff_not, decide_eq_true_eq]; exact hc]; rfl) k
theorem xei_gt_f {y z : Int32} {off : Int} (hop : xop m pc = (.if_icmp .gt off, x, a, b, c, nx)) (hc : ¬ z < y) (k : xEv X d m nx ls st I L r I' L') : xEv X d m pc ls (.int z :: .int y :: st) I L r I' L' :=
  xejmp hop rfl (by show some (bif xcnd .gt y z then a else nx, st) = some (nx, st); rw [show xcnd .gt y z = false by simp only [xcnd, decide_eq_true_eq, decide_eq_false_iff_not, Bool.not_eq_true', Bool.not_eq_false', decide_eq_false_iff_not, decide_eq_true_eq]; exact hc]; rfl) k
theorem xef_le_t {y : Int32} {off : Int} (hop : xop m pc = (.ifCond .le off, x, a, b, c, nx)) (hc : y ≤ 0) (k : xEv X d m a ls st I L r I' L') : xEv X d m pc ls (.int y :: st) I L r I' L' :=
  xejmp hop rfl (by show some (bif xcnd .le y 0 then a else nx, st) = some (a, st); rw [show xcnd .le y 0 = true by simp only [xcnd, decide_eq_true_eq, decide_eq_false_iff_not, Bool.not_eq_true', Bool.not_eq_false', decide_eq_false_iff_not, decide_eq_true_eq]; exact hc]; rfl) k
theorem xef_le_f {y : Int32} {off : Int} (hop : xop m pc = (.ifCond .le off, x, a, b, c, nx)) (hc : ¬ y ≤ 0) (k : xEv X d m nx ls st I L r I' L') : xEv X d m pc ls (.int y :: st) I L r I' L' :=
  xejmp hop rfl (by show some (bif xcnd .le y 0 then a else nx, st) = some (nx, st); rw [show xcnd .le y 0 = false by simp only [xcnd, decide_eq_true_eq, decide_eq_false_iff_not, Bool.not_eq_true', Bool.not_eq_false', decide_eq_false_iff_not, decide_eq_true_eq]; exact hc]; rfl) k
theorem xei_le_t {y z : Int32} {off : Int} (hop : xop m pc = (.if_icmp .le off, x, a, b, c, nx)) (hc : y ≤ z) (k : xEv X d m a ls st I L r I' L') : xEv X d m pc ls (.int z :: .int y :: st) I L r I' L' :=
  xejmp hop rfl (by show some (bif xcnd .le y z then a else nx, st) = some (a, st); rw [show xcnd .le y z = true by simp only [xcnd, decide_eq_true_eq, decide_eq_false_iff_not, Bool.not_eq_true', Bool.not_eq_false', decide_eq_false_iff_not, decide_eq_true_eq]; exact hc]; rfl) k
theorem xei_le_f {y z : Int32} {off : Int} (hop : xop m pc = (.if_icmp .le off, x, a, b, c, nx)) (hc : ¬ y ≤ z) (k : xEv X d m nx ls st I L r I' L') : xEv X d m pc ls (.int z :: .int y :: st) I L r I' L' :=
  xejmp hop rfl (by show some (bif xcnd .le y z then a else nx, st) = some (nx, st); rw [show xcnd .le y z = false by simp only [xcnd, decide_eq_true_eq, decide_eq_false_iff_not, Bool.not_eq_true', Bool.not_eq_false', decide_eq_false_iff_not, decide_eq_true_eq]; exact hc]; rfl) k
theorem xetab {y : Int32} {dd lo hi : Int} {offs : Array Int} {pc' : Nat} (hop : xop m pc = (.tableswitch dd lo hi offs, x, a, b, c, nx)) (hj : xjmp (.tableswitch dd lo hi offs) a nx pc (.int y :: st) = some (pc', st)) (k : xEv X d m pc' ls st I L r I' L') : xEv X d m pc ls (.int y :: st) I L r I' L' := xejmp hop rfl hj k
theorem xobj_i {o ci n b : Nat} {rs : List (Option Nat)} (h : xSH[o]? = some (5 + ci, n, rs)) (hb : b < n) : xobj xSH o ci b = some rs := by
  unfold xobj
  rw [h]
  exact if_pos ⟨rfl, hb⟩
theorem xarr_i {o k n : Nat} {rs : List (Option Nat)} (h : xSH[o]? = some (k, n, rs)) : xarr xSH o k = some n := by
  unfold xarr
  rw [h]
  exact if_pos rfl
theorem xarr_n {o k k' n : Nat} {rs : List (Option Nat)} (h : xSH[o]? = some (k', n, rs)) (hk : k' ≠ k) : xarr xSH o k = none := by
  unfold xarr
  rw [h]
  exact if_neg hk
theorem xegf0 {i o n : Nat} {rs : List (Option Nat)} (hop : xop m pc = (.getfield i, x, a, b, 0, nx)) (ho : xSH[o]? = some (5 + a, n, rs)) (hb : b < n) (k : xEv X d m nx ls (.int (I o b) :: st) I L r I' L') : xEv X d m pc ls (.ref o :: st) I L r I' L' :=
  xe2 hop rfl rfl (by simp only [xs2, xobj_i ho hb]) k
theorem xepf0 {i o n : Nat} {y : Int32} {rs : List (Option Nat)} (hop : xop m pc = (.putfield i, x, a, b, 0, nx)) (ho : xSH[o]? = some (5 + a, n, rs)) (hb : b < n) (k : xEv X d m nx ls st (xput I o b y) L r I' L') : xEv X d m pc ls (.int y :: .ref o :: st) I L r I' L' :=
  xe2 (I1 := xput I o b y) hop rfl rfl (by simp only [xs2, xobj_i ho hb]; rfl) k
theorem xegf10 {i o n : Nat} {rs : List (Option Nat)} (hop : xop m pc = (.getfield i, x, a, b, 10, nx)) (ho : xSH[o]? = some (5 + a, n, rs)) (hb : b < n) (k : xEv X d m nx ls (.int (I o b) :: st) I L r I' L') : xEv X d m pc ls (.ref o :: st) I L r I' L' :=
  xe2 hop rfl rfl (by simp only [xs2, xobj_i ho hb]) k
theorem xepf10 {i o n : Nat} {y : Int32} {rs : List (Option Nat)} (hop : xop m pc = (.putfield i, x, a, b, 10, nx)) (ho : xSH[o]? = some (5 + a, n, rs)) (hb : b < n) (k : xEv X d m nx ls st (xput I o b y) L r I' L') : xEv X d m pc ls (.int y :: .ref o :: st) I L r I' L' :=
  xe2 (I1 := xput I o b y) hop rfl rfl (by simp only [xs2, xobj_i ho hb]; rfl) k
theorem xegf2 {i o n q : Nat} {rs : List (Option Nat)} (hop : xop m pc = (.getfield i, x, a, b, 2, nx)) (ho : xSH[o]? = some (5 + a, n, rs)) (hb : b < n) (hq : rs.getD b none = some q) (k : xEv X d m nx ls (.ref q :: st) I L r I' L') : xEv X d m pc ls (.ref o :: st) I L r I' L' :=
  xe2 hop rfl rfl (by simp only [xs2, xobj_i ho hb, hq]) k
theorem xegf12 {i o n q : Nat} {rs : List (Option Nat)} (hop : xop m pc = (.getfield i, x, a, b, 12, nx)) (ho : xSH[o]? = some (5 + a, n, rs)) (hb : b < n) (hq : rs.getD b none = some q) (k : xEv X d m nx ls (.ref q :: st) I L r I' L') : xEv X d m pc ls (.ref o :: st) I L r I' L' :=
  xe2 hop rfl rfl (by simp only [xs2, xobj_i ho hb, hq]) k
theorem xepf1 {i o n : Nat} {y : Int32} {rs : List (Option Nat)} (hop : xop m pc = (.putfield i, x, a, b, 1, nx)) (ho : xSH[o]? = some (5 + a, n, rs)) (hb : b < n) (hy : xnarz y = true) (k : xEv X d m nx ls st (xput I o b y) L r I' L') : xEv X d m pc ls (.int y :: .ref o :: st) I L r I' L' :=
  xe2 (I1 := xput I o b y) hop rfl rfl (by simp only [xs2, xobj_i ho hb, hy, if_true]; rfl) k
theorem xeia {o n : Nat} {i : Int32} {rs : List (Option Nat)} (hop : xop m pc = (.iaload, x, a, b, c, nx)) (ho : xSH[o]? = some (0, n, rs)) (hi : xin i n = true) (k : xEv X d m nx ls (.int (I o (xN i)) :: st) I L r I' L') : xEv X d m pc ls (.int i :: .ref o :: st) I L r I' L' :=
  xe2 hop rfl rfl (by simp only [xs2, xarr_i ho, hi, if_true]) k
theorem xeba {o n : Nat} {i : Int32} {rs : List (Option Nat)} (hop : xop m pc = (.baload, x, a, b, c, nx)) (ho : xSH[o]? = some (1, n, rs)) (hi : xin i n = true) (k : xEv X d m nx ls (.int (I o (xN i)) :: st) I L r I' L') : xEv X d m pc ls (.int i :: .ref o :: st) I L r I' L' :=
  xe2 hop rfl rfl (by simp only [xs2, xarr_i ho, hi, if_true]) k
theorem xeza {o n : Nat} {i : Int32} {rs : List (Option Nat)} (hop : xop m pc = (.baload, x, a, b, c, nx)) (ho : xSH[o]? = some (2, n, rs)) (hi : xin i n = true) (k : xEv X d m nx ls (.int (I o (xN i)) :: st) I L r I' L') : xEv X d m pc ls (.int i :: .ref o :: st) I L r I' L' :=
  xe2 hop rfl rfl (by simp only [xs2, xarr_n ho (show (2 : Nat) ≠ 1 by decide), xarr_i ho, hi, if_true]) k
theorem xela {o n : Nat} {i : Int32} {rs : List (Option Nat)} (hop : xop m pc = (.laload, x, a, b, c, nx)) (ho : xSH[o]? = some (3, n, rs)) (hi : xin i n = true) (k : xEv X d m nx ls (.long (L o (xN i)) :: st) I L r I' L') : xEv X d m pc ls (.int i :: .ref o :: st) I L r I' L' :=
  xe2 hop rfl rfl (by simp only [xs2, xarr_i ho, hi, if_true]) k
theorem xeaa {o n q : Nat} {i : Int32} {rs : List (Option Nat)} (hop : xop m pc = (.aaload, x, a, b, c, nx)) (ho : xSH[o]? = some (4, n, rs)) (hi : xin i n = true) (hq : xrf o (xN i) = some q) (k : xEv X d m nx ls (.ref q :: st) I L r I' L') : xEv X d m pc ls (.int i :: .ref o :: st) I L r I' L' :=
  xe2 hop rfl rfl (by
    unfold xrf at hq
    rw [ho] at hq
    have hq' : rs.getD (xN i) none = some q := hq
    simp only [xs2, ho, hi, if_true, hq']) k
theorem xeis {o n : Nat} {i y : Int32} {rs : List (Option Nat)} (hop : xop m pc = (.iastore, x, a, b, c, nx)) (ho : xSH[o]? = some (0, n, rs)) (hi : xin i n = true) (k : xEv X d m nx ls st (xput I o (xN i) y) L r I' L') : xEv X d m pc ls (.int y :: .int i :: .ref o :: st) I L r I' L' :=
  xe2 (I1 := xput I o (xN i) y) hop rfl rfl (by simp only [xs2, xarr_i ho, hi, if_true]; rfl) k
theorem xebs {o n : Nat} {i y : Int32} {rs : List (Option Nat)} (hop : xop m pc = (.bastore, x, a, b, c, nx)) (ho : xSH[o]? = some (1, n, rs)) (hi : xin i n = true) (k : xEv X d m nx ls st (xput I o (xN i) y.toInt8.toInt32) L r I' L') : xEv X d m pc ls (.int y :: .int i :: .ref o :: st) I L r I' L' :=
  xe2 (I1 := xput I o (xN i) y.toInt8.toInt32) hop rfl rfl (by simp only [xs2, xarr_i ho, hi, if_true]; rfl) k
theorem xezs {o n : Nat} {i y : Int32} {rs : List (Option Nat)} (hop : xop m pc = (.bastore, x, a, b, c, nx)) (ho : xSH[o]? = some (2, n, rs)) (hi : xin i n = true) (k : xEv X d m nx ls st (xput I o (xN i) (y &&& 1)) L r I' L') : xEv X d m pc ls (.int y :: .int i :: .ref o :: st) I L r I' L' :=
  xe2 (I1 := xput I o (xN i) (y &&& 1)) hop rfl rfl (by simp only [xs2, xarr_n ho (show (2 : Nat) ≠ 1 by decide), xarr_i ho, hi, if_true]; rfl) k
theorem xels {o n : Nat} {i : Int32} {y : Int64} {rs : List (Option Nat)} (hop : xop m pc = (.lastore, x, a, b, c, nx)) (ho : xSH[o]? = some (3, n, rs)) (hi : xin i n = true) (k : xEv X d m nx ls st I (xputL L o (xN i) y) r I' L') : xEv X d m pc ls (.long y :: .int i :: .ref o :: st) I L r I' L' :=
  xe2 (L1 := xputL L o (xN i) y) hop rfl rfl (by simp only [xs2, xarr_i ho, hi, if_true]; rfl) k
theorem xelen {o n kk : Nat} {rs : List (Option Nat)} (hop : xop m pc = (.arraylength, x, a, b, c, nx)) (ho : xSH[o]? = some (kk, n, rs)) (hk : kk < 5) (k : xEv X d m nx ls (.int (Int32.ofNat n) :: st) I L r I' L') : xEv X d m pc ls (.ref o :: st) I L r I' L' :=
  xe2 hop rfl rfl (by simp only [xs2, ho, if_pos hk]) k
theorem xecpy {i o1 o2 n1 n2 : Nat} {sp dp n : Int32} {rs1 rs2 : List (Option Nat)} (hop : xop m pc = (.invokestatic i, x, a, b, 2, nx)) (h1 : xSH[o1]? = some (0, n1, rs1)) (h2 : xSH[o2]? = some (0, n2, rs2)) (hc : ¬ sp < 0 ∧ ¬ dp < 0 ∧ ¬ n < 0 ∧ sp.toNatClampNeg + n.toNatClampNeg ≤ n1 ∧ dp.toNatClampNeg + n.toNatClampNeg ≤ n2) (hs : (st.map fun v => v.category).sum ≤ 8)
    (k : xEv X d m nx ls st (xrow I o2 (va_cpy (I o1) (I o2) (xN sp) (xN dp) (xN n))) L r I' L') : xEv X d m pc ls (.int n :: .int dp :: .ref o2 :: .int sp :: .ref o1 :: st) I L r I' L' :=
  xe2 (I1 := xrow I o2 (va_cpy (I o1) (I o2) (xN sp) (xN dp) (xN n))) hop rfl rfl (by simp only [xs2, xarr_i h1, xarr_i h2, if_pos (And.intro hc hs)]) k
theorem xemax {i : Nat} {y z : Int32} (hop : xop m pc = (.invokestatic i, x, a, b, 3, nx)) (hs : (st.map fun v => v.category).sum ≤ 8) (k : xEv X d m nx ls (.int (if y < z then z else y) :: st) I L r I' L') : xEv X d m pc ls (.int z :: .int y :: st) I L r I' L' :=
  xe2 hop rfl rfl (by simp only [xs2, if_pos hs]) k
theorem xemin {i : Nat} {y z : Int32} (hop : xop m pc = (.invokestatic i, x, a, b, 4, nx)) (hs : (st.map fun v => v.category).sum ≤ 8) (k : xEv X d m nx ls (.int (if z < y then z else y) :: st) I L r I' L') : xEv X d m pc ls (.int z :: .int y :: st) I L r I' L' :=
  xe2 hop rfl rfl (by simp only [xs2, if_pos hs]) k
theorem xeret {ins : ClassFile.Instr} (hop : xop m pc = (ins, x, a, b, c, nx)) (h1 : xs1 ins x a c ls st = none) (h2 : xjmp ins a nx pc st = none) (h3 : xs2 X ins a b c (xSH, I, L) st = none) (h4 : xret ins c st = some r) : xEv X d m pc ls st I L r I L := by
  refine ⟨1, ?_⟩
  rw [xexec]
  simp only [hop, h1, h2, h3, h4]
theorem xeiret {y : Int32} (hop : xop m pc = (.ireturn, x, a, b, c, nx)) (hy : xnar c y = true) : xEv X d m pc ls [.int y] I L (some (.int y)) I L :=
  xeret hop rfl rfl rfl (by simp only [xret, hy, if_true])
theorem xelret {y : Int64} (hop : xop m pc = (.lreturn, x, a, b, c, nx)) : xEv X d m pc ls [.long y] I L (some (.long y)) I L := xeret hop rfl rfl rfl rfl
theorem xevret (hop : xop m pc = (.return_, x, a, b, c, nx)) : xEv X d m pc ls [] I L none I L := xeret hop rfl rfl rfl rfl
theorem xecall {ins : ClassFile.Instr} {kd : Nat} {vals rest ls0 : List Value} {v : Option Value} {I1 : XI} {L1 : XL} (hop : xop m pc = (ins, x, a, b, c, nx)) (h1 : xs1 ins x a c ls st = none) (h2 : xjmp ins a nx pc st = none) (h3 : xs2 X ins a b c (xSH, I, L) st = none) (h4 : xret ins c st = none) (h5 : xcall ins c = some kd)
    (hv : (st.take b).reverse = vals) (hr : st.drop b = rest) (hb : b ≤ st.length) (hsl : (xsl vals).length ≤ (xmi a).2.2.2.1) (hcat : (rest.map fun v => v.category).sum ≤ 8) (hk1 : kd = 1 → xrecv xSH (xmi a).1 vals.head? = true) (hk2 : kd = 2 → xisref vals.head? = true) (hent : xent vals (xmi a).2.2.2.1 = ls0)
    (hcal : xEv X d a 0 ls0 [] I L v I1 L1) (k : xEv X (d + 1) m nx ls (v.toList ++ rest) I1 L1 r I' L') : xEv X (d + 1) m pc ls st I L r I' L' := by
  obtain ⟨n1, e1⟩ := hcal
  obtain ⟨n2, e2⟩ := k
  refine ⟨max n1 n2 + 1, ?_⟩
  rw [xexec]
  simp only [hop, h1, h2, h3, h4, h5]
  rw [if_pos ⟨⟨⟨hb, by rw [hv]; exact hsl⟩, by rw [hr]; exact hcat⟩, by rw [hv]; exact ⟨hk1, hk2⟩⟩, hv, hent, xexec_le e1 (Nat.le_max_left n1 n2), hr]
  simp only [true_or, if_true]
  exact xexec_le e2 (Nat.le_max_right n1 n2)
theorem xrecv_o {o oc n : Nat} {rs : List (Option Nat)} (h : xSH[o]? = some (5 + oc, n, rs)) : xrecv xSH oc (some (.ref o)) = true := by
  simp only [xrecv, h, decide_eq_true_eq]
theorem xcallS20 {i : Nat} {vals rest ls0 : List Value} {v : Option Value} {I1 : XI} {L1 : XL} (hop : xop m pc = (.invokestatic i, x, a, b, 20, nx)) (hv : (st.take b).reverse = vals) (hr : st.drop b = rest) (hb : b ≤ st.length) (hsl : (xsl vals).length ≤ (xmi a).2.2.2.1) (hcat : (rest.map fun v => v.category).sum ≤ 8) (hent : xent vals (xmi a).2.2.2.1 = ls0)
    (hcal : xEv X d a 0 ls0 [] I L v I1 L1) (k : xEv X (d + 1) m nx ls (v.toList ++ rest) I1 L1 r I' L') : xEv X (d + 1) m pc ls st I L r I' L' :=
  xecall hop rfl rfl rfl rfl rfl hv hr hb hsl hcat (fun h => by cases h) (fun h => by cases h) hent hcal k
theorem xcallS30 {i : Nat} {vals rest ls0 : List Value} {v : Option Value} {I1 : XI} {L1 : XL} (hop : xop m pc = (.invokestatic i, x, a, b, 30, nx)) (hv : (st.take b).reverse = vals) (hr : st.drop b = rest) (hb : b ≤ st.length) (hsl : (xsl vals).length ≤ (xmi a).2.2.2.1) (hcat : (rest.map fun v => v.category).sum ≤ 8) (hent : xent vals (xmi a).2.2.2.1 = ls0)
    (hcal : xEv X d a 0 ls0 [] I L v I1 L1) (k : xEv X (d + 1) m nx ls (v.toList ++ rest) I1 L1 r I' L') : xEv X (d + 1) m pc ls st I L r I' L' :=
  xecall hop rfl rfl rfl rfl rfl hv hr hb hsl hcat (fun h => by cases h) (fun h => by cases h) hent hcal k
theorem xcallV {i o oc n : Nat} {rs : List (Option Nat)} {vals rest ls0 : List Value} {v : Option Value} {I1 : XI} {L1 : XL} (hop : xop m pc = (.invokevirtual i, x, a, b, 40, nx)) (ho : xSH[o]? = some (5 + oc, n, rs)) (hoc : oc = (xmi a).1) (hv : (st.take b).reverse = .ref o :: vals) (hr : st.drop b = rest) (hb : b ≤ st.length) (hsl : (xsl (.ref o :: vals)).length ≤ (xmi a).2.2.2.1) (hcat : (rest.map fun v => v.category).sum ≤ 8) (hent : xent (.ref o :: vals) (xmi a).2.2.2.1 = ls0)
    (hcal : xEv X d a 0 ls0 [] I L v I1 L1) (k : xEv X (d + 1) m nx ls (v.toList ++ rest) I1 L1 r I' L') : xEv X (d + 1) m pc ls st I L r I' L' :=
  xecall hop rfl rfl rfl rfl rfl hv hr hb hsl hcat (fun _ => by subst hoc; exact xrecv_o ho) (fun h => by cases h) hent hcal k
end XE
