/-! expressions: their words in a row, the machine that reads them -/
abbrev XP : Type := List (Int32 × Int32)
abbrev XS : Type := Sum (Nat × Nat) (Nat × XP)
abbrev XC : Type := Bool × Nat × List Nat × XP
def opt (w : Nat) : Int32 × Int32 := (if w = 43 then 2 else if w = 45 then 3 else if w = 42 then 4 else 5, 0)
def isMul (w : Nat) : Bool := Nat.beq w 42 || Nat.beq w 47
def isAdd (w : Nat) : Bool := Nat.beq w 43 || Nat.beq w 45
def fl (s : Bool) : List Nat → XP → List Nat × XP
  | [], o => ([], o)
  | w :: W, o => if (Nat.beq w 40 || (s && isAdd w)) = true then (w :: W, o) else fl s W (o ++ [opt w])
def nop : List Nat → Nat
  | [] => 0
  | w :: W => nop W + (if w = 40 then 1 else 0)
def nxE (t : Nat) (c : XC) : Sum XS XC := if t = 400 then Sum.inl (Sum.inl (2, 400)) else Sum.inr c
def stA (b : Nat → Int32) (n t : Nat) (W : List Nat) (o : XP) : Sum XS XC :=
  if kd b n t = 40 then (if nop W = 6 then Sum.inl (Sum.inl (2, t)) else nxE t (true, t + 1, 40 :: W, o))
  else if kd b n t = 3 then nxE t (false, t + 1, W, o ++ [(0, vl b n t)])
  else if 112 ≤ kd b n t ∧ kd b n t ≤ 120 then nxE t (false, t + 1, W, o ++ [(1, Int32.ofNat (kd b n t - 112))])
  else Sum.inl (Sum.inl (1, t))
def stB (b : Nat → Int32) (n t : Nat) (W : List Nat) (o : XP) : Sum XS XC :=
  if kd b n t = 41 ∧ 0 < nop W then nxE t (false, t + 1, (fl false W o).1.tail, (fl false W o).2)
  else if (isMul (kd b n t) || isAdd (kd b n t)) = true then nxE t (true, t + 1, kd b n t :: (fl (isMul (kd b n t)) W o).1, (fl (isMul (kd b n t)) W o).2)
  else if 0 < nop W then Sum.inl (Sum.inl (1, t)) else Sum.inl (Sum.inr (t, (fl false W o).2))
def stE (b : Nat → Int32) (n : Nat) (c : XC) : Sum XS XC := match c with
  | (true, t, W, o) => stA b n t W o
  | (false, t, W, o) => stB b n t W o
def itE (b : Nat → Int32) (n : Nat) : Nat → XC → Option XS
  | 0, _ => none
  | m + 1, c => match stE b n c with
    | Sum.inl r => some r
    | Sum.inr c' => itE b n m c'
def ends (b : Nat → Int32) (n : Nat) (c : XC) (r : XS) : Prop := ∃ m, itE b n m c = some r
theorem ends_step {b : Nat → Int32} {n : Nat} {c c' : XC} {r : XS} (h : stE b n c = Sum.inr c') (k : ends b n c' r) : ends b n c r := by
  obtain ⟨m, hm⟩ := k
  refine ⟨m + 1, ?_⟩
  rw [itE, h]
  exact hm
theorem ends_done {b : Nat → Int32} {n : Nat} {c : XC} {r : XS} (h : stE b n c = Sum.inl r) : ends b n c r := by
  refine ⟨1, ?_⟩
  rw [itE, h]
theorem ends_congr {b : Nat → Int32} {n : Nat} {c c' : XC} {r : XS} (h : stE b n c = stE b n c') (k : ends b n c' r) : ends b n c r := by
  obtain ⟨m, hm⟩ := k
  refine ⟨m, ?_⟩
  cases m with
  | zero => cases hm
  | succ m =>
    rw [itE] at hm ⊢
    rw [h]
    exact hm
theorem itE_det {b : Nat → Int32} {n : Nat} : ∀ m m' c r r', itE b n m c = some r → itE b n m' c = some r' → r = r' := by
  intro m
  induction m with
  | zero => intro m' c r r' h; cases h
  | succ m ih =>
    intro m' c r r' h h'
    cases m' with
    | zero => cases h'
    | succ m' =>
      rw [itE] at h h'
      cases e : stE b n c with
      | inl q =>
        rw [e] at h h'
        exact (Option.some.inj h).symm.trans (Option.some.inj h')
      | inr c' =>
        rw [e] at h h'
        exact ih m' c' r r' h h'
noncomputable def exprR (b : Nat → Int32) (n t : Nat) : XS := @Classical.epsilon XS ⟨Sum.inl (0, 0)⟩ (fun r => ends b n (true, t, [], []) r)
theorem exprR_eq {b : Nat → Int32} {n t : Nat} {r : XS} (h : ends b n (true, t, [], []) r) : exprR b n t = r := by
  have h2 := @Classical.epsilon_spec_aux XS ⟨Sum.inl (0, 0)⟩ (fun r => ends b n (true, t, [], []) r) ⟨r, h⟩
  obtain ⟨m, hm⟩ := h
  obtain ⟨m', hm'⟩ := h2
  exact itE_det m' m _ _ _ hm' hm
/-! what a row of words needs of a stack -/
def atO (q : Int32 × Int32) : Prop := (q.1 = 0 ∧ ∃ j, j < 10000 ∧ q.2 = Int32.ofNat j) ∨ (q.1 = 1 ∧ ∃ j, j < 9 ∧ q.2 = Int32.ofNat j)
def opO (q : Int32 × Int32) : Prop := ∃ w, (isMul w || isAdd w) = true ∧ q = opt w
def rp (h : Nat) : XP → Nat → Nat → Prop
  | [], c, f => c = f
  | q :: p, c, f => (atO q ∧ c + 1 ≤ h ∧ rp h p (c + 1) f) ∨ (opO q ∧ 2 ≤ c ∧ rp h p (c - 1) f)
theorem rp_app {h : Nat} {q : XP} {m f : Nat} (hq : rp h q m f) : ∀ (p : XP) (c : Nat), rp h p c m → rp h (p ++ q) c f := by
  intro p
  induction p with
  | nil => intro c hp; rw [show c = m from hp]; exact hq
  | cons a p ih =>
    intro c hp
    rcases hp with ⟨h1, h2, h3⟩ | ⟨h1, h2, h3⟩
    · exact Or.inl ⟨h1, h2, ih _ h3⟩
    · exact Or.inr ⟨h1, h2, ih _ h3⟩
theorem rp_up {h h' : Nat} {f : Nat} (hh : h ≤ h') : ∀ (p : XP) (c : Nat), rp h p c f → rp h' p c f := by
  intro p
  induction p with
  | nil => intro c hp; exact hp
  | cons a p ih =>
    intro c hp
    rcases hp with ⟨h1, h2, h3⟩ | ⟨h1, h2, h3⟩
    · exact Or.inl ⟨h1, by omega, ih _ h3⟩
    · exact Or.inr ⟨h1, h2, ih _ h3⟩
theorem rp_sh {h f : Nat} (k : Nat) : ∀ (p : XP) (c : Nat), rp h p c f → rp (h + k) p (c + k) (f + k) := by
  intro p
  induction p with
  | nil => intro c hp; show c + k = f + k; rw [show c = f from hp]
  | cons a p ih =>
    intro c hp
    rcases hp with ⟨h1, h2, h3⟩ | ⟨h1, h2, h3⟩
    · refine Or.inl ⟨h1, by omega, ?_⟩
      have := ih _ h3
      rwa [show c + 1 + k = c + k + 1 by omega] at this
    · refine Or.inr ⟨h1, by omega, ?_⟩
      have := ih _ h3
      rwa [show c - 1 + k = c + k - 1 by omega] at this
theorem rp_op {h : Nat} {x y : XP} {w : Nat} (hx : rp (h + 1) x 0 1) (hy : rp h y 0 1) (hw : (isMul w || isAdd w) = true) : rp (h + 1) (x ++ y ++ [opt w]) 0 1 := by
  have h1 := rp_app (rp_sh 1 y 0 hy) x 0 hx
  refine rp_app (m := 2) ?_ (x ++ y) 0 h1
  exact Or.inr ⟨⟨w, hw, rfl⟩, Nat.le_refl _, rfl⟩
/-! the flush -/
theorem fl_mul {s : Bool} {w : Nat} {W : List Nat} {o : XP} (h : isMul w = true) : fl s (w :: W) o = fl s W (o ++ [opt w]) := by
  have : w = 42 ∨ w = 47 := by
    unfold isMul at h
    rcases Bool.or_eq_true_iff.mp h with h | h
    · exact Or.inl (Nat.eq_of_beq_eq_true h)
    · exact Or.inr (Nat.eq_of_beq_eq_true h)
  rcases this with rfl | rfl <;> cases s <;> rfl
theorem fl_add {w : Nat} {W : List Nat} {o : XP} (h : isAdd w = true) : fl false (w :: W) o = fl false W (o ++ [opt w]) := by
  have : w = 43 ∨ w = 45 := by
    unfold isAdd at h
    rcases Bool.or_eq_true_iff.mp h with h | h
    · exact Or.inl (Nat.eq_of_beq_eq_true h)
    · exact Or.inr (Nat.eq_of_beq_eq_true h)
  rcases this with rfl | rfl <;> rfl
theorem mul_n40 {w : Nat} (h : (isMul w || isAdd w) = true) : ¬ w = 40 ∧ ¬ w = 41 ∧ ¬ w = 0 ∧ ¬ w = 1 ∧ w < 121 ∧ okk w = true := by
  unfold isMul isAdd at h
  simp only [Bool.or_eq_true] at h
  have : w = 42 ∨ w = 47 ∨ w = 43 ∨ w = 45 := by
    rcases h with (h | h) | (h | h)
    · exact Or.inl (Nat.eq_of_beq_eq_true h)
    · exact Or.inr (Or.inl (Nat.eq_of_beq_eq_true h))
    · exact Or.inr (Or.inr (Or.inl (Nat.eq_of_beq_eq_true h)))
    · exact Or.inr (Or.inr (Or.inr (Nat.eq_of_beq_eq_true h)))
  rcases this with rfl | rfl | rfl | rfl <;> decide
theorem nop_op {w : Nat} {W : List Nat} (h : (isMul w || isAdd w) = true) : nop (w :: W) = nop W := by
  show nop W + (if w = 40 then 1 else 0) = nop W
  rw [if_neg (mul_n40 h).1]
  rfl
/-- the waiting sign of a product may come out at once -/
theorem st_mul {b : Nat → Int32} {n t w : Nat} {W : List Nat} {o : XP} (h : isMul w = true) : stE b n (false, t, w :: W, o) = stE b n (false, t, W, o ++ [opt w]) := by
  show stB b n t (w :: W) o = stB b n t W (o ++ [opt w])
  unfold stB
  rw [nop_op (by rw [h]; rfl), fl_mul h, fl_mul h]
theorem st_add {b : Nat → Int32} {n t w : Nat} {W : List Nat} {o : XP} (h : isAdd w = true) (hk : isMul (kd b n t) = false) : stE b n (false, t, w :: W, o) = stE b n (false, t, W, o ++ [opt w]) := by
  show stB b n t (w :: W) o = stB b n t W (o ++ [opt w])
  unfold stB
  rw [nop_op (by rw [h, Bool.or_true]), fl_add h, hk, fl_add h]
/-- no sign of a product waits on top; no sign at all -/
def top1 (W : List Nat) : Prop := ∀ o, fl true W o = (W, o)
def top2 (W : List Nat) : Prop := ∀ o, fl false W o = (W, o)
theorem top2_nil : top2 [] := fun _ => rfl
theorem top2_par {W : List Nat} : top2 (40 :: W) := fun _ => rfl
theorem top1_2 {W : List Nat} (h : top2 W) : top1 W := by
  intro o
  cases W with
  | nil => rfl
  | cons w W =>
    have := h o
    unfold fl at this ⊢
    by_cases e : Nat.beq w 40 = true
    · rw [e, Bool.true_or, if_pos rfl]
    · have e' : Nat.beq w 40 = false := by
        cases h' : Nat.beq w 40 with
        | false => rfl
        | true => exact absurd h' e
      rw [e', Bool.false_and, Bool.or_false, if_neg (by decide)] at this
      have hl := congrArg (fun p => p.2.length) this
      have grow : ∀ (V : List Nat) (o : XP), o.length ≤ (fl false V o).2.length := by
        intro V
        induction V with
        | nil => intro o; exact Nat.le_refl _
        | cons v V ih =>
          intro o
          unfold fl
          split
          · exact Nat.le_refl _
          · have := ih (o ++ [opt v])
            rw [List.length_append] at this
            exact Nat.le_trans (Nat.le_add_right _ _) this
      have := grow W (o ++ [opt w])
      rw [List.length_append] at this
      have hl : (fl false W (o ++ [opt w])).2.length = o.length := hl
      simp at this
      omega
theorem top1_add {w : Nat} {W : List Nat} (h : isAdd w = true) : top1 (w :: W) := by
  intro o
  unfold fl
  rw [h, Bool.true_and, Bool.or_true, if_pos rfl]
theorem vlT_ok {b : Nat → Int32} {a : Nat} : ∀ k, (∀ t, t < k → isDg (b (a + t)) = true) → k ≤ 4 → ∃ j, j < 10 ^ k ∧ vlT b a k = Int32.ofNat j := by
  intro k
  induction k with
  | zero => intro _ _; exact ⟨0, by decide, rfl⟩
  | succ k ih =>
    intro h hk
    obtain ⟨j, j1, j2⟩ := ih (fun t ht => h t (by omega)) (by omega)
    obtain ⟨d1, d2, d3⟩ := dg_ok (h k (by omega))
    refine ⟨10 * j + (xN (b (a + k)) - 48), ?_, ?_⟩
    · rw [Nat.pow_succ]; omega
    · rw [vlT_step, j2, d1, show (10 : Int32) = Int32.ofNat 10 from rfl, nk_mul, nk_add, show (48 : Int32) = Int32.ofNat 48 from rfl, nk_sub (by omega)]
      congr 1
      have : xN (Int32.ofNat (xN (b (a + k)))) = xN (b (a + k)) := nk_N (by omega)
      omega
theorem vl_ok {b : Nat → Int32} {n i : Nat} (h : kd b n i = 3) : ∃ j, j < 10000 ∧ vl b n i = Int32.ofNat j := by
  unfold vl
  have key : isLt (b (plc b n i)) = false ∧ isDg (b (plc b n i)) = true ∧ plc b n i < n ∧ run (dg b) n (plc b n i) - plc b n i ≤ 4 := by
    unfold kd kdT at h
    by_cases e : n ≤ plc b n i
    · rw [if_pos e] at h; cases h
    · rw [if_neg e] at h
      cases hl : isLt (b (plc b n i)) with
      | true =>
        rw [hl, if_pos rfl] at h
        split at h
        · cases h
        · rcases wdK_ok (nv b (plc b n i) (run (lt b) n (plc b n i) - plc b n i)) with h' | ⟨k, _, h', _⟩ <;> rw [h'] at h <;> omega
      | false =>
        rw [hl, if_neg (by decide)] at h
        cases hd : isDg (b (plc b n i)) with
        | true =>
          rw [hd, if_pos rfl] at h
          refine ⟨rfl, rfl, by omega, ?_⟩
          split at h
          · cases h
          · omega
        | false =>
          rw [hd, if_neg (by decide)] at h
          split at h
          · rename_i hg
            have := (isSg_ok hg).2.2.2.1
            omega
          · cases h
  obtain ⟨-, k2, k3, k4⟩ := key
  obtain ⟨j, j1, j2⟩ := vlT_ok (b := b) (a := plc b n i) (run (dg b) n (plc b n i) - plc b n i) (fun t ht => run_all (p := dg b) (n := n) _ (plc b n i) rfl _ (by omega) (by omega)) k4
  refine ⟨j, Nat.lt_of_lt_of_le j1 ?_, j2⟩
  exact Nat.pow_le_pow_right (n := 10) (by omega) k4
