/-! what laws tell: words reckoned on a stack; the class -/
def opv (k x y : Int32) : Int32 := if k = 2 then x + y else if k = 3 then x - y else if k = 4 then x * y else x / y
def evP (u : Nat → Int32) : XP → List Int32 → Option (List Int32)
  | [], s => some s
  | q :: p, s => if q.1 = 0 then evP u p (q.2 :: s) else if q.1 = 1 then evP u p (u (xN q.2) :: s) else match s with
    | y :: x :: s' => if q.1 = 5 ∧ y = 0 then none else evP u p (opv q.1 x y :: s')
    | _ => none
def evE (u : Nat → Int32) (p : XP) : Option Int32 := match evP u p [] with
  | some (v :: _) => some v
  | _ => none
def evL (u : Nat → Int32) : List (XP × XP × XP) → XP → Int32
  | [], e => (evE u e).getD 0
  | q :: cs, e => match evE u q.1 with
    | none => 0
    | some x => match evE u q.2.1 with
      | none => 0
      | some y => if x < y then (evE u q.2.2).getD 0 else evL u cs e
theorem opO_ok {q : Int32 × Int32} (h : opO q) : ¬ q.1 = 0 ∧ ¬ q.1 = 1 ∧ q.2 = 0 ∧ ((q.1 = 2 ∧ cwd q = 20043) ∨ (q.1 = 3 ∧ cwd q = 20045) ∨ (q.1 = 4 ∧ cwd q = 20042) ∨ (q.1 = 5 ∧ cwd q = 20047)) := by
  obtain ⟨w, hw, rfl⟩ := h
  have : w = 42 ∨ w = 47 ∨ w = 43 ∨ w = 45 := by
    rcases Bool.or_eq_true_iff.mp hw with h | h
    · rcases isMul_iff.mp h with h | h
      · exact Or.inl h
      · exact Or.inr (Or.inl h)
    · rcases isAdd_iff.mp h with h | h
      · exact Or.inr (Or.inr (Or.inl h))
      · exact Or.inr (Or.inr (Or.inr h))
  rcases this with rfl | rfl | rfl | rfl <;> decide
theorem evP_op {u : Nat → Int32} {q : Int32 × Int32} {p : XP} {x y : Int32} {s : List Int32} (h : opO q) : evP u (q :: p) (y :: x :: s) = if q.1 = 5 ∧ y = 0 then none else evP u p (opv q.1 x y :: s) := by
  obtain ⟨h0, h1, -⟩ := opO_ok h
  show (if q.1 = 0 then _ else if q.1 = 1 then _ else _) = _
  rw [if_neg h0, if_neg h1]
theorem evP_len {u : Nat → Int32} {h f : Nat} : ∀ (p : XP) (s s' : List Int32), rp h p s.length f → evP u p s = some s' → s'.length = f := by
  intro p
  induction p with
  | nil =>
    intro s s' hr he
    have : s = s' := Option.some.inj he
    rw [← this]
    exact hr
  | cons q p ih =>
    intro s s' hr he
    rcases hr with ⟨hq, h2, h3⟩ | ⟨hq, h2, h3⟩
    · rcases hq with ⟨e0, -⟩ | ⟨e1, -⟩
      · have he : (if q.1 = 0 then evP u p (q.2 :: s) else _) = some s' := he
        rw [if_pos e0] at he
        exact ih (q.2 :: s) s' h3 he
      · have he : (if q.1 = 0 then _ else if q.1 = 1 then evP u p (u (xN q.2) :: s) else _) = some s' := he
        rw [if_neg (by rw [e1]; decide), if_pos e1] at he
        exact ih (u (xN q.2) :: s) s' h3 he
    · match s, h2, h3, he with
      | y :: x :: s, _, h3, he =>
        rw [evP_op hq] at he
        split at he
        · cases he
        · exact ih (opv q.1 x y :: s) s' h3 he
      | [y], h2, _, _ => exact absurd h2 (show ¬ 2 ≤ 1 by omega)
      | [], h2, _, _ => exact absurd h2 (show ¬ 2 ≤ 0 by omega)
theorem evP_app {u : Nat → Int32} {h f : Nat} {t : List Int32} : ∀ (p : XP) (s : List Int32), rp h p s.length f → evP u p (s ++ t) = (evP u p s).map (fun z => z ++ t) := by
  intro p
  induction p with
  | nil => intro s _; rfl
  | cons q p ih =>
    intro s hr
    rcases hr with ⟨hq, h2, h3⟩ | ⟨hq, h2, h3⟩
    · rcases hq with ⟨e0, -⟩ | ⟨e1, -⟩
      · show (if q.1 = 0 then evP u p (q.2 :: (s ++ t)) else _) = Option.map _ (if q.1 = 0 then evP u p (q.2 :: s) else _)
        rw [if_pos e0, if_pos e0]
        exact ih (q.2 :: s) h3
      · have n0 : ¬ q.1 = 0 := by rw [e1]; decide
        show (if q.1 = 0 then _ else if q.1 = 1 then evP u p (u (xN q.2) :: (s ++ t)) else _) = Option.map _ (if q.1 = 0 then _ else if q.1 = 1 then evP u p (u (xN q.2) :: s) else _)
        rw [if_neg n0, if_pos e1, if_neg n0, if_pos e1]
        exact ih (u (xN q.2) :: s) h3
    · match s, h2, h3 with
      | y :: x :: s, _, h3 =>
        show evP u (q :: p) (y :: x :: (s ++ t)) = _
        rw [evP_op hq, evP_op hq]
        split
        · rfl
        · exact ih (opv q.1 x y :: s) h3
      | [y], h2, _ => exact absurd h2 (show ¬ 2 ≤ 1 by omega)
      | [], h2, _ => exact absurd h2 (show ¬ 2 ≤ 0 by omega)
theorem evE_none {u : Nat → Int32} {p : XP} {h : Nat} (hr : rp h p 0 1) : evE u p = none ↔ evP u p [] = none := by
  unfold evE
  cases he : evP u p [] with
  | none => exact ⟨fun _ => rfl, fun _ => rfl⟩
  | some s =>
    have hl := evP_len p [] s hr he
    match s, hl with
    | [v], _ => exact ⟨fun h => (by cases h), fun h => (by cases h)⟩
    | [], hl => exact absurd hl (show ¬ 0 = 1 by omega)
theorem evE_some {u : Nat → Int32} {p : XP} {h : Nat} {v : Int32} (hr : rp h p 0 1) : evE u p = some v ↔ evP u p [] = some [v] := by
  unfold evE
  cases he : evP u p [] with
  | none => exact ⟨fun h => (by cases h), fun h => (by cases h)⟩
  | some s =>
    have hl := evP_len p [] s hr he
    match s, hl with
    | [w], _ => exact ⟨fun h => by rw [Option.some.inj h], fun h => by
        have := Option.some.inj h
        have : w = v := by injection this
        rw [this]⟩
    | [], hl => exact absurd hl (show ¬ 0 = 1 by omega)
theorem evP_congr {u v : Nat → Int32} (hu : agr u v) {h f : Nat} : ∀ (p : XP) (s : List Int32) (c : Nat), rp h p c f → evP u p s = evP v p s := by
  intro p
  induction p with
  | nil => intro s c _; rfl
  | cons q p ih =>
    intro s c hr
    rcases hr with ⟨hq, h2, h3⟩ | ⟨hq, h2, h3⟩
    · rcases hq with ⟨e0, -⟩ | ⟨e1, j, hj, hj'⟩
      · show (if q.1 = 0 then evP u p (q.2 :: s) else _) = (if q.1 = 0 then evP v p (q.2 :: s) else _)
        rw [if_pos e0, if_pos e0]
        exact ih _ _ h3
      · have n0 : ¬ q.1 = 0 := by rw [e1]; decide
        show (if q.1 = 0 then _ else if q.1 = 1 then evP u p (u (xN q.2) :: s) else _) = (if q.1 = 0 then _ else if q.1 = 1 then evP v p (v (xN q.2) :: s) else _)
        rw [if_neg n0, if_pos e1, if_neg n0, if_pos e1, hj', nk_N (by omega), hu j hj]
        exact ih _ _ h3
    · obtain ⟨h0, h1, -⟩ := opO_ok hq
      match s with
      | y :: x :: s =>
        rw [evP_op hq, evP_op hq]
        split
        · rfl
        · exact ih _ _ h3
      | [y] =>
        show (if q.1 = 0 then _ else if q.1 = 1 then _ else none) = (if q.1 = 0 then _ else if q.1 = 1 then _ else none)
        rw [if_neg h0, if_neg h1, if_neg h0, if_neg h1]
      | [] =>
        show (if q.1 = 0 then _ else if q.1 = 1 then _ else none) = (if q.1 = 0 then _ else if q.1 = 1 then _ else none)
        rw [if_neg h0, if_neg h1, if_neg h0, if_neg h1]
theorem evE_congr {u v : Nat → Int32} (hu : agr u v) {p : XP} (hr : rp 15 p 0 1) : evE u p = evE v p := by
  unfold evE
  rw [evP_congr hu p [] 0 hr]
theorem evL_congr {u v : Nat → Int32} (hu : agr u v) : ∀ cs e, okLw cs e → evL u cs e = evL v cs e := by
  intro cs
  induction cs with
  | nil =>
    intro e h
    show (evE u e).getD 0 = (evE v e).getD 0
    rw [evE_congr hu h]
  | cons q cs ih =>
    rintro e ⟨⟨h1, h2, h3⟩, h4⟩
    unfold evL
    rw [evE_congr hu h1, evE_congr hu h2, evE_congr hu h3, ih e h4]
/-- a stack in a row -/
def stk (o : Nat) (s : List Int32) (K : XI) : Prop := ∀ i, i < s.length → K o (s.length - 1 - i) = s.getD i 0
theorem stk_push {o : Nat} {s : List Int32} {v : Int32} {K : XI} (h : stk o s K) : stk o (v :: s) (xput K o s.length v) := by
  intro i hi
  have hl : (v :: s).length = s.length + 1 := rfl
  rw [hl] at hi ⊢
  rw [xput_at]
  cases i with
  | zero => rw [if_pos (by omega)]; rfl
  | succ i =>
    rw [if_neg (by omega), show s.length + 1 - 1 - (i + 1) = s.length - 1 - i by omega]
    exact h i (by omega)
theorem stk_op {o : Nat} {s : List Int32} {x y v : Int32} {K : XI} (h : stk o (y :: x :: s) K) : stk o (v :: s) (xput K o s.length v) ∧ K o (s.length + 1) = y ∧ K o s.length = x := by
  have hl : (y :: x :: s).length = s.length + 2 := rfl
  refine ⟨fun i hi => ?_, ?_, ?_⟩
  · have hl2 : (v :: s).length = s.length + 1 := rfl
    rw [hl2] at hi ⊢
    rw [xput_at]
    cases i with
    | zero => rw [if_pos (by omega)]; rfl
    | succ i =>
      rw [if_neg (by omega)]
      have := h (i + 2) (by rw [hl]; omega)
      rw [hl, show s.length + 2 - 1 - (i + 2) = s.length + 1 - 1 - (i + 1) by omega] at this
      exact this
  · have := h 0 (by rw [hl]; omega)
    rw [hl] at this
    exact this
  · have := h 1 (by rw [hl]; omega)
    rw [hl] at this
    exact this
theorem c_reckon {q : Int32 × Int32} {x y : Int32} (h : opO q) (hz : ¬ (q.1 = 5 ∧ y = 0)) : f_Laws_reckon x (cwd q - 20000) y = some (opv q.1 x y) := by
  obtain ⟨-, -, -, h⟩ := opO_ok h
  unfold f_Laws_reckon opv
  rcases h with ⟨h1, h2⟩ | ⟨h1, h2⟩ | ⟨h1, h2⟩ | ⟨h1, h2⟩
  · rw [h1, h2, if_neg (by decide), if_neg (by decide), if_pos (by decide), if_pos rfl]
  · rw [h1, h2, if_neg (by decide), if_neg (by decide), if_neg (by decide), if_neg (by decide), if_pos (by decide), if_neg (by decide), if_pos rfl]
  · rw [h1, h2, if_neg (by decide), if_pos (by decide), if_neg (by decide), if_neg (by decide), if_pos rfl]
  · have hy : ¬ y = 0 := fun e => hz ⟨h1, e⟩
    rw [h1, h2, if_pos (by decide), if_neg hy, if_neg (by decide), if_neg (by decide), if_neg (by decide), decide_eq_false hy]
    rfl
theorem c_run {F : Nat} {J : XI} {sz h f : Nat} {Q : Int32 × XI → Prop} (hsz : sz ≤ 420) (hJ : J 21 1 = Int32.ofNat sz) (hh : h ≤ 32) : ∀ (p : XP) (a : Nat) (s : List Int32) (m st : Nat) (K : XI), segR (J 22) a p → rp h p s.length f → s.length ≤ 32 → a + p.length ≤ sz → st ≤ a → 1000 ≤ m + st → Same (sco 25) J K → stk 25 s K →
    (evP (J 24) p s = none → ∀ K', Same (sco 25) J K' → Q (0, K')) → (∀ s', evP (J 24) p s = some s' → ∀ K' m', m' + st + p.length = m + st → Same (sco 25) J K' → stk 25 s' K' → xOk (f_Laws_value_12 F 21 m' (Int32.ofNat s'.length) (Int32.ofNat (a + p.length)) (Int32.ofNat (st + p.length)) K') Q) →
    xOk (f_Laws_value_12 F 21 m (Int32.ofNat s.length) (Int32.ofNat a) (Int32.ofNat st) K) Q := by
  intro p
  induction p with
  | nil =>
    intro a s m st K h1 h2 hs32 h3 h4 h5 h6 h7 hn hs
    exact hs s rfl K m rfl h6 h7
  | cons q p ih =>
    intro a s m st K h1 h2 hs32 h3 h4 h5 h6 h7 hn hs
    have hl : (q :: p).length = p.length + 1 := rfl
    rw [hl] at h3
    obtain ⟨m, rfl⟩ : ∃ z, m = z + 1 := ⟨m - 1, by omega⟩
    have hw : K 22 a = cwd q := by
      rw [h6 22 a rfl]
      exact h1 0 (by rw [hl]; omega)
    have hseg : segR (J 22) (a + 1) p := fun j hj => by
      have := h1 (j + 1) (by rw [hl]; omega)
      rw [show a + (j + 1) = a + 1 + j by omega] at this
      exact this
    rw [f_Laws_value_12]
    refine xOk.neg (nk_nge (N := 420) (by omega) (by omega)) ?_
    rw [h6 21 1 rfl, hJ]
    refine xOk.neg (nk_nge (by omega) (by omega)) (xOk.ck (nk_in (by omega) (by omega)) ?_)
    show xOk (if 20000 ≤ K 22 (xN (Int32.ofNat a)) then _ else _) Q
    rw [nk_N (show a < 2147483648 by omega), hw]
    have nx : ∀ (s2 : List Int32) (K2 : XI), Same (sco 25) J K2 → stk 25 s2 K2 → rp h p s2.length f → s2.length ≤ 32 → evP (J 24) (q :: p) s = evP (J 24) p s2 → xOk (f_Laws_value_12 F 21 m (Int32.ofNat s2.length) (Int32.ofNat a + 1) (Int32.ofNat st + 1) K2) Q := by
      intro s2 K2 k1 k2 k3 k32 k4
      rw [nk_succ, nk_succ]
      refine ih (a + 1) s2 m (st + 1) K2 hseg k3 k32 (by omega) (by omega) (by omega) k1 k2 (fun e K' hK' => hn (k4.trans e) K' hK') (fun s' e K' m' hm' x1 x2 => ?_)
      have := hs s' (k4.trans e) K' m' (by rw [hl]; omega) x1 x2
      rw [hl, show a + (p.length + 1) = a + 1 + p.length by omega, show st + (p.length + 1) = st + 1 + p.length by omega] at this
      exact this
    rcases h2 with ⟨hq, g2, g3⟩ | ⟨hq, g2, g3⟩
    · -- a number, a variable
      have push : ∀ v, (evP (J 24) (q :: p) s = evP (J 24) p (v :: s)) → xOk (f_Laws_value_84 F 21 (fun v2 v3 v4 I => f_Laws_value_12 F 21 m v2 v3 v4 I) (Int32.ofNat s.length) (Int32.ofNat a + 1) (Int32.ofNat st) (Int32.ofNat s.length) v K) Q := by
        intro v hv
        unfold f_Laws_value_84
        refine xOk.ck (nk_in (by omega) (by omega)) (xOk.st ?_)
        rw [nk_N (show s.length < 2147483648 by omega), nk_succ s.length]
        exact nx (v :: s) (xput K 25 s.length v) (h6.put' rfl) (stk_push h7) g3 (show s.length + 1 ≤ 32 by omega) hv
      rcases hq with ⟨e0, j, hj, hj'⟩ | ⟨e1, j, hj, hj'⟩
      · have hc : cwd q = Int32.ofNat j := by
          unfold cwd
          rw [if_pos e0, hj']
        rw [hc]
        refine xOk.neg (nk_nge (N := 20000) (by omega) (by omega)) (xOk.pos (nk_lt_t (b := 32) (by omega) (by omega)) (xOk.neg (nk_nge (N := 10000) (by omega) (by omega)) (push _ ?_)))
        show (if q.1 = 0 then evP (J 24) p (q.2 :: s) else _) = _
        rw [if_pos e0, hj']
      · have n0 : ¬ q.1 = 0 := by rw [e1]; decide
        have hc : cwd q = Int32.ofNat (10000 + j) := by
          unfold cwd
          rw [if_neg n0, if_pos e1, hj', show (10000 : Int32) = Int32.ofNat 10000 from rfl, nk_add]
        rw [hc]
        have hsub : Int32.ofNat (10000 + j) - 10000 = Int32.ofNat j := by
          rw [show (10000 : Int32) = Int32.ofNat 10000 from rfl, nk_sub (by omega), Nat.add_sub_cancel_left]
        rw [hsub]
        refine xOk.neg (nk_nge (N := 20000) (by omega) (by omega)) (xOk.pos (nk_lt_t (b := 32) (by omega) (by omega)) (xOk.pos (nk_le_t (a := 10000) (by omega) (by omega)) (xOk.ck (nk_in (by omega) (by omega)) (push _ ?_))))
        show (if q.1 = 0 then _ else if q.1 = 1 then evP (J 24) p (J 24 (xN q.2) :: s) else _) = _
        rw [if_neg n0, if_pos e1, hj', show K (21 + 3) = J 24 from h6.row 24 (fun _ => rfl)]
    · match s, g2, g3, h7, nx, hn, hs32 with
      | [], g2, _, _, _, _, _ => exact absurd g2 (show ¬ 2 ≤ 0 by omega)
      | [y], g2, _, _, _, _, _ => exact absurd g2 (show ¬ 2 ≤ 1 by omega)
      | y :: x :: s, g2, g3, h7, nx, hn, hs32 =>
        have hlen : (y :: x :: s).length = s.length + 2 := rfl
        have hs32 : s.length + 2 ≤ 32 := hs32
        obtain ⟨-, ky, kx⟩ := stk_op (v := 0) h7
        obtain ⟨-, -, -, hwv⟩ := opO_ok hq
        have hbig : (20000 : Int32) ≤ cwd q ∧ ¬ cwd q = 20000 ∧ cwd q < 30000 ∧ (cwd q = 20047 ↔ q.1 = 5) := by
          rcases hwv with ⟨h1, h2⟩ | ⟨h1, h2⟩ | ⟨h1, h2⟩ | ⟨h1, h2⟩ <;> rw [h1, h2] <;> decide
        rw [hlen]
        have e1 : Int32.ofNat (s.length + 2) - 1 = Int32.ofNat (s.length + 1) := by rw [show (1 : Int32) = Int32.ofNat 1 from rfl, nk_sub (by omega)]; rfl
        have e2 : Int32.ofNat (s.length + 2) - 2 = Int32.ofNat s.length := by rw [show (2 : Int32) = Int32.ofNat 2 from rfl, nk_sub (by omega), Nat.add_sub_cancel]
        have e3 : Int32.ofNat (s.length + 2) + (-1) = Int32.ofNat (s.length + 1) := by rw [← e1, Int32.sub_eq_add_neg]
        rw [e1, e2]
        have r1 : K (21 + 4) (xN (Int32.ofNat (s.length + 1))) = y := by rw [nk_N (by omega)]; exact ky
        have r2 : K (21 + 4) (xN (Int32.ofNat s.length)) = x := by rw [nk_N (by omega)]; exact kx
        rw [r1, r2]
        have h191 : ¬ (q.1 = 5 ∧ y = 0) → xOk (f_Laws_value_191 F 21 (fun v2 v3 v4 I => f_Laws_value_12 F 21 m v2 v3 v4 I) (Int32.ofNat (s.length + 2)) (Int32.ofNat a + 1) (Int32.ofNat st) (cwd q) x y K) Q := by
          intro hz
          unfold f_Laws_value_191
          refine xOk.bnde (c_reckon hq hz) ?_
          rw [e2, e3]
          refine xOk.ck (nk_in (by omega) (by omega)) (xOk.st ?_)
          rw [nk_N (show s.length < 2147483648 by omega)]
          exact nx (opv q.1 x y :: s) (xput K 25 s.length (opv q.1 x y)) (h6.put' rfl) (stk_op h7).1 g3 (show s.length + 1 ≤ 32 by omega) (by rw [evP_op hq, if_neg hz])
        refine xOk.pos hbig.1 (xOk.neg hbig.2.1 (xOk.pos (nk_le_t (a := 2) (by omega) (by omega)) (xOk.ck (nk_in (by omega) (by omega)) (xOk.ck (nk_in (by omega) (by omega)) (xOk.pos hbig.2.2.1 ?_)))))
        by_cases hy : y = 0
        · refine xOk.pos hy ?_
          by_cases h5 : q.1 = 5
          · refine xOk.pos (hbig.2.2.2.mpr h5) (xOk.pur (hn ?_ K h6))
            rw [evP_op hq, if_pos ⟨h5, hy⟩]
          · exact xOk.neg (fun e => h5 (hbig.2.2.2.mp e)) (h191 (fun e => h5 e.1))
        · exact xOk.neg hy (h191 (fun e => hy e.2))
/-- a law of the class -/
theorem c_law {F : Nat} {J : XI} {sz z : Nat} (hsz : sz ≤ 420) (hJ : J 21 1 = Int32.ofNat sz) : ∀ cs e a m st K, encC (J 22) cs e a z → okLw cs e → z ≤ sz → st ≤ a → 1000 ≤ m + st → Same (sco 25) J K → xOk (f_Laws_value_12 F 21 m 0 (Int32.ofNat a) (Int32.ofNat st) K) (fun r => r.1 = evL (J 24) cs e ∧ Same (sco 25) J r.2) := by
  intro cs
  induction cs with
  | nil =>
    rintro e a m st K ⟨h1, h2, h3⟩ hok hz hst hm hs
    have hok : rp 15 e 0 1 := hok
    refine c_run (h := 15) hsz hJ (by omega) e a [] m st K h1 hok (by show 0 ≤ 32; omega) (by omega) hst hm hs (fun i hi => absurd hi (Nat.not_lt_zero i)) (fun hn K' hK' => ⟨?_, hK'⟩) (fun s' he K' m' hm' hK' hs' => ?_)
    · show (0 : Int32) = (evE (J 24) e).getD 0
      rw [(evE_none hok).mpr hn]
      rfl
    · have hl := evP_len e [] s' hok he
      match s', hl, he, hs' with
      | [v], _, he, hs' =>
        obtain ⟨m', rfl⟩ : ∃ q, m' = q + 1 := ⟨m' - 1, by omega⟩
        rw [f_Laws_value_12]
        refine xOk.neg (nk_nge (N := 420) (by omega) (by omega)) ?_
        rw [hK' 21 1 rfl, hJ]
        refine xOk.neg (nk_nge (by omega) (by omega)) (xOk.ck (nk_in (by omega) (by omega)) ?_)
        show xOk (if 20000 ≤ K' 22 (xN (Int32.ofNat (a + e.length))) then _ else _) _
        rw [nk_N (by omega), hK' 22 _ rfl, h2]
        refine xOk.pos (Int32.le_refl _) (xOk.pos rfl (xOk.pos (Int32.le_refl _) (xOk.ck (show xin (Int32.ofNat 1 - 1) 32 = true by decide) (xOk.pur ⟨?_, hK'⟩))))
        have e0 : xN (Int32.ofNat [v].length - 1) = 0 := by
          show xN (Int32.ofNat 1 - 1) = 0
          decide
        show K' 25 (xN (Int32.ofNat [v].length - 1)) = (evE (J 24) e).getD 0
        rw [e0, (evE_some hok).mpr he]
        exact hs' 0 (show 0 < 1 by omega)
      | [], hl, _, _ => exact absurd hl (show ¬ 0 = 1 by omega)
  | cons q cs ih =>
    rintro e a m st K ⟨⟨h1, h2⟩, h3, ⟨h4, h5⟩, h6⟩ ⟨⟨k1, k2, k3⟩, k4⟩ hz hst hm hs
    have hz2 := encC_lt cs _ h6
    have zero : ∀ (K' : XI), Same (sco 25) J K' → (0 : Int32) = evL (J 24) (q :: cs) e → (0 : Int32) = evL (J 24) (q :: cs) e ∧ Same (sco 25) J K' := fun K' h e => ⟨e, h⟩
    refine c_run (h := 15) hsz hJ (by omega) q.1 a [] m st K h1 k1 (by show 0 ≤ 32; omega) (by omega) hst hm hs (fun i hi => absurd hi (Nat.not_lt_zero i)) (fun hn K' hK' => zero K' hK' ?_) (fun s' he K' m' hm' hK' hs' => ?_)
    · unfold evL
      rw [(evE_none k1).mpr hn]
    · have hl := evP_len q.1 [] s' k1 he
      match s', hl, he, hs' with
      | [], hl, _, _ => exact absurd hl (show ¬ 0 = 1 by omega)
      | [x], _, he, hs' =>
        have ex := (evE_some k1).mpr he
        have hsh := rp_sh 1 q.2.1 0 k2
        have happ := evP_app (u := J 24) (t := [x]) q.2.1 [] k2
        refine c_run (h := 16) hsz hJ (by omega) q.2.1 (a + q.1.length) [x] m' (st + q.1.length) K' h2 hsh (by show 1 ≤ 32; omega) (by omega) (by omega) (by omega) hK' hs' (fun hn K2 hK2 => zero K2 hK2 ?_) (fun s2 he2 K2 m2 hm2 hK2 hs2 => ?_)
        · have hn : evP (J 24) q.2.1 ([] ++ [x]) = none := hn
          rw [happ] at hn
          have hn' : evP (J 24) q.2.1 [] = none := by
            cases h : evP (J 24) q.2.1 [] with
            | none => rfl
            | some w => rw [h] at hn; cases hn
          unfold evL
          rw [ex, (evE_none k2).mpr hn']
        · have he2 : evP (J 24) q.2.1 ([] ++ [x]) = some s2 := he2
          rw [happ] at he2
          obtain ⟨w, hw, hw2⟩ : ∃ w, evP (J 24) q.2.1 [] = some w ∧ w ++ [x] = s2 := by
            cases h : evP (J 24) q.2.1 [] with
            | none => rw [h] at he2; cases he2
            | some w => rw [h] at he2; exact ⟨w, rfl, Option.some.inj he2⟩
          have hl2 := evP_len q.2.1 [] w k2 hw
          match w, hl2, hw, hw2 with
          | [], hl2, _, _ => exact absurd hl2 (show ¬ 0 = 1 by omega)
          | [y], _, hw, hw2 =>
            have ey := (evE_some k2).mpr hw
            have hw2 : [y, x] = s2 := hw2
            subst hw2
            have ky : K2 25 1 = y := hs2 0 (show 0 < 2 by omega)
            have kx : K2 25 0 = x := hs2 1 (show 1 < 2 by omega)
            obtain ⟨m2, rfl⟩ : ∃ q, m2 = q + 1 := ⟨m2 - 1, by omega⟩
            show xOk (f_Laws_value_12 F 21 (m2 + 1) (Int32.ofNat 2) _ _ K2) _
            rw [f_Laws_value_12]
            refine xOk.neg (nk_nge (N := 420) (by omega) (by omega)) ?_
            rw [hK2 21 1 rfl, hJ]
            refine xOk.neg (nk_nge (by omega) (by omega)) (xOk.ck (nk_in (by omega) (by omega)) ?_)
            show xOk (if 20000 ≤ K2 22 (xN (Int32.ofNat (a + q.1.length + q.2.1.length))) then _ else _) _
            rw [nk_N (by omega), hK2 22 _ rfl, h3]
            have hbig : 30000 + (a + List.length q.1 + List.length q.2.1 + 1 + List.length q.2.2 + 1) < 2147483648 := by omega
            refine xOk.pos (nk_le_t (a := 20000) (by omega) (by omega)) (xOk.neg (show ¬ Int32.ofNat (30000 + (a + List.length q.1 + List.length q.2.1 + 1 + List.length q.2.2 + 1)) = Int32.ofNat 20000 by rw [nk_eq (by omega) (by omega)]; omega) (xOk.pos (by decide) (xOk.ck (by decide) (xOk.ck (by decide) (xOk.neg (nk_lt_f (b := 30000) (by omega) (by omega)) ?_)))))
            have hsub : Int32.ofNat (30000 + (a + List.length q.1 + List.length q.2.1 + 1 + List.length q.2.2 + 1)) - 30000 = Int32.ofNat (a + List.length q.1 + List.length q.2.1 + 1 + List.length q.2.2 + 1) := by
              rw [show (30000 : Int32) = Int32.ofNat 30000 from rfl, nk_sub (by omega), Nat.add_sub_cancel_left]
            rw [hsub, show Int32.ofNat 2 + (-2) = 0 by decide, nk_succ, nk_succ]
            show xOk (f_Laws_value_12 F 21 m2 0 (if K2 25 1 ≤ K2 25 0 then _ else _) _ K2) _
            rw [ky, kx]
            have hL : evL (J 24) (q :: cs) e = if x < y then (evE (J 24) q.2.2).getD 0 else evL (J 24) cs e := by
              simp only [evL, ex, ey]
            by_cases hxy : x < y
            · rw [if_neg (Int32.not_le.mpr hxy)]
              have := ih
              refine c_run (h := 15) hsz hJ (by omega) q.2.2 (a + q.1.length + q.2.1.length + 1) [] m2 (st + q.1.length + q.2.1.length + 1) K2 h4 k3 (by show 0 ≤ 32; omega) (by omega) (by omega) (by omega) hK2 (fun i hi => absurd hi (Nat.not_lt_zero i)) (fun hn K3 hK3 => zero K3 hK3 ?_) (fun s3 he3 K3 m3 hm3 hK3 hs3 => ?_)
              · rw [hL, if_pos hxy, (evE_none k3).mpr hn]
                rfl
              · have hl3 := evP_len q.2.2 [] s3 k3 he3
                match s3, hl3, he3, hs3 with
                | [], hl3, _, _ => exact absurd hl3 (show ¬ 0 = 1 by omega)
                | [v], _, he3, hs3 =>
                  obtain ⟨m3, rfl⟩ : ∃ q, m3 = q + 1 := ⟨m3 - 1, by omega⟩
                  rw [f_Laws_value_12]
                  refine xOk.neg (nk_nge (N := 420) (by omega) (by omega)) ?_
                  rw [hK3 21 1 rfl, hJ]
                  refine xOk.neg (nk_nge (by omega) (by omega)) (xOk.ck (nk_in (by omega) (by omega)) ?_)
                  show xOk (if 20000 ≤ K3 22 (xN (Int32.ofNat (a + q.1.length + q.2.1.length + 1 + q.2.2.length))) then _ else _) _
                  rw [nk_N (by omega), hK3 22 _ rfl, h5]
                  refine xOk.pos (Int32.le_refl _) (xOk.pos rfl (xOk.pos (Int32.le_refl _) (xOk.ck (show xin (Int32.ofNat 1 - 1) 32 = true by decide) (xOk.pur ⟨?_, hK3⟩))))
                  have e0 : xN (Int32.ofNat [v].length - 1) = 0 := by
                    show xN (Int32.ofNat 1 - 1) = 0
                    decide
                  show K3 25 (xN (Int32.ofNat [v].length - 1)) = evL (J 24) (q :: cs) e
                  rw [e0, hL, if_pos hxy, (evE_some k3).mpr he3]
                  exact hs3 0 (show 0 < 1 by omega)
            · rw [if_pos (Int32.not_lt.mp hxy), hL, if_neg hxy]
              exact ih e _ m2 (st + q.1.length + q.2.1.length + 1) K2 h6 k4 hz (by omega) (by omega) hK2
