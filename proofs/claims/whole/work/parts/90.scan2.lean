/-! the text: the class's scan, token by token -/
theorem txC_same {b : Nat → Int32} {n : Nat} {I J : XI} (h : txC b n I) (e1 : J 1 1 = I 1 1) (e2 : J 2 = I 2) : txC b n J := ⟨h.1, e1.trans h.2.1, fun j hj => by rw [e2]; exact h.2.2 j hj⟩
def onlyT (i : Nat) (I J : XI) : Prop := ∀ o j, ¬ ((o = 3 ∨ o = 5) ∧ j = i) → J o j = I o j
theorem onlyT_put {i : Nat} {I J : XI} {o : Nat} {v : Int32} (h : onlyT i I J) (ho : o = 3 ∨ o = 5) : onlyT i I (xput J o i v) := by
  intro o' j' e
  by_cases h1 : o' = o ∧ j' = i
  · exact absurd ⟨h1.1 ▸ ho, h1.2⟩ e
  · rw [xput_ne h1]; exact h o' j' e
theorem onlyT_rfl {i : Nat} {I : XI} : onlyT i I I := fun _ _ _ => rfl
theorem txC_T {b : Nat → Int32} {n i : Nat} {I J : XI} (h : txC b n I) (hs : onlyT i I J) : txC b n J :=
  txC_same h (hs 1 1 (by omega)) (funext fun j => hs 2 j (by omega))
/-- what the scan writes of the token at a -/
def wrT (b : Nat → Int32) (n a i : Nat) (I J : XI) : Prop := J 3 i = Int32.ofNat (kdT b n a) ∧ (kdT b n a = 3 → J 5 i = vlT b a (run (dg b) n a - a)) ∧ (kdT b n a = 2 → J 5 i = Int32.ofNat (run (lt b) n a - a)) ∧ onlyT i I J
theorem nlt_dg {v : Int32} (h : isLt v = true) : isDg v = false := by
  obtain ⟨h1, h2, h3⟩ := lt_ok h
  cases hd : isDg v with
  | false => rfl
  | true =>
    have := dg_ok hd
    omega
theorem c_scanLetters {F : Nat} (hF : 4000000 ≤ F) {b : Nat → Int32} {n i a : Nat} {I : XI} (h : txC b n I) (hi : i < 401) (ha : a < n) (hl : isLt (b a) = true) : xOk (f_Tape_scanLetters F (Int32.ofNat i) (Int32.ofNat a) I) (fun r => r.1 = Int32.ofNat (enT b n a) ∧ wrT b n a i I r.2) := by
  obtain ⟨hn, h1, h2⟩ := id h
  have hend : ∀ m, run (lt b) n a = m → xOk (f_Tape_scanLetters_28 F (Int32.ofNat i) (Int32.ofNat a) (Int32.ofNat m) I) (fun r => r.1 = Int32.ofNat (enT b n a) ∧ wrT b n a i I r.2) := by
    intro m hm
    have g1 : a ≤ m := by rw [← hm]; exact run_ge _ a rfl
    have g2 : m ≤ n := by rw [← hm]; exact run_le _ a rfl (by omega)
    have gall : ∀ t, a ≤ t → t < m → isLt (b t) = true := by
      intro t t1 t2
      rw [← hm] at t2
      exact run_all (p := lt b) _ a rfl t t1 t2
    have een : enT b n a = m := by
      unfold enT
      rw [if_neg (by omega), if_pos hl, hm]
    have ekd : kdT b n a = if 8 < m - a then 1 else wdK (nv b a (m - a)) := by
      unfold kdT
      rw [if_neg (by omega), if_pos hl, hm]
    unfold f_Tape_scanLetters_28
    rw [nk_sub g1]
    refine xOk.ck (nk_in hi (by omega)) (xOk.st ?_)
    rw [nk_N (by omega)]
    have t5 : onlyT i I (xput I 5 i (Int32.ofNat (m - a))) := onlyT_put onlyT_rfl (Or.inr rfl)
    have fin : ∀ k, k = kdT b n a → ¬ k = 3 → xOk (f_Tape_scanLetters_60 F (Int32.ofNat m) (Int32.ofNat i) (Int32.ofNat k) (xput I 5 i (Int32.ofNat (m - a)))) (fun r => r.1 = Int32.ofNat (enT b n a) ∧ wrT b n a i I r.2) := by
      intro k hk hk3
      unfold f_Tape_scanLetters_60
      refine xOk.ck (nk_in hi (by omega)) (xOk.st (xOk.pur ⟨by rw [een], ?_⟩))
      rw [nk_N (by omega)]
      refine ⟨(by
        show xput _ 3 i _ 3 i = _
        rw [xput_eq, hk]), fun h3 => absurd (hk.trans h3) hk3, fun _ => ?_, onlyT_put t5 (Or.inl rfl)⟩
      show xput (xput I 5 i (Int32.ofNat (m - a))) 3 i (Int32.ofNat k) 5 i = _
      rw [xput_neo (by omega), xput_eq, hm]
    by_cases e : m - a ≤ 8
    · refine xOk.pos (nk_le_t (b := 8) e (by omega)) (xOk.bnde (c_kol hF (txC_T h t5) g1 g2 gall) (fin _ ?_ ?_))
      · rw [ekd, if_neg (by omega)]
      · rcases wdK_ok (nv b a (m - a)) with h' | ⟨k, _, h', _⟩ <;> rw [h'] <;> omega
    · refine xOk.neg (nk_nge (k := 8) (by omega) (by omega)) (fin 1 ?_ (by omega))
      rw [ekd, if_pos (by omega)]
  unfold f_Tape_scanLetters
  have loop : ∀ m v, n - v < m → a ≤ v → v ≤ n → run (lt b) n v = run (lt b) n a → xOk (f_Tape_scanLetters_2 F m (Int32.ofNat i) (Int32.ofNat a) (Int32.ofNat v) I) (fun r => r.1 = Int32.ofNat (enT b n a) ∧ wrT b n a i I r.2) := by
    intro m
    induction m with
    | zero => intro v h _ _ _; omega
    | succ m ih =>
      intro v h3 h4 h5 h6
      rw [f_Tape_scanLetters_2, h1]
      by_cases e : n ≤ v
      · refine xOk.pos (nk_le_t e (by omega)) (hend v ?_)
        rw [← h6, run_e e]
      · refine xOk.neg (nk_nge (by omega) (by omega)) (xOk.ck (nk_in (by omega) (by omega)) ?_)
        rw [nk_N (by omega), h2 v (by omega)]
        refine xOk.bnde c_isLetter ?_
        cases hb : isLt (b v) with
        | false =>
          refine xOk.pos rfl (hend v ?_)
          rw [← h6, run_f (p := lt b) (a := v) (by omega) hb]
        | true =>
          refine xOk.neg (by decide) ?_
          rw [nk_succ]
          refine ih (v + 1) (by omega) (by omega) (by omega) ?_
          rw [← h6, run_t (p := lt b) (a := v) (by omega) hb]
  exact loop F a (by omega) (Nat.le_refl _) (by omega) rfl
theorem vlT_step {b : Nat → Int32} {a k : Nat} : vlT b a (k + 1) = ((10 * vlT b a k) + b (a + k)) - 48 := rfl
theorem c_scanDigits {F : Nat} (hF : 4000000 ≤ F) {b : Nat → Int32} {n i a : Nat} {I : XI} (h : txC b n I) (hi : i < 401) (ha : a < n) (hl : isLt (b a) = false) (hd : isDg (b a) = true) : xOk (f_Tape_scanDigits F (Int32.ofNat i) (Int32.ofNat a) I) (fun r => r.1 = Int32.ofNat (enT b n a) ∧ wrT b n a i I r.2) := by
  obtain ⟨hn, h1, h2⟩ := id h
  have hend : ∀ m, run (dg b) n a = m → xOk (f_Tape_scanDigits_48 F (Int32.ofNat i) (Int32.ofNat a) (Int32.ofNat m) (vlT b a (m - a)) I) (fun r => r.1 = Int32.ofNat (enT b n a) ∧ wrT b n a i I r.2) := by
    intro m hm
    have g1 : a ≤ m := by rw [← hm]; exact run_ge _ a rfl
    have g2 : m ≤ n := by rw [← hm]; exact run_le _ a rfl (by omega)
    have een : enT b n a = m := by
      unfold enT
      rw [if_neg (by omega), hl, if_neg (by decide), if_pos hd, hm]
    have ekd : kdT b n a = if 4 < m - a then 1 else 3 := by
      unfold kdT
      rw [if_neg (by omega), hl, if_neg (by decide), if_pos hd, hm]
    unfold f_Tape_scanDigits_48
    rw [nk_sub g1]
    refine xOk.ck (nk_in hi (by omega)) (xOk.st ?_)
    unfold f_Tape_scanDigits_73
    refine xOk.ck (nk_in hi (by omega)) (xOk.st (xOk.pur ⟨by rw [een], ?_⟩))
    rw [nk_N (by omega)]
    refine ⟨?_, fun _ => ?_, fun h2 => ?_, onlyT_put (onlyT_put onlyT_rfl (Or.inr rfl)) (Or.inl rfl)⟩
    · show xput _ 3 i _ 3 i = _
      rw [xput_eq, ekd, show (4 : Int32) = Int32.ofNat 4 from rfl]
      by_cases e : m - a ≤ 4
      · rw [if_pos (nk_le_t e (by omega)), if_neg (show ¬ 4 < m - a by omega)]; rfl
      · rw [if_neg (nk_nge (by omega) (by omega)), if_pos (show 4 < m - a by omega)]; rfl
    · show xput (xput I 5 i (vlT b a (m - a))) 3 i (if Int32.ofNat (m - a) ≤ 4 then 3 else 1) 5 i = _
      rw [xput_neo (by omega), xput_eq, hm]
    · rw [ekd] at h2
      split at h2 <;> cases h2
  unfold f_Tape_scanDigits
  have loop : ∀ m v, n - v < m → a ≤ v → v ≤ n → run (dg b) n v = run (dg b) n a → xOk (f_Tape_scanDigits_5 F m (Int32.ofNat i) (Int32.ofNat a) (Int32.ofNat v) (vlT b a (v - a)) I) (fun r => r.1 = Int32.ofNat (enT b n a) ∧ wrT b n a i I r.2) := by
    intro m
    induction m with
    | zero => intro v h _ _ _; omega
    | succ m ih =>
      intro v h3 h4 h5 h6
      rw [f_Tape_scanDigits_5, h1]
      by_cases e : n ≤ v
      · refine xOk.pos (nk_le_t e (by omega)) (hend v ?_)
        rw [← h6, run_e e]
      · refine xOk.neg (nk_nge (by omega) (by omega)) (xOk.ck (nk_in (by omega) (by omega)) ?_)
        rw [nk_N (by omega), h2 v (by omega)]
        refine xOk.bnde c_isDigit ?_
        cases hb : isDg (b v) with
        | false =>
          refine xOk.pos rfl (hend v ?_)
          rw [← h6, run_f (p := dg b) (a := v) (by omega) hb]
        | true =>
          refine xOk.neg (by decide) (xOk.ck (nk_in (by omega) (by omega)) ?_)
          rw [nk_succ]
          have := ih (v + 1) (by omega) (by omega) (by omega) (by rw [← h6, run_t (p := dg b) (a := v) (by omega) hb])
          rw [show v + 1 - a = (v - a) + 1 by omega, vlT_step, show a + (v - a) = v by omega] at this
          exact this
  have := loop F a (by omega) (Nat.le_refl _) (by omega) rfl
  rw [Nat.sub_self] at this
  exact this
theorem c_scanToken {F : Nat} (hF : 4000000 ≤ F) {b : Nat → Int32} {n i a : Nat} {I : XI} (h : txC b n I) (hi : i < 401) (ha : a ≤ n) : xOk (f_Tape_scanToken F (Int32.ofNat i) (Int32.ofNat a) I) (fun r => r.1 = Int32.ofNat (enT b n a) ∧ wrT b n a i I r.2) := by
  obtain ⟨hn, h1, h2⟩ := id h
  unfold f_Tape_scanToken
  rw [h1]
  by_cases e : a < n
  · refine xOk.pos (nk_lt_t e (by omega)) (xOk.ck (nk_in (by omega) (by omega)) ?_)
    rw [nk_N (by omega), h2 a e]
    refine xOk.bnde c_isLetter ?_
    cases hl : isLt (b a) with
    | true => exact xOk.neg (by decide) ((c_scanLetters hF h hi e hl).bnd (fun r hr => xOk.pur hr))
    | false =>
      refine xOk.pos rfl (xOk.ck (nk_in (by omega) (by omega)) (xOk.bnde c_isDigit ?_))
      cases hd : isDg (b a) with
      | true => exact xOk.neg (by decide) ((c_scanDigits hF h hi e hl hd).bnd (fun r hr => xOk.pur hr))
      | false =>
        refine xOk.pos rfl (xOk.ck (nk_in (by omega) (by omega)) (xOk.bnde (c_isSign hF) ?_))
        have een : enT b n a = a + 1 := by
          unfold enT
          rw [if_neg (by omega), hl, if_neg (by decide), hd, if_neg (by decide)]
        have ekd : kdT b n a = if isSg (b a) = true then xN (b a) else 1 := by
          unfold kdT
          rw [if_neg (by omega), hl, if_neg (by decide), hd, if_neg (by decide)]
        have fin : ∀ v : Int32, v = Int32.ofNat (kdT b n a) → ¬ kdT b n a = 3 → ¬ kdT b n a = 2 → xOk (f_Tape_scanToken_82 F (Int32.ofNat a) (Int32.ofNat i) v I) (fun r => r.1 = Int32.ofNat (enT b n a) ∧ wrT b n a i I r.2) := by
          intro v hv h3 h2'
          unfold f_Tape_scanToken_82
          refine xOk.ck (nk_in hi (by omega)) (xOk.st (xOk.pur ⟨by rw [een, nk_succ], ?_⟩))
          rw [nk_N (by omega)]
          exact ⟨(by
            show xput _ 3 i _ 3 i = _
            rw [xput_eq, hv]), fun h => absurd h h3, fun h => absurd h h2', onlyT_put onlyT_rfl (Or.inl rfl)⟩
        cases hg : isSg (b a) with
        | false =>
          rw [hg, if_neg (by decide)] at ekd
          exact xOk.pos rfl (fin 1 (by rw [ekd]; rfl) (by omega) (by omega))
        | true =>
          rw [hg, if_pos rfl] at ekd
          have g := isSg_ok hg
          exact xOk.neg (by decide) (xOk.ck (nk_in (by omega) (by omega)) (fin _ (by rw [ekd]; exact g.2.2.1) (by omega) (by omega)))
  · refine xOk.neg (nk_lt_f (by omega) (by omega)) (xOk.ck (nk_in hi (by omega)) (xOk.st (xOk.pur ⟨?_, ?_⟩)))
    · unfold enT
      rw [if_pos (by omega)]
    · rw [nk_N (by omega)]
      have ekd : kdT b n a = 0 := by
        unfold kdT
        rw [if_pos (by omega)]
      exact ⟨(by
        show xput _ 3 i _ 3 i = _
        rw [xput_eq, ekd]; rfl), fun h => by omega, fun h => by omega, onlyT_put onlyT_rfl (Or.inl rfl)⟩
def sc345 (o _j : Nat) : Bool := Nat.beq o 3 || Nat.beq o 4 || Nat.beq o 5
theorem c_scan {F : Nat} (hF : 4000000 ≤ F) {b : Nat → Int32} {n : Nat} {I : XI} (h : txC b n I) : xOk (f_Tape_scan F I) (fun J => tkC b n J ∧ Same sc345 I J) := by
  unfold f_Tape_scan
  refine xloop 401 (fun m (s : Nat × XI) i => f_Tape_scan_4 F m (Int32.ofNat s.1) (Int32.ofNat i) s.2) (fun i s => (s.1 ≤ n ∧ (i ≤ 400 → run (bl b) n s.1 = plc b n i)) ∧ Same sc345 I s.2 ∧ (∀ j, j < i → ¬ kd b n j = 0 ∧ ¬ kd b n j = 1) ∧ ∀ j, j < i → (s.2 3 j = Int32.ofNat (kd b n j) ∧ s.2 4 j = Int32.ofNat (plc b n j)) ∧ (kd b n j = 3 → s.2 5 j = vl b n j) ∧ (kd b n j = 2 → s.2 5 j = Int32.ofNat (ln b n j))) ?_ ?_ F (0, I) 0 (by omega) (by omega) ⟨⟨Nat.zero_le _, fun _ => rfl⟩, Same.rfl, fun j hj => absurd hj (by omega), fun j hj => absurd hj (by omega)⟩
  · rintro m ⟨v, J⟩ i hi ⟨⟨q1, q2⟩, q3, q4, q5⟩ ih
    have q1 : v ≤ n := q1
    have q2 : i ≤ 400 → run (bl b) n v = plc b n i := q2
    have q3 : Same sc345 I J := q3
    have q2 := q2 (by omega)
    have hTJ : txC b n J := txC_same h (q3 1 1 rfl) (q3.row 2 (fun _ => rfl))
    have hp := plc_le b n i
    have hn := h.1
    show xOk (f_Tape_scan_4 F (m + 1) (Int32.ofNat v) (Int32.ofNat i) J) _
    rw [f_Tape_scan_4]
    unfold f_Tape_skipBlanks
    refine xOk.neg (show ¬ Int32.ofNat 400 < Int32.ofNat i from nk_lt_f (by omega) (by omega)) (xOk.bnde (c_skip hTJ F v (by omega) q1) (xOk.ck (nk_in hi (by omega)) (xOk.st ?_)))
    rw [q2, nk_N (by omega)]
    have hs4 : Same sc345 I (xput J 4 i (Int32.ofNat (plc b n i))) := q3.put' rfl
    have hT4 : txC b n (xput J 4 i (Int32.ofNat (plc b n i))) := txC_same h (hs4 1 1 rfl) (hs4.row 2 (fun _ => rfl))
    refine (c_scanToken hF hT4 hi hp).bnd (fun r hr => ?_)
    obtain ⟨r1, r2, r3, r4, r5⟩ := hr
    have hsr : Same sc345 I r.2 := fun o j e => by
      rw [r5 o j (fun hh => by
        unfold sc345 at e
        rcases hh.1 with h' | h' <;> rw [h'] at e <;> cases e)]
      exact hs4 o j e
    have d4 : ∀ j, r.2 4 j = if j = i then Int32.ofNat (plc b n i) else J 4 j := fun j => by
      rw [r5 4 j (by omega), xput_at]
    have d3 : ∀ j, ¬ j = i → r.2 3 j = J 3 j := fun j hj => by
      rw [r5 3 j (fun hh => hj hh.2), xput_neo (by omega)]
    have d5 : ∀ j, ¬ j = i → r.2 5 j = J 5 j := fun j hj => by
      rw [r5 5 j (fun hh => hj hh.2), xput_neo (by omega)]
    have all : ∀ j, j < i + 1 → (r.2 3 j = Int32.ofNat (kd b n j) ∧ r.2 4 j = Int32.ofNat (plc b n j)) ∧ (kd b n j = 3 → r.2 5 j = vl b n j) ∧ (kd b n j = 2 → r.2 5 j = Int32.ofNat (ln b n j)) := by
      intro j hj
      by_cases e : j = i
      · rw [e]
        exact ⟨⟨r2, by rw [d4, if_pos rfl]⟩, r3, r4⟩
      · rw [d3 j e, d4 j, if_neg e, d5 j e]
        exact q5 j (by omega)
    have stop : (kd b n i = 0 ∨ kd b n i = 1) → tkC b n r.2 := by
      intro hst j hj
      refine all j ?_
      by_cases e : j ≤ i
      · omega
      · have := hj.2 i (by omega)
        omega
    have hk : r.2 3 i = Int32.ofNat (kd b n i) := r2
    have hk121 : kd b n i < 121 := (kdT_ok b n (plc b n i)).2
    refine xOk.ck (nk_in hi (by omega)) ?_
    rw [hk]
    by_cases e0 : kd b n i = 0
    · exact xOk.pos (by rw [e0]; rfl) (xOk.pur ⟨stop (Or.inl e0), hsr⟩)
    · refine xOk.neg (by rw [show (0 : Int32) = Int32.ofNat 0 from rfl, nk_eq (by omega) (by omega)]; exact e0) (xOk.ck (nk_in hi (by omega)) ?_)
      by_cases e1 : kd b n i = 1
      · exact xOk.pos (by rw [e1]; rfl) (xOk.pur ⟨stop (Or.inr e1), hsr⟩)
      · refine xOk.neg (by rw [show (1 : Int32) = Int32.ofNat 1 from rfl, nk_eq (by omega) (by omega)]; exact e1) ?_
        rw [r1, nk_succ]
        refine ih (enT b n (plc b n i), r.2) ⟨⟨?_, fun _ => rfl⟩, hsr, fun j hj => ?_, all⟩
        · show enT b n (plc b n i) ≤ n
          by_cases e : plc b n i < n
          · exact (enT_gt e).2
          · unfold enT
            rw [if_pos (by omega)]
            exact hp
        · by_cases e : j = i
          · rw [e]; exact ⟨e0, e1⟩
          · exact q4 j (by omega)
  · rintro m ⟨v, J⟩ ⟨⟨q1, q2⟩, q3, q4, q5⟩
    show xOk (f_Tape_scan_4 F (m + 1) (Int32.ofNat v) (Int32.ofNat 401) J) _
    rw [f_Tape_scan_4]
    refine xOk.pos (by decide) (xOk.pur ⟨fun j hj => q5 j ?_, q3⟩)
    have := hj.1
    omega
