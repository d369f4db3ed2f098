/-! both readers: a row of the table -/
/-- the letter x of the name i -/
def ch (b : Nat → Int32) (n i x : Nat) : Nat := xN (b (plc b n i + x))
def gl (c : Nat) : Bool := decide (c = 111) || decide (c < 102)
def rowG (b : Nat → Int32) (n i w : Nat) : Bool := (decide (ln b n i = w) && decide (ln b n i ≤ 6)) && allB (fun x => gl (ch b n i x)) (ln b n i)
def lvc (c : Nat) : Int32 := if c = 111 then 9 else Int32.ofNat (c - 97)
theorem ch_ok {b : Nat → Int32} {n i x : Nat} (h : kd b n i = 2) (hx : x < ln b n i) : b (plc b n i + x) = Int32.ofNat (ch b n i x) ∧ 97 ≤ ch b n i x ∧ ch b n i x ≤ 122 := lt_ok ((nm_ok h).2 x hx)
def scW8 (lo o j : Nat) : Bool := Nat.beq o 8 && rg lo 6 j
theorem c_row54 {F : Nat} (hF : 4000000 ≤ F) {b : Nat → Int32} {n i h : Nat} {f0 : Bool} {I : XI} (hT : txC b n I) (hk : tkC b n I) (hr : reach b n i) (h2 : kd b n i = 2) (hh : h < 5) (h71 : I 7 1 = Int32.ofNat h) (hf0 : f0 = true → ln b n i ≤ 6) :
    ∃ J, (Same (scW8 (6 * h)) I J ∧ ((f0 && allB (fun x => gl (ch b n i x)) (ln b n i)) = true → ∀ x, x < ln b n i → J 8 (6 * h + x) = lvc (ch b n i x))) ∧ f_Reader_addRow_54 F F (Int32.ofNat i) (Int32.ofNat (ln b n i)) (b2 f0) 0 I = f_Reader_addRow_147 F (Int32.ofNat i) (b2 (f0 && allB (fun x => gl (ch b n i x)) (ln b n i))) J := by
  have hl := (nm_ok h2).1
  have hi4 := hr.1
  have loop : ∀ j x m (s : Bool) J, x + j = ln b n i → j < m → Same (scW8 (6 * h)) I J → s = (f0 && allB (fun x => gl (ch b n i x)) x) → (s = true → ∀ y, y < x → J 8 (6 * h + y) = lvc (ch b n i y)) → (f0 = true ∨ s = false) → ∃ J', (Same (scW8 (6 * h)) I J' ∧ ((f0 && allB (fun x => gl (ch b n i x)) (ln b n i)) = true → ∀ x, x < ln b n i → J' 8 (6 * h + x) = lvc (ch b n i x))) ∧ f_Reader_addRow_54 F m (Int32.ofNat i) (Int32.ofNat (ln b n i)) (b2 s) (Int32.ofNat x) J = f_Reader_addRow_147 F (Int32.ofNat i) (b2 (f0 && allB (fun x => gl (ch b n i x)) (ln b n i))) J' := by
    intro j
    induction j with
    | zero =>
      intro x m s J hx hm hs hsv hw hfs
      obtain ⟨m, rfl⟩ : ∃ q, m = q + 1 := ⟨m - 1, by omega⟩
      have ex : x = ln b n i := by omega
      subst ex
      refine ⟨J, ⟨hs, fun e => hw (hsv.trans e)⟩, ?_⟩
      rw [f_Reader_addRow_54, ← hsv]
      cases s with
      | false => rw [if_pos (show b2 false = 0 from rfl)]
      | true => rw [if_neg (by decide), if_pos (Int32.le_refl _)]
    | succ j ih =>
      intro x m s J hx hm hs hsv hw hfs
      obtain ⟨m, rfl⟩ : ∃ q, m = q + 1 := ⟨m - 1, by omega⟩
      rw [f_Reader_addRow_54]
      cases s with
      | false =>
        have hall : (f0 && allB (fun x => gl (ch b n i x)) (ln b n i)) = false := by
          cases hf : f0 with
          | false => rfl
          | true =>
            rw [hf, Bool.true_and] at hsv
            rw [Bool.true_and]
            exact allB_false (by omega) hsv.symm
        refine ⟨J, ⟨hs, fun e => by rw [hall] at e; cases e⟩, ?_⟩
        rw [if_pos (show b2 false = 0 from rfl), hall]
      | true =>
        have hft : f0 = true := hfs.resolve_right (by decide)
        have hl6 := hf0 hft
        rw [hft, Bool.true_and] at hsv
        have hJT : txC b n J := txC_same hT (hs 1 1 rfl) (hs.row 2 (fun _ => rfl))
        have hJk : tkC b n J := tkC_same hk (hs.row 3 (fun _ => rfl)) (hs.row 4 (fun _ => rfl)) (hs.row 5 (fun _ => rfl))
        have hJ7 : J 7 1 = Int32.ofNat h := (hs 7 1 rfl).trans h71
        have hxl : x < ln b n i := by omega
        obtain ⟨c1, c2, c3⟩ := ch_ok h2 hxl
        rw [if_neg (show ¬ b2 true = 0 by decide), if_neg (nk_nge hxl (by omega)), c_letter hJT hJk hr h2 hxl, c1]
        show ∃ J', _ ∧ (if Int32.ofNat (ch b n i x) = 111 then _ else _) = _
        have e111 : (Int32.ofNat (ch b n i x) = 111) = (ch b n i x = 111) := by rw [show (111 : Int32) = Int32.ofNat 111 from rfl, nk_eq (by omega) (by omega)]
        have hput : Same (scW8 (6 * h)) J (xput J 8 (h * 6 + x) (lvc (ch b n i x))) := by
          refine Same.put ?_
          rw [show h * 6 + x = 6 * h + x by omega]
          show rg (6 * h) 6 (6 * h + x) = true
          exact rg_in (by omega)
        have step : ∀ s' : Bool, s' = gl (ch b n i x) → ∃ J', (Same (scW8 (6 * h)) I J' ∧ ((f0 && allB (fun x => gl (ch b n i x)) (ln b n i)) = true → ∀ x, x < ln b n i → J' 8 (6 * h + x) = lvc (ch b n i x))) ∧ f_Reader_addRow_102 F (fun v1 v2 v3 v4 I => f_Reader_addRow_54 F m v1 v2 v3 v4 I) (Int32.ofNat i) (Int32.ofNat (ln b n i)) (Int32.ofNat x) (Int32.ofNat (ch b n i x)) (b2 s') J = f_Reader_addRow_147 F (Int32.ofNat i) (b2 (f0 && allB (fun x => gl (ch b n i x)) (ln b n i))) J' := by
          intro s' hs'
          unfold f_Reader_addRow_102 f_Reader_addRow_140
          rw [hJ7, show (6 : Int32) = Int32.ofNat 6 from rfl, nk_mul, nk_add, xck_true (nk_in (by omega) (by omega)), nk_N (by omega), nk_succ]
          have hv : (if Int32.ofNat (ch b n i x) = 111 then (9 : Int32) else Int32.ofNat (ch b n i x) - 97) = lvc (ch b n i x) := by
            unfold lvc
            by_cases e : ch b n i x = 111
            · rw [if_pos (by rw [e111]; exact e), if_pos e]
            · rw [if_neg (by rw [e111]; exact e), if_neg e, show (97 : Int32) = Int32.ofNat 97 from rfl, nk_sub c2]
          rw [hv]
          refine ih (x + 1) m s' (xput J 8 (h * 6 + x) (lvc (ch b n i x))) (by omega) (by omega) (hs.trans hput) ?_ (fun _ y hy => ?_) (Or.inl hft)
          · rw [hft, Bool.true_and]
            show s' = (allB (fun x => gl (ch b n i x)) x && gl (ch b n i x))
            rw [← hsv, Bool.true_and]
            exact hs'
          · rw [xput_at]
            by_cases e : y = x
            · rw [if_pos (by omega), e]
            · rw [if_neg (by omega)]; exact hw rfl y (by omega)
        by_cases e1 : ch b n i x = 111
        · rw [if_pos (by rw [e111]; exact e1)]
          exact step true (by unfold gl; rw [decide_eq_true e1]; rfl)
        · rw [if_neg (by rw [e111]; exact e1), if_neg (show ¬ Int32.ofNat (ch b n i x) < 97 from nk_lt_f (b := 97) c2 (by omega)), b2_ifn, show (102 : Int32) = Int32.ofNat 102 from rfl]
          refine step _ ?_
          unfold gl
          rw [decide_eq_false e1, Bool.false_or]
          by_cases e2 : ch b n i x < 102
          · rw [decide_eq_true e2, decide_eq_false (nk_nge e2 (by omega))]; rfl
          · rw [decide_eq_false e2, decide_eq_true (nk_le_t (by omega) (by omega))]; rfl
  exact loop (ln b n i) 0 F f0 I (by omega) (by omega) Same.rfl (by show f0 = (f0 && true); rw [Bool.and_true]) (fun _ y hy => absurd hy (Nat.not_lt_zero y)) (by cases f0; exact Or.inr rfl; exact Or.inl rfl)
def scW (lo o j : Nat) : Bool := scW8 lo o j || (Nat.beq o 7 && Nat.beq j 0)
theorem c_addRow {F : Nat} (hF : 4000000 ≤ F) {b : Nat → Int32} {n i w h : Nat} {I : XI} (hT : txC b n I) (hk : tkC b n I) (hr : reach b n i) (h2 : kd b n i = 2) (hh : h < 5) (h70 : I 7 0 = Int32.ofNat w) (hw : w ≤ 8) (h71 : I 7 1 = Int32.ofNat h) :
    ∃ J, (Same (scW (6 * h)) I J ∧ J 7 0 = Int32.ofNat (if h = 0 then ln b n i else w) ∧ (rowG b n i (if h = 0 then ln b n i else w) = true → ∀ x, x < ln b n i → J 8 (6 * h + x) = lvc (ch b n i x))) ∧ f_Reader_addRow F (Int32.ofNat i) I = if rowG b n i (if h = 0 then ln b n i else w) = true then f_Reader_addRow_166 F J else (f_Reader_mark 6 (Int32.ofNat (plc b n i)) J).bind fun q9 => f_Reader_addRow_166 F q9 := by
  have hl := (nm_ok h2).1
  have hi4 := hr.1
  have key : ∀ I' w', Same (scW (6 * h)) I I' → I' 7 0 = Int32.ofNat w' → w' ≤ 8 → ∃ J, (Same (scW (6 * h)) I J ∧ J 7 0 = Int32.ofNat w' ∧ (rowG b n i w' = true → ∀ x, x < ln b n i → J 8 (6 * h + x) = lvc (ch b n i x))) ∧ f_Reader_addRow_28 F (Int32.ofNat i) (Int32.ofNat (ln b n i)) I' = if rowG b n i w' = true then f_Reader_addRow_166 F J else (f_Reader_mark 6 (Int32.ofNat (plc b n i)) J).bind fun q9 => f_Reader_addRow_166 F q9 := by
    intro I' w' hs h0 hw'
    have hT' : txC b n I' := txC_same hT (hs 1 1 rfl) (hs.row 2 (fun _ => rfl))
    have hk' : tkC b n I' := tkC_same hk (hs.row 3 (fun _ => rfl)) (hs.row 4 (fun _ => rfl)) (hs.row 5 (fun _ => rfl))
    obtain ⟨J, ⟨j1, j2⟩, j3⟩ := c_row54 hF (f0 := decide (ln b n i = w') && decide (ln b n i ≤ 6)) hT' hk' hr h2 hh ((hs 7 1 rfl).trans h71) (fun e => by
      rw [Bool.and_eq_true] at e
      exact of_decide_eq_true e.2)
    have hsJ : Same (scW (6 * h)) I' J := j1.mono (fun o j e => (Bool.or_eq_false_iff.mp e).1)
    refine ⟨J, ⟨hs.trans hsJ, (j1 7 0 rfl).trans h0, j2⟩, ?_⟩
    have e28 : f_Reader_addRow_28 F (Int32.ofNat i) (Int32.ofNat (ln b n i)) I' = f_Reader_addRow_54 F F (Int32.ofNat i) (Int32.ofNat (ln b n i)) (b2 (decide (ln b n i = w') && decide (ln b n i ≤ 6))) 0 I' := by
      unfold f_Reader_addRow_28
      rw [h0]
      by_cases e : ln b n i = w'
      · rw [if_pos (by rw [e]), decide_eq_true e, Bool.true_and]
        by_cases e6 : ln b n i ≤ 6
        · rw [if_neg (show ¬ (6 : Int32) < Int32.ofNat (ln b n i) from nk_lt_f (a := 6) (by omega) (by omega)), decide_eq_true e6]; rfl
        · rw [if_pos (show (6 : Int32) < Int32.ofNat (ln b n i) from nk_lt_t (a := 6) (by omega) (by omega)), decide_eq_false e6]; rfl
      · rw [if_neg (by rw [nk_eq (by omega) (by omega)]; exact e), decide_eq_false e]; rfl
    rw [e28, j3]
    show f_Reader_addRow_147 F (Int32.ofNat i) (b2 (rowG b n i w')) J = _
    unfold f_Reader_addRow_147
    cases hg : rowG b n i w' with
    | true => rw [if_neg (by decide), if_pos rfl]
    | false =>
      have hkJ : tkC b n J := tkC_same hk' (j1.row 3 (fun _ => rfl)) (j1.row 4 (fun _ => rfl)) (j1.row 5 (fun _ => rfl))
      rw [if_pos (show b2 false = 0 from rfl), if_neg (by decide), xck_true (nk_in (by omega) (by omega)), nk_N (by omega), ((hkJ i hr).1).2]
  unfold f_Reader_addRow
  rw [xck_true (nk_in (by omega) (by omega)), nk_N (show i < 2147483648 by omega), (hk i hr).2.2 h2, h71]
  by_cases e0 : h = 0
  · rw [if_pos e0, e0]
    rw [e0] at key
    exact key (xput I 7 0 (Int32.ofNat (ln b n i))) (ln b n i) (Same.put rfl) xput_eq (by omega)
  · rw [if_neg e0, if_neg (by rw [show (0 : Int32) = Int32.ofNat 0 from rfl, nk_eq (by omega) (by omega)]; exact e0)]
    exact key I w Same.rfl h70 hw
