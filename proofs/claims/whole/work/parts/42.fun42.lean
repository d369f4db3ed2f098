/-! the methods as functions, and that a run answers so (by gen6.py) -/
noncomputable def f_Tape_kindOfLetters_11 (F : Nat) (I : XI) : Nat → Int32 → Int32 → Int32 → Int32 → Int32 → Int32 → Option (Int32)
  | 0, _, _, _, _, _, _ => none
  | n + 1, v1, v2, v3, v4, v5, v6 =>
    if (Int32.ofNat 110) ≤ v6 then (some 2) else (xck (xin v6 110) (if (xchr 0 v6) = 32 then (if v5 = 0 then (f_Tape_kindOfLetters_11 F I n v1 v2 (v3 + 1) v1 1 (v6 + 1)) else (if v4 = v2 then (some (100 + v3)) else (f_Tape_kindOfLetters_11 F I n v1 v2 (v3 + 1) v1 1 (v6 + 1)))) else (if v5 = 0 then (f_Tape_kindOfLetters_11 F I n v1 v2 v3 (v4 + 1) 0 (v6 + 1)) else (if v2 ≤ v4 then (f_Tape_kindOfLetters_11 F I n v1 v2 v3 (v4 + 1) 0 (v6 + 1)) else (xck (xin v4 2000) (f_Tape_kindOfLetters_11 F I n v1 v2 v3 (v4 + 1) (if (I 2 (xN v4)) = (xchr 0 v6) then 1 else 0) (v6 + 1)))))))
theorem g_Tape_kindOfLetters_11 {X : XX} {d : Nat} {L : XL} {F : Nat} {I : XI}  {r : Int32}  : ∀ (n : Nat) (v1 : Int32) (v2 : Int32) (v3 : Int32) (v4 : Int32) (v5 : Int32) (v6 : Int32), f_Tape_kindOfLetters_11 F I n v1 v2 v3 v4 v5 v6 = some r → ∀ (z7 : Value), xEv X (d + 7) 44 11 [.ref 1, .int v1, .int v2, .int v3, .int v4, .int v5, .int v6, z7] [] I L (some (.int r)) I L := by
  intro n
  induction n with
  | zero => intro v1 v2 v3 v4 v5 v6 h; rw [f_Tape_kindOfLetters_11] at h; cases h
  | succ n ih =>
    intro v1 v2 v3 v4 v5 v6 h z7
    rw [f_Tape_kindOfLetters_11] at h
    refine xeb 2 (pc' := 15) (ls' := [.ref 1, .int v1, .int v2, .int v3, .int v4, .int v5, .int v6, z7]) (st' := [.ref (xSTR + 0), .int v6]) rfl ?_
    refine xestrlen (i := 0) rfl (by decide) rfl (Nat.le_of_ble_eq_true rfl) ?_
    by_cases c1 : (Int32.ofNat 110) ≤ v6
    · rw [if_pos c1] at h
      refine xei_ge_t rfl c1 ?_
      refine xeb 1 (pc' := 105) (ls' := [.ref 1, .int v1, .int v2, .int v3, .int v4, .int v5, .int v6, z7]) (st' := [.int 2]) rfl ?_
      obtain rfl := Option.some.inj h
      exact xeiret rfl rfl
    · rw [if_neg c1] at h
      refine xei_ge_f rfl c1 ?_
      refine xeb 2 (pc' := 25) (ls' := [.ref 1, .int v1, .int v2, .int v3, .int v4, .int v5, .int v6, z7]) (st' := [.int v6, .ref (xSTR + 0)]) rfl ?_
      obtain ⟨b2, h⟩ := xck_some h
      refine xestrch (i := 0) rfl (by decide) b2 rfl (Nat.le_of_ble_eq_true rfl) ?_
      refine xeb 3 (pc' := 34) (ls' := [.ref 1, .int v1, .int v2, .int v3, .int v4, .int v5, .int v6, .int (xchr 0 v6)]) (st' := [.int 32, .int (xchr 0 v6)]) rfl ?_
      by_cases c3 : (xchr 0 v6) = 32
      · rw [if_pos c3] at h
        refine xei_eq_t rfl c3 ?_
        refine xeb 1 (pc' := 75) (ls' := [.ref 1, .int v1, .int v2, .int v3, .int v4, .int v5, .int v6, .int (xchr 0 v6)]) (st' := [.int v5]) rfl ?_
        by_cases c4 : v5 = 0
        · rw [if_pos c4] at h
          refine xef_eq_t rfl c4 ?_
          refine xeb 7 (pc' := 11) (ls' := [.ref 1, .int v1, .int v2, .int (v3 + 1), .int v1, .int 1, .int (v6 + 1), .int (xchr 0 v6)]) (st' := []) rfl ?_
          exact ih v1 v2 (v3 + 1) v1 1 (v6 + 1) h _
        · rw [if_neg c4] at h
          refine xef_eq_f rfl c4 ?_
          refine xeb 2 (pc' := 81) (ls' := [.ref 1, .int v1, .int v2, .int v3, .int v4, .int v5, .int v6, .int (xchr 0 v6)]) (st' := [.int v2, .int v4]) rfl ?_
          by_cases c5 : v4 = v2
          · rw [if_pos c5] at h
            refine xei_ne_t rfl c5 ?_
            refine xeb 3 (pc' := 88) (ls' := [.ref 1, .int v1, .int v2, .int v3, .int v4, .int v5, .int v6, .int (xchr 0 v6)]) (st' := [.int (100 + v3)]) rfl ?_
            obtain rfl := Option.some.inj h
            exact xeiret rfl rfl
          · rw [if_neg c5] at h
            refine xei_ne_f rfl c5 ?_
            refine xeb 7 (pc' := 11) (ls' := [.ref 1, .int v1, .int v2, .int (v3 + 1), .int v1, .int 1, .int (v6 + 1), .int (xchr 0 v6)]) (st' := []) rfl ?_
            exact ih v1 v2 (v3 + 1) v1 1 (v6 + 1) h _
      · rw [if_neg c3] at h
        refine xei_eq_f rfl c3 ?_
        refine xeb 1 (pc' := 39) (ls' := [.ref 1, .int v1, .int v2, .int v3, .int v4, .int v5, .int v6, .int (xchr 0 v6)]) (st' := [.int v5]) rfl ?_
        by_cases c6 : v5 = 0
        · rw [if_pos c6] at h
          refine xef_eq_t rfl c6 ?_
          refine xeb 6 (pc' := 11) (ls' := [.ref 1, .int v1, .int v2, .int v3, .int (v4 + 1), .int 0, .int (v6 + 1), .int (xchr 0 v6)]) (st' := []) rfl ?_
          exact ih v1 v2 v3 (v4 + 1) 0 (v6 + 1) h _
        · rw [if_neg c6] at h
          refine xef_eq_f rfl c6 ?_
          refine xeb 2 (pc' := 45) (ls' := [.ref 1, .int v1, .int v2, .int v3, .int v4, .int v5, .int v6, .int (xchr 0 v6)]) (st' := [.int v2, .int v4]) rfl ?_
          by_cases c7 : v2 ≤ v4
          · rw [if_pos c7] at h
            refine xei_ge_t rfl c7 ?_
            refine xeb 6 (pc' := 11) (ls' := [.ref 1, .int v1, .int v2, .int v3, .int (v4 + 1), .int 0, .int (v6 + 1), .int (xchr 0 v6)]) (st' := []) rfl ?_
            exact ih v1 v2 v3 (v4 + 1) 0 (v6 + 1) h _
          · rw [if_neg c7] at h
            refine xei_ge_f rfl c7 ?_
            refine xeb 1 (pc' := 49) (ls' := [.ref 1, .int v1, .int v2, .int v3, .int v4, .int v5, .int v6, .int (xchr 0 v6)]) (st' := [.ref 1]) rfl ?_
            refine xegf2 rfl xsh1 (by decide) rfl ?_
            refine xeb 1 (pc' := 54) (ls' := [.ref 1, .int v1, .int v2, .int v3, .int v4, .int v5, .int v6, .int (xchr 0 v6)]) (st' := [.int v4, .ref 2]) rfl ?_
            obtain ⟨b8, h⟩ := xck_some h
            refine xeba rfl xsh2 b8 ?_
            refine xeb 1 (pc' := 57) (ls' := [.ref 1, .int v1, .int v2, .int v3, .int v4, .int v5, .int v6, .int (xchr 0 v6)]) (st' := [.int (xchr 0 v6), .int (I 2 (xN v4))]) rfl ?_
            have hj : xEv X (d + 7) 44 65 [.ref 1, .int v1, .int v2, .int v3, .int v4, .int v5, .int v6, .int (xchr 0 v6)] [.int (if (I 2 (xN v4)) = (xchr 0 v6) then 1 else 0)] I L (some (.int r)) I L := by
              refine xeb 5 (pc' := 11) (ls' := [.ref 1, .int v1, .int v2, .int v3, .int (v4 + 1), .int (if (I 2 (xN v4)) = (xchr 0 v6) then 1 else 0), .int (v6 + 1), .int (xchr 0 v6)]) (st' := []) rfl ?_
              exact ih v1 v2 v3 (v4 + 1) (if (I 2 (xN v4)) = (xchr 0 v6) then 1 else 0) (v6 + 1) h _
            by_cases c9 : (I 2 (xN v4)) = (xchr 0 v6)
            · simp only [if_pos c9] at hj
              refine xei_ne_t rfl c9 ?_
              exact xeb 2 rfl hj
            · simp only [if_neg c9] at hj
              refine xei_ne_f rfl c9 ?_
              exact xeb 1 rfl hj
noncomputable def f_Tape_kindOfLetters (F : Nat) (I : XI) (a1 : Int32) (a2 : Int32) : Option (Int32) :=
  f_Tape_kindOfLetters_11 F I F a1 a2 0 a1 1 0
theorem g_Tape_kindOfLetters {X : XX} {d : Nat} {L : XL} {F : Nat} {I : XI} {a1 : Int32} {a2 : Int32}  (r : Int32) (h : f_Tape_kindOfLetters F I a1 a2 = some r) : xEv X (d + 7) 44 0 [.ref 1, .int a1, .int a2, .null, .null, .null, .null, .null] [] I L (some (.int r)) I L := by
  rw [f_Tape_kindOfLetters] at h
  refine xeb 8 (pc' := 11) (ls' := [.ref 1, .int a1, .int a2, .int 0, .int a1, .int 1, .int 0, .null]) (st' := []) rfl ?_
  exact g_Tape_kindOfLetters_11 F a1 a2 0 a1 1 0 h _
noncomputable def f_Tape_scanLetters_60 (F : Nat) (v3 : Int32) (s1 : Int32) (s2 : Int32) (I : XI) : Option (Int32 × XI) :=
  xck (xin s1 401) (xst (xput I 3 (xN s1) s2) fun I7 => some (v3, I7))
theorem g_Tape_scanLetters_60 {X : XX} {d : Nat} {L : XL} {F : Nat}  {r : Int32 × XI}  {v3 : Int32} {s1 : Int32} {s2 : Int32} {I : XI} (h : f_Tape_scanLetters_60 F v3 s1 s2 I = some r) (z0 : Value) (z1 : Value) (z2 : Value) : xEv X (d + 8) 45 60 [z0, z1, z2, .int v3] [.int s2, .int s1, .ref 3] I L (some (.int r.1)) r.2 L := by
  rw [f_Tape_scanLetters_60] at h
  obtain ⟨b6, h⟩ := xck_some h
  refine xeis rfl xsh3 b6 ?_
  obtain ⟨I7, hI7, h⟩ := xst_some h
  rw [← hI7]
  refine xeb 1 (pc' := 62) (ls' := [z0, z1, z2, .int v3]) (st' := [.int v3]) rfl ?_
  obtain rfl := Option.some.inj h
  exact xeiret rfl rfl
noncomputable def f_Tape_scanLetters_28 (F : Nat) (v1 : Int32) (v2 : Int32) (v3 : Int32) (I : XI) : Option (Int32 × XI) :=
  xck (xin v1 401) (xst (xput I 5 (xN v1) (v3 - v2)) fun I3 => if (v3 - v2) ≤ 8 then ((f_Tape_kindOfLetters F I3 v2 v3).bind fun q5 => f_Tape_scanLetters_60 F v3 v1 q5 I3) else (f_Tape_scanLetters_60 F v3 v1 1 I3))
theorem g_Tape_scanLetters_28 {X : XX} {d : Nat} {L : XL} {F : Nat}  {r : Int32 × XI}  {v1 : Int32} {v2 : Int32} {v3 : Int32} {I : XI} (h : f_Tape_scanLetters_28 F v1 v2 v3 I = some r)  : xEv X (d + 8) 45 28 [.ref 1, .int v1, .int v2, .int v3] [] I L (some (.int r.1)) r.2 L := by
  rw [f_Tape_scanLetters_28] at h
  refine xeb 1 (pc' := 29) (ls' := [.ref 1, .int v1, .int v2, .int v3]) (st' := [.ref 1]) rfl ?_
  refine xegf2 rfl xsh1 (by decide) rfl ?_
  refine xeb 4 (pc' := 36) (ls' := [.ref 1, .int v1, .int v2, .int v3]) (st' := [.int (v3 - v2), .int v1, .ref 5]) rfl ?_
  obtain ⟨b2, h⟩ := xck_some h
  refine xeis rfl xsh5 b2 ?_
  obtain ⟨I3, hI3, h⟩ := xst_some h
  rw [← hI3]
  refine xeb 1 (pc' := 38) (ls' := [.ref 1, .int v1, .int v2, .int v3]) (st' := [.ref 1]) rfl ?_
  refine xegf2 rfl xsh1 (by decide) rfl ?_
  refine xeb 5 (pc' := 47) (ls' := [.ref 1, .int v1, .int v2, .int v3]) (st' := [.int 8, .int (v3 - v2), .int v1, .ref 3]) rfl ?_
  by_cases c4 : (v3 - v2) ≤ 8
  · rw [if_pos c4] at h
    refine xei_le_t rfl c4 ?_
    refine xeb 3 (pc' := 57) (ls' := [.ref 1, .int v1, .int v2, .int v3]) (st' := [.int v3, .int v2, .ref 1, .int v1, .ref 3]) rfl ?_
    obtain ⟨q5, eq5, h⟩ := xbind_some h
    refine xcallV rfl xsh1 rfl rfl rfl (Nat.le_of_ble_eq_true rfl) (Nat.le_of_ble_eq_true rfl) (Nat.le_of_ble_eq_true rfl) rfl (g_Tape_kindOfLetters (d := d + 0) _ eq5) ?_
    exact g_Tape_scanLetters_60 h _ _ _
  · rw [if_neg c4] at h
    refine xei_le_f rfl c4 ?_
    refine xeb 2 (pc' := 60) (ls' := [.ref 1, .int v1, .int v2, .int v3]) (st' := [.int 1, .int v1, .ref 3]) rfl ?_
    exact g_Tape_scanLetters_60 h _ _ _
noncomputable def f_Tape_scanLetters_2 (F : Nat) : Nat → Int32 → Int32 → Int32 → XI → Option (Int32 × XI)
  | 0, _, _, _, _ => none
  | n + 1, v1, v2, v3, I =>
    if (I 1 1) ≤ v3 then (f_Tape_scanLetters_28 F v1 v2 v3 I) else (xck (xin v3 2000) ((f_Tape_isLetter (I 2 (xN v3))).bind fun q9 => if q9 = 0 then (f_Tape_scanLetters_28 F v1 v2 v3 I) else (f_Tape_scanLetters_2 F n v1 v2 (v3 + 1) I)))
theorem g_Tape_scanLetters_2 {X : XX} {d : Nat} {L : XL} {F : Nat}  {r : Int32 × XI}  : ∀ (n : Nat) (v1 : Int32) (v2 : Int32) (v3 : Int32) (I : XI), f_Tape_scanLetters_2 F n v1 v2 v3 I = some r → xEv X (d + 8) 45 2 [.ref 1, .int v1, .int v2, .int v3] [] I L (some (.int r.1)) r.2 L := by
  intro n
  induction n with
  | zero => intro v1 v2 v3 I h; rw [f_Tape_scanLetters_2] at h; cases h
  | succ n ih =>
    intro v1 v2 v3 I h 
    rw [f_Tape_scanLetters_2] at h
    refine xeb 2 (pc' := 4) (ls' := [.ref 1, .int v1, .int v2, .int v3]) (st' := [.ref 1, .int v3]) rfl ?_
    refine xegf0 rfl xsh1 (by decide) ?_
    by_cases c1 : (I 1 1) ≤ v3
    · rw [if_pos c1] at h
      refine xei_ge_t rfl c1 ?_
      exact g_Tape_scanLetters_28 h
    · rw [if_neg c1] at h
      refine xei_ge_f rfl c1 ?_
      refine xeb 1 (pc' := 11) (ls' := [.ref 1, .int v1, .int v2, .int v3]) (st' := [.ref 1]) rfl ?_
      refine xegf2 rfl xsh1 (by decide) rfl ?_
      refine xeb 1 (pc' := 15) (ls' := [.ref 1, .int v1, .int v2, .int v3]) (st' := [.int v3, .ref 2]) rfl ?_
      obtain ⟨b8, h⟩ := xck_some h
      refine xeba rfl xsh2 b8 ?_
      obtain ⟨q9, eq9, h⟩ := xbind_some h
      refine xcallS20 rfl rfl rfl (Nat.le_of_ble_eq_true rfl) (Nat.le_of_ble_eq_true rfl) (Nat.le_of_ble_eq_true rfl) rfl (g_Tape_isLetter (d := d + 7) _ eq9) ?_
      by_cases c10 : q9 = 0
      · rw [if_pos c10] at h
        refine xef_eq_t rfl c10 ?_
        exact g_Tape_scanLetters_28 h
      · rw [if_neg c10] at h
        refine xef_eq_f rfl c10 ?_
        refine xeb 2 (pc' := 2) (ls' := [.ref 1, .int v1, .int v2, .int (v3 + 1)]) (st' := []) rfl ?_
        exact ih v1 v2 (v3 + 1) I h
noncomputable def f_Tape_scanLetters (F : Nat) (a1 : Int32) (a2 : Int32) (I : XI) : Option (Int32 × XI) :=
  f_Tape_scanLetters_2 F F a1 a2 a2 I
theorem g_Tape_scanLetters {X : XX} {d : Nat} {L : XL} {F : Nat} {a1 : Int32} {a2 : Int32} {I : XI}  (r : Int32 × XI) (h : f_Tape_scanLetters F a1 a2 I = some r) : xEv X (d + 8) 45 0 [.ref 1, .int a1, .int a2, .null] [] I L (some (.int r.1)) r.2 L := by
  rw [f_Tape_scanLetters] at h
  refine xeb 2 (pc' := 2) (ls' := [.ref 1, .int a1, .int a2, .int a2]) (st' := []) rfl ?_
  exact g_Tape_scanLetters_2 F a1 a2 a2 I h
noncomputable def f_Tape_isSign_4 (F : Nat) : Nat → Int32 → Int32 → Int32 → Option (Int32)
  | 0, _, _, _ => none
  | n + 1, v0, v1, v2 =>
    if (Int32.ofNat 9) ≤ v2 then (xck (xnarz v1) (some v1)) else (if v1 = 0 then (xck (xin v2 9) (f_Tape_isSign_4 F n v0 (if (xchr 1 v2) = v0 then 1 else 0) (v2 + 1))) else (xck (xnarz v1) (some v1)))
theorem g_Tape_isSign_4 {X : XX} {d : Nat} {I : XI} {L : XL} {F : Nat}  {r : Int32}  : ∀ (n : Nat) (v0 : Int32) (v1 : Int32) (v2 : Int32), f_Tape_isSign_4 F n v0 v1 v2 = some r → xEv X (d + 7) 48 4 [.int v0, .int v1, .int v2] [] I L (some (.int r)) I L := by
  intro n
  induction n with
  | zero => intro v0 v1 v2 h; rw [f_Tape_isSign_4] at h; cases h
  | succ n ih =>
    intro v0 v1 v2 h 
    rw [f_Tape_isSign_4] at h
    refine xeb 2 (pc' := 7) (ls' := [.int v0, .int v1, .int v2]) (st' := [.ref (xSTR + 1), .int v2]) rfl ?_
    refine xestrlen (i := 1) rfl (by decide) rfl (Nat.le_of_ble_eq_true rfl) ?_
    by_cases c1 : (Int32.ofNat 9) ≤ v2
    · rw [if_pos c1] at h
      refine xei_ge_t rfl c1 ?_
      refine xeb 1 (pc' := 40) (ls' := [.int v0, .int v1, .int v2]) (st' := [.int v1]) rfl ?_
      obtain ⟨b2, h⟩ := xck_some h
      obtain rfl := Option.some.inj h
      exact xeiret rfl b2
    · rw [if_neg c1] at h
      refine xei_ge_f rfl c1 ?_
      refine xeb 1 (pc' := 14) (ls' := [.int v0, .int v1, .int v2]) (st' := [.int v1]) rfl ?_
      by_cases c3 : v1 = 0
      · rw [if_pos c3] at h
        refine xef_ne_t rfl c3 ?_
        refine xeb 2 (pc' := 20) (ls' := [.int v0, .int v1, .int v2]) (st' := [.int v2, .ref (xSTR + 1)]) rfl ?_
        obtain ⟨b4, h⟩ := xck_some h
        refine xestrch (i := 1) rfl (by decide) b4 rfl (Nat.le_of_ble_eq_true rfl) ?_
        refine xeb 1 (pc' := 24) (ls' := [.int v0, .int v1, .int v2]) (st' := [.int v0, .int (xchr 1 v2)]) rfl ?_
        have hj : xEv X (d + 7) 48 32 [.int v0, .int v1, .int v2] [.int (if (xchr 1 v2) = v0 then 1 else 0)] I L (some (.int r)) I L := by
          refine xeb 3 (pc' := 4) (ls' := [.int v0, .int (if (xchr 1 v2) = v0 then 1 else 0), .int (v2 + 1)]) (st' := []) rfl ?_
          exact ih v0 (if (xchr 1 v2) = v0 then 1 else 0) (v2 + 1) h
        by_cases c5 : (xchr 1 v2) = v0
        · simp only [if_pos c5] at hj
          refine xei_ne_t rfl c5 ?_
          exact xeb 2 rfl hj
        · simp only [if_neg c5] at hj
          refine xei_ne_f rfl c5 ?_
          exact xeb 1 rfl hj
      · rw [if_neg c3] at h
        refine xef_ne_f rfl c3 ?_
        refine xeb 1 (pc' := 40) (ls' := [.int v0, .int v1, .int v2]) (st' := [.int v1]) rfl ?_
        obtain ⟨b6, h⟩ := xck_some h
        obtain rfl := Option.some.inj h
        exact xeiret rfl b6
noncomputable def f_Tape_isSign (F : Nat) (a0 : Int32) : Option (Int32) :=
  f_Tape_isSign_4 F F a0 0 0
theorem g_Tape_isSign {X : XX} {d : Nat} {I : XI} {L : XL} {F : Nat} {a0 : Int32}  (r : Int32) (h : f_Tape_isSign F a0 = some r) : xEv X (d + 7) 48 0 [.int a0, .null, .null] [] I L (some (.int r)) I L := by
  rw [f_Tape_isSign] at h
  refine xeb 4 (pc' := 4) (ls' := [.int a0, .int 0, .int 0]) (st' := []) rfl ?_
  exact g_Tape_isSign_4 F a0 0 0 h
noncomputable def f_Tape_scanToken_82 (F : Nat) (v2 : Int32) (s1 : Int32) (s2 : Int32) (I : XI) : Option (Int32 × XI) :=
  xck (xin s1 401) (xst (xput I 3 (xN s1) s2) fun I12 => some ((v2 + 1), I12))
theorem g_Tape_scanToken_82 {X : XX} {d : Nat} {L : XL} {F : Nat}  {r : Int32 × XI}  {v2 : Int32} {s1 : Int32} {s2 : Int32} {I : XI} (h : f_Tape_scanToken_82 F v2 s1 s2 I = some r) (z0 : Value) (z1 : Value) : xEv X (d + 9) 49 82 [z0, z1, .int v2] [.int s2, .int s1, .ref 3] I L (some (.int r.1)) r.2 L := by
  rw [f_Tape_scanToken_82] at h
  obtain ⟨b11, h⟩ := xck_some h
  refine xeis rfl xsh3 b11 ?_
  obtain ⟨I12, hI12, h⟩ := xst_some h
  rw [← hI12]
  refine xeb 3 (pc' := 86) (ls' := [z0, z1, .int v2]) (st' := [.int (v2 + 1)]) rfl ?_
  obtain rfl := Option.some.inj h
  exact xeiret rfl rfl
noncomputable def f_Tape_scanToken (F : Nat) (a1 : Int32) (a2 : Int32) (I : XI) : Option (Int32 × XI) :=
  if a2 < (I 1 1) then (xck (xin a2 2000) ((f_Tape_isLetter (I 2 (xN a2))).bind fun q3 => if q3 = 0 then (xck (xin a2 2000) ((f_Tape_isDigit (I 2 (xN a2))).bind fun q6 => if q6 = 0 then (xck (xin a2 2000) ((f_Tape_isSign F (I 2 (xN a2))).bind fun q9 => if q9 = 0 then (f_Tape_scanToken_82 F a2 a1 1 I) else (xck (xin a2 2000) (f_Tape_scanToken_82 F a2 a1 (I 2 (xN a2)) I)))) else ((f_Tape_scanDigits F a1 a2 I).bind fun q14 => some (q14.1, q14.2)))) else ((f_Tape_scanLetters F a1 a2 I).bind fun q15 => some (q15.1, q15.2)))) else (xck (xin a1 401) (xst (xput I 3 (xN a1) 0) fun I17 => some (a2, I17)))
theorem g_Tape_scanToken {X : XX} {d : Nat} {L : XL} {F : Nat} {a1 : Int32} {a2 : Int32} {I : XI}  (r : Int32 × XI) (h : f_Tape_scanToken F a1 a2 I = some r) : xEv X (d + 9) 49 0 [.ref 1, .int a1, .int a2] [] I L (some (.int r.1)) r.2 L := by
  rw [f_Tape_scanToken] at h
  refine xeb 2 (pc' := 2) (ls' := [.ref 1, .int a1, .int a2]) (st' := [.ref 1, .int a2]) rfl ?_
  refine xegf0 rfl xsh1 (by decide) ?_
  by_cases c1 : a2 < (I 1 1)
  · rw [if_pos c1] at h
    refine xei_lt_t rfl c1 ?_
    refine xeb 1 (pc' := 18) (ls' := [.ref 1, .int a1, .int a2]) (st' := [.ref 1]) rfl ?_
    refine xegf2 rfl xsh1 (by decide) rfl ?_
    refine xeb 1 (pc' := 22) (ls' := [.ref 1, .int a1, .int a2]) (st' := [.int a2, .ref 2]) rfl ?_
    obtain ⟨b2, h⟩ := xck_some h
    refine xeba rfl xsh2 b2 ?_
    obtain ⟨q3, eq3, h⟩ := xbind_some h
    refine xcallS20 rfl rfl rfl (Nat.le_of_ble_eq_true rfl) (Nat.le_of_ble_eq_true rfl) (Nat.le_of_ble_eq_true rfl) rfl (g_Tape_isLetter (d := d + 8) _ eq3) ?_
    by_cases c4 : q3 = 0
    · rw [if_pos c4] at h
      refine xef_eq_t rfl c4 ?_
      refine xeb 1 (pc' := 37) (ls' := [.ref 1, .int a1, .int a2]) (st' := [.ref 1]) rfl ?_
      refine xegf2 rfl xsh1 (by decide) rfl ?_
      refine xeb 1 (pc' := 41) (ls' := [.ref 1, .int a1, .int a2]) (st' := [.int a2, .ref 2]) rfl ?_
      obtain ⟨b5, h⟩ := xck_some h
      refine xeba rfl xsh2 b5 ?_
      obtain ⟨q6, eq6, h⟩ := xbind_some h
      refine xcallS20 rfl rfl rfl (Nat.le_of_ble_eq_true rfl) (Nat.le_of_ble_eq_true rfl) (Nat.le_of_ble_eq_true rfl) rfl (g_Tape_isDigit (d := d + 8) _ eq6) ?_
      by_cases c7 : q6 = 0
      · rw [if_pos c7] at h
        refine xef_eq_t rfl c7 ?_
        refine xeb 1 (pc' := 56) (ls' := [.ref 1, .int a1, .int a2]) (st' := [.ref 1]) rfl ?_
        refine xegf2 rfl xsh1 (by decide) rfl ?_
        refine xeb 2 (pc' := 61) (ls' := [.ref 1, .int a1, .int a2]) (st' := [.ref 1, .int a1, .ref 3]) rfl ?_
        refine xegf2 rfl xsh1 (by decide) rfl ?_
        refine xeb 1 (pc' := 65) (ls' := [.ref 1, .int a1, .int a2]) (st' := [.int a2, .ref 2, .int a1, .ref 3]) rfl ?_
        obtain ⟨b8, h⟩ := xck_some h
        refine xeba rfl xsh2 b8 ?_
        obtain ⟨q9, eq9, h⟩ := xbind_some h
        refine xcallS20 rfl rfl rfl (Nat.le_of_ble_eq_true rfl) (Nat.le_of_ble_eq_true rfl) (Nat.le_of_ble_eq_true rfl) rfl (g_Tape_isSign (d := d + 1) _ eq9) ?_
        by_cases c10 : q9 = 0
        · rw [if_pos c10] at h
          refine xef_eq_t rfl c10 ?_
          refine xeb 1 (pc' := 82) (ls' := [.ref 1, .int a1, .int a2]) (st' := [.int 1, .int a1, .ref 3]) rfl ?_
          exact g_Tape_scanToken_82 h _ _
        · rw [if_neg c10] at h
          refine xef_eq_f rfl c10 ?_
          refine xeb 1 (pc' := 73) (ls' := [.ref 1, .int a1, .int a2]) (st' := [.ref 1, .int a1, .ref 3]) rfl ?_
          refine xegf2 rfl xsh1 (by decide) rfl ?_
          refine xeb 1 (pc' := 77) (ls' := [.ref 1, .int a1, .int a2]) (st' := [.int a2, .ref 2, .int a1, .ref 3]) rfl ?_
          obtain ⟨b13, h⟩ := xck_some h
          refine xeba rfl xsh2 b13 ?_
          refine xeb 1 (pc' := 82) (ls' := [.ref 1, .int a1, .int a2]) (st' := [.int (I 2 (xN a2)), .int a1, .ref 3]) rfl ?_
          exact g_Tape_scanToken_82 h _ _
      · rw [if_neg c7] at h
        refine xef_eq_f rfl c7 ?_
        refine xeb 3 (pc' := 51) (ls' := [.ref 1, .int a1, .int a2]) (st' := [.int a2, .int a1, .ref 1]) rfl ?_
        obtain ⟨q14, eq14, h⟩ := xbind_some h
        refine xcallV rfl xsh1 rfl rfl rfl (Nat.le_of_ble_eq_true rfl) (Nat.le_of_ble_eq_true rfl) (Nat.le_of_ble_eq_true rfl) rfl (g_Tape_scanDigits (d := d + 7) _ eq14) ?_
        obtain rfl := Option.some.inj h
        exact xeiret rfl rfl
    · rw [if_neg c4] at h
      refine xef_eq_f rfl c4 ?_
      refine xeb 3 (pc' := 32) (ls' := [.ref 1, .int a1, .int a2]) (st' := [.int a2, .int a1, .ref 1]) rfl ?_
      obtain ⟨q15, eq15, h⟩ := xbind_some h
      refine xcallV rfl xsh1 rfl rfl rfl (Nat.le_of_ble_eq_true rfl) (Nat.le_of_ble_eq_true rfl) (Nat.le_of_ble_eq_true rfl) rfl (g_Tape_scanLetters (d := d + 0) _ eq15) ?_
      obtain rfl := Option.some.inj h
      exact xeiret rfl rfl
  · rw [if_neg c1] at h
    refine xei_lt_f rfl c1 ?_
    refine xeb 1 (pc' := 9) (ls' := [.ref 1, .int a1, .int a2]) (st' := [.ref 1]) rfl ?_
    refine xegf2 rfl xsh1 (by decide) rfl ?_
    refine xeb 2 (pc' := 14) (ls' := [.ref 1, .int a1, .int a2]) (st' := [.int 0, .int a1, .ref 3]) rfl ?_
    obtain ⟨b16, h⟩ := xck_some h
    refine xeis rfl xsh3 b16 ?_
    obtain ⟨I17, hI17, h⟩ := xst_some h
    rw [← hI17]
    refine xeb 1 (pc' := 16) (ls' := [.ref 1, .int a1, .int a2]) (st' := [.int a2]) rfl ?_
    obtain rfl := Option.some.inj h
    exact xeiret rfl rfl
noncomputable def f_Tape_scan_4 (F : Nat) : Nat → Int32 → Int32 → XI → Option (XI)
  | 0, _, _, _ => none
  | n + 1, v1, v2, I =>
    if 400 < v2 then (some I) else ((f_Tape_skipBlanks F I v1).bind fun q2 => xck (xin v2 401) (xst (xput I 4 (xN v2) q2) fun I4 => (f_Tape_scanToken F v2 q2 I4).bind fun q5 => xck (xin v2 401) (if (q5.2 3 (xN v2)) = 0 then (some q5.2) else (xck (xin v2 401) (if (q5.2 3 (xN v2)) = 1 then (some q5.2) else (f_Tape_scan_4 F n q5.1 (v2 + 1) q5.2))))))
theorem g_Tape_scan_4 {X : XX} {d : Nat} {L : XL} {F : Nat}  {r : XI}  : ∀ (n : Nat) (v1 : Int32) (v2 : Int32) (I : XI), f_Tape_scan_4 F n v1 v2 I = some r → xEv X (d + 10) 50 4 [.ref 1, .int v1, .int v2] [] I L none r L := by
  intro n
  induction n with
  | zero => intro v1 v2 I h; rw [f_Tape_scan_4] at h; cases h
  | succ n ih =>
    intro v1 v2 I h 
    rw [f_Tape_scan_4] at h
    refine xeb 2 (pc' := 8) (ls' := [.ref 1, .int v1, .int v2]) (st' := [.int 400, .int v2]) rfl ?_
    by_cases c1 : 400 < v2
    · rw [if_pos c1] at h
      refine xei_gt_t rfl c1 ?_
      obtain rfl := Option.some.inj h
      exact xevret rfl
    · rw [if_neg c1] at h
      refine xei_gt_f rfl c1 ?_
      refine xeb 2 (pc' := 13) (ls' := [.ref 1, .int v1, .int v2]) (st' := [.int v1, .ref 1]) rfl ?_
      obtain ⟨q2, eq2, h⟩ := xbind_some h
      refine xcallV rfl xsh1 rfl rfl rfl (Nat.le_of_ble_eq_true rfl) (Nat.le_of_ble_eq_true rfl) (Nat.le_of_ble_eq_true rfl) rfl (g_Tape_skipBlanks (d := d + 8) _ eq2) ?_
      refine xeb 2 (pc' := 18) (ls' := [.ref 1, .int q2, .int v2]) (st' := [.ref 1]) rfl ?_
      refine xegf2 rfl xsh1 (by decide) rfl ?_
      refine xeb 2 (pc' := 23) (ls' := [.ref 1, .int q2, .int v2]) (st' := [.int q2, .int v2, .ref 4]) rfl ?_
      obtain ⟨b3, h⟩ := xck_some h
      refine xeis rfl xsh4 b3 ?_
      obtain ⟨I4, hI4, h⟩ := xst_some h
      rw [← hI4]
      refine xeb 3 (pc' := 27) (ls' := [.ref 1, .int q2, .int v2]) (st' := [.int q2, .int v2, .ref 1]) rfl ?_
      obtain ⟨q5, eq5, h⟩ := xbind_some h
      refine xcallV rfl xsh1 rfl rfl rfl (Nat.le_of_ble_eq_true rfl) (Nat.le_of_ble_eq_true rfl) (Nat.le_of_ble_eq_true rfl) rfl (g_Tape_scanToken (d := d + 0) _ eq5) ?_
      refine xeb 2 (pc' := 32) (ls' := [.ref 1, .int q5.1, .int v2]) (st' := [.ref 1]) rfl ?_
      refine xegf2 rfl xsh1 (by decide) rfl ?_
      refine xeb 1 (pc' := 36) (ls' := [.ref 1, .int q5.1, .int v2]) (st' := [.int v2, .ref 3]) rfl ?_
      obtain ⟨b6, h⟩ := xck_some h
      refine xeia rfl xsh3 b6 ?_
      by_cases c7 : (q5.2 3 (xN v2)) = 0
      · rw [if_pos c7] at h
        refine xef_eq_t rfl c7 ?_
        obtain rfl := Option.some.inj h
        exact xevret rfl
      · rw [if_neg c7] at h
        refine xef_eq_f rfl c7 ?_
        refine xeb 1 (pc' := 41) (ls' := [.ref 1, .int q5.1, .int v2]) (st' := [.ref 1]) rfl ?_
        refine xegf2 rfl xsh1 (by decide) rfl ?_
        refine xeb 1 (pc' := 45) (ls' := [.ref 1, .int q5.1, .int v2]) (st' := [.int v2, .ref 3]) rfl ?_
        obtain ⟨b8, h⟩ := xck_some h
        refine xeia rfl xsh3 b8 ?_
        refine xeb 1 (pc' := 47) (ls' := [.ref 1, .int q5.1, .int v2]) (st' := [.int 1, .int (q5.2 3 (xN v2))]) rfl ?_
        by_cases c9 : (q5.2 3 (xN v2)) = 1
        · rw [if_pos c9] at h
          refine xei_ne_t rfl c9 ?_
          obtain rfl := Option.some.inj h
          exact xevret rfl
        · rw [if_neg c9] at h
          refine xei_ne_f rfl c9 ?_
          refine xeb 2 (pc' := 4) (ls' := [.ref 1, .int q5.1, .int (v2 + 1)]) (st' := []) rfl ?_
          exact ih q5.1 (v2 + 1) q5.2 h
noncomputable def f_Tape_scan (F : Nat) (I : XI) : Option (XI) :=
  f_Tape_scan_4 F F 0 0 I
theorem g_Tape_scan {X : XX} {d : Nat} {L : XL} {F : Nat} {I : XI}  (r : XI) (h : f_Tape_scan F I = some r) : xEv X (d + 10) 50 0 [.ref 1, .null, .null] [] I L none r L := by
  rw [f_Tape_scan] at h
  refine xeb 4 (pc' := 4) (ls' := [.ref 1, .int 0, .int 0]) (st' := []) rfl ?_
  exact g_Tape_scan_4 F 0 0 I h
