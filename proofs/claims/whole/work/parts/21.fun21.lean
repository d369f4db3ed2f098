/-! the methods as functions, and that a run answers so (by gen6.py) -/
noncomputable def f_Reader_accept_53 (I : XI) : Option (Int32 × XI) :=
  xck (xnarz (if (I 6 3) = 0 then 1 else 0)) (some ((if (I 6 3) = 0 then 1 else 0), I))
theorem g_Reader_accept_53 {X : XX} {d : Nat} {L : XL}  {r : Int32 × XI}  {I : XI} (h : f_Reader_accept_53 I = some r) (z1 : Value) : xEv X (d + 1) 53 53 [.ref 6, z1] [] I L (some (.int r.1)) r.2 L := by
  rw [f_Reader_accept_53] at h
  refine xeb 1 (pc' := 54) (ls' := [.ref 6, z1]) (st' := [.ref 6]) rfl ?_
  refine xegf0 rfl xsh6 (by decide) ?_
  have hj : xEv X (d + 1) 53 65 [.ref 6, z1] [.int (if (I 6 3) = 0 then 1 else 0)] I L (some (.int r.1)) r.2 L := by
    obtain ⟨b7, h⟩ := xck_some h
    obtain rfl := Option.some.inj h
    exact xeiret rfl b7
  by_cases c6 : (I 6 3) = 0
  · simp only [if_pos c6] at hj
    refine xef_ne_t rfl c6 ?_
    exact xeb 2 rfl hj
  · simp only [if_neg c6] at hj
    refine xef_ne_f rfl c6 ?_
    exact xeb 1 rfl hj
noncomputable def f_Reader_accept (a1 : Int32) (I : XI) : Option (Int32 × XI) :=
  if (I 6 3) = 0 then ((f_Reader_kind I).bind fun q2 => if q2 = a1 then (if (I 6 2) < 400 then (xst (xput I 6 2 ((I 6 2) + 1)) fun I5 => f_Reader_accept_53 I5) else ((f_Reader_fail 2 I).bind fun q8 => f_Reader_accept_53 q8)) else ((f_Reader_fail 1 I).bind fun q9 => f_Reader_accept_53 q9)) else (some (0, I))
theorem g_Reader_accept {X : XX} {d : Nat} {L : XL} {a1 : Int32} {I : XI}  (r : Int32 × XI) (h : f_Reader_accept a1 I = some r) : xEv X (d + 1) 53 0 [.ref 6, .int a1] [] I L (some (.int r.1)) r.2 L := by
  rw [f_Reader_accept] at h
  refine xeb 1 (pc' := 1) (ls' := [.ref 6, .int a1]) (st' := [.ref 6]) rfl ?_
  refine xegf0 rfl xsh6 (by decide) ?_
  by_cases c1 : (I 6 3) = 0
  · rw [if_pos c1] at h
    refine xef_eq_t rfl c1 ?_
    refine xeb 1 (pc' := 10) (ls' := [.ref 6, .int a1]) (st' := [.ref 6]) rfl ?_
    obtain ⟨q2, eq2, h⟩ := xbind_some h
    refine xcallV rfl xsh6 rfl rfl rfl (Nat.le_of_ble_eq_true rfl) (Nat.le_of_ble_eq_true rfl) (Nat.le_of_ble_eq_true rfl) rfl (g_Reader_kind (d := d + 0) _ eq2) ?_
    refine xeb 1 (pc' := 14) (ls' := [.ref 6, .int a1]) (st' := [.int a1, .int q2]) rfl ?_
    by_cases c3 : q2 = a1
    · rw [if_pos c3] at h
      refine xei_eq_t rfl c3 ?_
      refine xeb 1 (pc' := 26) (ls' := [.ref 6, .int a1]) (st' := [.ref 6]) rfl ?_
      refine xegf0 rfl xsh6 (by decide) ?_
      refine xeb 1 (pc' := 32) (ls' := [.ref 6, .int a1]) (st' := [.int 400, .int (I 6 2)]) rfl ?_
      by_cases c4 : (I 6 2) < 400
      · rw [if_pos c4] at h
        refine xei_lt_t rfl c4 ?_
        refine xeb 2 (pc' := 45) (ls' := [.ref 6, .int a1]) (st' := [.ref 6, .ref 6]) rfl ?_
        refine xegf0 rfl xsh6 (by decide) ?_
        refine xeb 2 (pc' := 50) (ls' := [.ref 6, .int a1]) (st' := [.int ((I 6 2) + 1), .ref 6]) rfl ?_
        refine xepf0 rfl xsh6 (by decide) ?_
        obtain ⟨I5, hI5, h⟩ := xst_some h
        rw [← hI5]
        exact g_Reader_accept_53 h _
      · rw [if_neg c4] at h
        refine xei_lt_f rfl c4 ?_
        refine xeb 2 (pc' := 37) (ls' := [.ref 6, .int a1]) (st' := [.int 2, .ref 6]) rfl ?_
        obtain ⟨q8, eq8, h⟩ := xbind_some h
        refine xcallV rfl xsh6 rfl rfl rfl (Nat.le_of_ble_eq_true rfl) (Nat.le_of_ble_eq_true rfl) (Nat.le_of_ble_eq_true rfl) rfl (g_Reader_fail (d := d + 0) _ eq8) ?_
        refine xeb 1 (pc' := 53) (ls' := [.ref 6, .int a1]) (st' := []) rfl ?_
        exact g_Reader_accept_53 h _
    · rw [if_neg c3] at h
      refine xei_eq_f rfl c3 ?_
      refine xeb 2 (pc' := 19) (ls' := [.ref 6, .int a1]) (st' := [.int 1, .ref 6]) rfl ?_
      obtain ⟨q9, eq9, h⟩ := xbind_some h
      refine xcallV rfl xsh6 rfl rfl rfl (Nat.le_of_ble_eq_true rfl) (Nat.le_of_ble_eq_true rfl) (Nat.le_of_ble_eq_true rfl) rfl (g_Reader_fail (d := d + 0) _ eq9) ?_
      refine xeb 1 (pc' := 53) (ls' := [.ref 6, .int a1]) (st' := []) rfl ?_
      exact g_Reader_accept_53 h _
  · rw [if_neg c1] at h
    refine xef_eq_f rfl c1 ?_
    refine xeb 1 (pc' := 8) (ls' := [.ref 6, .int a1]) (st' := [.int 0]) rfl ?_
    obtain rfl := Option.some.inj h
    exact xeiret rfl rfl
noncomputable def f_Tape_letter (I : XI) (a1 : Int32) (a2 : Int32) : Option (Int32) :=
  xck (xin a1 401) (if (I 1 1) ≤ ((I 4 (xN a1)) + a2) then (some 0) else (xck (xin ((I 4 (xN a1)) + a2) 2000) (some (I 2 (xN ((I 4 (xN a1)) + a2))))))
theorem g_Tape_letter {X : XX} {d : Nat} {L : XL} {I : XI} {a1 : Int32} {a2 : Int32}  (r : Int32) (h : f_Tape_letter I a1 a2 = some r) : xEv X (d + 0) 54 0 [.ref 1, .int a1, .int a2, .null] [] I L (some (.int r)) I L := by
  rw [f_Tape_letter] at h
  refine xeb 1 (pc' := 1) (ls' := [.ref 1, .int a1, .int a2, .null]) (st' := [.ref 1]) rfl ?_
  refine xegf2 rfl xsh1 (by decide) rfl ?_
  refine xeb 1 (pc' := 5) (ls' := [.ref 1, .int a1, .int a2, .null]) (st' := [.int a1, .ref 4]) rfl ?_
  obtain ⟨b1, h⟩ := xck_some h
  refine xeia rfl xsh4 b1 ?_
  refine xeb 5 (pc' := 11) (ls' := [.ref 1, .int a1, .int a2, .int ((I 4 (xN a1)) + a2)]) (st' := [.ref 1, .int ((I 4 (xN a1)) + a2)]) rfl ?_
  refine xegf0 rfl xsh1 (by decide) ?_
  by_cases c2 : (I 1 1) ≤ ((I 4 (xN a1)) + a2)
  · rw [if_pos c2] at h
    refine xei_ge_t rfl c2 ?_
    refine xeb 1 (pc' := 27) (ls' := [.ref 1, .int a1, .int a2, .int ((I 4 (xN a1)) + a2)]) (st' := [.int 0]) rfl ?_
    obtain rfl := Option.some.inj h
    exact xeiret rfl rfl
  · rw [if_neg c2] at h
    refine xei_ge_f rfl c2 ?_
    refine xeb 1 (pc' := 18) (ls' := [.ref 1, .int a1, .int a2, .int ((I 4 (xN a1)) + a2)]) (st' := [.ref 1]) rfl ?_
    refine xegf2 rfl xsh1 (by decide) rfl ?_
    refine xeb 1 (pc' := 22) (ls' := [.ref 1, .int a1, .int a2, .int ((I 4 (xN a1)) + a2)]) (st' := [.int ((I 4 (xN a1)) + a2), .ref 2]) rfl ?_
    obtain ⟨b3, h⟩ := xck_some h
    refine xeba rfl xsh2 b3 ?_
    refine xeb 1 (pc' := 27) (ls' := [.ref 1, .int a1, .int a2, .int ((I 4 (xN a1)) + a2)]) (st' := [.int (I 2 (xN ((I 4 (xN a1)) + a2)))]) rfl ?_
    obtain rfl := Option.some.inj h
    exact xeiret rfl rfl
noncomputable def f_Reader_mark (a1 : Int32) (a2 : Int32) (I : XI) : Option (XI) :=
  if (I 6 5) = 0 then (xst (xput I 6 5 a1) fun I2 => xst (xput I2 6 6 a2) fun I3 => some I3) else (some I)
theorem g_Reader_mark {X : XX} {d : Nat} {L : XL} {a1 : Int32} {a2 : Int32} {I : XI}  (r : XI) (h : f_Reader_mark a1 a2 I = some r) : xEv X (d + 0) 55 0 [.ref 6, .int a1, .int a2] [] I L none r L := by
  rw [f_Reader_mark] at h
  refine xeb 1 (pc' := 1) (ls' := [.ref 6, .int a1, .int a2]) (st' := [.ref 6]) rfl ?_
  refine xegf0 rfl xsh6 (by decide) ?_
  by_cases c1 : (I 6 5) = 0
  · rw [if_pos c1] at h
    refine xef_ne_t rfl c1 ?_
    refine xeb 2 (pc' := 9) (ls' := [.ref 6, .int a1, .int a2]) (st' := [.int a1, .ref 6]) rfl ?_
    refine xepf0 rfl xsh6 (by decide) ?_
    obtain ⟨I2, hI2, h⟩ := xst_some h
    rw [← hI2]
    refine xeb 2 (pc' := 14) (ls' := [.ref 6, .int a1, .int a2]) (st' := [.int a2, .ref 6]) rfl ?_
    refine xepf0 rfl xsh6 (by decide) ?_
    obtain ⟨I3, hI3, h⟩ := xst_some h
    rw [← hI3]
    obtain rfl := Option.some.inj h
    exact xevret rfl
  · rw [if_neg c1] at h
    refine xef_ne_f rfl c1 ?_
    obtain rfl := Option.some.inj h
    exact xevret rfl
noncomputable def f_Reader_addRow_166 (F : Nat) (I : XI) : Option (XI) :=
  xst (xput I 7 1 ((I 7 1) + 1)) fun I10 => some I10
theorem g_Reader_addRow_166 {X : XX} {d : Nat} {L : XL} {F : Nat}  {r : XI}  {I : XI} (h : f_Reader_addRow_166 F I = some r) (z1 : Value) (z2 : Value) (z3 : Value) (z4 : Value) (z5 : Value) : xEv X (d + 1) 56 166 [.ref 6, z1, z2, z3, z4, z5] [] I L none r L := by
  rw [f_Reader_addRow_166] at h
  refine xeb 1 (pc' := 167) (ls' := [.ref 6, z1, z2, z3, z4, z5]) (st' := [.ref 6]) rfl ?_
  refine xegf2 rfl xsh6 (by decide) rfl ?_
  refine xeb 1 (pc' := 171) (ls' := [.ref 6, z1, z2, z3, z4, z5]) (st' := [.ref 7, .ref 7]) rfl ?_
  refine xegf10 rfl xsh7 (by decide) ?_
  refine xeb 2 (pc' := 176) (ls' := [.ref 6, z1, z2, z3, z4, z5]) (st' := [.int ((I 7 1) + 1), .ref 7]) rfl ?_
  refine xepf10 rfl xsh7 (by decide) ?_
  obtain ⟨I10, hI10, h⟩ := xst_some h
  rw [← hI10]
  obtain rfl := Option.some.inj h
  exact xevret rfl
noncomputable def f_Reader_addRow_147 (F : Nat) (v1 : Int32) (v3 : Int32) (I : XI) : Option (XI) :=
  if v3 = 0 then (xck (xin v1 401) ((f_Reader_mark 6 (I 4 (xN v1)) I).bind fun q9 => f_Reader_addRow_166 F q9)) else (f_Reader_addRow_166 F I)
theorem g_Reader_addRow_147 {X : XX} {d : Nat} {L : XL} {F : Nat}  {r : XI}  {v1 : Int32} {v3 : Int32} {I : XI} (h : f_Reader_addRow_147 F v1 v3 I = some r) (z2 : Value) (z4 : Value) (z5 : Value) : xEv X (d + 1) 56 147 [.ref 6, .int v1, z2, .int v3, z4, z5] [] I L none r L := by
  rw [f_Reader_addRow_147] at h
  refine xeb 1 (pc' := 148) (ls' := [.ref 6, .int v1, z2, .int v3, z4, z5]) (st' := [.int v3]) rfl ?_
  by_cases c7 : v3 = 0
  · rw [if_pos c7] at h
    refine xef_ne_t rfl c7 ?_
    refine xeb 3 (pc' := 155) (ls' := [.ref 6, .int v1, z2, .int v3, z4, z5]) (st' := [.ref 6, .int 6, .ref 6]) rfl ?_
    refine xegf2 rfl xsh6 (by decide) rfl ?_
    refine xegf12 rfl xsh1 (by decide) rfl ?_
    refine xeb 1 (pc' := 162) (ls' := [.ref 6, .int v1, z2, .int v3, z4, z5]) (st' := [.int v1, .ref 4, .int 6, .ref 6]) rfl ?_
    obtain ⟨b8, h⟩ := xck_some h
    refine xeia rfl xsh4 b8 ?_
    obtain ⟨q9, eq9, h⟩ := xbind_some h
    refine xcallV rfl xsh6 rfl rfl rfl (Nat.le_of_ble_eq_true rfl) (Nat.le_of_ble_eq_true rfl) (Nat.le_of_ble_eq_true rfl) rfl (g_Reader_mark (d := d + 0) _ eq9) ?_
    exact g_Reader_addRow_166 h _ _ _ _ _
  · rw [if_neg c7] at h
    refine xef_ne_f rfl c7 ?_
    exact g_Reader_addRow_166 h _ _ _ _ _
noncomputable def f_Reader_addRow_140 (F : Nat) (k54 : Int32 → Int32 → Int32 → Int32 → XI → Option (XI)) (v1 : Int32) (v2 : Int32) (v3 : Int32) (v4 : Int32) (s1 : Int32) (s2 : Int32) (I : XI) : Option (XI) :=
  xck (xin s1 30) (xst (xput I 8 (xN s1) s2) fun I16 => k54 v1 v2 v3 (v4 + 1) I16)
theorem g_Reader_addRow_140 {X : XX} {d : Nat} {L : XL} {F : Nat} {k54 : Int32 → Int32 → Int32 → Int32 → XI → Option (XI)}  {r : XI} (hk54 : ∀ (v1 : Int32) (v2 : Int32) (v3 : Int32) (v4 : Int32) (I : XI), k54 v1 v2 v3 v4 I = some r → ∀ (z5 : Value), xEv X (d + 1) 56 54 [.ref 6, .int v1, .int v2, .int v3, .int v4, z5] [] I L none r L) {v1 : Int32} {v2 : Int32} {v3 : Int32} {v4 : Int32} {s1 : Int32} {s2 : Int32} {I : XI} (h : f_Reader_addRow_140 F k54 v1 v2 v3 v4 s1 s2 I = some r) (z5 : Value) : xEv X (d + 1) 56 140 [.ref 6, .int v1, .int v2, .int v3, .int v4, z5] [.int s2, .int s1, .ref 8] I L none r L := by
  rw [f_Reader_addRow_140] at h
  obtain ⟨b15, h⟩ := xck_some h
  refine xeis rfl xsh8 b15 ?_
  obtain ⟨I16, hI16, h⟩ := xst_some h
  rw [← hI16]
  refine xeb 2 (pc' := 54) (ls' := [.ref 6, .int v1, .int v2, .int v3, .int (v4 + 1), z5]) (st' := []) rfl ?_
  exact hk54 v1 v2 v3 (v4 + 1) I16 h _
noncomputable def f_Reader_addRow_102 (F : Nat) (k54 : Int32 → Int32 → Int32 → Int32 → XI → Option (XI)) (v1 : Int32) (v2 : Int32) (v4 : Int32) (v5 : Int32) (s0 : Int32) (I : XI) : Option (XI) :=
  f_Reader_addRow_140 F k54 v1 v2 s0 v4 (((I 7 1) * 6) + v4) (if v5 = 111 then 9 else (v5 - 97)) I
theorem g_Reader_addRow_102 {X : XX} {d : Nat} {L : XL} {F : Nat} {k54 : Int32 → Int32 → Int32 → Int32 → XI → Option (XI)}  {r : XI} (hk54 : ∀ (v1 : Int32) (v2 : Int32) (v3 : Int32) (v4 : Int32) (I : XI), k54 v1 v2 v3 v4 I = some r → ∀ (z5 : Value), xEv X (d + 1) 56 54 [.ref 6, .int v1, .int v2, .int v3, .int v4, z5] [] I L none r L) {v1 : Int32} {v2 : Int32} {v4 : Int32} {v5 : Int32} {s0 : Int32} {I : XI} (h : f_Reader_addRow_102 F k54 v1 v2 v4 v5 s0 I = some r) (z3 : Value) : xEv X (d + 1) 56 102 [.ref 6, .int v1, .int v2, z3, .int v4, .int v5] [.int s0] I L none r L := by
  rw [f_Reader_addRow_102] at h
  refine xeb 2 (pc' := 104) (ls' := [.ref 6, .int v1, .int v2, .int s0, .int v4, .int v5]) (st' := [.ref 6]) rfl ?_
  refine xegf2 rfl xsh6 (by decide) rfl ?_
  refine xegf12 rfl xsh7 (by decide) rfl ?_
  refine xeb 1 (pc' := 111) (ls' := [.ref 6, .int v1, .int v2, .int s0, .int v4, .int v5]) (st' := [.ref 6, .ref 8]) rfl ?_
  refine xegf2 rfl xsh6 (by decide) rfl ?_
  refine xegf10 rfl xsh7 (by decide) ?_
  refine xeb 6 (pc' := 127) (ls' := [.ref 6, .int v1, .int v2, .int s0, .int v4, .int v5]) (st' := [.int 111, .int v5, .int (((I 7 1) * 6) + v4), .ref 8]) rfl ?_
  have hj : xEv X (d + 1) 56 140 [.ref 6, .int v1, .int v2, .int s0, .int v4, .int v5] [.int (if v5 = 111 then 9 else (v5 - 97)), .int (((I 7 1) * 6) + v4), .ref 8] I L none r L := by
    exact g_Reader_addRow_140 hk54 h _
  by_cases c14 : v5 = 111
  · simp only [if_pos c14] at hj
    refine xei_ne_t rfl c14 ?_
    exact xeb 2 rfl hj
  · simp only [if_neg c14] at hj
    refine xei_ne_f rfl c14 ?_
    exact xeb 3 rfl hj
noncomputable def f_Reader_addRow_54 (F : Nat) : Nat → Int32 → Int32 → Int32 → Int32 → XI → Option (XI)
  | 0, _, _, _, _, _ => none
  | n + 1, v1, v2, v3, v4, I =>
    if v3 = 0 then (f_Reader_addRow_147 F v1 v3 I) else (if v2 ≤ v4 then (f_Reader_addRow_147 F v1 v3 I) else ((f_Tape_letter I v1 v4).bind fun q12 => if q12 = 111 then (f_Reader_addRow_102 F (fun v1 v2 v3 v4 I => f_Reader_addRow_54 F n v1 v2 v3 v4 I) v1 v2 v4 q12 1 I) else (if q12 < 97 then (f_Reader_addRow_102 F (fun v1 v2 v3 v4 I => f_Reader_addRow_54 F n v1 v2 v3 v4 I) v1 v2 v4 q12 0 I) else (f_Reader_addRow_102 F (fun v1 v2 v3 v4 I => f_Reader_addRow_54 F n v1 v2 v3 v4 I) v1 v2 v4 q12 (if 102 ≤ q12 then 0 else 1) I))))
theorem g_Reader_addRow_54 {X : XX} {d : Nat} {L : XL} {F : Nat}  {r : XI}  : ∀ (n : Nat) (v1 : Int32) (v2 : Int32) (v3 : Int32) (v4 : Int32) (I : XI), f_Reader_addRow_54 F n v1 v2 v3 v4 I = some r → ∀ (z5 : Value), xEv X (d + 1) 56 54 [.ref 6, .int v1, .int v2, .int v3, .int v4, z5] [] I L none r L := by
  intro n
  induction n with
  | zero => intro v1 v2 v3 v4 I h; rw [f_Reader_addRow_54] at h; cases h
  | succ n ih =>
    intro v1 v2 v3 v4 I h z5
    rw [f_Reader_addRow_54] at h
    refine xeb 1 (pc' := 55) (ls' := [.ref 6, .int v1, .int v2, .int v3, .int v4, z5]) (st' := [.int v3]) rfl ?_
    by_cases c6 : v3 = 0
    · rw [if_pos c6] at h
      refine xef_eq_t rfl c6 ?_
      exact g_Reader_addRow_147 h _ _ _
    · rw [if_neg c6] at h
      refine xef_eq_f rfl c6 ?_
      refine xeb 2 (pc' := 61) (ls' := [.ref 6, .int v1, .int v2, .int v3, .int v4, z5]) (st' := [.int v2, .int v4]) rfl ?_
      by_cases c11 : v2 ≤ v4
      · rw [if_pos c11] at h
        refine xei_ge_t rfl c11 ?_
        exact g_Reader_addRow_147 h _ _ _
      · rw [if_neg c11] at h
        refine xei_ge_f rfl c11 ?_
        refine xeb 1 (pc' := 65) (ls' := [.ref 6, .int v1, .int v2, .int v3, .int v4, z5]) (st' := [.ref 6]) rfl ?_
        refine xegf2 rfl xsh6 (by decide) rfl ?_
        refine xeb 2 (pc' := 71) (ls' := [.ref 6, .int v1, .int v2, .int v3, .int v4, z5]) (st' := [.int v4, .int v1, .ref 1]) rfl ?_
        obtain ⟨q12, eq12, h⟩ := xbind_some h
        refine xcallV rfl xsh1 rfl rfl rfl (Nat.le_of_ble_eq_true rfl) (Nat.le_of_ble_eq_true rfl) (Nat.le_of_ble_eq_true rfl) rfl (g_Tape_letter (d := d + 0) _ eq12) ?_
        refine xeb 3 (pc' := 80) (ls' := [.ref 6, .int v1, .int v2, .int v3, .int v4, .int q12]) (st' := [.int 111, .int q12]) rfl ?_
        by_cases c13 : q12 = 111
        · rw [if_pos c13] at h
          refine xei_eq_t rfl c13 ?_
          refine xeb 2 (pc' := 102) (ls' := [.ref 6, .int v1, .int v2, .int v3, .int v4, .int q12]) (st' := [.int 1]) rfl ?_
          exact g_Reader_addRow_102 (fun v1 v2 v3 v4 I h' z5 => ih v1 v2 v3 v4 I h' z5) h _
        · rw [if_neg c13] at h
          refine xei_eq_f rfl c13 ?_
          refine xeb 2 (pc' := 87) (ls' := [.ref 6, .int v1, .int v2, .int v3, .int v4, .int q12]) (st' := [.int 97, .int q12]) rfl ?_
          by_cases c17 : q12 < 97
          · rw [if_pos c17] at h
            refine xei_lt_t rfl c17 ?_
            refine xeb 1 (pc' := 102) (ls' := [.ref 6, .int v1, .int v2, .int v3, .int v4, .int q12]) (st' := [.int 0]) rfl ?_
            exact g_Reader_addRow_102 (fun v1 v2 v3 v4 I h' z5 => ih v1 v2 v3 v4 I h' z5) h _
          · rw [if_neg c17] at h
            refine xei_lt_f rfl c17 ?_
            refine xeb 2 (pc' := 94) (ls' := [.ref 6, .int v1, .int v2, .int v3, .int v4, .int q12]) (st' := [.int 102, .int q12]) rfl ?_
            have hj : xEv X (d + 1) 56 102 [.ref 6, .int v1, .int v2, .int v3, .int v4, .int q12] [.int (if 102 ≤ q12 then 0 else 1)] I L none r L := by
              exact g_Reader_addRow_102 (fun v1 v2 v3 v4 I h' z5 => ih v1 v2 v3 v4 I h' z5) h _
            by_cases c18 : 102 ≤ q12
            · simp only [if_pos c18] at hj
              refine xei_ge_t rfl c18 ?_
              exact xeb 1 rfl hj
            · simp only [if_neg c18] at hj
              refine xei_ge_f rfl c18 ?_
              exact xeb 2 rfl hj
noncomputable def f_Reader_addRow_28 (F : Nat) (v1 : Int32) (v2 : Int32) (I : XI) : Option (XI) :=
  if v2 = (I 7 0) then (f_Reader_addRow_54 F F v1 v2 (if 6 < v2 then 0 else 1) 0 I) else (f_Reader_addRow_54 F F v1 v2 0 0 I)
theorem g_Reader_addRow_28 {X : XX} {d : Nat} {L : XL} {F : Nat}  {r : XI}  {v1 : Int32} {v2 : Int32} {I : XI} (h : f_Reader_addRow_28 F v1 v2 I = some r) (z3 : Value) (z4 : Value) (z5 : Value) : xEv X (d + 1) 56 28 [.ref 6, .int v1, .int v2, z3, z4, z5] [] I L none r L := by
  rw [f_Reader_addRow_28] at h
  refine xeb 2 (pc' := 30) (ls' := [.ref 6, .int v1, .int v2, z3, z4, z5]) (st' := [.ref 6, .int v2]) rfl ?_
  refine xegf2 rfl xsh6 (by decide) rfl ?_
  refine xegf10 rfl xsh7 (by decide) ?_
  by_cases c4 : v2 = (I 7 0)
  · rw [if_pos c4] at h
    refine xei_ne_t rfl c4 ?_
    refine xeb 2 (pc' := 42) (ls' := [.ref 6, .int v1, .int v2, z3, z4, z5]) (st' := [.int 6, .int v2]) rfl ?_
    have hj : xEv X (d + 1) 56 50 [.ref 6, .int v1, .int v2, z3, z4, z5] [.int (if 6 < v2 then 0 else 1)] I L none r L := by
      refine xeb 3 (pc' := 54) (ls' := [.ref 6, .int v1, .int v2, .int (if 6 < v2 then 0 else 1), .int 0, z5]) (st' := []) rfl ?_
      exact g_Reader_addRow_54 F v1 v2 (if 6 < v2 then 0 else 1) 0 I h _
    by_cases c5 : 6 < v2
    · simp only [if_pos c5] at hj
      refine xei_gt_t rfl c5 ?_
      exact xeb 1 rfl hj
    · simp only [if_neg c5] at hj
      refine xei_gt_f rfl c5 ?_
      exact xeb 2 rfl hj
  · rw [if_neg c4] at h
    refine xei_ne_f rfl c4 ?_
    refine xeb 4 (pc' := 54) (ls' := [.ref 6, .int v1, .int v2, .int 0, .int 0, z5]) (st' := []) rfl ?_
    exact g_Reader_addRow_54 F v1 v2 0 0 I h _
noncomputable def f_Reader_addRow (F : Nat) (a1 : Int32) (I : XI) : Option (XI) :=
  xck (xin a1 401) (if (I 7 1) = 0 then (xst (xput I 7 0 (I 5 (xN a1))) fun I3 => f_Reader_addRow_28 F a1 (I 5 (xN a1)) I3) else (f_Reader_addRow_28 F a1 (I 5 (xN a1)) I))
theorem g_Reader_addRow {X : XX} {d : Nat} {L : XL} {F : Nat} {a1 : Int32} {I : XI}  (r : XI) (h : f_Reader_addRow F a1 I = some r) : xEv X (d + 1) 56 0 [.ref 6, .int a1, .null, .null, .null, .null] [] I L none r L := by
  rw [f_Reader_addRow] at h
  refine xeb 1 (pc' := 1) (ls' := [.ref 6, .int a1, .null, .null, .null, .null]) (st' := [.ref 6]) rfl ?_
  refine xegf2 rfl xsh6 (by decide) rfl ?_
  refine xegf12 rfl xsh1 (by decide) rfl ?_
  refine xeb 1 (pc' := 8) (ls' := [.ref 6, .int a1, .null, .null, .null, .null]) (st' := [.int a1, .ref 5]) rfl ?_
  obtain ⟨b1, h⟩ := xck_some h
  refine xeia rfl xsh5 b1 ?_
  refine xeb 2 (pc' := 11) (ls' := [.ref 6, .int a1, .int (I 5 (xN a1)), .null, .null, .null]) (st' := [.ref 6]) rfl ?_
  refine xegf2 rfl xsh6 (by decide) rfl ?_
  refine xegf10 rfl xsh7 (by decide) ?_
  by_cases c2 : (I 7 1) = 0
  · rw [if_pos c2] at h
    refine xef_ne_t rfl c2 ?_
    refine xeb 1 (pc' := 21) (ls' := [.ref 6, .int a1, .int (I 5 (xN a1)), .null, .null, .null]) (st' := [.ref 6]) rfl ?_
    refine xegf2 rfl xsh6 (by decide) rfl ?_
    refine xeb 1 (pc' := 25) (ls' := [.ref 6, .int a1, .int (I 5 (xN a1)), .null, .null, .null]) (st' := [.int (I 5 (xN a1)), .ref 7]) rfl ?_
    refine xepf10 rfl xsh7 (by decide) ?_
    obtain ⟨I3, hI3, h⟩ := xst_some h
    rw [← hI3]
    exact g_Reader_addRow_28 h _ _ _
  · rw [if_neg c2] at h
    refine xef_ne_f rfl c2 ?_
    exact g_Reader_addRow_28 h _ _ _
noncomputable def f_Reader_readRow (F : Nat) (I : XI) : Option (XI) :=
  if (I 7 1) < 5 then ((f_Reader_accept 100 I).bind fun q2 => (f_Reader_accept 2 q2.2).bind fun q3 => if q3.1 = 0 then (some q3.2) else ((f_Reader_accept 59 q3.2).bind fun q5 => if q5.1 = 0 then (some q5.2) else ((f_Reader_addRow F (q2.2 6 2) q5.2).bind fun q7 => some q7))) else ((f_Reader_fail 2 I).bind fun q8 => some q8)
theorem g_Reader_readRow {X : XX} {d : Nat} {L : XL} {F : Nat} {I : XI}  (r : XI) (h : f_Reader_readRow F I = some r) : xEv X (d + 2) 57 0 [.ref 6, .null] [] I L none r L := by
  rw [f_Reader_readRow] at h
  refine xeb 1 (pc' := 1) (ls' := [.ref 6, .null]) (st' := [.ref 6]) rfl ?_
  refine xegf2 rfl xsh6 (by decide) rfl ?_
  refine xegf10 rfl xsh7 (by decide) ?_
  refine xeb 1 (pc' := 8) (ls' := [.ref 6, .null]) (st' := [.int 5, .int (I 7 1)]) rfl ?_
  by_cases c1 : (I 7 1) < 5
  · rw [if_pos c1] at h
    refine xei_lt_t rfl c1 ?_
    refine xeb 2 (pc' := 20) (ls' := [.ref 6, .null]) (st' := [.int 100, .ref 6]) rfl ?_
    obtain ⟨q2, eq2, h⟩ := xbind_some h
    refine xcallV rfl xsh6 rfl rfl rfl (Nat.le_of_ble_eq_true rfl) (Nat.le_of_ble_eq_true rfl) (Nat.le_of_ble_eq_true rfl) rfl (g_Reader_accept (d := d + 0) _ eq2) ?_
    refine xeb 2 (pc' := 25) (ls' := [.ref 6, .null]) (st' := [.ref 6]) rfl ?_
    refine xegf0 rfl xsh6 (by decide) ?_
    refine xeb 3 (pc' := 31) (ls' := [.ref 6, .int (q2.2 6 2)]) (st' := [.int 2, .ref 6]) rfl ?_
    obtain ⟨q3, eq3, h⟩ := xbind_some h
    refine xcallV rfl xsh6 rfl rfl rfl (Nat.le_of_ble_eq_true rfl) (Nat.le_of_ble_eq_true rfl) (Nat.le_of_ble_eq_true rfl) rfl (g_Reader_accept (d := d + 0) _ eq3) ?_
    by_cases c4 : q3.1 = 0
    · rw [if_pos c4] at h
      refine xef_eq_t rfl c4 ?_
      obtain rfl := Option.some.inj h
      exact xevret rfl
    · rw [if_neg c4] at h
      refine xef_eq_f rfl c4 ?_
      refine xeb 2 (pc' := 40) (ls' := [.ref 6, .int (q2.2 6 2)]) (st' := [.int 59, .ref 6]) rfl ?_
      obtain ⟨q5, eq5, h⟩ := xbind_some h
      refine xcallV rfl xsh6 rfl rfl rfl (Nat.le_of_ble_eq_true rfl) (Nat.le_of_ble_eq_true rfl) (Nat.le_of_ble_eq_true rfl) rfl (g_Reader_accept (d := d + 0) _ eq5) ?_
      by_cases c6 : q5.1 = 0
      · rw [if_pos c6] at h
        refine xef_eq_t rfl c6 ?_
        obtain rfl := Option.some.inj h
        exact xevret rfl
      · rw [if_neg c6] at h
        refine xef_eq_f rfl c6 ?_
        refine xeb 2 (pc' := 48) (ls' := [.ref 6, .int (q2.2 6 2)]) (st' := [.int (q2.2 6 2), .ref 6]) rfl ?_
        obtain ⟨q7, eq7, h⟩ := xbind_some h
        refine xcallV rfl xsh6 rfl rfl rfl (Nat.le_of_ble_eq_true rfl) (Nat.le_of_ble_eq_true rfl) (Nat.le_of_ble_eq_true rfl) rfl (g_Reader_addRow (d := d + 0) _ eq7) ?_
        obtain rfl := Option.some.inj h
        exact xevret rfl
  · rw [if_neg c1] at h
    refine xei_lt_f rfl c1 ?_
    refine xeb 2 (pc' := 13) (ls' := [.ref 6, .null]) (st' := [.int 2, .ref 6]) rfl ?_
    obtain ⟨q8, eq8, h⟩ := xbind_some h
    refine xcallV rfl xsh6 rfl rfl rfl (Nat.le_of_ble_eq_true rfl) (Nat.le_of_ble_eq_true rfl) (Nat.le_of_ble_eq_true rfl) rfl (g_Reader_fail (d := d + 1) _ eq8) ?_
    obtain rfl := Option.some.inj h
    exact xevret rfl
noncomputable def f_Reader_number (a1 : Int32) (I : XI) : Option (Int32 × XI) :=
  (f_Reader_accept 3 I).bind fun q1 => if q1.1 = 0 then (some (0, q1.2)) else (xck (xin (I 6 2) 401) (if (q1.2 5 (xN (I 6 2))) ≤ a1 then (xck (xin (I 6 2) 401) (some ((q1.2 5 (xN (I 6 2))), q1.2))) else (xck (xin (I 6 2) 401) ((f_Reader_mark 5 (q1.2 4 (xN (I 6 2))) q1.2).bind fun q7 => some (0, q7)))))
theorem g_Reader_number {X : XX} {d : Nat} {L : XL} {a1 : Int32} {I : XI}  (r : Int32 × XI) (h : f_Reader_number a1 I = some r) : xEv X (d + 2) 58 0 [.ref 6, .int a1, .null] [] I L (some (.int r.1)) r.2 L := by
  rw [f_Reader_number] at h
  refine xeb 1 (pc' := 1) (ls' := [.ref 6, .int a1, .null]) (st' := [.ref 6]) rfl ?_
  refine xegf0 rfl xsh6 (by decide) ?_
  refine xeb 3 (pc' := 7) (ls' := [.ref 6, .int a1, .int (I 6 2)]) (st' := [.int 3, .ref 6]) rfl ?_
  obtain ⟨q1, eq1, h⟩ := xbind_some h
  refine xcallV rfl xsh6 rfl rfl rfl (Nat.le_of_ble_eq_true rfl) (Nat.le_of_ble_eq_true rfl) (Nat.le_of_ble_eq_true rfl) rfl (g_Reader_accept (d := d + 0) _ eq1) ?_
  by_cases c2 : q1.1 = 0
  · rw [if_pos c2] at h
    refine xef_ne_t rfl c2 ?_
    refine xeb 1 (pc' := 14) (ls' := [.ref 6, .int a1, .int (I 6 2)]) (st' := [.int 0]) rfl ?_
    obtain rfl := Option.some.inj h
    exact xeiret rfl rfl
  · rw [if_neg c2] at h
    refine xef_ne_f rfl c2 ?_
    refine xeb 1 (pc' := 16) (ls' := [.ref 6, .int a1, .int (I 6 2)]) (st' := [.ref 6]) rfl ?_
    refine xegf2 rfl xsh6 (by decide) rfl ?_
    refine xegf12 rfl xsh1 (by decide) rfl ?_
    refine xeb 1 (pc' := 23) (ls' := [.ref 6, .int a1, .int (I 6 2)]) (st' := [.int (I 6 2), .ref 5]) rfl ?_
    obtain ⟨b3, h⟩ := xck_some h
    refine xeia rfl xsh5 b3 ?_
    refine xeb 1 (pc' := 25) (ls' := [.ref 6, .int a1, .int (I 6 2)]) (st' := [.int a1, .int (q1.2 5 (xN (I 6 2)))]) rfl ?_
    by_cases c4 : (q1.2 5 (xN (I 6 2))) ≤ a1
    · rw [if_pos c4] at h
      refine xei_le_t rfl c4 ?_
      refine xeb 1 (pc' := 45) (ls' := [.ref 6, .int a1, .int (I 6 2)]) (st' := [.ref 6]) rfl ?_
      refine xegf2 rfl xsh6 (by decide) rfl ?_
      refine xegf12 rfl xsh1 (by decide) rfl ?_
      refine xeb 1 (pc' := 52) (ls' := [.ref 6, .int a1, .int (I 6 2)]) (st' := [.int (I 6 2), .ref 5]) rfl ?_
      obtain ⟨b5, h⟩ := xck_some h
      refine xeia rfl xsh5 b5 ?_
      obtain rfl := Option.some.inj h
      exact xeiret rfl rfl
    · rw [if_neg c4] at h
      refine xei_le_f rfl c4 ?_
      refine xeb 3 (pc' := 31) (ls' := [.ref 6, .int a1, .int (I 6 2)]) (st' := [.ref 6, .int 5, .ref 6]) rfl ?_
      refine xegf2 rfl xsh6 (by decide) rfl ?_
      refine xegf12 rfl xsh1 (by decide) rfl ?_
      refine xeb 1 (pc' := 38) (ls' := [.ref 6, .int a1, .int (I 6 2)]) (st' := [.int (I 6 2), .ref 4, .int 5, .ref 6]) rfl ?_
      obtain ⟨b6, h⟩ := xck_some h
      refine xeia rfl xsh4 b6 ?_
      obtain ⟨q7, eq7, h⟩ := xbind_some h
      refine xcallV rfl xsh6 rfl rfl rfl (Nat.le_of_ble_eq_true rfl) (Nat.le_of_ble_eq_true rfl) (Nat.le_of_ble_eq_true rfl) rfl (g_Reader_mark (d := d + 1) _ eq7) ?_
      refine xeb 1 (pc' := 43) (ls' := [.ref 6, .int a1, .int (I 6 2)]) (st' := [.int 0]) rfl ?_
      obtain rfl := Option.some.inj h
      exact xeiret rfl rfl
noncomputable def f_Reader_signedNumber (I : XI) : Option (Int32 × XI) :=
  (f_Reader_kind I).bind fun q1 => if q1 = 45 then ((f_Reader_accept 45 I).bind fun q3 => (f_Reader_number 3 q3.2).bind fun q4 => some ((-q4.1), q4.2)) else ((f_Reader_number 3 I).bind fun q5 => some (q5.1, q5.2))
theorem g_Reader_signedNumber {X : XX} {d : Nat} {L : XL} {I : XI}  (r : Int32 × XI) (h : f_Reader_signedNumber I = some r) : xEv X (d + 3) 59 0 [.ref 6] [] I L (some (.int r.1)) r.2 L := by
  rw [f_Reader_signedNumber] at h
  refine xeb 1 (pc' := 1) (ls' := [.ref 6]) (st' := [.ref 6]) rfl ?_
  obtain ⟨q1, eq1, h⟩ := xbind_some h
  refine xcallV rfl xsh6 rfl rfl rfl (Nat.le_of_ble_eq_true rfl) (Nat.le_of_ble_eq_true rfl) (Nat.le_of_ble_eq_true rfl) rfl (g_Reader_kind (d := d + 2) _ eq1) ?_
  refine xeb 1 (pc' := 6) (ls' := [.ref 6]) (st' := [.int 45, .int q1]) rfl ?_
  by_cases c2 : q1 = 45
  · rw [if_pos c2] at h
    refine xei_eq_t rfl c2 ?_
    refine xeb 2 (pc' := 18) (ls' := [.ref 6]) (st' := [.int 45, .ref 6]) rfl ?_
    obtain ⟨q3, eq3, h⟩ := xbind_some h
    refine xcallV rfl xsh6 rfl rfl rfl (Nat.le_of_ble_eq_true rfl) (Nat.le_of_ble_eq_true rfl) (Nat.le_of_ble_eq_true rfl) rfl (g_Reader_accept (d := d + 1) _ eq3) ?_
    refine xeb 3 (pc' := 24) (ls' := [.ref 6]) (st' := [.int 3, .ref 6]) rfl ?_
    obtain ⟨q4, eq4, h⟩ := xbind_some h
    refine xcallV rfl xsh6 rfl rfl rfl (Nat.le_of_ble_eq_true rfl) (Nat.le_of_ble_eq_true rfl) (Nat.le_of_ble_eq_true rfl) rfl (g_Reader_number (d := d + 0) _ eq4) ?_
    refine xeb 1 (pc' := 28) (ls' := [.ref 6]) (st' := [.int (-q4.1)]) rfl ?_
    obtain rfl := Option.some.inj h
    exact xeiret rfl rfl
  · rw [if_neg c2] at h
    refine xei_eq_f rfl c2 ?_
    refine xeb 2 (pc' := 11) (ls' := [.ref 6]) (st' := [.int 3, .ref 6]) rfl ?_
    obtain ⟨q5, eq5, h⟩ := xbind_some h
    refine xcallV rfl xsh6 rfl rfl rfl (Nat.le_of_ble_eq_true rfl) (Nat.le_of_ble_eq_true rfl) (Nat.le_of_ble_eq_true rfl) rfl (g_Reader_number (d := d + 0) _ eq5) ?_
    obtain rfl := Option.some.inj h
    exact xeiret rfl rfl
noncomputable def f_Reader_readKnob (I : XI) : Option (XI) :=
  if (I 6 7) < 40 then (xst (xput I 6 7 ((I 6 7) + 1)) fun I2 => (f_Reader_accept 101 I2).bind fun q3 => (f_Reader_number 5 q3.2).bind fun q4 => (f_Reader_number 4 q4.2).bind fun q5 => (f_Reader_number 3 q5.2).bind fun q6 => (f_Reader_signedNumber q6.2).bind fun q7 => (f_Reader_accept 59 q7.2).bind fun q8 => if q8.1 = 0 then (some q8.2) else (xck (xin ((((q5.1 * 6) + q4.1) * 4) + q6.1) 120) (xst (xput q8.2 9 (xN ((((q5.1 * 6) + q4.1) * 4) + q6.1)) q7.1) fun I11 => xst (xput I11 6 8 ((I11 6 8) ||| (1 <<< (((q5.1 * 6) + q4.1) &&& 31)))) fun I12 => some I12))) else ((f_Reader_fail 2 I).bind fun q13 => some q13)
theorem g_Reader_readKnob {X : XX} {d : Nat} {L : XL} {I : XI}  (r : XI) (h : f_Reader_readKnob I = some r) : xEv X (d + 4) 60 0 [.ref 6, .null, .null, .null, .null, .null] [] I L none r L := by
  rw [f_Reader_readKnob] at h
  refine xeb 1 (pc' := 1) (ls' := [.ref 6, .null, .null, .null, .null, .null]) (st' := [.ref 6]) rfl ?_
  refine xegf0 rfl xsh6 (by decide) ?_
  refine xeb 1 (pc' := 6) (ls' := [.ref 6, .null, .null, .null, .null, .null]) (st' := [.int 40, .int (I 6 7)]) rfl ?_
  by_cases c1 : (I 6 7) < 40
  · rw [if_pos c1] at h
    refine xei_lt_t rfl c1 ?_
    refine xeb 2 (pc' := 17) (ls' := [.ref 6, .null, .null, .null, .null, .null]) (st' := [.ref 6, .ref 6]) rfl ?_
    refine xegf0 rfl xsh6 (by decide) ?_
    refine xeb 2 (pc' := 22) (ls' := [.ref 6, .null, .null, .null, .null, .null]) (st' := [.int ((I 6 7) + 1), .ref 6]) rfl ?_
    refine xepf0 rfl xsh6 (by decide) ?_
    obtain ⟨I2, hI2, h⟩ := xst_some h
    rw [← hI2]
    refine xeb 2 (pc' := 28) (ls' := [.ref 6, .null, .null, .null, .null, .null]) (st' := [.int 101, .ref 6]) rfl ?_
    obtain ⟨q3, eq3, h⟩ := xbind_some h
    refine xcallV rfl xsh6 rfl rfl rfl (Nat.le_of_ble_eq_true rfl) (Nat.le_of_ble_eq_true rfl) (Nat.le_of_ble_eq_true rfl) rfl (g_Reader_accept (d := d + 2) _ eq3) ?_
    refine xeb 3 (pc' := 34) (ls' := [.ref 6, .null, .null, .null, .null, .null]) (st' := [.int 5, .ref 6]) rfl ?_
    obtain ⟨q4, eq4, h⟩ := xbind_some h
    refine xcallV rfl xsh6 rfl rfl rfl (Nat.le_of_ble_eq_true rfl) (Nat.le_of_ble_eq_true rfl) (Nat.le_of_ble_eq_true rfl) rfl (g_Reader_number (d := d + 1) _ eq4) ?_
    refine xeb 3 (pc' := 40) (ls' := [.ref 6, .int q4.1, .null, .null, .null, .null]) (st' := [.int 4, .ref 6]) rfl ?_
    obtain ⟨q5, eq5, h⟩ := xbind_some h
    refine xcallV rfl xsh6 rfl rfl rfl (Nat.le_of_ble_eq_true rfl) (Nat.le_of_ble_eq_true rfl) (Nat.le_of_ble_eq_true rfl) rfl (g_Reader_number (d := d + 1) _ eq5) ?_
    refine xeb 3 (pc' := 46) (ls' := [.ref 6, .int q4.1, .int q5.1, .null, .null, .null]) (st' := [.int 3, .ref 6]) rfl ?_
    obtain ⟨q6, eq6, h⟩ := xbind_some h
    refine xcallV rfl xsh6 rfl rfl rfl (Nat.le_of_ble_eq_true rfl) (Nat.le_of_ble_eq_true rfl) (Nat.le_of_ble_eq_true rfl) rfl (g_Reader_number (d := d + 1) _ eq6) ?_
    refine xeb 2 (pc' := 51) (ls' := [.ref 6, .int q4.1, .int q5.1, .int q6.1, .null, .null]) (st' := [.ref 6]) rfl ?_
    obtain ⟨q7, eq7, h⟩ := xbind_some h
    refine xcallV rfl xsh6 rfl rfl rfl (Nat.le_of_ble_eq_true rfl) (Nat.le_of_ble_eq_true rfl) (Nat.le_of_ble_eq_true rfl) rfl (g_Reader_signedNumber (d := d + 0) _ eq7) ?_
    refine xeb 3 (pc' := 59) (ls' := [.ref 6, .int q4.1, .int q5.1, .int q6.1, .int q7.1, .null]) (st' := [.int 59, .ref 6]) rfl ?_
    obtain ⟨q8, eq8, h⟩ := xbind_some h
    refine xcallV rfl xsh6 rfl rfl rfl (Nat.le_of_ble_eq_true rfl) (Nat.le_of_ble_eq_true rfl) (Nat.le_of_ble_eq_true rfl) rfl (g_Reader_accept (d := d + 2) _ eq8) ?_
    by_cases c9 : q8.1 = 0
    · rw [if_pos c9] at h
      refine xef_eq_t rfl c9 ?_
      obtain rfl := Option.some.inj h
      exact xevret rfl
    · rw [if_neg c9] at h
      refine xef_eq_f rfl c9 ?_
      refine xeb 7 (pc' := 74) (ls' := [.ref 6, .int q4.1, .int q5.1, .int q6.1, .int q7.1, .int ((q5.1 * 6) + q4.1)]) (st' := [.ref 6]) rfl ?_
      refine xegf2 rfl xsh6 (by decide) rfl ?_
      refine xegf12 rfl xsh7 (by decide) rfl ?_
      refine xeb 6 (pc' := 88) (ls' := [.ref 6, .int q4.1, .int q5.1, .int q6.1, .int q7.1, .int ((q5.1 * 6) + q4.1)]) (st' := [.int q7.1, .int ((((q5.1 * 6) + q4.1) * 4) + q6.1), .ref 9]) rfl ?_
      obtain ⟨b10, h⟩ := xck_some h
      refine xeis rfl xsh9 b10 ?_
      obtain ⟨I11, hI11, h⟩ := xst_some h
      rw [← hI11]
      refine xeb 2 (pc' := 91) (ls' := [.ref 6, .int q4.1, .int q5.1, .int q6.1, .int q7.1, .int ((q5.1 * 6) + q4.1)]) (st' := [.ref 6, .ref 6]) rfl ?_
      refine xegf0 rfl xsh6 (by decide) ?_
      refine xeb 4 (pc' := 99) (ls' := [.ref 6, .int q4.1, .int q5.1, .int q6.1, .int q7.1, .int ((q5.1 * 6) + q4.1)]) (st' := [.int ((I11 6 8) ||| (1 <<< (((q5.1 * 6) + q4.1) &&& 31))), .ref 6]) rfl ?_
      refine xepf0 rfl xsh6 (by decide) ?_
      obtain ⟨I12, hI12, h⟩ := xst_some h
      rw [← hI12]
      obtain rfl := Option.some.inj h
      exact xevret rfl
  · rw [if_neg c1] at h
    refine xei_lt_f rfl c1 ?_
    refine xeb 2 (pc' := 11) (ls' := [.ref 6, .null, .null, .null, .null, .null]) (st' := [.int 2, .ref 6]) rfl ?_
    obtain ⟨q13, eq13, h⟩ := xbind_some h
    refine xcallV rfl xsh6 rfl rfl rfl (Nat.le_of_ble_eq_true rfl) (Nat.le_of_ble_eq_true rfl) (Nat.le_of_ble_eq_true rfl) rfl (g_Reader_fail (d := d + 3) _ eq13) ?_
    obtain rfl := Option.some.inj h
    exact xevret rfl
noncomputable def f_Tape_sameLetters_24 (F : Nat) (I : XI) : Nat → Int32 → Int32 → Int32 → Int32 → Option (Int32)
  | 0, _, _, _, _ => none
  | n + 1, v1, v2, v3, v4 =>
    if v3 = 0 then (xck (xnarz v3) (some v3)) else (xck (xin v1 401) (if (I 5 (xN v1)) ≤ v4 then (xck (xnarz v3) (some v3)) else ((f_Tape_letter I v1 v4).bind fun q9 => (f_Tape_letter I v2 v4).bind fun q10 => f_Tape_sameLetters_24 F I n v1 v2 (if q9 = q10 then 1 else 0) (v4 + 1))))
theorem g_Tape_sameLetters_24 {X : XX} {d : Nat} {L : XL} {F : Nat} {I : XI}  {r : Int32}  : ∀ (n : Nat) (v1 : Int32) (v2 : Int32) (v3 : Int32) (v4 : Int32), f_Tape_sameLetters_24 F I n v1 v2 v3 v4 = some r → xEv X (d + 1) 61 24 [.ref 1, .int v1, .int v2, .int v3, .int v4] [] I L (some (.int r)) I L := by
  intro n
  induction n with
  | zero => intro v1 v2 v3 v4 h; rw [f_Tape_sameLetters_24] at h; cases h
  | succ n ih =>
    intro v1 v2 v3 v4 h 
    rw [f_Tape_sameLetters_24] at h
    refine xeb 1 (pc' := 25) (ls' := [.ref 1, .int v1, .int v2, .int v3, .int v4]) (st' := [.int v3]) rfl ?_
    by_cases c4 : v3 = 0
    · rw [if_pos c4] at h
      refine xef_eq_t rfl c4 ?_
      refine xeb 1 (pc' := 69) (ls' := [.ref 1, .int v1, .int v2, .int v3, .int v4]) (st' := [.int v3]) rfl ?_
      obtain ⟨b5, h⟩ := xck_some h
      obtain rfl := Option.some.inj h
      exact xeiret rfl b5
    · rw [if_neg c4] at h
      refine xef_eq_f rfl c4 ?_
      refine xeb 2 (pc' := 31) (ls' := [.ref 1, .int v1, .int v2, .int v3, .int v4]) (st' := [.ref 1, .int v4]) rfl ?_
      refine xegf2 rfl xsh1 (by decide) rfl ?_
      refine xeb 1 (pc' := 35) (ls' := [.ref 1, .int v1, .int v2, .int v3, .int v4]) (st' := [.int v1, .ref 5, .int v4]) rfl ?_
      obtain ⟨b6, h⟩ := xck_some h
      refine xeia rfl xsh5 b6 ?_
      by_cases c7 : (I 5 (xN v1)) ≤ v4
      · rw [if_pos c7] at h
        refine xei_ge_t rfl c7 ?_
        refine xeb 1 (pc' := 69) (ls' := [.ref 1, .int v1, .int v2, .int v3, .int v4]) (st' := [.int v3]) rfl ?_
        obtain ⟨b8, h⟩ := xck_some h
        obtain rfl := Option.some.inj h
        exact xeiret rfl b8
      · rw [if_neg c7] at h
        refine xei_ge_f rfl c7 ?_
        refine xeb 3 (pc' := 43) (ls' := [.ref 1, .int v1, .int v2, .int v3, .int v4]) (st' := [.int v4, .int v1, .ref 1]) rfl ?_
        obtain ⟨q9, eq9, h⟩ := xbind_some h
        refine xcallV rfl xsh1 rfl rfl rfl (Nat.le_of_ble_eq_true rfl) (Nat.le_of_ble_eq_true rfl) (Nat.le_of_ble_eq_true rfl) rfl (g_Tape_letter (d := d + 0) _ eq9) ?_
        refine xeb 3 (pc' := 50) (ls' := [.ref 1, .int v1, .int v2, .int v3, .int v4]) (st' := [.int v4, .int v2, .ref 1, .int q9]) rfl ?_
        obtain ⟨q10, eq10, h⟩ := xbind_some h
        refine xcallV rfl xsh1 rfl rfl rfl (Nat.le_of_ble_eq_true rfl) (Nat.le_of_ble_eq_true rfl) (Nat.le_of_ble_eq_true rfl) rfl (g_Tape_letter (d := d + 0) _ eq10) ?_
        have hj : xEv X (d + 1) 61 61 [.ref 1, .int v1, .int v2, .int v3, .int v4] [.int (if q9 = q10 then 1 else 0)] I L (some (.int r)) I L := by
          refine xeb 3 (pc' := 24) (ls' := [.ref 1, .int v1, .int v2, .int (if q9 = q10 then 1 else 0), .int (v4 + 1)]) (st' := []) rfl ?_
          exact ih v1 v2 (if q9 = q10 then 1 else 0) (v4 + 1) h
        by_cases c11 : q9 = q10
        · simp only [if_pos c11] at hj
          refine xei_ne_t rfl c11 ?_
          exact xeb 2 rfl hj
        · simp only [if_neg c11] at hj
          refine xei_ne_f rfl c11 ?_
          exact xeb 1 rfl hj
noncomputable def f_Tape_sameLetters (F : Nat) (I : XI) (a1 : Int32) (a2 : Int32) : Option (Int32) :=
  xck (xin a1 401) (xck (xin a2 401) (f_Tape_sameLetters_24 F I F a1 a2 (if (I 5 (xN a1)) = (I 5 (xN a2)) then 1 else 0) 0))
theorem g_Tape_sameLetters {X : XX} {d : Nat} {L : XL} {F : Nat} {I : XI} {a1 : Int32} {a2 : Int32}  (r : Int32) (h : f_Tape_sameLetters F I a1 a2 = some r) : xEv X (d + 1) 61 0 [.ref 1, .int a1, .int a2, .null, .null] [] I L (some (.int r)) I L := by
  rw [f_Tape_sameLetters] at h
  refine xeb 1 (pc' := 1) (ls' := [.ref 1, .int a1, .int a2, .null, .null]) (st' := [.ref 1]) rfl ?_
  refine xegf2 rfl xsh1 (by decide) rfl ?_
  refine xeb 1 (pc' := 5) (ls' := [.ref 1, .int a1, .int a2, .null, .null]) (st' := [.int a1, .ref 5]) rfl ?_
  obtain ⟨b1, h⟩ := xck_some h
  refine xeia rfl xsh5 b1 ?_
  refine xeb 1 (pc' := 7) (ls' := [.ref 1, .int a1, .int a2, .null, .null]) (st' := [.ref 1, .int (I 5 (xN a1))]) rfl ?_
  refine xegf2 rfl xsh1 (by decide) rfl ?_
  refine xeb 1 (pc' := 11) (ls' := [.ref 1, .int a1, .int a2, .null, .null]) (st' := [.int a2, .ref 5, .int (I 5 (xN a1))]) rfl ?_
  obtain ⟨b2, h⟩ := xck_some h
  refine xeia rfl xsh5 b2 ?_
  have hj : xEv X (d + 1) 61 20 [.ref 1, .int a1, .int a2, .null, .null] [.int (if (I 5 (xN a1)) = (I 5 (xN a2)) then 1 else 0)] I L (some (.int r)) I L := by
    refine xeb 3 (pc' := 24) (ls' := [.ref 1, .int a1, .int a2, .int (if (I 5 (xN a1)) = (I 5 (xN a2)) then 1 else 0), .int 0]) (st' := []) rfl ?_
    exact g_Tape_sameLetters_24 F a1 a2 (if (I 5 (xN a1)) = (I 5 (xN a2)) then 1 else 0) 0 h
  by_cases c3 : (I 5 (xN a1)) = (I 5 (xN a2))
  · simp only [if_pos c3] at hj
    refine xei_ne_t rfl c3 ?_
    exact xeb 2 rfl hj
  · simp only [if_neg c3] at hj
    refine xei_ne_f rfl c3 ?_
    exact xeb 1 rfl hj
noncomputable def f_Reader_addSpareName_2 (F : Nat) : Nat → Int32 → Int32 → XI → Option (XI)
  | 0, _, _, _ => none
  | n + 1, v1, v2, I =>
    if (I 7 2) ≤ v2 then (xck (xin (I 7 2) 5) (xst (xput I 16 (xN (I 7 2)) v1) fun I3 => some I3)) else (xck (xin v2 5) ((f_Tape_sameLetters F I v1 (I 16 (xN v2))).bind fun q5 => if q5 = 0 then (f_Reader_addSpareName_2 F n v1 (v2 + 1) I) else (xck (xin v1 401) ((f_Reader_mark 3 (I 4 (xN v1)) I).bind fun q8 => f_Reader_addSpareName_2 F n v1 (v2 + 1) q8))))
theorem g_Reader_addSpareName_2 {X : XX} {d : Nat} {L : XL} {F : Nat}  {r : XI}  : ∀ (n : Nat) (v1 : Int32) (v2 : Int32) (I : XI), f_Reader_addSpareName_2 F n v1 v2 I = some r → xEv X (d + 2) 62 2 [.ref 6, .int v1, .int v2] [] I L none r L := by
  intro n
  induction n with
  | zero => intro v1 v2 I h; rw [f_Reader_addSpareName_2] at h; cases h
  | succ n ih =>
    intro v1 v2 I h 
    rw [f_Reader_addSpareName_2] at h
    refine xeb 2 (pc' := 4) (ls' := [.ref 6, .int v1, .int v2]) (st' := [.ref 6, .int v2]) rfl ?_
    refine xegf2 rfl xsh6 (by decide) rfl ?_
    refine xegf10 rfl xsh7 (by decide) ?_
    by_cases c1 : (I 7 2) ≤ v2
    · rw [if_pos c1] at h
      refine xei_ge_t rfl c1 ?_
      refine xeb 1 (pc' := 51) (ls' := [.ref 6, .int v1, .int v2]) (st' := [.ref 6]) rfl ?_
      refine xegf2 rfl xsh6 (by decide) rfl ?_
      refine xeb 1 (pc' := 55) (ls' := [.ref 6, .int v1, .int v2]) (st' := [.ref 6, .ref 16]) rfl ?_
      refine xegf2 rfl xsh6 (by decide) rfl ?_
      refine xegf10 rfl xsh7 (by decide) ?_
      refine xeb 1 (pc' := 62) (ls' := [.ref 6, .int v1, .int v2]) (st' := [.int v1, .int (I 7 2), .ref 16]) rfl ?_
      obtain ⟨b2, h⟩ := xck_some h
      refine xeis rfl xsh16 b2 ?_
      obtain ⟨I3, hI3, h⟩ := xst_some h
      rw [← hI3]
      obtain rfl := Option.some.inj h
      exact xevret rfl
    · rw [if_neg c1] at h
      refine xei_ge_f rfl c1 ?_
      refine xeb 1 (pc' := 14) (ls' := [.ref 6, .int v1, .int v2]) (st' := [.ref 6]) rfl ?_
      refine xegf2 rfl xsh6 (by decide) rfl ?_
      refine xeb 2 (pc' := 19) (ls' := [.ref 6, .int v1, .int v2]) (st' := [.ref 6, .int v1, .ref 1]) rfl ?_
      refine xegf2 rfl xsh6 (by decide) rfl ?_
      refine xeb 1 (pc' := 23) (ls' := [.ref 6, .int v1, .int v2]) (st' := [.int v2, .ref 16, .int v1, .ref 1]) rfl ?_
      obtain ⟨b4, h⟩ := xck_some h
      refine xeia rfl xsh16 b4 ?_
      obtain ⟨q5, eq5, h⟩ := xbind_some h
      refine xcallV rfl xsh1 rfl rfl rfl (Nat.le_of_ble_eq_true rfl) (Nat.le_of_ble_eq_true rfl) (Nat.le_of_ble_eq_true rfl) rfl (g_Tape_sameLetters (d := d + 0) _ eq5) ?_
      by_cases c6 : q5 = 0
      · rw [if_pos c6] at h
        refine xef_eq_t rfl c6 ?_
        refine xeb 2 (pc' := 2) (ls' := [.ref 6, .int v1, .int (v2 + 1)]) (st' := []) rfl ?_
        exact ih v1 (v2 + 1) I h
      · rw [if_neg c6] at h
        refine xef_eq_f rfl c6 ?_
        refine xeb 3 (pc' := 33) (ls' := [.ref 6, .int v1, .int v2]) (st' := [.ref 6, .int 3, .ref 6]) rfl ?_
        refine xegf2 rfl xsh6 (by decide) rfl ?_
        refine xegf12 rfl xsh1 (by decide) rfl ?_
        refine xeb 1 (pc' := 40) (ls' := [.ref 6, .int v1, .int v2]) (st' := [.int v1, .ref 4, .int 3, .ref 6]) rfl ?_
        obtain ⟨b7, h⟩ := xck_some h
        refine xeia rfl xsh4 b7 ?_
        obtain ⟨q8, eq8, h⟩ := xbind_some h
        refine xcallV rfl xsh6 rfl rfl rfl (Nat.le_of_ble_eq_true rfl) (Nat.le_of_ble_eq_true rfl) (Nat.le_of_ble_eq_true rfl) rfl (g_Reader_mark (d := d + 1) _ eq8) ?_
        refine xeb 2 (pc' := 2) (ls' := [.ref 6, .int v1, .int (v2 + 1)]) (st' := []) rfl ?_
        exact ih v1 (v2 + 1) q8 h
noncomputable def f_Reader_addSpareName (F : Nat) (a1 : Int32) (I : XI) : Option (XI) :=
  f_Reader_addSpareName_2 F F a1 0 I
theorem g_Reader_addSpareName {X : XX} {d : Nat} {L : XL} {F : Nat} {a1 : Int32} {I : XI}  (r : XI) (h : f_Reader_addSpareName F a1 I = some r) : xEv X (d + 2) 62 0 [.ref 6, .int a1, .null] [] I L none r L := by
  rw [f_Reader_addSpareName] at h
  refine xeb 2 (pc' := 2) (ls' := [.ref 6, .int a1, .int 0]) (st' := []) rfl ?_
  exact g_Reader_addSpareName_2 F a1 0 I h
noncomputable def f_Reader_readSpare_91 (F : Nat) (I : XI) : Option (XI) :=
  (f_Reader_accept 59 I).bind fun q5 => some q5.2
theorem g_Reader_readSpare_91 {X : XX} {d : Nat} {L : XL} {F : Nat}  {r : XI}  {I : XI} (h : f_Reader_readSpare_91 F I = some r) (z1 : Value) (z2 : Value) : xEv X (d + 4) 63 91 [.ref 6, z1, z2] [] I L none r L := by
  rw [f_Reader_readSpare_91] at h
  refine xeb 2 (pc' := 94) (ls' := [.ref 6, z1, z2]) (st' := [.int 59, .ref 6]) rfl ?_
  obtain ⟨q5, eq5, h⟩ := xbind_some h
  refine xcallV rfl xsh6 rfl rfl rfl (Nat.le_of_ble_eq_true rfl) (Nat.le_of_ble_eq_true rfl) (Nat.le_of_ble_eq_true rfl) rfl (g_Reader_accept (d := d + 2) _ eq5) ?_
  refine xeb 1 (pc' := 98) (ls' := [.ref 6, z1, z2]) (st' := []) rfl ?_
  obtain rfl := Option.some.inj h
  exact xevret rfl
noncomputable def f_Reader_readSpare_44 (F : Nat) (k91 : XI → Option (XI)) : Nat → Int32 → XI → Option (XI)
  | 0, _, _ => none
  | n + 1, v2, I =>
    if 4 ≤ v2 then (xst (xput I 7 2 ((I 7 2) + 1)) fun I8 => k91 I8) else ((f_Reader_signedNumber I).bind fun q9 => xck (xin (((I 7 2) * 4) + v2) 20) (xst (xput q9.2 10 (xN (((I 7 2) * 4) + v2)) q9.1) fun I11 => f_Reader_readSpare_44 F k91 n (v2 + 1) I11))
theorem g_Reader_readSpare_44 {X : XX} {d : Nat} {L : XL} {F : Nat} {k91 : XI → Option (XI)}  {r : XI} (hk91 : ∀ (I : XI), k91 I = some r → ∀ (z1 : Value) (z2 : Value), xEv X (d + 4) 63 91 [.ref 6, z1, z2] [] I L none r L) : ∀ (n : Nat) (v2 : Int32) (I : XI), f_Reader_readSpare_44 F k91 n v2 I = some r → ∀ (z1 : Value), xEv X (d + 4) 63 44 [.ref 6, z1, .int v2] [] I L none r L := by
  intro n
  induction n with
  | zero => intro v2 I h; rw [f_Reader_readSpare_44] at h; cases h
  | succ n ih =>
    intro v2 I h z1
    rw [f_Reader_readSpare_44] at h
    refine xeb 2 (pc' := 46) (ls' := [.ref 6, z1, .int v2]) (st' := [.int 4, .int v2]) rfl ?_
    by_cases c7 : 4 ≤ v2
    · rw [if_pos c7] at h
      refine xei_ge_t rfl c7 ?_
      refine xeb 1 (pc' := 79) (ls' := [.ref 6, z1, .int v2]) (st' := [.ref 6]) rfl ?_
      refine xegf2 rfl xsh6 (by decide) rfl ?_
      refine xeb 1 (pc' := 83) (ls' := [.ref 6, z1, .int v2]) (st' := [.ref 7, .ref 7]) rfl ?_
      refine xegf10 rfl xsh7 (by decide) ?_
      refine xeb 2 (pc' := 88) (ls' := [.ref 6, z1, .int v2]) (st' := [.int ((I 7 2) + 1), .ref 7]) rfl ?_
      refine xepf10 rfl xsh7 (by decide) ?_
      obtain ⟨I8, hI8, h⟩ := xst_some h
      rw [← hI8]
      exact hk91 I8 h _ _
    · rw [if_neg c7] at h
      refine xei_ge_f rfl c7 ?_
      refine xeb 1 (pc' := 50) (ls' := [.ref 6, z1, .int v2]) (st' := [.ref 6]) rfl ?_
      refine xegf2 rfl xsh6 (by decide) rfl ?_
      refine xegf12 rfl xsh7 (by decide) rfl ?_
      refine xeb 1 (pc' := 57) (ls' := [.ref 6, z1, .int v2]) (st' := [.ref 6, .ref 10]) rfl ?_
      refine xegf2 rfl xsh6 (by decide) rfl ?_
      refine xegf10 rfl xsh7 (by decide) ?_
      refine xeb 5 (pc' := 68) (ls' := [.ref 6, z1, .int v2]) (st' := [.ref 6, .int (((I 7 2) * 4) + v2), .ref 10]) rfl ?_
      obtain ⟨q9, eq9, h⟩ := xbind_some h
      refine xcallV rfl xsh6 rfl rfl rfl (Nat.le_of_ble_eq_true rfl) (Nat.le_of_ble_eq_true rfl) (Nat.le_of_ble_eq_true rfl) rfl (g_Reader_signedNumber (d := d + 0) _ eq9) ?_
      obtain ⟨b10, h⟩ := xck_some h
      refine xeis rfl xsh10 b10 ?_
      obtain ⟨I11, hI11, h⟩ := xst_some h
      rw [← hI11]
      refine xeb 2 (pc' := 44) (ls' := [.ref 6, (xkv z1), .int (v2 + 1)]) (st' := []) rfl ?_
      exact ih (v2 + 1) I11 h _
noncomputable def f_Reader_readSpare (F : Nat) (I : XI) : Option (XI) :=
  if (I 7 2) < 5 then ((f_Reader_accept 102 I).bind fun q2 => (f_Reader_accept 2 q2.2).bind fun q3 => if q3.1 = 0 then (f_Reader_readSpare_91 F q3.2) else ((f_Reader_addSpareName F (q2.2 6 2) q3.2).bind fun q6 => f_Reader_readSpare_44 F (fun I => f_Reader_readSpare_91 F I) F 0 q6)) else ((f_Reader_fail 2 I).bind fun q12 => some q12)
theorem g_Reader_readSpare {X : XX} {d : Nat} {L : XL} {F : Nat} {I : XI}  (r : XI) (h : f_Reader_readSpare F I = some r) : xEv X (d + 4) 63 0 [.ref 6, .null, .null] [] I L none r L := by
  rw [f_Reader_readSpare] at h
  refine xeb 1 (pc' := 1) (ls' := [.ref 6, .null, .null]) (st' := [.ref 6]) rfl ?_
  refine xegf2 rfl xsh6 (by decide) rfl ?_
  refine xegf10 rfl xsh7 (by decide) ?_
  refine xeb 1 (pc' := 8) (ls' := [.ref 6, .null, .null]) (st' := [.int 5, .int (I 7 2)]) rfl ?_
  by_cases c1 : (I 7 2) < 5
  · rw [if_pos c1] at h
    refine xei_lt_t rfl c1 ?_
    refine xeb 2 (pc' := 20) (ls' := [.ref 6, .null, .null]) (st' := [.int 102, .ref 6]) rfl ?_
    obtain ⟨q2, eq2, h⟩ := xbind_some h
    refine xcallV rfl xsh6 rfl rfl rfl (Nat.le_of_ble_eq_true rfl) (Nat.le_of_ble_eq_true rfl) (Nat.le_of_ble_eq_true rfl) rfl (g_Reader_accept (d := d + 2) _ eq2) ?_
    refine xeb 2 (pc' := 25) (ls' := [.ref 6, .null, .null]) (st' := [.ref 6]) rfl ?_
    refine xegf0 rfl xsh6 (by decide) ?_
    refine xeb 3 (pc' := 31) (ls' := [.ref 6, .int (q2.2 6 2), .null]) (st' := [.int 2, .ref 6]) rfl ?_
    obtain ⟨q3, eq3, h⟩ := xbind_some h
    refine xcallV rfl xsh6 rfl rfl rfl (Nat.le_of_ble_eq_true rfl) (Nat.le_of_ble_eq_true rfl) (Nat.le_of_ble_eq_true rfl) rfl (g_Reader_accept (d := d + 2) _ eq3) ?_
    by_cases c4 : q3.1 = 0
    · rw [if_pos c4] at h
      refine xef_eq_t rfl c4 ?_
      exact g_Reader_readSpare_91 h _ _
    · rw [if_neg c4] at h
      refine xef_eq_f rfl c4 ?_
      refine xeb 2 (pc' := 39) (ls' := [.ref 6, .int (q2.2 6 2), .null]) (st' := [.int (q2.2 6 2), .ref 6]) rfl ?_
      obtain ⟨q6, eq6, h⟩ := xbind_some h
      refine xcallV rfl xsh6 rfl rfl rfl (Nat.le_of_ble_eq_true rfl) (Nat.le_of_ble_eq_true rfl) (Nat.le_of_ble_eq_true rfl) rfl (g_Reader_addSpareName (d := d + 1) _ eq6) ?_
      refine xeb 2 (pc' := 44) (ls' := [.ref 6, .int (q2.2 6 2), .int 0]) (st' := []) rfl ?_
      exact g_Reader_readSpare_44 (fun I h' z1 z2 => g_Reader_readSpare_91 h' z1 z2) F 0 q6 h _
  · rw [if_neg c1] at h
    refine xei_lt_f rfl c1 ?_
    refine xeb 2 (pc' := 13) (ls' := [.ref 6, .null, .null]) (st' := [.int 2, .ref 6]) rfl ?_
    obtain ⟨q12, eq12, h⟩ := xbind_some h
    refine xcallV rfl xsh6 rfl rfl rfl (Nat.le_of_ble_eq_true rfl) (Nat.le_of_ble_eq_true rfl) (Nat.le_of_ble_eq_true rfl) rfl (g_Reader_fail (d := d + 3) _ eq12) ?_
    obtain rfl := Option.some.inj h
    exact xevret rfl
noncomputable def f_Laws_aim (S0 : Nat) (a1 : Int32) (I : XI) : Option (XI) :=
  if 420 ≤ a1 then (some I) else (xck (xin a1 420) (xst (xput I (S0 + 1) (xN a1) (30000 + (I S0 1))) fun I3 => some I3))
theorem g_Laws_aim {X : XX} {d : Nat} {L : XL} {S0 : Nat} {a1 : Int32} {I : XI} (hS0 : xisLw S0) (r : XI) (h : f_Laws_aim S0 a1 I = some r) : xEv X (d + 0) 67 0 [.ref S0, .int a1] [] I L none r L := by
  rw [f_Laws_aim] at h
  refine xeb 2 (pc' := 4) (ls' := [.ref S0, .int a1]) (st' := [.int 420, .int a1]) rfl ?_
  by_cases c1 : 420 ≤ a1
  · rw [if_pos c1] at h
    refine xei_ge_t rfl c1 ?_
    obtain rfl := Option.some.inj h
    exact xevret rfl
  · rw [if_neg c1] at h
    refine xei_ge_f rfl c1 ?_
    refine xeb 1 (pc' := 8) (ls' := [.ref S0, .int a1]) (st' := [.ref S0]) rfl ?_
    refine xegf2 rfl hS0.1 (by decide) rfl ?_
    refine xeb 3 (pc' := 16) (ls' := [.ref S0, .int a1]) (st' := [.ref S0, .int 30000, .int a1, .ref (S0 + 1)]) rfl ?_
    refine xegf0 rfl hS0.1 (by decide) ?_
    refine xeb 1 (pc' := 20) (ls' := [.ref S0, .int a1]) (st' := [.int (30000 + (I S0 1)), .int a1, .ref (S0 + 1)]) rfl ?_
    obtain ⟨b2, h⟩ := xck_some h
    refine xeis rfl hS0.2.1 b2 ?_
    obtain ⟨I3, hI3, h⟩ := xst_some h
    rw [← hI3]
    obtain rfl := Option.some.inj h
    exact xevret rfl
noncomputable def f_Reader_readOneNumber (a1 : Int32) (a2 : Int32) (I : XI) : Option (Int32 × XI) :=
  (f_Reader_accept a1 I).bind fun q1 => (f_Reader_number a2 q1.2).bind fun q2 => (f_Reader_accept 59 q2.2).bind fun q3 => some (q2.1, q3.2)
theorem g_Reader_readOneNumber {X : XX} {d : Nat} {L : XL} {a1 : Int32} {a2 : Int32} {I : XI}  (r : Int32 × XI) (h : f_Reader_readOneNumber a1 a2 I = some r) : xEv X (d + 3) 69 0 [.ref 6, .int a1, .int a2, .null] [] I L (some (.int r.1)) r.2 L := by
  rw [f_Reader_readOneNumber] at h
  refine xeb 2 (pc' := 2) (ls' := [.ref 6, .int a1, .int a2, .null]) (st' := [.int a1, .ref 6]) rfl ?_
  obtain ⟨q1, eq1, h⟩ := xbind_some h
  refine xcallV rfl xsh6 rfl rfl rfl (Nat.le_of_ble_eq_true rfl) (Nat.le_of_ble_eq_true rfl) (Nat.le_of_ble_eq_true rfl) rfl (g_Reader_accept (d := d + 1) _ eq1) ?_
  refine xeb 3 (pc' := 8) (ls' := [.ref 6, .int a1, .int a2, .null]) (st' := [.int a2, .ref 6]) rfl ?_
  obtain ⟨q2, eq2, h⟩ := xbind_some h
  refine xcallV rfl xsh6 rfl rfl rfl (Nat.le_of_ble_eq_true rfl) (Nat.le_of_ble_eq_true rfl) (Nat.le_of_ble_eq_true rfl) rfl (g_Reader_number (d := d + 0) _ eq2) ?_
  refine xeb 3 (pc' := 15) (ls' := [.ref 6, .int a1, .int a2, .int q2.1]) (st' := [.int 59, .ref 6]) rfl ?_
  obtain ⟨q3, eq3, h⟩ := xbind_some h
  refine xcallV rfl xsh6 rfl rfl rfl (Nat.le_of_ble_eq_true rfl) (Nat.le_of_ble_eq_true rfl) (Nat.le_of_ble_eq_true rfl) rfl (g_Reader_accept (d := d + 1) _ eq3) ?_
  refine xeb 2 (pc' := 20) (ls' := [.ref 6, .int a1, .int a2, .int q2.1]) (st' := [.int q2.1]) rfl ?_
  obtain rfl := Option.some.inj h
  exact xeiret rfl rfl
noncomputable def f_Table_isPiece (S0 : Nat) (I : XI) (a1 : Int32) : Option (Int32) :=
  if (I S0 0) ≤ (a1 - a1 / 6 * 6) then (some 0) else (if (I S0 1) ≤ (a1 / 6) then (some 0) else (xck (xin a1 30) (xck (xnarz (if (I (S0 + 1) (xN a1)) = 9 then 0 else 1)) (some (if (I (S0 + 1) (xN a1)) = 9 then 0 else 1)))))
theorem g_Table_isPiece {X : XX} {d : Nat} {L : XL} {S0 : Nat} {I : XI} {a1 : Int32} (hS0 : xisTb S0) (r : Int32) (h : f_Table_isPiece S0 I a1 = some r) : xEv X (d + 0) 70 0 [.ref S0, .int a1] [] I L (some (.int r)) I L := by
  rw [f_Table_isPiece] at h
  refine xeb 4 (pc' := 5) (ls' := [.ref S0, .int a1]) (st' := [.ref S0, .int (a1 - a1 / 6 * 6)]) rfl ?_
  refine xegf0 rfl hS0.1 (by decide) ?_
  by_cases c1 : (I S0 0) ≤ (a1 - a1 / 6 * 6)
  · rw [if_pos c1] at h
    refine xei_ge_t rfl c1 ?_
    refine xeb 1 (pc' := 38) (ls' := [.ref S0, .int a1]) (st' := [.int 0]) rfl ?_
    obtain rfl := Option.some.inj h
    exact xeiret rfl rfl
  · rw [if_neg c1] at h
    refine xei_ge_f rfl c1 ?_
    refine xeb 4 (pc' := 16) (ls' := [.ref S0, .int a1]) (st' := [.ref S0, .int (a1 / 6)]) rfl ?_
    refine xegf0 rfl hS0.1 (by decide) ?_
    by_cases c2 : (I S0 1) ≤ (a1 / 6)
    · rw [if_pos c2] at h
      refine xei_ge_t rfl c2 ?_
      refine xeb 1 (pc' := 38) (ls' := [.ref S0, .int a1]) (st' := [.int 0]) rfl ?_
      obtain rfl := Option.some.inj h
      exact xeiret rfl rfl
    · rw [if_neg c2] at h
      refine xei_ge_f rfl c2 ?_
      refine xeb 1 (pc' := 23) (ls' := [.ref S0, .int a1]) (st' := [.ref S0]) rfl ?_
      refine xegf2 rfl hS0.1 (by decide) rfl ?_
      refine xeb 1 (pc' := 27) (ls' := [.ref S0, .int a1]) (st' := [.int a1, .ref (S0 + 1)]) rfl ?_
      obtain ⟨b3, h⟩ := xck_some h
      refine xeia rfl hS0.2.1 b3 ?_
      refine xeb 1 (pc' := 30) (ls' := [.ref S0, .int a1]) (st' := [.int 9, .int (I (S0 + 1) (xN a1))]) rfl ?_
      have hj : xEv X (d + 0) 70 38 [.ref S0, .int a1] [.int (if (I (S0 + 1) (xN a1)) = 9 then 0 else 1)] I L (some (.int r)) I L := by
        obtain ⟨b5, h⟩ := xck_some h
        obtain rfl := Option.some.inj h
        exact xeiret rfl b5
      by_cases c4 : (I (S0 + 1) (xN a1)) = 9
      · simp only [if_pos c4] at hj
        refine xei_eq_t rfl c4 ?_
        exact xeb 1 rfl hj
      · simp only [if_neg c4] at hj
        refine xei_eq_f rfl c4 ?_
        exact xeb 2 rfl hj
noncomputable def f_Reader_knobsAstray_4 (F : Nat) (I : XI) : Nat → Int32 → Int32 → Option (Int32)
  | 0, _, _ => none
  | n + 1, v1, v2 =>
    if 30 ≤ v2 then (xck (xnarz v1) (some v1)) else (if v1 = 0 then (if (((I 6 8) >>> (v2 &&& 31)) &&& 1) = 1 then ((f_Table_isPiece 7 I v2).bind fun q5 => f_Reader_knobsAstray_4 F I n (if q5 = 0 then 1 else 0) (v2 + 1)) else (f_Reader_knobsAstray_4 F I n 0 (v2 + 1))) else (xck (xnarz v1) (some v1)))
theorem g_Reader_knobsAstray_4 {X : XX} {d : Nat} {L : XL} {F : Nat} {I : XI}  {r : Int32}  : ∀ (n : Nat) (v1 : Int32) (v2 : Int32), f_Reader_knobsAstray_4 F I n v1 v2 = some r → xEv X (d + 1) 71 4 [.ref 6, .int v1, .int v2] [] I L (some (.int r)) I L := by
  intro n
  induction n with
  | zero => intro v1 v2 h; rw [f_Reader_knobsAstray_4] at h; cases h
  | succ n ih =>
    intro v1 v2 h 
    rw [f_Reader_knobsAstray_4] at h
    refine xeb 2 (pc' := 7) (ls' := [.ref 6, .int v1, .int v2]) (st' := [.int 30, .int v2]) rfl ?_
    by_cases c1 : 30 ≤ v2
    · rw [if_pos c1] at h
      refine xei_ge_t rfl c1 ?_
      refine xeb 1 (pc' := 50) (ls' := [.ref 6, .int v1, .int v2]) (st' := [.int v1]) rfl ?_
      obtain ⟨b2, h⟩ := xck_some h
      obtain rfl := Option.some.inj h
      exact xeiret rfl b2
    · rw [if_neg c1] at h
      refine xei_ge_f rfl c1 ?_
      refine xeb 1 (pc' := 11) (ls' := [.ref 6, .int v1, .int v2]) (st' := [.int v1]) rfl ?_
      by_cases c3 : v1 = 0
      · rw [if_pos c3] at h
        refine xef_ne_t rfl c3 ?_
        refine xeb 1 (pc' := 15) (ls' := [.ref 6, .int v1, .int v2]) (st' := [.ref 6]) rfl ?_
        refine xegf0 rfl xsh6 (by decide) ?_
        refine xeb 5 (pc' := 23) (ls' := [.ref 6, .int v1, .int v2]) (st' := [.int 1, .int (((I 6 8) >>> (v2 &&& 31)) &&& 1)]) rfl ?_
        by_cases c4 : (((I 6 8) >>> (v2 &&& 31)) &&& 1) = 1
        · rw [if_pos c4] at h
          refine xei_ne_t rfl c4 ?_
          refine xeb 1 (pc' := 27) (ls' := [.ref 6, .int v1, .int v2]) (st' := [.ref 6]) rfl ?_
          refine xegf2 rfl xsh6 (by decide) rfl ?_
          refine xeb 1 (pc' := 31) (ls' := [.ref 6, .int v1, .int v2]) (st' := [.int v2, .ref 7]) rfl ?_
          obtain ⟨q5, eq5, h⟩ := xbind_some h
          refine xcallV rfl xsh7 rfl rfl rfl (Nat.le_of_ble_eq_true rfl) (Nat.le_of_ble_eq_true rfl) (Nat.le_of_ble_eq_true rfl) rfl (g_Table_isPiece (d := d + 0) xis7 _ eq5) ?_
          have hj : xEv X (d + 1) 71 42 [.ref 6, .int v1, .int v2] [.int (if q5 = 0 then 1 else 0)] I L (some (.int r)) I L := by
            refine xeb 3 (pc' := 4) (ls' := [.ref 6, .int (if q5 = 0 then 1 else 0), .int (v2 + 1)]) (st' := []) rfl ?_
            exact ih (if q5 = 0 then 1 else 0) (v2 + 1) h
          by_cases c6 : q5 = 0
          · simp only [if_pos c6] at hj
            refine xef_ne_t rfl c6 ?_
            exact xeb 2 rfl hj
          · simp only [if_neg c6] at hj
            refine xef_ne_f rfl c6 ?_
            exact xeb 1 rfl hj
        · rw [if_neg c4] at h
          refine xei_ne_f rfl c4 ?_
          refine xeb 4 (pc' := 4) (ls' := [.ref 6, .int 0, .int (v2 + 1)]) (st' := []) rfl ?_
          exact ih 0 (v2 + 1) h
      · rw [if_neg c3] at h
        refine xef_ne_f rfl c3 ?_
        refine xeb 1 (pc' := 50) (ls' := [.ref 6, .int v1, .int v2]) (st' := [.int v1]) rfl ?_
        obtain ⟨b7, h⟩ := xck_some h
        obtain rfl := Option.some.inj h
        exact xeiret rfl b7
noncomputable def f_Reader_knobsAstray (F : Nat) (I : XI) : Option (Int32) :=
  f_Reader_knobsAstray_4 F I F 0 0
theorem g_Reader_knobsAstray {X : XX} {d : Nat} {L : XL} {F : Nat} {I : XI}  (r : Int32) (h : f_Reader_knobsAstray F I = some r) : xEv X (d + 1) 71 0 [.ref 6, .null, .null] [] I L (some (.int r)) I L := by
  rw [f_Reader_knobsAstray] at h
  refine xeb 4 (pc' := 4) (ls' := [.ref 6, .int 0, .int 0]) (st' := []) rfl ?_
  exact g_Reader_knobsAstray_4 F 0 0 h
