/-! the methods as functions, and that a run answers so (by gen6.py) -/
noncomputable def f_Arrays_fill_5 (F : Nat) (A0 nA0 : Nat) : Nat → Int32 → Int32 → Int32 → XI → Option (XI)
  | 0, _, _, _, _ => none
  | n + 1, v1, v2, v3, I =>
    if v3 ≤ v2 then (some I) else (xck (xin v2 nA0) (xst (xput I A0 (xN v2) v1) fun I3 => f_Arrays_fill_5 F A0 nA0 n v1 (v2 + 1) v3 I3))
theorem g_Arrays_fill_5 {X : XX} {d : Nat} {L : XL} {F : Nat} {A0 nA0 : Nat} (hA0 : xSH[A0]? = some (0, nA0, [])) {r : XI}  : ∀ (n : Nat) (v1 : Int32) (v2 : Int32) (v3 : Int32) (I : XI), f_Arrays_fill_5 F A0 nA0 n v1 v2 v3 I = some r → xEv X (d + 0) 2 5 [.ref A0, .int v1, .int v2, .int v3] [] I L none r L := by
  intro n
  induction n with
  | zero => intro v1 v2 v3 I h; rw [f_Arrays_fill_5] at h; cases h
  | succ n ih =>
    intro v1 v2 v3 I h 
    rw [f_Arrays_fill_5] at h
    refine xeb 2 (pc' := 7) (ls' := [.ref A0, .int v1, .int v2, .int v3]) (st' := [.int v3, .int v2]) rfl ?_
    by_cases c1 : v3 ≤ v2
    · rw [if_pos c1] at h
      refine xei_ge_t rfl c1 ?_
      obtain rfl := Option.some.inj h
      exact xevret rfl
    · rw [if_neg c1] at h
      refine xei_ge_f rfl c1 ?_
      refine xeb 3 (pc' := 13) (ls' := [.ref A0, .int v1, .int v2, .int v3]) (st' := [.int v1, .int v2, .ref A0]) rfl ?_
      obtain ⟨b2, h⟩ := xck_some h
      refine xeis rfl hA0 b2 ?_
      obtain ⟨I3, hI3, h⟩ := xst_some h
      rw [← hI3]
      refine xeb 2 (pc' := 5) (ls' := [.ref A0, .int v1, .int (v2 + 1), .int v3]) (st' := []) rfl ?_
      exact ih v1 (v2 + 1) v3 I3 h
noncomputable def f_Arrays_fill (F : Nat) (A0 nA0 : Nat) (a1 : Int32) (I : XI) : Option (XI) :=
  f_Arrays_fill_5 F A0 nA0 F a1 0 (Int32.ofNat nA0) I
theorem g_Arrays_fill {X : XX} {d : Nat} {L : XL} {F : Nat} {A0 nA0 : Nat} {a1 : Int32} {I : XI} (hA0 : xSH[A0]? = some (0, nA0, [])) (r : XI) (h : f_Arrays_fill F A0 nA0 a1 I = some r) : xEv X (d + 0) 2 0 [.ref A0, .int a1, .null, .null] [] I L none r L := by
  rw [f_Arrays_fill] at h
  refine xeb 3 (pc' := 3) (ls' := [.ref A0, .int a1, .int 0, .null]) (st' := [.ref A0]) rfl ?_
  refine xelen rfl hA0 (by decide) ?_
  refine xeb 1 (pc' := 5) (ls' := [.ref A0, .int a1, .int 0, .int (Int32.ofNat nA0)]) (st' := []) rfl ?_
  exact g_Arrays_fill_5 hA0 F a1 0 (Int32.ofNat nA0) I h
noncomputable def f_Laws_emit (S0 : Nat) (a1 : Int32) (I : XI) : Option (XI) :=
  if 420 ≤ (I S0 1) then (some I) else (xck (xin (I S0 1) 420) (xst (xput I (S0 + 1) (xN (I S0 1)) a1) fun I3 => xst (xput I3 S0 1 ((I3 S0 1) + 1)) fun I4 => some I4))
theorem g_Laws_emit {X : XX} {d : Nat} {L : XL} {S0 : Nat} {a1 : Int32} {I : XI} (hS0 : xisLw S0) (r : XI) (h : f_Laws_emit S0 a1 I = some r) : xEv X (d + 0) 3 0 [.ref S0, .int a1] [] I L none r L := by
  rw [f_Laws_emit] at h
  refine xeb 1 (pc' := 1) (ls' := [.ref S0, .int a1]) (st' := [.ref S0]) rfl ?_
  refine xegf0 rfl hS0.1 (by decide) ?_
  refine xeb 1 (pc' := 7) (ls' := [.ref S0, .int a1]) (st' := [.int 420, .int (I S0 1)]) rfl ?_
  by_cases c1 : 420 ≤ (I S0 1)
  · rw [if_pos c1] at h
    refine xei_ge_t rfl c1 ?_
    obtain rfl := Option.some.inj h
    exact xevret rfl
  · rw [if_neg c1] at h
    refine xei_ge_f rfl c1 ?_
    refine xeb 1 (pc' := 11) (ls' := [.ref S0, .int a1]) (st' := [.ref S0]) rfl ?_
    refine xegf2 rfl hS0.1 (by decide) rfl ?_
    refine xeb 1 (pc' := 15) (ls' := [.ref S0, .int a1]) (st' := [.ref S0, .ref (S0 + 1)]) rfl ?_
    refine xegf0 rfl hS0.1 (by decide) ?_
    refine xeb 1 (pc' := 19) (ls' := [.ref S0, .int a1]) (st' := [.int a1, .int (I S0 1), .ref (S0 + 1)]) rfl ?_
    obtain ⟨b2, h⟩ := xck_some h
    refine xeis rfl hS0.2.1 b2 ?_
    obtain ⟨I3, hI3, h⟩ := xst_some h
    rw [← hI3]
    refine xeb 2 (pc' := 22) (ls' := [.ref S0, .int a1]) (st' := [.ref S0, .ref S0]) rfl ?_
    refine xegf0 rfl hS0.1 (by decide) ?_
    refine xeb 2 (pc' := 27) (ls' := [.ref S0, .int a1]) (st' := [.int ((I3 S0 1) + 1), .ref S0]) rfl ?_
    refine xepf0 rfl hS0.1 (by decide) ?_
    obtain ⟨I4, hI4, h⟩ := xst_some h
    rw [← hI4]
    obtain rfl := Option.some.inj h
    exact xevret rfl
noncomputable def f_Laws_setConstant (S0 : Nat) (a1 : Int32) (a2 : Int32) (I : XI) : Option (XI) :=
  xck (xin a1 4) (xst (xput I (S0 + 2) (xN a1) (I S0 1)) fun I2 => (f_Laws_emit S0 a2 I2).bind fun q3 => (f_Laws_emit S0 20000 q3).bind fun q4 => some q4)
theorem g_Laws_setConstant {X : XX} {d : Nat} {L : XL} {S0 : Nat} {a1 : Int32} {a2 : Int32} {I : XI} (hS0 : xisLw S0) (r : XI) (h : f_Laws_setConstant S0 a1 a2 I = some r) : xEv X (d + 1) 4 0 [.ref S0, .int a1, .int a2] [] I L none r L := by
  rw [f_Laws_setConstant] at h
  refine xeb 1 (pc' := 1) (ls' := [.ref S0, .int a1, .int a2]) (st' := [.ref S0]) rfl ?_
  refine xegf2 rfl hS0.1 (by decide) rfl ?_
  refine xeb 2 (pc' := 6) (ls' := [.ref S0, .int a1, .int a2]) (st' := [.ref S0, .int a1, .ref (S0 + 2)]) rfl ?_
  refine xegf0 rfl hS0.1 (by decide) ?_
  obtain ⟨b1, h⟩ := xck_some h
  refine xeis rfl hS0.2.2.1 b1 ?_
  obtain ⟨I2, hI2, h⟩ := xst_some h
  rw [← hI2]
  refine xeb 2 (pc' := 12) (ls' := [.ref S0, .int a1, .int a2]) (st' := [.int a2, .ref S0]) rfl ?_
  obtain ⟨q3, eq3, h⟩ := xbind_some h
  refine xcallV rfl hS0.1 rfl rfl rfl (Nat.le_of_ble_eq_true rfl) (Nat.le_of_ble_eq_true rfl) (Nat.le_of_ble_eq_true rfl) rfl (g_Laws_emit (d := d + 0) hS0 _ eq3) ?_
  refine xeb 2 (pc' := 19) (ls' := [.ref S0, .int a1, .int a2]) (st' := [.int 20000, .ref S0]) rfl ?_
  obtain ⟨q4, eq4, h⟩ := xbind_some h
  refine xcallV rfl hS0.1 rfl rfl rfl (Nat.le_of_ble_eq_true rfl) (Nat.le_of_ble_eq_true rfl) (Nat.le_of_ble_eq_true rfl) rfl (g_Laws_emit (d := d + 0) hS0 _ eq4) ?_
  obtain rfl := Option.some.inj h
  exact xevret rfl
noncomputable def f_Laws_clear (S0 : Nat) (I : XI) : Option (XI) :=
  xst (xput I S0 1 0) fun I1 => (f_Laws_setConstant S0 0 1 I1).bind fun q2 => (f_Laws_setConstant S0 1 10006 q2).bind fun q3 => (f_Laws_setConstant S0 2 1 q3).bind fun q4 => (f_Laws_setConstant S0 3 50 q4).bind fun q5 => some q5
theorem g_Laws_clear {X : XX} {d : Nat} {L : XL} {S0 : Nat} {I : XI} (hS0 : xisLw S0) (r : XI) (h : f_Laws_clear S0 I = some r) : xEv X (d + 2) 5 0 [.ref S0] [] I L none r L := by
  rw [f_Laws_clear] at h
  refine xeb 2 (pc' := 2) (ls' := [.ref S0]) (st' := [.int 0, .ref S0]) rfl ?_
  refine xepf0 rfl hS0.1 (by decide) ?_
  obtain ⟨I1, hI1, h⟩ := xst_some h
  rw [← hI1]
  refine xeb 3 (pc' := 8) (ls' := [.ref S0]) (st' := [.int 1, .int 0, .ref S0]) rfl ?_
  obtain ⟨q2, eq2, h⟩ := xbind_some h
  refine xcallV rfl hS0.1 rfl rfl rfl (Nat.le_of_ble_eq_true rfl) (Nat.le_of_ble_eq_true rfl) (Nat.le_of_ble_eq_true rfl) rfl (g_Laws_setConstant (d := d + 0) hS0 _ eq2) ?_
  refine xeb 3 (pc' := 16) (ls' := [.ref S0]) (st' := [.int 10006, .int 1, .ref S0]) rfl ?_
  obtain ⟨q3, eq3, h⟩ := xbind_some h
  refine xcallV rfl hS0.1 rfl rfl rfl (Nat.le_of_ble_eq_true rfl) (Nat.le_of_ble_eq_true rfl) (Nat.le_of_ble_eq_true rfl) rfl (g_Laws_setConstant (d := d + 0) hS0 _ eq3) ?_
  refine xeb 3 (pc' := 22) (ls' := [.ref S0]) (st' := [.int 1, .int 2, .ref S0]) rfl ?_
  obtain ⟨q4, eq4, h⟩ := xbind_some h
  refine xcallV rfl hS0.1 rfl rfl rfl (Nat.le_of_ble_eq_true rfl) (Nat.le_of_ble_eq_true rfl) (Nat.le_of_ble_eq_true rfl) rfl (g_Laws_setConstant (d := d + 0) hS0 _ eq4) ?_
  refine xeb 3 (pc' := 29) (ls' := [.ref S0]) (st' := [.int 50, .int 3, .ref S0]) rfl ?_
  obtain ⟨q5, eq5, h⟩ := xbind_some h
  refine xcallV rfl hS0.1 rfl rfl rfl (Nat.le_of_ble_eq_true rfl) (Nat.le_of_ble_eq_true rfl) (Nat.le_of_ble_eq_true rfl) rfl (g_Laws_setConstant (d := d + 0) hS0 _ eq5) ?_
  obtain rfl := Option.some.inj h
  exact xevret rfl
noncomputable def f_Table_clear (F : Nat) (S0 : Nat) (I : XI) : Option (XI) :=
  xst (xput I S0 0 0) fun I1 => xst (xput I1 S0 1 0) fun I2 => xst (xput I2 S0 2 0) fun I3 => xst (xput I3 S0 3 0) fun I4 => xst (xput I4 S0 4 0) fun I5 => (f_Arrays_fill F (S0 + 2) 120 0 I5).bind fun q6 => (f_Laws_clear (S0 + 4) q6).bind fun q7 => some q7
theorem g_Table_clear {X : XX} {d : Nat} {L : XL} {F : Nat} {S0 : Nat} {I : XI} (hS0 : xisTb S0) (r : XI) (h : f_Table_clear F S0 I = some r) : xEv X (d + 3) 6 0 [.ref S0] [] I L none r L := by
  rw [f_Table_clear] at h
  refine xeb 2 (pc' := 2) (ls' := [.ref S0]) (st' := [.int 0, .ref S0]) rfl ?_
  refine xepf0 rfl hS0.1 (by decide) ?_
  obtain ⟨I1, hI1, h⟩ := xst_some h
  rw [← hI1]
  refine xeb 2 (pc' := 7) (ls' := [.ref S0]) (st' := [.int 0, .ref S0]) rfl ?_
  refine xepf0 rfl hS0.1 (by decide) ?_
  obtain ⟨I2, hI2, h⟩ := xst_some h
  rw [← hI2]
  refine xeb 2 (pc' := 12) (ls' := [.ref S0]) (st' := [.int 0, .ref S0]) rfl ?_
  refine xepf0 rfl hS0.1 (by decide) ?_
  obtain ⟨I3, hI3, h⟩ := xst_some h
  rw [← hI3]
  refine xeb 2 (pc' := 17) (ls' := [.ref S0]) (st' := [.int 0, .ref S0]) rfl ?_
  refine xepf0 rfl hS0.1 (by decide) ?_
  obtain ⟨I4, hI4, h⟩ := xst_some h
  rw [← hI4]
  refine xeb 2 (pc' := 22) (ls' := [.ref S0]) (st' := [.int 0, .ref S0]) rfl ?_
  refine xepf0 rfl hS0.1 (by decide) ?_
  obtain ⟨I5, hI5, h⟩ := xst_some h
  rw [← hI5]
  refine xeb 1 (pc' := 26) (ls' := [.ref S0]) (st' := [.ref S0]) rfl ?_
  refine xegf2 rfl hS0.1 (by decide) rfl ?_
  refine xeb 1 (pc' := 30) (ls' := [.ref S0]) (st' := [.int 0, .ref (S0 + 2)]) rfl ?_
  obtain ⟨q6, eq6, h⟩ := xbind_some h
  refine xcallS20 rfl rfl rfl (Nat.le_of_ble_eq_true rfl) (Nat.le_of_ble_eq_true rfl) (Nat.le_of_ble_eq_true rfl) rfl (g_Arrays_fill (d := d + 2) hS0.2.2.1 _ eq6) ?_
  refine xeb 1 (pc' := 34) (ls' := [.ref S0]) (st' := [.ref S0]) rfl ?_
  refine xegf2 rfl hS0.1 (by decide) rfl ?_
  obtain ⟨q7, eq7, h⟩ := xbind_some h
  refine xcallV rfl hS0.2.2.2.2.1 rfl rfl rfl (Nat.le_of_ble_eq_true rfl) (Nat.le_of_ble_eq_true rfl) (Nat.le_of_ble_eq_true rfl) rfl (g_Laws_clear (d := d + 0) hS0.2.2.2.2 _ eq7) ?_
  obtain rfl := Option.some.inj h
  exact xevret rfl
noncomputable def f_State_clear (F : Nat) (S0 : Nat) (I : XI) : Option (XI) :=
  (f_Arrays_fill F (S0 + 1) 30 (-2) I).bind fun q1 => xst (xput q1 S0 1 0) fun I2 => xst (xput I2 S0 2 0) fun I3 => xst (xput I3 S0 3 0) fun I4 => some I4
theorem g_State_clear {X : XX} {d : Nat} {L : XL} {F : Nat} {S0 : Nat} {I : XI} (hS0 : xisSt S0) (r : XI) (h : f_State_clear F S0 I = some r) : xEv X (d + 1) 9 0 [.ref S0] [] I L none r L := by
  rw [f_State_clear] at h
  refine xeb 1 (pc' := 1) (ls' := [.ref S0]) (st' := [.ref S0]) rfl ?_
  refine xegf2 rfl hS0.1 (by decide) rfl ?_
  refine xeb 1 (pc' := 6) (ls' := [.ref S0]) (st' := [.int (-2), .ref (S0 + 1)]) rfl ?_
  obtain ⟨q1, eq1, h⟩ := xbind_some h
  refine xcallS20 rfl rfl rfl (Nat.le_of_ble_eq_true rfl) (Nat.le_of_ble_eq_true rfl) (Nat.le_of_ble_eq_true rfl) rfl (g_Arrays_fill (d := d + 0) hS0.2 _ eq1) ?_
  refine xeb 2 (pc' := 11) (ls' := [.ref S0]) (st' := [.int 0, .ref S0]) rfl ?_
  refine xepf0 rfl hS0.1 (by decide) ?_
  obtain ⟨I2, hI2, h⟩ := xst_some h
  rw [← hI2]
  refine xeb 2 (pc' := 16) (ls' := [.ref S0]) (st' := [.int 0, .ref S0]) rfl ?_
  refine xepf0 rfl hS0.1 (by decide) ?_
  obtain ⟨I3, hI3, h⟩ := xst_some h
  rw [← hI3]
  refine xeb 2 (pc' := 21) (ls' := [.ref S0]) (st' := [.int 0, .ref S0]) rfl ?_
  refine xepf0 rfl hS0.1 (by decide) ?_
  obtain ⟨I4, hI4, h⟩ := xst_some h
  rw [← hI4]
  obtain rfl := Option.some.inj h
  exact xevret rfl
noncomputable def f_M_plain_70 (F : Nat) : Nat → Int32 → Int32 → XI → Option (XI)
  | 0, _, _, _ => none
  | n + 1, v1, v2, I =>
    if 4 ≤ v2 then (some I) else (xck (xin ((4 * v1) + v2) 8) (xst (xput I 150 (xN ((4 * v1) + v2)) 0) fun I16 => xck (xin ((4 * v1) + v2) 8) (xst (xput I16 151 (xN ((4 * v1) + v2)) 0) fun I18 => f_M_plain_70 F n v1 (v2 + 1) I18)))
theorem g_M_plain_70 {X : XX} {d : Nat} {L : XL} {F : Nat}  {r : XI}  : ∀ (n : Nat) (v1 : Int32) (v2 : Int32) (I : XI), f_M_plain_70 F n v1 v2 I = some r → xEv X (d + 0) 18 70 [.ref 131, .int v1, .int v2] [] I L none r L := by
  intro n
  induction n with
  | zero => intro v1 v2 I h; rw [f_M_plain_70] at h; cases h
  | succ n ih =>
    intro v1 v2 I h 
    rw [f_M_plain_70] at h
    refine xeb 2 (pc' := 72) (ls' := [.ref 131, .int v1, .int v2]) (st' := [.int 4, .int v2]) rfl ?_
    by_cases c14 : 4 ≤ v2
    · rw [if_pos c14] at h
      refine xei_ge_t rfl c14 ?_
      obtain rfl := Option.some.inj h
      exact xevret rfl
    · rw [if_neg c14] at h
      refine xei_ge_f rfl c14 ?_
      refine xeb 1 (pc' := 76) (ls' := [.ref 131, .int v1, .int v2]) (st' := [.ref 131]) rfl ?_
      refine xegf2 rfl xsh131 (by decide) rfl ?_
      refine xeb 6 (pc' := 85) (ls' := [.ref 131, .int v1, .int v2]) (st' := [.int 0, .int ((4 * v1) + v2), .ref 150]) rfl ?_
      obtain ⟨b15, h⟩ := xck_some h
      refine xeis rfl xsh150 b15 ?_
      obtain ⟨I16, hI16, h⟩ := xst_some h
      rw [← hI16]
      refine xeb 1 (pc' := 87) (ls' := [.ref 131, .int v1, .int v2]) (st' := [.ref 131]) rfl ?_
      refine xegf2 rfl xsh131 (by decide) rfl ?_
      refine xeb 6 (pc' := 96) (ls' := [.ref 131, .int v1, .int v2]) (st' := [.int 0, .int ((4 * v1) + v2), .ref 151]) rfl ?_
      obtain ⟨b17, h⟩ := xck_some h
      refine xeis rfl xsh151 b17 ?_
      obtain ⟨I18, hI18, h⟩ := xst_some h
      rw [← hI18]
      refine xeb 2 (pc' := 70) (ls' := [.ref 131, .int v1, .int (v2 + 1)]) (st' := []) rfl ?_
      exact ih v1 (v2 + 1) I18 h
noncomputable def f_M_plain_44 (F : Nat) : Nat → Int32 → Int32 → XI → Option (XI)
  | 0, _, _, _ => none
  | n + 1, v1, v2, I =>
    if 120 ≤ v2 then (f_M_plain_70 F F v1 0 I) else (xck (xin ((120 * v1) + v2) 240) (xst (xput I 143 (xN ((120 * v1) + v2)) 0) fun I20 => f_M_plain_44 F n v1 (v2 + 1) I20))
theorem g_M_plain_44 {X : XX} {d : Nat} {L : XL} {F : Nat}  {r : XI}  : ∀ (n : Nat) (v1 : Int32) (v2 : Int32) (I : XI), f_M_plain_44 F n v1 v2 I = some r → xEv X (d + 0) 18 44 [.ref 131, .int v1, .int v2] [] I L none r L := by
  intro n
  induction n with
  | zero => intro v1 v2 I h; rw [f_M_plain_44] at h; cases h
  | succ n ih =>
    intro v1 v2 I h 
    rw [f_M_plain_44] at h
    refine xeb 2 (pc' := 47) (ls' := [.ref 131, .int v1, .int v2]) (st' := [.int 120, .int v2]) rfl ?_
    by_cases c13 : 120 ≤ v2
    · rw [if_pos c13] at h
      refine xei_ge_t rfl c13 ?_
      refine xeb 2 (pc' := 70) (ls' := [.ref 131, .int v1, .int 0]) (st' := []) rfl ?_
      exact g_M_plain_70 F v1 0 I h
    · rw [if_neg c13] at h
      refine xei_ge_f rfl c13 ?_
      refine xeb 1 (pc' := 51) (ls' := [.ref 131, .int v1, .int v2]) (st' := [.ref 131]) rfl ?_
      refine xegf2 rfl xsh131 (by decide) rfl ?_
      refine xeb 6 (pc' := 61) (ls' := [.ref 131, .int v1, .int v2]) (st' := [.int 0, .int ((120 * v1) + v2), .ref 143]) rfl ?_
      obtain ⟨b19, h⟩ := xck_some h
      refine xeis rfl xsh143 b19 ?_
      obtain ⟨I20, hI20, h⟩ := xst_some h
      rw [← hI20]
      refine xeb 2 (pc' := 44) (ls' := [.ref 131, .int v1, .int (v2 + 1)]) (st' := []) rfl ?_
      exact ih v1 (v2 + 1) I20 h
noncomputable def f_M_plain (F : Nat) (a1 : Int32) (I : XI) : Option (XI) :=
  xck (xin a1 2) (xst (xput I 140 (xN a1) 0) fun I2 => xck (xin a1 2) (xst (xput I2 141 (xN a1) 0) fun I4 => xck (xin a1 2) (xst (xput I4 144 (xN a1) 0) fun I6 => xck (xin a1 2) (xst (xput I6 146 (xN a1) 0) fun I8 => xck (xin a1 2) (xst (xput I8 148 (xN a1) 0) fun I10 => xck (xin a1 2) (xst (xput I10 149 (xN a1) 0) fun I12 => f_M_plain_44 F F a1 0 I12))))))
theorem g_M_plain {X : XX} {d : Nat} {L : XL} {F : Nat} {a1 : Int32} {I : XI}  (r : XI) (h : f_M_plain F a1 I = some r) : xEv X (d + 0) 18 0 [.ref 131, .int a1, .null] [] I L none r L := by
  rw [f_M_plain] at h
  refine xeb 1 (pc' := 1) (ls' := [.ref 131, .int a1, .null]) (st' := [.ref 131]) rfl ?_
  refine xegf2 rfl xsh131 (by decide) rfl ?_
  refine xeb 2 (pc' := 6) (ls' := [.ref 131, .int a1, .null]) (st' := [.int 0, .int a1, .ref 140]) rfl ?_
  obtain ⟨b1, h⟩ := xck_some h
  refine xeis rfl xsh140 b1 ?_
  obtain ⟨I2, hI2, h⟩ := xst_some h
  rw [← hI2]
  refine xeb 1 (pc' := 8) (ls' := [.ref 131, .int a1, .null]) (st' := [.ref 131]) rfl ?_
  refine xegf2 rfl xsh131 (by decide) rfl ?_
  refine xeb 2 (pc' := 13) (ls' := [.ref 131, .int a1, .null]) (st' := [.int 0, .int a1, .ref 141]) rfl ?_
  obtain ⟨b3, h⟩ := xck_some h
  refine xeis rfl xsh141 b3 ?_
  obtain ⟨I4, hI4, h⟩ := xst_some h
  rw [← hI4]
  refine xeb 1 (pc' := 15) (ls' := [.ref 131, .int a1, .null]) (st' := [.ref 131]) rfl ?_
  refine xegf2 rfl xsh131 (by decide) rfl ?_
  refine xeb 2 (pc' := 20) (ls' := [.ref 131, .int a1, .null]) (st' := [.int 0, .int a1, .ref 144]) rfl ?_
  obtain ⟨b5, h⟩ := xck_some h
  refine xeis rfl xsh144 b5 ?_
  obtain ⟨I6, hI6, h⟩ := xst_some h
  rw [← hI6]
  refine xeb 1 (pc' := 22) (ls' := [.ref 131, .int a1, .null]) (st' := [.ref 131]) rfl ?_
  refine xegf2 rfl xsh131 (by decide) rfl ?_
  refine xeb 2 (pc' := 27) (ls' := [.ref 131, .int a1, .null]) (st' := [.int 0, .int a1, .ref 146]) rfl ?_
  obtain ⟨b7, h⟩ := xck_some h
  refine xeis rfl xsh146 b7 ?_
  obtain ⟨I8, hI8, h⟩ := xst_some h
  rw [← hI8]
  refine xeb 1 (pc' := 29) (ls' := [.ref 131, .int a1, .null]) (st' := [.ref 131]) rfl ?_
  refine xegf2 rfl xsh131 (by decide) rfl ?_
  refine xeb 2 (pc' := 34) (ls' := [.ref 131, .int a1, .null]) (st' := [.int 0, .int a1, .ref 148]) rfl ?_
  obtain ⟨b9, h⟩ := xck_some h
  refine xeis rfl xsh148 b9 ?_
  obtain ⟨I10, hI10, h⟩ := xst_some h
  rw [← hI10]
  refine xeb 1 (pc' := 36) (ls' := [.ref 131, .int a1, .null]) (st' := [.ref 131]) rfl ?_
  refine xegf2 rfl xsh131 (by decide) rfl ?_
  refine xeb 2 (pc' := 41) (ls' := [.ref 131, .int a1, .null]) (st' := [.int 0, .int a1, .ref 149]) rfl ?_
  obtain ⟨b11, h⟩ := xck_some h
  refine xeis rfl xsh149 b11 ?_
  obtain ⟨I12, hI12, h⟩ := xst_some h
  rw [← hI12]
  refine xeb 2 (pc' := 44) (ls' := [.ref 131, .int a1, .int 0]) (st' := []) rfl ?_
  exact g_M_plain_44 F a1 0 I12 h
noncomputable def f_M_appends (a0 : Int64) (a2 : Int32) : Option (Int64) :=
  if a2 = 0 then (some a0) else (some (((27 : Int32).toInt64 * a0) + (Int32.toInt64 ((a2 - 97) + 1))))
theorem g_M_appends {X : XX} {d : Nat} {I : XI} {L : XL} {a0 : Int64} {a2 : Int32}  (r : Int64) (h : f_M_appends a0 a2 = some r) : xEv X (d + 0) 19 0 [.long a0, .null, .int a2] [] I L (some (.long r)) I L := by
  rw [f_M_appends] at h
  refine xeb 1 (pc' := 1) (ls' := [.long a0, .null, .int a2]) (st' := [.int a2]) rfl ?_
  by_cases c1 : a2 = 0
  · rw [if_pos c1] at h
    refine xef_ne_t rfl c1 ?_
    refine xeb 2 (pc' := 21) (ls' := [.long a0, .null, .int a2]) (st' := [.long a0]) rfl ?_
    obtain rfl := Option.some.inj h
    exact xelret rfl
  · rw [if_neg c1] at h
    refine xef_ne_f rfl c1 ?_
    refine xeb 10 (pc' := 21) (ls' := [.long a0, .null, .int a2]) (st' := [.long (((27 : Int32).toInt64 * a0) + (Int32.toInt64 ((a2 - 97) + 1)))]) rfl ?_
    obtain rfl := Option.some.inj h
    exact xelret rfl
noncomputable def f_M_word (a0 : Int32) (a1 : Int32) (a2 : Int32) (a3 : Int32) (a4 : Int32) (a5 : Int32) (a6 : Int32) : Option (Int64) :=
  (f_M_appends ((0 : Int32).toInt64) a0).bind fun q1 => (f_M_appends q1 a1).bind fun q2 => (f_M_appends q2 a2).bind fun q3 => (f_M_appends q3 a3).bind fun q4 => (f_M_appends q4 a4).bind fun q5 => (f_M_appends q5 a5).bind fun q6 => (f_M_appends q6 a6).bind fun q7 => some q7
theorem g_M_word {X : XX} {d : Nat} {I : XI} {L : XL} {a0 : Int32} {a1 : Int32} {a2 : Int32} {a3 : Int32} {a4 : Int32} {a5 : Int32} {a6 : Int32}  (r : Int64) (h : f_M_word a0 a1 a2 a3 a4 a5 a6 = some r) : xEv X (d + 1) 20 0 [.int a0, .int a1, .int a2, .int a3, .int a4, .int a5, .int a6] [] I L (some (.long r)) I L := by
  rw [f_M_word] at h
  refine xeb 2 (pc' := 2) (ls' := [.int a0, .int a1, .int a2, .int a3, .int a4, .int a5, .int a6]) (st' := [.int a0, .long (0 : Int32).toInt64]) rfl ?_
  obtain ⟨q1, eq1, h⟩ := xbind_some h
  refine xcallS20 rfl rfl rfl (Nat.le_of_ble_eq_true rfl) (Nat.le_of_ble_eq_true rfl) (Nat.le_of_ble_eq_true rfl) rfl (g_M_appends (d := d + 0) _ eq1) ?_
  refine xeb 1 (pc' := 6) (ls' := [.int a0, .int a1, .int a2, .int a3, .int a4, .int a5, .int a6]) (st' := [.int a1, .long q1]) rfl ?_
  obtain ⟨q2, eq2, h⟩ := xbind_some h
  refine xcallS20 rfl rfl rfl (Nat.le_of_ble_eq_true rfl) (Nat.le_of_ble_eq_true rfl) (Nat.le_of_ble_eq_true rfl) rfl (g_M_appends (d := d + 0) _ eq2) ?_
  refine xeb 1 (pc' := 10) (ls' := [.int a0, .int a1, .int a2, .int a3, .int a4, .int a5, .int a6]) (st' := [.int a2, .long q2]) rfl ?_
  obtain ⟨q3, eq3, h⟩ := xbind_some h
  refine xcallS20 rfl rfl rfl (Nat.le_of_ble_eq_true rfl) (Nat.le_of_ble_eq_true rfl) (Nat.le_of_ble_eq_true rfl) rfl (g_M_appends (d := d + 0) _ eq3) ?_
  refine xeb 1 (pc' := 14) (ls' := [.int a0, .int a1, .int a2, .int a3, .int a4, .int a5, .int a6]) (st' := [.int a3, .long q3]) rfl ?_
  obtain ⟨q4, eq4, h⟩ := xbind_some h
  refine xcallS20 rfl rfl rfl (Nat.le_of_ble_eq_true rfl) (Nat.le_of_ble_eq_true rfl) (Nat.le_of_ble_eq_true rfl) rfl (g_M_appends (d := d + 0) _ eq4) ?_
  refine xeb 1 (pc' := 19) (ls' := [.int a0, .int a1, .int a2, .int a3, .int a4, .int a5, .int a6]) (st' := [.int a4, .long q4]) rfl ?_
  obtain ⟨q5, eq5, h⟩ := xbind_some h
  refine xcallS20 rfl rfl rfl (Nat.le_of_ble_eq_true rfl) (Nat.le_of_ble_eq_true rfl) (Nat.le_of_ble_eq_true rfl) rfl (g_M_appends (d := d + 0) _ eq5) ?_
  refine xeb 1 (pc' := 24) (ls' := [.int a0, .int a1, .int a2, .int a3, .int a4, .int a5, .int a6]) (st' := [.int a5, .long q5]) rfl ?_
  obtain ⟨q6, eq6, h⟩ := xbind_some h
  refine xcallS20 rfl rfl rfl (Nat.le_of_ble_eq_true rfl) (Nat.le_of_ble_eq_true rfl) (Nat.le_of_ble_eq_true rfl) rfl (g_M_appends (d := d + 0) _ eq6) ?_
  refine xeb 1 (pc' := 29) (ls' := [.int a0, .int a1, .int a2, .int a3, .int a4, .int a5, .int a6]) (st' := [.int a6, .long q6]) rfl ?_
  obtain ⟨q7, eq7, h⟩ := xbind_some h
  refine xcallS20 rfl rfl rfl (Nat.le_of_ble_eq_true rfl) (Nat.le_of_ble_eq_true rfl) (Nat.le_of_ble_eq_true rfl) rfl (g_M_appends (d := d + 0) _ eq7) ?_
  obtain rfl := Option.some.inj h
  exact xelret rfl
noncomputable def f_M_begins_2 (F : Nat) : Nat → Int32 → XI → Option (XI)
  | 0, _, _ => none
  | n + 1, v1, I =>
    if 33 ≤ v1 then (xck (xin (I 131 18) 2) (xst (xput I 131 50 (I 149 (xN (I 131 18)))) fun I3 => some I3)) else (xck (xin v1 33) (xst (xput I 163 (xN v1) 0) fun I5 => f_M_begins_2 F n (v1 + 1) I5))
theorem g_M_begins_2 {X : XX} {d : Nat} {L : XL} {F : Nat}  {r : XI}  : ∀ (n : Nat) (v1 : Int32) (I : XI), f_M_begins_2 F n v1 I = some r → xEv X (d + 0) 21 2 [.ref 131, .int v1] [] I L none r L := by
  intro n
  induction n with
  | zero => intro v1 I h; rw [f_M_begins_2] at h; cases h
  | succ n ih =>
    intro v1 I h 
    rw [f_M_begins_2] at h
    refine xeb 2 (pc' := 5) (ls' := [.ref 131, .int v1]) (st' := [.int 33, .int v1]) rfl ?_
    by_cases c1 : 33 ≤ v1
    · rw [if_pos c1] at h
      refine xei_ge_t rfl c1 ?_
      refine xeb 2 (pc' := 23) (ls' := [.ref 131, .int v1]) (st' := [.ref 131, .ref 131]) rfl ?_
      refine xegf2 rfl xsh131 (by decide) rfl ?_
      refine xeb 1 (pc' := 27) (ls' := [.ref 131, .int v1]) (st' := [.ref 131, .ref 149, .ref 131]) rfl ?_
      refine xegf0 rfl xsh131 (by decide) ?_
      obtain ⟨b2, h⟩ := xck_some h
      refine xeia rfl xsh149 b2 ?_
      refine xepf0 rfl xsh131 (by decide) ?_
      obtain ⟨I3, hI3, h⟩ := xst_some h
      rw [← hI3]
      obtain rfl := Option.some.inj h
      exact xevret rfl
    · rw [if_neg c1] at h
      refine xei_ge_f rfl c1 ?_
      refine xeb 1 (pc' := 9) (ls' := [.ref 131, .int v1]) (st' := [.ref 131]) rfl ?_
      refine xegf2 rfl xsh131 (by decide) rfl ?_
      refine xeb 2 (pc' := 14) (ls' := [.ref 131, .int v1]) (st' := [.int 0, .int v1, .ref 163]) rfl ?_
      obtain ⟨b4, h⟩ := xck_some h
      refine xeis rfl xsh163 b4 ?_
      obtain ⟨I5, hI5, h⟩ := xst_some h
      rw [← hI5]
      refine xeb 2 (pc' := 2) (ls' := [.ref 131, .int (v1 + 1)]) (st' := []) rfl ?_
      exact ih (v1 + 1) I5 h
noncomputable def f_M_begins (F : Nat) (I : XI) : Option (XI) :=
  f_M_begins_2 F F 0 I
theorem g_M_begins {X : XX} {d : Nat} {L : XL} {F : Nat} {I : XI}  (r : XI) (h : f_M_begins F I = some r) : xEv X (d + 0) 21 0 [.ref 131, .null] [] I L none r L := by
  rw [f_M_begins] at h
  refine xeb 2 (pc' := 2) (ls' := [.ref 131, .int 0]) (st' := []) rfl ?_
  exact g_M_begins_2 F 0 I h
noncomputable def f_M_keepsRow_2 (F : Nat) : Nat → Int32 → XI → Option (XI)
  | 0, _, _ => none
  | n + 1, v1, I =>
    if 33 ≤ v1 then (some I) else (xck (xin v1 33) (xck (xin v1 33) (xst (xput I 162 (xN v1) (I 163 (xN v1))) fun I4 => f_M_keepsRow_2 F n (v1 + 1) I4)))
theorem g_M_keepsRow_2 {X : XX} {d : Nat} {L : XL} {F : Nat}  {r : XI}  : ∀ (n : Nat) (v1 : Int32) (I : XI), f_M_keepsRow_2 F n v1 I = some r → xEv X (d + 0) 22 2 [.ref 131, .int v1] [] I L none r L := by
  intro n
  induction n with
  | zero => intro v1 I h; rw [f_M_keepsRow_2] at h; cases h
  | succ n ih =>
    intro v1 I h 
    rw [f_M_keepsRow_2] at h
    refine xeb 2 (pc' := 5) (ls' := [.ref 131, .int v1]) (st' := [.int 33, .int v1]) rfl ?_
    by_cases c1 : 33 ≤ v1
    · rw [if_pos c1] at h
      refine xei_ge_t rfl c1 ?_
      obtain rfl := Option.some.inj h
      exact xevret rfl
    · rw [if_neg c1] at h
      refine xei_ge_f rfl c1 ?_
      refine xeb 1 (pc' := 9) (ls' := [.ref 131, .int v1]) (st' := [.ref 131]) rfl ?_
      refine xegf2 rfl xsh131 (by decide) rfl ?_
      refine xeb 2 (pc' := 14) (ls' := [.ref 131, .int v1]) (st' := [.ref 131, .int v1, .ref 162]) rfl ?_
      refine xegf2 rfl xsh131 (by decide) rfl ?_
      refine xeb 1 (pc' := 18) (ls' := [.ref 131, .int v1]) (st' := [.int v1, .ref 163, .int v1, .ref 162]) rfl ?_
      obtain ⟨b2, h⟩ := xck_some h
      refine xeia rfl xsh163 b2 ?_
      obtain ⟨b3, h⟩ := xck_some h
      refine xeis rfl xsh162 b3 ?_
      obtain ⟨I4, hI4, h⟩ := xst_some h
      rw [← hI4]
      refine xeb 2 (pc' := 2) (ls' := [.ref 131, .int (v1 + 1)]) (st' := []) rfl ?_
      exact ih (v1 + 1) I4 h
noncomputable def f_M_keepsRow (F : Nat) (I : XI) : Option (XI) :=
  f_M_keepsRow_2 F F 0 I
theorem g_M_keepsRow {X : XX} {d : Nat} {L : XL} {F : Nat} {I : XI}  (r : XI) (h : f_M_keepsRow F I = some r) : xEv X (d + 0) 22 0 [.ref 131, .null] [] I L none r L := by
  rw [f_M_keepsRow] at h
  refine xeb 2 (pc' := 2) (ls' := [.ref 131, .int 0]) (st' := []) rfl ?_
  exact g_M_keepsRow_2 F 0 I h
noncomputable def f_Tape_addFour_3 (F : Nat) : Nat → Int32 → Int32 → XI → Option (XI)
  | 0, _, _, _ => none
  | n + 1, v1, v2, I =>
    if v2 < 0 then (some I) else (if 2000 ≤ (I 1 1) then (some I) else (xck (xin (I 1 1) 2000) (xst (xput I 2 (xN (I 1 1)) ((Int32.toInt8 ((Int32.toInt8 ((Int32.toUInt32 v1 >>> (Int32.toUInt32 v2 &&& Int32.toUInt32 31)).toInt32)).toInt32)).toInt32)) fun I4 => xst (xput I4 1 1 ((I4 1 1) + 1)) fun I5 => f_Tape_addFour_3 F n v1 (v2 + (-8)) I5)))
theorem g_Tape_addFour_3 {X : XX} {d : Nat} {L : XL} {F : Nat}  {r : XI}  : ∀ (n : Nat) (v1 : Int32) (v2 : Int32) (I : XI), f_Tape_addFour_3 F n v1 v2 I = some r → xEv X (d + 0) 24 3 [.ref 1, .int v1, .int v2] [] I L none r L := by
  intro n
  induction n with
  | zero => intro v1 v2 I h; rw [f_Tape_addFour_3] at h; cases h
  | succ n ih =>
    intro v1 v2 I h 
    rw [f_Tape_addFour_3] at h
    refine xeb 1 (pc' := 4) (ls' := [.ref 1, .int v1, .int v2]) (st' := [.int v2]) rfl ?_
    by_cases c1 : v2 < 0
    · rw [if_pos c1] at h
      refine xef_lt_t rfl c1 ?_
      obtain rfl := Option.some.inj h
      exact xevret rfl
    · rw [if_neg c1] at h
      refine xef_lt_f rfl c1 ?_
      refine xeb 1 (pc' := 8) (ls' := [.ref 1, .int v1, .int v2]) (st' := [.ref 1]) rfl ?_
      refine xegf0 rfl xsh1 (by decide) ?_
      refine xeb 1 (pc' := 14) (ls' := [.ref 1, .int v1, .int v2]) (st' := [.int 2000, .int (I 1 1)]) rfl ?_
      by_cases c2 : 2000 ≤ (I 1 1)
      · rw [if_pos c2] at h
        refine xei_ge_t rfl c2 ?_
        obtain rfl := Option.some.inj h
        exact xevret rfl
      · rw [if_neg c2] at h
        refine xei_ge_f rfl c2 ?_
        refine xeb 1 (pc' := 18) (ls' := [.ref 1, .int v1, .int v2]) (st' := [.ref 1]) rfl ?_
        refine xegf2 rfl xsh1 (by decide) rfl ?_
        refine xeb 1 (pc' := 22) (ls' := [.ref 1, .int v1, .int v2]) (st' := [.ref 1, .ref 2]) rfl ?_
        refine xegf0 rfl xsh1 (by decide) ?_
        refine xeb 4 (pc' := 29) (ls' := [.ref 1, .int v1, .int v2]) (st' := [.int (Int32.toInt8 ((Int32.toUInt32 v1 >>> (Int32.toUInt32 v2 &&& Int32.toUInt32 31)).toInt32)).toInt32, .int (I 1 1), .ref 2]) rfl ?_
        obtain ⟨b3, h⟩ := xck_some h
        refine xebs rfl xsh2 b3 ?_
        obtain ⟨I4, hI4, h⟩ := xst_some h
        rw [← hI4]
        refine xeb 2 (pc' := 32) (ls' := [.ref 1, .int v1, .int v2]) (st' := [.ref 1, .ref 1]) rfl ?_
        refine xegf0 rfl xsh1 (by decide) ?_
        refine xeb 2 (pc' := 37) (ls' := [.ref 1, .int v1, .int v2]) (st' := [.int ((I4 1 1) + 1), .ref 1]) rfl ?_
        refine xepf0 rfl xsh1 (by decide) ?_
        obtain ⟨I5, hI5, h⟩ := xst_some h
        rw [← hI5]
        refine xeb 2 (pc' := 3) (ls' := [.ref 1, .int v1, .int (v2 + (-8))]) (st' := []) rfl ?_
        exact ih v1 (v2 + (-8)) I5 h
noncomputable def f_Tape_addFour (F : Nat) (a1 : Int32) (I : XI) : Option (XI) :=
  f_Tape_addFour_3 F F a1 24 I
theorem g_Tape_addFour {X : XX} {d : Nat} {L : XL} {F : Nat} {a1 : Int32} {I : XI}  (r : XI) (h : f_Tape_addFour F a1 I = some r) : xEv X (d + 0) 24 0 [.ref 1, .int a1, .null] [] I L none r L := by
  rw [f_Tape_addFour] at h
  refine xeb 2 (pc' := 3) (ls' := [.ref 1, .int a1, .int 24]) (st' := []) rfl ?_
  exact g_Tape_addFour_3 F a1 24 I h
noncomputable def f_H_feed (F : Nat) (a1 : Int32) (a2 : Int32) (a3 : Int32) (a4 : Int32) (a5 : Int32) (I : XI) : Option (Int32 × XI) :=
  if (I 1 1) ≤ 1980 then ((f_Tape_addFour F a1 I).bind fun q2 => (f_Tape_addFour F a2 q2).bind fun q3 => (f_Tape_addFour F a3 q3).bind fun q4 => (f_Tape_addFour F a4 q4).bind fun q5 => (f_Tape_addFour F a5 q5).bind fun q6 => some ((q6 1 1), q6)) else (some ((-1), I))
theorem g_H_feed {X : XX} {d : Nat} {L : XL} {F : Nat} {a1 : Int32} {a2 : Int32} {a3 : Int32} {a4 : Int32} {a5 : Int32} {I : XI}  (r : Int32 × XI) (h : f_H_feed F a1 a2 a3 a4 a5 I = some r) : xEv X (d + 1) 25 0 [.ref 0, .int a1, .int a2, .int a3, .int a4, .int a5] [] I L (some (.int r.1)) r.2 L := by
  rw [f_H_feed] at h
  refine xeb 1 (pc' := 1) (ls' := [.ref 0, .int a1, .int a2, .int a3, .int a4, .int a5]) (st' := [.ref 0]) rfl ?_
  refine xegf2 rfl xsh0 (by decide) rfl ?_
  refine xegf10 rfl xsh1 (by decide) ?_
  refine xeb 1 (pc' := 10) (ls' := [.ref 0, .int a1, .int a2, .int a3, .int a4, .int a5]) (st' := [.int 1980, .int (I 1 1)]) rfl ?_
  by_cases c1 : (I 1 1) ≤ 1980
  · rw [if_pos c1] at h
    refine xei_le_t rfl c1 ?_
    refine xeb 1 (pc' := 16) (ls' := [.ref 0, .int a1, .int a2, .int a3, .int a4, .int a5]) (st' := [.ref 0]) rfl ?_
    refine xegf2 rfl xsh0 (by decide) rfl ?_
    refine xeb 1 (pc' := 20) (ls' := [.ref 0, .int a1, .int a2, .int a3, .int a4, .int a5]) (st' := [.int a1, .ref 1]) rfl ?_
    obtain ⟨q2, eq2, h⟩ := xbind_some h
    refine xcallV rfl xsh1 rfl rfl rfl (Nat.le_of_ble_eq_true rfl) (Nat.le_of_ble_eq_true rfl) (Nat.le_of_ble_eq_true rfl) rfl (g_Tape_addFour (d := d + 0) _ eq2) ?_
    refine xeb 1 (pc' := 24) (ls' := [.ref 0, .int a1, .int a2, .int a3, .int a4, .int a5]) (st' := [.ref 0]) rfl ?_
    refine xegf2 rfl xsh0 (by decide) rfl ?_
    refine xeb 1 (pc' := 28) (ls' := [.ref 0, .int a1, .int a2, .int a3, .int a4, .int a5]) (st' := [.int a2, .ref 1]) rfl ?_
    obtain ⟨q3, eq3, h⟩ := xbind_some h
    refine xcallV rfl xsh1 rfl rfl rfl (Nat.le_of_ble_eq_true rfl) (Nat.le_of_ble_eq_true rfl) (Nat.le_of_ble_eq_true rfl) rfl (g_Tape_addFour (d := d + 0) _ eq3) ?_
    refine xeb 1 (pc' := 32) (ls' := [.ref 0, .int a1, .int a2, .int a3, .int a4, .int a5]) (st' := [.ref 0]) rfl ?_
    refine xegf2 rfl xsh0 (by decide) rfl ?_
    refine xeb 1 (pc' := 36) (ls' := [.ref 0, .int a1, .int a2, .int a3, .int a4, .int a5]) (st' := [.int a3, .ref 1]) rfl ?_
    obtain ⟨q4, eq4, h⟩ := xbind_some h
    refine xcallV rfl xsh1 rfl rfl rfl (Nat.le_of_ble_eq_true rfl) (Nat.le_of_ble_eq_true rfl) (Nat.le_of_ble_eq_true rfl) rfl (g_Tape_addFour (d := d + 0) _ eq4) ?_
    refine xeb 1 (pc' := 40) (ls' := [.ref 0, .int a1, .int a2, .int a3, .int a4, .int a5]) (st' := [.ref 0]) rfl ?_
    refine xegf2 rfl xsh0 (by decide) rfl ?_
    refine xeb 1 (pc' := 45) (ls' := [.ref 0, .int a1, .int a2, .int a3, .int a4, .int a5]) (st' := [.int a4, .ref 1]) rfl ?_
    obtain ⟨q5, eq5, h⟩ := xbind_some h
    refine xcallV rfl xsh1 rfl rfl rfl (Nat.le_of_ble_eq_true rfl) (Nat.le_of_ble_eq_true rfl) (Nat.le_of_ble_eq_true rfl) rfl (g_Tape_addFour (d := d + 0) _ eq5) ?_
    refine xeb 1 (pc' := 49) (ls' := [.ref 0, .int a1, .int a2, .int a3, .int a4, .int a5]) (st' := [.ref 0]) rfl ?_
    refine xegf2 rfl xsh0 (by decide) rfl ?_
    refine xeb 1 (pc' := 54) (ls' := [.ref 0, .int a1, .int a2, .int a3, .int a4, .int a5]) (st' := [.int a5, .ref 1]) rfl ?_
    obtain ⟨q6, eq6, h⟩ := xbind_some h
    refine xcallV rfl xsh1 rfl rfl rfl (Nat.le_of_ble_eq_true rfl) (Nat.le_of_ble_eq_true rfl) (Nat.le_of_ble_eq_true rfl) rfl (g_Tape_addFour (d := d + 0) _ eq6) ?_
    refine xeb 1 (pc' := 58) (ls' := [.ref 0, .int a1, .int a2, .int a3, .int a4, .int a5]) (st' := [.ref 0]) rfl ?_
    refine xegf2 rfl xsh0 (by decide) rfl ?_
    refine xegf10 rfl xsh1 (by decide) ?_
    obtain rfl := Option.some.inj h
    exact xeiret rfl rfl
  · rw [if_neg c1] at h
    refine xei_le_f rfl c1 ?_
    refine xeb 1 (pc' := 14) (ls' := [.ref 0, .int a1, .int a2, .int a3, .int a4, .int a5]) (st' := [.int (-1)]) rfl ?_
    obtain rfl := Option.some.inj h
    exact xeiret rfl rfl
noncomputable def f_M_put_3 (F : Nat) : Nat → Int32 → Int32 → XI → Option (XI)
  | 0, _, _, _ => none
  | n + 1, v1, v2, I =>
    if v2 < 0 then (some I) else (xck (xin (I 131 2) 2000) (xst (xput I 132 (xN (I 131 2)) ((Int32.toInt8 ((Int32.toInt8 (v1 >>> (v2 &&& 31))).toInt32)).toInt32)) fun I3 => xst (xput I3 131 2 ((I3 131 2) + 1)) fun I4 => f_M_put_3 F n v1 (v2 + (-8)) I4))
theorem g_M_put_3 {X : XX} {d : Nat} {L : XL} {F : Nat}  {r : XI}  : ∀ (n : Nat) (v1 : Int32) (v2 : Int32) (I : XI), f_M_put_3 F n v1 v2 I = some r → xEv X (d + 0) 26 3 [.ref 131, .int v1, .int v2] [] I L none r L := by
  intro n
  induction n with
  | zero => intro v1 v2 I h; rw [f_M_put_3] at h; cases h
  | succ n ih =>
    intro v1 v2 I h 
    rw [f_M_put_3] at h
    refine xeb 1 (pc' := 4) (ls' := [.ref 131, .int v1, .int v2]) (st' := [.int v2]) rfl ?_
    by_cases c1 : v2 < 0
    · rw [if_pos c1] at h
      refine xef_lt_t rfl c1 ?_
      obtain rfl := Option.some.inj h
      exact xevret rfl
    · rw [if_neg c1] at h
      refine xef_lt_f rfl c1 ?_
      refine xeb 1 (pc' := 8) (ls' := [.ref 131, .int v1, .int v2]) (st' := [.ref 131]) rfl ?_
      refine xegf2 rfl xsh131 (by decide) rfl ?_
      refine xeb 1 (pc' := 12) (ls' := [.ref 131, .int v1, .int v2]) (st' := [.ref 131, .ref 132]) rfl ?_
      refine xegf0 rfl xsh131 (by decide) ?_
      refine xeb 4 (pc' := 19) (ls' := [.ref 131, .int v1, .int v2]) (st' := [.int (Int32.toInt8 (v1 >>> (v2 &&& 31))).toInt32, .int (I 131 2), .ref 132]) rfl ?_
      obtain ⟨b2, h⟩ := xck_some h
      refine xebs rfl xsh132 b2 ?_
      obtain ⟨I3, hI3, h⟩ := xst_some h
      rw [← hI3]
      refine xeb 2 (pc' := 22) (ls' := [.ref 131, .int v1, .int v2]) (st' := [.ref 131, .ref 131]) rfl ?_
      refine xegf0 rfl xsh131 (by decide) ?_
      refine xeb 2 (pc' := 27) (ls' := [.ref 131, .int v1, .int v2]) (st' := [.int ((I3 131 2) + 1), .ref 131]) rfl ?_
      refine xepf0 rfl xsh131 (by decide) ?_
      obtain ⟨I4, hI4, h⟩ := xst_some h
      rw [← hI4]
      refine xeb 2 (pc' := 3) (ls' := [.ref 131, .int v1, .int (v2 + (-8))]) (st' := []) rfl ?_
      exact ih v1 (v2 + (-8)) I4 h
noncomputable def f_M_put (F : Nat) (a1 : Int32) (I : XI) : Option (XI) :=
  f_M_put_3 F F a1 24 I
theorem g_M_put {X : XX} {d : Nat} {L : XL} {F : Nat} {a1 : Int32} {I : XI}  (r : XI) (h : f_M_put F a1 I = some r) : xEv X (d + 0) 26 0 [.ref 131, .int a1, .null] [] I L none r L := by
  rw [f_M_put] at h
  refine xeb 2 (pc' := 3) (ls' := [.ref 131, .int a1, .int 24]) (st' := []) rfl ?_
  exact g_M_put_3 F a1 24 I h
noncomputable def f_M_feed (F : Nat) (a1 : Int32) (a2 : Int32) (a3 : Int32) (a4 : Int32) (a5 : Int32) (I : XI) : Option (Int32 × XI) :=
  if ((I 131 2) + 20) ≤ 2000 then ((f_M_put F a1 I).bind fun q2 => (f_M_put F a2 q2).bind fun q3 => (f_M_put F a3 q3).bind fun q4 => (f_M_put F a4 q4).bind fun q5 => (f_M_put F a5 q5).bind fun q6 => some ((q6 131 2), q6)) else (some ((-1), I))
theorem g_M_feed {X : XX} {d : Nat} {L : XL} {F : Nat} {a1 : Int32} {a2 : Int32} {a3 : Int32} {a4 : Int32} {a5 : Int32} {I : XI}  (r : Int32 × XI) (h : f_M_feed F a1 a2 a3 a4 a5 I = some r) : xEv X (d + 1) 27 0 [.ref 131, .int a1, .int a2, .int a3, .int a4, .int a5] [] I L (some (.int r.1)) r.2 L := by
  rw [f_M_feed] at h
  refine xeb 1 (pc' := 1) (ls' := [.ref 131, .int a1, .int a2, .int a3, .int a4, .int a5]) (st' := [.ref 131]) rfl ?_
  refine xegf0 rfl xsh131 (by decide) ?_
  refine xeb 3 (pc' := 10) (ls' := [.ref 131, .int a1, .int a2, .int a3, .int a4, .int a5]) (st' := [.int 2000, .int ((I 131 2) + 20)]) rfl ?_
  by_cases c1 : ((I 131 2) + 20) ≤ 2000
  · rw [if_pos c1] at h
    refine xei_le_t rfl c1 ?_
    refine xeb 2 (pc' := 17) (ls' := [.ref 131, .int a1, .int a2, .int a3, .int a4, .int a5]) (st' := [.int a1, .ref 131]) rfl ?_
    obtain ⟨q2, eq2, h⟩ := xbind_some h
    refine xcallV rfl xsh131 rfl rfl rfl (Nat.le_of_ble_eq_true rfl) (Nat.le_of_ble_eq_true rfl) (Nat.le_of_ble_eq_true rfl) rfl (g_M_put (d := d + 0) _ eq2) ?_
    refine xeb 2 (pc' := 22) (ls' := [.ref 131, .int a1, .int a2, .int a3, .int a4, .int a5]) (st' := [.int a2, .ref 131]) rfl ?_
    obtain ⟨q3, eq3, h⟩ := xbind_some h
    refine xcallV rfl xsh131 rfl rfl rfl (Nat.le_of_ble_eq_true rfl) (Nat.le_of_ble_eq_true rfl) (Nat.le_of_ble_eq_true rfl) rfl (g_M_put (d := d + 0) _ eq3) ?_
    refine xeb 2 (pc' := 27) (ls' := [.ref 131, .int a1, .int a2, .int a3, .int a4, .int a5]) (st' := [.int a3, .ref 131]) rfl ?_
    obtain ⟨q4, eq4, h⟩ := xbind_some h
    refine xcallV rfl xsh131 rfl rfl rfl (Nat.le_of_ble_eq_true rfl) (Nat.le_of_ble_eq_true rfl) (Nat.le_of_ble_eq_true rfl) rfl (g_M_put (d := d + 0) _ eq4) ?_
    refine xeb 2 (pc' := 33) (ls' := [.ref 131, .int a1, .int a2, .int a3, .int a4, .int a5]) (st' := [.int a4, .ref 131]) rfl ?_
    obtain ⟨q5, eq5, h⟩ := xbind_some h
    refine xcallV rfl xsh131 rfl rfl rfl (Nat.le_of_ble_eq_true rfl) (Nat.le_of_ble_eq_true rfl) (Nat.le_of_ble_eq_true rfl) rfl (g_M_put (d := d + 0) _ eq5) ?_
    refine xeb 2 (pc' := 39) (ls' := [.ref 131, .int a1, .int a2, .int a3, .int a4, .int a5]) (st' := [.int a5, .ref 131]) rfl ?_
    obtain ⟨q6, eq6, h⟩ := xbind_some h
    refine xcallV rfl xsh131 rfl rfl rfl (Nat.le_of_ble_eq_true rfl) (Nat.le_of_ble_eq_true rfl) (Nat.le_of_ble_eq_true rfl) rfl (g_M_put (d := d + 0) _ eq6) ?_
    refine xeb 1 (pc' := 43) (ls' := [.ref 131, .int a1, .int a2, .int a3, .int a4, .int a5]) (st' := [.ref 131]) rfl ?_
    refine xegf0 rfl xsh131 (by decide) ?_
    obtain rfl := Option.some.inj h
    exact xeiret rfl rfl
  · rw [if_neg c1] at h
    refine xei_le_f rfl c1 ?_
    refine xeb 1 (pc' := 14) (ls' := [.ref 131, .int a1, .int a2, .int a3, .int a4, .int a5]) (st' := [.int (-1)]) rfl ?_
    obtain rfl := Option.some.inj h
    exact xeiret rfl rfl
noncomputable def f_H_back (a1 : Int32) (I : XI) : Option (Int32 × XI) :=
  if a1 < 0 then (some ((-1), I)) else (if a1 ≤ (I 1 1) then (xst (xput I 1 1 ((I 1 1) - a1)) fun I3 => some ((I3 1 1), I3)) else (some ((-1), I)))
theorem g_H_back {X : XX} {d : Nat} {L : XL} {a1 : Int32} {I : XI}  (r : Int32 × XI) (h : f_H_back a1 I = some r) : xEv X (d + 0) 28 0 [.ref 0, .int a1] [] I L (some (.int r.1)) r.2 L := by
  rw [f_H_back] at h
  refine xeb 1 (pc' := 1) (ls' := [.ref 0, .int a1]) (st' := [.int a1]) rfl ?_
  by_cases c1 : a1 < 0
  · rw [if_pos c1] at h
    refine xef_lt_t rfl c1 ?_
    refine xeb 1 (pc' := 16) (ls' := [.ref 0, .int a1]) (st' := [.int (-1)]) rfl ?_
    obtain rfl := Option.some.inj h
    exact xeiret rfl rfl
  · rw [if_neg c1] at h
    refine xef_lt_f rfl c1 ?_
    refine xeb 2 (pc' := 6) (ls' := [.ref 0, .int a1]) (st' := [.ref 0, .int a1]) rfl ?_
    refine xegf2 rfl xsh0 (by decide) rfl ?_
    refine xegf10 rfl xsh1 (by decide) ?_
    by_cases c2 : a1 ≤ (I 1 1)
    · rw [if_pos c2] at h
      refine xei_le_t rfl c2 ?_
      refine xeb 1 (pc' := 18) (ls' := [.ref 0, .int a1]) (st' := [.ref 0]) rfl ?_
      refine xegf2 rfl xsh0 (by decide) rfl ?_
      refine xeb 1 (pc' := 22) (ls' := [.ref 0, .int a1]) (st' := [.ref 1, .ref 1]) rfl ?_
      refine xegf10 rfl xsh1 (by decide) ?_
      refine xeb 2 (pc' := 27) (ls' := [.ref 0, .int a1]) (st' := [.int ((I 1 1) - a1), .ref 1]) rfl ?_
      refine xepf10 rfl xsh1 (by decide) ?_
      obtain ⟨I3, hI3, h⟩ := xst_some h
      rw [← hI3]
      refine xeb 1 (pc' := 31) (ls' := [.ref 0, .int a1]) (st' := [.ref 0]) rfl ?_
      refine xegf2 rfl xsh0 (by decide) rfl ?_
      refine xegf10 rfl xsh1 (by decide) ?_
      obtain rfl := Option.some.inj h
      exact xeiret rfl rfl
    · rw [if_neg c2] at h
      refine xei_le_f rfl c2 ?_
      refine xeb 1 (pc' := 16) (ls' := [.ref 0, .int a1]) (st' := [.int (-1)]) rfl ?_
      obtain rfl := Option.some.inj h
      exact xeiret rfl rfl
noncomputable def f_M_back (a1 : Int32) (I : XI) : Option (Int32 × XI) :=
  if a1 < 0 then (some ((-1), I)) else (if a1 ≤ (I 131 2) then (xst (xput I 131 2 ((I 131 2) - a1)) fun I3 => some ((I3 131 2), I3)) else (some ((-1), I)))
theorem g_M_back {X : XX} {d : Nat} {L : XL} {a1 : Int32} {I : XI}  (r : Int32 × XI) (h : f_M_back a1 I = some r) : xEv X (d + 0) 29 0 [.ref 131, .int a1] [] I L (some (.int r.1)) r.2 L := by
  rw [f_M_back] at h
  refine xeb 1 (pc' := 1) (ls' := [.ref 131, .int a1]) (st' := [.int a1]) rfl ?_
  by_cases c1 : a1 < 0
  · rw [if_pos c1] at h
    refine xef_lt_t rfl c1 ?_
    refine xeb 1 (pc' := 13) (ls' := [.ref 131, .int a1]) (st' := [.int (-1)]) rfl ?_
    obtain rfl := Option.some.inj h
    exact xeiret rfl rfl
  · rw [if_neg c1] at h
    refine xef_lt_f rfl c1 ?_
    refine xeb 2 (pc' := 6) (ls' := [.ref 131, .int a1]) (st' := [.ref 131, .int a1]) rfl ?_
    refine xegf0 rfl xsh131 (by decide) ?_
    by_cases c2 : a1 ≤ (I 131 2)
    · rw [if_pos c2] at h
      refine xei_le_t rfl c2 ?_
      refine xeb 2 (pc' := 16) (ls' := [.ref 131, .int a1]) (st' := [.ref 131, .ref 131]) rfl ?_
      refine xegf0 rfl xsh131 (by decide) ?_
      refine xeb 2 (pc' := 21) (ls' := [.ref 131, .int a1]) (st' := [.int ((I 131 2) - a1), .ref 131]) rfl ?_
      refine xepf0 rfl xsh131 (by decide) ?_
      obtain ⟨I3, hI3, h⟩ := xst_some h
      rw [← hI3]
      refine xeb 1 (pc' := 25) (ls' := [.ref 131, .int a1]) (st' := [.ref 131]) rfl ?_
      refine xegf0 rfl xsh131 (by decide) ?_
      obtain rfl := Option.some.inj h
      exact xeiret rfl rfl
    · rw [if_neg c2] at h
      refine xei_le_f rfl c2 ?_
      refine xeb 1 (pc' := 13) (ls' := [.ref 131, .int a1]) (st' := [.int (-1)]) rfl ?_
      obtain rfl := Option.some.inj h
      exact xeiret rfl rfl
noncomputable def f_Tape_isBlank (a0 : Int32) : Option (Int32) :=
  if a0 = 9 then (some 1) else (if a0 = 10 then (some 1) else (if a0 = 13 then (some 1) else (xck (xnarz (if a0 = 32 then 1 else 0)) (some (if a0 = 32 then 1 else 0)))))
theorem g_Tape_isBlank {X : XX} {d : Nat} {I : XI} {L : XL} {a0 : Int32}  (r : Int32) (h : f_Tape_isBlank a0 = some r) : xEv X (d + 0) 30 0 [.int a0] [] I L (some (.int r)) I L := by
  rw [f_Tape_isBlank] at h
  refine xeb 2 (pc' := 3) (ls' := [.int a0]) (st' := [.int 9, .int a0]) rfl ?_
  by_cases c1 : a0 = 9
  · rw [if_pos c1] at h
    refine xei_eq_t rfl c1 ?_
    refine xeb 2 (pc' := 29) (ls' := [.int a0]) (st' := [.int 1]) rfl ?_
    obtain rfl := Option.some.inj h
    exact xeiret rfl rfl
  · rw [if_neg c1] at h
    refine xei_eq_f rfl c1 ?_
    refine xeb 2 (pc' := 9) (ls' := [.int a0]) (st' := [.int 10, .int a0]) rfl ?_
    by_cases c2 : a0 = 10
    · rw [if_pos c2] at h
      refine xei_eq_t rfl c2 ?_
      refine xeb 2 (pc' := 29) (ls' := [.int a0]) (st' := [.int 1]) rfl ?_
      obtain rfl := Option.some.inj h
      exact xeiret rfl rfl
    · rw [if_neg c2] at h
      refine xei_eq_f rfl c2 ?_
      refine xeb 2 (pc' := 15) (ls' := [.int a0]) (st' := [.int 13, .int a0]) rfl ?_
      by_cases c3 : a0 = 13
      · rw [if_pos c3] at h
        refine xei_eq_t rfl c3 ?_
        refine xeb 2 (pc' := 29) (ls' := [.int a0]) (st' := [.int 1]) rfl ?_
        obtain rfl := Option.some.inj h
        exact xeiret rfl rfl
      · rw [if_neg c3] at h
        refine xei_eq_f rfl c3 ?_
        refine xeb 2 (pc' := 21) (ls' := [.int a0]) (st' := [.int 32, .int a0]) rfl ?_
        have hj : xEv X (d + 0) 30 29 [.int a0] [.int (if a0 = 32 then 1 else 0)] I L (some (.int r)) I L := by
          obtain ⟨b5, h⟩ := xck_some h
          obtain rfl := Option.some.inj h
          exact xeiret rfl b5
        by_cases c4 : a0 = 32
        · simp only [if_pos c4] at hj
          refine xei_ne_t rfl c4 ?_
          exact xeb 2 rfl hj
        · simp only [if_neg c4] at hj
          refine xei_ne_f rfl c4 ?_
          exact xeb 1 rfl hj
noncomputable def f_Tape_skipBlanks_2 (F : Nat) (I : XI) : Nat → Int32 → Option (Int32)
  | 0, _ => none
  | n + 1, v2 =>
    if (I 1 1) ≤ v2 then (some v2) else (xck (xin v2 2000) ((f_Tape_isBlank (I 2 (xN v2))).bind fun q3 => if q3 = 0 then (some v2) else (f_Tape_skipBlanks_2 F I n (v2 + 1))))
theorem g_Tape_skipBlanks_2 {X : XX} {d : Nat} {L : XL} {F : Nat} {I : XI}  {r : Int32}  : ∀ (n : Nat) (v2 : Int32), f_Tape_skipBlanks_2 F I n v2 = some r → ∀ (z1 : Value), xEv X (d + 1) 31 2 [.ref 1, z1, .int v2] [] I L (some (.int r)) I L := by
  intro n
  induction n with
  | zero => intro v2 h; rw [f_Tape_skipBlanks_2] at h; cases h
  | succ n ih =>
    intro v2 h z1
    rw [f_Tape_skipBlanks_2] at h
    refine xeb 2 (pc' := 4) (ls' := [.ref 1, z1, .int v2]) (st' := [.ref 1, .int v2]) rfl ?_
    refine xegf0 rfl xsh1 (by decide) ?_
    by_cases c1 : (I 1 1) ≤ v2
    · rw [if_pos c1] at h
      refine xei_ge_t rfl c1 ?_
      refine xeb 1 (pc' := 29) (ls' := [.ref 1, z1, .int v2]) (st' := [.int v2]) rfl ?_
      obtain rfl := Option.some.inj h
      exact xeiret rfl rfl
    · rw [if_neg c1] at h
      refine xei_ge_f rfl c1 ?_
      refine xeb 1 (pc' := 11) (ls' := [.ref 1, z1, .int v2]) (st' := [.ref 1]) rfl ?_
      refine xegf2 rfl xsh1 (by decide) rfl ?_
      refine xeb 1 (pc' := 15) (ls' := [.ref 1, z1, .int v2]) (st' := [.int v2, .ref 2]) rfl ?_
      obtain ⟨b2, h⟩ := xck_some h
      refine xeba rfl xsh2 b2 ?_
      obtain ⟨q3, eq3, h⟩ := xbind_some h
      refine xcallS20 rfl rfl rfl (Nat.le_of_ble_eq_true rfl) (Nat.le_of_ble_eq_true rfl) (Nat.le_of_ble_eq_true rfl) rfl (g_Tape_isBlank (d := d + 0) _ eq3) ?_
      by_cases c4 : q3 = 0
      · rw [if_pos c4] at h
        refine xef_eq_t rfl c4 ?_
        refine xeb 1 (pc' := 29) (ls' := [.ref 1, z1, .int v2]) (st' := [.int v2]) rfl ?_
        obtain rfl := Option.some.inj h
        exact xeiret rfl rfl
      · rw [if_neg c4] at h
        refine xef_eq_f rfl c4 ?_
        refine xeb 2 (pc' := 2) (ls' := [.ref 1, (xkv z1), .int (v2 + 1)]) (st' := []) rfl ?_
        exact ih (v2 + 1) h _
noncomputable def f_Tape_skipBlanks (F : Nat) (I : XI) (a1 : Int32) : Option (Int32) :=
  f_Tape_skipBlanks_2 F I F a1
theorem g_Tape_skipBlanks {X : XX} {d : Nat} {L : XL} {F : Nat} {I : XI} {a1 : Int32}  (r : Int32) (h : f_Tape_skipBlanks F I a1 = some r) : xEv X (d + 1) 31 0 [.ref 1, .int a1, .null] [] I L (some (.int r)) I L := by
  rw [f_Tape_skipBlanks] at h
  refine xeb 2 (pc' := 2) (ls' := [.ref 1, .int a1, .int a1]) (st' := []) rfl ?_
  exact g_Tape_skipBlanks_2 F a1 h _
noncomputable def f_Tape_isLetter (a0 : Int32) : Option (Int32) :=
  if a0 < 97 then (some 0) else (xck (xnarz (if 122 < a0 then 0 else 1)) (some (if 122 < a0 then 0 else 1)))
theorem g_Tape_isLetter {X : XX} {d : Nat} {I : XI} {L : XL} {a0 : Int32}  (r : Int32) (h : f_Tape_isLetter a0 = some r) : xEv X (d + 0) 32 0 [.int a0] [] I L (some (.int r)) I L := by
  rw [f_Tape_isLetter] at h
  refine xeb 2 (pc' := 3) (ls' := [.int a0]) (st' := [.int 97, .int a0]) rfl ?_
  by_cases c1 : a0 < 97
  · rw [if_pos c1] at h
    refine xei_lt_t rfl c1 ?_
    refine xeb 1 (pc' := 17) (ls' := [.int a0]) (st' := [.int 0]) rfl ?_
    obtain rfl := Option.some.inj h
    exact xeiret rfl rfl
  · rw [if_neg c1] at h
    refine xei_lt_f rfl c1 ?_
    refine xeb 2 (pc' := 9) (ls' := [.int a0]) (st' := [.int 122, .int a0]) rfl ?_
    have hj : xEv X (d + 0) 32 17 [.int a0] [.int (if 122 < a0 then 0 else 1)] I L (some (.int r)) I L := by
      obtain ⟨b3, h⟩ := xck_some h
      obtain rfl := Option.some.inj h
      exact xeiret rfl b3
    by_cases c2 : 122 < a0
    · simp only [if_pos c2] at hj
      refine xei_gt_t rfl c2 ?_
      exact xeb 1 rfl hj
    · simp only [if_neg c2] at hj
      refine xei_gt_f rfl c2 ?_
      exact xeb 2 rfl hj
noncomputable def f_Tape_isDigit (a0 : Int32) : Option (Int32) :=
  if a0 < 48 then (some 0) else (xck (xnarz (if 57 < a0 then 0 else 1)) (some (if 57 < a0 then 0 else 1)))
theorem g_Tape_isDigit {X : XX} {d : Nat} {I : XI} {L : XL} {a0 : Int32}  (r : Int32) (h : f_Tape_isDigit a0 = some r) : xEv X (d + 0) 46 0 [.int a0] [] I L (some (.int r)) I L := by
  rw [f_Tape_isDigit] at h
  refine xeb 2 (pc' := 3) (ls' := [.int a0]) (st' := [.int 48, .int a0]) rfl ?_
  by_cases c1 : a0 < 48
  · rw [if_pos c1] at h
    refine xei_lt_t rfl c1 ?_
    refine xeb 1 (pc' := 17) (ls' := [.int a0]) (st' := [.int 0]) rfl ?_
    obtain rfl := Option.some.inj h
    exact xeiret rfl rfl
  · rw [if_neg c1] at h
    refine xei_lt_f rfl c1 ?_
    refine xeb 2 (pc' := 9) (ls' := [.int a0]) (st' := [.int 57, .int a0]) rfl ?_
    have hj : xEv X (d + 0) 46 17 [.int a0] [.int (if 57 < a0 then 0 else 1)] I L (some (.int r)) I L := by
      obtain ⟨b3, h⟩ := xck_some h
      obtain rfl := Option.some.inj h
      exact xeiret rfl b3
    by_cases c2 : 57 < a0
    · simp only [if_pos c2] at hj
      refine xei_gt_t rfl c2 ?_
      exact xeb 1 rfl hj
    · simp only [if_neg c2] at hj
      refine xei_gt_f rfl c2 ?_
      exact xeb 2 rfl hj
noncomputable def f_Tape_scanDigits_73 (F : Nat) (v3 : Int32) (s1 : Int32) (s2 : Int32) (I : XI) : Option (Int32 × XI) :=
  xck (xin s1 401) (xst (xput I 3 (xN s1) s2) fun I6 => some (v3, I6))
theorem g_Tape_scanDigits_73 {X : XX} {d : Nat} {L : XL} {F : Nat}  {r : Int32 × XI}  {v3 : Int32} {s1 : Int32} {s2 : Int32} {I : XI} (h : f_Tape_scanDigits_73 F v3 s1 s2 I = some r) (z0 : Value) (z1 : Value) (z2 : Value) (z4 : Value) : xEv X (d + 1) 47 73 [z0, z1, z2, .int v3, z4] [.int s2, .int s1, .ref 3] I L (some (.int r.1)) r.2 L := by
  rw [f_Tape_scanDigits_73] at h
  obtain ⟨b5, h⟩ := xck_some h
  refine xeis rfl xsh3 b5 ?_
  obtain ⟨I6, hI6, h⟩ := xst_some h
  rw [← hI6]
  refine xeb 1 (pc' := 75) (ls' := [z0, z1, z2, .int v3, z4]) (st' := [.int v3]) rfl ?_
  obtain rfl := Option.some.inj h
  exact xeiret rfl rfl
noncomputable def f_Tape_scanDigits_48 (F : Nat) (v1 : Int32) (v2 : Int32) (v3 : Int32) (v4 : Int32) (I : XI) : Option (Int32 × XI) :=
  xck (xin v1 401) (xst (xput I 5 (xN v1) v4) fun I3 => f_Tape_scanDigits_73 F v3 v1 (if (v3 - v2) ≤ 4 then 3 else 1) I3)
theorem g_Tape_scanDigits_48 {X : XX} {d : Nat} {L : XL} {F : Nat}  {r : Int32 × XI}  {v1 : Int32} {v2 : Int32} {v3 : Int32} {v4 : Int32} {I : XI} (h : f_Tape_scanDigits_48 F v1 v2 v3 v4 I = some r)  : xEv X (d + 1) 47 48 [.ref 1, .int v1, .int v2, .int v3, .int v4] [] I L (some (.int r.1)) r.2 L := by
  rw [f_Tape_scanDigits_48] at h
  refine xeb 1 (pc' := 49) (ls' := [.ref 1, .int v1, .int v2, .int v3, .int v4]) (st' := [.ref 1]) rfl ?_
  refine xegf2 rfl xsh1 (by decide) rfl ?_
  refine xeb 2 (pc' := 55) (ls' := [.ref 1, .int v1, .int v2, .int v3, .int v4]) (st' := [.int v4, .int v1, .ref 5]) rfl ?_
  obtain ⟨b2, h⟩ := xck_some h
  refine xeis rfl xsh5 b2 ?_
  obtain ⟨I3, hI3, h⟩ := xst_some h
  rw [← hI3]
  refine xeb 1 (pc' := 57) (ls' := [.ref 1, .int v1, .int v2, .int v3, .int v4]) (st' := [.ref 1]) rfl ?_
  refine xegf2 rfl xsh1 (by decide) rfl ?_
  refine xeb 5 (pc' := 65) (ls' := [.ref 1, .int v1, .int v2, .int v3, .int v4]) (st' := [.int 4, .int (v3 - v2), .int v1, .ref 3]) rfl ?_
  have hj : xEv X (d + 1) 47 73 [.ref 1, .int v1, .int v2, .int v3, .int v4] [.int (if (v3 - v2) ≤ 4 then 3 else 1), .int v1, .ref 3] I3 L (some (.int r.1)) r.2 L := by
    exact g_Tape_scanDigits_73 h _ _ _ _
  by_cases c4 : (v3 - v2) ≤ 4
  · simp only [if_pos c4] at hj
    refine xei_le_t rfl c4 ?_
    exact xeb 1 rfl hj
  · simp only [if_neg c4] at hj
    refine xei_le_f rfl c4 ?_
    exact xeb 2 rfl hj
noncomputable def f_Tape_scanDigits_5 (F : Nat) : Nat → Int32 → Int32 → Int32 → Int32 → XI → Option (Int32 × XI)
  | 0, _, _, _, _, _ => none
  | n + 1, v1, v2, v3, v4, I =>
    if (I 1 1) ≤ v3 then (f_Tape_scanDigits_48 F v1 v2 v3 v4 I) else (xck (xin v3 2000) ((f_Tape_isDigit (I 2 (xN v3))).bind fun q8 => if q8 = 0 then (f_Tape_scanDigits_48 F v1 v2 v3 v4 I) else (xck (xin v3 2000) (f_Tape_scanDigits_5 F n v1 v2 (v3 + 1) (((10 * v4) + (I 2 (xN v3))) - 48) I))))
theorem g_Tape_scanDigits_5 {X : XX} {d : Nat} {L : XL} {F : Nat}  {r : Int32 × XI}  : ∀ (n : Nat) (v1 : Int32) (v2 : Int32) (v3 : Int32) (v4 : Int32) (I : XI), f_Tape_scanDigits_5 F n v1 v2 v3 v4 I = some r → xEv X (d + 1) 47 5 [.ref 1, .int v1, .int v2, .int v3, .int v4] [] I L (some (.int r.1)) r.2 L := by
  intro n
  induction n with
  | zero => intro v1 v2 v3 v4 I h; rw [f_Tape_scanDigits_5] at h; cases h
  | succ n ih =>
    intro v1 v2 v3 v4 I h 
    rw [f_Tape_scanDigits_5] at h
    refine xeb 2 (pc' := 7) (ls' := [.ref 1, .int v1, .int v2, .int v3, .int v4]) (st' := [.ref 1, .int v3]) rfl ?_
    refine xegf0 rfl xsh1 (by decide) ?_
    by_cases c1 : (I 1 1) ≤ v3
    · rw [if_pos c1] at h
      refine xei_ge_t rfl c1 ?_
      exact g_Tape_scanDigits_48 h
    · rw [if_neg c1] at h
      refine xei_ge_f rfl c1 ?_
      refine xeb 1 (pc' := 14) (ls' := [.ref 1, .int v1, .int v2, .int v3, .int v4]) (st' := [.ref 1]) rfl ?_
      refine xegf2 rfl xsh1 (by decide) rfl ?_
      refine xeb 1 (pc' := 18) (ls' := [.ref 1, .int v1, .int v2, .int v3, .int v4]) (st' := [.int v3, .ref 2]) rfl ?_
      obtain ⟨b7, h⟩ := xck_some h
      refine xeba rfl xsh2 b7 ?_
      obtain ⟨q8, eq8, h⟩ := xbind_some h
      refine xcallS20 rfl rfl rfl (Nat.le_of_ble_eq_true rfl) (Nat.le_of_ble_eq_true rfl) (Nat.le_of_ble_eq_true rfl) rfl (g_Tape_isDigit (d := d + 0) _ eq8) ?_
      by_cases c9 : q8 = 0
      · rw [if_pos c9] at h
        refine xef_eq_t rfl c9 ?_
        exact g_Tape_scanDigits_48 h
      · rw [if_neg c9] at h
        refine xef_eq_f rfl c9 ?_
        refine xeb 4 (pc' := 31) (ls' := [.ref 1, .int v1, .int v2, .int v3, .int v4]) (st' := [.ref 1, .int (10 * v4)]) rfl ?_
        refine xegf2 rfl xsh1 (by decide) rfl ?_
        refine xeb 1 (pc' := 35) (ls' := [.ref 1, .int v1, .int v2, .int v3, .int v4]) (st' := [.int v3, .ref 2, .int (10 * v4)]) rfl ?_
        obtain ⟨b10, h⟩ := xck_some h
        refine xeba rfl xsh2 b10 ?_
        refine xeb 6 (pc' := 5) (ls' := [.ref 1, .int v1, .int v2, .int (v3 + 1), .int (((10 * v4) + (I 2 (xN v3))) - 48)]) (st' := []) rfl ?_
        exact ih v1 v2 (v3 + 1) (((10 * v4) + (I 2 (xN v3))) - 48) I h
noncomputable def f_Tape_scanDigits (F : Nat) (a1 : Int32) (a2 : Int32) (I : XI) : Option (Int32 × XI) :=
  f_Tape_scanDigits_5 F F a1 a2 a2 0 I
theorem g_Tape_scanDigits {X : XX} {d : Nat} {L : XL} {F : Nat} {a1 : Int32} {a2 : Int32} {I : XI}  (r : Int32 × XI) (h : f_Tape_scanDigits F a1 a2 I = some r) : xEv X (d + 1) 47 0 [.ref 1, .int a1, .int a2, .null, .null] [] I L (some (.int r.1)) r.2 L := by
  rw [f_Tape_scanDigits] at h
  refine xeb 4 (pc' := 5) (ls' := [.ref 1, .int a1, .int a2, .int a2, .int 0]) (st' := []) rfl ?_
  exact g_Tape_scanDigits_5 F a1 a2 a2 0 I h
noncomputable def f_Reader_kind (I : XI) : Option (Int32) :=
  xck (xin (I 6 2) 401) (some (I 3 (xN (I 6 2))))
theorem g_Reader_kind {X : XX} {d : Nat} {L : XL} {I : XI}  (r : Int32) (h : f_Reader_kind I = some r) : xEv X (d + 0) 51 0 [.ref 6] [] I L (some (.int r)) I L := by
  rw [f_Reader_kind] at h
  refine xeb 1 (pc' := 1) (ls' := [.ref 6]) (st' := [.ref 6]) rfl ?_
  refine xegf2 rfl xsh6 (by decide) rfl ?_
  refine xegf12 rfl xsh1 (by decide) rfl ?_
  refine xeb 1 (pc' := 8) (ls' := [.ref 6]) (st' := [.ref 6, .ref 3]) rfl ?_
  refine xegf0 rfl xsh6 (by decide) ?_
  obtain ⟨b1, h⟩ := xck_some h
  refine xeia rfl xsh3 b1 ?_
  obtain rfl := Option.some.inj h
  exact xeiret rfl rfl
noncomputable def f_Reader_fail (a1 : Int32) (I : XI) : Option (XI) :=
  if (I 6 3) = 0 then (xst (xput I 6 3 a1) fun I2 => xck (xin (I2 6 2) 401) (xst (xput I2 6 4 (I2 4 (xN (I2 6 2)))) fun I4 => some I4)) else (some I)
theorem g_Reader_fail {X : XX} {d : Nat} {L : XL} {a1 : Int32} {I : XI}  (r : XI) (h : f_Reader_fail a1 I = some r) : xEv X (d + 0) 52 0 [.ref 6, .int a1] [] I L none r L := by
  rw [f_Reader_fail] at h
  refine xeb 1 (pc' := 1) (ls' := [.ref 6, .int a1]) (st' := [.ref 6]) rfl ?_
  refine xegf0 rfl xsh6 (by decide) ?_
  by_cases c1 : (I 6 3) = 0
  · rw [if_pos c1] at h
    refine xef_ne_t rfl c1 ?_
    refine xeb 2 (pc' := 9) (ls' := [.ref 6, .int a1]) (st' := [.int a1, .ref 6]) rfl ?_
    refine xepf0 rfl xsh6 (by decide) ?_
    obtain ⟨I2, hI2, h⟩ := xst_some h
    rw [← hI2]
    refine xeb 2 (pc' := 14) (ls' := [.ref 6, .int a1]) (st' := [.ref 6, .ref 6]) rfl ?_
    refine xegf2 rfl xsh6 (by decide) rfl ?_
    refine xegf12 rfl xsh1 (by decide) rfl ?_
    refine xeb 1 (pc' := 21) (ls' := [.ref 6, .int a1]) (st' := [.ref 6, .ref 4, .ref 6]) rfl ?_
    refine xegf0 rfl xsh6 (by decide) ?_
    obtain ⟨b3, h⟩ := xck_some h
    refine xeia rfl xsh4 b3 ?_
    refine xepf0 rfl xsh6 (by decide) ?_
    obtain ⟨I4, hI4, h⟩ := xst_some h
    rw [← hI4]
    obtain rfl := Option.some.inj h
    exact xevret rfl
  · rw [if_neg c1] at h
    refine xef_ne_f rfl c1 ?_
    obtain rfl := Option.some.inj h
    exact xevret rfl
