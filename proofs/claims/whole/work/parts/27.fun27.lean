/-! the methods as functions, and that a run answers so (by gen6.py) -/
noncomputable def f_M_knobOf (I : XI) (a1 : Int32) (a2 : Int32) : Option (Int32) :=
  (f_M_isHole I a1).bind fun q1 => if q1 = 0 then (xck (xin (((120 * (I 131 18)) + (4 * a1)) + a2) 240) (some (I 143 (xN (((120 * (I 131 18)) + (4 * a1)) + a2))))) else (xck (xin a1 33) (xck (xin a1 33) ((f_M_turned I (((I 163 (xN a1)) - 1) / 10) (((I 163 (xN a1)) - 1) - ((I 163 (xN a1)) - 1) / 10 * 10) a2).bind fun q6 => some q6)))
theorem g_M_knobOf {X : XX} {d : Nat} {L : XL} {I : XI} {a1 : Int32} {a2 : Int32}  (r : Int32) (h : f_M_knobOf I a1 a2 = some r) : xEv X (d + 2) 129 0 [.ref 131, .int a1, .int a2] [] I L (some (.int r)) I L := by
  rw [f_M_knobOf] at h
  refine xeb 2 (pc' := 2) (ls' := [.ref 131, .int a1, .int a2]) (st' := [.int a1, .ref 131]) rfl ?_
  obtain ⟨q1, eq1, h⟩ := xbind_some h
  refine xcallV rfl xsh131 rfl rfl rfl (Nat.le_of_ble_eq_true rfl) (Nat.le_of_ble_eq_true rfl) (Nat.le_of_ble_eq_true rfl) rfl (g_M_isHole (d := d + 0) _ eq1) ?_
  by_cases c2 : q1 = 0
  · rw [if_pos c2] at h
    refine xef_ne_t rfl c2 ?_
    refine xeb 1 (pc' := 9) (ls' := [.ref 131, .int a1, .int a2]) (st' := [.ref 131]) rfl ?_
    refine xegf2 rfl xsh131 (by decide) rfl ?_
    refine xeb 2 (pc' := 15) (ls' := [.ref 131, .int a1, .int a2]) (st' := [.ref 131, .int 120, .ref 143]) rfl ?_
    refine xegf0 rfl xsh131 (by decide) ?_
    refine xeb 7 (pc' := 25) (ls' := [.ref 131, .int a1, .int a2]) (st' := [.int (((120 * (I 131 18)) + (4 * a1)) + a2), .ref 143]) rfl ?_
    obtain ⟨b3, h⟩ := xck_some h
    refine xeia rfl xsh143 b3 ?_
    obtain rfl := Option.some.inj h
    exact xeiret rfl rfl
  · rw [if_neg c2] at h
    refine xef_ne_f rfl c2 ?_
    refine xeb 2 (pc' := 29) (ls' := [.ref 131, .int a1, .int a2]) (st' := [.ref 131, .ref 131]) rfl ?_
    refine xegf2 rfl xsh131 (by decide) rfl ?_
    refine xeb 1 (pc' := 33) (ls' := [.ref 131, .int a1, .int a2]) (st' := [.int a1, .ref 163, .ref 131]) rfl ?_
    obtain ⟨b4, h⟩ := xck_some h
    refine xeia rfl xsh163 b4 ?_
    refine xeb 5 (pc' := 40) (ls' := [.ref 131, .int a1, .int a2]) (st' := [.ref 131, .int (((I 163 (xN a1)) - 1) / 10), .ref 131]) rfl ?_
    refine xegf2 rfl xsh131 (by decide) rfl ?_
    refine xeb 1 (pc' := 44) (ls' := [.ref 131, .int a1, .int a2]) (st' := [.int a1, .ref 163, .int (((I 163 (xN a1)) - 1) / 10), .ref 131]) rfl ?_
    obtain ⟨b5, h⟩ := xck_some h
    refine xeia rfl xsh163 b5 ?_
    refine xeb 5 (pc' := 51) (ls' := [.ref 131, .int a1, .int a2]) (st' := [.int a2, .int (((I 163 (xN a1)) - 1) - ((I 163 (xN a1)) - 1) / 10 * 10), .int (((I 163 (xN a1)) - 1) / 10), .ref 131]) rfl ?_
    obtain ⟨q6, eq6, h⟩ := xbind_some h
    refine xcallV rfl xsh131 rfl rfl rfl (Nat.le_of_ble_eq_true rfl) (Nat.le_of_ble_eq_true rfl) (Nat.le_of_ble_eq_true rfl) rfl (g_M_turned (d := d + 1) _ eq6) ?_
    obtain rfl := Option.some.inj h
    exact xeiret rfl rfl
noncomputable def f_M_doFit (I : XI) (a1 : Int32) (a2 : Int32) : Option (Int32) :=
  (f_M_knobOf I a1 a2).bind fun q1 => (f_M_overTo I a1 a2).bind fun q2 => (f_M_knobOf I q2 ((a2 + 2) - (a2 + 2) / 4 * 4)).bind fun q3 => xck (xnarz (if (q1 + q3) = 0 then 1 else 0)) (some (if (q1 + q3) = 0 then 1 else 0))
theorem g_M_doFit {X : XX} {d : Nat} {L : XL} {I : XI} {a1 : Int32} {a2 : Int32}  (r : Int32) (h : f_M_doFit I a1 a2 = some r) : xEv X (d + 3) 130 0 [.ref 131, .int a1, .int a2] [] I L (some (.int r)) I L := by
  rw [f_M_doFit] at h
  refine xeb 3 (pc' := 3) (ls' := [.ref 131, .int a1, .int a2]) (st' := [.int a2, .int a1, .ref 131]) rfl ?_
  obtain ⟨q1, eq1, h⟩ := xbind_some h
  refine xcallV rfl xsh131 rfl rfl rfl (Nat.le_of_ble_eq_true rfl) (Nat.le_of_ble_eq_true rfl) (Nat.le_of_ble_eq_true rfl) rfl (g_M_knobOf (d := d + 0) _ eq1) ?_
  refine xeb 4 (pc' := 10) (ls' := [.ref 131, .int a1, .int a2]) (st' := [.int a2, .int a1, .ref 131, .ref 131, .int q1]) rfl ?_
  obtain ⟨q2, eq2, h⟩ := xbind_some h
  refine xcallV rfl xsh131 rfl rfl rfl (Nat.le_of_ble_eq_true rfl) (Nat.le_of_ble_eq_true rfl) (Nat.le_of_ble_eq_true rfl) rfl (g_M_overTo (d := d + 0) _ eq2) ?_
  refine xeb 5 (pc' := 18) (ls' := [.ref 131, .int a1, .int a2]) (st' := [.int ((a2 + 2) - (a2 + 2) / 4 * 4), .int q2, .ref 131, .int q1]) rfl ?_
  obtain ⟨q3, eq3, h⟩ := xbind_some h
  refine xcallV rfl xsh131 rfl rfl rfl (Nat.le_of_ble_eq_true rfl) (Nat.le_of_ble_eq_true rfl) (Nat.le_of_ble_eq_true rfl) rfl (g_M_knobOf (d := d + 0) _ eq3) ?_
  refine xeb 1 (pc' := 22) (ls' := [.ref 131, .int a1, .int a2]) (st' := [.int (q1 + q3)]) rfl ?_
  have hj : xEv X (d + 3) 130 30 [.ref 131, .int a1, .int a2] [.int (if (q1 + q3) = 0 then 1 else 0)] I L (some (.int r)) I L := by
    obtain ⟨b5, h⟩ := xck_some h
    obtain rfl := Option.some.inj h
    exact xeiret rfl b5
  by_cases c4 : (q1 + q3) = 0
  · simp only [if_pos c4] at hj
    refine xef_ne_t rfl c4 ?_
    exact xeb 2 rfl hj
  · simp only [if_neg c4] at hj
    refine xef_ne_f rfl c4 ?_
    exact xeb 1 rfl hj
noncomputable def f_M_areJoinedOver (I : XI) (a1 : Int32) (a2 : Int32) : Option (Int32) :=
  (f_M_overTo I a1 a2).bind fun q1 => if q1 < 0 then (some 0) else ((f_M_doesLie I a1).bind fun q3 => if q3 = 0 then (some 0) else ((f_M_doesLie I q1).bind fun q5 => if q5 = 0 then (some 0) else ((f_M_doFit I a1 a2).bind fun q7 => xck (xnarz (if q7 = 0 then 0 else 1)) (some (if q7 = 0 then 0 else 1)))))
theorem g_M_areJoinedOver {X : XX} {d : Nat} {L : XL} {I : XI} {a1 : Int32} {a2 : Int32}  (r : Int32) (h : f_M_areJoinedOver I a1 a2 = some r) : xEv X (d + 4) 131 0 [.ref 131, .int a1, .int a2, .null] [] I L (some (.int r)) I L := by
  rw [f_M_areJoinedOver] at h
  refine xeb 3 (pc' := 3) (ls' := [.ref 131, .int a1, .int a2, .null]) (st' := [.int a2, .int a1, .ref 131]) rfl ?_
  obtain ⟨q1, eq1, h⟩ := xbind_some h
  refine xcallV rfl xsh131 rfl rfl rfl (Nat.le_of_ble_eq_true rfl) (Nat.le_of_ble_eq_true rfl) (Nat.le_of_ble_eq_true rfl) rfl (g_M_overTo (d := d + 1) _ eq1) ?_
  refine xeb 2 (pc' := 8) (ls' := [.ref 131, .int a1, .int a2, .int q1]) (st' := [.int q1]) rfl ?_
  by_cases c2 : q1 < 0
  · rw [if_pos c2] at h
    refine xef_lt_t rfl c2 ?_
    refine xeb 1 (pc' := 41) (ls' := [.ref 131, .int a1, .int a2, .int q1]) (st' := [.int 0]) rfl ?_
    obtain rfl := Option.some.inj h
    exact xeiret rfl rfl
  · rw [if_neg c2] at h
    refine xef_lt_f rfl c2 ?_
    refine xeb 2 (pc' := 13) (ls' := [.ref 131, .int a1, .int a2, .int q1]) (st' := [.int a1, .ref 131]) rfl ?_
    obtain ⟨q3, eq3, h⟩ := xbind_some h
    refine xcallV rfl xsh131 rfl rfl rfl (Nat.le_of_ble_eq_true rfl) (Nat.le_of_ble_eq_true rfl) (Nat.le_of_ble_eq_true rfl) rfl (g_M_doesLie (d := d + 3) _ eq3) ?_
    by_cases c4 : q3 = 0
    · rw [if_pos c4] at h
      refine xef_eq_t rfl c4 ?_
      refine xeb 1 (pc' := 41) (ls' := [.ref 131, .int a1, .int a2, .int q1]) (st' := [.int 0]) rfl ?_
      obtain rfl := Option.some.inj h
      exact xeiret rfl rfl
    · rw [if_neg c4] at h
      refine xef_eq_f rfl c4 ?_
      refine xeb 2 (pc' := 21) (ls' := [.ref 131, .int a1, .int a2, .int q1]) (st' := [.int q1, .ref 131]) rfl ?_
      obtain ⟨q5, eq5, h⟩ := xbind_some h
      refine xcallV rfl xsh131 rfl rfl rfl (Nat.le_of_ble_eq_true rfl) (Nat.le_of_ble_eq_true rfl) (Nat.le_of_ble_eq_true rfl) rfl (g_M_doesLie (d := d + 3) _ eq5) ?_
      by_cases c6 : q5 = 0
      · rw [if_pos c6] at h
        refine xef_eq_t rfl c6 ?_
        refine xeb 1 (pc' := 41) (ls' := [.ref 131, .int a1, .int a2, .int q1]) (st' := [.int 0]) rfl ?_
        obtain rfl := Option.some.inj h
        exact xeiret rfl rfl
      · rw [if_neg c6] at h
        refine xef_eq_f rfl c6 ?_
        refine xeb 3 (pc' := 30) (ls' := [.ref 131, .int a1, .int a2, .int q1]) (st' := [.int a2, .int a1, .ref 131]) rfl ?_
        obtain ⟨q7, eq7, h⟩ := xbind_some h
        refine xcallV rfl xsh131 rfl rfl rfl (Nat.le_of_ble_eq_true rfl) (Nat.le_of_ble_eq_true rfl) (Nat.le_of_ble_eq_true rfl) rfl (g_M_doFit (d := d + 0) _ eq7) ?_
        have hj : xEv X (d + 4) 131 41 [.ref 131, .int a1, .int a2, .int q1] [.int (if q7 = 0 then 0 else 1)] I L (some (.int r)) I L := by
          obtain ⟨b9, h⟩ := xck_some h
          obtain rfl := Option.some.inj h
          exact xeiret rfl b9
        by_cases c8 : q7 = 0
        · simp only [if_pos c8] at hj
          refine xef_eq_t rfl c8 ?_
          exact xeb 1 rfl hj
        · simp only [if_neg c8] at hj
          refine xef_eq_f rfl c8 ?_
          exact xeb 2 rfl hj
noncomputable def f_M_fitsNext_4 (F : Nat) (I : XI) : Nat → Int32 → Int32 → Int32 → Option (Int32)
  | 0, _, _, _ => none
  | n + 1, v1, v2, v3 =>
    if 4 ≤ v3 then (some v2) else ((f_M_areJoinedOver I v1 v3).bind fun q2 => f_M_fitsNext_4 F I n v1 (if q2 = 0 then v2 else (v2 + 1)) (v3 + 1))
theorem g_M_fitsNext_4 {X : XX} {d : Nat} {L : XL} {F : Nat} {I : XI}  {r : Int32}  : ∀ (n : Nat) (v1 : Int32) (v2 : Int32) (v3 : Int32), f_M_fitsNext_4 F I n v1 v2 v3 = some r → xEv X (d + 5) 132 4 [.ref 131, .int v1, .int v2, .int v3] [] I L (some (.int r)) I L := by
  intro n
  induction n with
  | zero => intro v1 v2 v3 h; rw [f_M_fitsNext_4] at h; cases h
  | succ n ih =>
    intro v1 v2 v3 h 
    rw [f_M_fitsNext_4] at h
    refine xeb 2 (pc' := 6) (ls' := [.ref 131, .int v1, .int v2, .int v3]) (st' := [.int 4, .int v3]) rfl ?_
    by_cases c1 : 4 ≤ v3
    · rw [if_pos c1] at h
      refine xei_ge_t rfl c1 ?_
      refine xeb 1 (pc' := 28) (ls' := [.ref 131, .int v1, .int v2, .int v3]) (st' := [.int v2]) rfl ?_
      obtain rfl := Option.some.inj h
      exact xeiret rfl rfl
    · rw [if_neg c1] at h
      refine xei_ge_f rfl c1 ?_
      refine xeb 3 (pc' := 12) (ls' := [.ref 131, .int v1, .int v2, .int v3]) (st' := [.int v3, .int v1, .ref 131]) rfl ?_
      obtain ⟨q2, eq2, h⟩ := xbind_some h
      refine xcallV rfl xsh131 rfl rfl rfl (Nat.le_of_ble_eq_true rfl) (Nat.le_of_ble_eq_true rfl) (Nat.le_of_ble_eq_true rfl) rfl (g_M_areJoinedOver (d := d + 0) _ eq2) ?_
      have hj : xEv X (d + 5) 132 21 [.ref 131, .int v1, .int (if q2 = 0 then v2 else (v2 + 1)), .int v3] [] I L (some (.int r)) I L := by
        refine xeb 2 (pc' := 4) (ls' := [.ref 131, .int v1, .int (if q2 = 0 then v2 else (v2 + 1)), .int (v3 + 1)]) (st' := []) rfl ?_
        exact ih v1 (if q2 = 0 then v2 else (v2 + 1)) (v3 + 1) h
      by_cases c3 : q2 = 0
      · simp only [if_pos c3] at hj
        refine xef_eq_t rfl c3 ?_
        exact xeb 0 rfl hj
      · simp only [if_neg c3] at hj
        refine xef_eq_f rfl c3 ?_
        exact xeb 1 rfl hj
noncomputable def f_M_fitsNext (F : Nat) (I : XI) (a1 : Int32) : Option (Int32) :=
  f_M_fitsNext_4 F I F a1 0 0
theorem g_M_fitsNext {X : XX} {d : Nat} {L : XL} {F : Nat} {I : XI} {a1 : Int32}  (r : Int32) (h : f_M_fitsNext F I a1 = some r) : xEv X (d + 5) 132 0 [.ref 131, .int a1, .null, .null] [] I L (some (.int r)) I L := by
  rw [f_M_fitsNext] at h
  refine xeb 4 (pc' := 4) (ls' := [.ref 131, .int a1, .int 0, .int 0]) (st' := []) rfl ?_
  exact g_M_fitsNext_4 F a1 0 0 h
noncomputable def f_M_looks_2 (F : Nat) : Nat → Int32 → XI → Option (XI)
  | 0, _, _ => none
  | n + 1, v1, I =>
    if 9 ≤ v1 then (xck (xin 30 33) (xck (xin 4 9) (xst (xput I 160 (xN 4) (I 163 (xN 30))) fun I4 => some I4))) else (xck (xin v1 9) (xst (xput I 160 (xN v1) 0) fun I6 => f_M_looks_2 F n (v1 + 1) I6))
theorem g_M_looks_2 {X : XX} {d : Nat} {L : XL} {F : Nat}  {r : XI}  : ∀ (n : Nat) (v1 : Int32) (I : XI), f_M_looks_2 F n v1 I = some r → xEv X (d + 0) 133 2 [.ref 131, .int v1] [] I L none r L := by
  intro n
  induction n with
  | zero => intro v1 I h; rw [f_M_looks_2] at h; cases h
  | succ n ih =>
    intro v1 I h 
    rw [f_M_looks_2] at h
    refine xeb 2 (pc' := 5) (ls' := [.ref 131, .int v1]) (st' := [.int 9, .int v1]) rfl ?_
    by_cases c1 : 9 ≤ v1
    · rw [if_pos c1] at h
      refine xei_ge_t rfl c1 ?_
      refine xeb 1 (pc' := 22) (ls' := [.ref 131, .int v1]) (st' := [.ref 131]) rfl ?_
      refine xegf2 rfl xsh131 (by decide) rfl ?_
      refine xeb 2 (pc' := 27) (ls' := [.ref 131, .int v1]) (st' := [.ref 131, .int 4, .ref 160]) rfl ?_
      refine xegf2 rfl xsh131 (by decide) rfl ?_
      refine xeb 1 (pc' := 32) (ls' := [.ref 131, .int v1]) (st' := [.int 30, .ref 163, .int 4, .ref 160]) rfl ?_
      obtain ⟨b2, h⟩ := xck_some h
      refine xeia rfl xsh163 b2 ?_
      obtain ⟨b3, h⟩ := xck_some h
      refine xeis rfl xsh160 b3 ?_
      obtain ⟨I4, hI4, h⟩ := xst_some h
      rw [← hI4]
      obtain rfl := Option.some.inj h
      exact xevret rfl
    · rw [if_neg c1] at h
      refine xei_ge_f rfl c1 ?_
      refine xeb 1 (pc' := 9) (ls' := [.ref 131, .int v1]) (st' := [.ref 131]) rfl ?_
      refine xegf2 rfl xsh131 (by decide) rfl ?_
      refine xeb 2 (pc' := 14) (ls' := [.ref 131, .int v1]) (st' := [.int 0, .int v1, .ref 160]) rfl ?_
      obtain ⟨b5, h⟩ := xck_some h
      refine xeis rfl xsh160 b5 ?_
      obtain ⟨I6, hI6, h⟩ := xst_some h
      rw [← hI6]
      refine xeb 2 (pc' := 2) (ls' := [.ref 131, .int (v1 + 1)]) (st' := []) rfl ?_
      exact ih (v1 + 1) I6 h
noncomputable def f_M_looks (F : Nat) (I : XI) : Option (XI) :=
  f_M_looks_2 F F 0 I
theorem g_M_looks {X : XX} {d : Nat} {L : XL} {F : Nat} {I : XI}  (r : XI) (h : f_M_looks F I = some r) : xEv X (d + 0) 133 0 [.ref 131, .null] [] I L none r L := by
  rw [f_M_looks] at h
  refine xeb 2 (pc' := 2) (ls' := [.ref 131, .int 0]) (st' := []) rfl ?_
  exact g_M_looks_2 F 0 I h
noncomputable def f_M_looksAt (F : Nat) (a1 : Int32) (I : XI) : Option (XI) :=
  (f_M_looks F I).bind fun q1 => xck (xin 0 9) (xst (xput q1 160 (xN 0) (a1 - a1 / 6 * 6)) fun I3 => xck (xin 1 9) (xst (xput I3 160 (xN 1) (a1 / 6)) fun I5 => (f_M_landAt I5 a1).bind fun q6 => xck (xin 2 9) (xst (xput I5 160 (xN 2) q6) fun I8 => some I8)))
theorem g_M_looksAt {X : XX} {d : Nat} {L : XL} {F : Nat} {a1 : Int32} {I : XI}  (r : XI) (h : f_M_looksAt F a1 I = some r) : xEv X (d + 1) 134 0 [.ref 131, .int a1] [] I L none r L := by
  rw [f_M_looksAt] at h
  refine xeb 1 (pc' := 1) (ls' := [.ref 131, .int a1]) (st' := [.ref 131]) rfl ?_
  obtain ⟨q1, eq1, h⟩ := xbind_some h
  refine xcallV rfl xsh131 rfl rfl rfl (Nat.le_of_ble_eq_true rfl) (Nat.le_of_ble_eq_true rfl) (Nat.le_of_ble_eq_true rfl) rfl (g_M_looks (d := d + 0) _ eq1) ?_
  refine xeb 1 (pc' := 5) (ls' := [.ref 131, .int a1]) (st' := [.ref 131]) rfl ?_
  refine xegf2 rfl xsh131 (by decide) rfl ?_
  refine xeb 4 (pc' := 13) (ls' := [.ref 131, .int a1]) (st' := [.int (a1 - a1 / 6 * 6), .int 0, .ref 160]) rfl ?_
  obtain ⟨b2, h⟩ := xck_some h
  refine xeis rfl xsh160 b2 ?_
  obtain ⟨I3, hI3, h⟩ := xst_some h
  rw [← hI3]
  refine xeb 1 (pc' := 15) (ls' := [.ref 131, .int a1]) (st' := [.ref 131]) rfl ?_
  refine xegf2 rfl xsh131 (by decide) rfl ?_
  refine xeb 4 (pc' := 23) (ls' := [.ref 131, .int a1]) (st' := [.int (a1 / 6), .int 1, .ref 160]) rfl ?_
  obtain ⟨b4, h⟩ := xck_some h
  refine xeis rfl xsh160 b4 ?_
  obtain ⟨I5, hI5, h⟩ := xst_some h
  rw [← hI5]
  refine xeb 1 (pc' := 25) (ls' := [.ref 131, .int a1]) (st' := [.ref 131]) rfl ?_
  refine xegf2 rfl xsh131 (by decide) rfl ?_
  refine xeb 3 (pc' := 31) (ls' := [.ref 131, .int a1]) (st' := [.int a1, .ref 131, .int 2, .ref 160]) rfl ?_
  obtain ⟨q6, eq6, h⟩ := xbind_some h
  refine xcallV rfl xsh131 rfl rfl rfl (Nat.le_of_ble_eq_true rfl) (Nat.le_of_ble_eq_true rfl) (Nat.le_of_ble_eq_true rfl) rfl (g_M_landAt (d := d + 0) _ eq6) ?_
  obtain ⟨b7, h⟩ := xck_some h
  refine xeis rfl xsh160 b7 ?_
  obtain ⟨I8, hI8, h⟩ := xst_some h
  rw [← hI8]
  obtain rfl := Option.some.inj h
  exact xevret rfl
noncomputable def f_M_termOf_158 (F : Nat) (k5 : Int32 → Int32 → Int32 → XI → Option (Int32 × XI)) (v2 : Int32) (v3 : Int32) (v4 : Int32) (s1 : Int32) (s2 : Int32) (I : XI) : Option (Int32 × XI) :=
  xck (xin s1 400) (xst (xput I 161 (xN s1) s2) fun I12 => k5 v2 v3 (v4 + 1) I12)
theorem g_M_termOf_158 {X : XX} {d : Nat} {L : XL} {F : Nat} {k5 : Int32 → Int32 → Int32 → XI → Option (Int32 × XI)}  {r : Int32 × XI} (hk5 : ∀ (v2 : Int32) (v3 : Int32) (v4 : Int32) (I : XI), k5 v2 v3 v4 I = some r → ∀ (z1 : Value) (z5 : Value) (z6 : Value) (z7 : Value), xEv X (d + 0) 135 5 [.ref 131, z1, .int v2, .int v3, .int v4, z5, z6, z7] [] I L (some (.int r.1)) r.2 L) {v2 : Int32} {v3 : Int32} {v4 : Int32} {s1 : Int32} {s2 : Int32} {I : XI} (h : f_M_termOf_158 F k5 v2 v3 v4 s1 s2 I = some r) (z1 : Value) (z5 : Value) (z6 : Value) (z7 : Value) : xEv X (d + 0) 135 158 [.ref 131, z1, .int v2, .int v3, .int v4, z5, z6, z7] [.int s2, .int s1, .ref 161] I L (some (.int r.1)) r.2 L := by
  rw [f_M_termOf_158] at h
  obtain ⟨b11, h⟩ := xck_some h
  refine xeis rfl xsh161 b11 ?_
  obtain ⟨I12, hI12, h⟩ := xst_some h
  rw [← hI12]
  refine xeb 2 (pc' := 5) (ls' := [.ref 131, z1, .int v2, .int v3, .int (v4 + 1), z5, z6, z7]) (st' := []) rfl ?_
  exact hk5 v2 v3 (v4 + 1) I12 h _ _ _ _
noncomputable def f_M_termOf_104 (F : Nat) (k5 : Int32 → Int32 → Int32 → XI → Option (Int32 × XI)) (v2 : Int32) (v3 : Int32) (v4 : Int32) (v5 : Int32) (v6 : Int32) (v7 : Int32) (I : XI) : Option (Int32 × XI) :=
  if v5 = 2 then (f_M_termOf_158 F k5 v2 v3 v4 (v3 - 1) (v6 + v7) I) else (if v5 = 3 then (f_M_termOf_158 F k5 v2 v3 v4 (v3 - 1) (v6 - v7) I) else (if v5 = 4 then (f_M_termOf_158 F k5 v2 v3 v4 (v3 - 1) (v6 * v7) I) else (xck (!decide (v7 = 0)) (f_M_termOf_158 F k5 v2 v3 v4 (v3 - 1) (v6 / v7) I))))
theorem g_M_termOf_104 {X : XX} {d : Nat} {L : XL} {F : Nat} {k5 : Int32 → Int32 → Int32 → XI → Option (Int32 × XI)}  {r : Int32 × XI} (hk5 : ∀ (v2 : Int32) (v3 : Int32) (v4 : Int32) (I : XI), k5 v2 v3 v4 I = some r → ∀ (z1 : Value) (z5 : Value) (z6 : Value) (z7 : Value), xEv X (d + 0) 135 5 [.ref 131, z1, .int v2, .int v3, .int v4, z5, z6, z7] [] I L (some (.int r.1)) r.2 L) {v2 : Int32} {v3 : Int32} {v4 : Int32} {v5 : Int32} {v6 : Int32} {v7 : Int32} {I : XI} (h : f_M_termOf_104 F k5 v2 v3 v4 v5 v6 v7 I = some r) (z1 : Value) : xEv X (d + 0) 135 104 [.ref 131, z1, .int v2, .int v3, .int v4, .int v5, .int v6, .int v7] [] I L (some (.int r.1)) r.2 L := by
  rw [f_M_termOf_104] at h
  refine xeb 1 (pc' := 105) (ls' := [.ref 131, z1, .int v2, .int v3, .int v4, .int v5, .int v6, .int v7]) (st' := [.ref 131]) rfl ?_
  refine xegf2 rfl xsh131 (by decide) rfl ?_
  refine xeb 5 (pc' := 114) (ls' := [.ref 131, z1, .int v2, .int v3, .int v4, .int v5, .int v6, .int v7]) (st' := [.int 2, .int v5, .int (v3 - 1), .ref 161]) rfl ?_
  by_cases c10 : v5 = 2
  · rw [if_pos c10] at h
    refine xei_ne_t rfl c10 ?_
    refine xeb 4 (pc' := 158) (ls' := [.ref 131, z1, .int v2, .int v3, .int v4, .int v5, .int v6, .int v7]) (st' := [.int (v6 + v7), .int (v3 - 1), .ref 161]) rfl ?_
    exact g_M_termOf_158 hk5 h _ _ _ _
  · rw [if_neg c10] at h
    refine xei_ne_f rfl c10 ?_
    refine xeb 2 (pc' := 128) (ls' := [.ref 131, z1, .int v2, .int v3, .int v4, .int v5, .int v6, .int v7]) (st' := [.int 3, .int v5, .int (v3 - 1), .ref 161]) rfl ?_
    by_cases c13 : v5 = 3
    · rw [if_pos c13] at h
      refine xei_ne_t rfl c13 ?_
      refine xeb 4 (pc' := 158) (ls' := [.ref 131, z1, .int v2, .int v3, .int v4, .int v5, .int v6, .int v7]) (st' := [.int (v6 - v7), .int (v3 - 1), .ref 161]) rfl ?_
      exact g_M_termOf_158 hk5 h _ _ _ _
    · rw [if_neg c13] at h
      refine xei_ne_f rfl c13 ?_
      refine xeb 2 (pc' := 142) (ls' := [.ref 131, z1, .int v2, .int v3, .int v4, .int v5, .int v6, .int v7]) (st' := [.int 4, .int v5, .int (v3 - 1), .ref 161]) rfl ?_
      by_cases c14 : v5 = 4
      · rw [if_pos c14] at h
        refine xei_ne_t rfl c14 ?_
        refine xeb 4 (pc' := 158) (ls' := [.ref 131, z1, .int v2, .int v3, .int v4, .int v5, .int v6, .int v7]) (st' := [.int (v6 * v7), .int (v3 - 1), .ref 161]) rfl ?_
        exact g_M_termOf_158 hk5 h _ _ _ _
      · rw [if_neg c14] at h
        refine xei_ne_f rfl c14 ?_
        refine xeb 2 (pc' := 157) (ls' := [.ref 131, z1, .int v2, .int v3, .int v4, .int v5, .int v6, .int v7]) (st' := [.int v7, .int v6, .int (v3 - 1), .ref 161]) rfl ?_
        obtain ⟨b15, h⟩ := xck_some h
        refine xeidiv rfl b15 ?_
        exact g_M_termOf_158 hk5 h _ _ _ _
noncomputable def f_M_termOf_58 (F : Nat) (k5 : Int32 → Int32 → Int32 → XI → Option (Int32 × XI)) (v2 : Int32) (v3 : Int32) (v4 : Int32) (s1 : Int32) (s2 : Int32) (I : XI) : Option (Int32 × XI) :=
  xck (xin s1 400) (xst (xput I 161 (xN s1) s2) fun I19 => k5 v2 (v3 + 1) (v4 + 1) I19)
theorem g_M_termOf_58 {X : XX} {d : Nat} {L : XL} {F : Nat} {k5 : Int32 → Int32 → Int32 → XI → Option (Int32 × XI)}  {r : Int32 × XI} (hk5 : ∀ (v2 : Int32) (v3 : Int32) (v4 : Int32) (I : XI), k5 v2 v3 v4 I = some r → ∀ (z1 : Value) (z5 : Value) (z6 : Value) (z7 : Value), xEv X (d + 0) 135 5 [.ref 131, z1, .int v2, .int v3, .int v4, z5, z6, z7] [] I L (some (.int r.1)) r.2 L) {v2 : Int32} {v3 : Int32} {v4 : Int32} {s1 : Int32} {s2 : Int32} {I : XI} (h : f_M_termOf_58 F k5 v2 v3 v4 s1 s2 I = some r) (z1 : Value) (z5 : Value) (z6 : Value) (z7 : Value) : xEv X (d + 0) 135 58 [.ref 131, z1, .int v2, .int v3, .int v4, z5, z6, z7] [.int s2, .int s1, .ref 161] I L (some (.int r.1)) r.2 L := by
  rw [f_M_termOf_58] at h
  obtain ⟨b18, h⟩ := xck_some h
  refine xeis rfl xsh161 b18 ?_
  obtain ⟨I19, hI19, h⟩ := xst_some h
  rw [← hI19]
  refine xeb 4 (pc' := 5) (ls' := [.ref 131, z1, .int v2, .int (v3 + 1), .int (v4 + 1), z5, z6, z7]) (st' := []) rfl ?_
  exact hk5 v2 (v3 + 1) (v4 + 1) I19 h _ _ _ _
noncomputable def f_M_termOf_5 (F : Nat) : Nat → Int32 → Int32 → Int32 → XI → Option (Int32 × XI)
  | 0, _, _, _, _ => none
  | n + 1, v2, v3, v4, I =>
    if v2 ≤ v4 then (xck (xin 0 400) (some ((I 161 (xN 0)), I))) else (xck (xin v4 840) (if 2 ≤ (I 157 (xN v4)) then (xck (xin ((v3 + (-1)) - 1) 400) (xck (xin (v3 + (-1)) 400) (if (I 157 (xN v4)) = 5 then (if (I 161 (xN (v3 + (-1)))) = 0 then (xst (xput I 131 47 1) fun I9 => some (0, I9)) else (f_M_termOf_104 F (fun v2 v3 v4 I => f_M_termOf_5 F n v2 v3 v4 I) v2 (v3 + (-1)) v4 (I 157 (xN v4)) (I 161 (xN ((v3 + (-1)) - 1))) (I 161 (xN (v3 + (-1)))) I)) else (f_M_termOf_104 F (fun v2 v3 v4 I => f_M_termOf_5 F n v2 v3 v4 I) v2 (v3 + (-1)) v4 (I 157 (xN v4)) (I 161 (xN ((v3 + (-1)) - 1))) (I 161 (xN (v3 + (-1)))) I)))) else (if (I 157 (xN v4)) = 0 then (xck (xin v4 840) (f_M_termOf_58 F (fun v2 v3 v4 I => f_M_termOf_5 F n v2 v3 v4 I) v2 v3 v4 v3 (I 158 (xN v4)) I)) else (xck (xin v4 840) (xck (xin (I 158 (xN v4)) 9) (f_M_termOf_58 F (fun v2 v3 v4 I => f_M_termOf_5 F n v2 v3 v4 I) v2 v3 v4 v3 (I 160 (xN (I 158 (xN v4)))) I))))))
theorem g_M_termOf_5 {X : XX} {d : Nat} {L : XL} {F : Nat}  {r : Int32 × XI}  : ∀ (n : Nat) (v2 : Int32) (v3 : Int32) (v4 : Int32) (I : XI), f_M_termOf_5 F n v2 v3 v4 I = some r → ∀ (z1 : Value) (z5 : Value) (z6 : Value) (z7 : Value), xEv X (d + 0) 135 5 [.ref 131, z1, .int v2, .int v3, .int v4, z5, z6, z7] [] I L (some (.int r.1)) r.2 L := by
  intro n
  induction n with
  | zero => intro v2 v3 v4 I h; rw [f_M_termOf_5] at h; cases h
  | succ n ih =>
    intro v2 v3 v4 I h z1 z5 z6 z7
    rw [f_M_termOf_5] at h
    refine xeb 2 (pc' := 8) (ls' := [.ref 131, z1, .int v2, .int v3, .int v4, z5, z6, z7]) (st' := [.int v2, .int v4]) rfl ?_
    by_cases c1 : v2 ≤ v4
    · rw [if_pos c1] at h
      refine xei_ge_t rfl c1 ?_
      refine xeb 1 (pc' := 166) (ls' := [.ref 131, z1, .int v2, .int v3, .int v4, z5, z6, z7]) (st' := [.ref 131]) rfl ?_
      refine xegf2 rfl xsh131 (by decide) rfl ?_
      refine xeb 1 (pc' := 170) (ls' := [.ref 131, z1, .int v2, .int v3, .int v4, z5, z6, z7]) (st' := [.int 0, .ref 161]) rfl ?_
      obtain ⟨b2, h⟩ := xck_some h
      refine xeia rfl xsh161 b2 ?_
      obtain rfl := Option.some.inj h
      exact xeiret rfl rfl
    · rw [if_neg c1] at h
      refine xei_ge_f rfl c1 ?_
      refine xeb 1 (pc' := 12) (ls' := [.ref 131, z1, .int v2, .int v3, .int v4, z5, z6, z7]) (st' := [.ref 131]) rfl ?_
      refine xegf2 rfl xsh131 (by decide) rfl ?_
      refine xeb 1 (pc' := 17) (ls' := [.ref 131, z1, .int v2, .int v3, .int v4, z5, z6, z7]) (st' := [.int v4, .ref 157]) rfl ?_
      obtain ⟨b3, h⟩ := xck_some h
      refine xeia rfl xsh157 b3 ?_
      refine xeb 3 (pc' := 23) (ls' := [.ref 131, z1, .int v2, .int v3, .int v4, .int (I 157 (xN v4)), z6, z7]) (st' := [.int 2, .int (I 157 (xN v4))]) rfl ?_
      by_cases c4 : 2 ≤ (I 157 (xN v4))
      · rw [if_pos c4] at h
        refine xei_ge_t rfl c4 ?_
        refine xeb 2 (pc' := 69) (ls' := [.ref 131, z1, .int v2, .int (v3 + (-1)), .int v4, .int (I 157 (xN v4)), z6, z7]) (st' := [.ref 131]) rfl ?_
        refine xegf2 rfl xsh131 (by decide) rfl ?_
        refine xeb 3 (pc' := 75) (ls' := [.ref 131, z1, .int v2, .int (v3 + (-1)), .int v4, .int (I 157 (xN v4)), z6, z7]) (st' := [.int ((v3 + (-1)) - 1), .ref 161]) rfl ?_
        obtain ⟨b5, h⟩ := xck_some h
        refine xeia rfl xsh161 b5 ?_
        refine xeb 2 (pc' := 79) (ls' := [.ref 131, z1, .int v2, .int (v3 + (-1)), .int v4, .int (I 157 (xN v4)), .int (I 161 (xN ((v3 + (-1)) - 1))), z7]) (st' := [.ref 131]) rfl ?_
        refine xegf2 rfl xsh131 (by decide) rfl ?_
        refine xeb 1 (pc' := 83) (ls' := [.ref 131, z1, .int v2, .int (v3 + (-1)), .int v4, .int (I 157 (xN v4)), .int (I 161 (xN ((v3 + (-1)) - 1))), z7]) (st' := [.int (v3 + (-1)), .ref 161]) rfl ?_
        obtain ⟨b6, h⟩ := xck_some h
        refine xeia rfl xsh161 b6 ?_
        refine xeb 3 (pc' := 89) (ls' := [.ref 131, z1, .int v2, .int (v3 + (-1)), .int v4, .int (I 157 (xN v4)), .int (I 161 (xN ((v3 + (-1)) - 1))), .int (I 161 (xN (v3 + (-1))))]) (st' := [.int 5, .int (I 157 (xN v4))]) rfl ?_
        by_cases c7 : (I 157 (xN v4)) = 5
        · rw [if_pos c7] at h
          refine xei_ne_t rfl c7 ?_
          refine xeb 1 (pc' := 94) (ls' := [.ref 131, z1, .int v2, .int (v3 + (-1)), .int v4, .int (I 157 (xN v4)), .int (I 161 (xN ((v3 + (-1)) - 1))), .int (I 161 (xN (v3 + (-1))))]) (st' := [.int (I 161 (xN (v3 + (-1))))]) rfl ?_
          by_cases c8 : (I 161 (xN (v3 + (-1)))) = 0
          · rw [if_pos c8] at h
            refine xef_ne_t rfl c8 ?_
            refine xeb 2 (pc' := 99) (ls' := [.ref 131, z1, .int v2, .int (v3 + (-1)), .int v4, .int (I 157 (xN v4)), .int (I 161 (xN ((v3 + (-1)) - 1))), .int (I 161 (xN (v3 + (-1))))]) (st' := [.int 1, .ref 131]) rfl ?_
            refine xepf1 rfl xsh131 (by decide) rfl ?_
            obtain ⟨I9, hI9, h⟩ := xst_some h
            rw [← hI9]
            refine xeb 1 (pc' := 103) (ls' := [.ref 131, z1, .int v2, .int (v3 + (-1)), .int v4, .int (I 157 (xN v4)), .int (I 161 (xN ((v3 + (-1)) - 1))), .int (I 161 (xN (v3 + (-1))))]) (st' := [.int 0]) rfl ?_
            obtain rfl := Option.some.inj h
            exact xeiret rfl rfl
          · rw [if_neg c8] at h
            refine xef_ne_f rfl c8 ?_
            exact g_M_termOf_104 (fun v2 v3 v4 I h' z1 z5 z6 z7 => ih v2 v3 v4 I h' z1 z5 z6 z7) h _
        · rw [if_neg c7] at h
          refine xei_ne_f rfl c7 ?_
          exact g_M_termOf_104 (fun v2 v3 v4 I h' z1 z5 z6 z7 => ih v2 v3 v4 I h' z1 z5 z6 z7) h _
      · rw [if_neg c4] at h
        refine xei_ge_f rfl c4 ?_
        refine xeb 1 (pc' := 27) (ls' := [.ref 131, z1, .int v2, .int v3, .int v4, .int (I 157 (xN v4)), z6, z7]) (st' := [.ref 131]) rfl ?_
        refine xegf2 rfl xsh131 (by decide) rfl ?_
        refine xeb 2 (pc' := 33) (ls' := [.ref 131, z1, .int v2, .int v3, .int v4, .int (I 157 (xN v4)), z6, z7]) (st' := [.int (I 157 (xN v4)), .int v3, .ref 161]) rfl ?_
        by_cases c16 : (I 157 (xN v4)) = 0
        · rw [if_pos c16] at h
          refine xef_ne_t rfl c16 ?_
          refine xeb 1 (pc' := 37) (ls' := [.ref 131, z1, .int v2, .int v3, .int v4, .int (I 157 (xN v4)), z6, z7]) (st' := [.ref 131, .int v3, .ref 161]) rfl ?_
          refine xegf2 rfl xsh131 (by decide) rfl ?_
          refine xeb 1 (pc' := 42) (ls' := [.ref 131, z1, .int v2, .int v3, .int v4, .int (I 157 (xN v4)), z6, z7]) (st' := [.int v4, .ref 158, .int v3, .ref 161]) rfl ?_
          obtain ⟨b17, h⟩ := xck_some h
          refine xeia rfl xsh158 b17 ?_
          refine xeb 1 (pc' := 58) (ls' := [.ref 131, z1, .int v2, .int v3, .int v4, .int (I 157 (xN v4)), z6, z7]) (st' := [.int (I 158 (xN v4)), .int v3, .ref 161]) rfl ?_
          exact g_M_termOf_58 (fun v2 v3 v4 I h' z1 z5 z6 z7 => ih v2 v3 v4 I h' z1 z5 z6 z7) h _ _ _ _
        · rw [if_neg c16] at h
          refine xef_ne_f rfl c16 ?_
          refine xeb 1 (pc' := 47) (ls' := [.ref 131, z1, .int v2, .int v3, .int v4, .int (I 157 (xN v4)), z6, z7]) (st' := [.ref 131, .int v3, .ref 161]) rfl ?_
          refine xegf2 rfl xsh131 (by decide) rfl ?_
          refine xeb 1 (pc' := 51) (ls' := [.ref 131, z1, .int v2, .int v3, .int v4, .int (I 157 (xN v4)), z6, z7]) (st' := [.ref 131, .ref 160, .int v3, .ref 161]) rfl ?_
          refine xegf2 rfl xsh131 (by decide) rfl ?_
          refine xeb 1 (pc' := 56) (ls' := [.ref 131, z1, .int v2, .int v3, .int v4, .int (I 157 (xN v4)), z6, z7]) (st' := [.int v4, .ref 158, .ref 160, .int v3, .ref 161]) rfl ?_
          obtain ⟨b20, h⟩ := xck_some h
          refine xeia rfl xsh158 b20 ?_
          obtain ⟨b21, h⟩ := xck_some h
          refine xeia rfl xsh160 b21 ?_
          exact g_M_termOf_58 (fun v2 v3 v4 I h' z1 z5 z6 z7 => ih v2 v3 v4 I h' z1 z5 z6 z7) h _ _ _ _
noncomputable def f_M_termOf (F : Nat) (a1 : Int32) (a2 : Int32) (I : XI) : Option (Int32 × XI) :=
  f_M_termOf_5 F F a2 0 a1 I
theorem g_M_termOf {X : XX} {d : Nat} {L : XL} {F : Nat} {a1 : Int32} {a2 : Int32} {I : XI}  (r : Int32 × XI) (h : f_M_termOf F a1 a2 I = some r) : xEv X (d + 0) 135 0 [.ref 131, .int a1, .int a2, .null, .null, .null, .null, .null] [] I L (some (.int r.1)) r.2 L := by
  rw [f_M_termOf] at h
  refine xeb 4 (pc' := 5) (ls' := [.ref 131, .int a1, .int a2, .int 0, .int a1, .null, .null, .null]) (st' := []) rfl ?_
  exact g_M_termOf_5 F a2 0 a1 I h _ _ _ _
noncomputable def f_M_lawTells_119 (F : Nat) (v4 : Int32) (I : XI) : Option (Int32 × XI) :=
  xck (xin v4 260) (xck (xin v4 260) ((f_M_termOf F (I 155 (xN v4)) (I 156 (xN v4)) I).bind fun q12 => some ((if (q12.2 131 47) = 0 then q12.1 else 0), q12.2)))
theorem g_M_lawTells_119 {X : XX} {d : Nat} {L : XL} {F : Nat}  {r : Int32 × XI}  {v4 : Int32} {I : XI} (h : f_M_lawTells_119 F v4 I = some r) (z1 : Value) (z2 : Value) (z3 : Value) (z5 : Value) (z6 : Value) : xEv X (d + 1) 136 119 [.ref 131, z1, z2, z3, .int v4, z5, z6] [] I L (some (.int r.1)) r.2 L := by
  rw [f_M_lawTells_119] at h
  refine xeb 2 (pc' := 121) (ls' := [.ref 131, z1, z2, z3, .int v4, z5, z6]) (st' := [.ref 131, .ref 131]) rfl ?_
  refine xegf2 rfl xsh131 (by decide) rfl ?_
  refine xeb 1 (pc' := 126) (ls' := [.ref 131, z1, z2, z3, .int v4, z5, z6]) (st' := [.int v4, .ref 155, .ref 131]) rfl ?_
  obtain ⟨b10, h⟩ := xck_some h
  refine xeia rfl xsh155 b10 ?_
  refine xeb 1 (pc' := 128) (ls' := [.ref 131, z1, z2, z3, .int v4, z5, z6]) (st' := [.ref 131, .int (I 155 (xN v4)), .ref 131]) rfl ?_
  refine xegf2 rfl xsh131 (by decide) rfl ?_
  refine xeb 1 (pc' := 133) (ls' := [.ref 131, z1, z2, z3, .int v4, z5, z6]) (st' := [.int v4, .ref 156, .int (I 155 (xN v4)), .ref 131]) rfl ?_
  obtain ⟨b11, h⟩ := xck_some h
  refine xeia rfl xsh156 b11 ?_
  obtain ⟨q12, eq12, h⟩ := xbind_some h
  refine xcallV rfl xsh131 rfl rfl rfl (Nat.le_of_ble_eq_true rfl) (Nat.le_of_ble_eq_true rfl) (Nat.le_of_ble_eq_true rfl) rfl (g_M_termOf (d := d + 0) _ eq12) ?_
  refine xeb 2 (pc' := 140) (ls' := [.ref 131, z1, z2, z3, .int v4, .int q12.1, z6]) (st' := [.ref 131]) rfl ?_
  refine xegf0 rfl xsh131 (by decide) ?_
  have hj : xEv X (d + 1) 136 152 [.ref 131, z1, z2, z3, .int v4, .int q12.1, z6] [.int (if (q12.2 131 47) = 0 then q12.1 else 0)] q12.2 L (some (.int r.1)) r.2 L := by
    obtain rfl := Option.some.inj h
    exact xeiret rfl rfl
  by_cases c13 : (q12.2 131 47) = 0
  · simp only [if_pos c13] at hj
    refine xef_eq_t rfl c13 ?_
    exact xeb 1 rfl hj
  · simp only [if_neg c13] at hj
    refine xef_eq_f rfl c13 ?_
    exact xeb 2 rfl hj
noncomputable def f_M_lawTells_39 (F : Nat) : Nat → Int32 → Int32 → XI → Option (Int32 × XI)
  | 0, _, _, _ => none
  | n + 1, v3, v4, I =>
    xck (xin v3 8) (if (I 151 (xN v3)) ≤ v4 then (some (0, I)) else (xck (xin v4 260) (if (I 152 (xN v4)) = 0 then (f_M_lawTells_119 F v4 I) else (xck (xin v4 260) (xck (xin v4 260) ((f_M_termOf F (I 153 (xN v4)) (I 154 (xN v4)) I).bind fun q16 => xck (xin v4 260) (xck (xin v4 260) ((f_M_termOf F (q16.2 154 (xN v4)) (q16.2 155 (xN v4)) q16.2).bind fun q19 => if (q19.2 131 47) = 0 then (if q16.1 < q19.1 then (f_M_lawTells_119 F v4 q19.2) else (f_M_lawTells_39 F n v3 (v4 + 1) q19.2)) else (some (0, q19.2))))))))))
theorem g_M_lawTells_39 {X : XX} {d : Nat} {L : XL} {F : Nat}  {r : Int32 × XI}  : ∀ (n : Nat) (v3 : Int32) (v4 : Int32) (I : XI), f_M_lawTells_39 F n v3 v4 I = some r → ∀ (z1 : Value) (z2 : Value) (z5 : Value) (z6 : Value), xEv X (d + 1) 136 39 [.ref 131, z1, z2, .int v3, .int v4, z5, z6] [] I L (some (.int r.1)) r.2 L := by
  intro n
  induction n with
  | zero => intro v3 v4 I h; rw [f_M_lawTells_39] at h; cases h
  | succ n ih =>
    intro v3 v4 I h z1 z2 z5 z6
    rw [f_M_lawTells_39] at h
    refine xeb 2 (pc' := 42) (ls' := [.ref 131, z1, z2, .int v3, .int v4, z5, z6]) (st' := [.ref 131, .int v4]) rfl ?_
    refine xegf2 rfl xsh131 (by decide) rfl ?_
    refine xeb 1 (pc' := 46) (ls' := [.ref 131, z1, z2, .int v3, .int v4, z5, z6]) (st' := [.int v3, .ref 151, .int v4]) rfl ?_
    obtain ⟨b6, h⟩ := xck_some h
    refine xeia rfl xsh151 b6 ?_
    by_cases c7 : (I 151 (xN v3)) ≤ v4
    · rw [if_pos c7] at h
      refine xei_ge_t rfl c7 ?_
      refine xeb 1 (pc' := 160) (ls' := [.ref 131, z1, z2, .int v3, .int v4, z5, z6]) (st' := [.int 0]) rfl ?_
      obtain rfl := Option.some.inj h
      exact xeiret rfl rfl
    · rw [if_neg c7] at h
      refine xei_ge_f rfl c7 ?_
      refine xeb 1 (pc' := 51) (ls' := [.ref 131, z1, z2, .int v3, .int v4, z5, z6]) (st' := [.ref 131]) rfl ?_
      refine xegf2 rfl xsh131 (by decide) rfl ?_
      refine xeb 1 (pc' := 56) (ls' := [.ref 131, z1, z2, .int v3, .int v4, z5, z6]) (st' := [.int v4, .ref 152]) rfl ?_
      obtain ⟨b8, h⟩ := xck_some h
      refine xeza rfl xsh152 b8 ?_
      by_cases c9 : (I 152 (xN v4)) = 0
      · rw [if_pos c9] at h
        refine xef_eq_t rfl c9 ?_
        exact g_M_lawTells_119 h _ _ _ _ _
      · rw [if_neg c9] at h
        refine xef_eq_f rfl c9 ?_
        refine xeb 2 (pc' := 62) (ls' := [.ref 131, z1, z2, .int v3, .int v4, z5, z6]) (st' := [.ref 131, .ref 131]) rfl ?_
        refine xegf2 rfl xsh131 (by decide) rfl ?_
        refine xeb 1 (pc' := 67) (ls' := [.ref 131, z1, z2, .int v3, .int v4, z5, z6]) (st' := [.int v4, .ref 153, .ref 131]) rfl ?_
        obtain ⟨b14, h⟩ := xck_some h
        refine xeia rfl xsh153 b14 ?_
        refine xeb 1 (pc' := 69) (ls' := [.ref 131, z1, z2, .int v3, .int v4, z5, z6]) (st' := [.ref 131, .int (I 153 (xN v4)), .ref 131]) rfl ?_
        refine xegf2 rfl xsh131 (by decide) rfl ?_
        refine xeb 1 (pc' := 74) (ls' := [.ref 131, z1, z2, .int v3, .int v4, z5, z6]) (st' := [.int v4, .ref 154, .int (I 153 (xN v4)), .ref 131]) rfl ?_
        obtain ⟨b15, h⟩ := xck_some h
        refine xeia rfl xsh154 b15 ?_
        obtain ⟨q16, eq16, h⟩ := xbind_some h
        refine xcallV rfl xsh131 rfl rfl rfl (Nat.le_of_ble_eq_true rfl) (Nat.le_of_ble_eq_true rfl) (Nat.le_of_ble_eq_true rfl) rfl (g_M_termOf (d := d + 0) _ eq16) ?_
        refine xeb 3 (pc' := 82) (ls' := [.ref 131, z1, z2, .int v3, .int v4, .int q16.1, z6]) (st' := [.ref 131, .ref 131]) rfl ?_
        refine xegf2 rfl xsh131 (by decide) rfl ?_
        refine xeb 1 (pc' := 87) (ls' := [.ref 131, z1, z2, .int v3, .int v4, .int q16.1, z6]) (st' := [.int v4, .ref 154, .ref 131]) rfl ?_
        obtain ⟨b17, h⟩ := xck_some h
        refine xeia rfl xsh154 b17 ?_
        refine xeb 1 (pc' := 89) (ls' := [.ref 131, z1, z2, .int v3, .int v4, .int q16.1, z6]) (st' := [.ref 131, .int (q16.2 154 (xN v4)), .ref 131]) rfl ?_
        refine xegf2 rfl xsh131 (by decide) rfl ?_
        refine xeb 1 (pc' := 94) (ls' := [.ref 131, z1, z2, .int v3, .int v4, .int q16.1, z6]) (st' := [.int v4, .ref 155, .int (q16.2 154 (xN v4)), .ref 131]) rfl ?_
        obtain ⟨b18, h⟩ := xck_some h
        refine xeia rfl xsh155 b18 ?_
        obtain ⟨q19, eq19, h⟩ := xbind_some h
        refine xcallV rfl xsh131 rfl rfl rfl (Nat.le_of_ble_eq_true rfl) (Nat.le_of_ble_eq_true rfl) (Nat.le_of_ble_eq_true rfl) rfl (g_M_termOf (d := d + 0) _ eq19) ?_
        refine xeb 2 (pc' := 101) (ls' := [.ref 131, z1, z2, .int v3, .int v4, .int q16.1, .int q19.1]) (st' := [.ref 131]) rfl ?_
        refine xegf0 rfl xsh131 (by decide) ?_
        by_cases c20 : (q19.2 131 47) = 0
        · rw [if_pos c20] at h
          refine xef_eq_t rfl c20 ?_
          refine xeb 2 (pc' := 113) (ls' := [.ref 131, z1, z2, .int v3, .int v4, .int q16.1, .int q19.1]) (st' := [.int q19.1, .int q16.1]) rfl ?_
          by_cases c21 : q16.1 < q19.1
          · rw [if_pos c21] at h
            refine xei_lt_t rfl c21 ?_
            exact g_M_lawTells_119 h _ _ _ _ _
          · rw [if_neg c21] at h
            refine xei_lt_f rfl c21 ?_
            refine xeb 3 (pc' := 39) (ls' := [.ref 131, z1, z2, .int v3, .int (v4 + 1), .int q16.1, .int q19.1]) (st' := []) rfl ?_
            exact ih v3 (v4 + 1) q19.2 h _ _ _ _
        · rw [if_neg c20] at h
          refine xef_eq_f rfl c20 ?_
          refine xeb 1 (pc' := 108) (ls' := [.ref 131, z1, z2, .int v3, .int v4, .int q16.1, .int q19.1]) (st' := [.int 0]) rfl ?_
          obtain rfl := Option.some.inj h
          exact xeiret rfl rfl
noncomputable def f_M_lawTells (F : Nat) (a1 : Int32) (a2 : Int32) (I : XI) : Option (Int32 × XI) :=
  xck (xin ((4 * (I 131 18)) + a1) 8) (xck (xin ((4 * (I 131 18)) + a1) 8) (if (I 150 (xN ((4 * (I 131 18)) + a1))) = (I 151 (xN ((4 * (I 131 18)) + a1))) then (some (a2, I)) else (xst (xput I 131 47 0) fun I4 => xck (xin ((4 * (I 131 18)) + a1) 8) (f_M_lawTells_39 F F ((4 * (I 131 18)) + a1) (I4 150 (xN ((4 * (I 131 18)) + a1))) I4))))
theorem g_M_lawTells {X : XX} {d : Nat} {L : XL} {F : Nat} {a1 : Int32} {a2 : Int32} {I : XI}  (r : Int32 × XI) (h : f_M_lawTells F a1 a2 I = some r) : xEv X (d + 1) 136 0 [.ref 131, .int a1, .int a2, .null, .null, .null, .null] [] I L (some (.int r.1)) r.2 L := by
  rw [f_M_lawTells] at h
  refine xeb 2 (pc' := 2) (ls' := [.ref 131, .int a1, .int a2, .null, .null, .null, .null]) (st' := [.ref 131, .int 4]) rfl ?_
  refine xegf0 rfl xsh131 (by decide) ?_
  refine xeb 5 (pc' := 10) (ls' := [.ref 131, .int a1, .int a2, .int ((4 * (I 131 18)) + a1), .null, .null, .null]) (st' := [.ref 131]) rfl ?_
  refine xegf2 rfl xsh131 (by decide) rfl ?_
  refine xeb 1 (pc' := 14) (ls' := [.ref 131, .int a1, .int a2, .int ((4 * (I 131 18)) + a1), .null, .null, .null]) (st' := [.int ((4 * (I 131 18)) + a1), .ref 150]) rfl ?_
  obtain ⟨b1, h⟩ := xck_some h
  refine xeia rfl xsh150 b1 ?_
  refine xeb 1 (pc' := 16) (ls' := [.ref 131, .int a1, .int a2, .int ((4 * (I 131 18)) + a1), .null, .null, .null]) (st' := [.ref 131, .int (I 150 (xN ((4 * (I 131 18)) + a1)))]) rfl ?_
  refine xegf2 rfl xsh131 (by decide) rfl ?_
  refine xeb 1 (pc' := 20) (ls' := [.ref 131, .int a1, .int a2, .int ((4 * (I 131 18)) + a1), .null, .null, .null]) (st' := [.int ((4 * (I 131 18)) + a1), .ref 151, .int (I 150 (xN ((4 * (I 131 18)) + a1)))]) rfl ?_
  obtain ⟨b2, h⟩ := xck_some h
  refine xeia rfl xsh151 b2 ?_
  by_cases c3 : (I 150 (xN ((4 * (I 131 18)) + a1))) = (I 151 (xN ((4 * (I 131 18)) + a1)))
  · rw [if_pos c3] at h
    refine xei_ne_t rfl c3 ?_
    refine xeb 1 (pc' := 25) (ls' := [.ref 131, .int a1, .int a2, .int ((4 * (I 131 18)) + a1), .null, .null, .null]) (st' := [.int a2]) rfl ?_
    obtain rfl := Option.some.inj h
    exact xeiret rfl rfl
  · rw [if_neg c3] at h
    refine xei_ne_f rfl c3 ?_
    refine xeb 2 (pc' := 28) (ls' := [.ref 131, .int a1, .int a2, .int ((4 * (I 131 18)) + a1), .null, .null, .null]) (st' := [.int 0, .ref 131]) rfl ?_
    refine xepf1 rfl xsh131 (by decide) rfl ?_
    obtain ⟨I4, hI4, h⟩ := xst_some h
    rw [← hI4]
    refine xeb 1 (pc' := 32) (ls' := [.ref 131, .int a1, .int a2, .int ((4 * (I 131 18)) + a1), .null, .null, .null]) (st' := [.ref 131]) rfl ?_
    refine xegf2 rfl xsh131 (by decide) rfl ?_
    refine xeb 1 (pc' := 36) (ls' := [.ref 131, .int a1, .int a2, .int ((4 * (I 131 18)) + a1), .null, .null, .null]) (st' := [.int ((4 * (I 131 18)) + a1), .ref 150]) rfl ?_
    obtain ⟨b5, h⟩ := xck_some h
    refine xeia rfl xsh150 b5 ?_
    refine xeb 1 (pc' := 39) (ls' := [.ref 131, .int a1, .int a2, .int ((4 * (I 131 18)) + a1), .int (I4 150 (xN ((4 * (I 131 18)) + a1))), .null, .null]) (st' := []) rfl ?_
    exact g_M_lawTells_39 F ((4 * (I 131 18)) + a1) (I4 150 (xN ((4 * (I 131 18)) + a1))) I4 h _ _ _ _
noncomputable def f_M_held (a0 : Int32) (a1 : Int32) (a2 : Int32) : Option (Int32) :=
  if a1 ≤ a0 then (some (if a0 ≤ a2 then a0 else a2)) else (some a1)
theorem g_M_held {X : XX} {d : Nat} {I : XI} {L : XL} {a0 : Int32} {a1 : Int32} {a2 : Int32}  (r : Int32) (h : f_M_held a0 a1 a2 = some r) : xEv X (d + 0) 137 0 [.int a0, .int a1, .int a2] [] I L (some (.int r)) I L := by
  rw [f_M_held] at h
  refine xeb 2 (pc' := 2) (ls' := [.int a0, .int a1, .int a2]) (st' := [.int a1, .int a0]) rfl ?_
  by_cases c1 : a1 ≤ a0
  · rw [if_pos c1] at h
    refine xei_ge_t rfl c1 ?_
    refine xeb 2 (pc' := 11) (ls' := [.int a0, .int a1, .int a2]) (st' := [.int a2, .int a0]) rfl ?_
    have hj : xEv X (d + 0) 137 19 [.int a0, .int a1, .int a2] [.int (if a0 ≤ a2 then a0 else a2)] I L (some (.int r)) I L := by
      obtain rfl := Option.some.inj h
      exact xeiret rfl rfl
    by_cases c2 : a0 ≤ a2
    · simp only [if_pos c2] at hj
      refine xei_le_t rfl c2 ?_
      exact xeb 1 rfl hj
    · simp only [if_neg c2] at hj
      refine xei_le_f rfl c2 ?_
      exact xeb 2 rfl hj
  · rw [if_neg c1] at h
    refine xei_ge_f rfl c1 ?_
    refine xeb 2 (pc' := 19) (ls' := [.int a0, .int a1, .int a2]) (st' := [.int a1]) rfl ?_
    obtain rfl := Option.some.inj h
    exact xeiret rfl rfl
noncomputable def f_M_fallsAt (F : Nat) (a1 : Int32) (I : XI) : Option (Int32 × XI) :=
  (f_M_fitsNext F I a1).bind fun q1 => (f_M_looksAt F a1 I).bind fun q2 => xck (xin 3 9) (xst (xput q2 160 (xN 3) q1) fun I4 => (f_M_lawTells F 3 50 I4).bind fun q5 => (f_M_held q5.1 0 100).bind fun q6 => some (q6, q5.2))
theorem g_M_fallsAt {X : XX} {d : Nat} {L : XL} {F : Nat} {a1 : Int32} {I : XI}  (r : Int32 × XI) (h : f_M_fallsAt F a1 I = some r) : xEv X (d + 6) 138 0 [.ref 131, .int a1, .null] [] I L (some (.int r.1)) r.2 L := by
  rw [f_M_fallsAt] at h
  refine xeb 2 (pc' := 2) (ls' := [.ref 131, .int a1, .null]) (st' := [.int a1, .ref 131]) rfl ?_
  obtain ⟨q1, eq1, h⟩ := xbind_some h
  refine xcallV rfl xsh131 rfl rfl rfl (Nat.le_of_ble_eq_true rfl) (Nat.le_of_ble_eq_true rfl) (Nat.le_of_ble_eq_true rfl) rfl (g_M_fitsNext (d := d + 0) _ eq1) ?_
  refine xeb 3 (pc' := 8) (ls' := [.ref 131, .int a1, .int q1]) (st' := [.int a1, .ref 131]) rfl ?_
  obtain ⟨q2, eq2, h⟩ := xbind_some h
  refine xcallV rfl xsh131 rfl rfl rfl (Nat.le_of_ble_eq_true rfl) (Nat.le_of_ble_eq_true rfl) (Nat.le_of_ble_eq_true rfl) rfl (g_M_looksAt (d := d + 4) _ eq2) ?_
  refine xeb 1 (pc' := 12) (ls' := [.ref 131, .int a1, .int q1]) (st' := [.ref 131]) rfl ?_
  refine xegf2 rfl xsh131 (by decide) rfl ?_
  refine xeb 2 (pc' := 17) (ls' := [.ref 131, .int a1, .int q1]) (st' := [.int q1, .int 3, .ref 160]) rfl ?_
  obtain ⟨b3, h⟩ := xck_some h
  refine xeis rfl xsh160 b3 ?_
  obtain ⟨I4, hI4, h⟩ := xst_some h
  rw [← hI4]
  refine xeb 3 (pc' := 22) (ls' := [.ref 131, .int a1, .int q1]) (st' := [.int 50, .int 3, .ref 131]) rfl ?_
  obtain ⟨q5, eq5, h⟩ := xbind_some h
  refine xcallV rfl xsh131 rfl rfl rfl (Nat.le_of_ble_eq_true rfl) (Nat.le_of_ble_eq_true rfl) (Nat.le_of_ble_eq_true rfl) rfl (g_M_lawTells (d := d + 4) _ eq5) ?_
  refine xeb 2 (pc' := 28) (ls' := [.ref 131, .int a1, .int q1]) (st' := [.int 100, .int 0, .int q5.1]) rfl ?_
  obtain ⟨q6, eq6, h⟩ := xbind_some h
  refine xcallS20 rfl rfl rfl (Nat.le_of_ble_eq_true rfl) (Nat.le_of_ble_eq_true rfl) (Nat.le_of_ble_eq_true rfl) rfl (g_M_held (d := d + 5) _ eq6) ?_
  obtain rfl := Option.some.inj h
  exact xeiret rfl rfl
noncomputable def f_M_cell (F : Nat) (a1 : Int32) (a2 : Int32) (a3 : Int32) (I : XI) : Option (Int32 × XI) :=
  (f_M_isCell I a1 a2).bind fun q1 => if q1 = 0 then (some ((-1), I)) else ((f_M_copies F I).bind fun q3 => if a3 < 0 ∨ 4 < a3 then (some ((-1), q3)) else if a3 = 0 then ((f_M_landAt q3 ((6 * a2) + a1)).bind fun q5 => some (q5, q3)) else if a3 = 1 then ((f_M_doesLie q3 ((6 * a2) + a1)).bind fun q7 => some ((if q7 = 0 then 0 else 1), q3)) else if a3 = 2 then ((f_M_doesLie q3 ((6 * a2) + a1)).bind fun q10 => if q10 = 0 then (some (0, q3)) else ((f_M_fitsNext F q3 ((6 * a2) + a1)).bind fun q12 => some (q12, q3))) else if a3 = 3 then ((f_M_doesLie q3 ((6 * a2) + a1)).bind fun q14 => if q14 = 0 then (some (0, q3)) else ((f_M_fallsAt F ((6 * a2) + a1) q3).bind fun q16 => some (q16.1, q16.2))) else if a3 = 4 then ((f_M_isHole q3 ((6 * a2) + a1)).bind fun q18 => if q18 = 0 then (some ((-2), q3)) else ((f_M_doesLie q3 ((6 * a2) + a1)).bind fun q20 => if q20 = 0 then (some ((-2), q3)) else (xck (xin ((6 * a2) + a1) 33) (some (((q3 163 (xN ((6 * a2) + a1))) - 1), q3))))) else none)
theorem g_M_cell {X : XX} {d : Nat} {L : XL} {F : Nat} {a1 : Int32} {a2 : Int32} {a3 : Int32} {I : XI}  (r : Int32 × XI) (h : f_M_cell F a1 a2 a3 I = some r) : xEv X (d + 7) 139 0 [.ref 131, .int a1, .int a2, .int a3, .null] [] I L (some (.int r.1)) r.2 L := by
  rw [f_M_cell] at h
  refine xeb 3 (pc' := 3) (ls' := [.ref 131, .int a1, .int a2, .int a3, .null]) (st' := [.int a2, .int a1, .ref 131]) rfl ?_
  obtain ⟨q1, eq1, h⟩ := xbind_some h
  refine xcallV rfl xsh131 rfl rfl rfl (Nat.le_of_ble_eq_true rfl) (Nat.le_of_ble_eq_true rfl) (Nat.le_of_ble_eq_true rfl) rfl (g_M_isCell (d := d + 5) _ eq1) ?_
  by_cases c2 : q1 = 0
  · rw [if_pos c2] at h
    refine xef_ne_t rfl c2 ?_
    refine xeb 1 (pc' := 10) (ls' := [.ref 131, .int a1, .int a2, .int a3, .null]) (st' := [.int (-1)]) rfl ?_
    obtain rfl := Option.some.inj h
    exact xeiret rfl rfl
  · rw [if_neg c2] at h
    refine xef_ne_f rfl c2 ?_
    refine xeb 1 (pc' := 12) (ls' := [.ref 131, .int a1, .int a2, .int a3, .null]) (st' := [.ref 131]) rfl ?_
    obtain ⟨q3, eq3, h⟩ := xbind_some h
    refine xcallV rfl xsh131 rfl rfl rfl (Nat.le_of_ble_eq_true rfl) (Nat.le_of_ble_eq_true rfl) (Nat.le_of_ble_eq_true rfl) rfl (g_M_copies (d := d + 6) _ eq3) ?_
    refine xeb 7 (pc' := 24) (ls' := [.ref 131, .int a1, .int a2, .int a3, .int ((6 * a2) + a1)]) (st' := [.int a3]) rfl ?_
    by_cases c4 : a3 < 0 ∨ 4 < a3
    · rw [if_pos c4] at h
      refine xetabO rfl rfl rfl c4 ?_
      refine xeb 1 (pc' := 156) (ls' := [.ref 131, .int a1, .int a2, .int a3, .int ((6 * a2) + a1)]) (st' := [.int (-1)]) rfl ?_
      obtain rfl := Option.some.inj h
      exact xeiret rfl rfl
    rw [if_neg c4] at h
    by_cases c6 : a3 = 0
    · rw [if_pos c6] at h
      refine xetabI rfl c6 rfl ?_
      refine xeb 2 (pc' := 63) (ls' := [.ref 131, .int a1, .int a2, .int a3, .int ((6 * a2) + a1)]) (st' := [.int ((6 * a2) + a1), .ref 131]) rfl ?_
      obtain ⟨q5, eq5, h⟩ := xbind_some h
      refine xcallV rfl xsh131 rfl rfl rfl (Nat.le_of_ble_eq_true rfl) (Nat.le_of_ble_eq_true rfl) (Nat.le_of_ble_eq_true rfl) rfl (g_M_landAt (d := d + 6) _ eq5) ?_
      obtain rfl := Option.some.inj h
      exact xeiret rfl rfl
    rw [if_neg c6] at h
    by_cases c9 : a3 = 1
    · rw [if_pos c9] at h
      refine xetabI rfl c9 rfl ?_
      refine xeb 2 (pc' := 70) (ls' := [.ref 131, .int a1, .int a2, .int a3, .int ((6 * a2) + a1)]) (st' := [.int ((6 * a2) + a1), .ref 131]) rfl ?_
      obtain ⟨q7, eq7, h⟩ := xbind_some h
      refine xcallV rfl xsh131 rfl rfl rfl (Nat.le_of_ble_eq_true rfl) (Nat.le_of_ble_eq_true rfl) (Nat.le_of_ble_eq_true rfl) rfl (g_M_doesLie (d := d + 6) _ eq7) ?_
      have hj : xEv X (d + 7) 139 81 [.ref 131, .int a1, .int a2, .int a3, .int ((6 * a2) + a1)] [.int (if q7 = 0 then 0 else 1)] q3 L (some (.int r.1)) r.2 L := by
        obtain rfl := Option.some.inj h
        exact xeiret rfl rfl
      by_cases c8 : q7 = 0
      · simp only [if_pos c8] at hj
        refine xef_eq_t rfl c8 ?_
        exact xeb 1 rfl hj
      · simp only [if_neg c8] at hj
        refine xef_eq_f rfl c8 ?_
        exact xeb 2 rfl hj
    rw [if_neg c9] at h
    by_cases c13 : a3 = 2
    · rw [if_pos c13] at h
      refine xetabI rfl c13 rfl ?_
      refine xeb 2 (pc' := 85) (ls' := [.ref 131, .int a1, .int a2, .int a3, .int ((6 * a2) + a1)]) (st' := [.int ((6 * a2) + a1), .ref 131]) rfl ?_
      obtain ⟨q10, eq10, h⟩ := xbind_some h
      refine xcallV rfl xsh131 rfl rfl rfl (Nat.le_of_ble_eq_true rfl) (Nat.le_of_ble_eq_true rfl) (Nat.le_of_ble_eq_true rfl) rfl (g_M_doesLie (d := d + 6) _ eq10) ?_
      by_cases c11 : q10 = 0
      · rw [if_pos c11] at h
        refine xef_eq_t rfl c11 ?_
        refine xeb 1 (pc' := 101) (ls' := [.ref 131, .int a1, .int a2, .int a3, .int ((6 * a2) + a1)]) (st' := [.int 0]) rfl ?_
        obtain rfl := Option.some.inj h
        exact xeiret rfl rfl
      · rw [if_neg c11] at h
        refine xef_eq_f rfl c11 ?_
        refine xeb 2 (pc' := 94) (ls' := [.ref 131, .int a1, .int a2, .int a3, .int ((6 * a2) + a1)]) (st' := [.int ((6 * a2) + a1), .ref 131]) rfl ?_
        obtain ⟨q12, eq12, h⟩ := xbind_some h
        refine xcallV rfl xsh131 rfl rfl rfl (Nat.le_of_ble_eq_true rfl) (Nat.le_of_ble_eq_true rfl) (Nat.le_of_ble_eq_true rfl) rfl (g_M_fitsNext (d := d + 1) _ eq12) ?_
        refine xeb 1 (pc' := 101) (ls' := [.ref 131, .int a1, .int a2, .int a3, .int ((6 * a2) + a1)]) (st' := [.int q12]) rfl ?_
        obtain rfl := Option.some.inj h
        exact xeiret rfl rfl
    rw [if_neg c13] at h
    by_cases c17 : a3 = 3
    · rw [if_pos c17] at h
      refine xetabI rfl c17 rfl ?_
      refine xeb 2 (pc' := 105) (ls' := [.ref 131, .int a1, .int a2, .int a3, .int ((6 * a2) + a1)]) (st' := [.int ((6 * a2) + a1), .ref 131]) rfl ?_
      obtain ⟨q14, eq14, h⟩ := xbind_some h
      refine xcallV rfl xsh131 rfl rfl rfl (Nat.le_of_ble_eq_true rfl) (Nat.le_of_ble_eq_true rfl) (Nat.le_of_ble_eq_true rfl) rfl (g_M_doesLie (d := d + 6) _ eq14) ?_
      by_cases c15 : q14 = 0
      · rw [if_pos c15] at h
        refine xef_eq_t rfl c15 ?_
        refine xeb 1 (pc' := 121) (ls' := [.ref 131, .int a1, .int a2, .int a3, .int ((6 * a2) + a1)]) (st' := [.int 0]) rfl ?_
        obtain rfl := Option.some.inj h
        exact xeiret rfl rfl
      · rw [if_neg c15] at h
        refine xef_eq_f rfl c15 ?_
        refine xeb 2 (pc' := 114) (ls' := [.ref 131, .int a1, .int a2, .int a3, .int ((6 * a2) + a1)]) (st' := [.int ((6 * a2) + a1), .ref 131]) rfl ?_
        obtain ⟨q16, eq16, h⟩ := xbind_some h
        refine xcallV rfl xsh131 rfl rfl rfl (Nat.le_of_ble_eq_true rfl) (Nat.le_of_ble_eq_true rfl) (Nat.le_of_ble_eq_true rfl) rfl (g_M_fallsAt (d := d + 0) _ eq16) ?_
        refine xeb 1 (pc' := 121) (ls' := [.ref 131, .int a1, .int a2, .int a3, .int ((6 * a2) + a1)]) (st' := [.int q16.1]) rfl ?_
        obtain rfl := Option.some.inj h
        exact xeiret rfl rfl
    rw [if_neg c17] at h
    by_cases c23 : a3 = 4
    · rw [if_pos c23] at h
      refine xetabI rfl c23 rfl ?_
      refine xeb 2 (pc' := 125) (ls' := [.ref 131, .int a1, .int a2, .int a3, .int ((6 * a2) + a1)]) (st' := [.int ((6 * a2) + a1), .ref 131]) rfl ?_
      obtain ⟨q18, eq18, h⟩ := xbind_some h
      refine xcallV rfl xsh131 rfl rfl rfl (Nat.le_of_ble_eq_true rfl) (Nat.le_of_ble_eq_true rfl) (Nat.le_of_ble_eq_true rfl) rfl (g_M_isHole (d := d + 5) _ eq18) ?_
      by_cases c19 : q18 = 0
      · rw [if_pos c19] at h
        refine xef_eq_t rfl c19 ?_
        refine xeb 1 (pc' := 154) (ls' := [.ref 131, .int a1, .int a2, .int a3, .int ((6 * a2) + a1)]) (st' := [.int (-2)]) rfl ?_
        obtain rfl := Option.some.inj h
        exact xeiret rfl rfl
      · rw [if_neg c19] at h
        refine xef_eq_f rfl c19 ?_
        refine xeb 2 (pc' := 134) (ls' := [.ref 131, .int a1, .int a2, .int a3, .int ((6 * a2) + a1)]) (st' := [.int ((6 * a2) + a1), .ref 131]) rfl ?_
        obtain ⟨q20, eq20, h⟩ := xbind_some h
        refine xcallV rfl xsh131 rfl rfl rfl (Nat.le_of_ble_eq_true rfl) (Nat.le_of_ble_eq_true rfl) (Nat.le_of_ble_eq_true rfl) rfl (g_M_doesLie (d := d + 6) _ eq20) ?_
        by_cases c21 : q20 = 0
        · rw [if_pos c21] at h
          refine xef_eq_t rfl c21 ?_
          refine xeb 1 (pc' := 154) (ls' := [.ref 131, .int a1, .int a2, .int a3, .int ((6 * a2) + a1)]) (st' := [.int (-2)]) rfl ?_
          obtain rfl := Option.some.inj h
          exact xeiret rfl rfl
        · rw [if_neg c21] at h
          refine xef_eq_f rfl c21 ?_
          refine xeb 1 (pc' := 141) (ls' := [.ref 131, .int a1, .int a2, .int a3, .int ((6 * a2) + a1)]) (st' := [.ref 131]) rfl ?_
          refine xegf2 rfl xsh131 (by decide) rfl ?_
          refine xeb 1 (pc' := 146) (ls' := [.ref 131, .int a1, .int a2, .int a3, .int ((6 * a2) + a1)]) (st' := [.int ((6 * a2) + a1), .ref 163]) rfl ?_
          obtain ⟨b22, h⟩ := xck_some h
          refine xeia rfl xsh163 b22 ?_
          refine xeb 3 (pc' := 154) (ls' := [.ref 131, .int a1, .int a2, .int a3, .int ((6 * a2) + a1)]) (st' := [.int ((q3 163 (xN ((6 * a2) + a1))) - 1)]) rfl ?_
          obtain rfl := Option.some.inj h
          exact xeiret rfl rfl
    rw [if_neg c23] at h
    cases h
noncomputable def f_H_isSide (a0 : Int32) : Option (Int32) :=
  if a0 < 0 then (some 0) else (xck (xnarz (if 4 ≤ a0 then 0 else 1)) (some (if 4 ≤ a0 then 0 else 1)))
theorem g_H_isSide {X : XX} {d : Nat} {I : XI} {L : XL} {a0 : Int32}  (r : Int32) (h : f_H_isSide a0 = some r) : xEv X (d + 0) 140 0 [.int a0] [] I L (some (.int r)) I L := by
  rw [f_H_isSide] at h
  refine xeb 1 (pc' := 1) (ls' := [.int a0]) (st' := [.int a0]) rfl ?_
  by_cases c1 : a0 < 0
  · rw [if_pos c1] at h
    refine xef_lt_t rfl c1 ?_
    refine xeb 1 (pc' := 14) (ls' := [.int a0]) (st' := [.int 0]) rfl ?_
    obtain rfl := Option.some.inj h
    exact xeiret rfl rfl
  · rw [if_neg c1] at h
    refine xef_lt_f rfl c1 ?_
    refine xeb 2 (pc' := 6) (ls' := [.int a0]) (st' := [.int 4, .int a0]) rfl ?_
    have hj : xEv X (d + 0) 140 14 [.int a0] [.int (if 4 ≤ a0 then 0 else 1)] I L (some (.int r)) I L := by
      obtain ⟨b3, h⟩ := xck_some h
      obtain rfl := Option.some.inj h
      exact xeiret rfl b3
    by_cases c2 : 4 ≤ a0
    · simp only [if_pos c2] at hj
      refine xei_ge_t rfl c2 ?_
      exact xeb 1 rfl hj
    · simp only [if_neg c2] at hj
      refine xei_ge_f rfl c2 ?_
      exact xeb 2 rfl hj
noncomputable def f_Board_hasKnobs (S1 : Nat) (I : XI) (a2 : Int32) : Option (Int32) :=
  xck (xin a2 30) (if 0 ≤ (I (S1 + 1) (xN a2)) then (some 1) else ((f_Table_isPiece 17 I a2).bind fun q3 => xck (xnarz (if q3 = 0 then 0 else 1)) (some (if q3 = 0 then 0 else 1))))
theorem g_Board_hasKnobs {X : XX} {d : Nat} {L : XL} {S1 : Nat} {I : XI} {a2 : Int32} (hS1 : xisSt S1) (r : Int32) (h : f_Board_hasKnobs S1 I a2 = some r) : xEv X (d + 1) 141 0 [.ref 30, .ref S1, .int a2] [] I L (some (.int r)) I L := by
  rw [f_Board_hasKnobs] at h
  refine xeb 1 (pc' := 1) (ls' := [.ref 30, .ref S1, .int a2]) (st' := [.ref S1]) rfl ?_
  refine xegf12 rfl hS1.1 (by decide) rfl ?_
  refine xeb 1 (pc' := 5) (ls' := [.ref 30, .ref S1, .int a2]) (st' := [.int a2, .ref (S1 + 1)]) rfl ?_
  obtain ⟨b1, h⟩ := xck_some h
  refine xeia rfl hS1.2 b1 ?_
  by_cases c2 : 0 ≤ (I (S1 + 1) (xN a2))
  · rw [if_pos c2] at h
    refine xef_ge_t rfl c2 ?_
    refine xeb 2 (pc' := 25) (ls' := [.ref 30, .ref S1, .int a2]) (st' := [.int 1]) rfl ?_
    obtain rfl := Option.some.inj h
    exact xeiret rfl rfl
  · rw [if_neg c2] at h
    refine xef_ge_f rfl c2 ?_
    refine xeb 1 (pc' := 10) (ls' := [.ref 30, .ref S1, .int a2]) (st' := [.ref 30]) rfl ?_
    refine xegf2 rfl xsh30 (by decide) rfl ?_
    refine xeb 1 (pc' := 14) (ls' := [.ref 30, .ref S1, .int a2]) (st' := [.int a2, .ref 17]) rfl ?_
    obtain ⟨q3, eq3, h⟩ := xbind_some h
    refine xcallV rfl xsh17 rfl rfl rfl (Nat.le_of_ble_eq_true rfl) (Nat.le_of_ble_eq_true rfl) (Nat.le_of_ble_eq_true rfl) rfl (g_Table_isPiece (d := d + 0) xis17 _ eq3) ?_
    have hj : xEv X (d + 1) 141 25 [.ref 30, .ref S1, .int a2] [.int (if q3 = 0 then 0 else 1)] I L (some (.int r)) I L := by
      obtain ⟨b5, h⟩ := xck_some h
      obtain rfl := Option.some.inj h
      exact xeiret rfl b5
    by_cases c4 : q3 = 0
    · simp only [if_pos c4] at hj
      refine xef_eq_t rfl c4 ?_
      exact xeb 1 rfl hj
    · simp only [if_neg c4] at hj
      refine xef_eq_f rfl c4 ?_
      exact xeb 2 rfl hj
