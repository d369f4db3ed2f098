/-! the methods as functions, and that a run answers so (by gen6.py) -/
noncomputable def f_M_isOf (I : XI) (a1 : Int32) (a2 : Int32) : Option (Int32) :=
  (f_M_isThere I a1).bind fun q1 => if q1 = 0 then (some 0) else ((f_M_doesLie I a1).bind fun q3 => if q3 = 0 then (some 0) else (if a2 = (-1) then (some 1) else ((f_M_landAt I a1).bind fun q6 => xck (xnarz (if q6 = a2 then 1 else 0)) (some (if q6 = a2 then 1 else 0)))))
theorem g_M_isOf {X : XX} {d : Nat} {L : XL} {I : XI} {a1 : Int32} {a2 : Int32}  (r : Int32) (h : f_M_isOf I a1 a2 = some r) : xEv X (d + 3) 160 0 [.ref 131, .int a1, .int a2] [] I L (some (.int r)) I L := by
  rw [f_M_isOf] at h
  refine xeb 2 (pc' := 2) (ls' := [.ref 131, .int a1, .int a2]) (st' := [.int a1, .ref 131]) rfl ?_
  obtain ⟨q1, eq1, h⟩ := xbind_some h
  refine xcallV rfl xsh131 rfl rfl rfl (Nat.le_of_ble_eq_true rfl) (Nat.le_of_ble_eq_true rfl) (Nat.le_of_ble_eq_true rfl) rfl (g_M_isThere (d := d + 0) _ eq1) ?_
  by_cases c2 : q1 = 0
  · rw [if_pos c2] at h
    refine xef_eq_t rfl c2 ?_
    refine xeb 1 (pc' := 35) (ls' := [.ref 131, .int a1, .int a2]) (st' := [.int 0]) rfl ?_
    obtain rfl := Option.some.inj h
    exact xeiret rfl rfl
  · rw [if_neg c2] at h
    refine xef_eq_f rfl c2 ?_
    refine xeb 2 (pc' := 10) (ls' := [.ref 131, .int a1, .int a2]) (st' := [.int a1, .ref 131]) rfl ?_
    obtain ⟨q3, eq3, h⟩ := xbind_some h
    refine xcallV rfl xsh131 rfl rfl rfl (Nat.le_of_ble_eq_true rfl) (Nat.le_of_ble_eq_true rfl) (Nat.le_of_ble_eq_true rfl) rfl (g_M_doesLie (d := d + 2) _ eq3) ?_
    by_cases c4 : q3 = 0
    · rw [if_pos c4] at h
      refine xef_eq_t rfl c4 ?_
      refine xeb 1 (pc' := 35) (ls' := [.ref 131, .int a1, .int a2]) (st' := [.int 0]) rfl ?_
      obtain rfl := Option.some.inj h
      exact xeiret rfl rfl
    · rw [if_neg c4] at h
      refine xef_eq_f rfl c4 ?_
      refine xeb 2 (pc' := 18) (ls' := [.ref 131, .int a1, .int a2]) (st' := [.int (-1), .int a2]) rfl ?_
      by_cases c5 : a2 = (-1)
      · rw [if_pos c5] at h
        refine xei_eq_t rfl c5 ?_
        refine xeb 2 (pc' := 35) (ls' := [.ref 131, .int a1, .int a2]) (st' := [.int 1]) rfl ?_
        obtain rfl := Option.some.inj h
        exact xeiret rfl rfl
      · rw [if_neg c5] at h
        refine xei_eq_f rfl c5 ?_
        refine xeb 2 (pc' := 23) (ls' := [.ref 131, .int a1, .int a2]) (st' := [.int a1, .ref 131]) rfl ?_
        obtain ⟨q6, eq6, h⟩ := xbind_some h
        refine xcallV rfl xsh131 rfl rfl rfl (Nat.le_of_ble_eq_true rfl) (Nat.le_of_ble_eq_true rfl) (Nat.le_of_ble_eq_true rfl) rfl (g_M_landAt (d := d + 2) _ eq6) ?_
        refine xeb 1 (pc' := 27) (ls' := [.ref 131, .int a1, .int a2]) (st' := [.int a2, .int q6]) rfl ?_
        have hj : xEv X (d + 3) 160 35 [.ref 131, .int a1, .int a2] [.int (if q6 = a2 then 1 else 0)] I L (some (.int r)) I L := by
          obtain ⟨b8, h⟩ := xck_some h
          obtain rfl := Option.some.inj h
          exact xeiret rfl b8
        by_cases c7 : q6 = a2
        · simp only [if_pos c7] at hj
          refine xei_ne_t rfl c7 ?_
          exact xeb 2 rfl hj
        · simp only [if_neg c7] at hj
          refine xei_ne_f rfl c7 ?_
          exact xeb 1 rfl hj
noncomputable def f_M_liesOf_4 (F : Nat) (I : XI) : Nat → Int32 → Int32 → Int32 → Option (Int32)
  | 0, _, _, _ => none
  | n + 1, v1, v2, v3 =>
    if 30 ≤ v3 then (some v2) else ((f_M_isOf I v3 v1).bind fun q2 => f_M_liesOf_4 F I n v1 (if q2 = 0 then v2 else (v2 + 1)) (v3 + 1))
theorem g_M_liesOf_4 {X : XX} {d : Nat} {L : XL} {F : Nat} {I : XI}  {r : Int32}  : ∀ (n : Nat) (v1 : Int32) (v2 : Int32) (v3 : Int32), f_M_liesOf_4 F I n v1 v2 v3 = some r → xEv X (d + 4) 161 4 [.ref 131, .int v1, .int v2, .int v3] [] I L (some (.int r)) I L := by
  intro n
  induction n with
  | zero => intro v1 v2 v3 h; rw [f_M_liesOf_4] at h; cases h
  | succ n ih =>
    intro v1 v2 v3 h 
    rw [f_M_liesOf_4] at h
    refine xeb 2 (pc' := 7) (ls' := [.ref 131, .int v1, .int v2, .int v3]) (st' := [.int 30, .int v3]) rfl ?_
    by_cases c1 : 30 ≤ v3
    · rw [if_pos c1] at h
      refine xei_ge_t rfl c1 ?_
      refine xeb 1 (pc' := 29) (ls' := [.ref 131, .int v1, .int v2, .int v3]) (st' := [.int v2]) rfl ?_
      obtain rfl := Option.some.inj h
      exact xeiret rfl rfl
    · rw [if_neg c1] at h
      refine xei_ge_f rfl c1 ?_
      refine xeb 3 (pc' := 13) (ls' := [.ref 131, .int v1, .int v2, .int v3]) (st' := [.int v1, .int v3, .ref 131]) rfl ?_
      obtain ⟨q2, eq2, h⟩ := xbind_some h
      refine xcallV rfl xsh131 rfl rfl rfl (Nat.le_of_ble_eq_true rfl) (Nat.le_of_ble_eq_true rfl) (Nat.le_of_ble_eq_true rfl) rfl (g_M_isOf (d := d + 0) _ eq2) ?_
      have hj : xEv X (d + 4) 161 22 [.ref 131, .int v1, .int (if q2 = 0 then v2 else (v2 + 1)), .int v3] [] I L (some (.int r)) I L := by
        refine xeb 2 (pc' := 4) (ls' := [.ref 131, .int v1, .int (if q2 = 0 then v2 else (v2 + 1)), .int (v3 + 1)]) (st' := []) rfl ?_
        exact ih v1 (if q2 = 0 then v2 else (v2 + 1)) (v3 + 1) h
      by_cases c3 : q2 = 0
      · simp only [if_pos c3] at hj
        refine xef_eq_t rfl c3 ?_
        exact xeb 0 rfl hj
      · simp only [if_neg c3] at hj
        refine xef_eq_f rfl c3 ?_
        exact xeb 1 rfl hj
noncomputable def f_M_liesOf (F : Nat) (I : XI) (a1 : Int32) : Option (Int32) :=
  f_M_liesOf_4 F I F a1 0 0
theorem g_M_liesOf {X : XX} {d : Nat} {L : XL} {F : Nat} {I : XI} {a1 : Int32}  (r : Int32) (h : f_M_liesOf F I a1 = some r) : xEv X (d + 4) 161 0 [.ref 131, .int a1, .null, .null] [] I L (some (.int r)) I L := by
  rw [f_M_liesOf] at h
  refine xeb 4 (pc' := 4) (ls' := [.ref 131, .int a1, .int 0, .int 0]) (st' := []) rfl ?_
  exact g_M_liesOf_4 F a1 0 0 h
noncomputable def f_M_fillsParts_156 (F : Nat) : Nat → Int32 → XI → Option (XI)
  | 0, _, _ => none
  | n + 1, v3, I =>
    if 30 ≤ v3 then (some I) else (xck (xin v3 30) (if (I 164 (xN v3)) = v3 then (xst (xput I 131 52 ((I 131 52) + 1)) fun I7 => f_M_fillsParts_156 F n (v3 + 1) I7) else (f_M_fillsParts_156 F n (v3 + 1) I)))
theorem g_M_fillsParts_156 {X : XX} {d : Nat} {L : XL} {F : Nat}  {r : XI}  : ∀ (n : Nat) (v3 : Int32) (I : XI), f_M_fillsParts_156 F n v3 I = some r → ∀ (z1 : Value) (z2 : Value) (z4 : Value) (z5 : Value), xEv X (d + 5) 162 156 [.ref 131, z1, z2, .int v3, z4, z5] [] I L none r L := by
  intro n
  induction n with
  | zero => intro v3 I h; rw [f_M_fillsParts_156] at h; cases h
  | succ n ih =>
    intro v3 I h z1 z2 z4 z5
    rw [f_M_fillsParts_156] at h
    refine xeb 2 (pc' := 159) (ls' := [.ref 131, z1, z2, .int v3, z4, z5]) (st' := [.int 30, .int v3]) rfl ?_
    by_cases c4 : 30 ≤ v3
    · rw [if_pos c4] at h
      refine xei_ge_t rfl c4 ?_
      obtain rfl := Option.some.inj h
      exact xevret rfl
    · rw [if_neg c4] at h
      refine xei_ge_f rfl c4 ?_
      refine xeb 1 (pc' := 163) (ls' := [.ref 131, z1, z2, .int v3, z4, z5]) (st' := [.ref 131]) rfl ?_
      refine xegf2 rfl xsh131 (by decide) rfl ?_
      refine xeb 1 (pc' := 167) (ls' := [.ref 131, z1, z2, .int v3, z4, z5]) (st' := [.int v3, .ref 164]) rfl ?_
      obtain ⟨b5, h⟩ := xck_some h
      refine xeia rfl xsh164 b5 ?_
      refine xeb 1 (pc' := 169) (ls' := [.ref 131, z1, z2, .int v3, z4, z5]) (st' := [.int v3, .int (I 164 (xN v3))]) rfl ?_
      by_cases c6 : (I 164 (xN v3)) = v3
      · rw [if_pos c6] at h
        refine xei_ne_t rfl c6 ?_
        refine xeb 2 (pc' := 174) (ls' := [.ref 131, z1, z2, .int v3, z4, z5]) (st' := [.ref 131, .ref 131]) rfl ?_
        refine xegf0 rfl xsh131 (by decide) ?_
        refine xeb 2 (pc' := 179) (ls' := [.ref 131, z1, z2, .int v3, z4, z5]) (st' := [.int ((I 131 52) + 1), .ref 131]) rfl ?_
        refine xepf0 rfl xsh131 (by decide) ?_
        obtain ⟨I7, hI7, h⟩ := xst_some h
        rw [← hI7]
        refine xeb 2 (pc' := 156) (ls' := [.ref 131, z1, (xkv z2), .int (v3 + 1), z4, z5]) (st' := []) rfl ?_
        exact ih (v3 + 1) I7 h _ _ _ _
      · rw [if_neg c6] at h
        refine xei_ne_f rfl c6 ?_
        refine xeb 2 (pc' := 156) (ls' := [.ref 131, z1, (xkv z2), .int (v3 + 1), z4, z5]) (st' := []) rfl ?_
        exact ih (v3 + 1) I h _ _ _ _
noncomputable def f_M_fillsParts_53 (F : Nat) (k44 : Int32 → Int32 → XI → Option (XI)) : Nat → Int32 → Int32 → Int32 → XI → Option (XI)
  | 0, _, _, _, _ => none
  | n + 1, v2, v3, v4, I =>
    if 4 ≤ v4 then (k44 v2 (v3 + 1) I) else (xck (xin v3 30) (if (I 164 (xN v3)) < 0 then (k44 v2 (v3 + 1) I) else ((f_M_areJoinedOver I v3 v4).bind fun q12 => if q12 = 0 then (f_M_fillsParts_53 F k44 n v2 v3 (v4 + 1) I) else ((f_M_overTo I v3 v4).bind fun q14 => xck (xin q14 30) (if (I 164 (xN q14)) < 0 then (f_M_fillsParts_53 F k44 n v2 v3 (v4 + 1) I) else (xck (xin q14 30) (xck (xin v3 30) (if (I 164 (xN q14)) < (I 164 (xN v3)) then (xck (xin q14 30) (xck (xin v3 30) (xst (xput I 164 (xN v3) (I 164 (xN q14))) fun I22 => f_M_fillsParts_53 F k44 n 1 v3 (v4 + 1) I22))) else (f_M_fillsParts_53 F k44 n v2 v3 (v4 + 1) I)))))))))
theorem g_M_fillsParts_53 {X : XX} {d : Nat} {L : XL} {F : Nat} {k44 : Int32 → Int32 → XI → Option (XI)}  {r : XI} (hk44 : ∀ (v2 : Int32) (v3 : Int32) (I : XI), k44 v2 v3 I = some r → ∀ (z1 : Value) (z4 : Value) (z5 : Value), xEv X (d + 5) 162 44 [.ref 131, z1, .int v2, .int v3, z4, z5] [] I L none r L) : ∀ (n : Nat) (v2 : Int32) (v3 : Int32) (v4 : Int32) (I : XI), f_M_fillsParts_53 F k44 n v2 v3 v4 I = some r → ∀ (z1 : Value) (z5 : Value), xEv X (d + 5) 162 53 [.ref 131, z1, .int v2, .int v3, .int v4, z5] [] I L none r L := by
  intro n
  induction n with
  | zero => intro v2 v3 v4 I h; rw [f_M_fillsParts_53] at h; cases h
  | succ n ih =>
    intro v2 v3 v4 I h z1 z5
    rw [f_M_fillsParts_53] at h
    refine xeb 2 (pc' := 56) (ls' := [.ref 131, z1, .int v2, .int v3, .int v4, z5]) (st' := [.int 4, .int v4]) rfl ?_
    by_cases c9 : 4 ≤ v4
    · rw [if_pos c9] at h
      refine xei_ge_t rfl c9 ?_
      refine xeb 2 (pc' := 44) (ls' := [.ref 131, z1, .int v2, .int (v3 + 1), .int v4, z5]) (st' := []) rfl ?_
      exact hk44 v2 (v3 + 1) I h _ _ _
    · rw [if_neg c9] at h
      refine xei_ge_f rfl c9 ?_
      refine xeb 1 (pc' := 60) (ls' := [.ref 131, z1, .int v2, .int v3, .int v4, z5]) (st' := [.ref 131]) rfl ?_
      refine xegf2 rfl xsh131 (by decide) rfl ?_
      refine xeb 1 (pc' := 64) (ls' := [.ref 131, z1, .int v2, .int v3, .int v4, z5]) (st' := [.int v3, .ref 164]) rfl ?_
      obtain ⟨b10, h⟩ := xck_some h
      refine xeia rfl xsh164 b10 ?_
      by_cases c11 : (I 164 (xN v3)) < 0
      · rw [if_pos c11] at h
        refine xef_lt_t rfl c11 ?_
        refine xeb 2 (pc' := 44) (ls' := [.ref 131, z1, .int v2, .int (v3 + 1), .int v4, z5]) (st' := []) rfl ?_
        exact hk44 v2 (v3 + 1) I h _ _ _
      · rw [if_neg c11] at h
        refine xef_lt_f rfl c11 ?_
        refine xeb 3 (pc' := 72) (ls' := [.ref 131, z1, .int v2, .int v3, .int v4, z5]) (st' := [.int v4, .int v3, .ref 131]) rfl ?_
        obtain ⟨q12, eq12, h⟩ := xbind_some h
        refine xcallV rfl xsh131 rfl rfl rfl (Nat.le_of_ble_eq_true rfl) (Nat.le_of_ble_eq_true rfl) (Nat.le_of_ble_eq_true rfl) rfl (g_M_areJoinedOver (d := d + 0) _ eq12) ?_
        by_cases c13 : q12 = 0
        · rw [if_pos c13] at h
          refine xef_ne_t rfl c13 ?_
          refine xeb 3 (pc' := 53) (ls' := [.ref 131, z1, .int v2, .int v3, .int (v4 + 1), z5]) (st' := []) rfl ?_
          exact ih v2 v3 (v4 + 1) I h _ _
        · rw [if_neg c13] at h
          refine xef_ne_f rfl c13 ?_
          refine xeb 3 (pc' := 85) (ls' := [.ref 131, z1, .int v2, .int v3, .int v4, z5]) (st' := [.int v4, .int v3, .ref 131]) rfl ?_
          obtain ⟨q14, eq14, h⟩ := xbind_some h
          refine xcallV rfl xsh131 rfl rfl rfl (Nat.le_of_ble_eq_true rfl) (Nat.le_of_ble_eq_true rfl) (Nat.le_of_ble_eq_true rfl) rfl (g_M_overTo (d := d + 2) _ eq14) ?_
          refine xeb 2 (pc' := 91) (ls' := [.ref 131, z1, .int v2, .int v3, .int v4, .int q14]) (st' := [.ref 131]) rfl ?_
          refine xegf2 rfl xsh131 (by decide) rfl ?_
          refine xeb 1 (pc' := 96) (ls' := [.ref 131, z1, .int v2, .int v3, .int v4, .int q14]) (st' := [.int q14, .ref 164]) rfl ?_
          obtain ⟨b15, h⟩ := xck_some h
          refine xeia rfl xsh164 b15 ?_
          by_cases c16 : (I 164 (xN q14)) < 0
          · rw [if_pos c16] at h
            refine xef_lt_t rfl c16 ?_
            refine xeb 2 (pc' := 53) (ls' := [.ref 131, z1, .int v2, .int v3, .int (v4 + 1), .int q14]) (st' := []) rfl ?_
            exact ih v2 v3 (v4 + 1) I h _ _
          · rw [if_neg c16] at h
            refine xef_lt_f rfl c16 ?_
            refine xeb 1 (pc' := 101) (ls' := [.ref 131, z1, .int v2, .int v3, .int v4, .int q14]) (st' := [.ref 131]) rfl ?_
            refine xegf2 rfl xsh131 (by decide) rfl ?_
            refine xeb 1 (pc' := 106) (ls' := [.ref 131, z1, .int v2, .int v3, .int v4, .int q14]) (st' := [.int q14, .ref 164]) rfl ?_
            obtain ⟨b17, h⟩ := xck_some h
            refine xeia rfl xsh164 b17 ?_
            refine xeb 1 (pc' := 108) (ls' := [.ref 131, z1, .int v2, .int v3, .int v4, .int q14]) (st' := [.ref 131, .int (I 164 (xN q14))]) rfl ?_
            refine xegf2 rfl xsh131 (by decide) rfl ?_
            refine xeb 1 (pc' := 112) (ls' := [.ref 131, z1, .int v2, .int v3, .int v4, .int q14]) (st' := [.int v3, .ref 164, .int (I 164 (xN q14))]) rfl ?_
            obtain ⟨b18, h⟩ := xck_some h
            refine xeia rfl xsh164 b18 ?_
            by_cases c19 : (I 164 (xN q14)) < (I 164 (xN v3))
            · rw [if_pos c19] at h
              refine xei_lt_t rfl c19 ?_
              refine xeb 1 (pc' := 120) (ls' := [.ref 131, z1, .int v2, .int v3, .int v4, .int q14]) (st' := [.ref 131]) rfl ?_
              refine xegf2 rfl xsh131 (by decide) rfl ?_
              refine xeb 2 (pc' := 125) (ls' := [.ref 131, z1, .int v2, .int v3, .int v4, .int q14]) (st' := [.ref 131, .int v3, .ref 164]) rfl ?_
              refine xegf2 rfl xsh131 (by decide) rfl ?_
              refine xeb 1 (pc' := 130) (ls' := [.ref 131, z1, .int v2, .int v3, .int v4, .int q14]) (st' := [.int q14, .ref 164, .int v3, .ref 164]) rfl ?_
              obtain ⟨b20, h⟩ := xck_some h
              refine xeia rfl xsh164 b20 ?_
              obtain ⟨b21, h⟩ := xck_some h
              refine xeis rfl xsh164 b21 ?_
              obtain ⟨I22, hI22, h⟩ := xst_some h
              rw [← hI22]
              refine xeb 4 (pc' := 53) (ls' := [.ref 131, (xkv z1), .int 1, .int v3, .int (v4 + 1), .int q14]) (st' := []) rfl ?_
              exact ih 1 v3 (v4 + 1) I22 h _ _
            · rw [if_neg c19] at h
              refine xei_lt_f rfl c19 ?_
              refine xeb 3 (pc' := 53) (ls' := [.ref 131, z1, .int v2, .int v3, .int (v4 + 1), .int q14]) (st' := []) rfl ?_
              exact ih v2 v3 (v4 + 1) I h _ _
noncomputable def f_M_fillsParts_44 (F : Nat) (k36 : Int32 → XI → Option (XI)) : Nat → Int32 → Int32 → XI → Option (XI)
  | 0, _, _, _ => none
  | n + 1, v2, v3, I =>
    if 30 ≤ v3 then (k36 v2 I) else (f_M_fillsParts_53 F (fun v2 v3 I => f_M_fillsParts_44 F k36 n v2 v3 I) F v2 v3 0 I)
theorem g_M_fillsParts_44 {X : XX} {d : Nat} {L : XL} {F : Nat} {k36 : Int32 → XI → Option (XI)}  {r : XI} (hk36 : ∀ (v2 : Int32) (I : XI), k36 v2 I = some r → ∀ (z1 : Value) (z3 : Value) (z4 : Value) (z5 : Value), xEv X (d + 5) 162 36 [.ref 131, z1, .int v2, z3, z4, z5] [] I L none r L) : ∀ (n : Nat) (v2 : Int32) (v3 : Int32) (I : XI), f_M_fillsParts_44 F k36 n v2 v3 I = some r → ∀ (z1 : Value) (z4 : Value) (z5 : Value), xEv X (d + 5) 162 44 [.ref 131, z1, .int v2, .int v3, z4, z5] [] I L none r L := by
  intro n
  induction n with
  | zero => intro v2 v3 I h; rw [f_M_fillsParts_44] at h; cases h
  | succ n ih =>
    intro v2 v3 I h z1 z4 z5
    rw [f_M_fillsParts_44] at h
    refine xeb 2 (pc' := 47) (ls' := [.ref 131, z1, .int v2, .int v3, z4, z5]) (st' := [.int 30, .int v3]) rfl ?_
    by_cases c8 : 30 ≤ v3
    · rw [if_pos c8] at h
      refine xei_ge_t rfl c8 ?_
      refine xeb 1 (pc' := 36) (ls' := [.ref 131, z1, .int v2, .int v3, z4, z5]) (st' := []) rfl ?_
      exact hk36 v2 I h _ _ _ _
    · rw [if_neg c8] at h
      refine xei_ge_f rfl c8 ?_
      refine xeb 2 (pc' := 53) (ls' := [.ref 131, z1, .int v2, .int v3, .int 0, z5]) (st' := []) rfl ?_
      exact g_M_fillsParts_53 (fun v2 v3 I h' z1 z4 z5 => ih v2 v3 I h' z1 z4 z5) F v2 v3 0 I h _ _
noncomputable def f_M_fillsParts_36 (F : Nat) : Nat → Int32 → XI → Option (XI)
  | 0, _, _ => none
  | n + 1, v2, I =>
    if v2 = 0 then (xst (xput I 131 52 0) fun I3 => f_M_fillsParts_156 F F 0 I3) else (f_M_fillsParts_44 F (fun v2 I => f_M_fillsParts_36 F n v2 I) F 0 0 I)
theorem g_M_fillsParts_36 {X : XX} {d : Nat} {L : XL} {F : Nat}  {r : XI}  : ∀ (n : Nat) (v2 : Int32) (I : XI), f_M_fillsParts_36 F n v2 I = some r → ∀ (z1 : Value) (z3 : Value) (z4 : Value) (z5 : Value), xEv X (d + 5) 162 36 [.ref 131, z1, .int v2, z3, z4, z5] [] I L none r L := by
  intro n
  induction n with
  | zero => intro v2 I h; rw [f_M_fillsParts_36] at h; cases h
  | succ n ih =>
    intro v2 I h z1 z3 z4 z5
    rw [f_M_fillsParts_36] at h
    refine xeb 1 (pc' := 37) (ls' := [.ref 131, z1, .int v2, z3, z4, z5]) (st' := [.int v2]) rfl ?_
    by_cases c2 : v2 = 0
    · rw [if_pos c2] at h
      refine xef_eq_t rfl c2 ?_
      refine xeb 2 (pc' := 151) (ls' := [.ref 131, z1, .int v2, z3, z4, z5]) (st' := [.int 0, .ref 131]) rfl ?_
      refine xepf0 rfl xsh131 (by decide) ?_
      obtain ⟨I3, hI3, h⟩ := xst_some h
      rw [← hI3]
      refine xeb 2 (pc' := 156) (ls' := [.ref 131, z1, .int v2, .int 0, z4, z5]) (st' := []) rfl ?_
      exact g_M_fillsParts_156 F 0 I3 h _ _ _ _
    · rw [if_neg c2] at h
      refine xef_eq_f rfl c2 ?_
      refine xeb 4 (pc' := 44) (ls' := [.ref 131, (xkv z1), .int 0, .int 0, z4, z5]) (st' := []) rfl ?_
      exact g_M_fillsParts_44 (fun v2 I h' z1 z3 z4 z5 => ih v2 I h' z1 z3 z4 z5) F 0 0 I h _ _ _
noncomputable def f_M_fillsParts_27 (F : Nat) (k2 : Int32 → Int32 → XI → Option (XI)) (v1 : Int32) (v2 : Int32) (s1 : Int32) (s2 : Int32) (I : XI) : Option (XI) :=
  xck (xin s1 30) (xst (xput I 164 (xN s1) s2) fun I26 => k2 v1 (v2 + 1) I26)
theorem g_M_fillsParts_27 {X : XX} {d : Nat} {L : XL} {F : Nat} {k2 : Int32 → Int32 → XI → Option (XI)}  {r : XI} (hk2 : ∀ (v1 : Int32) (v2 : Int32) (I : XI), k2 v1 v2 I = some r → ∀ (z3 : Value) (z4 : Value) (z5 : Value), xEv X (d + 5) 162 2 [.ref 131, .int v1, .int v2, z3, z4, z5] [] I L none r L) {v1 : Int32} {v2 : Int32} {s1 : Int32} {s2 : Int32} {I : XI} (h : f_M_fillsParts_27 F k2 v1 v2 s1 s2 I = some r) (z3 : Value) (z4 : Value) (z5 : Value) : xEv X (d + 5) 162 27 [.ref 131, .int v1, .int v2, z3, z4, z5] [.int s2, .int s1, .ref 164] I L none r L := by
  rw [f_M_fillsParts_27] at h
  obtain ⟨b25, h⟩ := xck_some h
  refine xeis rfl xsh164 b25 ?_
  obtain ⟨I26, hI26, h⟩ := xst_some h
  rw [← hI26]
  refine xeb 2 (pc' := 2) (ls' := [.ref 131, .int v1, .int (v2 + 1), z3, z4, z5]) (st' := []) rfl ?_
  exact hk2 v1 (v2 + 1) I26 h _ _ _
noncomputable def f_M_fillsParts_2 (F : Nat) : Nat → Int32 → Int32 → XI → Option (XI)
  | 0, _, _, _ => none
  | n + 1, v1, v2, I =>
    if 30 ≤ v2 then (f_M_fillsParts_36 F F 1 I) else ((f_M_isOf I v2 v1).bind fun q23 => f_M_fillsParts_27 F (fun v1 v2 I => f_M_fillsParts_2 F n v1 v2 I) v1 v2 v2 (if q23 = 0 then (-1) else v2) I)
theorem g_M_fillsParts_2 {X : XX} {d : Nat} {L : XL} {F : Nat}  {r : XI}  : ∀ (n : Nat) (v1 : Int32) (v2 : Int32) (I : XI), f_M_fillsParts_2 F n v1 v2 I = some r → ∀ (z3 : Value) (z4 : Value) (z5 : Value), xEv X (d + 5) 162 2 [.ref 131, .int v1, .int v2, z3, z4, z5] [] I L none r L := by
  intro n
  induction n with
  | zero => intro v1 v2 I h; rw [f_M_fillsParts_2] at h; cases h
  | succ n ih =>
    intro v1 v2 I h z3 z4 z5
    rw [f_M_fillsParts_2] at h
    refine xeb 2 (pc' := 5) (ls' := [.ref 131, .int v1, .int v2, z3, z4, z5]) (st' := [.int 30, .int v2]) rfl ?_
    by_cases c1 : 30 ≤ v2
    · rw [if_pos c1] at h
      refine xei_ge_t rfl c1 ?_
      refine xeb 2 (pc' := 36) (ls' := [.ref 131, .int v1, .int 1, z3, z4, z5]) (st' := []) rfl ?_
      exact g_M_fillsParts_36 F 1 I h _ _ _ _
    · rw [if_neg c1] at h
      refine xei_ge_f rfl c1 ?_
      refine xeb 1 (pc' := 9) (ls' := [.ref 131, .int v1, .int v2, z3, z4, z5]) (st' := [.ref 131]) rfl ?_
      refine xegf2 rfl xsh131 (by decide) rfl ?_
      refine xeb 4 (pc' := 16) (ls' := [.ref 131, .int v1, .int v2, z3, z4, z5]) (st' := [.int v1, .int v2, .ref 131, .int v2, .ref 164]) rfl ?_
      obtain ⟨q23, eq23, h⟩ := xbind_some h
      refine xcallV rfl xsh131 rfl rfl rfl (Nat.le_of_ble_eq_true rfl) (Nat.le_of_ble_eq_true rfl) (Nat.le_of_ble_eq_true rfl) rfl (g_M_isOf (d := d + 1) _ eq23) ?_
      have hj : xEv X (d + 5) 162 27 [.ref 131, .int v1, .int v2, z3, z4, z5] [.int (if q23 = 0 then (-1) else v2), .int v2, .ref 164] I L none r L := by
        exact g_M_fillsParts_27 (fun v1 v2 I h' z3 z4 z5 => ih v1 v2 I h' z3 z4 z5) h _ _ _
      by_cases c24 : q23 = 0
      · simp only [if_pos c24] at hj
        refine xef_eq_t rfl c24 ?_
        exact xeb 1 rfl hj
      · simp only [if_neg c24] at hj
        refine xef_eq_f rfl c24 ?_
        exact xeb 2 rfl hj
noncomputable def f_M_fillsParts (F : Nat) (a1 : Int32) (I : XI) : Option (XI) :=
  f_M_fillsParts_2 F F a1 0 I
theorem g_M_fillsParts {X : XX} {d : Nat} {L : XL} {F : Nat} {a1 : Int32} {I : XI}  (r : XI) (h : f_M_fillsParts F a1 I = some r) : xEv X (d + 5) 162 0 [.ref 131, .int a1, .null, .null, .null, .null] [] I L none r L := by
  rw [f_M_fillsParts] at h
  refine xeb 2 (pc' := 2) (ls' := [.ref 131, .int a1, .int 0, .null, .null, .null]) (st' := []) rfl ?_
  exact g_M_fillsParts_2 F a1 0 I h _ _ _
noncomputable def f_M_taxOf (F : Nat) (a1 : Int32) (I : XI) : Option (Int32 × XI) :=
  (f_M_liesOf F I a1).bind fun q1 => if q1 = 0 then (some (0, I)) else ((f_M_fillsParts F a1 I).bind fun q3 => (f_M_looks F q3).bind fun q4 => xck (xin 2 9) (xst (xput q4 160 (xN 2) a1) fun I6 => xck (xin 6 9) (xst (xput I6 160 (xN 6) q1) fun I8 => xck (xin 7 9) (xst (xput I8 160 (xN 7) (I8 131 52)) fun I10 => (f_M_lawTells F 1 q1 I10).bind fun q11 => (f_M_held q11.1 0 999).bind fun q12 => some (q12, q11.2)))))
theorem g_M_taxOf {X : XX} {d : Nat} {L : XL} {F : Nat} {a1 : Int32} {I : XI}  (r : Int32 × XI) (h : f_M_taxOf F a1 I = some r) : xEv X (d + 6) 163 0 [.ref 131, .int a1, .null] [] I L (some (.int r.1)) r.2 L := by
  rw [f_M_taxOf] at h
  refine xeb 2 (pc' := 2) (ls' := [.ref 131, .int a1, .null]) (st' := [.int a1, .ref 131]) rfl ?_
  obtain ⟨q1, eq1, h⟩ := xbind_some h
  refine xcallV rfl xsh131 rfl rfl rfl (Nat.le_of_ble_eq_true rfl) (Nat.le_of_ble_eq_true rfl) (Nat.le_of_ble_eq_true rfl) rfl (g_M_liesOf (d := d + 1) _ eq1) ?_
  refine xeb 2 (pc' := 7) (ls' := [.ref 131, .int a1, .int q1]) (st' := [.int q1]) rfl ?_
  by_cases c2 : q1 = 0
  · rw [if_pos c2] at h
    refine xef_ne_t rfl c2 ?_
    refine xeb 1 (pc' := 11) (ls' := [.ref 131, .int a1, .int q1]) (st' := [.int 0]) rfl ?_
    obtain rfl := Option.some.inj h
    exact xeiret rfl rfl
  · rw [if_neg c2] at h
    refine xef_ne_f rfl c2 ?_
    refine xeb 2 (pc' := 14) (ls' := [.ref 131, .int a1, .int q1]) (st' := [.int a1, .ref 131]) rfl ?_
    obtain ⟨q3, eq3, h⟩ := xbind_some h
    refine xcallV rfl xsh131 rfl rfl rfl (Nat.le_of_ble_eq_true rfl) (Nat.le_of_ble_eq_true rfl) (Nat.le_of_ble_eq_true rfl) rfl (g_M_fillsParts (d := d + 0) _ eq3) ?_
    refine xeb 1 (pc' := 18) (ls' := [.ref 131, .int a1, .int q1]) (st' := [.ref 131]) rfl ?_
    obtain ⟨q4, eq4, h⟩ := xbind_some h
    refine xcallV rfl xsh131 rfl rfl rfl (Nat.le_of_ble_eq_true rfl) (Nat.le_of_ble_eq_true rfl) (Nat.le_of_ble_eq_true rfl) rfl (g_M_looks (d := d + 5) _ eq4) ?_
    refine xeb 1 (pc' := 22) (ls' := [.ref 131, .int a1, .int q1]) (st' := [.ref 131]) rfl ?_
    refine xegf2 rfl xsh131 (by decide) rfl ?_
    refine xeb 2 (pc' := 27) (ls' := [.ref 131, .int a1, .int q1]) (st' := [.int a1, .int 2, .ref 160]) rfl ?_
    obtain ⟨b5, h⟩ := xck_some h
    refine xeis rfl xsh160 b5 ?_
    obtain ⟨I6, hI6, h⟩ := xst_some h
    rw [← hI6]
    refine xeb 1 (pc' := 29) (ls' := [.ref 131, .int a1, .int q1]) (st' := [.ref 131]) rfl ?_
    refine xegf2 rfl xsh131 (by decide) rfl ?_
    refine xeb 2 (pc' := 35) (ls' := [.ref 131, .int a1, .int q1]) (st' := [.int q1, .int 6, .ref 160]) rfl ?_
    obtain ⟨b7, h⟩ := xck_some h
    refine xeis rfl xsh160 b7 ?_
    obtain ⟨I8, hI8, h⟩ := xst_some h
    rw [← hI8]
    refine xeb 1 (pc' := 37) (ls' := [.ref 131, .int a1, .int q1]) (st' := [.ref 131]) rfl ?_
    refine xegf2 rfl xsh131 (by decide) rfl ?_
    refine xeb 2 (pc' := 43) (ls' := [.ref 131, .int a1, .int q1]) (st' := [.ref 131, .int 7, .ref 160]) rfl ?_
    refine xegf0 rfl xsh131 (by decide) ?_
    obtain ⟨b9, h⟩ := xck_some h
    refine xeis rfl xsh160 b9 ?_
    obtain ⟨I10, hI10, h⟩ := xst_some h
    rw [← hI10]
    refine xeb 3 (pc' := 50) (ls' := [.ref 131, .int a1, .int q1]) (st' := [.int q1, .int 1, .ref 131]) rfl ?_
    obtain ⟨q11, eq11, h⟩ := xbind_some h
    refine xcallV rfl xsh131 rfl rfl rfl (Nat.le_of_ble_eq_true rfl) (Nat.le_of_ble_eq_true rfl) (Nat.le_of_ble_eq_true rfl) rfl (g_M_lawTells (d := d + 4) _ eq11) ?_
    refine xeb 2 (pc' := 57) (ls' := [.ref 131, .int a1, .int q1]) (st' := [.int 999, .int 0, .int q11.1]) rfl ?_
    obtain ⟨q12, eq12, h⟩ := xbind_some h
    refine xcallS20 rfl rfl rfl (Nat.le_of_ble_eq_true rfl) (Nat.le_of_ble_eq_true rfl) (Nat.le_of_ble_eq_true rfl) rfl (g_M_held (d := d + 5) _ eq12) ?_
    obtain rfl := Option.some.inj h
    exact xeiret rfl rfl
noncomputable def f_M_land_53 (F : Nat) : Nat → Int32 → Int32 → Int32 → XI → Option (Int32 × XI)
  | 0, _, _, _, _ => none
  | n + 1, v1, v3, v4, I =>
    if 30 ≤ v4 then (some (v3, I)) else ((f_M_isThere I v4).bind fun q6 => if q6 = 0 then (f_M_land_53 F n v1 v3 (v4 + 1) I) else ((f_M_landAt I v4).bind fun q8 => if q8 = v1 then (f_M_land_53 F n v1 (v3 + 1) (v4 + 1) I) else (f_M_land_53 F n v1 v3 (v4 + 1) I)))
theorem g_M_land_53 {X : XX} {d : Nat} {L : XL} {F : Nat}  {r : Int32 × XI}  : ∀ (n : Nat) (v1 : Int32) (v3 : Int32) (v4 : Int32) (I : XI), f_M_land_53 F n v1 v3 v4 I = some r → ∀ (z2 : Value), xEv X (d + 7) 164 53 [.ref 131, .int v1, z2, .int v3, .int v4] [] I L (some (.int r.1)) r.2 L := by
  intro n
  induction n with
  | zero => intro v1 v3 v4 I h; rw [f_M_land_53] at h; cases h
  | succ n ih =>
    intro v1 v3 v4 I h z2
    rw [f_M_land_53] at h
    refine xeb 2 (pc' := 57) (ls' := [.ref 131, .int v1, z2, .int v3, .int v4]) (st' := [.int 30, .int v4]) rfl ?_
    by_cases c5 : 30 ≤ v4
    · rw [if_pos c5] at h
      refine xei_ge_t rfl c5 ?_
      refine xeb 1 (pc' := 89) (ls' := [.ref 131, .int v1, z2, .int v3, .int v4]) (st' := [.int v3]) rfl ?_
      obtain rfl := Option.some.inj h
      exact xeiret rfl rfl
    · rw [if_neg c5] at h
      refine xei_ge_f rfl c5 ?_
      refine xeb 2 (pc' := 63) (ls' := [.ref 131, .int v1, z2, .int v3, .int v4]) (st' := [.int v4, .ref 131]) rfl ?_
      obtain ⟨q6, eq6, h⟩ := xbind_some h
      refine xcallV rfl xsh131 rfl rfl rfl (Nat.le_of_ble_eq_true rfl) (Nat.le_of_ble_eq_true rfl) (Nat.le_of_ble_eq_true rfl) rfl (g_M_isThere (d := d + 4) _ eq6) ?_
      by_cases c7 : q6 = 0
      · rw [if_pos c7] at h
        refine xef_eq_t rfl c7 ?_
        refine xeb 2 (pc' := 53) (ls' := [.ref 131, .int v1, z2, .int v3, .int (v4 + 1)]) (st' := []) rfl ?_
        exact ih v1 v3 (v4 + 1) I h _
      · rw [if_neg c7] at h
        refine xef_eq_f rfl c7 ?_
        refine xeb 2 (pc' := 72) (ls' := [.ref 131, .int v1, z2, .int v3, .int v4]) (st' := [.int v4, .ref 131]) rfl ?_
        obtain ⟨q8, eq8, h⟩ := xbind_some h
        refine xcallV rfl xsh131 rfl rfl rfl (Nat.le_of_ble_eq_true rfl) (Nat.le_of_ble_eq_true rfl) (Nat.le_of_ble_eq_true rfl) rfl (g_M_landAt (d := d + 6) _ eq8) ?_
        refine xeb 1 (pc' := 76) (ls' := [.ref 131, .int v1, z2, .int v3, .int v4]) (st' := [.int v1, .int q8]) rfl ?_
        by_cases c9 : q8 = v1
        · rw [if_pos c9] at h
          refine xei_ne_t rfl c9 ?_
          refine xeb 3 (pc' := 53) (ls' := [.ref 131, .int v1, (xkv z2), .int (v3 + 1), .int (v4 + 1)]) (st' := []) rfl ?_
          exact ih v1 (v3 + 1) (v4 + 1) I h _
        · rw [if_neg c9] at h
          refine xei_ne_f rfl c9 ?_
          refine xeb 2 (pc' := 53) (ls' := [.ref 131, .int v1, z2, .int v3, .int (v4 + 1)]) (st' := []) rfl ?_
          exact ih v1 v3 (v4 + 1) I h _
noncomputable def f_M_land (F : Nat) (a1 : Int32) (a2 : Int32) (I : XI) : Option (Int32 × XI) :=
  (f_M_in a1 0 4).bind fun q1 => if q1 = 0 then (some ((-1), I)) else ((f_M_copies F I).bind fun q3 => if a2 < 0 ∨ 3 < a2 then (some ((-1), q3)) else if a2 = 0 then (f_M_land_53 F F a1 0 0 q3) else if a2 = 1 then ((f_M_liesOf F q3 a1).bind fun q11 => some (q11, q3)) else if a2 = 2 then ((f_M_fillsParts F a1 q3).bind fun q13 => some ((q13 131 52), q13)) else if a2 = 3 then ((f_M_taxOf F a1 q3).bind fun q15 => some (q15.1, q15.2)) else none)
theorem g_M_land {X : XX} {d : Nat} {L : XL} {F : Nat} {a1 : Int32} {a2 : Int32} {I : XI}  (r : Int32 × XI) (h : f_M_land F a1 a2 I = some r) : xEv X (d + 7) 164 0 [.ref 131, .int a1, .int a2, .null, .null] [] I L (some (.int r.1)) r.2 L := by
  rw [f_M_land] at h
  refine xeb 3 (pc' := 3) (ls' := [.ref 131, .int a1, .int a2, .null, .null]) (st' := [.int 4, .int 0, .int a1]) rfl ?_
  obtain ⟨q1, eq1, h⟩ := xbind_some h
  refine xcallS20 rfl rfl rfl (Nat.le_of_ble_eq_true rfl) (Nat.le_of_ble_eq_true rfl) (Nat.le_of_ble_eq_true rfl) rfl (g_M_in (d := d + 6) _ eq1) ?_
  by_cases c2 : q1 = 0
  · rw [if_pos c2] at h
    refine xef_ne_t rfl c2 ?_
    refine xeb 1 (pc' := 10) (ls' := [.ref 131, .int a1, .int a2, .null, .null]) (st' := [.int (-1)]) rfl ?_
    obtain rfl := Option.some.inj h
    exact xeiret rfl rfl
  · rw [if_neg c2] at h
    refine xef_ne_f rfl c2 ?_
    refine xeb 1 (pc' := 12) (ls' := [.ref 131, .int a1, .int a2, .null, .null]) (st' := [.ref 131]) rfl ?_
    obtain ⟨q3, eq3, h⟩ := xbind_some h
    refine xcallV rfl xsh131 rfl rfl rfl (Nat.le_of_ble_eq_true rfl) (Nat.le_of_ble_eq_true rfl) (Nat.le_of_ble_eq_true rfl) rfl (g_M_copies (d := d + 6) _ eq3) ?_
    refine xeb 1 (pc' := 16) (ls' := [.ref 131, .int a1, .int a2, .null, .null]) (st' := [.int a2]) rfl ?_
    by_cases c4 : a2 < 0 ∨ 3 < a2
    · rw [if_pos c4] at h
      refine xetabO rfl rfl rfl c4 ?_
      refine xeb 1 (pc' := 113) (ls' := [.ref 131, .int a1, .int a2, .null, .null]) (st' := [.int (-1)]) rfl ?_
      obtain rfl := Option.some.inj h
      exact xeiret rfl rfl
    rw [if_neg c4] at h
    by_cases c10 : a2 = 0
    · rw [if_pos c10] at h
      refine xetabI rfl c10 rfl ?_
      refine xeb 4 (pc' := 53) (ls' := [.ref 131, .int a1, .int a2, .int 0, .int 0]) (st' := []) rfl ?_
      exact g_M_land_53 F a1 0 0 q3 h _
    rw [if_neg c10] at h
    by_cases c12 : a2 = 1
    · rw [if_pos c12] at h
      refine xetabI rfl c12 rfl ?_
      refine xeb 2 (pc' := 92) (ls' := [.ref 131, .int a1, .int a2, .null, .null]) (st' := [.int a1, .ref 131]) rfl ?_
      obtain ⟨q11, eq11, h⟩ := xbind_some h
      refine xcallV rfl xsh131 rfl rfl rfl (Nat.le_of_ble_eq_true rfl) (Nat.le_of_ble_eq_true rfl) (Nat.le_of_ble_eq_true rfl) rfl (g_M_liesOf (d := d + 2) _ eq11) ?_
      obtain rfl := Option.some.inj h
      exact xeiret rfl rfl
    rw [if_neg c12] at h
    by_cases c14 : a2 = 2
    · rw [if_pos c14] at h
      refine xetabI rfl c14 rfl ?_
      refine xeb 2 (pc' := 98) (ls' := [.ref 131, .int a1, .int a2, .null, .null]) (st' := [.int a1, .ref 131]) rfl ?_
      obtain ⟨q13, eq13, h⟩ := xbind_some h
      refine xcallV rfl xsh131 rfl rfl rfl (Nat.le_of_ble_eq_true rfl) (Nat.le_of_ble_eq_true rfl) (Nat.le_of_ble_eq_true rfl) rfl (g_M_fillsParts (d := d + 1) _ eq13) ?_
      refine xeb 1 (pc' := 102) (ls' := [.ref 131, .int a1, .int a2, .null, .null]) (st' := [.ref 131]) rfl ?_
      refine xegf0 rfl xsh131 (by decide) ?_
      obtain rfl := Option.some.inj h
      exact xeiret rfl rfl
    rw [if_neg c14] at h
    by_cases c16 : a2 = 3
    · rw [if_pos c16] at h
      refine xetabI rfl c16 rfl ?_
      refine xeb 2 (pc' := 108) (ls' := [.ref 131, .int a1, .int a2, .null, .null]) (st' := [.int a1, .ref 131]) rfl ?_
      obtain ⟨q15, eq15, h⟩ := xbind_some h
      refine xcallV rfl xsh131 rfl rfl rfl (Nat.le_of_ble_eq_true rfl) (Nat.le_of_ble_eq_true rfl) (Nat.le_of_ble_eq_true rfl) rfl (g_M_taxOf (d := d + 0) _ eq15) ?_
      obtain rfl := Option.some.inj h
      exact xeiret rfl rfl
    rw [if_neg c16] at h
    cases h
noncomputable def f_Table_pieceAt (S0 : Nat) (I : XI) (a1 : Int32) (a2 : Int32) : Option (Int32) :=
  (f_Table_cellAt S0 I a1 a2).bind fun q1 => if q1 = (-1) then (some (-1)) else (xck (xin q1 30) (some (if (I (S0 + 1) (xN q1)) = 9 then (-1) else q1)))
theorem g_Table_pieceAt {X : XX} {d : Nat} {L : XL} {S0 : Nat} {I : XI} {a1 : Int32} {a2 : Int32} (hS0 : xisTb S0) (r : Int32) (h : f_Table_pieceAt S0 I a1 a2 = some r) : xEv X (d + 1) 165 0 [.ref S0, .int a1, .int a2, .null] [] I L (some (.int r)) I L := by
  rw [f_Table_pieceAt] at h
  refine xeb 3 (pc' := 3) (ls' := [.ref S0, .int a1, .int a2, .null]) (st' := [.int a2, .int a1, .ref S0]) rfl ?_
  obtain ⟨q1, eq1, h⟩ := xbind_some h
  refine xcallV rfl hS0.1 rfl rfl rfl (Nat.le_of_ble_eq_true rfl) (Nat.le_of_ble_eq_true rfl) (Nat.le_of_ble_eq_true rfl) rfl (g_Table_cellAt (d := d + 0) hS0 _ eq1) ?_
  refine xeb 3 (pc' := 9) (ls' := [.ref S0, .int a1, .int a2, .int q1]) (st' := [.int (-1), .int q1]) rfl ?_
  by_cases c2 : q1 = (-1)
  · rw [if_pos c2] at h
    refine xei_eq_t rfl c2 ?_
    refine xeb 1 (pc' := 28) (ls' := [.ref S0, .int a1, .int a2, .int q1]) (st' := [.int (-1)]) rfl ?_
    obtain rfl := Option.some.inj h
    exact xeiret rfl rfl
  · rw [if_neg c2] at h
    refine xei_eq_f rfl c2 ?_
    refine xeb 1 (pc' := 13) (ls' := [.ref S0, .int a1, .int a2, .int q1]) (st' := [.ref S0]) rfl ?_
    refine xegf2 rfl hS0.1 (by decide) rfl ?_
    refine xeb 1 (pc' := 17) (ls' := [.ref S0, .int a1, .int a2, .int q1]) (st' := [.int q1, .ref (S0 + 1)]) rfl ?_
    obtain ⟨b3, h⟩ := xck_some h
    refine xeia rfl hS0.2.1 b3 ?_
    refine xeb 1 (pc' := 20) (ls' := [.ref S0, .int a1, .int a2, .int q1]) (st' := [.int 9, .int (I (S0 + 1) (xN q1))]) rfl ?_
    have hj : xEv X (d + 1) 165 28 [.ref S0, .int a1, .int a2, .int q1] [.int (if (I (S0 + 1) (xN q1)) = 9 then (-1) else q1)] I L (some (.int r)) I L := by
      obtain rfl := Option.some.inj h
      exact xeiret rfl rfl
    by_cases c4 : (I (S0 + 1) (xN q1)) = 9
    · simp only [if_pos c4] at hj
      refine xei_eq_t rfl c4 ?_
      exact xeb 1 rfl hj
    · simp only [if_neg c4] at hj
      refine xei_eq_f rfl c4 ?_
      exact xeb 2 rfl hj
noncomputable def f_Rules_isWet (F : Nat) (a1 : Int32) (I : XI) : Option (Int32 × XI) :=
  (f_Laws_setDayAlone F 21 a1 I).bind fun q1 => (f_Laws_value F 21 2 q1).bind fun q2 => xck (xnarz (if q2.1 ≤ 0 then 0 else 1)) (some ((if q2.1 ≤ 0 then 0 else 1), q2.2))
theorem g_Rules_isWet {X : XX} {d : Nat} {L : XL} {F : Nat} {a1 : Int32} {I : XI}  (r : Int32 × XI) (h : f_Rules_isWet F a1 I = some r) : xEv X (d + 2) 166 0 [.ref 32, .int a1] [] I L (some (.int r.1)) r.2 L := by
  rw [f_Rules_isWet] at h
  refine xeb 1 (pc' := 1) (ls' := [.ref 32, .int a1]) (st' := [.ref 32]) rfl ?_
  refine xegf2 rfl xsh32 (by decide) rfl ?_
  refine xeb 1 (pc' := 5) (ls' := [.ref 32, .int a1]) (st' := [.int a1, .ref 21]) rfl ?_
  obtain ⟨q1, eq1, h⟩ := xbind_some h
  refine xcallV rfl xsh21 rfl rfl rfl (Nat.le_of_ble_eq_true rfl) (Nat.le_of_ble_eq_true rfl) (Nat.le_of_ble_eq_true rfl) rfl (g_Laws_setDayAlone (d := d + 0) xis21 _ eq1) ?_
  refine xeb 1 (pc' := 9) (ls' := [.ref 32, .int a1]) (st' := [.ref 32]) rfl ?_
  refine xegf2 rfl xsh32 (by decide) rfl ?_
  refine xeb 1 (pc' := 13) (ls' := [.ref 32, .int a1]) (st' := [.int 2, .ref 21]) rfl ?_
  obtain ⟨q2, eq2, h⟩ := xbind_some h
  refine xcallV rfl xsh21 rfl rfl rfl (Nat.le_of_ble_eq_true rfl) (Nat.le_of_ble_eq_true rfl) (Nat.le_of_ble_eq_true rfl) rfl (g_Laws_value (d := d + 0) xis21 _ eq2) ?_
  have hj : xEv X (d + 2) 166 24 [.ref 32, .int a1] [.int (if q2.1 ≤ 0 then 0 else 1)] q2.2 L (some (.int r.1)) r.2 L := by
    obtain ⟨b4, h⟩ := xck_some h
    obtain rfl := Option.some.inj h
    exact xeiret rfl b4
  by_cases c3 : q2.1 ≤ 0
  · simp only [if_pos c3] at hj
    refine xef_le_t rfl c3 ?_
    exact xeb 1 rfl hj
  · simp only [if_neg c3] at hj
    refine xef_le_f rfl c3 ?_
    exact xeb 2 rfl hj
noncomputable def f_Board_clashes_6 (F : Nat) (S1 : Nat) (I : XI) : Nat → Int32 → Int32 → Int32 → Int32 → Option (Int32)
  | 0, _, _, _, _ => none
  | n + 1, v2, v3, v4, v5 =>
    if 4 ≤ v5 then (some v4) else ((f_Table_beside 17 I v2 v5).bind fun q2 => if q2 = (-1) then (f_Board_clashes_6 F S1 I n v2 v3 v4 (v5 + 1)) else ((f_State_lies S1 I q2).bind fun q4 => if q4 = 0 then (f_Board_clashes_6 F S1 I n v2 v3 v4 (v5 + 1)) else ((f_Board_knobOf I v3 v2 v5).bind fun q6 => xck (xin q2 30) ((f_H_opposite v5).bind fun q8 => (f_Board_knobOf I (I (S1 + 1) (xN q2)) q2 q8).bind fun q9 => f_Board_clashes_6 F S1 I n v2 v3 (if (q6 + q9) = 0 then v4 else (v4 ||| (1 <<< (v5 &&& 31)))) (v5 + 1)))))
theorem g_Board_clashes_6 {X : XX} {d : Nat} {L : XL} {F : Nat} {S1 : Nat} {I : XI} (hS1 : xisSt S1) {r : Int32}  : ∀ (n : Nat) (v2 : Int32) (v3 : Int32) (v4 : Int32) (v5 : Int32), f_Board_clashes_6 F S1 I n v2 v3 v4 v5 = some r → ∀ (z6 : Value), xEv X (d + 2) 167 6 [.ref 30, .ref S1, .int v2, .int v3, .int v4, .int v5, z6] [] I L (some (.int r)) I L := by
  intro n
  induction n with
  | zero => intro v2 v3 v4 v5 h; rw [f_Board_clashes_6] at h; cases h
  | succ n ih =>
    intro v2 v3 v4 v5 h z6
    rw [f_Board_clashes_6] at h
    refine xeb 2 (pc' := 9) (ls' := [.ref 30, .ref S1, .int v2, .int v3, .int v4, .int v5, z6]) (st' := [.int 4, .int v5]) rfl ?_
    by_cases c1 : 4 ≤ v5
    · rw [if_pos c1] at h
      refine xei_ge_t rfl c1 ?_
      refine xeb 1 (pc' := 86) (ls' := [.ref 30, .ref S1, .int v2, .int v3, .int v4, .int v5, z6]) (st' := [.int v4]) rfl ?_
      obtain rfl := Option.some.inj h
      exact xeiret rfl rfl
    · rw [if_neg c1] at h
      refine xei_ge_f rfl c1 ?_
      refine xeb 1 (pc' := 13) (ls' := [.ref 30, .ref S1, .int v2, .int v3, .int v4, .int v5, z6]) (st' := [.ref 30]) rfl ?_
      refine xegf2 rfl xsh30 (by decide) rfl ?_
      refine xeb 2 (pc' := 19) (ls' := [.ref 30, .ref S1, .int v2, .int v3, .int v4, .int v5, z6]) (st' := [.int v5, .int v2, .ref 17]) rfl ?_
      obtain ⟨q2, eq2, h⟩ := xbind_some h
      refine xcallV rfl xsh17 rfl rfl rfl (Nat.le_of_ble_eq_true rfl) (Nat.le_of_ble_eq_true rfl) (Nat.le_of_ble_eq_true rfl) rfl (g_Table_beside (d := d + 1) xis17 _ eq2) ?_
      refine xeb 3 (pc' := 27) (ls' := [.ref 30, .ref S1, .int v2, .int v3, .int v4, .int v5, .int q2]) (st' := [.int (-1), .int q2]) rfl ?_
      by_cases c3 : q2 = (-1)
      · rw [if_pos c3] at h
        refine xei_eq_t rfl c3 ?_
        refine xeb 2 (pc' := 6) (ls' := [.ref 30, .ref S1, .int v2, .int v3, .int v4, .int (v5 + 1), .int q2]) (st' := []) rfl ?_
        exact ih v2 v3 v4 (v5 + 1) h _
      · rw [if_neg c3] at h
        refine xei_eq_f rfl c3 ?_
        refine xeb 2 (pc' := 33) (ls' := [.ref 30, .ref S1, .int v2, .int v3, .int v4, .int v5, .int q2]) (st' := [.int q2, .ref S1]) rfl ?_
        obtain ⟨q4, eq4, h⟩ := xbind_some h
        refine xcallV rfl hS1.1 rfl rfl rfl (Nat.le_of_ble_eq_true rfl) (Nat.le_of_ble_eq_true rfl) (Nat.le_of_ble_eq_true rfl) rfl (g_State_lies (d := d + 1) hS1 _ eq4) ?_
        by_cases c5 : q4 = 0
        · rw [if_pos c5] at h
          refine xef_eq_t rfl c5 ?_
          refine xeb 2 (pc' := 6) (ls' := [.ref 30, .ref S1, .int v2, .int v3, .int v4, .int (v5 + 1), .int q2]) (st' := []) rfl ?_
          exact ih v2 v3 v4 (v5 + 1) h _
        · rw [if_neg c5] at h
          refine xef_eq_f rfl c5 ?_
          refine xeb 4 (pc' := 44) (ls' := [.ref 30, .ref S1, .int v2, .int v3, .int v4, .int v5, .int q2]) (st' := [.int v5, .int v2, .int v3, .ref 30]) rfl ?_
          obtain ⟨q6, eq6, h⟩ := xbind_some h
          refine xcallV rfl xsh30 rfl rfl rfl (Nat.le_of_ble_eq_true rfl) (Nat.le_of_ble_eq_true rfl) (Nat.le_of_ble_eq_true rfl) rfl (g_Board_knobOf (d := d + 0) _ eq6) ?_
          refine xeb 2 (pc' := 49) (ls' := [.ref 30, .ref S1, .int v2, .int v3, .int v4, .int v5, .int q2]) (st' := [.ref S1, .ref 30, .int q6]) rfl ?_
          refine xegf12 rfl hS1.1 (by decide) rfl ?_
          refine xeb 1 (pc' := 54) (ls' := [.ref 30, .ref S1, .int v2, .int v3, .int v4, .int v5, .int q2]) (st' := [.int q2, .ref (S1 + 1), .ref 30, .int q6]) rfl ?_
          obtain ⟨b7, h⟩ := xck_some h
          refine xeia rfl hS1.2 b7 ?_
          refine xeb 2 (pc' := 59) (ls' := [.ref 30, .ref S1, .int v2, .int v3, .int v4, .int v5, .int q2]) (st' := [.int v5, .int q2, .int (I (S1 + 1) (xN q2)), .ref 30, .int q6]) rfl ?_
          obtain ⟨q8, eq8, h⟩ := xbind_some h
          refine xcallS30 rfl rfl rfl (Nat.le_of_ble_eq_true rfl) (Nat.le_of_ble_eq_true rfl) (Nat.le_of_ble_eq_true rfl) rfl (g_H_opposite (d := d + 1) _ eq8) ?_
          obtain ⟨q9, eq9, h⟩ := xbind_some h
          refine xcallV rfl xsh30 rfl rfl rfl (Nat.le_of_ble_eq_true rfl) (Nat.le_of_ble_eq_true rfl) (Nat.le_of_ble_eq_true rfl) rfl (g_Board_knobOf (d := d + 0) _ eq9) ?_
          refine xeb 1 (pc' := 66) (ls' := [.ref 30, .ref S1, .int v2, .int v3, .int v4, .int v5, .int q2]) (st' := [.int (q6 + q9)]) rfl ?_
          have hj : xEv X (d + 2) 167 78 [.ref 30, .ref S1, .int v2, .int v3, .int (if (q6 + q9) = 0 then v4 else (v4 ||| (1 <<< (v5 &&& 31)))), .int v5, .int q2] [] I L (some (.int r)) I L := by
            refine xeb 2 (pc' := 6) (ls' := [.ref 30, .ref S1, .int v2, .int v3, .int (if (q6 + q9) = 0 then v4 else (v4 ||| (1 <<< (v5 &&& 31)))), .int (v5 + 1), .int q2]) (st' := []) rfl ?_
            exact ih v2 v3 (if (q6 + q9) = 0 then v4 else (v4 ||| (1 <<< (v5 &&& 31)))) (v5 + 1) h _
          by_cases c10 : (q6 + q9) = 0
          · simp only [if_pos c10] at hj
            refine xef_eq_t rfl c10 ?_
            exact xeb 0 rfl hj
          · simp only [if_neg c10] at hj
            refine xef_eq_f rfl c10 ?_
            exact xeb 6 rfl hj
noncomputable def f_Board_clashes (F : Nat) (S1 : Nat) (I : XI) (a2 : Int32) (a3 : Int32) : Option (Int32) :=
  f_Board_clashes_6 F S1 I F a2 a3 0 0
theorem g_Board_clashes {X : XX} {d : Nat} {L : XL} {F : Nat} {S1 : Nat} {I : XI} {a2 : Int32} {a3 : Int32} (hS1 : xisSt S1) (r : Int32) (h : f_Board_clashes F S1 I a2 a3 = some r) : xEv X (d + 2) 167 0 [.ref 30, .ref S1, .int a2, .int a3, .null, .null, .null] [] I L (some (.int r)) I L := by
  rw [f_Board_clashes] at h
  refine xeb 4 (pc' := 6) (ls' := [.ref 30, .ref S1, .int a2, .int a3, .int 0, .int 0, .null]) (st' := []) rfl ?_
  exact g_Board_clashes_6 hS1 F a2 a3 0 0 h _
noncomputable def f_State_copyFrom (S0 : Nat) (S1 : Nat) (I : XI) : Option (XI) :=
  xck (decide (¬ (0 : Int32) < 0 ∧ ¬ (0 : Int32) < 0 ∧ ¬ (30 : Int32) < 0 ∧ xN 0 + xN 30 ≤ 30 ∧ xN 0 + xN 30 ≤ 30)) (xst (xrow I (S0 + 1) (va_cpy (I (S1 + 1)) (I (S0 + 1)) (xN 0) (xN 0) (xN 30))) fun I2 => xst (xput I2 S0 1 (I2 S1 1)) fun I3 => xst (xput I3 S0 2 (I3 S1 2)) fun I4 => xst (xput I4 S0 3 (I4 S1 3)) fun I5 => some I5)
theorem g_State_copyFrom {X : XX} {d : Nat} {L : XL} {S0 : Nat} {S1 : Nat} {I : XI} (hS0 : xisSt S0) (hS1 : xisSt S1) (r : XI) (h : f_State_copyFrom S0 S1 I = some r) : xEv X (d + 0) 168 0 [.ref S0, .ref S1] [] I L none r L := by
  rw [f_State_copyFrom] at h
  refine xeb 1 (pc' := 1) (ls' := [.ref S0, .ref S1]) (st' := [.ref S1]) rfl ?_
  refine xegf2 rfl hS1.1 (by decide) rfl ?_
  refine xeb 2 (pc' := 6) (ls' := [.ref S0, .ref S1]) (st' := [.ref S0, .int 0, .ref (S1 + 1)]) rfl ?_
  refine xegf2 rfl hS0.1 (by decide) rfl ?_
  refine xeb 2 (pc' := 12) (ls' := [.ref S0, .ref S1]) (st' := [.int 30, .int 0, .ref (S0 + 1), .int 0, .ref (S1 + 1)]) rfl ?_
  obtain ⟨b1, h⟩ := xck_some h
  refine xecpy rfl hS1.2 hS0.2 (of_decide_eq_true b1) (Nat.le_of_ble_eq_true rfl) ?_
  obtain ⟨I2, hI2, h⟩ := xst_some h
  rw [← hI2]
  refine xeb 2 (pc' := 17) (ls' := [.ref S0, .ref S1]) (st' := [.ref S1, .ref S0]) rfl ?_
  refine xegf0 rfl hS1.1 (by decide) ?_
  refine xepf0 rfl hS0.1 (by decide) ?_
  obtain ⟨I3, hI3, h⟩ := xst_some h
  rw [← hI3]
  refine xeb 2 (pc' := 25) (ls' := [.ref S0, .ref S1]) (st' := [.ref S1, .ref S0]) rfl ?_
  refine xegf0 rfl hS1.1 (by decide) ?_
  refine xepf0 rfl hS0.1 (by decide) ?_
  obtain ⟨I4, hI4, h⟩ := xst_some h
  rw [← hI4]
  refine xeb 2 (pc' := 33) (ls' := [.ref S0, .ref S1]) (st' := [.ref S1, .ref S0]) rfl ?_
  refine xegf0 rfl hS1.1 (by decide) ?_
  refine xepf0 rfl hS0.1 (by decide) ?_
  obtain ⟨I5, hI5, h⟩ := xst_some h
  rw [← hI5]
  obtain rfl := Option.some.inj h
  exact xevret rfl
noncomputable def f_Past_keep (S1 : Nat) (I : XI) : Option (XI) :=
  xck (xin (I 38 2) 40) ((xrf 39 (xN (I 38 2))).bind fun R2 => (f_State_copyFrom R2 S1 I).bind fun q3 => xst (xput q3 38 2 (((q3 38 2) + 1) - ((q3 38 2) + 1) / 40 * 40)) fun I4 => xst (xput I4 38 1 (if 40 < ((I4 38 1) + 1) then 40 else ((I4 38 1) + 1))) fun I5 => some I5)
theorem g_Past_keep {X : XX} {d : Nat} {L : XL} {S1 : Nat} {I : XI} (hS1 : xisSt S1) (r : XI) (h : f_Past_keep S1 I = some r) : xEv X (d + 1) 169 0 [.ref 38, .ref S1] [] I L none r L := by
  rw [f_Past_keep] at h
  refine xeb 1 (pc' := 1) (ls' := [.ref 38, .ref S1]) (st' := [.ref 38]) rfl ?_
  refine xegf2 rfl xsh38 (by decide) rfl ?_
  refine xeb 1 (pc' := 5) (ls' := [.ref 38, .ref S1]) (st' := [.ref 38, .ref 39]) rfl ?_
  refine xegf0 rfl xsh38 (by decide) ?_
  obtain ⟨b1, h⟩ := xck_some h
  obtain ⟨R2, eR2, h⟩ := xbind_some h
  refine xeaa rfl xsh39 b1 eR2 ?_
  refine xeb 1 (pc' := 10) (ls' := [.ref 38, .ref S1]) (st' := [.ref S1, .ref R2]) rfl ?_
  obtain ⟨q3, eq3, h⟩ := xbind_some h
  refine xcallV rfl (xisA39 eR2).1 rfl rfl rfl (Nat.le_of_ble_eq_true rfl) (Nat.le_of_ble_eq_true rfl) (Nat.le_of_ble_eq_true rfl) rfl (g_State_copyFrom (d := d + 0) (xisA39 eR2) hS1 _ eq3) ?_
  refine xeb 2 (pc' := 15) (ls' := [.ref 38, .ref S1]) (st' := [.ref 38, .ref 38]) rfl ?_
  refine xegf0 rfl xsh38 (by decide) ?_
  refine xeb 4 (pc' := 23) (ls' := [.ref 38, .ref S1]) (st' := [.int (((q3 38 2) + 1) - ((q3 38 2) + 1) / 40 * 40), .ref 38]) rfl ?_
  refine xepf0 rfl xsh38 (by decide) ?_
  obtain ⟨I4, hI4, h⟩ := xst_some h
  rw [← hI4]
  refine xeb 2 (pc' := 28) (ls' := [.ref 38, .ref S1]) (st' := [.ref 38, .ref 38]) rfl ?_
  refine xegf0 rfl xsh38 (by decide) ?_
  refine xeb 3 (pc' := 35) (ls' := [.ref 38, .ref S1]) (st' := [.int 40, .int ((I4 38 1) + 1), .ref 38]) rfl ?_
  refine xemin rfl (Nat.le_of_ble_eq_true rfl) ?_
  refine xepf0 rfl xsh38 (by decide) ?_
  obtain ⟨I5, hI5, h⟩ := xst_some h
  rw [← hI5]
  obtain rfl := Option.some.inj h
  exact xevret rfl
noncomputable def f_H_lay (F : Nat) (a1 : Int32) (a2 : Int32) (I : XI) : Option (Int32 × XI) :=
  (f_Table_pieceAt 17 I a1 a2).bind fun q1 => if q1 = (-1) then (some (0, I)) else ((f_State_lies 26 I q1).bind fun q3 => if q3 = 0 then ((f_Rules_isWet F (I 26 1) I).bind fun q5 => if q5.1 = 0 then (some (0, q5.2)) else ((f_Board_clashes F 26 q5.2 q1 (-1)).bind fun q7 => if q7 = 0 then ((f_Past_keep 26 q5.2).bind fun q9 => xck (xin q1 30) (xst (xput q9 27 (xN q1) (-1)) fun I11 => some (1, I11))) else (some (0, q5.2)))) else (some (0, I)))
theorem g_H_lay {X : XX} {d : Nat} {L : XL} {F : Nat} {a1 : Int32} {a2 : Int32} {I : XI}  (r : Int32 × XI) (h : f_H_lay F a1 a2 I = some r) : xEv X (d + 3) 170 0 [.ref 0, .int a1, .int a2, .null] [] I L (some (.int r.1)) r.2 L := by
  rw [f_H_lay] at h
  refine xeb 1 (pc' := 1) (ls' := [.ref 0, .int a1, .int a2, .null]) (st' := [.ref 0]) rfl ?_
  refine xegf2 rfl xsh0 (by decide) rfl ?_
  refine xeb 2 (pc' := 6) (ls' := [.ref 0, .int a1, .int a2, .null]) (st' := [.int a2, .int a1, .ref 17]) rfl ?_
  obtain ⟨q1, eq1, h⟩ := xbind_some h
  refine xcallV rfl xsh17 rfl rfl rfl (Nat.le_of_ble_eq_true rfl) (Nat.le_of_ble_eq_true rfl) (Nat.le_of_ble_eq_true rfl) rfl (g_Table_pieceAt (d := d + 1) xis17 _ eq1) ?_
  refine xeb 3 (pc' := 12) (ls' := [.ref 0, .int a1, .int a2, .int q1]) (st' := [.int (-1), .int q1]) rfl ?_
  by_cases c2 : q1 = (-1)
  · rw [if_pos c2] at h
    refine xei_eq_t rfl c2 ?_
    refine xeb 1 (pc' := 60) (ls' := [.ref 0, .int a1, .int a2, .int q1]) (st' := [.int 0]) rfl ?_
    obtain rfl := Option.some.inj h
    exact xeiret rfl rfl
  · rw [if_neg c2] at h
    refine xei_eq_f rfl c2 ?_
    refine xeb 1 (pc' := 16) (ls' := [.ref 0, .int a1, .int a2, .int q1]) (st' := [.ref 0]) rfl ?_
    refine xegf2 rfl xsh0 (by decide) rfl ?_
    refine xeb 1 (pc' := 20) (ls' := [.ref 0, .int a1, .int a2, .int q1]) (st' := [.int q1, .ref 26]) rfl ?_
    obtain ⟨q3, eq3, h⟩ := xbind_some h
    refine xcallV rfl xsh26 rfl rfl rfl (Nat.le_of_ble_eq_true rfl) (Nat.le_of_ble_eq_true rfl) (Nat.le_of_ble_eq_true rfl) rfl (g_State_lies (d := d + 2) xis26 _ eq3) ?_
    by_cases c4 : q3 = 0
    · rw [if_pos c4] at h
      refine xef_ne_t rfl c4 ?_
      refine xeb 1 (pc' := 27) (ls' := [.ref 0, .int a1, .int a2, .int q1]) (st' := [.ref 0]) rfl ?_
      refine xegf2 rfl xsh0 (by decide) rfl ?_
      refine xeb 1 (pc' := 31) (ls' := [.ref 0, .int a1, .int a2, .int q1]) (st' := [.ref 0, .ref 32]) rfl ?_
      refine xegf2 rfl xsh0 (by decide) rfl ?_
      refine xegf10 rfl xsh26 (by decide) ?_
      obtain ⟨q5, eq5, h⟩ := xbind_some h
      refine xcallV rfl xsh32 rfl rfl rfl (Nat.le_of_ble_eq_true rfl) (Nat.le_of_ble_eq_true rfl) (Nat.le_of_ble_eq_true rfl) rfl (g_Rules_isWet (d := d + 0) _ eq5) ?_
      by_cases c6 : q5.1 = 0
      · rw [if_pos c6] at h
        refine xef_eq_t rfl c6 ?_
        refine xeb 1 (pc' := 60) (ls' := [.ref 0, .int a1, .int a2, .int q1]) (st' := [.int 0]) rfl ?_
        obtain rfl := Option.some.inj h
        exact xeiret rfl rfl
      · rw [if_neg c6] at h
        refine xef_eq_f rfl c6 ?_
        refine xeb 1 (pc' := 44) (ls' := [.ref 0, .int a1, .int a2, .int q1]) (st' := [.ref 0]) rfl ?_
        refine xegf2 rfl xsh0 (by decide) rfl ?_
        refine xeb 1 (pc' := 48) (ls' := [.ref 0, .int a1, .int a2, .int q1]) (st' := [.ref 0, .ref 30]) rfl ?_
        refine xegf2 rfl xsh0 (by decide) rfl ?_
        refine xeb 2 (pc' := 53) (ls' := [.ref 0, .int a1, .int a2, .int q1]) (st' := [.int (-1), .int q1, .ref 26, .ref 30]) rfl ?_
        obtain ⟨q7, eq7, h⟩ := xbind_some h
        refine xcallV rfl xsh30 rfl rfl rfl (Nat.le_of_ble_eq_true rfl) (Nat.le_of_ble_eq_true rfl) (Nat.le_of_ble_eq_true rfl) rfl (g_Board_clashes (d := d + 0) xis26 _ eq7) ?_
        by_cases c8 : q7 = 0
        · rw [if_pos c8] at h
          refine xef_eq_t rfl c8 ?_
          refine xeb 1 (pc' := 62) (ls' := [.ref 0, .int a1, .int a2, .int q1]) (st' := [.ref 0]) rfl ?_
          refine xegf2 rfl xsh0 (by decide) rfl ?_
          refine xeb 1 (pc' := 66) (ls' := [.ref 0, .int a1, .int a2, .int q1]) (st' := [.ref 0, .ref 38]) rfl ?_
          refine xegf2 rfl xsh0 (by decide) rfl ?_
          obtain ⟨q9, eq9, h⟩ := xbind_some h
          refine xcallV rfl xsh38 rfl rfl rfl (Nat.le_of_ble_eq_true rfl) (Nat.le_of_ble_eq_true rfl) (Nat.le_of_ble_eq_true rfl) rfl (g_Past_keep (d := d + 1) xis26 _ eq9) ?_
          refine xeb 1 (pc' := 73) (ls' := [.ref 0, .int a1, .int a2, .int q1]) (st' := [.ref 0]) rfl ?_
          refine xegf2 rfl xsh0 (by decide) rfl ?_
          refine xegf12 rfl xsh26 (by decide) rfl ?_
          refine xeb 2 (pc' := 81) (ls' := [.ref 0, .int a1, .int a2, .int q1]) (st' := [.int (-1), .int q1, .ref 27]) rfl ?_
          obtain ⟨b10, h⟩ := xck_some h
          refine xeis rfl xsh27 b10 ?_
          obtain ⟨I11, hI11, h⟩ := xst_some h
          rw [← hI11]
          refine xeb 1 (pc' := 83) (ls' := [.ref 0, .int a1, .int a2, .int q1]) (st' := [.int 1]) rfl ?_
          obtain rfl := Option.some.inj h
          exact xeiret rfl rfl
        · rw [if_neg c8] at h
          refine xef_eq_f rfl c8 ?_
          refine xeb 1 (pc' := 60) (ls' := [.ref 0, .int a1, .int a2, .int q1]) (st' := [.int 0]) rfl ?_
          obtain rfl := Option.some.inj h
          exact xeiret rfl rfl
    · rw [if_neg c4] at h
      refine xef_ne_f rfl c4 ?_
      refine xeb 1 (pc' := 60) (ls' := [.ref 0, .int a1, .int a2, .int q1]) (st' := [.int 0]) rfl ?_
      obtain rfl := Option.some.inj h
      exact xeiret rfl rfl
noncomputable def f_M_isWet (F : Nat) (I : XI) : Option (Int32 × XI) :=
  (f_M_looks F I).bind fun q1 => (f_M_lawTells F 2 1 q1).bind fun q2 => xck (xnarz (if q2.1 ≤ 0 then 0 else 1)) (some ((if q2.1 ≤ 0 then 0 else 1), q2.2))
theorem g_M_isWet {X : XX} {d : Nat} {L : XL} {F : Nat} {I : XI}  (r : Int32 × XI) (h : f_M_isWet F I = some r) : xEv X (d + 2) 171 0 [.ref 131] [] I L (some (.int r.1)) r.2 L := by
  rw [f_M_isWet] at h
  refine xeb 1 (pc' := 1) (ls' := [.ref 131]) (st' := [.ref 131]) rfl ?_
  obtain ⟨q1, eq1, h⟩ := xbind_some h
  refine xcallV rfl xsh131 rfl rfl rfl (Nat.le_of_ble_eq_true rfl) (Nat.le_of_ble_eq_true rfl) (Nat.le_of_ble_eq_true rfl) rfl (g_M_looks (d := d + 1) _ eq1) ?_
  refine xeb 3 (pc' := 7) (ls' := [.ref 131]) (st' := [.int 1, .int 2, .ref 131]) rfl ?_
  obtain ⟨q2, eq2, h⟩ := xbind_some h
  refine xcallV rfl xsh131 rfl rfl rfl (Nat.le_of_ble_eq_true rfl) (Nat.le_of_ble_eq_true rfl) (Nat.le_of_ble_eq_true rfl) rfl (g_M_lawTells (d := d + 0) _ eq2) ?_
  have hj : xEv X (d + 2) 171 18 [.ref 131] [.int (if q2.1 ≤ 0 then 0 else 1)] q2.2 L (some (.int r.1)) r.2 L := by
    obtain ⟨b4, h⟩ := xck_some h
    obtain rfl := Option.some.inj h
    exact xeiret rfl b4
  by_cases c3 : q2.1 ≤ 0
  · simp only [if_pos c3] at hj
    refine xef_le_t rfl c3 ?_
    exact xeb 1 rfl hj
  · simp only [if_neg c3] at hj
    refine xef_le_f rfl c3 ?_
    exact xeb 2 rfl hj
noncomputable def f_M_clashBits_4 (F : Nat) (I : XI) : Nat → Int32 → Int32 → Int32 → Option (Int32)
  | 0, _, _, _ => none
  | n + 1, v1, v2, v3 =>
    if 4 ≤ v3 then (some v2) else ((f_M_overTo I v1 v3).bind fun q2 => if q2 < 0 then (f_M_clashBits_4 F I n v1 v2 (v3 + 1)) else ((f_M_doesLie I q2).bind fun q4 => if q4 = 0 then (f_M_clashBits_4 F I n v1 v2 (v3 + 1)) else ((f_M_doFit I v1 v3).bind fun q6 => f_M_clashBits_4 F I n v1 (if q6 = 0 then (v2 ||| (1 <<< (v3 &&& 31))) else v2) (v3 + 1))))
theorem g_M_clashBits_4 {X : XX} {d : Nat} {L : XL} {F : Nat} {I : XI}  {r : Int32}  : ∀ (n : Nat) (v1 : Int32) (v2 : Int32) (v3 : Int32), f_M_clashBits_4 F I n v1 v2 v3 = some r → ∀ (z4 : Value), xEv X (d + 4) 172 4 [.ref 131, .int v1, .int v2, .int v3, z4] [] I L (some (.int r)) I L := by
  intro n
  induction n with
  | zero => intro v1 v2 v3 h; rw [f_M_clashBits_4] at h; cases h
  | succ n ih =>
    intro v1 v2 v3 h z4
    rw [f_M_clashBits_4] at h
    refine xeb 2 (pc' := 6) (ls' := [.ref 131, .int v1, .int v2, .int v3, z4]) (st' := [.int 4, .int v3]) rfl ?_
    by_cases c1 : 4 ≤ v3
    · rw [if_pos c1] at h
      refine xei_ge_t rfl c1 ?_
      refine xeb 1 (pc' := 53) (ls' := [.ref 131, .int v1, .int v2, .int v3, z4]) (st' := [.int v2]) rfl ?_
      obtain rfl := Option.some.inj h
      exact xeiret rfl rfl
    · rw [if_neg c1] at h
      refine xei_ge_f rfl c1 ?_
      refine xeb 3 (pc' := 12) (ls' := [.ref 131, .int v1, .int v2, .int v3, z4]) (st' := [.int v3, .int v1, .ref 131]) rfl ?_
      obtain ⟨q2, eq2, h⟩ := xbind_some h
      refine xcallV rfl xsh131 rfl rfl rfl (Nat.le_of_ble_eq_true rfl) (Nat.le_of_ble_eq_true rfl) (Nat.le_of_ble_eq_true rfl) rfl (g_M_overTo (d := d + 1) _ eq2) ?_
      refine xeb 2 (pc' := 19) (ls' := [.ref 131, .int v1, .int v2, .int v3, .int q2]) (st' := [.int q2]) rfl ?_
      by_cases c3 : q2 < 0
      · rw [if_pos c3] at h
        refine xef_lt_t rfl c3 ?_
        refine xeb 2 (pc' := 4) (ls' := [.ref 131, .int v1, .int v2, .int (v3 + 1), .int q2]) (st' := []) rfl ?_
        exact ih v1 v2 (v3 + 1) h _
      · rw [if_neg c3] at h
        refine xef_lt_f rfl c3 ?_
        refine xeb 2 (pc' := 25) (ls' := [.ref 131, .int v1, .int v2, .int v3, .int q2]) (st' := [.int q2, .ref 131]) rfl ?_
        obtain ⟨q4, eq4, h⟩ := xbind_some h
        refine xcallV rfl xsh131 rfl rfl rfl (Nat.le_of_ble_eq_true rfl) (Nat.le_of_ble_eq_true rfl) (Nat.le_of_ble_eq_true rfl) rfl (g_M_doesLie (d := d + 3) _ eq4) ?_
        by_cases c5 : q4 = 0
        · rw [if_pos c5] at h
          refine xef_eq_t rfl c5 ?_
          refine xeb 2 (pc' := 4) (ls' := [.ref 131, .int v1, .int v2, .int (v3 + 1), .int q2]) (st' := []) rfl ?_
          exact ih v1 v2 (v3 + 1) h _
        · rw [if_neg c5] at h
          refine xef_eq_f rfl c5 ?_
          refine xeb 3 (pc' := 34) (ls' := [.ref 131, .int v1, .int v2, .int v3, .int q2]) (st' := [.int v3, .int v1, .ref 131]) rfl ?_
          obtain ⟨q6, eq6, h⟩ := xbind_some h
          refine xcallV rfl xsh131 rfl rfl rfl (Nat.le_of_ble_eq_true rfl) (Nat.le_of_ble_eq_true rfl) (Nat.le_of_ble_eq_true rfl) rfl (g_M_doFit (d := d + 0) _ eq6) ?_
          have hj : xEv X (d + 4) 172 46 [.ref 131, .int v1, .int (if q6 = 0 then (v2 ||| (1 <<< (v3 &&& 31))) else v2), .int v3, .int q2] [] I L (some (.int r)) I L := by
            refine xeb 2 (pc' := 4) (ls' := [.ref 131, .int v1, .int (if q6 = 0 then (v2 ||| (1 <<< (v3 &&& 31))) else v2), .int (v3 + 1), .int q2]) (st' := []) rfl ?_
            exact ih v1 (if q6 = 0 then (v2 ||| (1 <<< (v3 &&& 31))) else v2) (v3 + 1) h _
          by_cases c7 : q6 = 0
          · simp only [if_pos c7] at hj
            refine xef_ne_t rfl c7 ?_
            exact xeb 6 rfl hj
          · simp only [if_neg c7] at hj
            refine xef_ne_f rfl c7 ?_
            exact xeb 0 rfl hj
noncomputable def f_M_clashBits (F : Nat) (I : XI) (a1 : Int32) : Option (Int32) :=
  f_M_clashBits_4 F I F a1 0 0
theorem g_M_clashBits {X : XX} {d : Nat} {L : XL} {F : Nat} {I : XI} {a1 : Int32}  (r : Int32) (h : f_M_clashBits F I a1 = some r) : xEv X (d + 4) 172 0 [.ref 131, .int a1, .null, .null, .null] [] I L (some (.int r)) I L := by
  rw [f_M_clashBits] at h
  refine xeb 4 (pc' := 4) (ls' := [.ref 131, .int a1, .int 0, .int 0, .null]) (st' := []) rfl ?_
  exact g_M_clashBits_4 F a1 0 0 h _
