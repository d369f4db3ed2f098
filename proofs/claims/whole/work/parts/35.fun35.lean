/-! the methods as functions, and that a run answers so (by gen6.py) -/
noncomputable def f_Paths_fewestMore_145 (F : Nat) (S1 : Nat) (v3 : Int32) (I : XI) : Option (Int32 × XI) :=
  xck (xin v3 30) (if (I 34 (xN v3)) = 1000000 then (some ((-2), I)) else (xck (xin v3 30) (some ((I 34 (xN v3)), I))))
theorem g_Paths_fewestMore_145 {X : XX} {d : Nat} {L : XL} {F : Nat} {S1 : Nat} (hS1 : xisSt S1) {r : Int32 × XI}  {v3 : Int32} {I : XI} (h : f_Paths_fewestMore_145 F S1 v3 I = some r) (z1 : Value) (z2 : Value) (z4 : Value) (z5 : Value) (z6 : Value) (z7 : Value) : xEv X (d + 2) 234 145 [.ref 33, z1, z2, .int v3, z4, z5, z6, z7] [] I L (some (.int r.1)) r.2 L := by
  rw [f_Paths_fewestMore_145] at h
  refine xeb 1 (pc' := 146) (ls' := [.ref 33, z1, z2, .int v3, z4, z5, z6, z7]) (st' := [.ref 33]) rfl ?_
  refine xegf2 rfl xsh33 (by decide) rfl ?_
  refine xeb 1 (pc' := 150) (ls' := [.ref 33, z1, z2, .int v3, z4, z5, z6, z7]) (st' := [.int v3, .ref 34]) rfl ?_
  obtain ⟨b6, h⟩ := xck_some h
  refine xeia rfl xsh34 b6 ?_
  refine xeb 1 (pc' := 153) (ls' := [.ref 33, z1, z2, .int v3, z4, z5, z6, z7]) (st' := [.int 1000000, .int (I 34 (xN v3))]) rfl ?_
  by_cases c7 : (I 34 (xN v3)) = 1000000
  · rw [if_pos c7] at h
    refine xei_ne_t rfl c7 ?_
    refine xeb 2 (pc' := 167) (ls' := [.ref 33, z1, z2, .int v3, z4, z5, z6, z7]) (st' := [.int (-2)]) rfl ?_
    obtain rfl := Option.some.inj h
    exact xeiret rfl rfl
  · rw [if_neg c7] at h
    refine xei_ne_f rfl c7 ?_
    refine xeb 1 (pc' := 162) (ls' := [.ref 33, z1, z2, .int v3, z4, z5, z6, z7]) (st' := [.ref 33]) rfl ?_
    refine xegf2 rfl xsh33 (by decide) rfl ?_
    refine xeb 1 (pc' := 166) (ls' := [.ref 33, z1, z2, .int v3, z4, z5, z6, z7]) (st' := [.int v3, .ref 34]) rfl ?_
    obtain ⟨b8, h⟩ := xck_some h
    refine xeia rfl xsh34 b8 ?_
    obtain rfl := Option.some.inj h
    exact xeiret rfl rfl
noncomputable def f_Paths_fewestMore_122 (F : Nat) (S1 : Nat) (k49 : Int32 → Int32 → Int32 → Int32 → XI → Option (Int32 × XI)) (v3 : Int32) (v4 : Int32) (v5 : Int32) (v6 : Int32) (s1 : Int32) (s2 : Int32) (s3 : Int32) (s4 : Int32) (I : XI) : Option (Int32 × XI) :=
  xck (xin s1 30) (xst (xput I 34 (xN s1) (if (s3 + s4) < s2 then (s3 + s4) else s2)) fun I22 => k49 v3 v4 v5 (v6 + 1) I22)
theorem g_Paths_fewestMore_122 {X : XX} {d : Nat} {L : XL} {F : Nat} {S1 : Nat} {k49 : Int32 → Int32 → Int32 → Int32 → XI → Option (Int32 × XI)} (hS1 : xisSt S1) {r : Int32 × XI} (hk49 : ∀ (v3 : Int32) (v4 : Int32) (v5 : Int32) (v6 : Int32) (I : XI), k49 v3 v4 v5 v6 I = some r → ∀ (z2 : Value) (z7 : Value), xEv X (d + 2) 234 49 [.ref 33, .ref S1, z2, .int v3, .int v4, .int v5, .int v6, z7] [] I L (some (.int r.1)) r.2 L) {v3 : Int32} {v4 : Int32} {v5 : Int32} {v6 : Int32} {s1 : Int32} {s2 : Int32} {s3 : Int32} {s4 : Int32} {I : XI} (h : f_Paths_fewestMore_122 F S1 k49 v3 v4 v5 v6 s1 s2 s3 s4 I = some r) (z2 : Value) (z7 : Value) : xEv X (d + 2) 234 122 [.ref 33, .ref S1, z2, .int v3, .int v4, .int v5, .int v6, z7] [.int s4, .int s3, .int s2, .int s1, .ref 34] I L (some (.int r.1)) r.2 L := by
  rw [f_Paths_fewestMore_122] at h
  refine xeb 1 (pc' := 123) (ls' := [.ref 33, .ref S1, z2, .int v3, .int v4, .int v5, .int v6, z7]) (st' := [.int (s3 + s4), .int s2, .int s1, .ref 34]) rfl ?_
  refine xemin rfl (Nat.le_of_ble_eq_true rfl) ?_
  obtain ⟨b21, h⟩ := xck_some h
  refine xeis rfl xsh34 b21 ?_
  obtain ⟨I22, hI22, h⟩ := xst_some h
  rw [← hI22]
  refine xeb 2 (pc' := 49) (ls' := [.ref 33, .ref S1, z2, .int v3, .int v4, .int v5, .int (v6 + 1), z7]) (st' := []) rfl ?_
  exact hk49 v3 v4 v5 (v6 + 1) I22 h _ _
noncomputable def f_Paths_fewestMore_49 (F : Nat) (S1 : Nat) (k27 : Int32 → Int32 → Int32 → XI → Option (Int32 × XI)) : Nat → Int32 → Int32 → Int32 → Int32 → XI → Option (Int32 × XI)
  | 0, _, _, _, _, _ => none
  | n + 1, v3, v4, v5, v6, I =>
    if 4 ≤ v6 then ((f_Paths_closeNearest F I).bind fun q12 => k27 v3 q12.1 (v5 + 1) q12.2) else ((f_Table_beside 17 I v4 v6).bind fun q13 => if q13 = (-1) then (f_Paths_fewestMore_49 F S1 k27 n v3 v4 v5 (v6 + 1) I) else ((f_Table_piecesFit 17 I v4 v6).bind fun q15 => if q15 = 0 then (f_Paths_fewestMore_49 F S1 k27 n v3 v4 v5 (v6 + 1) I) else (xck (xin q13 30) (xck (xin v4 30) ((f_State_lies S1 I q13).bind fun q19 => f_Paths_fewestMore_122 F S1 (fun v3 v4 v5 v6 I => f_Paths_fewestMore_49 F S1 k27 n v3 v4 v5 v6 I) v3 v4 v5 v6 q13 (I 34 (xN q13)) (I 34 (xN v4)) (if q19 = 0 then 1 else 0) I)))))
theorem g_Paths_fewestMore_49 {X : XX} {d : Nat} {L : XL} {F : Nat} {S1 : Nat} {k27 : Int32 → Int32 → Int32 → XI → Option (Int32 × XI)} (hS1 : xisSt S1) {r : Int32 × XI} (hk27 : ∀ (v3 : Int32) (v4 : Int32) (v5 : Int32) (I : XI), k27 v3 v4 v5 I = some r → ∀ (z2 : Value) (z6 : Value) (z7 : Value), xEv X (d + 2) 234 27 [.ref 33, .ref S1, z2, .int v3, .int v4, .int v5, z6, z7] [] I L (some (.int r.1)) r.2 L) : ∀ (n : Nat) (v3 : Int32) (v4 : Int32) (v5 : Int32) (v6 : Int32) (I : XI), f_Paths_fewestMore_49 F S1 k27 n v3 v4 v5 v6 I = some r → ∀ (z2 : Value) (z7 : Value), xEv X (d + 2) 234 49 [.ref 33, .ref S1, z2, .int v3, .int v4, .int v5, .int v6, z7] [] I L (some (.int r.1)) r.2 L := by
  intro n
  induction n with
  | zero => intro v3 v4 v5 v6 I h; rw [f_Paths_fewestMore_49] at h; cases h
  | succ n ih =>
    intro v3 v4 v5 v6 I h z2 z7
    rw [f_Paths_fewestMore_49] at h
    refine xeb 2 (pc' := 52) (ls' := [.ref 33, .ref S1, z2, .int v3, .int v4, .int v5, .int v6, z7]) (st' := [.int 4, .int v6]) rfl ?_
    by_cases c11 : 4 ≤ v6
    · rw [if_pos c11] at h
      refine xei_ge_t rfl c11 ?_
      refine xeb 1 (pc' := 134) (ls' := [.ref 33, .ref S1, z2, .int v3, .int v4, .int v5, .int v6, z7]) (st' := [.ref 33]) rfl ?_
      obtain ⟨q12, eq12, h⟩ := xbind_some h
      refine xcallV rfl xsh33 rfl rfl rfl (Nat.le_of_ble_eq_true rfl) (Nat.le_of_ble_eq_true rfl) (Nat.le_of_ble_eq_true rfl) rfl (g_Paths_closeNearest (d := d + 1) _ eq12) ?_
      refine xeb 3 (pc' := 27) (ls' := [.ref 33, .ref S1, z2, .int v3, .int q12.1, .int (v5 + 1), .int v6, z7]) (st' := []) rfl ?_
      exact hk27 v3 q12.1 (v5 + 1) q12.2 h _ _ _
    · rw [if_neg c11] at h
      refine xei_ge_f rfl c11 ?_
      refine xeb 1 (pc' := 56) (ls' := [.ref 33, .ref S1, z2, .int v3, .int v4, .int v5, .int v6, z7]) (st' := [.ref 33]) rfl ?_
      refine xegf2 rfl xsh33 (by decide) rfl ?_
      refine xeb 2 (pc' := 63) (ls' := [.ref 33, .ref S1, z2, .int v3, .int v4, .int v5, .int v6, z7]) (st' := [.int v6, .int v4, .ref 17]) rfl ?_
      obtain ⟨q13, eq13, h⟩ := xbind_some h
      refine xcallV rfl xsh17 rfl rfl rfl (Nat.le_of_ble_eq_true rfl) (Nat.le_of_ble_eq_true rfl) (Nat.le_of_ble_eq_true rfl) rfl (g_Table_beside (d := d + 1) xis17 _ eq13) ?_
      refine xeb 3 (pc' := 71) (ls' := [.ref 33, .ref S1, z2, .int v3, .int v4, .int v5, .int v6, .int q13]) (st' := [.int (-1), .int q13]) rfl ?_
      by_cases c14 : q13 = (-1)
      · rw [if_pos c14] at h
        refine xei_eq_t rfl c14 ?_
        refine xeb 2 (pc' := 49) (ls' := [.ref 33, .ref S1, z2, .int v3, .int v4, .int v5, .int (v6 + 1), .int q13]) (st' := []) rfl ?_
        exact ih v3 v4 v5 (v6 + 1) I h _ _
      · rw [if_neg c14] at h
        refine xei_eq_f rfl c14 ?_
        refine xeb 1 (pc' := 75) (ls' := [.ref 33, .ref S1, z2, .int v3, .int v4, .int v5, .int v6, .int q13]) (st' := [.ref 33]) rfl ?_
        refine xegf2 rfl xsh33 (by decide) rfl ?_
        refine xeb 2 (pc' := 82) (ls' := [.ref 33, .ref S1, z2, .int v3, .int v4, .int v5, .int v6, .int q13]) (st' := [.int v6, .int v4, .ref 17]) rfl ?_
        obtain ⟨q15, eq15, h⟩ := xbind_some h
        refine xcallV rfl xsh17 rfl rfl rfl (Nat.le_of_ble_eq_true rfl) (Nat.le_of_ble_eq_true rfl) (Nat.le_of_ble_eq_true rfl) rfl (g_Table_piecesFit (d := d + 0) xis17 _ eq15) ?_
        by_cases c16 : q15 = 0
        · rw [if_pos c16] at h
          refine xef_eq_t rfl c16 ?_
          refine xeb 2 (pc' := 49) (ls' := [.ref 33, .ref S1, z2, .int v3, .int v4, .int v5, .int (v6 + 1), .int q13]) (st' := []) rfl ?_
          exact ih v3 v4 v5 (v6 + 1) I h _ _
        · rw [if_neg c16] at h
          refine xef_eq_f rfl c16 ?_
          refine xeb 1 (pc' := 89) (ls' := [.ref 33, .ref S1, z2, .int v3, .int v4, .int v5, .int v6, .int q13]) (st' := [.ref 33]) rfl ?_
          refine xegf2 rfl xsh33 (by decide) rfl ?_
          refine xeb 2 (pc' := 95) (ls' := [.ref 33, .ref S1, z2, .int v3, .int v4, .int v5, .int v6, .int q13]) (st' := [.ref 33, .int q13, .ref 34]) rfl ?_
          refine xegf2 rfl xsh33 (by decide) rfl ?_
          refine xeb 1 (pc' := 100) (ls' := [.ref 33, .ref S1, z2, .int v3, .int v4, .int v5, .int v6, .int q13]) (st' := [.int q13, .ref 34, .int q13, .ref 34]) rfl ?_
          obtain ⟨b17, h⟩ := xck_some h
          refine xeia rfl xsh34 b17 ?_
          refine xeb 1 (pc' := 102) (ls' := [.ref 33, .ref S1, z2, .int v3, .int v4, .int v5, .int v6, .int q13]) (st' := [.ref 33, .int (I 34 (xN q13)), .int q13, .ref 34]) rfl ?_
          refine xegf2 rfl xsh33 (by decide) rfl ?_
          refine xeb 1 (pc' := 107) (ls' := [.ref 33, .ref S1, z2, .int v3, .int v4, .int v5, .int v6, .int q13]) (st' := [.int v4, .ref 34, .int (I 34 (xN q13)), .int q13, .ref 34]) rfl ?_
          obtain ⟨b18, h⟩ := xck_some h
          refine xeia rfl xsh34 b18 ?_
          refine xeb 2 (pc' := 111) (ls' := [.ref 33, .ref S1, z2, .int v3, .int v4, .int v5, .int v6, .int q13]) (st' := [.int q13, .ref S1, .int (I 34 (xN v4)), .int (I 34 (xN q13)), .int q13, .ref 34]) rfl ?_
          obtain ⟨q19, eq19, h⟩ := xbind_some h
          refine xcallV rfl hS1.1 rfl rfl rfl (Nat.le_of_ble_eq_true rfl) (Nat.le_of_ble_eq_true rfl) (Nat.le_of_ble_eq_true rfl) rfl (g_State_lies (d := d + 1) hS1 _ eq19) ?_
          have hj : xEv X (d + 2) 234 122 [.ref 33, .ref S1, z2, .int v3, .int v4, .int v5, .int v6, .int q13] [.int (if q19 = 0 then 1 else 0), .int (I 34 (xN v4)), .int (I 34 (xN q13)), .int q13, .ref 34] I L (some (.int r.1)) r.2 L := by
            exact g_Paths_fewestMore_122 hS1 (fun v3 v4 v5 v6 I h' z2 z7 => ih v3 v4 v5 v6 I h' z2 z7) h _ _
          by_cases c20 : q19 = 0
          · simp only [if_pos c20] at hj
            refine xef_eq_t rfl c20 ?_
            exact xeb 1 rfl hj
          · simp only [if_neg c20] at hj
            refine xef_eq_f rfl c20 ?_
            exact xeb 2 rfl hj
noncomputable def f_Paths_fewestMore_27 (F : Nat) (S1 : Nat) : Nat → Int32 → Int32 → Int32 → XI → Option (Int32 × XI)
  | 0, _, _, _, _ => none
  | n + 1, v3, v4, v5, I =>
    if 30 ≤ v5 then (f_Paths_fewestMore_145 F S1 v3 I) else (if v4 = (-1) then (f_Paths_fewestMore_145 F S1 v3 I) else (if v4 = v3 then (f_Paths_fewestMore_145 F S1 v3 I) else (f_Paths_fewestMore_49 F S1 (fun v3 v4 v5 I => f_Paths_fewestMore_27 F S1 n v3 v4 v5 I) F v3 v4 v5 0 I)))
theorem g_Paths_fewestMore_27 {X : XX} {d : Nat} {L : XL} {F : Nat} {S1 : Nat} (hS1 : xisSt S1) {r : Int32 × XI}  : ∀ (n : Nat) (v3 : Int32) (v4 : Int32) (v5 : Int32) (I : XI), f_Paths_fewestMore_27 F S1 n v3 v4 v5 I = some r → ∀ (z2 : Value) (z6 : Value) (z7 : Value), xEv X (d + 2) 234 27 [.ref 33, .ref S1, z2, .int v3, .int v4, .int v5, z6, z7] [] I L (some (.int r.1)) r.2 L := by
  intro n
  induction n with
  | zero => intro v3 v4 v5 I h; rw [f_Paths_fewestMore_27] at h; cases h
  | succ n ih =>
    intro v3 v4 v5 I h z2 z6 z7
    rw [f_Paths_fewestMore_27] at h
    refine xeb 2 (pc' := 31) (ls' := [.ref 33, .ref S1, z2, .int v3, .int v4, .int v5, z6, z7]) (st' := [.int 30, .int v5]) rfl ?_
    by_cases c5 : 30 ≤ v5
    · rw [if_pos c5] at h
      refine xei_ge_t rfl c5 ?_
      exact g_Paths_fewestMore_145 hS1 h _ _ _ _ _ _
    · rw [if_neg c5] at h
      refine xei_ge_f rfl c5 ?_
      refine xeb 2 (pc' := 37) (ls' := [.ref 33, .ref S1, z2, .int v3, .int v4, .int v5, z6, z7]) (st' := [.int (-1), .int v4]) rfl ?_
      by_cases c9 : v4 = (-1)
      · rw [if_pos c9] at h
        refine xei_eq_t rfl c9 ?_
        exact g_Paths_fewestMore_145 hS1 h _ _ _ _ _ _
      · rw [if_neg c9] at h
        refine xei_eq_f rfl c9 ?_
        refine xeb 2 (pc' := 43) (ls' := [.ref 33, .ref S1, z2, .int v3, .int v4, .int v5, z6, z7]) (st' := [.int v3, .int v4]) rfl ?_
        by_cases c10 : v4 = v3
        · rw [if_pos c10] at h
          refine xei_eq_t rfl c10 ?_
          exact g_Paths_fewestMore_145 hS1 h _ _ _ _ _ _
        · rw [if_neg c10] at h
          refine xei_eq_f rfl c10 ?_
          refine xeb 2 (pc' := 49) (ls' := [.ref 33, .ref S1, z2, .int v3, .int v4, .int v5, .int 0, z7]) (st' := []) rfl ?_
          exact g_Paths_fewestMore_49 hS1 (fun v3 v4 v5 I h' z2 z6 z7 => ih v3 v4 v5 I h' z2 z6 z7) F v3 v4 v5 0 I h _ _
noncomputable def f_Paths_fewestMore_15 (F : Nat) (S1 : Nat) (v3 : Int32) (s1 : Int32) (s2 : Int32) (I : XI) : Option (Int32 × XI) :=
  (f_Paths_start F s1 s2 I).bind fun q3 => (f_Paths_closeNearest F q3).bind fun q4 => f_Paths_fewestMore_27 F S1 F v3 q4.1 0 q4.2
theorem g_Paths_fewestMore_15 {X : XX} {d : Nat} {L : XL} {F : Nat} {S1 : Nat} (hS1 : xisSt S1) {r : Int32 × XI}  {v3 : Int32} {s1 : Int32} {s2 : Int32} {I : XI} (h : f_Paths_fewestMore_15 F S1 v3 s1 s2 I = some r) (z2 : Value) (z4 : Value) (z5 : Value) (z6 : Value) (z7 : Value) : xEv X (d + 2) 234 15 [.ref 33, .ref S1, z2, .int v3, z4, z5, z6, z7] [.int s2, .int s1, .ref 33] I L (some (.int r.1)) r.2 L := by
  rw [f_Paths_fewestMore_15] at h
  obtain ⟨q3, eq3, h⟩ := xbind_some h
  refine xcallV rfl xsh33 rfl rfl rfl (Nat.le_of_ble_eq_true rfl) (Nat.le_of_ble_eq_true rfl) (Nat.le_of_ble_eq_true rfl) rfl (g_Paths_start (d := d + 0) _ eq3) ?_
  refine xeb 1 (pc' := 19) (ls' := [.ref 33, .ref S1, z2, .int v3, z4, z5, z6, z7]) (st' := [.ref 33]) rfl ?_
  obtain ⟨q4, eq4, h⟩ := xbind_some h
  refine xcallV rfl xsh33 rfl rfl rfl (Nat.le_of_ble_eq_true rfl) (Nat.le_of_ble_eq_true rfl) (Nat.le_of_ble_eq_true rfl) rfl (g_Paths_closeNearest (d := d + 1) _ eq4) ?_
  refine xeb 3 (pc' := 27) (ls' := [.ref 33, .ref S1, z2, .int v3, .int q4.1, .int 0, z6, z7]) (st' := []) rfl ?_
  exact g_Paths_fewestMore_27 hS1 F v3 q4.1 0 q4.2 h _ _ _
noncomputable def f_Paths_fewestMore (F : Nat) (S1 : Nat) (a2 : Int32) (a3 : Int32) (I : XI) : Option (Int32 × XI) :=
  (f_State_lies S1 I a2).bind fun q1 => f_Paths_fewestMore_15 F S1 a3 a2 (if q1 = 0 then 1 else 0) I
theorem g_Paths_fewestMore {X : XX} {d : Nat} {L : XL} {F : Nat} {S1 : Nat} {a2 : Int32} {a3 : Int32} {I : XI} (hS1 : xisSt S1) (r : Int32 × XI) (h : f_Paths_fewestMore F S1 a2 a3 I = some r) : xEv X (d + 2) 234 0 [.ref 33, .ref S1, .int a2, .int a3, .null, .null, .null, .null] [] I L (some (.int r.1)) r.2 L := by
  rw [f_Paths_fewestMore] at h
  refine xeb 4 (pc' := 4) (ls' := [.ref 33, .ref S1, .int a2, .int a3, .null, .null, .null, .null]) (st' := [.int a2, .ref S1, .int a2, .ref 33]) rfl ?_
  obtain ⟨q1, eq1, h⟩ := xbind_some h
  refine xcallV rfl hS1.1 rfl rfl rfl (Nat.le_of_ble_eq_true rfl) (Nat.le_of_ble_eq_true rfl) (Nat.le_of_ble_eq_true rfl) rfl (g_State_lies (d := d + 1) hS1 _ eq1) ?_
  have hj : xEv X (d + 2) 234 15 [.ref 33, .ref S1, .int a2, .int a3, .null, .null, .null, .null] [.int (if q1 = 0 then 1 else 0), .int a2, .ref 33] I L (some (.int r.1)) r.2 L := by
    exact g_Paths_fewestMore_15 hS1 h _ _ _ _ _
  by_cases c2 : q1 = 0
  · simp only [if_pos c2] at hj
    refine xef_eq_t rfl c2 ?_
    exact xeb 1 rfl hj
  · simp only [if_neg c2] at hj
    refine xef_eq_f rfl c2 ?_
    exact xeb 2 rfl hj
noncomputable def f_H_more (F : Nat) (a1 : Int32) (a2 : Int32) (a3 : Int32) (a4 : Int32) (I : XI) : Option (Int32 × XI) :=
  (f_Table_pieceAt 17 I a1 a2).bind fun q1 => (f_Table_pieceAt 17 I a3 a4).bind fun q2 => if q1 = (-1) then (some ((-1), I)) else (if q2 = (-1) then (some ((-1), I)) else ((f_Paths_fewestMore F 26 q1 q2 I).bind fun q5 => some (q5.1, q5.2)))
theorem g_H_more {X : XX} {d : Nat} {L : XL} {F : Nat} {a1 : Int32} {a2 : Int32} {a3 : Int32} {a4 : Int32} {I : XI}  (r : Int32 × XI) (h : f_H_more F a1 a2 a3 a4 I = some r) : xEv X (d + 3) 235 0 [.ref 0, .int a1, .int a2, .int a3, .int a4, .null, .null] [] I L (some (.int r.1)) r.2 L := by
  rw [f_H_more] at h
  refine xeb 1 (pc' := 1) (ls' := [.ref 0, .int a1, .int a2, .int a3, .int a4, .null, .null]) (st' := [.ref 0]) rfl ?_
  refine xegf2 rfl xsh0 (by decide) rfl ?_
  refine xeb 2 (pc' := 6) (ls' := [.ref 0, .int a1, .int a2, .int a3, .int a4, .null, .null]) (st' := [.int a2, .int a1, .ref 17]) rfl ?_
  obtain ⟨q1, eq1, h⟩ := xbind_some h
  refine xcallV rfl xsh17 rfl rfl rfl (Nat.le_of_ble_eq_true rfl) (Nat.le_of_ble_eq_true rfl) (Nat.le_of_ble_eq_true rfl) rfl (g_Table_pieceAt (d := d + 1) xis17 _ eq1) ?_
  refine xeb 2 (pc' := 12) (ls' := [.ref 0, .int a1, .int a2, .int a3, .int a4, .int q1, .null]) (st' := [.ref 0]) rfl ?_
  refine xegf2 rfl xsh0 (by decide) rfl ?_
  refine xeb 2 (pc' := 18) (ls' := [.ref 0, .int a1, .int a2, .int a3, .int a4, .int q1, .null]) (st' := [.int a4, .int a3, .ref 17]) rfl ?_
  obtain ⟨q2, eq2, h⟩ := xbind_some h
  refine xcallV rfl xsh17 rfl rfl rfl (Nat.le_of_ble_eq_true rfl) (Nat.le_of_ble_eq_true rfl) (Nat.le_of_ble_eq_true rfl) rfl (g_Table_pieceAt (d := d + 1) xis17 _ eq2) ?_
  refine xeb 3 (pc' := 26) (ls' := [.ref 0, .int a1, .int a2, .int a3, .int a4, .int q1, .int q2]) (st' := [.int (-1), .int q1]) rfl ?_
  by_cases c3 : q1 = (-1)
  · rw [if_pos c3] at h
    refine xei_eq_t rfl c3 ?_
    refine xeb 2 (pc' := 54) (ls' := [.ref 0, .int a1, .int a2, .int a3, .int a4, .int q1, .int q2]) (st' := [.int (-1)]) rfl ?_
    obtain rfl := Option.some.inj h
    exact xeiret rfl rfl
  · rw [if_neg c3] at h
    refine xei_eq_f rfl c3 ?_
    refine xeb 2 (pc' := 32) (ls' := [.ref 0, .int a1, .int a2, .int a3, .int a4, .int q1, .int q2]) (st' := [.int (-1), .int q2]) rfl ?_
    by_cases c4 : q2 = (-1)
    · rw [if_pos c4] at h
      refine xei_ne_t rfl c4 ?_
      refine xeb 2 (pc' := 54) (ls' := [.ref 0, .int a1, .int a2, .int a3, .int a4, .int q1, .int q2]) (st' := [.int (-1)]) rfl ?_
      obtain rfl := Option.some.inj h
      exact xeiret rfl rfl
    · rw [if_neg c4] at h
      refine xei_ne_f rfl c4 ?_
      refine xeb 1 (pc' := 40) (ls' := [.ref 0, .int a1, .int a2, .int a3, .int a4, .int q1, .int q2]) (st' := [.ref 0]) rfl ?_
      refine xegf2 rfl xsh0 (by decide) rfl ?_
      refine xeb 1 (pc' := 44) (ls' := [.ref 0, .int a1, .int a2, .int a3, .int a4, .int q1, .int q2]) (st' := [.ref 0, .ref 33]) rfl ?_
      refine xegf2 rfl xsh0 (by decide) rfl ?_
      refine xeb 2 (pc' := 51) (ls' := [.ref 0, .int a1, .int a2, .int a3, .int a4, .int q1, .int q2]) (st' := [.int q2, .int q1, .ref 26, .ref 33]) rfl ?_
      obtain ⟨q5, eq5, h⟩ := xbind_some h
      refine xcallV rfl xsh33 rfl rfl rfl (Nat.le_of_ble_eq_true rfl) (Nat.le_of_ble_eq_true rfl) (Nat.le_of_ble_eq_true rfl) rfl (g_Paths_fewestMore (d := d + 0) xis26 _ eq5) ?_
      obtain rfl := Option.some.inj h
      exact xeiret rfl rfl
noncomputable def f_M_isPiece (I : XI) (a1 : Int32) (a2 : Int32) : Option (Int32) :=
  (f_M_isCell I a1 a2).bind fun q1 => if q1 = 0 then (some 0) else ((f_M_isHole I ((6 * a2) + a1)).bind fun q3 => xck (xnarz (if q3 = 0 then 1 else 0)) (some (if q3 = 0 then 1 else 0)))
theorem g_M_isPiece {X : XX} {d : Nat} {L : XL} {I : XI} {a1 : Int32} {a2 : Int32}  (r : Int32) (h : f_M_isPiece I a1 a2 = some r) : xEv X (d + 2) 236 0 [.ref 131, .int a1, .int a2] [] I L (some (.int r)) I L := by
  rw [f_M_isPiece] at h
  refine xeb 3 (pc' := 3) (ls' := [.ref 131, .int a1, .int a2]) (st' := [.int a2, .int a1, .ref 131]) rfl ?_
  obtain ⟨q1, eq1, h⟩ := xbind_some h
  refine xcallV rfl xsh131 rfl rfl rfl (Nat.le_of_ble_eq_true rfl) (Nat.le_of_ble_eq_true rfl) (Nat.le_of_ble_eq_true rfl) rfl (g_M_isCell (d := d + 0) _ eq1) ?_
  by_cases c2 : q1 = 0
  · rw [if_pos c2] at h
    refine xef_eq_t rfl c2 ?_
    refine xeb 1 (pc' := 27) (ls' := [.ref 131, .int a1, .int a2]) (st' := [.int 0]) rfl ?_
    obtain rfl := Option.some.inj h
    exact xeiret rfl rfl
  · rw [if_neg c2] at h
    refine xef_eq_f rfl c2 ?_
    refine xeb 6 (pc' := 16) (ls' := [.ref 131, .int a1, .int a2]) (st' := [.int ((6 * a2) + a1), .ref 131]) rfl ?_
    obtain ⟨q3, eq3, h⟩ := xbind_some h
    refine xcallV rfl xsh131 rfl rfl rfl (Nat.le_of_ble_eq_true rfl) (Nat.le_of_ble_eq_true rfl) (Nat.le_of_ble_eq_true rfl) rfl (g_M_isHole (d := d + 0) _ eq3) ?_
    have hj : xEv X (d + 2) 236 27 [.ref 131, .int a1, .int a2] [.int (if q3 = 0 then 1 else 0)] I L (some (.int r)) I L := by
      obtain ⟨b5, h⟩ := xck_some h
      obtain rfl := Option.some.inj h
      exact xeiret rfl b5
    by_cases c4 : q3 = 0
    · simp only [if_pos c4] at hj
      refine xef_ne_t rfl c4 ?_
      exact xeb 2 rfl hj
    · simp only [if_neg c4] at hj
      refine xef_ne_f rfl c4 ?_
      exact xeb 1 rfl hj
noncomputable def f_M_more_191 (F : Nat) (k113 : Int32 → Int32 → Int32 → Int32 → XI → Option (Int32 × XI)) (v6 : Int32) (v7 : Int32) (v8 : Int32) (v9 : Int32) (v10 : Int32) (s0 : Int32) (s1 : Int32) (I : XI) : Option (Int32 × XI) :=
  xck (xin v10 30) (if (s0 + s1) < (I 167 (xN v10)) then (xck (xin v10 30) (xst (xput I 167 (xN v10) (s0 + s1)) fun I31 => k113 v6 1 v8 (v9 + 1) I31)) else (k113 v6 v7 v8 (v9 + 1) I))
theorem g_M_more_191 {X : XX} {d : Nat} {L : XL} {F : Nat} {k113 : Int32 → Int32 → Int32 → Int32 → XI → Option (Int32 × XI)}  {r : Int32 × XI} (hk113 : ∀ (v6 : Int32) (v7 : Int32) (v8 : Int32) (v9 : Int32) (I : XI), k113 v6 v7 v8 v9 I = some r → ∀ (z1 : Value) (z2 : Value) (z3 : Value) (z4 : Value) (z5 : Value) (z10 : Value) (z11 : Value), xEv X (d + 4) 237 113 [.ref 131, z1, z2, z3, z4, z5, .int v6, .int v7, .int v8, .int v9, z10, z11] [] I L (some (.int r.1)) r.2 L) {v6 : Int32} {v7 : Int32} {v8 : Int32} {v9 : Int32} {v10 : Int32} {s0 : Int32} {s1 : Int32} {I : XI} (h : f_M_more_191 F k113 v6 v7 v8 v9 v10 s0 s1 I = some r) (z1 : Value) (z2 : Value) (z3 : Value) (z4 : Value) (z5 : Value) (z11 : Value) : xEv X (d + 4) 237 191 [.ref 131, z1, z2, z3, z4, z5, .int v6, .int v7, .int v8, .int v9, .int v10, z11] [.int s1, .int s0] I L (some (.int r.1)) r.2 L := by
  rw [f_M_more_191] at h
  refine xeb 4 (pc' := 197) (ls' := [.ref 131, z1, z2, z3, z4, z5, .int v6, .int v7, .int v8, .int v9, .int v10, .int (s0 + s1)]) (st' := [.ref 131, .int (s0 + s1)]) rfl ?_
  refine xegf2 rfl xsh131 (by decide) rfl ?_
  refine xeb 1 (pc' := 202) (ls' := [.ref 131, z1, z2, z3, z4, z5, .int v6, .int v7, .int v8, .int v9, .int v10, .int (s0 + s1)]) (st' := [.int v10, .ref 167, .int (s0 + s1)]) rfl ?_
  obtain ⟨b28, h⟩ := xck_some h
  refine xeia rfl xsh167 b28 ?_
  by_cases c29 : (s0 + s1) < (I 167 (xN v10))
  · rw [if_pos c29] at h
    refine xei_lt_t rfl c29 ?_
    refine xeb 1 (pc' := 210) (ls' := [.ref 131, z1, z2, z3, z4, z5, .int v6, .int v7, .int v8, .int v9, .int v10, .int (s0 + s1)]) (st' := [.ref 131]) rfl ?_
    refine xegf2 rfl xsh131 (by decide) rfl ?_
    refine xeb 2 (pc' := 217) (ls' := [.ref 131, z1, z2, z3, z4, z5, .int v6, .int v7, .int v8, .int v9, .int v10, .int (s0 + s1)]) (st' := [.int (s0 + s1), .int v10, .ref 167]) rfl ?_
    obtain ⟨b30, h⟩ := xck_some h
    refine xeis rfl xsh167 b30 ?_
    obtain ⟨I31, hI31, h⟩ := xst_some h
    rw [← hI31]
    refine xeb 4 (pc' := 113) (ls' := [.ref 131, z1, z2, z3, z4, z5, .int v6, .int 1, .int v8, .int (v9 + 1), .int v10, .int (s0 + s1)]) (st' := []) rfl ?_
    exact hk113 v6 1 v8 (v9 + 1) I31 h _ _ _ _ _ _ _
  · rw [if_neg c29] at h
    refine xei_lt_f rfl c29 ?_
    refine xeb 3 (pc' := 113) (ls' := [.ref 131, z1, z2, z3, z4, z5, .int v6, .int v7, .int v8, .int (v9 + 1), .int v10, .int (s0 + s1)]) (st' := []) rfl ?_
    exact hk113 v6 v7 v8 (v9 + 1) I h _ _ _ _ _ _ _
noncomputable def f_M_more_113 (F : Nat) (k103 : Int32 → Int32 → Int32 → XI → Option (Int32 × XI)) : Nat → Int32 → Int32 → Int32 → Int32 → XI → Option (Int32 × XI)
  | 0, _, _, _, _, _ => none
  | n + 1, v6, v7, v8, v9, I =>
    if 4 ≤ v9 then (k103 v6 v7 (v8 + 1) I) else (xck (xin v8 30) (if 99999 ≤ (I 167 (xN v8)) then (k103 v6 v7 (v8 + 1) I) else ((f_M_overTo I v8 v9).bind fun q19 => if q19 < 0 then (f_M_more_113 F k103 n v6 v7 v8 (v9 + 1) I) else ((f_M_isHole I q19).bind fun q21 => if q21 = 0 then ((f_M_doFit I v8 v9).bind fun q23 => if q23 = 0 then (f_M_more_113 F k103 n v6 v7 v8 (v9 + 1) I) else (xck (xin v8 30) ((f_M_doesLie I q19).bind fun q26 => f_M_more_191 F (fun v6 v7 v8 v9 I => f_M_more_113 F k103 n v6 v7 v8 v9 I) v6 v7 v8 v9 q19 (I 167 (xN v8)) (if q26 = 0 then 1 else 0) I))) else (f_M_more_113 F k103 n v6 v7 v8 (v9 + 1) I)))))
theorem g_M_more_113 {X : XX} {d : Nat} {L : XL} {F : Nat} {k103 : Int32 → Int32 → Int32 → XI → Option (Int32 × XI)}  {r : Int32 × XI} (hk103 : ∀ (v6 : Int32) (v7 : Int32) (v8 : Int32) (I : XI), k103 v6 v7 v8 I = some r → ∀ (z1 : Value) (z2 : Value) (z3 : Value) (z4 : Value) (z5 : Value) (z9 : Value) (z10 : Value) (z11 : Value), xEv X (d + 4) 237 103 [.ref 131, z1, z2, z3, z4, z5, .int v6, .int v7, .int v8, z9, z10, z11] [] I L (some (.int r.1)) r.2 L) : ∀ (n : Nat) (v6 : Int32) (v7 : Int32) (v8 : Int32) (v9 : Int32) (I : XI), f_M_more_113 F k103 n v6 v7 v8 v9 I = some r → ∀ (z1 : Value) (z2 : Value) (z3 : Value) (z4 : Value) (z5 : Value) (z10 : Value) (z11 : Value), xEv X (d + 4) 237 113 [.ref 131, z1, z2, z3, z4, z5, .int v6, .int v7, .int v8, .int v9, z10, z11] [] I L (some (.int r.1)) r.2 L := by
  intro n
  induction n with
  | zero => intro v6 v7 v8 v9 I h; rw [f_M_more_113] at h; cases h
  | succ n ih =>
    intro v6 v7 v8 v9 I h z1 z2 z3 z4 z5 z10 z11
    rw [f_M_more_113] at h
    refine xeb 2 (pc' := 116) (ls' := [.ref 131, z1, z2, z3, z4, z5, .int v6, .int v7, .int v8, .int v9, z10, z11]) (st' := [.int 4, .int v9]) rfl ?_
    by_cases c16 : 4 ≤ v9
    · rw [if_pos c16] at h
      refine xei_ge_t rfl c16 ?_
      refine xeb 2 (pc' := 103) (ls' := [.ref 131, z1, z2, z3, z4, z5, .int v6, .int v7, .int (v8 + 1), .int v9, z10, z11]) (st' := []) rfl ?_
      exact hk103 v6 v7 (v8 + 1) I h _ _ _ _ _ _ _ _
    · rw [if_neg c16] at h
      refine xei_ge_f rfl c16 ?_
      refine xeb 1 (pc' := 120) (ls' := [.ref 131, z1, z2, z3, z4, z5, .int v6, .int v7, .int v8, .int v9, z10, z11]) (st' := [.ref 131]) rfl ?_
      refine xegf2 rfl xsh131 (by decide) rfl ?_
      refine xeb 1 (pc' := 125) (ls' := [.ref 131, z1, z2, z3, z4, z5, .int v6, .int v7, .int v8, .int v9, z10, z11]) (st' := [.int v8, .ref 167]) rfl ?_
      obtain ⟨b17, h⟩ := xck_some h
      refine xeia rfl xsh167 b17 ?_
      refine xeb 1 (pc' := 129) (ls' := [.ref 131, z1, z2, z3, z4, z5, .int v6, .int v7, .int v8, .int v9, z10, z11]) (st' := [.int 99999, .int (I 167 (xN v8))]) rfl ?_
      by_cases c18 : 99999 ≤ (I 167 (xN v8))
      · rw [if_pos c18] at h
        refine xei_ge_t rfl c18 ?_
        refine xeb 2 (pc' := 103) (ls' := [.ref 131, z1, z2, z3, z4, z5, .int v6, .int v7, .int (v8 + 1), .int v9, z10, z11]) (st' := []) rfl ?_
        exact hk103 v6 v7 (v8 + 1) I h _ _ _ _ _ _ _ _
      · rw [if_neg c18] at h
        refine xei_ge_f rfl c18 ?_
        refine xeb 3 (pc' := 137) (ls' := [.ref 131, z1, z2, z3, z4, z5, .int v6, .int v7, .int v8, .int v9, z10, z11]) (st' := [.int v9, .int v8, .ref 131]) rfl ?_
        obtain ⟨q19, eq19, h⟩ := xbind_some h
        refine xcallV rfl xsh131 rfl rfl rfl (Nat.le_of_ble_eq_true rfl) (Nat.le_of_ble_eq_true rfl) (Nat.le_of_ble_eq_true rfl) rfl (g_M_overTo (d := d + 1) _ eq19) ?_
        refine xeb 2 (pc' := 144) (ls' := [.ref 131, z1, z2, z3, z4, z5, .int v6, .int v7, .int v8, .int v9, .int q19, z11]) (st' := [.int q19]) rfl ?_
        by_cases c20 : q19 < 0
        · rw [if_pos c20] at h
          refine xef_lt_t rfl c20 ?_
          refine xeb 2 (pc' := 113) (ls' := [.ref 131, z1, z2, z3, z4, z5, .int v6, .int v7, .int v8, .int (v9 + 1), .int q19, z11]) (st' := []) rfl ?_
          exact ih v6 v7 v8 (v9 + 1) I h _ _ _ _ _ _ _
        · rw [if_neg c20] at h
          refine xef_lt_f rfl c20 ?_
          refine xeb 2 (pc' := 150) (ls' := [.ref 131, z1, z2, z3, z4, z5, .int v6, .int v7, .int v8, .int v9, .int q19, z11]) (st' := [.int q19, .ref 131]) rfl ?_
          obtain ⟨q21, eq21, h⟩ := xbind_some h
          refine xcallV rfl xsh131 rfl rfl rfl (Nat.le_of_ble_eq_true rfl) (Nat.le_of_ble_eq_true rfl) (Nat.le_of_ble_eq_true rfl) rfl (g_M_isHole (d := d + 2) _ eq21) ?_
          by_cases c22 : q21 = 0
          · rw [if_pos c22] at h
            refine xef_ne_t rfl c22 ?_
            refine xeb 3 (pc' := 161) (ls' := [.ref 131, z1, z2, z3, z4, z5, .int v6, .int v7, .int v8, .int v9, .int q19, z11]) (st' := [.int v9, .int v8, .ref 131]) rfl ?_
            obtain ⟨q23, eq23, h⟩ := xbind_some h
            refine xcallV rfl xsh131 rfl rfl rfl (Nat.le_of_ble_eq_true rfl) (Nat.le_of_ble_eq_true rfl) (Nat.le_of_ble_eq_true rfl) rfl (g_M_doFit (d := d + 0) _ eq23) ?_
            by_cases c24 : q23 = 0
            · rw [if_pos c24] at h
              refine xef_ne_t rfl c24 ?_
              refine xeb 3 (pc' := 113) (ls' := [.ref 131, z1, z2, z3, z4, z5, .int v6, .int v7, .int v8, .int (v9 + 1), .int q19, z11]) (st' := []) rfl ?_
              exact ih v6 v7 v8 (v9 + 1) I h _ _ _ _ _ _ _
            · rw [if_neg c24] at h
              refine xef_ne_f rfl c24 ?_
              refine xeb 1 (pc' := 171) (ls' := [.ref 131, z1, z2, z3, z4, z5, .int v6, .int v7, .int v8, .int v9, .int q19, z11]) (st' := [.ref 131]) rfl ?_
              refine xegf2 rfl xsh131 (by decide) rfl ?_
              refine xeb 1 (pc' := 176) (ls' := [.ref 131, z1, z2, z3, z4, z5, .int v6, .int v7, .int v8, .int v9, .int q19, z11]) (st' := [.int v8, .ref 167]) rfl ?_
              obtain ⟨b25, h⟩ := xck_some h
              refine xeia rfl xsh167 b25 ?_
              refine xeb 2 (pc' := 180) (ls' := [.ref 131, z1, z2, z3, z4, z5, .int v6, .int v7, .int v8, .int v9, .int q19, z11]) (st' := [.int q19, .ref 131, .int (I 167 (xN v8))]) rfl ?_
              obtain ⟨q26, eq26, h⟩ := xbind_some h
              refine xcallV rfl xsh131 rfl rfl rfl (Nat.le_of_ble_eq_true rfl) (Nat.le_of_ble_eq_true rfl) (Nat.le_of_ble_eq_true rfl) rfl (g_M_doesLie (d := d + 3) _ eq26) ?_
              have hj : xEv X (d + 4) 237 191 [.ref 131, z1, z2, z3, z4, z5, .int v6, .int v7, .int v8, .int v9, .int q19, z11] [.int (if q26 = 0 then 1 else 0), .int (I 167 (xN v8))] I L (some (.int r.1)) r.2 L := by
                exact g_M_more_191 (fun v6 v7 v8 v9 I h' z1 z2 z3 z4 z5 z10 z11 => ih v6 v7 v8 v9 I h' z1 z2 z3 z4 z5 z10 z11) h _ _ _ _ _ _
              by_cases c27 : q26 = 0
              · simp only [if_pos c27] at hj
                refine xef_eq_t rfl c27 ?_
                exact xeb 1 rfl hj
              · simp only [if_neg c27] at hj
                refine xef_eq_f rfl c27 ?_
                exact xeb 2 rfl hj
          · rw [if_neg c22] at h
            refine xef_ne_f rfl c22 ?_
            refine xeb 2 (pc' := 113) (ls' := [.ref 131, z1, z2, z3, z4, z5, .int v6, .int v7, .int v8, .int (v9 + 1), .int q19, z11]) (st' := []) rfl ?_
            exact ih v6 v7 v8 (v9 + 1) I h _ _ _ _ _ _ _
noncomputable def f_M_more_103 (F : Nat) (k92 : Int32 → Int32 → XI → Option (Int32 × XI)) : Nat → Int32 → Int32 → Int32 → XI → Option (Int32 × XI)
  | 0, _, _, _, _ => none
  | n + 1, v6, v7, v8, I =>
    if 30 ≤ v8 then (k92 v6 v7 I) else (f_M_more_113 F (fun v6 v7 v8 I => f_M_more_103 F k92 n v6 v7 v8 I) F v6 v7 v8 0 I)
theorem g_M_more_103 {X : XX} {d : Nat} {L : XL} {F : Nat} {k92 : Int32 → Int32 → XI → Option (Int32 × XI)}  {r : Int32 × XI} (hk92 : ∀ (v6 : Int32) (v7 : Int32) (I : XI), k92 v6 v7 I = some r → ∀ (z1 : Value) (z2 : Value) (z3 : Value) (z4 : Value) (z5 : Value) (z8 : Value) (z9 : Value) (z10 : Value) (z11 : Value), xEv X (d + 4) 237 92 [.ref 131, z1, z2, z3, z4, z5, .int v6, .int v7, z8, z9, z10, z11] [] I L (some (.int r.1)) r.2 L) : ∀ (n : Nat) (v6 : Int32) (v7 : Int32) (v8 : Int32) (I : XI), f_M_more_103 F k92 n v6 v7 v8 I = some r → ∀ (z1 : Value) (z2 : Value) (z3 : Value) (z4 : Value) (z5 : Value) (z9 : Value) (z10 : Value) (z11 : Value), xEv X (d + 4) 237 103 [.ref 131, z1, z2, z3, z4, z5, .int v6, .int v7, .int v8, z9, z10, z11] [] I L (some (.int r.1)) r.2 L := by
  intro n
  induction n with
  | zero => intro v6 v7 v8 I h; rw [f_M_more_103] at h; cases h
  | succ n ih =>
    intro v6 v7 v8 I h z1 z2 z3 z4 z5 z9 z10 z11
    rw [f_M_more_103] at h
    refine xeb 2 (pc' := 107) (ls' := [.ref 131, z1, z2, z3, z4, z5, .int v6, .int v7, .int v8, z9, z10, z11]) (st' := [.int 30, .int v8]) rfl ?_
    by_cases c15 : 30 ≤ v8
    · rw [if_pos c15] at h
      refine xei_ge_t rfl c15 ?_
      refine xeb 1 (pc' := 92) (ls' := [.ref 131, z1, z2, z3, z4, z5, .int v6, .int v7, .int v8, z9, z10, z11]) (st' := []) rfl ?_
      exact hk92 v6 v7 I h _ _ _ _ _ _ _ _ _
    · rw [if_neg c15] at h
      refine xei_ge_f rfl c15 ?_
      refine xeb 2 (pc' := 113) (ls' := [.ref 131, z1, z2, z3, z4, z5, .int v6, .int v7, .int v8, .int 0, z10, z11]) (st' := []) rfl ?_
      exact g_M_more_113 (fun v6 v7 v8 I h' z1 z2 z3 z4 z5 z9 z10 z11 => ih v6 v7 v8 I h' z1 z2 z3 z4 z5 z9 z10 z11) F v6 v7 v8 0 I h _ _ _ _ _ _ _
noncomputable def f_M_more_92 (F : Nat) : Nat → Int32 → Int32 → XI → Option (Int32 × XI)
  | 0, _, _, _ => none
  | n + 1, v6, v7, I =>
    if v7 = 0 then (xck (xin v6 30) (if (I 167 (xN v6)) < 99999 then (xck (xin v6 30) (some ((I 167 (xN v6)), I))) else (some ((-2), I)))) else (f_M_more_103 F (fun v6 v7 I => f_M_more_92 F n v6 v7 I) F v6 0 0 I)
theorem g_M_more_92 {X : XX} {d : Nat} {L : XL} {F : Nat}  {r : Int32 × XI}  : ∀ (n : Nat) (v6 : Int32) (v7 : Int32) (I : XI), f_M_more_92 F n v6 v7 I = some r → ∀ (z1 : Value) (z2 : Value) (z3 : Value) (z4 : Value) (z5 : Value) (z8 : Value) (z9 : Value) (z10 : Value) (z11 : Value), xEv X (d + 4) 237 92 [.ref 131, z1, z2, z3, z4, z5, .int v6, .int v7, z8, z9, z10, z11] [] I L (some (.int r.1)) r.2 L := by
  intro n
  induction n with
  | zero => intro v6 v7 I h; rw [f_M_more_92] at h; cases h
  | succ n ih =>
    intro v6 v7 I h z1 z2 z3 z4 z5 z8 z9 z10 z11
    rw [f_M_more_92] at h
    refine xeb 1 (pc' := 94) (ls' := [.ref 131, z1, z2, z3, z4, z5, .int v6, .int v7, z8, z9, z10, z11]) (st' := [.int v7]) rfl ?_
    by_cases c11 : v7 = 0
    · rw [if_pos c11] at h
      refine xef_eq_t rfl c11 ?_
      refine xeb 1 (pc' := 237) (ls' := [.ref 131, z1, z2, z3, z4, z5, .int v6, .int v7, z8, z9, z10, z11]) (st' := [.ref 131]) rfl ?_
      refine xegf2 rfl xsh131 (by decide) rfl ?_
      refine xeb 1 (pc' := 242) (ls' := [.ref 131, z1, z2, z3, z4, z5, .int v6, .int v7, z8, z9, z10, z11]) (st' := [.int v6, .ref 167]) rfl ?_
      obtain ⟨b12, h⟩ := xck_some h
      refine xeia rfl xsh167 b12 ?_
      refine xeb 1 (pc' := 246) (ls' := [.ref 131, z1, z2, z3, z4, z5, .int v6, .int v7, z8, z9, z10, z11]) (st' := [.int 99999, .int (I 167 (xN v6))]) rfl ?_
      by_cases c13 : (I 167 (xN v6)) < 99999
      · rw [if_pos c13] at h
        refine xei_lt_t rfl c13 ?_
        refine xeb 1 (pc' := 255) (ls' := [.ref 131, z1, z2, z3, z4, z5, .int v6, .int v7, z8, z9, z10, z11]) (st' := [.ref 131]) rfl ?_
        refine xegf2 rfl xsh131 (by decide) rfl ?_
        refine xeb 1 (pc' := 260) (ls' := [.ref 131, z1, z2, z3, z4, z5, .int v6, .int v7, z8, z9, z10, z11]) (st' := [.int v6, .ref 167]) rfl ?_
        obtain ⟨b14, h⟩ := xck_some h
        refine xeia rfl xsh167 b14 ?_
        obtain rfl := Option.some.inj h
        exact xeiret rfl rfl
      · rw [if_neg c13] at h
        refine xei_lt_f rfl c13 ?_
        refine xeb 2 (pc' := 261) (ls' := [.ref 131, z1, z2, z3, z4, z5, .int v6, .int v7, z8, z9, z10, z11]) (st' := [.int (-2)]) rfl ?_
        obtain rfl := Option.some.inj h
        exact xeiret rfl rfl
    · rw [if_neg c11] at h
      refine xef_eq_f rfl c11 ?_
      refine xeb 4 (pc' := 103) (ls' := [.ref 131, z1, z2, z3, z4, z5, .int v6, .int 0, .int 0, z9, z10, z11]) (st' := []) rfl ?_
      exact g_M_more_103 (fun v6 v7 I h' z1 z2 z3 z4 z5 z8 z9 z10 z11 => ih v6 v7 I h' z1 z2 z3 z4 z5 z8 z9 z10 z11) F v6 0 0 I h _ _ _ _ _ _ _ _
noncomputable def f_M_more_88 (F : Nat) (v6 : Int32) (s1 : Int32) (s2 : Int32) (I : XI) : Option (Int32 × XI) :=
  xck (xin s1 30) (xst (xput I 167 (xN s1) s2) fun I10 => f_M_more_92 F F v6 1 I10)
theorem g_M_more_88 {X : XX} {d : Nat} {L : XL} {F : Nat}  {r : Int32 × XI}  {v6 : Int32} {s1 : Int32} {s2 : Int32} {I : XI} (h : f_M_more_88 F v6 s1 s2 I = some r) (z1 : Value) (z2 : Value) (z3 : Value) (z4 : Value) (z5 : Value) (z7 : Value) (z8 : Value) (z9 : Value) (z10 : Value) (z11 : Value) : xEv X (d + 4) 237 88 [.ref 131, z1, z2, z3, z4, z5, .int v6, z7, z8, z9, z10, z11] [.int s2, .int s1, .ref 167] I L (some (.int r.1)) r.2 L := by
  rw [f_M_more_88] at h
  obtain ⟨b9, h⟩ := xck_some h
  refine xeis rfl xsh167 b9 ?_
  obtain ⟨I10, hI10, h⟩ := xst_some h
  rw [← hI10]
  refine xeb 2 (pc' := 92) (ls' := [.ref 131, z1, z2, z3, z4, z5, .int v6, .int 1, z8, z9, z10, z11]) (st' := []) rfl ?_
  exact g_M_more_92 F v6 1 I10 h _ _ _ _ _ _ _ _ _
noncomputable def f_M_more_45 (F : Nat) : Nat → Int32 → Int32 → Int32 → XI → Option (Int32 × XI)
  | 0, _, _, _, _ => none
  | n + 1, v5, v6, v7, I =>
    if 30 ≤ v7 then ((f_M_doesLie I v5).bind fun q7 => f_M_more_88 F v6 v5 (if q7 = 0 then 1 else 0) I) else (xck (xin v7 30) (xst (xput I 167 (xN v7) 99999) fun I33 => f_M_more_45 F n v5 v6 (v7 + 1) I33))
theorem g_M_more_45 {X : XX} {d : Nat} {L : XL} {F : Nat}  {r : Int32 × XI}  : ∀ (n : Nat) (v5 : Int32) (v6 : Int32) (v7 : Int32) (I : XI), f_M_more_45 F n v5 v6 v7 I = some r → ∀ (z1 : Value) (z2 : Value) (z3 : Value) (z4 : Value) (z8 : Value) (z9 : Value) (z10 : Value) (z11 : Value), xEv X (d + 4) 237 45 [.ref 131, z1, z2, z3, z4, .int v5, .int v6, .int v7, z8, z9, z10, z11] [] I L (some (.int r.1)) r.2 L := by
  intro n
  induction n with
  | zero => intro v5 v6 v7 I h; rw [f_M_more_45] at h; cases h
  | succ n ih =>
    intro v5 v6 v7 I h z1 z2 z3 z4 z8 z9 z10 z11
    rw [f_M_more_45] at h
    refine xeb 2 (pc' := 49) (ls' := [.ref 131, z1, z2, z3, z4, .int v5, .int v6, .int v7, z8, z9, z10, z11]) (st' := [.int 30, .int v7]) rfl ?_
    by_cases c6 : 30 ≤ v7
    · rw [if_pos c6] at h
      refine xei_ge_t rfl c6 ?_
      refine xeb 1 (pc' := 69) (ls' := [.ref 131, z1, z2, z3, z4, .int v5, .int v6, .int v7, z8, z9, z10, z11]) (st' := [.ref 131]) rfl ?_
      refine xegf2 rfl xsh131 (by decide) rfl ?_
      refine xeb 3 (pc' := 77) (ls' := [.ref 131, z1, z2, z3, z4, .int v5, .int v6, .int v7, z8, z9, z10, z11]) (st' := [.int v5, .ref 131, .int v5, .ref 167]) rfl ?_
      obtain ⟨q7, eq7, h⟩ := xbind_some h
      refine xcallV rfl xsh131 rfl rfl rfl (Nat.le_of_ble_eq_true rfl) (Nat.le_of_ble_eq_true rfl) (Nat.le_of_ble_eq_true rfl) rfl (g_M_doesLie (d := d + 3) _ eq7) ?_
      have hj : xEv X (d + 4) 237 88 [.ref 131, z1, z2, z3, z4, .int v5, .int v6, .int v7, z8, z9, z10, z11] [.int (if q7 = 0 then 1 else 0), .int v5, .ref 167] I L (some (.int r.1)) r.2 L := by
        exact g_M_more_88 h _ _ _ _ _ _ _ _ _ _
      by_cases c8 : q7 = 0
      · simp only [if_pos c8] at hj
        refine xef_eq_t rfl c8 ?_
        exact xeb 1 rfl hj
      · simp only [if_neg c8] at hj
        refine xef_eq_f rfl c8 ?_
        exact xeb 2 rfl hj
    · rw [if_neg c6] at h
      refine xei_ge_f rfl c6 ?_
      refine xeb 1 (pc' := 53) (ls' := [.ref 131, z1, z2, z3, z4, .int v5, .int v6, .int v7, z8, z9, z10, z11]) (st' := [.ref 131]) rfl ?_
      refine xegf2 rfl xsh131 (by decide) rfl ?_
      refine xeb 2 (pc' := 61) (ls' := [.ref 131, z1, z2, z3, z4, .int v5, .int v6, .int v7, z8, z9, z10, z11]) (st' := [.int 99999, .int v7, .ref 167]) rfl ?_
      obtain ⟨b32, h⟩ := xck_some h
      refine xeis rfl xsh167 b32 ?_
      obtain ⟨I33, hI33, h⟩ := xst_some h
      rw [← hI33]
      refine xeb 2 (pc' := 45) (ls' := [.ref 131, z1, z2, z3, z4, .int v5, .int v6, .int (v7 + 1), z8, z9, z10, z11]) (st' := []) rfl ?_
      exact ih v5 v6 (v7 + 1) I33 h _ _ _ _ _ _ _ _
noncomputable def f_M_more (F : Nat) (a1 : Int32) (a2 : Int32) (a3 : Int32) (a4 : Int32) (I : XI) : Option (Int32 × XI) :=
  (f_M_isPiece I a1 a2).bind fun q1 => if q1 = 0 then (some ((-1), I)) else ((f_M_isPiece I a3 a4).bind fun q3 => if q3 = 0 then (some ((-1), I)) else ((f_M_copies F I).bind fun q5 => f_M_more_45 F F ((6 * a2) + a1) ((6 * a4) + a3) 0 q5))
theorem g_M_more {X : XX} {d : Nat} {L : XL} {F : Nat} {a1 : Int32} {a2 : Int32} {a3 : Int32} {a4 : Int32} {I : XI}  (r : Int32 × XI) (h : f_M_more F a1 a2 a3 a4 I = some r) : xEv X (d + 4) 237 0 [.ref 131, .int a1, .int a2, .int a3, .int a4, .null, .null, .null, .null, .null, .null, .null] [] I L (some (.int r.1)) r.2 L := by
  rw [f_M_more] at h
  refine xeb 3 (pc' := 3) (ls' := [.ref 131, .int a1, .int a2, .int a3, .int a4, .null, .null, .null, .null, .null, .null, .null]) (st' := [.int a2, .int a1, .ref 131]) rfl ?_
  obtain ⟨q1, eq1, h⟩ := xbind_some h
  refine xcallV rfl xsh131 rfl rfl rfl (Nat.le_of_ble_eq_true rfl) (Nat.le_of_ble_eq_true rfl) (Nat.le_of_ble_eq_true rfl) rfl (g_M_isPiece (d := d + 1) _ eq1) ?_
  by_cases c2 : q1 = 0
  · rw [if_pos c2] at h
    refine xef_eq_t rfl c2 ?_
    refine xeb 1 (pc' := 20) (ls' := [.ref 131, .int a1, .int a2, .int a3, .int a4, .null, .null, .null, .null, .null, .null, .null]) (st' := [.int (-1)]) rfl ?_
    obtain rfl := Option.some.inj h
    exact xeiret rfl rfl
  · rw [if_neg c2] at h
    refine xef_eq_f rfl c2 ?_
    refine xeb 3 (pc' := 13) (ls' := [.ref 131, .int a1, .int a2, .int a3, .int a4, .null, .null, .null, .null, .null, .null, .null]) (st' := [.int a4, .int a3, .ref 131]) rfl ?_
    obtain ⟨q3, eq3, h⟩ := xbind_some h
    refine xcallV rfl xsh131 rfl rfl rfl (Nat.le_of_ble_eq_true rfl) (Nat.le_of_ble_eq_true rfl) (Nat.le_of_ble_eq_true rfl) rfl (g_M_isPiece (d := d + 1) _ eq3) ?_
    by_cases c4 : q3 = 0
    · rw [if_pos c4] at h
      refine xef_ne_t rfl c4 ?_
      refine xeb 1 (pc' := 20) (ls' := [.ref 131, .int a1, .int a2, .int a3, .int a4, .null, .null, .null, .null, .null, .null, .null]) (st' := [.int (-1)]) rfl ?_
      obtain rfl := Option.some.inj h
      exact xeiret rfl rfl
    · rw [if_neg c4] at h
      refine xef_ne_f rfl c4 ?_
      refine xeb 1 (pc' := 22) (ls' := [.ref 131, .int a1, .int a2, .int a3, .int a4, .null, .null, .null, .null, .null, .null, .null]) (st' := [.ref 131]) rfl ?_
      obtain ⟨q5, eq5, h⟩ := xbind_some h
      refine xcallV rfl xsh131 rfl rfl rfl (Nat.le_of_ble_eq_true rfl) (Nat.le_of_ble_eq_true rfl) (Nat.le_of_ble_eq_true rfl) rfl (g_M_copies (d := d + 3) _ eq5) ?_
      refine xeb 14 (pc' := 45) (ls' := [.ref 131, .int a1, .int a2, .int a3, .int a4, .int ((6 * a2) + a1), .int ((6 * a4) + a3), .int 0, .null, .null, .null, .null]) (st' := []) rfl ?_
      exact g_M_more_45 F ((6 * a2) + a1) ((6 * a4) + a3) 0 q5 h _ _ _ _ _ _ _ _
noncomputable def f_Paths_goOverCell_56 (F : Nat) : Nat → Int32 → Int32 → Int32 → Int32 → XI → Option (XI)
  | 0, _, _, _, _, _ => none
  | n + 1, v1, v2, v3, v4, I =>
    if 64 ≤ v4 then (xck (decide (¬ (0 : Int32) < 0 ∧ ¬ (0 : Int32) < 0 ∧ ¬ (64 : Int32) < 0 ∧ xN 0 + xN 64 ≤ 64 ∧ xN 0 + xN 64 ≤ 64)) (xst (xrow I 35 (va_cpy (I 36) (I 35) (xN 0) (xN 0) (xN 64))) fun I8 => some I8)) else (xck (xin v4 64) (if (I 35 (xN v4)) = (-1) then (f_Paths_goOverCell_56 F n v1 v2 v3 (v4 + 1) I) else (xck (xin (v4 &&& (v2 ^^^ (-1))) 64) (xck (xin v4 64) (xck (xin (v4 &&& (v2 ^^^ (-1))) 64) (xst (xput I 36 (xN (v4 &&& (v2 ^^^ (-1)))) (if (I 36 (xN (v4 &&& (v2 ^^^ (-1))))) < (I 35 (xN v4)) then (I 35 (xN v4)) else (I 36 (xN (v4 &&& (v2 ^^^ (-1))))))) fun I14 => (f_Table_isPiece 17 I14 v1).bind fun q15 => if q15 = 0 then (f_Paths_goOverCell_56 F n v1 v2 v3 (v4 + 1) I14) else (if (v4 &&& v3) = 0 then (xck (xin (v4 ||| v2) 64) (xck (xin v4 64) (xck (xin (v4 ||| v2) 64) (xst (xput I14 36 (xN (v4 ||| v2)) (if (I14 36 (xN (v4 ||| v2))) < ((I14 35 (xN v4)) + 1) then ((I14 35 (xN v4)) + 1) else (I14 36 (xN (v4 ||| v2))))) fun I21 => f_Paths_goOverCell_56 F n v1 v2 v3 (v4 + 1) I21)))) else (f_Paths_goOverCell_56 F n v1 v2 v3 (v4 + 1) I14))))))))
theorem g_Paths_goOverCell_56 {X : XX} {d : Nat} {L : XL} {F : Nat}  {r : XI}  : ∀ (n : Nat) (v1 : Int32) (v2 : Int32) (v3 : Int32) (v4 : Int32) (I : XI), f_Paths_goOverCell_56 F n v1 v2 v3 v4 I = some r → xEv X (d + 2) 238 56 [.ref 33, .int v1, .int v2, .int v3, .int v4] [] I L none r L := by
  intro n
  induction n with
  | zero => intro v1 v2 v3 v4 I h; rw [f_Paths_goOverCell_56] at h; cases h
  | succ n ih =>
    intro v1 v2 v3 v4 I h 
    rw [f_Paths_goOverCell_56] at h
    refine xeb 2 (pc' := 60) (ls' := [.ref 33, .int v1, .int v2, .int v3, .int v4]) (st' := [.int 64, .int v4]) rfl ?_
    by_cases c6 : 64 ≤ v4
    · rw [if_pos c6] at h
      refine xei_ge_t rfl c6 ?_
      refine xeb 1 (pc' := 161) (ls' := [.ref 33, .int v1, .int v2, .int v3, .int v4]) (st' := [.ref 33]) rfl ?_
      refine xegf2 rfl xsh33 (by decide) rfl ?_
      refine xeb 2 (pc' := 166) (ls' := [.ref 33, .int v1, .int v2, .int v3, .int v4]) (st' := [.ref 33, .int 0, .ref 36]) rfl ?_
      refine xegf2 rfl xsh33 (by decide) rfl ?_
      refine xeb 2 (pc' := 172) (ls' := [.ref 33, .int v1, .int v2, .int v3, .int v4]) (st' := [.int 64, .int 0, .ref 35, .int 0, .ref 36]) rfl ?_
      obtain ⟨b7, h⟩ := xck_some h
      refine xecpy rfl xsh36 xsh35 (of_decide_eq_true b7) (Nat.le_of_ble_eq_true rfl) ?_
      obtain ⟨I8, hI8, h⟩ := xst_some h
      rw [← hI8]
      obtain rfl := Option.some.inj h
      exact xevret rfl
    · rw [if_neg c6] at h
      refine xei_ge_f rfl c6 ?_
      refine xeb 1 (pc' := 64) (ls' := [.ref 33, .int v1, .int v2, .int v3, .int v4]) (st' := [.ref 33]) rfl ?_
      refine xegf2 rfl xsh33 (by decide) rfl ?_
      refine xeb 1 (pc' := 69) (ls' := [.ref 33, .int v1, .int v2, .int v3, .int v4]) (st' := [.int v4, .ref 35]) rfl ?_
      obtain ⟨b9, h⟩ := xck_some h
      refine xeia rfl xsh35 b9 ?_
      refine xeb 1 (pc' := 71) (ls' := [.ref 33, .int v1, .int v2, .int v3, .int v4]) (st' := [.int (-1), .int (I 35 (xN v4))]) rfl ?_
      by_cases c10 : (I 35 (xN v4)) = (-1)
      · rw [if_pos c10] at h
        refine xei_eq_t rfl c10 ?_
        refine xeb 2 (pc' := 56) (ls' := [.ref 33, .int v1, .int v2, .int v3, .int (v4 + 1)]) (st' := []) rfl ?_
        exact ih v1 v2 v3 (v4 + 1) I h
      · rw [if_neg c10] at h
        refine xei_eq_f rfl c10 ?_
        refine xeb 1 (pc' := 75) (ls' := [.ref 33, .int v1, .int v2, .int v3, .int v4]) (st' := [.ref 33]) rfl ?_
        refine xegf2 rfl xsh33 (by decide) rfl ?_
        refine xeb 6 (pc' := 85) (ls' := [.ref 33, .int v1, .int v2, .int v3, .int v4]) (st' := [.ref 33, .int (v4 &&& (v2 ^^^ (-1))), .ref 36]) rfl ?_
        refine xegf2 rfl xsh33 (by decide) rfl ?_
        refine xeb 5 (pc' := 94) (ls' := [.ref 33, .int v1, .int v2, .int v3, .int v4]) (st' := [.int (v4 &&& (v2 ^^^ (-1))), .ref 36, .int (v4 &&& (v2 ^^^ (-1))), .ref 36]) rfl ?_
        obtain ⟨b11, h⟩ := xck_some h
        refine xeia rfl xsh36 b11 ?_
        refine xeb 1 (pc' := 96) (ls' := [.ref 33, .int v1, .int v2, .int v3, .int v4]) (st' := [.ref 33, .int (I 36 (xN (v4 &&& (v2 ^^^ (-1))))), .int (v4 &&& (v2 ^^^ (-1))), .ref 36]) rfl ?_
        refine xegf2 rfl xsh33 (by decide) rfl ?_
        refine xeb 1 (pc' := 101) (ls' := [.ref 33, .int v1, .int v2, .int v3, .int v4]) (st' := [.int v4, .ref 35, .int (I 36 (xN (v4 &&& (v2 ^^^ (-1))))), .int (v4 &&& (v2 ^^^ (-1))), .ref 36]) rfl ?_
        obtain ⟨b12, h⟩ := xck_some h
        refine xeia rfl xsh35 b12 ?_
        refine xemax rfl (Nat.le_of_ble_eq_true rfl) ?_
        obtain ⟨b13, h⟩ := xck_some h
        refine xeis rfl xsh36 b13 ?_
        obtain ⟨I14, hI14, h⟩ := xst_some h
        rw [← hI14]
        refine xeb 1 (pc' := 107) (ls' := [.ref 33, .int v1, .int v2, .int v3, .int v4]) (st' := [.ref 33]) rfl ?_
        refine xegf2 rfl xsh33 (by decide) rfl ?_
        refine xeb 1 (pc' := 111) (ls' := [.ref 33, .int v1, .int v2, .int v3, .int v4]) (st' := [.int v1, .ref 17]) rfl ?_
        obtain ⟨q15, eq15, h⟩ := xbind_some h
        refine xcallV rfl xsh17 rfl rfl rfl (Nat.le_of_ble_eq_true rfl) (Nat.le_of_ble_eq_true rfl) (Nat.le_of_ble_eq_true rfl) rfl (g_Table_isPiece (d := d + 1) xis17 _ eq15) ?_
        by_cases c16 : q15 = 0
        · rw [if_pos c16] at h
          refine xef_eq_t rfl c16 ?_
          refine xeb 2 (pc' := 56) (ls' := [.ref 33, .int v1, .int v2, .int v3, .int (v4 + 1)]) (st' := []) rfl ?_
          exact ih v1 v2 v3 (v4 + 1) I14 h
        · rw [if_neg c16] at h
          refine xef_eq_f rfl c16 ?_
          refine xeb 3 (pc' := 121) (ls' := [.ref 33, .int v1, .int v2, .int v3, .int v4]) (st' := [.int (v4 &&& v3)]) rfl ?_
          by_cases c17 : (v4 &&& v3) = 0
          · rw [if_pos c17] at h
            refine xef_ne_t rfl c17 ?_
            refine xeb 1 (pc' := 125) (ls' := [.ref 33, .int v1, .int v2, .int v3, .int v4]) (st' := [.ref 33]) rfl ?_
            refine xegf2 rfl xsh33 (by decide) rfl ?_
            refine xeb 4 (pc' := 133) (ls' := [.ref 33, .int v1, .int v2, .int v3, .int v4]) (st' := [.ref 33, .int (v4 ||| v2), .ref 36]) rfl ?_
            refine xegf2 rfl xsh33 (by decide) rfl ?_
            refine xeb 3 (pc' := 140) (ls' := [.ref 33, .int v1, .int v2, .int v3, .int v4]) (st' := [.int (v4 ||| v2), .ref 36, .int (v4 ||| v2), .ref 36]) rfl ?_
            obtain ⟨b18, h⟩ := xck_some h
            refine xeia rfl xsh36 b18 ?_
            refine xeb 1 (pc' := 142) (ls' := [.ref 33, .int v1, .int v2, .int v3, .int v4]) (st' := [.ref 33, .int (I14 36 (xN (v4 ||| v2))), .int (v4 ||| v2), .ref 36]) rfl ?_
            refine xegf2 rfl xsh33 (by decide) rfl ?_
            refine xeb 1 (pc' := 147) (ls' := [.ref 33, .int v1, .int v2, .int v3, .int v4]) (st' := [.int v4, .ref 35, .int (I14 36 (xN (v4 ||| v2))), .int (v4 ||| v2), .ref 36]) rfl ?_
            obtain ⟨b19, h⟩ := xck_some h
            refine xeia rfl xsh35 b19 ?_
            refine xeb 2 (pc' := 150) (ls' := [.ref 33, .int v1, .int v2, .int v3, .int v4]) (st' := [.int ((I14 35 (xN v4)) + 1), .int (I14 36 (xN (v4 ||| v2))), .int (v4 ||| v2), .ref 36]) rfl ?_
            refine xemax rfl (Nat.le_of_ble_eq_true rfl) ?_
            obtain ⟨b20, h⟩ := xck_some h
            refine xeis rfl xsh36 b20 ?_
            obtain ⟨I21, hI21, h⟩ := xst_some h
            rw [← hI21]
            refine xeb 2 (pc' := 56) (ls' := [.ref 33, .int v1, .int v2, .int v3, .int (v4 + 1)]) (st' := []) rfl ?_
            exact ih v1 v2 v3 (v4 + 1) I21 h
          · rw [if_neg c17] at h
            refine xef_ne_f rfl c17 ?_
            refine xeb 2 (pc' := 56) (ls' := [.ref 33, .int v1, .int v2, .int v3, .int (v4 + 1)]) (st' := []) rfl ?_
            exact ih v1 v2 v3 (v4 + 1) I14 h
noncomputable def f_Paths_goOverCell_43 (F : Nat) (v1 : Int32) (v2 : Int32) (s0 : Int32) (s1 : Int32) (I : XI) : Option (XI) :=
  (f_Arrays_fill F 36 64 (-1) I).bind fun q5 => f_Paths_goOverCell_56 F F v1 v2 (s0 ||| s1) 0 q5
theorem g_Paths_goOverCell_43 {X : XX} {d : Nat} {L : XL} {F : Nat}  {r : XI}  {v1 : Int32} {v2 : Int32} {s0 : Int32} {s1 : Int32} {I : XI} (h : f_Paths_goOverCell_43 F v1 v2 s0 s1 I = some r) (z3 : Value) (z4 : Value) : xEv X (d + 2) 238 43 [.ref 33, .int v1, .int v2, z3, z4] [.int s1, .int s0] I L none r L := by
  rw [f_Paths_goOverCell_43] at h
  refine xeb 3 (pc' := 46) (ls' := [.ref 33, .int v1, .int v2, .int (s0 ||| s1), z4]) (st' := [.ref 33]) rfl ?_
  refine xegf2 rfl xsh33 (by decide) rfl ?_
  refine xeb 1 (pc' := 50) (ls' := [.ref 33, .int v1, .int v2, .int (s0 ||| s1), z4]) (st' := [.int (-1), .ref 36]) rfl ?_
  obtain ⟨q5, eq5, h⟩ := xbind_some h
  refine xcallS20 rfl rfl rfl (Nat.le_of_ble_eq_true rfl) (Nat.le_of_ble_eq_true rfl) (Nat.le_of_ble_eq_true rfl) rfl (g_Arrays_fill (d := d + 1) xsh36 _ eq5) ?_
  refine xeb 2 (pc' := 56) (ls' := [.ref 33, .int v1, .int v2, .int (s0 ||| s1), .int 0]) (st' := []) rfl ?_
  exact g_Paths_goOverCell_56 F v1 v2 (s0 ||| s1) 0 q5 h
noncomputable def f_Paths_goOverCell_26 (F : Nat) (v1 : Int32) (v2 : Int32) (s0 : Int32) (I : XI) : Option (XI) :=
  (f_Table_piecesFit 17 I v1 0).bind fun q3 => f_Paths_goOverCell_43 F v1 v2 s0 (if q3 = 0 then v2 else 0) I
theorem g_Paths_goOverCell_26 {X : XX} {d : Nat} {L : XL} {F : Nat}  {r : XI}  {v1 : Int32} {v2 : Int32} {s0 : Int32} {I : XI} (h : f_Paths_goOverCell_26 F v1 v2 s0 I = some r) (z3 : Value) (z4 : Value) : xEv X (d + 2) 238 26 [.ref 33, .int v1, .int v2, z3, z4] [.int s0] I L none r L := by
  rw [f_Paths_goOverCell_26] at h
  refine xeb 1 (pc' := 27) (ls' := [.ref 33, .int v1, .int v2, z3, z4]) (st' := [.ref 33, .int s0]) rfl ?_
  refine xegf2 rfl xsh33 (by decide) rfl ?_
  refine xeb 2 (pc' := 32) (ls' := [.ref 33, .int v1, .int v2, z3, z4]) (st' := [.int 0, .int v1, .ref 17, .int s0]) rfl ?_
  obtain ⟨q3, eq3, h⟩ := xbind_some h
  refine xcallV rfl xsh17 rfl rfl rfl (Nat.le_of_ble_eq_true rfl) (Nat.le_of_ble_eq_true rfl) (Nat.le_of_ble_eq_true rfl) rfl (g_Table_piecesFit (d := d + 0) xis17 _ eq3) ?_
  have hj : xEv X (d + 2) 238 43 [.ref 33, .int v1, .int v2, z3, z4] [.int (if q3 = 0 then v2 else 0), .int s0] I L none r L := by
    exact g_Paths_goOverCell_43 h _ _
  by_cases c4 : q3 = 0
  · simp only [if_pos c4] at hj
    refine xef_eq_t rfl c4 ?_
    exact xeb 1 rfl hj
  · simp only [if_neg c4] at hj
    refine xef_eq_f rfl c4 ?_
    exact xeb 2 rfl hj
noncomputable def f_Paths_goOverCell (F : Nat) (a1 : Int32) (I : XI) : Option (XI) :=
  (f_Table_piecesFit 17 I a1 3).bind fun q1 => f_Paths_goOverCell_26 F a1 (1 <<< ((a1 - a1 / 6 * 6) &&& 31)) (if q1 = 0 then ((1 <<< ((a1 - a1 / 6 * 6) &&& 31)) >>> (1 &&& 31)) else 0) I
theorem g_Paths_goOverCell {X : XX} {d : Nat} {L : XL} {F : Nat} {a1 : Int32} {I : XI}  (r : XI) (h : f_Paths_goOverCell F a1 I = some r) : xEv X (d + 2) 238 0 [.ref 33, .int a1, .null, .null, .null] [] I L none r L := by
  rw [f_Paths_goOverCell] at h
  refine xeb 7 (pc' := 8) (ls' := [.ref 33, .int a1, .int (1 <<< ((a1 - a1 / 6 * 6) &&& 31)), .null, .null]) (st' := [.ref 33]) rfl ?_
  refine xegf2 rfl xsh33 (by decide) rfl ?_
  refine xeb 2 (pc' := 13) (ls' := [.ref 33, .int a1, .int (1 <<< ((a1 - a1 / 6 * 6) &&& 31)), .null, .null]) (st' := [.int 3, .int a1, .ref 17]) rfl ?_
  obtain ⟨q1, eq1, h⟩ := xbind_some h
  refine xcallV rfl xsh17 rfl rfl rfl (Nat.le_of_ble_eq_true rfl) (Nat.le_of_ble_eq_true rfl) (Nat.le_of_ble_eq_true rfl) rfl (g_Table_piecesFit (d := d + 0) xis17 _ eq1) ?_
  have hj : xEv X (d + 2) 238 26 [.ref 33, .int a1, .int (1 <<< ((a1 - a1 / 6 * 6) &&& 31)), .null, .null] [.int (if q1 = 0 then ((1 <<< ((a1 - a1 / 6 * 6) &&& 31)) >>> (1 &&& 31)) else 0)] I L none r L := by
    exact g_Paths_goOverCell_26 h _ _
  by_cases c2 : q1 = 0
  · simp only [if_pos c2] at hj
    refine xef_eq_t rfl c2 ?_
    exact xeb 3 rfl hj
  · simp only [if_neg c2] at hj
    refine xef_eq_f rfl c2 ?_
    exact xeb 2 rfl hj
noncomputable def f_Paths_mostTogether_38 (F : Nat) : Nat → Int32 → Int32 → XI → Option (Int32 × XI)
  | 0, _, _, _ => none
  | n + 1, v1, v2, I =>
    if 64 ≤ v2 then (some (v1, I)) else (xck (xin v2 64) (f_Paths_mostTogether_38 F n (if v1 < (I 35 (xN v2)) then (I 35 (xN v2)) else v1) (v2 + 1) I))
theorem g_Paths_mostTogether_38 {X : XX} {d : Nat} {L : XL} {F : Nat}  {r : Int32 × XI}  : ∀ (n : Nat) (v1 : Int32) (v2 : Int32) (I : XI), f_Paths_mostTogether_38 F n v1 v2 I = some r → xEv X (d + 3) 239 38 [.ref 33, .int v1, .int v2] [] I L (some (.int r.1)) r.2 L := by
  intro n
  induction n with
  | zero => intro v1 v2 I h; rw [f_Paths_mostTogether_38] at h; cases h
  | succ n ih =>
    intro v1 v2 I h 
    rw [f_Paths_mostTogether_38] at h
    refine xeb 2 (pc' := 41) (ls' := [.ref 33, .int v1, .int v2]) (st' := [.int 64, .int v2]) rfl ?_
    by_cases c5 : 64 ≤ v2
    · rw [if_pos c5] at h
      refine xei_ge_t rfl c5 ?_
      refine xeb 1 (pc' := 62) (ls' := [.ref 33, .int v1, .int v2]) (st' := [.int v1]) rfl ?_
      obtain rfl := Option.some.inj h
      exact xeiret rfl rfl
    · rw [if_neg c5] at h
      refine xei_ge_f rfl c5 ?_
      refine xeb 2 (pc' := 46) (ls' := [.ref 33, .int v1, .int v2]) (st' := [.ref 33, .int v1]) rfl ?_
      refine xegf2 rfl xsh33 (by decide) rfl ?_
      refine xeb 1 (pc' := 50) (ls' := [.ref 33, .int v1, .int v2]) (st' := [.int v2, .ref 35, .int v1]) rfl ?_
      obtain ⟨b6, h⟩ := xck_some h
      refine xeia rfl xsh35 b6 ?_
      refine xemax rfl (Nat.le_of_ble_eq_true rfl) ?_
      refine xeb 3 (pc' := 38) (ls' := [.ref 33, .int (if v1 < (I 35 (xN v2)) then (I 35 (xN v2)) else v1), .int (v2 + 1)]) (st' := []) rfl ?_
      exact ih (if v1 < (I 35 (xN v2)) then (I 35 (xN v2)) else v1) (v2 + 1) I h
noncomputable def f_Paths_mostTogether_17 (F : Nat) : Nat → Int32 → XI → Option (Int32 × XI)
  | 0, _, _ => none
  | n + 1, v1, I =>
    if 30 ≤ v1 then (f_Paths_mostTogether_38 F F 0 0 I) else ((f_Paths_goOverCell F v1 I).bind fun q7 => f_Paths_mostTogether_17 F n (v1 + 1) q7)
theorem g_Paths_mostTogether_17 {X : XX} {d : Nat} {L : XL} {F : Nat}  {r : Int32 × XI}  : ∀ (n : Nat) (v1 : Int32) (I : XI), f_Paths_mostTogether_17 F n v1 I = some r → ∀ (z2 : Value), xEv X (d + 3) 239 17 [.ref 33, .int v1, z2] [] I L (some (.int r.1)) r.2 L := by
  intro n
  induction n with
  | zero => intro v1 I h; rw [f_Paths_mostTogether_17] at h; cases h
  | succ n ih =>
    intro v1 I h z2
    rw [f_Paths_mostTogether_17] at h
    refine xeb 2 (pc' := 20) (ls' := [.ref 33, .int v1, z2]) (st' := [.int 30, .int v1]) rfl ?_
    by_cases c4 : 30 ≤ v1
    · rw [if_pos c4] at h
      refine xei_ge_t rfl c4 ?_
      refine xeb 4 (pc' := 38) (ls' := [.ref 33, .int 0, .int 0]) (st' := []) rfl ?_
      exact g_Paths_mostTogether_38 F 0 0 I h
    · rw [if_neg c4] at h
      refine xei_ge_f rfl c4 ?_
      refine xeb 2 (pc' := 25) (ls' := [.ref 33, .int v1, z2]) (st' := [.int v1, .ref 33]) rfl ?_
      obtain ⟨q7, eq7, h⟩ := xbind_some h
      refine xcallV rfl xsh33 rfl rfl rfl (Nat.le_of_ble_eq_true rfl) (Nat.le_of_ble_eq_true rfl) (Nat.le_of_ble_eq_true rfl) rfl (g_Paths_goOverCell (d := d + 0) _ eq7) ?_
      refine xeb 2 (pc' := 17) (ls' := [.ref 33, .int (v1 + 1), z2]) (st' := []) rfl ?_
      exact ih (v1 + 1) q7 h _
noncomputable def f_Paths_mostTogether (F : Nat) (I : XI) : Option (Int32 × XI) :=
  (f_Arrays_fill F 35 64 (-1) I).bind fun q1 => xck (xin 0 64) (xst (xput q1 35 (xN 0) 0) fun I3 => f_Paths_mostTogether_17 F F 0 I3)
theorem g_Paths_mostTogether {X : XX} {d : Nat} {L : XL} {F : Nat} {I : XI}  (r : Int32 × XI) (h : f_Paths_mostTogether F I = some r) : xEv X (d + 3) 239 0 [.ref 33, .null, .null] [] I L (some (.int r.1)) r.2 L := by
  rw [f_Paths_mostTogether] at h
  refine xeb 1 (pc' := 1) (ls' := [.ref 33, .null, .null]) (st' := [.ref 33]) rfl ?_
  refine xegf2 rfl xsh33 (by decide) rfl ?_
  refine xeb 1 (pc' := 5) (ls' := [.ref 33, .null, .null]) (st' := [.int (-1), .ref 35]) rfl ?_
  obtain ⟨q1, eq1, h⟩ := xbind_some h
  refine xcallS20 rfl rfl rfl (Nat.le_of_ble_eq_true rfl) (Nat.le_of_ble_eq_true rfl) (Nat.le_of_ble_eq_true rfl) rfl (g_Arrays_fill (d := d + 2) xsh35 _ eq1) ?_
  refine xeb 1 (pc' := 9) (ls' := [.ref 33, .null, .null]) (st' := [.ref 33]) rfl ?_
  refine xegf2 rfl xsh33 (by decide) rfl ?_
  refine xeb 2 (pc' := 14) (ls' := [.ref 33, .null, .null]) (st' := [.int 0, .int 0, .ref 35]) rfl ?_
  obtain ⟨b2, h⟩ := xck_some h
  refine xeis rfl xsh35 b2 ?_
  obtain ⟨I3, hI3, h⟩ := xst_some h
  rw [← hI3]
  refine xeb 2 (pc' := 17) (ls' := [.ref 33, .int 0, .null]) (st' := []) rfl ?_
  exact g_Paths_mostTogether_17 F 0 I3 h _
noncomputable def f_H_most (F : Nat) (I : XI) : Option (Int32 × XI) :=
  (f_Paths_mostTogether F I).bind fun q1 => some (q1.1, q1.2)
theorem g_H_most {X : XX} {d : Nat} {L : XL} {F : Nat} {I : XI}  (r : Int32 × XI) (h : f_H_most F I = some r) : xEv X (d + 4) 240 0 [.ref 0] [] I L (some (.int r.1)) r.2 L := by
  rw [f_H_most] at h
  refine xeb 1 (pc' := 1) (ls' := [.ref 0]) (st' := [.ref 0]) rfl ?_
  refine xegf2 rfl xsh0 (by decide) rfl ?_
  obtain ⟨q1, eq1, h⟩ := xbind_some h
  refine xcallV rfl xsh33 rfl rfl rfl (Nat.le_of_ble_eq_true rfl) (Nat.le_of_ble_eq_true rfl) (Nat.le_of_ble_eq_true rfl) rfl (g_Paths_mostTogether (d := d + 0) _ eq1) ?_
  obtain rfl := Option.some.inj h
  exact xeiret rfl rfl
