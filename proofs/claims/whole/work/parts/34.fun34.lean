/-! the methods as functions, and that a run answers so (by gen6.py) -/
noncomputable def f_M_step (F : Nat) (a1 : Int32) (a2 : Int32) (a3 : Int32) (I : XI) : Option (Int32 × XI) :=
  (f_M_isCell I a1 a2).bind fun q1 => if q1 = 0 then (some ((-1), I)) else ((f_M_isSide a3).bind fun q3 => if q3 = 0 then (some ((-1), I)) else ((f_M_overTo I ((6 * a2) + a1) a3).bind fun q5 => if 0 ≤ q5 then ((f_M_copies F I).bind fun q7 => (f_M_wayOver F ((6 * a2) + a1) a3 q7).bind fun q8 => some (q8.1, q8.2)) else (some ((-1), I))))
theorem g_M_step {X : XX} {d : Nat} {L : XL} {F : Nat} {a1 : Int32} {a2 : Int32} {a3 : Int32} {I : XI}  (r : Int32 × XI) (h : f_M_step F a1 a2 a3 I = some r) : xEv X (d + 4) 227 0 [.ref 131, .int a1, .int a2, .int a3] [] I L (some (.int r.1)) r.2 L := by
  rw [f_M_step] at h
  refine xeb 3 (pc' := 3) (ls' := [.ref 131, .int a1, .int a2, .int a3]) (st' := [.int a2, .int a1, .ref 131]) rfl ?_
  obtain ⟨q1, eq1, h⟩ := xbind_some h
  refine xcallV rfl xsh131 rfl rfl rfl (Nat.le_of_ble_eq_true rfl) (Nat.le_of_ble_eq_true rfl) (Nat.le_of_ble_eq_true rfl) rfl (g_M_isCell (d := d + 2) _ eq1) ?_
  by_cases c2 : q1 = 0
  · rw [if_pos c2] at h
    refine xef_eq_t rfl c2 ?_
    refine xeb 1 (pc' := 31) (ls' := [.ref 131, .int a1, .int a2, .int a3]) (st' := [.int (-1)]) rfl ?_
    obtain rfl := Option.some.inj h
    exact xeiret rfl rfl
  · rw [if_neg c2] at h
    refine xef_eq_f rfl c2 ?_
    refine xeb 1 (pc' := 10) (ls' := [.ref 131, .int a1, .int a2, .int a3]) (st' := [.int a3]) rfl ?_
    obtain ⟨q3, eq3, h⟩ := xbind_some h
    refine xcallS20 rfl rfl rfl (Nat.le_of_ble_eq_true rfl) (Nat.le_of_ble_eq_true rfl) (Nat.le_of_ble_eq_true rfl) rfl (g_M_isSide (d := d + 2) _ eq3) ?_
    by_cases c4 : q3 = 0
    · rw [if_pos c4] at h
      refine xef_eq_t rfl c4 ?_
      refine xeb 1 (pc' := 31) (ls' := [.ref 131, .int a1, .int a2, .int a3]) (st' := [.int (-1)]) rfl ?_
      obtain rfl := Option.some.inj h
      exact xeiret rfl rfl
    · rw [if_neg c4] at h
      refine xef_eq_f rfl c4 ?_
      refine xeb 7 (pc' := 24) (ls' := [.ref 131, .int a1, .int a2, .int a3]) (st' := [.int a3, .int ((6 * a2) + a1), .ref 131]) rfl ?_
      obtain ⟨q5, eq5, h⟩ := xbind_some h
      refine xcallV rfl xsh131 rfl rfl rfl (Nat.le_of_ble_eq_true rfl) (Nat.le_of_ble_eq_true rfl) (Nat.le_of_ble_eq_true rfl) rfl (g_M_overTo (d := d + 1) _ eq5) ?_
      by_cases c6 : 0 ≤ q5
      · rw [if_pos c6] at h
        refine xef_ge_t rfl c6 ?_
        refine xeb 1 (pc' := 33) (ls' := [.ref 131, .int a1, .int a2, .int a3]) (st' := [.ref 131]) rfl ?_
        obtain ⟨q7, eq7, h⟩ := xbind_some h
        refine xcallV rfl xsh131 rfl rfl rfl (Nat.le_of_ble_eq_true rfl) (Nat.le_of_ble_eq_true rfl) (Nat.le_of_ble_eq_true rfl) rfl (g_M_copies (d := d + 3) _ eq7) ?_
        refine xeb 7 (pc' := 44) (ls' := [.ref 131, .int a1, .int a2, .int a3]) (st' := [.int a3, .int ((6 * a2) + a1), .ref 131]) rfl ?_
        obtain ⟨q8, eq8, h⟩ := xbind_some h
        refine xcallV rfl xsh131 rfl rfl rfl (Nat.le_of_ble_eq_true rfl) (Nat.le_of_ble_eq_true rfl) (Nat.le_of_ble_eq_true rfl) rfl (g_M_wayOver (d := d + 0) _ eq8) ?_
        obtain rfl := Option.some.inj h
        exact xeiret rfl rfl
      · rw [if_neg c6] at h
        refine xef_ge_f rfl c6 ?_
        refine xeb 1 (pc' := 31) (ls' := [.ref 131, .int a1, .int a2, .int a3]) (st' := [.int (-1)]) rfl ?_
        obtain rfl := Option.some.inj h
        exact xeiret rfl rfl
noncomputable def f_Paths_start (F : Nat) (a1 : Int32) (a2 : Int32) (I : XI) : Option (XI) :=
  (f_Arrays_fill F 34 30 1000000 I).bind fun q1 => xck (xin a1 30) (xst (xput q1 34 (xN a1) a2) fun I3 => xst (xput I3 33 4 1073741823) fun I4 => some I4)
theorem g_Paths_start {X : XX} {d : Nat} {L : XL} {F : Nat} {a1 : Int32} {a2 : Int32} {I : XI}  (r : XI) (h : f_Paths_start F a1 a2 I = some r) : xEv X (d + 1) 228 0 [.ref 33, .int a1, .int a2] [] I L none r L := by
  rw [f_Paths_start] at h
  refine xeb 1 (pc' := 1) (ls' := [.ref 33, .int a1, .int a2]) (st' := [.ref 33]) rfl ?_
  refine xegf2 rfl xsh33 (by decide) rfl ?_
  refine xeb 1 (pc' := 6) (ls' := [.ref 33, .int a1, .int a2]) (st' := [.int 1000000, .ref 34]) rfl ?_
  obtain ⟨q1, eq1, h⟩ := xbind_some h
  refine xcallS20 rfl rfl rfl (Nat.le_of_ble_eq_true rfl) (Nat.le_of_ble_eq_true rfl) (Nat.le_of_ble_eq_true rfl) rfl (g_Arrays_fill (d := d + 0) xsh34 _ eq1) ?_
  refine xeb 1 (pc' := 10) (ls' := [.ref 33, .int a1, .int a2]) (st' := [.ref 33]) rfl ?_
  refine xegf2 rfl xsh33 (by decide) rfl ?_
  refine xeb 2 (pc' := 15) (ls' := [.ref 33, .int a1, .int a2]) (st' := [.int a2, .int a1, .ref 34]) rfl ?_
  obtain ⟨b2, h⟩ := xck_some h
  refine xeis rfl xsh34 b2 ?_
  obtain ⟨I3, hI3, h⟩ := xst_some h
  rw [← hI3]
  refine xeb 2 (pc' := 19) (ls' := [.ref 33, .int a1, .int a2]) (st' := [.int 1073741823, .ref 33]) rfl ?_
  refine xepf0 rfl xsh33 (by decide) ?_
  obtain ⟨I4, hI4, h⟩ := xst_some h
  rw [← hI4]
  obtain rfl := Option.some.inj h
  exact xevret rfl
noncomputable def f_Paths_closeNearest_4 (F : Nat) : Nat → Int32 → Int32 → XI → Option (Int32 × XI)
  | 0, _, _, _ => none
  | n + 1, v1, v2, I =>
    if 30 ≤ v2 then (if v1 = (-1) then (some (v1, I)) else (xst (xput I 33 4 ((I 33 4) &&& ((1 <<< (v1 &&& 31)) ^^^ (-1)))) fun I3 => some (v1, I3))) else (if (((I 33 4) >>> (v2 &&& 31)) &&& 1) = 1 then (xck (xin v2 30) (if (I 34 (xN v2)) = 1000000 then (f_Paths_closeNearest_4 F n v1 (v2 + 1) I) else (if v1 = (-1) then (f_Paths_closeNearest_4 F n v2 (v2 + 1) I) else (xck (xin v2 30) (xck (xin v1 30) (f_Paths_closeNearest_4 F n (if (I 34 (xN v1)) ≤ (I 34 (xN v2)) then v1 else v2) (v2 + 1) I)))))) else (f_Paths_closeNearest_4 F n v1 (v2 + 1) I))
theorem g_Paths_closeNearest_4 {X : XX} {d : Nat} {L : XL} {F : Nat}  {r : Int32 × XI}  : ∀ (n : Nat) (v1 : Int32) (v2 : Int32) (I : XI), f_Paths_closeNearest_4 F n v1 v2 I = some r → xEv X (d + 0) 229 4 [.ref 33, .int v1, .int v2] [] I L (some (.int r.1)) r.2 L := by
  intro n
  induction n with
  | zero => intro v1 v2 I h; rw [f_Paths_closeNearest_4] at h; cases h
  | succ n ih =>
    intro v1 v2 I h 
    rw [f_Paths_closeNearest_4] at h
    refine xeb 2 (pc' := 7) (ls' := [.ref 33, .int v1, .int v2]) (st' := [.int 30, .int v2]) rfl ?_
    by_cases c1 : 30 ≤ v2
    · rw [if_pos c1] at h
      refine xei_ge_t rfl c1 ?_
      refine xeb 2 (pc' := 63) (ls' := [.ref 33, .int v1, .int v2]) (st' := [.int (-1), .int v1]) rfl ?_
      by_cases c2 : v1 = (-1)
      · rw [if_pos c2] at h
        refine xei_eq_t rfl c2 ?_
        refine xeb 1 (pc' := 81) (ls' := [.ref 33, .int v1, .int v2]) (st' := [.int v1]) rfl ?_
        obtain rfl := Option.some.inj h
        exact xeiret rfl rfl
      · rw [if_neg c2] at h
        refine xei_eq_f rfl c2 ?_
        refine xeb 2 (pc' := 68) (ls' := [.ref 33, .int v1, .int v2]) (st' := [.ref 33, .ref 33]) rfl ?_
        refine xegf0 rfl xsh33 (by decide) ?_
        refine xeb 6 (pc' := 77) (ls' := [.ref 33, .int v1, .int v2]) (st' := [.int ((I 33 4) &&& ((1 <<< (v1 &&& 31)) ^^^ (-1))), .ref 33]) rfl ?_
        refine xepf0 rfl xsh33 (by decide) ?_
        obtain ⟨I3, hI3, h⟩ := xst_some h
        rw [← hI3]
        refine xeb 1 (pc' := 81) (ls' := [.ref 33, .int v1, .int v2]) (st' := [.int v1]) rfl ?_
        obtain rfl := Option.some.inj h
        exact xeiret rfl rfl
    · rw [if_neg c1] at h
      refine xei_ge_f rfl c1 ?_
      refine xeb 1 (pc' := 11) (ls' := [.ref 33, .int v1, .int v2]) (st' := [.ref 33]) rfl ?_
      refine xegf0 rfl xsh33 (by decide) ?_
      refine xeb 5 (pc' := 19) (ls' := [.ref 33, .int v1, .int v2]) (st' := [.int 1, .int (((I 33 4) >>> (v2 &&& 31)) &&& 1)]) rfl ?_
      by_cases c4 : (((I 33 4) >>> (v2 &&& 31)) &&& 1) = 1
      · rw [if_pos c4] at h
        refine xei_ne_t rfl c4 ?_
        refine xeb 1 (pc' := 23) (ls' := [.ref 33, .int v1, .int v2]) (st' := [.ref 33]) rfl ?_
        refine xegf2 rfl xsh33 (by decide) rfl ?_
        refine xeb 1 (pc' := 27) (ls' := [.ref 33, .int v1, .int v2]) (st' := [.int v2, .ref 34]) rfl ?_
        obtain ⟨b5, h⟩ := xck_some h
        refine xeia rfl xsh34 b5 ?_
        refine xeb 1 (pc' := 30) (ls' := [.ref 33, .int v1, .int v2]) (st' := [.int 1000000, .int (I 34 (xN v2))]) rfl ?_
        by_cases c6 : (I 34 (xN v2)) = 1000000
        · rw [if_pos c6] at h
          refine xei_eq_t rfl c6 ?_
          refine xeb 2 (pc' := 4) (ls' := [.ref 33, .int v1, .int (v2 + 1)]) (st' := []) rfl ?_
          exact ih v1 (v2 + 1) I h
        · rw [if_neg c6] at h
          refine xei_eq_f rfl c6 ?_
          refine xeb 2 (pc' := 35) (ls' := [.ref 33, .int v1, .int v2]) (st' := [.int (-1), .int v1]) rfl ?_
          by_cases c7 : v1 = (-1)
          · rw [if_pos c7] at h
            refine xei_eq_t rfl c7 ?_
            refine xeb 4 (pc' := 4) (ls' := [.ref 33, .int v2, .int (v2 + 1)]) (st' := []) rfl ?_
            exact ih v2 (v2 + 1) I h
          · rw [if_neg c7] at h
            refine xei_eq_f rfl c7 ?_
            refine xeb 1 (pc' := 39) (ls' := [.ref 33, .int v1, .int v2]) (st' := [.ref 33]) rfl ?_
            refine xegf2 rfl xsh33 (by decide) rfl ?_
            refine xeb 1 (pc' := 43) (ls' := [.ref 33, .int v1, .int v2]) (st' := [.int v2, .ref 34]) rfl ?_
            obtain ⟨b8, h⟩ := xck_some h
            refine xeia rfl xsh34 b8 ?_
            refine xeb 1 (pc' := 45) (ls' := [.ref 33, .int v1, .int v2]) (st' := [.ref 33, .int (I 34 (xN v2))]) rfl ?_
            refine xegf2 rfl xsh33 (by decide) rfl ?_
            refine xeb 1 (pc' := 49) (ls' := [.ref 33, .int v1, .int v2]) (st' := [.int v1, .ref 34, .int (I 34 (xN v2))]) rfl ?_
            obtain ⟨b9, h⟩ := xck_some h
            refine xeia rfl xsh34 b9 ?_
            have hj : xEv X (d + 0) 229 55 [.ref 33, .int (if (I 34 (xN v1)) ≤ (I 34 (xN v2)) then v1 else v2), .int v2] [] I L (some (.int r.1)) r.2 L := by
              refine xeb 2 (pc' := 4) (ls' := [.ref 33, .int (if (I 34 (xN v1)) ≤ (I 34 (xN v2)) then v1 else v2), .int (v2 + 1)]) (st' := []) rfl ?_
              exact ih (if (I 34 (xN v1)) ≤ (I 34 (xN v2)) then v1 else v2) (v2 + 1) I h
            by_cases c10 : (I 34 (xN v1)) ≤ (I 34 (xN v2))
            · simp only [if_pos c10] at hj
              refine xei_ge_t rfl c10 ?_
              exact xeb 0 rfl hj
            · simp only [if_neg c10] at hj
              refine xei_ge_f rfl c10 ?_
              exact xeb 2 rfl hj
      · rw [if_neg c4] at h
        refine xei_ne_f rfl c4 ?_
        refine xeb 2 (pc' := 4) (ls' := [.ref 33, .int v1, .int (v2 + 1)]) (st' := []) rfl ?_
        exact ih v1 (v2 + 1) I h
noncomputable def f_Paths_closeNearest (F : Nat) (I : XI) : Option (Int32 × XI) :=
  f_Paths_closeNearest_4 F F (-1) 0 I
theorem g_Paths_closeNearest {X : XX} {d : Nat} {L : XL} {F : Nat} {I : XI}  (r : Int32 × XI) (h : f_Paths_closeNearest F I = some r) : xEv X (d + 0) 229 0 [.ref 33, .null, .null] [] I L (some (.int r.1)) r.2 L := by
  rw [f_Paths_closeNearest] at h
  refine xeb 4 (pc' := 4) (ls' := [.ref 33, .int (-1), .int 0]) (st' := []) rfl ?_
  exact g_Paths_closeNearest_4 F (-1) 0 I h
noncomputable def f_Paths_leastWays_137 (F : Nat) (S1 : Nat) (v3 : Int32) (I : XI) : Option (Int32 × XI) :=
  xck (xin v3 30) (if (I 34 (xN v3)) = 1000000 then (some ((-2), I)) else (xck (xin v3 30) (some ((I 34 (xN v3)), I))))
theorem g_Paths_leastWays_137 {X : XX} {d : Nat} {L : XL} {F : Nat} {S1 : Nat} (hS1 : xisSt S1) {r : Int32 × XI}  {v3 : Int32} {I : XI} (h : f_Paths_leastWays_137 F S1 v3 I = some r) (z1 : Value) (z2 : Value) (z4 : Value) (z5 : Value) (z6 : Value) (z7 : Value) : xEv X (d + 3) 230 137 [.ref 33, z1, z2, .int v3, z4, z5, z6, z7] [] I L (some (.int r.1)) r.2 L := by
  rw [f_Paths_leastWays_137] at h
  refine xeb 1 (pc' := 138) (ls' := [.ref 33, z1, z2, .int v3, z4, z5, z6, z7]) (st' := [.ref 33]) rfl ?_
  refine xegf2 rfl xsh33 (by decide) rfl ?_
  refine xeb 1 (pc' := 142) (ls' := [.ref 33, z1, z2, .int v3, z4, z5, z6, z7]) (st' := [.int v3, .ref 34]) rfl ?_
  obtain ⟨b4, h⟩ := xck_some h
  refine xeia rfl xsh34 b4 ?_
  refine xeb 1 (pc' := 145) (ls' := [.ref 33, z1, z2, .int v3, z4, z5, z6, z7]) (st' := [.int 1000000, .int (I 34 (xN v3))]) rfl ?_
  by_cases c5 : (I 34 (xN v3)) = 1000000
  · rw [if_pos c5] at h
    refine xei_ne_t rfl c5 ?_
    refine xeb 2 (pc' := 159) (ls' := [.ref 33, z1, z2, .int v3, z4, z5, z6, z7]) (st' := [.int (-2)]) rfl ?_
    obtain rfl := Option.some.inj h
    exact xeiret rfl rfl
  · rw [if_neg c5] at h
    refine xei_ne_f rfl c5 ?_
    refine xeb 1 (pc' := 154) (ls' := [.ref 33, z1, z2, .int v3, z4, z5, z6, z7]) (st' := [.ref 33]) rfl ?_
    refine xegf2 rfl xsh33 (by decide) rfl ?_
    refine xeb 1 (pc' := 158) (ls' := [.ref 33, z1, z2, .int v3, z4, z5, z6, z7]) (st' := [.int v3, .ref 34]) rfl ?_
    obtain ⟨b6, h⟩ := xck_some h
    refine xeia rfl xsh34 b6 ?_
    obtain rfl := Option.some.inj h
    exact xeiret rfl rfl
noncomputable def f_Paths_leastWays_37 (F : Nat) (S1 : Nat) (k15 : Int32 → Int32 → Int32 → XI → Option (Int32 × XI)) : Nat → Int32 → Int32 → Int32 → Int32 → XI → Option (Int32 × XI)
  | 0, _, _, _, _, _ => none
  | n + 1, v3, v4, v5, v6, I =>
    if 4 ≤ v6 then ((f_Paths_closeNearest F I).bind fun q10 => k15 v3 q10.1 (v5 + 1) q10.2) else ((f_Table_beside 17 I v4 v6).bind fun q11 => if q11 = (-1) then (f_Paths_leastWays_37 F S1 k15 n v3 v4 v5 (v6 + 1) I) else ((f_Board_linked S1 I v4 v6).bind fun q13 => if q13 = 0 then (f_Paths_leastWays_37 F S1 k15 n v3 v4 v5 (v6 + 1) I) else (xck (xin q11 30) (xck (xin v4 30) ((f_Rules_ways F (I S1 1) v4 q11 v6 I).bind fun q17 => xck (xin q11 30) (xst (xput q17.2 34 (xN q11) (if ((I 34 (xN v4)) + q17.1) < (I 34 (xN q11)) then ((I 34 (xN v4)) + q17.1) else (I 34 (xN q11)))) fun I19 => f_Paths_leastWays_37 F S1 k15 n v3 v4 v5 (v6 + 1) I19))))))
theorem g_Paths_leastWays_37 {X : XX} {d : Nat} {L : XL} {F : Nat} {S1 : Nat} {k15 : Int32 → Int32 → Int32 → XI → Option (Int32 × XI)} (hS1 : xisSt S1) {r : Int32 × XI} (hk15 : ∀ (v3 : Int32) (v4 : Int32) (v5 : Int32) (I : XI), k15 v3 v4 v5 I = some r → ∀ (z2 : Value) (z6 : Value) (z7 : Value), xEv X (d + 3) 230 15 [.ref 33, .ref S1, z2, .int v3, .int v4, .int v5, z6, z7] [] I L (some (.int r.1)) r.2 L) : ∀ (n : Nat) (v3 : Int32) (v4 : Int32) (v5 : Int32) (v6 : Int32) (I : XI), f_Paths_leastWays_37 F S1 k15 n v3 v4 v5 v6 I = some r → ∀ (z2 : Value) (z7 : Value), xEv X (d + 3) 230 37 [.ref 33, .ref S1, z2, .int v3, .int v4, .int v5, .int v6, z7] [] I L (some (.int r.1)) r.2 L := by
  intro n
  induction n with
  | zero => intro v3 v4 v5 v6 I h; rw [f_Paths_leastWays_37] at h; cases h
  | succ n ih =>
    intro v3 v4 v5 v6 I h z2 z7
    rw [f_Paths_leastWays_37] at h
    refine xeb 2 (pc' := 40) (ls' := [.ref 33, .ref S1, z2, .int v3, .int v4, .int v5, .int v6, z7]) (st' := [.int 4, .int v6]) rfl ?_
    by_cases c9 : 4 ≤ v6
    · rw [if_pos c9] at h
      refine xei_ge_t rfl c9 ?_
      refine xeb 1 (pc' := 126) (ls' := [.ref 33, .ref S1, z2, .int v3, .int v4, .int v5, .int v6, z7]) (st' := [.ref 33]) rfl ?_
      obtain ⟨q10, eq10, h⟩ := xbind_some h
      refine xcallV rfl xsh33 rfl rfl rfl (Nat.le_of_ble_eq_true rfl) (Nat.le_of_ble_eq_true rfl) (Nat.le_of_ble_eq_true rfl) rfl (g_Paths_closeNearest (d := d + 2) _ eq10) ?_
      refine xeb 3 (pc' := 15) (ls' := [.ref 33, .ref S1, z2, .int v3, .int q10.1, .int (v5 + 1), .int v6, z7]) (st' := []) rfl ?_
      exact hk15 v3 q10.1 (v5 + 1) q10.2 h _ _ _
    · rw [if_neg c9] at h
      refine xei_ge_f rfl c9 ?_
      refine xeb 1 (pc' := 44) (ls' := [.ref 33, .ref S1, z2, .int v3, .int v4, .int v5, .int v6, z7]) (st' := [.ref 33]) rfl ?_
      refine xegf2 rfl xsh33 (by decide) rfl ?_
      refine xeb 2 (pc' := 51) (ls' := [.ref 33, .ref S1, z2, .int v3, .int v4, .int v5, .int v6, z7]) (st' := [.int v6, .int v4, .ref 17]) rfl ?_
      obtain ⟨q11, eq11, h⟩ := xbind_some h
      refine xcallV rfl xsh17 rfl rfl rfl (Nat.le_of_ble_eq_true rfl) (Nat.le_of_ble_eq_true rfl) (Nat.le_of_ble_eq_true rfl) rfl (g_Table_beside (d := d + 2) xis17 _ eq11) ?_
      refine xeb 3 (pc' := 59) (ls' := [.ref 33, .ref S1, z2, .int v3, .int v4, .int v5, .int v6, .int q11]) (st' := [.int (-1), .int q11]) rfl ?_
      by_cases c12 : q11 = (-1)
      · rw [if_pos c12] at h
        refine xei_eq_t rfl c12 ?_
        refine xeb 2 (pc' := 37) (ls' := [.ref 33, .ref S1, z2, .int v3, .int v4, .int v5, .int (v6 + 1), .int q11]) (st' := []) rfl ?_
        exact ih v3 v4 v5 (v6 + 1) I h _ _
      · rw [if_neg c12] at h
        refine xei_eq_f rfl c12 ?_
        refine xeb 1 (pc' := 63) (ls' := [.ref 33, .ref S1, z2, .int v3, .int v4, .int v5, .int v6, .int q11]) (st' := [.ref 33]) rfl ?_
        refine xegf2 rfl xsh33 (by decide) rfl ?_
        refine xeb 3 (pc' := 71) (ls' := [.ref 33, .ref S1, z2, .int v3, .int v4, .int v5, .int v6, .int q11]) (st' := [.int v6, .int v4, .ref S1, .ref 30]) rfl ?_
        obtain ⟨q13, eq13, h⟩ := xbind_some h
        refine xcallV rfl xsh30 rfl rfl rfl (Nat.le_of_ble_eq_true rfl) (Nat.le_of_ble_eq_true rfl) (Nat.le_of_ble_eq_true rfl) rfl (g_Board_linked (d := d + 0) hS1 _ eq13) ?_
        by_cases c14 : q13 = 0
        · rw [if_pos c14] at h
          refine xef_eq_t rfl c14 ?_
          refine xeb 2 (pc' := 37) (ls' := [.ref 33, .ref S1, z2, .int v3, .int v4, .int v5, .int (v6 + 1), .int q11]) (st' := []) rfl ?_
          exact ih v3 v4 v5 (v6 + 1) I h _ _
        · rw [if_neg c14] at h
          refine xef_eq_f rfl c14 ?_
          refine xeb 1 (pc' := 78) (ls' := [.ref 33, .ref S1, z2, .int v3, .int v4, .int v5, .int v6, .int q11]) (st' := [.ref 33]) rfl ?_
          refine xegf2 rfl xsh33 (by decide) rfl ?_
          refine xeb 2 (pc' := 84) (ls' := [.ref 33, .ref S1, z2, .int v3, .int v4, .int v5, .int v6, .int q11]) (st' := [.ref 33, .int q11, .ref 34]) rfl ?_
          refine xegf2 rfl xsh33 (by decide) rfl ?_
          refine xeb 1 (pc' := 89) (ls' := [.ref 33, .ref S1, z2, .int v3, .int v4, .int v5, .int v6, .int q11]) (st' := [.int q11, .ref 34, .int q11, .ref 34]) rfl ?_
          obtain ⟨b15, h⟩ := xck_some h
          refine xeia rfl xsh34 b15 ?_
          refine xeb 1 (pc' := 91) (ls' := [.ref 33, .ref S1, z2, .int v3, .int v4, .int v5, .int v6, .int q11]) (st' := [.ref 33, .int (I 34 (xN q11)), .int q11, .ref 34]) rfl ?_
          refine xegf2 rfl xsh33 (by decide) rfl ?_
          refine xeb 1 (pc' := 96) (ls' := [.ref 33, .ref S1, z2, .int v3, .int v4, .int v5, .int v6, .int q11]) (st' := [.int v4, .ref 34, .int (I 34 (xN q11)), .int q11, .ref 34]) rfl ?_
          obtain ⟨b16, h⟩ := xck_some h
          refine xeia rfl xsh34 b16 ?_
          refine xeb 1 (pc' := 98) (ls' := [.ref 33, .ref S1, z2, .int v3, .int v4, .int v5, .int v6, .int q11]) (st' := [.ref 33, .int (I 34 (xN v4)), .int (I 34 (xN q11)), .int q11, .ref 34]) rfl ?_
          refine xegf2 rfl xsh33 (by decide) rfl ?_
          refine xeb 1 (pc' := 102) (ls' := [.ref 33, .ref S1, z2, .int v3, .int v4, .int v5, .int v6, .int q11]) (st' := [.ref S1, .ref 32, .int (I 34 (xN v4)), .int (I 34 (xN q11)), .int q11, .ref 34]) rfl ?_
          refine xegf10 rfl hS1.1 (by decide) ?_
          refine xeb 3 (pc' := 111) (ls' := [.ref 33, .ref S1, z2, .int v3, .int v4, .int v5, .int v6, .int q11]) (st' := [.int v6, .int q11, .int v4, .int (I S1 1), .ref 32, .int (I 34 (xN v4)), .int (I 34 (xN q11)), .int q11, .ref 34]) rfl ?_
          obtain ⟨q17, eq17, h⟩ := xbind_some h
          refine xcallV rfl xsh32 rfl rfl rfl (Nat.le_of_ble_eq_true rfl) (Nat.le_of_ble_eq_true rfl) (Nat.le_of_ble_eq_true rfl) rfl (g_Rules_ways (d := d + 0) _ eq17) ?_
          refine xeb 1 (pc' := 115) (ls' := [.ref 33, .ref S1, z2, .int v3, .int v4, .int v5, .int v6, .int q11]) (st' := [.int ((I 34 (xN v4)) + q17.1), .int (I 34 (xN q11)), .int q11, .ref 34]) rfl ?_
          refine xemin rfl (Nat.le_of_ble_eq_true rfl) ?_
          obtain ⟨b18, h⟩ := xck_some h
          refine xeis rfl xsh34 b18 ?_
          obtain ⟨I19, hI19, h⟩ := xst_some h
          rw [← hI19]
          refine xeb 2 (pc' := 37) (ls' := [.ref 33, .ref S1, z2, .int v3, .int v4, .int v5, .int (v6 + 1), .int q11]) (st' := []) rfl ?_
          exact ih v3 v4 v5 (v6 + 1) I19 h _ _
noncomputable def f_Paths_leastWays_15 (F : Nat) (S1 : Nat) : Nat → Int32 → Int32 → Int32 → XI → Option (Int32 × XI)
  | 0, _, _, _, _ => none
  | n + 1, v3, v4, v5, I =>
    if 30 ≤ v5 then (f_Paths_leastWays_137 F S1 v3 I) else (if v4 = (-1) then (f_Paths_leastWays_137 F S1 v3 I) else (if v4 = v3 then (f_Paths_leastWays_137 F S1 v3 I) else (f_Paths_leastWays_37 F S1 (fun v3 v4 v5 I => f_Paths_leastWays_15 F S1 n v3 v4 v5 I) F v3 v4 v5 0 I)))
theorem g_Paths_leastWays_15 {X : XX} {d : Nat} {L : XL} {F : Nat} {S1 : Nat} (hS1 : xisSt S1) {r : Int32 × XI}  : ∀ (n : Nat) (v3 : Int32) (v4 : Int32) (v5 : Int32) (I : XI), f_Paths_leastWays_15 F S1 n v3 v4 v5 I = some r → ∀ (z2 : Value) (z6 : Value) (z7 : Value), xEv X (d + 3) 230 15 [.ref 33, .ref S1, z2, .int v3, .int v4, .int v5, z6, z7] [] I L (some (.int r.1)) r.2 L := by
  intro n
  induction n with
  | zero => intro v3 v4 v5 I h; rw [f_Paths_leastWays_15] at h; cases h
  | succ n ih =>
    intro v3 v4 v5 I h z2 z6 z7
    rw [f_Paths_leastWays_15] at h
    refine xeb 2 (pc' := 19) (ls' := [.ref 33, .ref S1, z2, .int v3, .int v4, .int v5, z6, z7]) (st' := [.int 30, .int v5]) rfl ?_
    by_cases c3 : 30 ≤ v5
    · rw [if_pos c3] at h
      refine xei_ge_t rfl c3 ?_
      exact g_Paths_leastWays_137 hS1 h _ _ _ _ _ _
    · rw [if_neg c3] at h
      refine xei_ge_f rfl c3 ?_
      refine xeb 2 (pc' := 25) (ls' := [.ref 33, .ref S1, z2, .int v3, .int v4, .int v5, z6, z7]) (st' := [.int (-1), .int v4]) rfl ?_
      by_cases c7 : v4 = (-1)
      · rw [if_pos c7] at h
        refine xei_eq_t rfl c7 ?_
        exact g_Paths_leastWays_137 hS1 h _ _ _ _ _ _
      · rw [if_neg c7] at h
        refine xei_eq_f rfl c7 ?_
        refine xeb 2 (pc' := 31) (ls' := [.ref 33, .ref S1, z2, .int v3, .int v4, .int v5, z6, z7]) (st' := [.int v3, .int v4]) rfl ?_
        by_cases c8 : v4 = v3
        · rw [if_pos c8] at h
          refine xei_eq_t rfl c8 ?_
          exact g_Paths_leastWays_137 hS1 h _ _ _ _ _ _
        · rw [if_neg c8] at h
          refine xei_eq_f rfl c8 ?_
          refine xeb 2 (pc' := 37) (ls' := [.ref 33, .ref S1, z2, .int v3, .int v4, .int v5, .int 0, z7]) (st' := []) rfl ?_
          exact g_Paths_leastWays_37 hS1 (fun v3 v4 v5 I h' z2 z6 z7 => ih v3 v4 v5 I h' z2 z6 z7) F v3 v4 v5 0 I h _ _
noncomputable def f_Paths_leastWays (F : Nat) (S1 : Nat) (a2 : Int32) (a3 : Int32) (I : XI) : Option (Int32 × XI) :=
  (f_Paths_start F a2 0 I).bind fun q1 => (f_Paths_closeNearest F q1).bind fun q2 => f_Paths_leastWays_15 F S1 F a3 q2.1 0 q2.2
theorem g_Paths_leastWays {X : XX} {d : Nat} {L : XL} {F : Nat} {S1 : Nat} {a2 : Int32} {a3 : Int32} {I : XI} (hS1 : xisSt S1) (r : Int32 × XI) (h : f_Paths_leastWays F S1 a2 a3 I = some r) : xEv X (d + 3) 230 0 [.ref 33, .ref S1, .int a2, .int a3, .null, .null, .null, .null] [] I L (some (.int r.1)) r.2 L := by
  rw [f_Paths_leastWays] at h
  refine xeb 3 (pc' := 3) (ls' := [.ref 33, .ref S1, .int a2, .int a3, .null, .null, .null, .null]) (st' := [.int 0, .int a2, .ref 33]) rfl ?_
  obtain ⟨q1, eq1, h⟩ := xbind_some h
  refine xcallV rfl xsh33 rfl rfl rfl (Nat.le_of_ble_eq_true rfl) (Nat.le_of_ble_eq_true rfl) (Nat.le_of_ble_eq_true rfl) rfl (g_Paths_start (d := d + 1) _ eq1) ?_
  refine xeb 1 (pc' := 7) (ls' := [.ref 33, .ref S1, .int a2, .int a3, .null, .null, .null, .null]) (st' := [.ref 33]) rfl ?_
  obtain ⟨q2, eq2, h⟩ := xbind_some h
  refine xcallV rfl xsh33 rfl rfl rfl (Nat.le_of_ble_eq_true rfl) (Nat.le_of_ble_eq_true rfl) (Nat.le_of_ble_eq_true rfl) rfl (g_Paths_closeNearest (d := d + 2) _ eq2) ?_
  refine xeb 3 (pc' := 15) (ls' := [.ref 33, .ref S1, .int a2, .int a3, .int q2.1, .int 0, .null, .null]) (st' := []) rfl ?_
  exact g_Paths_leastWays_15 hS1 F a3 q2.1 0 q2.2 h _ _ _
noncomputable def f_H_far (F : Nat) (a1 : Int32) (a2 : Int32) (a3 : Int32) (a4 : Int32) (I : XI) : Option (Int32 × XI) :=
  (f_Table_cellAt 17 I a1 a2).bind fun q1 => (f_Table_cellAt 17 I a3 a4).bind fun q2 => if q1 = (-1) then (some ((-1), I)) else (if q2 = (-1) then (some ((-1), I)) else ((f_State_lies 26 I q1).bind fun q5 => if q5 = 0 then (some ((-2), I)) else ((f_State_lies 26 I q2).bind fun q7 => if q7 = 0 then (some ((-2), I)) else ((f_Paths_leastWays F 26 q1 q2 I).bind fun q9 => some (q9.1, q9.2)))))
theorem g_H_far {X : XX} {d : Nat} {L : XL} {F : Nat} {a1 : Int32} {a2 : Int32} {a3 : Int32} {a4 : Int32} {I : XI}  (r : Int32 × XI) (h : f_H_far F a1 a2 a3 a4 I = some r) : xEv X (d + 4) 231 0 [.ref 0, .int a1, .int a2, .int a3, .int a4, .null, .null] [] I L (some (.int r.1)) r.2 L := by
  rw [f_H_far] at h
  refine xeb 1 (pc' := 1) (ls' := [.ref 0, .int a1, .int a2, .int a3, .int a4, .null, .null]) (st' := [.ref 0]) rfl ?_
  refine xegf2 rfl xsh0 (by decide) rfl ?_
  refine xeb 2 (pc' := 6) (ls' := [.ref 0, .int a1, .int a2, .int a3, .int a4, .null, .null]) (st' := [.int a2, .int a1, .ref 17]) rfl ?_
  obtain ⟨q1, eq1, h⟩ := xbind_some h
  refine xcallV rfl xsh17 rfl rfl rfl (Nat.le_of_ble_eq_true rfl) (Nat.le_of_ble_eq_true rfl) (Nat.le_of_ble_eq_true rfl) rfl (g_Table_cellAt (d := d + 3) xis17 _ eq1) ?_
  refine xeb 2 (pc' := 12) (ls' := [.ref 0, .int a1, .int a2, .int a3, .int a4, .int q1, .null]) (st' := [.ref 0]) rfl ?_
  refine xegf2 rfl xsh0 (by decide) rfl ?_
  refine xeb 2 (pc' := 18) (ls' := [.ref 0, .int a1, .int a2, .int a3, .int a4, .int q1, .null]) (st' := [.int a4, .int a3, .ref 17]) rfl ?_
  obtain ⟨q2, eq2, h⟩ := xbind_some h
  refine xcallV rfl xsh17 rfl rfl rfl (Nat.le_of_ble_eq_true rfl) (Nat.le_of_ble_eq_true rfl) (Nat.le_of_ble_eq_true rfl) rfl (g_Table_cellAt (d := d + 3) xis17 _ eq2) ?_
  refine xeb 3 (pc' := 26) (ls' := [.ref 0, .int a1, .int a2, .int a3, .int a4, .int q1, .int q2]) (st' := [.int (-1), .int q1]) rfl ?_
  by_cases c3 : q1 = (-1)
  · rw [if_pos c3] at h
    refine xei_eq_t rfl c3 ?_
    refine xeb 1 (pc' := 36) (ls' := [.ref 0, .int a1, .int a2, .int a3, .int a4, .int q1, .int q2]) (st' := [.int (-1)]) rfl ?_
    obtain rfl := Option.some.inj h
    exact xeiret rfl rfl
  · rw [if_neg c3] at h
    refine xei_eq_f rfl c3 ?_
    refine xeb 2 (pc' := 32) (ls' := [.ref 0, .int a1, .int a2, .int a3, .int a4, .int q1, .int q2]) (st' := [.int (-1), .int q2]) rfl ?_
    by_cases c4 : q2 = (-1)
    · rw [if_pos c4] at h
      refine xei_ne_t rfl c4 ?_
      refine xeb 1 (pc' := 36) (ls' := [.ref 0, .int a1, .int a2, .int a3, .int a4, .int q1, .int q2]) (st' := [.int (-1)]) rfl ?_
      obtain rfl := Option.some.inj h
      exact xeiret rfl rfl
    · rw [if_neg c4] at h
      refine xei_ne_f rfl c4 ?_
      refine xeb 1 (pc' := 38) (ls' := [.ref 0, .int a1, .int a2, .int a3, .int a4, .int q1, .int q2]) (st' := [.ref 0]) rfl ?_
      refine xegf2 rfl xsh0 (by decide) rfl ?_
      refine xeb 1 (pc' := 43) (ls' := [.ref 0, .int a1, .int a2, .int a3, .int a4, .int q1, .int q2]) (st' := [.int q1, .ref 26]) rfl ?_
      obtain ⟨q5, eq5, h⟩ := xbind_some h
      refine xcallV rfl xsh26 rfl rfl rfl (Nat.le_of_ble_eq_true rfl) (Nat.le_of_ble_eq_true rfl) (Nat.le_of_ble_eq_true rfl) rfl (g_State_lies (d := d + 3) xis26 _ eq5) ?_
      by_cases c6 : q5 = 0
      · rw [if_pos c6] at h
        refine xef_eq_t rfl c6 ?_
        refine xeb 1 (pc' := 81) (ls' := [.ref 0, .int a1, .int a2, .int a3, .int a4, .int q1, .int q2]) (st' := [.int (-2)]) rfl ?_
        obtain rfl := Option.some.inj h
        exact xeiret rfl rfl
      · rw [if_neg c6] at h
        refine xef_eq_f rfl c6 ?_
        refine xeb 1 (pc' := 50) (ls' := [.ref 0, .int a1, .int a2, .int a3, .int a4, .int q1, .int q2]) (st' := [.ref 0]) rfl ?_
        refine xegf2 rfl xsh0 (by decide) rfl ?_
        refine xeb 1 (pc' := 55) (ls' := [.ref 0, .int a1, .int a2, .int a3, .int a4, .int q1, .int q2]) (st' := [.int q2, .ref 26]) rfl ?_
        obtain ⟨q7, eq7, h⟩ := xbind_some h
        refine xcallV rfl xsh26 rfl rfl rfl (Nat.le_of_ble_eq_true rfl) (Nat.le_of_ble_eq_true rfl) (Nat.le_of_ble_eq_true rfl) rfl (g_State_lies (d := d + 3) xis26 _ eq7) ?_
        by_cases c8 : q7 = 0
        · rw [if_pos c8] at h
          refine xef_eq_t rfl c8 ?_
          refine xeb 1 (pc' := 81) (ls' := [.ref 0, .int a1, .int a2, .int a3, .int a4, .int q1, .int q2]) (st' := [.int (-2)]) rfl ?_
          obtain rfl := Option.some.inj h
          exact xeiret rfl rfl
        · rw [if_neg c8] at h
          refine xef_eq_f rfl c8 ?_
          refine xeb 1 (pc' := 62) (ls' := [.ref 0, .int a1, .int a2, .int a3, .int a4, .int q1, .int q2]) (st' := [.ref 0]) rfl ?_
          refine xegf2 rfl xsh0 (by decide) rfl ?_
          refine xeb 1 (pc' := 66) (ls' := [.ref 0, .int a1, .int a2, .int a3, .int a4, .int q1, .int q2]) (st' := [.ref 0, .ref 33]) rfl ?_
          refine xegf2 rfl xsh0 (by decide) rfl ?_
          refine xeb 2 (pc' := 73) (ls' := [.ref 0, .int a1, .int a2, .int a3, .int a4, .int q1, .int q2]) (st' := [.int q2, .int q1, .ref 26, .ref 33]) rfl ?_
          obtain ⟨q9, eq9, h⟩ := xbind_some h
          refine xcallV rfl xsh33 rfl rfl rfl (Nat.le_of_ble_eq_true rfl) (Nat.le_of_ble_eq_true rfl) (Nat.le_of_ble_eq_true rfl) rfl (g_Paths_leastWays (d := d + 0) xis26 _ eq9) ?_
          refine xeb 1 (pc' := 81) (ls' := [.ref 0, .int a1, .int a2, .int a3, .int a4, .int q1, .int q2]) (st' := [.int q9.1]) rfl ?_
          obtain rfl := Option.some.inj h
          exact xeiret rfl rfl
noncomputable def f_M_far_124 (F : Nat) (k114 : Int32 → Int32 → Int32 → XI → Option (Int32 × XI)) : Nat → Int32 → Int32 → Int32 → Int32 → XI → Option (Int32 × XI)
  | 0, _, _, _, _, _ => none
  | n + 1, v6, v7, v8, v9, I =>
    if 4 ≤ v9 then (k114 v6 v7 (v8 + 1) I) else (xck (xin v8 30) (if 99999 ≤ (I 167 (xN v8)) then (k114 v6 v7 (v8 + 1) I) else ((f_M_areJoinedOver I v8 v9).bind fun q19 => if q19 = 0 then (f_M_far_124 F k114 n v6 v7 v8 (v9 + 1) I) else (xck (xin v8 30) ((f_M_wayOver F v8 v9 I).bind fun q22 => (f_M_overTo q22.2 v8 v9).bind fun q23 => xck (xin q23 30) (if ((I 167 (xN v8)) + q22.1) < (q22.2 167 (xN q23)) then ((f_M_overTo q22.2 v8 v9).bind fun q26 => xck (xin q26 30) (xst (xput q22.2 167 (xN q26) ((I 167 (xN v8)) + q22.1)) fun I28 => f_M_far_124 F k114 n v6 1 v8 (v9 + 1) I28)) else (f_M_far_124 F k114 n v6 v7 v8 (v9 + 1) q22.2)))))))
theorem g_M_far_124 {X : XX} {d : Nat} {L : XL} {F : Nat} {k114 : Int32 → Int32 → Int32 → XI → Option (Int32 × XI)}  {r : Int32 × XI} (hk114 : ∀ (v6 : Int32) (v7 : Int32) (v8 : Int32) (I : XI), k114 v6 v7 v8 I = some r → ∀ (z1 : Value) (z2 : Value) (z3 : Value) (z4 : Value) (z5 : Value) (z9 : Value) (z10 : Value), xEv X (d + 5) 232 114 [.ref 131, z1, z2, z3, z4, z5, .int v6, .int v7, .int v8, z9, z10] [] I L (some (.int r.1)) r.2 L) : ∀ (n : Nat) (v6 : Int32) (v7 : Int32) (v8 : Int32) (v9 : Int32) (I : XI), f_M_far_124 F k114 n v6 v7 v8 v9 I = some r → ∀ (z1 : Value) (z2 : Value) (z3 : Value) (z4 : Value) (z5 : Value) (z10 : Value), xEv X (d + 5) 232 124 [.ref 131, z1, z2, z3, z4, z5, .int v6, .int v7, .int v8, .int v9, z10] [] I L (some (.int r.1)) r.2 L := by
  intro n
  induction n with
  | zero => intro v6 v7 v8 v9 I h; rw [f_M_far_124] at h; cases h
  | succ n ih =>
    intro v6 v7 v8 v9 I h z1 z2 z3 z4 z5 z10
    rw [f_M_far_124] at h
    refine xeb 2 (pc' := 127) (ls' := [.ref 131, z1, z2, z3, z4, z5, .int v6, .int v7, .int v8, .int v9, z10]) (st' := [.int 4, .int v9]) rfl ?_
    by_cases c16 : 4 ≤ v9
    · rw [if_pos c16] at h
      refine xei_ge_t rfl c16 ?_
      refine xeb 2 (pc' := 114) (ls' := [.ref 131, z1, z2, z3, z4, z5, .int v6, .int v7, .int (v8 + 1), .int v9, z10]) (st' := []) rfl ?_
      exact hk114 v6 v7 (v8 + 1) I h _ _ _ _ _ _ _
    · rw [if_neg c16] at h
      refine xei_ge_f rfl c16 ?_
      refine xeb 1 (pc' := 131) (ls' := [.ref 131, z1, z2, z3, z4, z5, .int v6, .int v7, .int v8, .int v9, z10]) (st' := [.ref 131]) rfl ?_
      refine xegf2 rfl xsh131 (by decide) rfl ?_
      refine xeb 1 (pc' := 136) (ls' := [.ref 131, z1, z2, z3, z4, z5, .int v6, .int v7, .int v8, .int v9, z10]) (st' := [.int v8, .ref 167]) rfl ?_
      obtain ⟨b17, h⟩ := xck_some h
      refine xeia rfl xsh167 b17 ?_
      refine xeb 1 (pc' := 140) (ls' := [.ref 131, z1, z2, z3, z4, z5, .int v6, .int v7, .int v8, .int v9, z10]) (st' := [.int 99999, .int (I 167 (xN v8))]) rfl ?_
      by_cases c18 : 99999 ≤ (I 167 (xN v8))
      · rw [if_pos c18] at h
        refine xei_ge_t rfl c18 ?_
        refine xeb 2 (pc' := 114) (ls' := [.ref 131, z1, z2, z3, z4, z5, .int v6, .int v7, .int (v8 + 1), .int v9, z10]) (st' := []) rfl ?_
        exact hk114 v6 v7 (v8 + 1) I h _ _ _ _ _ _ _
      · rw [if_neg c18] at h
        refine xei_ge_f rfl c18 ?_
        refine xeb 3 (pc' := 148) (ls' := [.ref 131, z1, z2, z3, z4, z5, .int v6, .int v7, .int v8, .int v9, z10]) (st' := [.int v9, .int v8, .ref 131]) rfl ?_
        obtain ⟨q19, eq19, h⟩ := xbind_some h
        refine xcallV rfl xsh131 rfl rfl rfl (Nat.le_of_ble_eq_true rfl) (Nat.le_of_ble_eq_true rfl) (Nat.le_of_ble_eq_true rfl) rfl (g_M_areJoinedOver (d := d + 0) _ eq19) ?_
        by_cases c20 : q19 = 0
        · rw [if_pos c20] at h
          refine xef_ne_t rfl c20 ?_
          refine xeb 3 (pc' := 124) (ls' := [.ref 131, z1, z2, z3, z4, z5, .int v6, .int v7, .int v8, .int (v9 + 1), z10]) (st' := []) rfl ?_
          exact ih v6 v7 v8 (v9 + 1) I h _ _ _ _ _ _
        · rw [if_neg c20] at h
          refine xef_ne_f rfl c20 ?_
          refine xeb 1 (pc' := 158) (ls' := [.ref 131, z1, z2, z3, z4, z5, .int v6, .int v7, .int v8, .int v9, z10]) (st' := [.ref 131]) rfl ?_
          refine xegf2 rfl xsh131 (by decide) rfl ?_
          refine xeb 1 (pc' := 163) (ls' := [.ref 131, z1, z2, z3, z4, z5, .int v6, .int v7, .int v8, .int v9, z10]) (st' := [.int v8, .ref 167]) rfl ?_
          obtain ⟨b21, h⟩ := xck_some h
          refine xeia rfl xsh167 b21 ?_
          refine xeb 3 (pc' := 169) (ls' := [.ref 131, z1, z2, z3, z4, z5, .int v6, .int v7, .int v8, .int v9, z10]) (st' := [.int v9, .int v8, .ref 131, .int (I 167 (xN v8))]) rfl ?_
          obtain ⟨q22, eq22, h⟩ := xbind_some h
          refine xcallV rfl xsh131 rfl rfl rfl (Nat.le_of_ble_eq_true rfl) (Nat.le_of_ble_eq_true rfl) (Nat.le_of_ble_eq_true rfl) rfl (g_M_wayOver (d := d + 1) _ eq22) ?_
          refine xeb 4 (pc' := 178) (ls' := [.ref 131, z1, z2, z3, z4, z5, .int v6, .int v7, .int v8, .int v9, .int ((I 167 (xN v8)) + q22.1)]) (st' := [.ref 131, .int ((I 167 (xN v8)) + q22.1)]) rfl ?_
          refine xegf2 rfl xsh131 (by decide) rfl ?_
          refine xeb 3 (pc' := 186) (ls' := [.ref 131, z1, z2, z3, z4, z5, .int v6, .int v7, .int v8, .int v9, .int ((I 167 (xN v8)) + q22.1)]) (st' := [.int v9, .int v8, .ref 131, .ref 167, .int ((I 167 (xN v8)) + q22.1)]) rfl ?_
          obtain ⟨q23, eq23, h⟩ := xbind_some h
          refine xcallV rfl xsh131 rfl rfl rfl (Nat.le_of_ble_eq_true rfl) (Nat.le_of_ble_eq_true rfl) (Nat.le_of_ble_eq_true rfl) rfl (g_M_overTo (d := d + 2) _ eq23) ?_
          obtain ⟨b24, h⟩ := xck_some h
          refine xeia rfl xsh167 b24 ?_
          by_cases c25 : ((I 167 (xN v8)) + q22.1) < (q22.2 167 (xN q23))
          · rw [if_pos c25] at h
            refine xei_lt_t rfl c25 ?_
            refine xeb 1 (pc' := 197) (ls' := [.ref 131, z1, z2, z3, z4, z5, .int v6, .int v7, .int v8, .int v9, .int ((I 167 (xN v8)) + q22.1)]) (st' := [.ref 131]) rfl ?_
            refine xegf2 rfl xsh131 (by decide) rfl ?_
            refine xeb 3 (pc' := 205) (ls' := [.ref 131, z1, z2, z3, z4, z5, .int v6, .int v7, .int v8, .int v9, .int ((I 167 (xN v8)) + q22.1)]) (st' := [.int v9, .int v8, .ref 131, .ref 167]) rfl ?_
            obtain ⟨q26, eq26, h⟩ := xbind_some h
            refine xcallV rfl xsh131 rfl rfl rfl (Nat.le_of_ble_eq_true rfl) (Nat.le_of_ble_eq_true rfl) (Nat.le_of_ble_eq_true rfl) rfl (g_M_overTo (d := d + 2) _ eq26) ?_
            refine xeb 1 (pc' := 210) (ls' := [.ref 131, z1, z2, z3, z4, z5, .int v6, .int v7, .int v8, .int v9, .int ((I 167 (xN v8)) + q22.1)]) (st' := [.int ((I 167 (xN v8)) + q22.1), .int q26, .ref 167]) rfl ?_
            obtain ⟨b27, h⟩ := xck_some h
            refine xeis rfl xsh167 b27 ?_
            obtain ⟨I28, hI28, h⟩ := xst_some h
            rw [← hI28]
            refine xeb 4 (pc' := 124) (ls' := [.ref 131, z1, z2, z3, z4, z5, .int v6, .int 1, .int v8, .int (v9 + 1), .int ((I 167 (xN v8)) + q22.1)]) (st' := []) rfl ?_
            exact ih v6 1 v8 (v9 + 1) I28 h _ _ _ _ _ _
          · rw [if_neg c25] at h
            refine xei_lt_f rfl c25 ?_
            refine xeb 3 (pc' := 124) (ls' := [.ref 131, z1, z2, z3, z4, z5, .int v6, .int v7, .int v8, .int (v9 + 1), .int ((I 167 (xN v8)) + q22.1)]) (st' := []) rfl ?_
            exact ih v6 v7 v8 (v9 + 1) q22.2 h _ _ _ _ _ _
noncomputable def f_M_far_114 (F : Nat) (k103 : Int32 → Int32 → XI → Option (Int32 × XI)) : Nat → Int32 → Int32 → Int32 → XI → Option (Int32 × XI)
  | 0, _, _, _, _ => none
  | n + 1, v6, v7, v8, I =>
    if 30 ≤ v8 then (k103 v6 v7 I) else (f_M_far_124 F (fun v6 v7 v8 I => f_M_far_114 F k103 n v6 v7 v8 I) F v6 v7 v8 0 I)
theorem g_M_far_114 {X : XX} {d : Nat} {L : XL} {F : Nat} {k103 : Int32 → Int32 → XI → Option (Int32 × XI)}  {r : Int32 × XI} (hk103 : ∀ (v6 : Int32) (v7 : Int32) (I : XI), k103 v6 v7 I = some r → ∀ (z1 : Value) (z2 : Value) (z3 : Value) (z4 : Value) (z5 : Value) (z8 : Value) (z9 : Value) (z10 : Value), xEv X (d + 5) 232 103 [.ref 131, z1, z2, z3, z4, z5, .int v6, .int v7, z8, z9, z10] [] I L (some (.int r.1)) r.2 L) : ∀ (n : Nat) (v6 : Int32) (v7 : Int32) (v8 : Int32) (I : XI), f_M_far_114 F k103 n v6 v7 v8 I = some r → ∀ (z1 : Value) (z2 : Value) (z3 : Value) (z4 : Value) (z5 : Value) (z9 : Value) (z10 : Value), xEv X (d + 5) 232 114 [.ref 131, z1, z2, z3, z4, z5, .int v6, .int v7, .int v8, z9, z10] [] I L (some (.int r.1)) r.2 L := by
  intro n
  induction n with
  | zero => intro v6 v7 v8 I h; rw [f_M_far_114] at h; cases h
  | succ n ih =>
    intro v6 v7 v8 I h z1 z2 z3 z4 z5 z9 z10
    rw [f_M_far_114] at h
    refine xeb 2 (pc' := 118) (ls' := [.ref 131, z1, z2, z3, z4, z5, .int v6, .int v7, .int v8, z9, z10]) (st' := [.int 30, .int v8]) rfl ?_
    by_cases c15 : 30 ≤ v8
    · rw [if_pos c15] at h
      refine xei_ge_t rfl c15 ?_
      refine xeb 1 (pc' := 103) (ls' := [.ref 131, z1, z2, z3, z4, z5, .int v6, .int v7, .int v8, z9, z10]) (st' := []) rfl ?_
      exact hk103 v6 v7 I h _ _ _ _ _ _ _ _
    · rw [if_neg c15] at h
      refine xei_ge_f rfl c15 ?_
      refine xeb 2 (pc' := 124) (ls' := [.ref 131, z1, z2, z3, z4, z5, .int v6, .int v7, .int v8, .int 0, z10]) (st' := []) rfl ?_
      exact g_M_far_124 (fun v6 v7 v8 I h' z1 z2 z3 z4 z5 z9 z10 => ih v6 v7 v8 I h' z1 z2 z3 z4 z5 z9 z10) F v6 v7 v8 0 I h _ _ _ _ _ _
noncomputable def f_M_far_103 (F : Nat) : Nat → Int32 → Int32 → XI → Option (Int32 × XI)
  | 0, _, _, _ => none
  | n + 1, v6, v7, I =>
    if v7 = 0 then (xck (xin v6 30) (if (I 167 (xN v6)) < 99999 then (xck (xin v6 30) (some ((I 167 (xN v6)), I))) else (some ((-2), I)))) else (f_M_far_114 F (fun v6 v7 I => f_M_far_103 F n v6 v7 I) F v6 0 0 I)
theorem g_M_far_103 {X : XX} {d : Nat} {L : XL} {F : Nat}  {r : Int32 × XI}  : ∀ (n : Nat) (v6 : Int32) (v7 : Int32) (I : XI), f_M_far_103 F n v6 v7 I = some r → ∀ (z1 : Value) (z2 : Value) (z3 : Value) (z4 : Value) (z5 : Value) (z8 : Value) (z9 : Value) (z10 : Value), xEv X (d + 5) 232 103 [.ref 131, z1, z2, z3, z4, z5, .int v6, .int v7, z8, z9, z10] [] I L (some (.int r.1)) r.2 L := by
  intro n
  induction n with
  | zero => intro v6 v7 I h; rw [f_M_far_103] at h; cases h
  | succ n ih =>
    intro v6 v7 I h z1 z2 z3 z4 z5 z8 z9 z10
    rw [f_M_far_103] at h
    refine xeb 1 (pc' := 105) (ls' := [.ref 131, z1, z2, z3, z4, z5, .int v6, .int v7, z8, z9, z10]) (st' := [.int v7]) rfl ?_
    by_cases c11 : v7 = 0
    · rw [if_pos c11] at h
      refine xef_eq_t rfl c11 ?_
      refine xeb 1 (pc' := 230) (ls' := [.ref 131, z1, z2, z3, z4, z5, .int v6, .int v7, z8, z9, z10]) (st' := [.ref 131]) rfl ?_
      refine xegf2 rfl xsh131 (by decide) rfl ?_
      refine xeb 1 (pc' := 235) (ls' := [.ref 131, z1, z2, z3, z4, z5, .int v6, .int v7, z8, z9, z10]) (st' := [.int v6, .ref 167]) rfl ?_
      obtain ⟨b12, h⟩ := xck_some h
      refine xeia rfl xsh167 b12 ?_
      refine xeb 1 (pc' := 239) (ls' := [.ref 131, z1, z2, z3, z4, z5, .int v6, .int v7, z8, z9, z10]) (st' := [.int 99999, .int (I 167 (xN v6))]) rfl ?_
      by_cases c13 : (I 167 (xN v6)) < 99999
      · rw [if_pos c13] at h
        refine xei_lt_t rfl c13 ?_
        refine xeb 1 (pc' := 248) (ls' := [.ref 131, z1, z2, z3, z4, z5, .int v6, .int v7, z8, z9, z10]) (st' := [.ref 131]) rfl ?_
        refine xegf2 rfl xsh131 (by decide) rfl ?_
        refine xeb 1 (pc' := 253) (ls' := [.ref 131, z1, z2, z3, z4, z5, .int v6, .int v7, z8, z9, z10]) (st' := [.int v6, .ref 167]) rfl ?_
        obtain ⟨b14, h⟩ := xck_some h
        refine xeia rfl xsh167 b14 ?_
        obtain rfl := Option.some.inj h
        exact xeiret rfl rfl
      · rw [if_neg c13] at h
        refine xei_lt_f rfl c13 ?_
        refine xeb 2 (pc' := 254) (ls' := [.ref 131, z1, z2, z3, z4, z5, .int v6, .int v7, z8, z9, z10]) (st' := [.int (-2)]) rfl ?_
        obtain rfl := Option.some.inj h
        exact xeiret rfl rfl
    · rw [if_neg c11] at h
      refine xef_eq_f rfl c11 ?_
      refine xeb 4 (pc' := 114) (ls' := [.ref 131, z1, z2, z3, z4, z5, .int v6, .int 0, .int 0, z9, z10]) (st' := []) rfl ?_
      exact g_M_far_114 (fun v6 v7 I h' z1 z2 z3 z4 z5 z8 z9 z10 => ih v6 v7 I h' z1 z2 z3 z4 z5 z8 z9 z10) F v6 0 0 I h _ _ _ _ _ _ _
noncomputable def f_M_far_93 (F : Nat) (k66 : Int32 → Int32 → Int32 → XI → Option (Int32 × XI)) (v5 : Int32) (v6 : Int32) (v7 : Int32) (s1 : Int32) (s2 : Int32) (I : XI) : Option (Int32 × XI) :=
  xck (xin s1 30) (xst (xput I 167 (xN s1) s2) fun I31 => k66 v5 v6 (v7 + 1) I31)
theorem g_M_far_93 {X : XX} {d : Nat} {L : XL} {F : Nat} {k66 : Int32 → Int32 → Int32 → XI → Option (Int32 × XI)}  {r : Int32 × XI} (hk66 : ∀ (v5 : Int32) (v6 : Int32) (v7 : Int32) (I : XI), k66 v5 v6 v7 I = some r → ∀ (z1 : Value) (z2 : Value) (z3 : Value) (z4 : Value) (z8 : Value) (z9 : Value) (z10 : Value), xEv X (d + 5) 232 66 [.ref 131, z1, z2, z3, z4, .int v5, .int v6, .int v7, z8, z9, z10] [] I L (some (.int r.1)) r.2 L) {v5 : Int32} {v6 : Int32} {v7 : Int32} {s1 : Int32} {s2 : Int32} {I : XI} (h : f_M_far_93 F k66 v5 v6 v7 s1 s2 I = some r) (z1 : Value) (z2 : Value) (z3 : Value) (z4 : Value) (z8 : Value) (z9 : Value) (z10 : Value) : xEv X (d + 5) 232 93 [.ref 131, z1, z2, z3, z4, .int v5, .int v6, .int v7, z8, z9, z10] [.int s2, .int s1, .ref 167] I L (some (.int r.1)) r.2 L := by
  rw [f_M_far_93] at h
  obtain ⟨b30, h⟩ := xck_some h
  refine xeis rfl xsh167 b30 ?_
  obtain ⟨I31, hI31, h⟩ := xst_some h
  rw [← hI31]
  refine xeb 2 (pc' := 66) (ls' := [.ref 131, z1, z2, z3, z4, .int v5, .int v6, .int (v7 + 1), z8, z9, z10]) (st' := []) rfl ?_
  exact hk66 v5 v6 (v7 + 1) I31 h _ _ _ _ _ _ _
noncomputable def f_M_far_66 (F : Nat) : Nat → Int32 → Int32 → Int32 → XI → Option (Int32 × XI)
  | 0, _, _, _, _ => none
  | n + 1, v5, v6, v7, I =>
    if 30 ≤ v7 then (f_M_far_103 F F v6 1 I) else (f_M_far_93 F (fun v5 v6 v7 I => f_M_far_66 F n v5 v6 v7 I) v5 v6 v7 v7 (if v7 = v5 then 0 else 99999) I)
theorem g_M_far_66 {X : XX} {d : Nat} {L : XL} {F : Nat}  {r : Int32 × XI}  : ∀ (n : Nat) (v5 : Int32) (v6 : Int32) (v7 : Int32) (I : XI), f_M_far_66 F n v5 v6 v7 I = some r → ∀ (z1 : Value) (z2 : Value) (z3 : Value) (z4 : Value) (z8 : Value) (z9 : Value) (z10 : Value), xEv X (d + 5) 232 66 [.ref 131, z1, z2, z3, z4, .int v5, .int v6, .int v7, z8, z9, z10] [] I L (some (.int r.1)) r.2 L := by
  intro n
  induction n with
  | zero => intro v5 v6 v7 I h; rw [f_M_far_66] at h; cases h
  | succ n ih =>
    intro v5 v6 v7 I h z1 z2 z3 z4 z8 z9 z10
    rw [f_M_far_66] at h
    refine xeb 2 (pc' := 70) (ls' := [.ref 131, z1, z2, z3, z4, .int v5, .int v6, .int v7, z8, z9, z10]) (st' := [.int 30, .int v7]) rfl ?_
    by_cases c10 : 30 ≤ v7
    · rw [if_pos c10] at h
      refine xei_ge_t rfl c10 ?_
      refine xeb 2 (pc' := 103) (ls' := [.ref 131, z1, z2, z3, z4, .int v5, .int v6, .int 1, z8, z9, z10]) (st' := []) rfl ?_
      exact g_M_far_103 F v6 1 I h _ _ _ _ _ _ _ _
    · rw [if_neg c10] at h
      refine xei_ge_f rfl c10 ?_
      refine xeb 1 (pc' := 74) (ls' := [.ref 131, z1, z2, z3, z4, .int v5, .int v6, .int v7, z8, z9, z10]) (st' := [.ref 131]) rfl ?_
      refine xegf2 rfl xsh131 (by decide) rfl ?_
      refine xeb 3 (pc' := 83) (ls' := [.ref 131, z1, z2, z3, z4, .int v5, .int v6, .int v7, z8, z9, z10]) (st' := [.int v5, .int v7, .int v7, .ref 167]) rfl ?_
      have hj : xEv X (d + 5) 232 93 [.ref 131, z1, z2, z3, z4, .int v5, .int v6, .int v7, z8, z9, z10] [.int (if v7 = v5 then 0 else 99999), .int v7, .ref 167] I L (some (.int r.1)) r.2 L := by
        exact g_M_far_93 (fun v5 v6 v7 I h' z1 z2 z3 z4 z8 z9 z10 => ih v5 v6 v7 I h' z1 z2 z3 z4 z8 z9 z10) h _ _ _ _ _ _ _
      by_cases c29 : v7 = v5
      · simp only [if_pos c29] at hj
        refine xei_ne_t rfl c29 ?_
        exact xeb 2 rfl hj
      · simp only [if_neg c29] at hj
        refine xei_ne_f rfl c29 ?_
        exact xeb 1 rfl hj
noncomputable def f_M_far (F : Nat) (a1 : Int32) (a2 : Int32) (a3 : Int32) (a4 : Int32) (I : XI) : Option (Int32 × XI) :=
  (f_M_isCell I a1 a2).bind fun q1 => if q1 = 0 then (some ((-1), I)) else ((f_M_isCell I a3 a4).bind fun q3 => if q3 = 0 then (some ((-1), I)) else ((f_M_copies F I).bind fun q5 => (f_M_doesLie q5 ((6 * a2) + a1)).bind fun q6 => if q6 = 0 then (some ((-2), q5)) else ((f_M_doesLie q5 ((6 * a4) + a3)).bind fun q8 => if q8 = 0 then (some ((-2), q5)) else (f_M_far_66 F F ((6 * a2) + a1) ((6 * a4) + a3) 0 q5))))
theorem g_M_far {X : XX} {d : Nat} {L : XL} {F : Nat} {a1 : Int32} {a2 : Int32} {a3 : Int32} {a4 : Int32} {I : XI}  (r : Int32 × XI) (h : f_M_far F a1 a2 a3 a4 I = some r) : xEv X (d + 5) 232 0 [.ref 131, .int a1, .int a2, .int a3, .int a4, .null, .null, .null, .null, .null, .null] [] I L (some (.int r.1)) r.2 L := by
  rw [f_M_far] at h
  refine xeb 3 (pc' := 3) (ls' := [.ref 131, .int a1, .int a2, .int a3, .int a4, .null, .null, .null, .null, .null, .null]) (st' := [.int a2, .int a1, .ref 131]) rfl ?_
  obtain ⟨q1, eq1, h⟩ := xbind_some h
  refine xcallV rfl xsh131 rfl rfl rfl (Nat.le_of_ble_eq_true rfl) (Nat.le_of_ble_eq_true rfl) (Nat.le_of_ble_eq_true rfl) rfl (g_M_isCell (d := d + 3) _ eq1) ?_
  by_cases c2 : q1 = 0
  · rw [if_pos c2] at h
    refine xef_eq_t rfl c2 ?_
    refine xeb 1 (pc' := 20) (ls' := [.ref 131, .int a1, .int a2, .int a3, .int a4, .null, .null, .null, .null, .null, .null]) (st' := [.int (-1)]) rfl ?_
    obtain rfl := Option.some.inj h
    exact xeiret rfl rfl
  · rw [if_neg c2] at h
    refine xef_eq_f rfl c2 ?_
    refine xeb 3 (pc' := 13) (ls' := [.ref 131, .int a1, .int a2, .int a3, .int a4, .null, .null, .null, .null, .null, .null]) (st' := [.int a4, .int a3, .ref 131]) rfl ?_
    obtain ⟨q3, eq3, h⟩ := xbind_some h
    refine xcallV rfl xsh131 rfl rfl rfl (Nat.le_of_ble_eq_true rfl) (Nat.le_of_ble_eq_true rfl) (Nat.le_of_ble_eq_true rfl) rfl (g_M_isCell (d := d + 3) _ eq3) ?_
    by_cases c4 : q3 = 0
    · rw [if_pos c4] at h
      refine xef_ne_t rfl c4 ?_
      refine xeb 1 (pc' := 20) (ls' := [.ref 131, .int a1, .int a2, .int a3, .int a4, .null, .null, .null, .null, .null, .null]) (st' := [.int (-1)]) rfl ?_
      obtain rfl := Option.some.inj h
      exact xeiret rfl rfl
    · rw [if_neg c4] at h
      refine xef_ne_f rfl c4 ?_
      refine xeb 1 (pc' := 22) (ls' := [.ref 131, .int a1, .int a2, .int a3, .int a4, .null, .null, .null, .null, .null, .null]) (st' := [.ref 131]) rfl ?_
      obtain ⟨q5, eq5, h⟩ := xbind_some h
      refine xcallV rfl xsh131 rfl rfl rfl (Nat.le_of_ble_eq_true rfl) (Nat.le_of_ble_eq_true rfl) (Nat.le_of_ble_eq_true rfl) rfl (g_M_copies (d := d + 4) _ eq5) ?_
      refine xeb 14 (pc' := 45) (ls' := [.ref 131, .int a1, .int a2, .int a3, .int a4, .int ((6 * a2) + a1), .int ((6 * a4) + a3), .null, .null, .null, .null]) (st' := [.int ((6 * a2) + a1), .ref 131]) rfl ?_
      obtain ⟨q6, eq6, h⟩ := xbind_some h
      refine xcallV rfl xsh131 rfl rfl rfl (Nat.le_of_ble_eq_true rfl) (Nat.le_of_ble_eq_true rfl) (Nat.le_of_ble_eq_true rfl) rfl (g_M_doesLie (d := d + 4) _ eq6) ?_
      by_cases c7 : q6 = 0
      · rw [if_pos c7] at h
        refine xef_eq_t rfl c7 ?_
        refine xeb 1 (pc' := 62) (ls' := [.ref 131, .int a1, .int a2, .int a3, .int a4, .int ((6 * a2) + a1), .int ((6 * a4) + a3), .null, .null, .null, .null]) (st' := [.int (-2)]) rfl ?_
        obtain rfl := Option.some.inj h
        exact xeiret rfl rfl
      · rw [if_neg c7] at h
        refine xef_eq_f rfl c7 ?_
        refine xeb 2 (pc' := 54) (ls' := [.ref 131, .int a1, .int a2, .int a3, .int a4, .int ((6 * a2) + a1), .int ((6 * a4) + a3), .null, .null, .null, .null]) (st' := [.int ((6 * a4) + a3), .ref 131]) rfl ?_
        obtain ⟨q8, eq8, h⟩ := xbind_some h
        refine xcallV rfl xsh131 rfl rfl rfl (Nat.le_of_ble_eq_true rfl) (Nat.le_of_ble_eq_true rfl) (Nat.le_of_ble_eq_true rfl) rfl (g_M_doesLie (d := d + 4) _ eq8) ?_
        by_cases c9 : q8 = 0
        · rw [if_pos c9] at h
          refine xef_ne_t rfl c9 ?_
          refine xeb 1 (pc' := 62) (ls' := [.ref 131, .int a1, .int a2, .int a3, .int a4, .int ((6 * a2) + a1), .int ((6 * a4) + a3), .null, .null, .null, .null]) (st' := [.int (-2)]) rfl ?_
          obtain rfl := Option.some.inj h
          exact xeiret rfl rfl
        · rw [if_neg c9] at h
          refine xef_ne_f rfl c9 ?_
          refine xeb 2 (pc' := 66) (ls' := [.ref 131, .int a1, .int a2, .int a3, .int a4, .int ((6 * a2) + a1), .int ((6 * a4) + a3), .int 0, .null, .null, .null]) (st' := []) rfl ?_
          exact g_M_far_66 F ((6 * a2) + a1) ((6 * a4) + a3) 0 q5 h _ _ _ _ _ _ _
noncomputable def f_Table_piecesFit (S0 : Nat) (I : XI) (a1 : Int32) (a2 : Int32) : Option (Int32) :=
  (f_Table_beside S0 I a1 a2).bind fun q1 => if q1 = (-1) then (some 0) else ((f_Table_isPiece S0 I a1).bind fun q3 => if q3 = 0 then (some 0) else ((f_Table_isPiece S0 I q1).bind fun q5 => if q5 = 0 then (some 0) else (xck (xin ((a1 * 4) + a2) 120) ((f_H_opposite a2).bind fun q8 => xck (xin ((q1 * 4) + q8) 120) (xck (xnarz (if ((I (S0 + 2) (xN ((a1 * 4) + a2))) + (I (S0 + 2) (xN ((q1 * 4) + q8)))) = 0 then 1 else 0)) (some (if ((I (S0 + 2) (xN ((a1 * 4) + a2))) + (I (S0 + 2) (xN ((q1 * 4) + q8)))) = 0 then 1 else 0)))))))
theorem g_Table_piecesFit {X : XX} {d : Nat} {L : XL} {S0 : Nat} {I : XI} {a1 : Int32} {a2 : Int32} (hS0 : xisTb S0) (r : Int32) (h : f_Table_piecesFit S0 I a1 a2 = some r) : xEv X (d + 1) 233 0 [.ref S0, .int a1, .int a2, .null] [] I L (some (.int r)) I L := by
  rw [f_Table_piecesFit] at h
  refine xeb 3 (pc' := 3) (ls' := [.ref S0, .int a1, .int a2, .null]) (st' := [.int a2, .int a1, .ref S0]) rfl ?_
  obtain ⟨q1, eq1, h⟩ := xbind_some h
  refine xcallV rfl hS0.1 rfl rfl rfl (Nat.le_of_ble_eq_true rfl) (Nat.le_of_ble_eq_true rfl) (Nat.le_of_ble_eq_true rfl) rfl (g_Table_beside (d := d + 0) hS0 _ eq1) ?_
  refine xeb 3 (pc' := 9) (ls' := [.ref S0, .int a1, .int a2, .int q1]) (st' := [.int (-1), .int q1]) rfl ?_
  by_cases c2 : q1 = (-1)
  · rw [if_pos c2] at h
    refine xei_eq_t rfl c2 ?_
    refine xeb 1 (pc' := 60) (ls' := [.ref S0, .int a1, .int a2, .int q1]) (st' := [.int 0]) rfl ?_
    obtain rfl := Option.some.inj h
    exact xeiret rfl rfl
  · rw [if_neg c2] at h
    refine xei_eq_f rfl c2 ?_
    refine xeb 2 (pc' := 14) (ls' := [.ref S0, .int a1, .int a2, .int q1]) (st' := [.int a1, .ref S0]) rfl ?_
    obtain ⟨q3, eq3, h⟩ := xbind_some h
    refine xcallV rfl hS0.1 rfl rfl rfl (Nat.le_of_ble_eq_true rfl) (Nat.le_of_ble_eq_true rfl) (Nat.le_of_ble_eq_true rfl) rfl (g_Table_isPiece (d := d + 0) hS0 _ eq3) ?_
    by_cases c4 : q3 = 0
    · rw [if_pos c4] at h
      refine xef_eq_t rfl c4 ?_
      refine xeb 1 (pc' := 60) (ls' := [.ref S0, .int a1, .int a2, .int q1]) (st' := [.int 0]) rfl ?_
      obtain rfl := Option.some.inj h
      exact xeiret rfl rfl
    · rw [if_neg c4] at h
      refine xef_eq_f rfl c4 ?_
      refine xeb 2 (pc' := 22) (ls' := [.ref S0, .int a1, .int a2, .int q1]) (st' := [.int q1, .ref S0]) rfl ?_
      obtain ⟨q5, eq5, h⟩ := xbind_some h
      refine xcallV rfl hS0.1 rfl rfl rfl (Nat.le_of_ble_eq_true rfl) (Nat.le_of_ble_eq_true rfl) (Nat.le_of_ble_eq_true rfl) rfl (g_Table_isPiece (d := d + 0) hS0 _ eq5) ?_
      by_cases c6 : q5 = 0
      · rw [if_pos c6] at h
        refine xef_eq_t rfl c6 ?_
        refine xeb 1 (pc' := 60) (ls' := [.ref S0, .int a1, .int a2, .int q1]) (st' := [.int 0]) rfl ?_
        obtain rfl := Option.some.inj h
        exact xeiret rfl rfl
      · rw [if_neg c6] at h
        refine xef_eq_f rfl c6 ?_
        refine xeb 1 (pc' := 29) (ls' := [.ref S0, .int a1, .int a2, .int q1]) (st' := [.ref S0]) rfl ?_
        refine xegf2 rfl hS0.1 (by decide) rfl ?_
        refine xeb 5 (pc' := 37) (ls' := [.ref S0, .int a1, .int a2, .int q1]) (st' := [.int ((a1 * 4) + a2), .ref (S0 + 2)]) rfl ?_
        obtain ⟨b7, h⟩ := xck_some h
        refine xeia rfl hS0.2.2.1 b7 ?_
        refine xeb 1 (pc' := 39) (ls' := [.ref S0, .int a1, .int a2, .int q1]) (st' := [.ref S0, .int (I (S0 + 2) (xN ((a1 * 4) + a2)))]) rfl ?_
        refine xegf2 rfl hS0.1 (by decide) rfl ?_
        refine xeb 4 (pc' := 46) (ls' := [.ref S0, .int a1, .int a2, .int q1]) (st' := [.int a2, .int (q1 * 4), .ref (S0 + 2), .int (I (S0 + 2) (xN ((a1 * 4) + a2)))]) rfl ?_
        obtain ⟨q8, eq8, h⟩ := xbind_some h
        refine xcallS30 rfl rfl rfl (Nat.le_of_ble_eq_true rfl) (Nat.le_of_ble_eq_true rfl) (Nat.le_of_ble_eq_true rfl) rfl (g_H_opposite (d := d + 0) _ eq8) ?_
        refine xeb 1 (pc' := 50) (ls' := [.ref S0, .int a1, .int a2, .int q1]) (st' := [.int ((q1 * 4) + q8), .ref (S0 + 2), .int (I (S0 + 2) (xN ((a1 * 4) + a2)))]) rfl ?_
        obtain ⟨b9, h⟩ := xck_some h
        refine xeia rfl hS0.2.2.1 b9 ?_
        refine xeb 1 (pc' := 52) (ls' := [.ref S0, .int a1, .int a2, .int q1]) (st' := [.int ((I (S0 + 2) (xN ((a1 * 4) + a2))) + (I (S0 + 2) (xN ((q1 * 4) + q8))))]) rfl ?_
        have hj : xEv X (d + 1) 233 60 [.ref S0, .int a1, .int a2, .int q1] [.int (if ((I (S0 + 2) (xN ((a1 * 4) + a2))) + (I (S0 + 2) (xN ((q1 * 4) + q8)))) = 0 then 1 else 0)] I L (some (.int r)) I L := by
          obtain ⟨b11, h⟩ := xck_some h
          obtain rfl := Option.some.inj h
          exact xeiret rfl b11
        by_cases c10 : ((I (S0 + 2) (xN ((a1 * 4) + a2))) + (I (S0 + 2) (xN ((q1 * 4) + q8)))) = 0
        · simp only [if_pos c10] at hj
          refine xef_ne_t rfl c10 ?_
          exact xeb 2 rfl hj
        · simp only [if_neg c10] at hj
          refine xef_ne_f rfl c10 ?_
          exact xeb 1 rfl hj
