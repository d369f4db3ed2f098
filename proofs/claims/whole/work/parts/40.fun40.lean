/-! the methods as functions, and that a run answers so (by gen6.py) -/
noncomputable def f_M_count_164 (F : Nat) : Nat → Int32 → Int32 → XI → Option (Int32 × XI)
  | 0, _, _, _ => none
  | n + 1, v2, v3, I =>
    if 30 ≤ v3 then (some (v2, I)) else ((f_M_isThere I v3).bind fun q22 => if q22 = 0 then (f_M_count_164 F n v2 (v3 + 1) I) else ((f_M_isHole I v3).bind fun q24 => if q24 = 0 then (f_M_count_164 F n v2 (v3 + 1) I) else (f_M_count_164 F n (v2 + 1) (v3 + 1) I)))
theorem g_M_count_164 {X : XX} {d : Nat} {L : XL} {F : Nat}  {r : Int32 × XI}  : ∀ (n : Nat) (v2 : Int32) (v3 : Int32) (I : XI), f_M_count_164 F n v2 v3 I = some r → ∀ (z1 : Value), xEv X (d + 5) 293 164 [.ref 131, z1, .int v2, .int v3] [] I L (some (.int r.1)) r.2 L := by
  intro n
  induction n with
  | zero => intro v2 v3 I h; rw [f_M_count_164] at h; cases h
  | succ n ih =>
    intro v2 v3 I h z1
    rw [f_M_count_164] at h
    refine xeb 2 (pc' := 167) (ls' := [.ref 131, z1, .int v2, .int v3]) (st' := [.int 30, .int v3]) rfl ?_
    by_cases c21 : 30 ≤ v3
    · rw [if_pos c21] at h
      refine xei_ge_t rfl c21 ?_
      refine xeb 1 (pc' := 196) (ls' := [.ref 131, z1, .int v2, .int v3]) (st' := [.int v2]) rfl ?_
      obtain rfl := Option.some.inj h
      exact xeiret rfl rfl
    · rw [if_neg c21] at h
      refine xei_ge_f rfl c21 ?_
      refine xeb 2 (pc' := 172) (ls' := [.ref 131, z1, .int v2, .int v3]) (st' := [.int v3, .ref 131]) rfl ?_
      obtain ⟨q22, eq22, h⟩ := xbind_some h
      refine xcallV rfl xsh131 rfl rfl rfl (Nat.le_of_ble_eq_true rfl) (Nat.le_of_ble_eq_true rfl) (Nat.le_of_ble_eq_true rfl) rfl (g_M_isThere (d := d + 2) _ eq22) ?_
      by_cases c23 : q22 = 0
      · rw [if_pos c23] at h
        refine xef_eq_t rfl c23 ?_
        refine xeb 2 (pc' := 164) (ls' := [.ref 131, z1, .int v2, .int (v3 + 1)]) (st' := []) rfl ?_
        exact ih v2 (v3 + 1) I h _
      · rw [if_neg c23] at h
        refine xef_eq_f rfl c23 ?_
        refine xeb 2 (pc' := 180) (ls' := [.ref 131, z1, .int v2, .int v3]) (st' := [.int v3, .ref 131]) rfl ?_
        obtain ⟨q24, eq24, h⟩ := xbind_some h
        refine xcallV rfl xsh131 rfl rfl rfl (Nat.le_of_ble_eq_true rfl) (Nat.le_of_ble_eq_true rfl) (Nat.le_of_ble_eq_true rfl) rfl (g_M_isHole (d := d + 3) _ eq24) ?_
        by_cases c25 : q24 = 0
        · rw [if_pos c25] at h
          refine xef_eq_t rfl c25 ?_
          refine xeb 2 (pc' := 164) (ls' := [.ref 131, z1, .int v2, .int (v3 + 1)]) (st' := []) rfl ?_
          exact ih v2 (v3 + 1) I h _
        · rw [if_neg c25] at h
          refine xef_eq_f rfl c25 ?_
          refine xeb 3 (pc' := 164) (ls' := [.ref 131, (xkv z1), .int (v2 + 1), .int (v3 + 1)]) (st' := []) rfl ?_
          exact ih (v2 + 1) (v3 + 1) I h _
noncomputable def f_M_count_240 (F : Nat) (s0 : Int32) (s1 : Int32) (I : XI) : Option (Int32 × XI) :=
  xck (xin 2 3) (some (((s0 + s1) + (if (I 173 (xN 2)) = 0 then 0 else 1)), I))
theorem g_M_count_240 {X : XX} {d : Nat} {L : XL} {F : Nat}  {r : Int32 × XI}  {s0 : Int32} {s1 : Int32} {I : XI} (h : f_M_count_240 F s0 s1 I = some r) (z1 : Value) (z2 : Value) (z3 : Value) : xEv X (d + 5) 293 240 [.ref 131, z1, z2, z3] [.int s1, .int s0] I L (some (.int r.1)) r.2 L := by
  rw [f_M_count_240] at h
  refine xeb 2 (pc' := 242) (ls' := [.ref 131, z1, z2, z3]) (st' := [.ref 131, .int (s0 + s1)]) rfl ?_
  refine xegf2 rfl xsh131 (by decide) rfl ?_
  refine xeb 1 (pc' := 246) (ls' := [.ref 131, z1, z2, z3]) (st' := [.int 2, .ref 173, .int (s0 + s1)]) rfl ?_
  obtain ⟨b34, h⟩ := xck_some h
  refine xeza rfl xsh173 b34 ?_
  have hj : xEv X (d + 5) 293 255 [.ref 131, z1, z2, z3] [.int (if (I 173 (xN 2)) = 0 then 0 else 1), .int (s0 + s1)] I L (some (.int r.1)) r.2 L := by
    refine xeb 1 (pc' := 256) (ls' := [.ref 131, z1, z2, z3]) (st' := [.int ((s0 + s1) + (if (I 173 (xN 2)) = 0 then 0 else 1))]) rfl ?_
    obtain rfl := Option.some.inj h
    exact xeiret rfl rfl
  by_cases c35 : (I 173 (xN 2)) = 0
  · simp only [if_pos c35] at hj
    refine xef_eq_t rfl c35 ?_
    exact xeb 1 rfl hj
  · simp only [if_neg c35] at hj
    refine xef_eq_f rfl c35 ?_
    exact xeb 2 rfl hj
noncomputable def f_M_count_226 (F : Nat) (s0 : Int32) (I : XI) : Option (Int32 × XI) :=
  xck (xin 1 3) (f_M_count_240 F s0 (if (I 173 (xN 1)) = 0 then 0 else 1) I)
theorem g_M_count_226 {X : XX} {d : Nat} {L : XL} {F : Nat}  {r : Int32 × XI}  {s0 : Int32} {I : XI} (h : f_M_count_226 F s0 I = some r) (z1 : Value) (z2 : Value) (z3 : Value) : xEv X (d + 5) 293 226 [.ref 131, z1, z2, z3] [.int s0] I L (some (.int r.1)) r.2 L := by
  rw [f_M_count_226] at h
  refine xeb 1 (pc' := 227) (ls' := [.ref 131, z1, z2, z3]) (st' := [.ref 131, .int s0]) rfl ?_
  refine xegf2 rfl xsh131 (by decide) rfl ?_
  refine xeb 1 (pc' := 231) (ls' := [.ref 131, z1, z2, z3]) (st' := [.int 1, .ref 173, .int s0]) rfl ?_
  obtain ⟨b32, h⟩ := xck_some h
  refine xeza rfl xsh173 b32 ?_
  have hj : xEv X (d + 5) 293 240 [.ref 131, z1, z2, z3] [.int (if (I 173 (xN 1)) = 0 then 0 else 1), .int s0] I L (some (.int r.1)) r.2 L := by
    exact g_M_count_240 h _ _ _
  by_cases c33 : (I 173 (xN 1)) = 0
  · simp only [if_pos c33] at hj
    refine xef_eq_t rfl c33 ?_
    exact xeb 1 rfl hj
  · simp only [if_neg c33] at hj
    refine xef_eq_f rfl c33 ?_
    exact xeb 2 rfl hj
noncomputable def f_M_count_267 (F : Nat) : Nat → Int32 → Int32 → XI → Option (Int32 × XI)
  | 0, _, _, _ => none
  | n + 1, v2, v3, I =>
    xck (xin (I 131 18) 2) (if (I 146 (xN (I 131 18))) ≤ v3 then (some (v2, I)) else ((f_M_isPressed F I v3).bind fun q41 => if q41 = 0 then (f_M_count_267 F n v2 (v3 + 1) I) else (f_M_count_267 F n (v2 ||| (1 <<< (v3 &&& 31))) (v3 + 1) I)))
theorem g_M_count_267 {X : XX} {d : Nat} {L : XL} {F : Nat}  {r : Int32 × XI}  : ∀ (n : Nat) (v2 : Int32) (v3 : Int32) (I : XI), f_M_count_267 F n v2 v3 I = some r → ∀ (z1 : Value), xEv X (d + 5) 293 267 [.ref 131, z1, .int v2, .int v3] [] I L (some (.int r.1)) r.2 L := by
  intro n
  induction n with
  | zero => intro v2 v3 I h; rw [f_M_count_267] at h; cases h
  | succ n ih =>
    intro v2 v3 I h z1
    rw [f_M_count_267] at h
    refine xeb 2 (pc' := 269) (ls' := [.ref 131, z1, .int v2, .int v3]) (st' := [.ref 131, .int v3]) rfl ?_
    refine xegf2 rfl xsh131 (by decide) rfl ?_
    refine xeb 1 (pc' := 273) (ls' := [.ref 131, z1, .int v2, .int v3]) (st' := [.ref 131, .ref 146, .int v3]) rfl ?_
    refine xegf0 rfl xsh131 (by decide) ?_
    obtain ⟨b39, h⟩ := xck_some h
    refine xeia rfl xsh146 b39 ?_
    by_cases c40 : (I 146 (xN (I 131 18))) ≤ v3
    · rw [if_pos c40] at h
      refine xei_ge_t rfl c40 ?_
      refine xeb 1 (pc' := 301) (ls' := [.ref 131, z1, .int v2, .int v3]) (st' := [.int v2]) rfl ?_
      obtain rfl := Option.some.inj h
      exact xeiret rfl rfl
    · rw [if_neg c40] at h
      refine xei_ge_f rfl c40 ?_
      refine xeb 2 (pc' := 282) (ls' := [.ref 131, z1, .int v2, .int v3]) (st' := [.int v3, .ref 131]) rfl ?_
      obtain ⟨q41, eq41, h⟩ := xbind_some h
      refine xcallV rfl xsh131 rfl rfl rfl (Nat.le_of_ble_eq_true rfl) (Nat.le_of_ble_eq_true rfl) (Nat.le_of_ble_eq_true rfl) rfl (g_M_isPressed (d := d + 1) _ eq41) ?_
      by_cases c42 : q41 = 0
      · rw [if_pos c42] at h
        refine xef_eq_t rfl c42 ?_
        refine xeb 2 (pc' := 267) (ls' := [.ref 131, z1, .int v2, .int (v3 + 1)]) (st' := []) rfl ?_
        exact ih v2 (v3 + 1) I h _
      · rw [if_neg c42] at h
        refine xef_eq_f rfl c42 ?_
        refine xeb 8 (pc' := 267) (ls' := [.ref 131, (xkv z1), .int (v2 ||| (1 <<< (v3 &&& 31))), .int (v3 + 1)]) (st' := []) rfl ?_
        exact ih (v2 ||| (1 <<< (v3 &&& 31))) (v3 + 1) I h _
noncomputable def f_M_count_304 (F : Nat) : Nat → Int32 → Int32 → XI → Option (Int32 × XI)
  | 0, _, _, _ => none
  | n + 1, v2, v3, I =>
    if 5 ≤ v3 then (some (v2, I)) else ((f_M_liesOf F I v3).bind fun q45 => if q45 ≤ 0 then (f_M_count_304 F n v2 (v3 + 1) I) else (f_M_count_304 F n (v2 ||| (1 <<< (v3 &&& 31))) (v3 + 1) I))
theorem g_M_count_304 {X : XX} {d : Nat} {L : XL} {F : Nat}  {r : Int32 × XI}  : ∀ (n : Nat) (v2 : Int32) (v3 : Int32) (I : XI), f_M_count_304 F n v2 v3 I = some r → ∀ (z1 : Value), xEv X (d + 5) 293 304 [.ref 131, z1, .int v2, .int v3] [] I L (some (.int r.1)) r.2 L := by
  intro n
  induction n with
  | zero => intro v2 v3 I h; rw [f_M_count_304] at h; cases h
  | succ n ih =>
    intro v2 v3 I h z1
    rw [f_M_count_304] at h
    refine xeb 2 (pc' := 306) (ls' := [.ref 131, z1, .int v2, .int v3]) (st' := [.int 5, .int v3]) rfl ?_
    by_cases c44 : 5 ≤ v3
    · rw [if_pos c44] at h
      refine xei_ge_t rfl c44 ?_
      refine xeb 1 (pc' := 330) (ls' := [.ref 131, z1, .int v2, .int v3]) (st' := [.int v2]) rfl ?_
      obtain rfl := Option.some.inj h
      exact xeiret rfl rfl
    · rw [if_neg c44] at h
      refine xei_ge_f rfl c44 ?_
      refine xeb 2 (pc' := 311) (ls' := [.ref 131, z1, .int v2, .int v3]) (st' := [.int v3, .ref 131]) rfl ?_
      obtain ⟨q45, eq45, h⟩ := xbind_some h
      refine xcallV rfl xsh131 rfl rfl rfl (Nat.le_of_ble_eq_true rfl) (Nat.le_of_ble_eq_true rfl) (Nat.le_of_ble_eq_true rfl) rfl (g_M_liesOf (d := d + 0) _ eq45) ?_
      by_cases c46 : q45 ≤ 0
      · rw [if_pos c46] at h
        refine xef_le_t rfl c46 ?_
        refine xeb 2 (pc' := 304) (ls' := [.ref 131, z1, .int v2, .int (v3 + 1)]) (st' := []) rfl ?_
        exact ih v2 (v3 + 1) I h _
      · rw [if_neg c46] at h
        refine xef_le_f rfl c46 ?_
        refine xeb 8 (pc' := 304) (ls' := [.ref 131, (xkv z1), .int (v2 ||| (1 <<< (v3 &&& 31))), .int (v3 + 1)]) (st' := []) rfl ?_
        exact ih (v2 ||| (1 <<< (v3 &&& 31))) (v3 + 1) I h _
noncomputable def f_M_count (F : Nat) (a1 : Int32) (I : XI) : Option (Int32 × XI) :=
  (f_M_copies F I).bind fun q1 => if a1 < 0 ∨ 15 < a1 then (some ((-1), q1)) else if a1 = 0 then (xck (xin (q1 131 18) 2) (some ((q1 140 (xN (q1 131 18))), q1))) else if a1 = 1 then (xck (xin (q1 131 18) 2) (some ((q1 141 (xN (q1 131 18))), q1))) else if a1 = 2 then (xck (xin (q1 131 18) 2) (some ((q1 146 (xN (q1 131 18))), q1))) else if a1 = 3 then (xck (xin 30 33) (some ((q1 163 (xN 30)), q1))) else if a1 = 4 then ((f_M_liesOf F q1 (-1)).bind fun q11 => some (q11, q1)) else if a1 = 5 then (xck (xin 31 33) (some ((q1 163 (xN 31)), q1))) else if a1 = 6 then ((f_M_isWet F q1).bind fun q15 => some ((if q15.1 = 0 then 0 else 1), q15.2)) else if a1 = 7 then ((f_M_isKnock q1).bind fun q18 => some ((if q18 = 0 then 0 else 1), q1)) else if a1 = 8 then (f_M_count_164 F F 0 0 q1) else if a1 = 9 then (some ((q1 131 2), q1)) else if a1 = 10 then (some ((q1 131 54), q1)) else if a1 = 11 then (some ((q1 131 59), q1)) else if a1 = 12 then (xck (xin 0 3) (f_M_count_226 F (if (q1 173 (xN 0)) = 0 then 0 else 1) q1)) else if a1 = 13 then (xck (xin 32 33) (some ((q1 163 (xN 32)), q1))) else if a1 = 14 then (f_M_count_267 F F 0 0 q1) else if a1 = 15 then (f_M_count_304 F F 0 0 q1) else none
theorem g_M_count {X : XX} {d : Nat} {L : XL} {F : Nat} {a1 : Int32} {I : XI}  (r : Int32 × XI) (h : f_M_count F a1 I = some r) : xEv X (d + 5) 293 0 [.ref 131, .int a1, .null, .null] [] I L (some (.int r.1)) r.2 L := by
  rw [f_M_count] at h
  refine xeb 1 (pc' := 1) (ls' := [.ref 131, .int a1, .null, .null]) (st' := [.ref 131]) rfl ?_
  obtain ⟨q1, eq1, h⟩ := xbind_some h
  refine xcallV rfl xsh131 rfl rfl rfl (Nat.le_of_ble_eq_true rfl) (Nat.le_of_ble_eq_true rfl) (Nat.le_of_ble_eq_true rfl) rfl (g_M_copies (d := d + 4) _ eq1) ?_
  refine xeb 3 (pc' := 7) (ls' := [.ref 131, .int a1, .int 0, .null]) (st' := [.int a1]) rfl ?_
  by_cases c2 : a1 < 0 ∨ 15 < a1
  · rw [if_pos c2] at h
    refine xetabO rfl rfl rfl c2 ?_
    refine xeb 1 (pc' := 332) (ls' := [.ref 131, .int a1, .int 0, .null]) (st' := [.int (-1)]) rfl ?_
    obtain rfl := Option.some.inj h
    exact xeiret rfl rfl
  rw [if_neg c2] at h
  by_cases c4 : a1 = 0
  · rw [if_pos c4] at h
    refine xetabI rfl c4 rfl ?_
    refine xeb 1 (pc' := 85) (ls' := [.ref 131, .int a1, .int 0, .null]) (st' := [.ref 131]) rfl ?_
    refine xegf2 rfl xsh131 (by decide) rfl ?_
    refine xeb 1 (pc' := 89) (ls' := [.ref 131, .int a1, .int 0, .null]) (st' := [.ref 131, .ref 140]) rfl ?_
    refine xegf0 rfl xsh131 (by decide) ?_
    obtain ⟨b3, h⟩ := xck_some h
    refine xeia rfl xsh140 b3 ?_
    obtain rfl := Option.some.inj h
    exact xeiret rfl rfl
  rw [if_neg c4] at h
  by_cases c6 : a1 = 1
  · rw [if_pos c6] at h
    refine xetabI rfl c6 rfl ?_
    refine xeb 1 (pc' := 95) (ls' := [.ref 131, .int a1, .int 0, .null]) (st' := [.ref 131]) rfl ?_
    refine xegf2 rfl xsh131 (by decide) rfl ?_
    refine xeb 1 (pc' := 99) (ls' := [.ref 131, .int a1, .int 0, .null]) (st' := [.ref 131, .ref 141]) rfl ?_
    refine xegf0 rfl xsh131 (by decide) ?_
    obtain ⟨b5, h⟩ := xck_some h
    refine xeia rfl xsh141 b5 ?_
    obtain rfl := Option.some.inj h
    exact xeiret rfl rfl
  rw [if_neg c6] at h
  by_cases c8 : a1 = 2
  · rw [if_pos c8] at h
    refine xetabI rfl c8 rfl ?_
    refine xeb 1 (pc' := 105) (ls' := [.ref 131, .int a1, .int 0, .null]) (st' := [.ref 131]) rfl ?_
    refine xegf2 rfl xsh131 (by decide) rfl ?_
    refine xeb 1 (pc' := 109) (ls' := [.ref 131, .int a1, .int 0, .null]) (st' := [.ref 131, .ref 146]) rfl ?_
    refine xegf0 rfl xsh131 (by decide) ?_
    obtain ⟨b7, h⟩ := xck_some h
    refine xeia rfl xsh146 b7 ?_
    obtain rfl := Option.some.inj h
    exact xeiret rfl rfl
  rw [if_neg c8] at h
  by_cases c10 : a1 = 3
  · rw [if_pos c10] at h
    refine xetabI rfl c10 rfl ?_
    refine xeb 1 (pc' := 115) (ls' := [.ref 131, .int a1, .int 0, .null]) (st' := [.ref 131]) rfl ?_
    refine xegf2 rfl xsh131 (by decide) rfl ?_
    refine xeb 1 (pc' := 120) (ls' := [.ref 131, .int a1, .int 0, .null]) (st' := [.int 30, .ref 163]) rfl ?_
    obtain ⟨b9, h⟩ := xck_some h
    refine xeia rfl xsh163 b9 ?_
    obtain rfl := Option.some.inj h
    exact xeiret rfl rfl
  rw [if_neg c10] at h
  by_cases c12 : a1 = 4
  · rw [if_pos c12] at h
    refine xetabI rfl c12 rfl ?_
    refine xeb 2 (pc' := 124) (ls' := [.ref 131, .int a1, .int 0, .null]) (st' := [.int (-1), .ref 131]) rfl ?_
    obtain ⟨q11, eq11, h⟩ := xbind_some h
    refine xcallV rfl xsh131 rfl rfl rfl (Nat.le_of_ble_eq_true rfl) (Nat.le_of_ble_eq_true rfl) (Nat.le_of_ble_eq_true rfl) rfl (g_M_liesOf (d := d + 0) _ eq11) ?_
    obtain rfl := Option.some.inj h
    exact xeiret rfl rfl
  rw [if_neg c12] at h
  by_cases c14 : a1 = 5
  · rw [if_pos c14] at h
    refine xetabI rfl c14 rfl ?_
    refine xeb 1 (pc' := 129) (ls' := [.ref 131, .int a1, .int 0, .null]) (st' := [.ref 131]) rfl ?_
    refine xegf2 rfl xsh131 (by decide) rfl ?_
    refine xeb 1 (pc' := 134) (ls' := [.ref 131, .int a1, .int 0, .null]) (st' := [.int 31, .ref 163]) rfl ?_
    obtain ⟨b13, h⟩ := xck_some h
    refine xeia rfl xsh163 b13 ?_
    obtain rfl := Option.some.inj h
    exact xeiret rfl rfl
  rw [if_neg c14] at h
  by_cases c17 : a1 = 6
  · rw [if_pos c17] at h
    refine xetabI rfl c17 rfl ?_
    refine xeb 1 (pc' := 137) (ls' := [.ref 131, .int a1, .int 0, .null]) (st' := [.ref 131]) rfl ?_
    obtain ⟨q15, eq15, h⟩ := xbind_some h
    refine xcallV rfl xsh131 rfl rfl rfl (Nat.le_of_ble_eq_true rfl) (Nat.le_of_ble_eq_true rfl) (Nat.le_of_ble_eq_true rfl) rfl (g_M_isWet (d := d + 2) _ eq15) ?_
    have hj : xEv X (d + 5) 293 148 [.ref 131, .int a1, .int 0, .null] [.int (if q15.1 = 0 then 0 else 1)] q15.2 L (some (.int r.1)) r.2 L := by
      obtain rfl := Option.some.inj h
      exact xeiret rfl rfl
    by_cases c16 : q15.1 = 0
    · simp only [if_pos c16] at hj
      refine xef_eq_t rfl c16 ?_
      exact xeb 1 rfl hj
    · simp only [if_neg c16] at hj
      refine xef_eq_f rfl c16 ?_
      exact xeb 2 rfl hj
  rw [if_neg c17] at h
  by_cases c20 : a1 = 7
  · rw [if_pos c20] at h
    refine xetabI rfl c20 rfl ?_
    refine xeb 1 (pc' := 150) (ls' := [.ref 131, .int a1, .int 0, .null]) (st' := [.ref 131]) rfl ?_
    obtain ⟨q18, eq18, h⟩ := xbind_some h
    refine xcallV rfl xsh131 rfl rfl rfl (Nat.le_of_ble_eq_true rfl) (Nat.le_of_ble_eq_true rfl) (Nat.le_of_ble_eq_true rfl) rfl (g_M_isKnock (d := d + 2) _ eq18) ?_
    have hj : xEv X (d + 5) 293 161 [.ref 131, .int a1, .int 0, .null] [.int (if q18 = 0 then 0 else 1)] q1 L (some (.int r.1)) r.2 L := by
      obtain rfl := Option.some.inj h
      exact xeiret rfl rfl
    by_cases c19 : q18 = 0
    · simp only [if_pos c19] at hj
      refine xef_eq_t rfl c19 ?_
      exact xeb 1 rfl hj
    · simp only [if_neg c19] at hj
      refine xef_eq_f rfl c19 ?_
      exact xeb 2 rfl hj
  rw [if_neg c20] at h
  by_cases c26 : a1 = 8
  · rw [if_pos c26] at h
    refine xetabI rfl c26 rfl ?_
    refine xeb 2 (pc' := 164) (ls' := [.ref 131, .int a1, .int 0, .int 0]) (st' := []) rfl ?_
    exact g_M_count_164 F 0 0 q1 h _
  rw [if_neg c26] at h
  by_cases c27 : a1 = 9
  · rw [if_pos c27] at h
    refine xetabI rfl c27 rfl ?_
    refine xeb 1 (pc' := 198) (ls' := [.ref 131, .int a1, .int 0, .null]) (st' := [.ref 131]) rfl ?_
    refine xegf0 rfl xsh131 (by decide) ?_
    obtain rfl := Option.some.inj h
    exact xeiret rfl rfl
  rw [if_neg c27] at h
  by_cases c28 : a1 = 10
  · rw [if_pos c28] at h
    refine xetabI rfl c28 rfl ?_
    refine xeb 1 (pc' := 203) (ls' := [.ref 131, .int a1, .int 0, .null]) (st' := [.ref 131]) rfl ?_
    refine xegf0 rfl xsh131 (by decide) ?_
    obtain rfl := Option.some.inj h
    exact xeiret rfl rfl
  rw [if_neg c28] at h
  by_cases c29 : a1 = 11
  · rw [if_pos c29] at h
    refine xetabI rfl c29 rfl ?_
    refine xeb 1 (pc' := 208) (ls' := [.ref 131, .int a1, .int 0, .null]) (st' := [.ref 131]) rfl ?_
    refine xegf0 rfl xsh131 (by decide) ?_
    obtain rfl := Option.some.inj h
    exact xeiret rfl rfl
  rw [if_neg c29] at h
  by_cases c36 : a1 = 12
  · rw [if_pos c36] at h
    refine xetabI rfl c36 rfl ?_
    refine xeb 1 (pc' := 213) (ls' := [.ref 131, .int a1, .int 0, .null]) (st' := [.ref 131]) rfl ?_
    refine xegf2 rfl xsh131 (by decide) rfl ?_
    refine xeb 1 (pc' := 217) (ls' := [.ref 131, .int a1, .int 0, .null]) (st' := [.int 0, .ref 173]) rfl ?_
    obtain ⟨b30, h⟩ := xck_some h
    refine xeza rfl xsh173 b30 ?_
    have hj : xEv X (d + 5) 293 226 [.ref 131, .int a1, .int 0, .null] [.int (if (q1 173 (xN 0)) = 0 then 0 else 1)] q1 L (some (.int r.1)) r.2 L := by
      exact g_M_count_226 h _ _ _
    by_cases c31 : (q1 173 (xN 0)) = 0
    · simp only [if_pos c31] at hj
      refine xef_eq_t rfl c31 ?_
      exact xeb 1 rfl hj
    · simp only [if_neg c31] at hj
      refine xef_eq_f rfl c31 ?_
      exact xeb 2 rfl hj
  rw [if_neg c36] at h
  by_cases c38 : a1 = 13
  · rw [if_pos c38] at h
    refine xetabI rfl c38 rfl ?_
    refine xeb 1 (pc' := 258) (ls' := [.ref 131, .int a1, .int 0, .null]) (st' := [.ref 131]) rfl ?_
    refine xegf2 rfl xsh131 (by decide) rfl ?_
    refine xeb 1 (pc' := 263) (ls' := [.ref 131, .int a1, .int 0, .null]) (st' := [.int 32, .ref 163]) rfl ?_
    obtain ⟨b37, h⟩ := xck_some h
    refine xeia rfl xsh163 b37 ?_
    obtain rfl := Option.some.inj h
    exact xeiret rfl rfl
  rw [if_neg c38] at h
  by_cases c43 : a1 = 14
  · rw [if_pos c43] at h
    refine xetabI rfl c43 rfl ?_
    refine xeb 2 (pc' := 267) (ls' := [.ref 131, .int a1, .int 0, .int 0]) (st' := []) rfl ?_
    exact g_M_count_267 F 0 0 q1 h _
  rw [if_neg c43] at h
  by_cases c47 : a1 = 15
  · rw [if_pos c47] at h
    refine xetabI rfl c47 rfl ?_
    refine xeb 2 (pc' := 304) (ls' := [.ref 131, .int a1, .int 0, .int 0]) (st' := []) rfl ?_
    exact g_M_count_304 F 0 0 q1 h _
  rw [if_neg c47] at h
  cases h
