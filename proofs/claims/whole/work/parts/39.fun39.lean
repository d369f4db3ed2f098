/-! the methods as functions, and that a run answers so (by gen6.py) -/
noncomputable def f_M_ask_144 (F : Nat) (k128 : Int32 → Int32 → Int32 → Int32 → XI → Option (Int32 × XI)) : Nat → Int32 → Int32 → Int32 → Int32 → Int32 → Int32 → XI → Option (Int32 × XI)
  | 0, _, _, _, _, _, _, _ => none
  | n + 1, v2, v3, v4, v5, v6, v7, I =>
    if 7 ≤ v7 then (if v3 < 0 then (k128 v2 v5 v6 (v5 + 1) I) else (k128 v2 (if v6 < v4 then v5 else v3) (if v6 < v4 then v6 else v4) (v5 + 1) I)) else (xck (xin ((7 * v5) + v7) 28) (if (I 172 (xN ((7 * v5) + v7))) ≤ v6 then (f_M_ask_144 F k128 n v2 v3 v4 v5 v6 (v7 + 1) I) else (xck (xin ((7 * v5) + v7) 28) (f_M_ask_144 F k128 n v2 v3 v4 v5 (I 172 (xN ((7 * v5) + v7))) (v7 + 1) I))))
theorem g_M_ask_144 {X : XX} {d : Nat} {L : XL} {F : Nat} {k128 : Int32 → Int32 → Int32 → Int32 → XI → Option (Int32 × XI)}  {r : Int32 × XI} (hk128 : ∀ (v2 : Int32) (v3 : Int32) (v4 : Int32) (v5 : Int32) (I : XI), k128 v2 v3 v4 v5 I = some r → ∀ (z1 : Value) (z6 : Value) (z7 : Value), xEv X (d + 2) 283 128 [.ref 131, z1, .int v2, .int v3, .int v4, .int v5, z6, z7] [] I L (some (.int r.1)) r.2 L) : ∀ (n : Nat) (v2 : Int32) (v3 : Int32) (v4 : Int32) (v5 : Int32) (v6 : Int32) (v7 : Int32) (I : XI), f_M_ask_144 F k128 n v2 v3 v4 v5 v6 v7 I = some r → ∀ (z1 : Value), xEv X (d + 2) 283 144 [.ref 131, z1, .int v2, .int v3, .int v4, .int v5, .int v6, .int v7] [] I L (some (.int r.1)) r.2 L := by
  intro n
  induction n with
  | zero => intro v2 v3 v4 v5 v6 v7 I h; rw [f_M_ask_144] at h; cases h
  | succ n ih =>
    intro v2 v3 v4 v5 v6 v7 I h z1
    rw [f_M_ask_144] at h
    refine xeb 2 (pc' := 148) (ls' := [.ref 131, z1, .int v2, .int v3, .int v4, .int v5, .int v6, .int v7]) (st' := [.int 7, .int v7]) rfl ?_
    by_cases c8 : 7 ≤ v7
    · rw [if_pos c8] at h
      refine xei_ge_t rfl c8 ?_
      refine xeb 1 (pc' := 191) (ls' := [.ref 131, z1, .int v2, .int v3, .int v4, .int v5, .int v6, .int v7]) (st' := [.int v3]) rfl ?_
      by_cases c9 : v3 < 0
      · rw [if_pos c9] at h
        refine xef_lt_t rfl c9 ?_
        refine xeb 6 (pc' := 128) (ls' := [.ref 131, z1, .int v2, .int v5, .int v6, .int (v5 + 1), .int v6, .int v7]) (st' := []) rfl ?_
        exact hk128 v2 v5 v6 (v5 + 1) I h _ _ _
      · rw [if_neg c9] at h
        refine xef_lt_f rfl c9 ?_
        refine xeb 2 (pc' := 198) (ls' := [.ref 131, z1, .int v2, .int v3, .int v4, .int v5, .int v6, .int v7]) (st' := [.int v4, .int v6]) rfl ?_
        have hj : xEv X (d + 2) 283 211 [.ref 131, z1, .int v2, .int (if v6 < v4 then v5 else v3), .int (if v6 < v4 then v6 else v4), .int v5, .int v6, .int v7] [] I L (some (.int r.1)) r.2 L := by
          refine xeb 2 (pc' := 128) (ls' := [.ref 131, z1, .int v2, .int (if v6 < v4 then v5 else v3), .int (if v6 < v4 then v6 else v4), .int (v5 + 1), .int v6, .int v7]) (st' := []) rfl ?_
          exact hk128 v2 (if v6 < v4 then v5 else v3) (if v6 < v4 then v6 else v4) (v5 + 1) I h _ _ _
        by_cases c10 : v6 < v4
        · simp only [if_pos c10] at hj
          refine xei_lt_t rfl c10 ?_
          exact xeb 4 rfl hj
        · simp only [if_neg c10] at hj
          refine xei_lt_f rfl c10 ?_
          exact xeb 1 rfl hj
    · rw [if_neg c8] at h
      refine xei_ge_f rfl c8 ?_
      refine xeb 1 (pc' := 152) (ls' := [.ref 131, z1, .int v2, .int v3, .int v4, .int v5, .int v6, .int v7]) (st' := [.ref 131]) rfl ?_
      refine xegf2 rfl xsh131 (by decide) rfl ?_
      refine xeb 5 (pc' := 163) (ls' := [.ref 131, z1, .int v2, .int v3, .int v4, .int v5, .int v6, .int v7]) (st' := [.int ((7 * v5) + v7), .ref 172]) rfl ?_
      obtain ⟨b11, h⟩ := xck_some h
      refine xeia rfl xsh172 b11 ?_
      refine xeb 1 (pc' := 166) (ls' := [.ref 131, z1, .int v2, .int v3, .int v4, .int v5, .int v6, .int v7]) (st' := [.int v6, .int (I 172 (xN ((7 * v5) + v7)))]) rfl ?_
      by_cases c12 : (I 172 (xN ((7 * v5) + v7))) ≤ v6
      · rw [if_pos c12] at h
        refine xei_le_t rfl c12 ?_
        refine xeb 2 (pc' := 144) (ls' := [.ref 131, z1, .int v2, .int v3, .int v4, .int v5, .int v6, .int (v7 + 1)]) (st' := []) rfl ?_
        exact ih v2 v3 v4 v5 v6 (v7 + 1) I h _
      · rw [if_neg c12] at h
        refine xei_le_f rfl c12 ?_
        refine xeb 1 (pc' := 170) (ls' := [.ref 131, z1, .int v2, .int v3, .int v4, .int v5, .int v6, .int v7]) (st' := [.ref 131]) rfl ?_
        refine xegf2 rfl xsh131 (by decide) rfl ?_
        refine xeb 5 (pc' := 181) (ls' := [.ref 131, z1, .int v2, .int v3, .int v4, .int v5, .int v6, .int v7]) (st' := [.int ((7 * v5) + v7), .ref 172]) rfl ?_
        obtain ⟨b13, h⟩ := xck_some h
        refine xeia rfl xsh172 b13 ?_
        refine xeb 3 (pc' := 144) (ls' := [.ref 131, z1, .int v2, .int v3, .int v4, .int v5, .int (I 172 (xN ((7 * v5) + v7))), .int (v7 + 1)]) (st' := []) rfl ?_
        exact ih v2 v3 v4 v5 (I 172 (xN ((7 * v5) + v7))) (v7 + 1) I h _
noncomputable def f_M_ask_128 (F : Nat) : Nat → Int32 → Int32 → Int32 → Int32 → XI → Option (Int32 × XI)
  | 0, _, _, _, _, _ => none
  | n + 1, v2, v3, v4, v5, I =>
    if 4 ≤ v5 then (some (v3, I)) else (if v2 ≤ 0 then (some (v3, I)) else (f_M_ask_144 F (fun v2 v3 v4 v5 I => f_M_ask_128 F n v2 v3 v4 v5 I) F v2 v3 v4 v5 0 0 I))
theorem g_M_ask_128 {X : XX} {d : Nat} {L : XL} {F : Nat}  {r : Int32 × XI}  : ∀ (n : Nat) (v2 : Int32) (v3 : Int32) (v4 : Int32) (v5 : Int32) (I : XI), f_M_ask_128 F n v2 v3 v4 v5 I = some r → ∀ (z1 : Value) (z6 : Value) (z7 : Value), xEv X (d + 2) 283 128 [.ref 131, z1, .int v2, .int v3, .int v4, .int v5, z6, z7] [] I L (some (.int r.1)) r.2 L := by
  intro n
  induction n with
  | zero => intro v2 v3 v4 v5 I h; rw [f_M_ask_128] at h; cases h
  | succ n ih =>
    intro v2 v3 v4 v5 I h z1 z6 z7
    rw [f_M_ask_128] at h
    refine xeb 2 (pc' := 131) (ls' := [.ref 131, z1, .int v2, .int v3, .int v4, .int v5, z6, z7]) (st' := [.int 4, .int v5]) rfl ?_
    by_cases c6 : 4 ≤ v5
    · rw [if_pos c6] at h
      refine xei_ge_t rfl c6 ?_
      refine xeb 1 (pc' := 218) (ls' := [.ref 131, z1, .int v2, .int v3, .int v4, .int v5, z6, z7]) (st' := [.int v3]) rfl ?_
      obtain rfl := Option.some.inj h
      exact xeiret rfl rfl
    · rw [if_neg c6] at h
      refine xei_ge_f rfl c6 ?_
      refine xeb 1 (pc' := 135) (ls' := [.ref 131, z1, .int v2, .int v3, .int v4, .int v5, z6, z7]) (st' := [.int v2]) rfl ?_
      by_cases c7 : v2 ≤ 0
      · rw [if_pos c7] at h
        refine xef_le_t rfl c7 ?_
        refine xeb 1 (pc' := 218) (ls' := [.ref 131, z1, .int v2, .int v3, .int v4, .int v5, z6, z7]) (st' := [.int v3]) rfl ?_
        obtain rfl := Option.some.inj h
        exact xeiret rfl rfl
      · rw [if_neg c7] at h
        refine xef_le_f rfl c7 ?_
        refine xeb 4 (pc' := 144) (ls' := [.ref 131, z1, .int v2, .int v3, .int v4, .int v5, .int 0, .int 0]) (st' := []) rfl ?_
        exact g_M_ask_144 (fun v2 v3 v4 v5 I h' z1 z6 z7 => ih v2 v3 v4 v5 I h' z1 z6 z7) F v2 v3 v4 v5 0 0 I h _
noncomputable def f_M_ask_72 (F : Nat) (k39 : Int32 → Int32 → Int32 → XI → Option (Int32 × XI)) : Nat → Int32 → Int32 → Int32 → Int32 → XI → Option (Int32 × XI)
  | 0, _, _, _, _, _ => none
  | n + 1, v1, v2, v3, v4, I =>
    if 4 ≤ v4 then (k39 v1 v2 (v3 + 1) I) else ((f_M_turned I (v3 / 4) (v3 - v3 / 4 * 4) v4).bind fun q17 => xck (xin (((7 * v4) + q17) + 3) 28) (xck (xin (((7 * v4) + q17) + 3) 28) (xst (xput I 172 (xN (((7 * v4) + q17) + 3)) ((I 172 (xN (((7 * v4) + q17) + 3))) + 1)) fun I20 => f_M_ask_72 F k39 n v1 v2 v3 (v4 + 1) I20)))
theorem g_M_ask_72 {X : XX} {d : Nat} {L : XL} {F : Nat} {k39 : Int32 → Int32 → Int32 → XI → Option (Int32 × XI)}  {r : Int32 × XI} (hk39 : ∀ (v1 : Int32) (v2 : Int32) (v3 : Int32) (I : XI), k39 v1 v2 v3 I = some r → ∀ (z4 : Value) (z5 : Value) (z6 : Value) (z7 : Value), xEv X (d + 2) 283 39 [.ref 131, .int v1, .int v2, .int v3, z4, z5, z6, z7] [] I L (some (.int r.1)) r.2 L) : ∀ (n : Nat) (v1 : Int32) (v2 : Int32) (v3 : Int32) (v4 : Int32) (I : XI), f_M_ask_72 F k39 n v1 v2 v3 v4 I = some r → ∀ (z5 : Value) (z6 : Value) (z7 : Value), xEv X (d + 2) 283 72 [.ref 131, .int v1, .int v2, .int v3, .int v4, z5, z6, z7] [] I L (some (.int r.1)) r.2 L := by
  intro n
  induction n with
  | zero => intro v1 v2 v3 v4 I h; rw [f_M_ask_72] at h; cases h
  | succ n ih =>
    intro v1 v2 v3 v4 I h z5 z6 z7
    rw [f_M_ask_72] at h
    refine xeb 2 (pc' := 75) (ls' := [.ref 131, .int v1, .int v2, .int v3, .int v4, z5, z6, z7]) (st' := [.int 4, .int v4]) rfl ?_
    by_cases c16 : 4 ≤ v4
    · rw [if_pos c16] at h
      refine xei_ge_t rfl c16 ?_
      refine xeb 2 (pc' := 39) (ls' := [.ref 131, .int v1, .int v2, .int (v3 + 1), .int v4, z5, z6, z7]) (st' := []) rfl ?_
      exact hk39 v1 v2 (v3 + 1) I h _ _ _ _
    · rw [if_neg c16] at h
      refine xei_ge_f rfl c16 ?_
      refine xeb 1 (pc' := 79) (ls' := [.ref 131, .int v1, .int v2, .int v3, .int v4, z5, z6, z7]) (st' := [.ref 131]) rfl ?_
      refine xegf2 rfl xsh131 (by decide) rfl ?_
      refine xeb 11 (pc' := 96) (ls' := [.ref 131, .int v1, .int v2, .int v3, .int v4, z5, z6, z7]) (st' := [.int v4, .int (v3 - v3 / 4 * 4), .int (v3 / 4), .ref 131, .int (7 * v4), .ref 172]) rfl ?_
      obtain ⟨q17, eq17, h⟩ := xbind_some h
      refine xcallV rfl xsh131 rfl rfl rfl (Nat.le_of_ble_eq_true rfl) (Nat.le_of_ble_eq_true rfl) (Nat.le_of_ble_eq_true rfl) rfl (g_M_turned (d := d + 1) _ eq17) ?_
      refine xeb 4 (pc' := 103) (ls' := [.ref 131, .int v1, .int v2, .int v3, .int v4, z5, z6, z7]) (st' := [.int (((7 * v4) + q17) + 3), .ref 172, .int (((7 * v4) + q17) + 3), .ref 172]) rfl ?_
      obtain ⟨b18, h⟩ := xck_some h
      refine xeia rfl xsh172 b18 ?_
      refine xeb 2 (pc' := 106) (ls' := [.ref 131, .int v1, .int v2, .int v3, .int v4, z5, z6, z7]) (st' := [.int ((I 172 (xN (((7 * v4) + q17) + 3))) + 1), .int (((7 * v4) + q17) + 3), .ref 172]) rfl ?_
      obtain ⟨b19, h⟩ := xck_some h
      refine xeis rfl xsh172 b19 ?_
      obtain ⟨I20, hI20, h⟩ := xst_some h
      rw [← hI20]
      refine xeb 2 (pc' := 72) (ls' := [.ref 131, .int v1, .int v2, .int v3, .int (v4 + 1), z5, z6, z7]) (st' := []) rfl ?_
      exact ih v1 v2 v3 (v4 + 1) I20 h _ _ _
noncomputable def f_M_ask_39 (F : Nat) : Nat → Int32 → Int32 → Int32 → XI → Option (Int32 × XI)
  | 0, _, _, _, _ => none
  | n + 1, v1, v2, v3, I =>
    xck (xin (I 131 18) 2) (if (4 * (I 146 (xN (I 131 18)))) ≤ v3 then (f_M_ask_128 F F v2 (-2) 0 0 I) else ((f_M_isSo F I v3 v1).bind fun q14 => if q14 = 0 then (f_M_ask_39 F n v1 v2 (v3 + 1) I) else (f_M_ask_72 F (fun v1 v2 v3 I => f_M_ask_39 F n v1 v2 v3 I) F v1 (v2 + 1) v3 0 I)))
theorem g_M_ask_39 {X : XX} {d : Nat} {L : XL} {F : Nat}  {r : Int32 × XI}  : ∀ (n : Nat) (v1 : Int32) (v2 : Int32) (v3 : Int32) (I : XI), f_M_ask_39 F n v1 v2 v3 I = some r → ∀ (z4 : Value) (z5 : Value) (z6 : Value) (z7 : Value), xEv X (d + 2) 283 39 [.ref 131, .int v1, .int v2, .int v3, z4, z5, z6, z7] [] I L (some (.int r.1)) r.2 L := by
  intro n
  induction n with
  | zero => intro v1 v2 v3 I h; rw [f_M_ask_39] at h; cases h
  | succ n ih =>
    intro v1 v2 v3 I h z4 z5 z6 z7
    rw [f_M_ask_39] at h
    refine xeb 3 (pc' := 42) (ls' := [.ref 131, .int v1, .int v2, .int v3, z4, z5, z6, z7]) (st' := [.ref 131, .int 4, .int v3]) rfl ?_
    refine xegf2 rfl xsh131 (by decide) rfl ?_
    refine xeb 1 (pc' := 46) (ls' := [.ref 131, .int v1, .int v2, .int v3, z4, z5, z6, z7]) (st' := [.ref 131, .ref 146, .int 4, .int v3]) rfl ?_
    refine xegf0 rfl xsh131 (by decide) ?_
    obtain ⟨b4, h⟩ := xck_some h
    refine xeia rfl xsh146 b4 ?_
    refine xeb 1 (pc' := 51) (ls' := [.ref 131, .int v1, .int v2, .int v3, z4, z5, z6, z7]) (st' := [.int (4 * (I 146 (xN (I 131 18)))), .int v3]) rfl ?_
    by_cases c5 : (4 * (I 146 (xN (I 131 18)))) ≤ v3
    · rw [if_pos c5] at h
      refine xei_ge_t rfl c5 ?_
      refine xeb 6 (pc' := 128) (ls' := [.ref 131, .int v1, .int v2, .int (-2), .int 0, .int 0, z6, z7]) (st' := []) rfl ?_
      exact g_M_ask_128 F v2 (-2) 0 0 I h _ _ _
    · rw [if_neg c5] at h
      refine xei_ge_f rfl c5 ?_
      refine xeb 3 (pc' := 57) (ls' := [.ref 131, .int v1, .int v2, .int v3, z4, z5, z6, z7]) (st' := [.int v1, .int v3, .ref 131]) rfl ?_
      obtain ⟨q14, eq14, h⟩ := xbind_some h
      refine xcallV rfl xsh131 rfl rfl rfl (Nat.le_of_ble_eq_true rfl) (Nat.le_of_ble_eq_true rfl) (Nat.le_of_ble_eq_true rfl) rfl (g_M_isSo (d := d + 0) _ eq14) ?_
      by_cases c15 : q14 = 0
      · rw [if_pos c15] at h
        refine xef_ne_t rfl c15 ?_
        refine xeb 3 (pc' := 39) (ls' := [.ref 131, .int v1, .int v2, .int (v3 + 1), z4, z5, z6, z7]) (st' := []) rfl ?_
        exact ih v1 v2 (v3 + 1) I h _ _ _ _
      · rw [if_neg c15] at h
        refine xef_ne_f rfl c15 ?_
        refine xeb 3 (pc' := 72) (ls' := [.ref 131, .int v1, .int (v2 + 1), .int v3, .int 0, z5, z6, z7]) (st' := []) rfl ?_
        exact g_M_ask_72 (fun v1 v2 v3 I h' z4 z5 z6 z7 => ih v1 v2 v3 I h' z4 z5 z6 z7) F v1 (v2 + 1) v3 0 I h _ _ _
noncomputable def f_M_ask_16 (F : Nat) : Nat → Int32 → Int32 → XI → Option (Int32 × XI)
  | 0, _, _, _ => none
  | n + 1, v1, v2, I =>
    if 28 ≤ v2 then (f_M_ask_39 F F v1 0 0 I) else (xck (xin v2 28) (xst (xput I 172 (xN v2) 0) fun I22 => f_M_ask_16 F n v1 (v2 + 1) I22))
theorem g_M_ask_16 {X : XX} {d : Nat} {L : XL} {F : Nat}  {r : Int32 × XI}  : ∀ (n : Nat) (v1 : Int32) (v2 : Int32) (I : XI), f_M_ask_16 F n v1 v2 I = some r → ∀ (z3 : Value) (z4 : Value) (z5 : Value) (z6 : Value) (z7 : Value), xEv X (d + 2) 283 16 [.ref 131, .int v1, .int v2, z3, z4, z5, z6, z7] [] I L (some (.int r.1)) r.2 L := by
  intro n
  induction n with
  | zero => intro v1 v2 I h; rw [f_M_ask_16] at h; cases h
  | succ n ih =>
    intro v1 v2 I h z3 z4 z5 z6 z7
    rw [f_M_ask_16] at h
    refine xeb 2 (pc' := 19) (ls' := [.ref 131, .int v1, .int v2, z3, z4, z5, z6, z7]) (st' := [.int 28, .int v2]) rfl ?_
    by_cases c3 : 28 ≤ v2
    · rw [if_pos c3] at h
      refine xei_ge_t rfl c3 ?_
      refine xeb 4 (pc' := 39) (ls' := [.ref 131, .int v1, .int 0, .int 0, z4, z5, z6, z7]) (st' := []) rfl ?_
      exact g_M_ask_39 F v1 0 0 I h _ _ _ _
    · rw [if_neg c3] at h
      refine xei_ge_f rfl c3 ?_
      refine xeb 1 (pc' := 23) (ls' := [.ref 131, .int v1, .int v2, z3, z4, z5, z6, z7]) (st' := [.ref 131]) rfl ?_
      refine xegf2 rfl xsh131 (by decide) rfl ?_
      refine xeb 2 (pc' := 28) (ls' := [.ref 131, .int v1, .int v2, z3, z4, z5, z6, z7]) (st' := [.int 0, .int v2, .ref 172]) rfl ?_
      obtain ⟨b21, h⟩ := xck_some h
      refine xeis rfl xsh172 b21 ?_
      obtain ⟨I22, hI22, h⟩ := xst_some h
      rw [← hI22]
      refine xeb 2 (pc' := 16) (ls' := [.ref 131, .int v1, .int (v2 + 1), z3, z4, z5, z6, z7]) (st' := []) rfl ?_
      exact ih v1 (v2 + 1) I22 h _ _ _ _ _
noncomputable def f_M_ask (F : Nat) (a1 : Int32) (I : XI) : Option (Int32 × XI) :=
  (f_M_in a1 0 (I 131 59)).bind fun q1 => if q1 = 0 then (some ((-1), I)) else (f_M_ask_16 F F a1 0 I)
theorem g_M_ask {X : XX} {d : Nat} {L : XL} {F : Nat} {a1 : Int32} {I : XI}  (r : Int32 × XI) (h : f_M_ask F a1 I = some r) : xEv X (d + 2) 283 0 [.ref 131, .int a1, .null, .null, .null, .null, .null, .null] [] I L (some (.int r.1)) r.2 L := by
  rw [f_M_ask] at h
  refine xeb 3 (pc' := 3) (ls' := [.ref 131, .int a1, .null, .null, .null, .null, .null, .null]) (st' := [.ref 131, .int 0, .int a1]) rfl ?_
  refine xegf0 rfl xsh131 (by decide) ?_
  obtain ⟨q1, eq1, h⟩ := xbind_some h
  refine xcallS20 rfl rfl rfl (Nat.le_of_ble_eq_true rfl) (Nat.le_of_ble_eq_true rfl) (Nat.le_of_ble_eq_true rfl) rfl (g_M_in (d := d + 1) _ eq1) ?_
  by_cases c2 : q1 = 0
  · rw [if_pos c2] at h
    refine xef_ne_t rfl c2 ?_
    refine xeb 1 (pc' := 13) (ls' := [.ref 131, .int a1, .null, .null, .null, .null, .null, .null]) (st' := [.int (-1)]) rfl ?_
    obtain rfl := Option.some.inj h
    exact xeiret rfl rfl
  · rw [if_neg c2] at h
    refine xef_ne_f rfl c2 ?_
    refine xeb 2 (pc' := 16) (ls' := [.ref 131, .int a1, .int 0, .null, .null, .null, .null, .null]) (st' := []) rfl ?_
    exact g_M_ask_16 F a1 0 I h _ _ _ _ _
noncomputable def f_Past_fill (S2 : Nat) (a1 : Int32) (I : XI) : Option (XI) :=
  xck (xin a1 3) ((xrf 40 (xN a1)).bind fun R2 => (f_State_copyFrom R2 S2 I).bind fun q3 => xst (xput q3 38 4 ((q3 38 4) ||| (1 <<< (a1 &&& 31)))) fun I4 => some I4)
theorem g_Past_fill {X : XX} {d : Nat} {L : XL} {S2 : Nat} {a1 : Int32} {I : XI} (hS2 : xisSt S2) (r : XI) (h : f_Past_fill S2 a1 I = some r) : xEv X (d + 1) 284 0 [.ref 38, .int a1, .ref S2] [] I L none r L := by
  rw [f_Past_fill] at h
  refine xeb 1 (pc' := 1) (ls' := [.ref 38, .int a1, .ref S2]) (st' := [.ref 38]) rfl ?_
  refine xegf2 rfl xsh38 (by decide) rfl ?_
  refine xeb 1 (pc' := 5) (ls' := [.ref 38, .int a1, .ref S2]) (st' := [.int a1, .ref 40]) rfl ?_
  obtain ⟨b1, h⟩ := xck_some h
  obtain ⟨R2, eR2, h⟩ := xbind_some h
  refine xeaa rfl xsh40 b1 eR2 ?_
  refine xeb 1 (pc' := 7) (ls' := [.ref 38, .int a1, .ref S2]) (st' := [.ref S2, .ref R2]) rfl ?_
  obtain ⟨q3, eq3, h⟩ := xbind_some h
  refine xcallV rfl (xisA40 eR2).1 rfl rfl rfl (Nat.le_of_ble_eq_true rfl) (Nat.le_of_ble_eq_true rfl) (Nat.le_of_ble_eq_true rfl) rfl (g_State_copyFrom (d := d + 0) (xisA40 eR2) hS2 _ eq3) ?_
  refine xeb 2 (pc' := 12) (ls' := [.ref 38, .int a1, .ref S2]) (st' := [.ref 38, .ref 38]) rfl ?_
  refine xegf0 rfl xsh38 (by decide) ?_
  refine xeb 4 (pc' := 19) (ls' := [.ref 38, .int a1, .ref S2]) (st' := [.int ((q3 38 4) ||| (1 <<< (a1 &&& 31))), .ref 38]) rfl ?_
  refine xepf0 rfl xsh38 (by decide) ?_
  obtain ⟨I4, hI4, h⟩ := xst_some h
  rw [← hI4]
  obtain rfl := Option.some.inj h
  exact xevret rfl
noncomputable def f_H_hold (a1 : Int32) (I : XI) : Option (Int32 × XI) :=
  if a1 < 0 then (some (0, I)) else (if a1 < 3 then ((f_Past_fill 26 a1 I).bind fun q3 => some (1, q3)) else (some (0, I)))
theorem g_H_hold {X : XX} {d : Nat} {L : XL} {a1 : Int32} {I : XI}  (r : Int32 × XI) (h : f_H_hold a1 I = some r) : xEv X (d + 2) 285 0 [.ref 0, .int a1] [] I L (some (.int r.1)) r.2 L := by
  rw [f_H_hold] at h
  refine xeb 1 (pc' := 1) (ls' := [.ref 0, .int a1]) (st' := [.int a1]) rfl ?_
  by_cases c1 : a1 < 0
  · rw [if_pos c1] at h
    refine xef_lt_t rfl c1 ?_
    refine xeb 1 (pc' := 10) (ls' := [.ref 0, .int a1]) (st' := [.int 0]) rfl ?_
    obtain rfl := Option.some.inj h
    exact xeiret rfl rfl
  · rw [if_neg c1] at h
    refine xef_lt_f rfl c1 ?_
    refine xeb 2 (pc' := 6) (ls' := [.ref 0, .int a1]) (st' := [.int 3, .int a1]) rfl ?_
    by_cases c2 : a1 < 3
    · rw [if_pos c2] at h
      refine xei_lt_t rfl c2 ?_
      refine xeb 1 (pc' := 12) (ls' := [.ref 0, .int a1]) (st' := [.ref 0]) rfl ?_
      refine xegf2 rfl xsh0 (by decide) rfl ?_
      refine xeb 2 (pc' := 17) (ls' := [.ref 0, .int a1]) (st' := [.ref 0, .int a1, .ref 38]) rfl ?_
      refine xegf2 rfl xsh0 (by decide) rfl ?_
      obtain ⟨q3, eq3, h⟩ := xbind_some h
      refine xcallV rfl xsh38 rfl rfl rfl (Nat.le_of_ble_eq_true rfl) (Nat.le_of_ble_eq_true rfl) (Nat.le_of_ble_eq_true rfl) rfl (g_Past_fill (d := d + 0) xis26 _ eq3) ?_
      refine xeb 1 (pc' := 24) (ls' := [.ref 0, .int a1]) (st' := [.int 1]) rfl ?_
      obtain rfl := Option.some.inj h
      exact xeiret rfl rfl
    · rw [if_neg c2] at h
      refine xei_lt_f rfl c2 ?_
      refine xeb 1 (pc' := 10) (ls' := [.ref 0, .int a1]) (st' := [.int 0]) rfl ?_
      obtain rfl := Option.some.inj h
      exact xeiret rfl rfl
noncomputable def f_M_hold_20 (F : Nat) : Nat → Int32 → Int32 → XI → Option (Int32 × XI)
  | 0, _, _, _ => none
  | n + 1, v1, v2, I =>
    if 33 ≤ v2 then (some (1, I)) else (xck (xin v2 33) (xck (xin ((33 * v1) + v2) 99) (xst (xput I 174 (xN ((33 * v1) + v2)) (I 162 (xN v2))) fun I8 => f_M_hold_20 F n v1 (v2 + 1) I8)))
theorem g_M_hold_20 {X : XX} {d : Nat} {L : XL} {F : Nat}  {r : Int32 × XI}  : ∀ (n : Nat) (v1 : Int32) (v2 : Int32) (I : XI), f_M_hold_20 F n v1 v2 I = some r → xEv X (d + 1) 286 20 [.ref 131, .int v1, .int v2] [] I L (some (.int r.1)) r.2 L := by
  intro n
  induction n with
  | zero => intro v1 v2 I h; rw [f_M_hold_20] at h; cases h
  | succ n ih =>
    intro v1 v2 I h 
    rw [f_M_hold_20] at h
    refine xeb 2 (pc' := 23) (ls' := [.ref 131, .int v1, .int v2]) (st' := [.int 33, .int v2]) rfl ?_
    by_cases c5 : 33 ≤ v2
    · rw [if_pos c5] at h
      refine xei_ge_t rfl c5 ?_
      refine xeb 1 (pc' := 50) (ls' := [.ref 131, .int v1, .int v2]) (st' := [.int 1]) rfl ?_
      obtain rfl := Option.some.inj h
      exact xeiret rfl rfl
    · rw [if_neg c5] at h
      refine xei_ge_f rfl c5 ?_
      refine xeb 1 (pc' := 27) (ls' := [.ref 131, .int v1, .int v2]) (st' := [.ref 131]) rfl ?_
      refine xegf2 rfl xsh131 (by decide) rfl ?_
      refine xeb 6 (pc' := 37) (ls' := [.ref 131, .int v1, .int v2]) (st' := [.ref 131, .int ((33 * v1) + v2), .ref 174]) rfl ?_
      refine xegf2 rfl xsh131 (by decide) rfl ?_
      refine xeb 1 (pc' := 41) (ls' := [.ref 131, .int v1, .int v2]) (st' := [.int v2, .ref 162, .int ((33 * v1) + v2), .ref 174]) rfl ?_
      obtain ⟨b6, h⟩ := xck_some h
      refine xeia rfl xsh162 b6 ?_
      obtain ⟨b7, h⟩ := xck_some h
      refine xeis rfl xsh174 b7 ?_
      obtain ⟨I8, hI8, h⟩ := xst_some h
      rw [← hI8]
      refine xeb 2 (pc' := 20) (ls' := [.ref 131, .int v1, .int (v2 + 1)]) (st' := []) rfl ?_
      exact ih v1 (v2 + 1) I8 h
noncomputable def f_M_hold (F : Nat) (a1 : Int32) (I : XI) : Option (Int32 × XI) :=
  (f_M_in a1 0 2).bind fun q1 => if q1 = 0 then (some (0, I)) else (xck (xin a1 3) (xst (xput I 173 (xN a1) (1 &&& 1)) fun I4 => f_M_hold_20 F F a1 0 I4))
theorem g_M_hold {X : XX} {d : Nat} {L : XL} {F : Nat} {a1 : Int32} {I : XI}  (r : Int32 × XI) (h : f_M_hold F a1 I = some r) : xEv X (d + 1) 286 0 [.ref 131, .int a1, .null] [] I L (some (.int r.1)) r.2 L := by
  rw [f_M_hold] at h
  refine xeb 3 (pc' := 3) (ls' := [.ref 131, .int a1, .null]) (st' := [.int 2, .int 0, .int a1]) rfl ?_
  obtain ⟨q1, eq1, h⟩ := xbind_some h
  refine xcallS20 rfl rfl rfl (Nat.le_of_ble_eq_true rfl) (Nat.le_of_ble_eq_true rfl) (Nat.le_of_ble_eq_true rfl) rfl (g_M_in (d := d + 0) _ eq1) ?_
  by_cases c2 : q1 = 0
  · rw [if_pos c2] at h
    refine xef_ne_t rfl c2 ?_
    refine xeb 1 (pc' := 10) (ls' := [.ref 131, .int a1, .null]) (st' := [.int 0]) rfl ?_
    obtain rfl := Option.some.inj h
    exact xeiret rfl rfl
  · rw [if_neg c2] at h
    refine xef_ne_f rfl c2 ?_
    refine xeb 1 (pc' := 12) (ls' := [.ref 131, .int a1, .null]) (st' := [.ref 131]) rfl ?_
    refine xegf2 rfl xsh131 (by decide) rfl ?_
    refine xeb 2 (pc' := 17) (ls' := [.ref 131, .int a1, .null]) (st' := [.int 1, .int a1, .ref 173]) rfl ?_
    obtain ⟨b3, h⟩ := xck_some h
    refine xezs rfl xsh173 b3 ?_
    obtain ⟨I4, hI4, h⟩ := xst_some h
    rw [← hI4]
    refine xeb 2 (pc' := 20) (ls' := [.ref 131, .int a1, .int 0]) (st' := []) rfl ?_
    exact g_M_hold_20 F a1 0 I4 h
noncomputable def f_Past_goOnFrom (S2 : Nat) (a1 : Int32) (I : XI) : Option (Int32 × XI) :=
  if (((I 38 4) >>> (a1 &&& 31)) &&& 1) = 0 then (some (0, I)) else (xck (xin a1 3) ((xrf 40 (xN a1)).bind fun R3 => (f_State_copyFrom S2 R3 I).bind fun q4 => xst (xput q4 38 1 0) fun I5 => some (1, I5)))
theorem g_Past_goOnFrom {X : XX} {d : Nat} {L : XL} {S2 : Nat} {a1 : Int32} {I : XI} (hS2 : xisSt S2) (r : Int32 × XI) (h : f_Past_goOnFrom S2 a1 I = some r) : xEv X (d + 1) 287 0 [.ref 38, .int a1, .ref S2] [] I L (some (.int r.1)) r.2 L := by
  rw [f_Past_goOnFrom] at h
  refine xeb 1 (pc' := 1) (ls' := [.ref 38, .int a1, .ref S2]) (st' := [.ref 38]) rfl ?_
  refine xegf0 rfl xsh38 (by decide) ?_
  refine xeb 4 (pc' := 8) (ls' := [.ref 38, .int a1, .ref S2]) (st' := [.int (((I 38 4) >>> (a1 &&& 31)) &&& 1)]) rfl ?_
  by_cases c1 : (((I 38 4) >>> (a1 &&& 31)) &&& 1) = 0
  · rw [if_pos c1] at h
    refine xef_ne_t rfl c1 ?_
    refine xeb 1 (pc' := 12) (ls' := [.ref 38, .int a1, .ref S2]) (st' := [.int 0]) rfl ?_
    obtain rfl := Option.some.inj h
    exact xeiret rfl rfl
  · rw [if_neg c1] at h
    refine xef_ne_f rfl c1 ?_
    refine xeb 2 (pc' := 15) (ls' := [.ref 38, .int a1, .ref S2]) (st' := [.ref 38, .ref S2]) rfl ?_
    refine xegf2 rfl xsh38 (by decide) rfl ?_
    refine xeb 1 (pc' := 19) (ls' := [.ref 38, .int a1, .ref S2]) (st' := [.int a1, .ref 40, .ref S2]) rfl ?_
    obtain ⟨b2, h⟩ := xck_some h
    obtain ⟨R3, eR3, h⟩ := xbind_some h
    refine xeaa rfl xsh40 b2 eR3 ?_
    obtain ⟨q4, eq4, h⟩ := xbind_some h
    refine xcallV rfl hS2.1 rfl rfl rfl (Nat.le_of_ble_eq_true rfl) (Nat.le_of_ble_eq_true rfl) (Nat.le_of_ble_eq_true rfl) rfl (g_State_copyFrom (d := d + 0) hS2 (xisA40 eR3) _ eq4) ?_
    refine xeb 2 (pc' := 25) (ls' := [.ref 38, .int a1, .ref S2]) (st' := [.int 0, .ref 38]) rfl ?_
    refine xepf0 rfl xsh38 (by decide) ?_
    obtain ⟨I5, hI5, h⟩ := xst_some h
    rw [← hI5]
    refine xeb 1 (pc' := 29) (ls' := [.ref 38, .int a1, .ref S2]) (st' := [.int 1]) rfl ?_
    obtain rfl := Option.some.inj h
    exact xeiret rfl rfl
noncomputable def f_H_restore (a1 : Int32) (I : XI) : Option (Int32 × XI) :=
  if a1 < 0 then (some (0, I)) else (if a1 < 3 then ((f_Past_goOnFrom 26 a1 I).bind fun q3 => xck (xnarz q3.1) (some (q3.1, q3.2))) else (some (0, I)))
theorem g_H_restore {X : XX} {d : Nat} {L : XL} {a1 : Int32} {I : XI}  (r : Int32 × XI) (h : f_H_restore a1 I = some r) : xEv X (d + 2) 288 0 [.ref 0, .int a1] [] I L (some (.int r.1)) r.2 L := by
  rw [f_H_restore] at h
  refine xeb 1 (pc' := 1) (ls' := [.ref 0, .int a1]) (st' := [.int a1]) rfl ?_
  by_cases c1 : a1 < 0
  · rw [if_pos c1] at h
    refine xef_lt_t rfl c1 ?_
    refine xeb 1 (pc' := 10) (ls' := [.ref 0, .int a1]) (st' := [.int 0]) rfl ?_
    obtain rfl := Option.some.inj h
    exact xeiret rfl rfl
  · rw [if_neg c1] at h
    refine xef_lt_f rfl c1 ?_
    refine xeb 2 (pc' := 6) (ls' := [.ref 0, .int a1]) (st' := [.int 3, .int a1]) rfl ?_
    by_cases c2 : a1 < 3
    · rw [if_pos c2] at h
      refine xei_lt_t rfl c2 ?_
      refine xeb 1 (pc' := 12) (ls' := [.ref 0, .int a1]) (st' := [.ref 0]) rfl ?_
      refine xegf2 rfl xsh0 (by decide) rfl ?_
      refine xeb 2 (pc' := 17) (ls' := [.ref 0, .int a1]) (st' := [.ref 0, .int a1, .ref 38]) rfl ?_
      refine xegf2 rfl xsh0 (by decide) rfl ?_
      obtain ⟨q3, eq3, h⟩ := xbind_some h
      refine xcallV rfl xsh38 rfl rfl rfl (Nat.le_of_ble_eq_true rfl) (Nat.le_of_ble_eq_true rfl) (Nat.le_of_ble_eq_true rfl) rfl (g_Past_goOnFrom (d := d + 0) xis26 _ eq3) ?_
      obtain ⟨b4, h⟩ := xck_some h
      obtain rfl := Option.some.inj h
      exact xeiret rfl b4
    · rw [if_neg c2] at h
      refine xei_lt_f rfl c2 ?_
      refine xeb 1 (pc' := 10) (ls' := [.ref 0, .int a1]) (st' := [.int 0]) rfl ?_
      obtain rfl := Option.some.inj h
      exact xeiret rfl rfl
noncomputable def f_M_restore_22 (F : Nat) : Nat → Int32 → Int32 → XI → Option (Int32 × XI)
  | 0, _, _, _ => none
  | n + 1, v1, v2, I =>
    if 33 ≤ v2 then (xst (xput I 131 54 0) fun I6 => some (1, I6)) else (xck (xin ((33 * v1) + v2) 99) (xck (xin v2 33) (xst (xput I 162 (xN v2) (I 174 (xN ((33 * v1) + v2)))) fun I9 => f_M_restore_22 F n v1 (v2 + 1) I9)))
theorem g_M_restore_22 {X : XX} {d : Nat} {L : XL} {F : Nat}  {r : Int32 × XI}  : ∀ (n : Nat) (v1 : Int32) (v2 : Int32) (I : XI), f_M_restore_22 F n v1 v2 I = some r → xEv X (d + 1) 289 22 [.ref 131, .int v1, .int v2] [] I L (some (.int r.1)) r.2 L := by
  intro n
  induction n with
  | zero => intro v1 v2 I h; rw [f_M_restore_22] at h; cases h
  | succ n ih =>
    intro v1 v2 I h 
    rw [f_M_restore_22] at h
    refine xeb 2 (pc' := 25) (ls' := [.ref 131, .int v1, .int v2]) (st' := [.int 33, .int v2]) rfl ?_
    by_cases c5 : 33 ≤ v2
    · rw [if_pos c5] at h
      refine xei_ge_t rfl c5 ?_
      refine xeb 2 (pc' := 53) (ls' := [.ref 131, .int v1, .int v2]) (st' := [.int 0, .ref 131]) rfl ?_
      refine xepf0 rfl xsh131 (by decide) ?_
      obtain ⟨I6, hI6, h⟩ := xst_some h
      rw [← hI6]
      refine xeb 1 (pc' := 57) (ls' := [.ref 131, .int v1, .int v2]) (st' := [.int 1]) rfl ?_
      obtain rfl := Option.some.inj h
      exact xeiret rfl rfl
    · rw [if_neg c5] at h
      refine xei_ge_f rfl c5 ?_
      refine xeb 1 (pc' := 29) (ls' := [.ref 131, .int v1, .int v2]) (st' := [.ref 131]) rfl ?_
      refine xegf2 rfl xsh131 (by decide) rfl ?_
      refine xeb 2 (pc' := 34) (ls' := [.ref 131, .int v1, .int v2]) (st' := [.ref 131, .int v2, .ref 162]) rfl ?_
      refine xegf2 rfl xsh131 (by decide) rfl ?_
      refine xeb 5 (pc' := 43) (ls' := [.ref 131, .int v1, .int v2]) (st' := [.int ((33 * v1) + v2), .ref 174, .int v2, .ref 162]) rfl ?_
      obtain ⟨b7, h⟩ := xck_some h
      refine xeia rfl xsh174 b7 ?_
      obtain ⟨b8, h⟩ := xck_some h
      refine xeis rfl xsh162 b8 ?_
      obtain ⟨I9, hI9, h⟩ := xst_some h
      rw [← hI9]
      refine xeb 2 (pc' := 22) (ls' := [.ref 131, .int v1, .int (v2 + 1)]) (st' := []) rfl ?_
      exact ih v1 (v2 + 1) I9 h
noncomputable def f_M_restore (F : Nat) (a1 : Int32) (I : XI) : Option (Int32 × XI) :=
  (f_M_in a1 0 2).bind fun q1 => if q1 = 0 then (some (0, I)) else (xck (xin a1 3) (if (I 173 (xN a1)) = 0 then (some (0, I)) else (f_M_restore_22 F F a1 0 I)))
theorem g_M_restore {X : XX} {d : Nat} {L : XL} {F : Nat} {a1 : Int32} {I : XI}  (r : Int32 × XI) (h : f_M_restore F a1 I = some r) : xEv X (d + 1) 289 0 [.ref 131, .int a1, .null] [] I L (some (.int r.1)) r.2 L := by
  rw [f_M_restore] at h
  refine xeb 3 (pc' := 3) (ls' := [.ref 131, .int a1, .null]) (st' := [.int 2, .int 0, .int a1]) rfl ?_
  obtain ⟨q1, eq1, h⟩ := xbind_some h
  refine xcallS20 rfl rfl rfl (Nat.le_of_ble_eq_true rfl) (Nat.le_of_ble_eq_true rfl) (Nat.le_of_ble_eq_true rfl) rfl (g_M_in (d := d + 0) _ eq1) ?_
  by_cases c2 : q1 = 0
  · rw [if_pos c2] at h
    refine xef_eq_t rfl c2 ?_
    refine xeb 1 (pc' := 19) (ls' := [.ref 131, .int a1, .null]) (st' := [.int 0]) rfl ?_
    obtain rfl := Option.some.inj h
    exact xeiret rfl rfl
  · rw [if_neg c2] at h
    refine xef_eq_f rfl c2 ?_
    refine xeb 1 (pc' := 10) (ls' := [.ref 131, .int a1, .null]) (st' := [.ref 131]) rfl ?_
    refine xegf2 rfl xsh131 (by decide) rfl ?_
    refine xeb 1 (pc' := 14) (ls' := [.ref 131, .int a1, .null]) (st' := [.int a1, .ref 173]) rfl ?_
    obtain ⟨b3, h⟩ := xck_some h
    refine xeza rfl xsh173 b3 ?_
    by_cases c4 : (I 173 (xN a1)) = 0
    · rw [if_pos c4] at h
      refine xef_ne_t rfl c4 ?_
      refine xeb 1 (pc' := 19) (ls' := [.ref 131, .int a1, .null]) (st' := [.int 0]) rfl ?_
      obtain rfl := Option.some.inj h
      exact xeiret rfl rfl
    · rw [if_neg c4] at h
      refine xef_ne_f rfl c4 ?_
      refine xeb 2 (pc' := 22) (ls' := [.ref 131, .int a1, .int 0]) (st' := []) rfl ?_
      exact g_M_restore_22 F a1 0 I h
noncomputable def f_Table_holes_4 (F : Nat) (S0 : Nat) (I : XI) : Nat → Int32 → Int32 → Option (Int32)
  | 0, _, _ => none
  | n + 1, v1, v2 =>
    if 30 ≤ v2 then (some v1) else ((f_Table_isHole S0 I v2).bind fun q2 => f_Table_holes_4 F S0 I n (if q2 = 0 then v1 else (v1 + 1)) (v2 + 1))
theorem g_Table_holes_4 {X : XX} {d : Nat} {L : XL} {F : Nat} {S0 : Nat} {I : XI} (hS0 : xisTb S0) {r : Int32}  : ∀ (n : Nat) (v1 : Int32) (v2 : Int32), f_Table_holes_4 F S0 I n v1 v2 = some r → xEv X (d + 1) 290 4 [.ref S0, .int v1, .int v2] [] I L (some (.int r)) I L := by
  intro n
  induction n with
  | zero => intro v1 v2 h; rw [f_Table_holes_4] at h; cases h
  | succ n ih =>
    intro v1 v2 h 
    rw [f_Table_holes_4] at h
    refine xeb 2 (pc' := 7) (ls' := [.ref S0, .int v1, .int v2]) (st' := [.int 30, .int v2]) rfl ?_
    by_cases c1 : 30 ≤ v2
    · rw [if_pos c1] at h
      refine xei_ge_t rfl c1 ?_
      refine xeb 1 (pc' := 28) (ls' := [.ref S0, .int v1, .int v2]) (st' := [.int v1]) rfl ?_
      obtain rfl := Option.some.inj h
      exact xeiret rfl rfl
    · rw [if_neg c1] at h
      refine xei_ge_f rfl c1 ?_
      refine xeb 2 (pc' := 12) (ls' := [.ref S0, .int v1, .int v2]) (st' := [.int v2, .ref S0]) rfl ?_
      obtain ⟨q2, eq2, h⟩ := xbind_some h
      refine xcallV rfl hS0.1 rfl rfl rfl (Nat.le_of_ble_eq_true rfl) (Nat.le_of_ble_eq_true rfl) (Nat.le_of_ble_eq_true rfl) rfl (g_Table_isHole (d := d + 0) hS0 _ eq2) ?_
      have hj : xEv X (d + 1) 290 21 [.ref S0, .int (if q2 = 0 then v1 else (v1 + 1)), .int v2] [] I L (some (.int r)) I L := by
        refine xeb 2 (pc' := 4) (ls' := [.ref S0, .int (if q2 = 0 then v1 else (v1 + 1)), .int (v2 + 1)]) (st' := []) rfl ?_
        exact ih (if q2 = 0 then v1 else (v1 + 1)) (v2 + 1) h
      by_cases c3 : q2 = 0
      · simp only [if_pos c3] at hj
        refine xef_eq_t rfl c3 ?_
        exact xeb 0 rfl hj
      · simp only [if_neg c3] at hj
        refine xef_eq_f rfl c3 ?_
        exact xeb 1 rfl hj
noncomputable def f_Table_holes (F : Nat) (S0 : Nat) (I : XI) : Option (Int32) :=
  f_Table_holes_4 F S0 I F 0 0
theorem g_Table_holes {X : XX} {d : Nat} {L : XL} {F : Nat} {S0 : Nat} {I : XI} (hS0 : xisTb S0) (r : Int32) (h : f_Table_holes F S0 I = some r) : xEv X (d + 1) 290 0 [.ref S0, .null, .null] [] I L (some (.int r)) I L := by
  rw [f_Table_holes] at h
  refine xeb 4 (pc' := 4) (ls' := [.ref S0, .int 0, .int 0]) (st' := []) rfl ?_
  exact g_Table_holes_4 hS0 F 0 0 h
noncomputable def f_Board_lyingLands_4 (F : Nat) (S1 : Nat) (I : XI) : Nat → Int32 → Int32 → Option (Int32)
  | 0, _, _ => none
  | n + 1, v2, v3 =>
    if 30 ≤ v3 then (some v2) else ((f_State_lies S1 I v3).bind fun q2 => if q2 = 0 then (f_Board_lyingLands_4 F S1 I n v2 (v3 + 1)) else (xck (xin v3 30) (if (I 18 (xN v3)) = 9 then (f_Board_lyingLands_4 F S1 I n v2 (v3 + 1)) else (xck (xin v3 30) (f_Board_lyingLands_4 F S1 I n (v2 ||| (1 <<< ((I 18 (xN v3)) &&& 31))) (v3 + 1))))))
theorem g_Board_lyingLands_4 {X : XX} {d : Nat} {L : XL} {F : Nat} {S1 : Nat} {I : XI} (hS1 : xisSt S1) {r : Int32}  : ∀ (n : Nat) (v2 : Int32) (v3 : Int32), f_Board_lyingLands_4 F S1 I n v2 v3 = some r → xEv X (d + 1) 291 4 [.ref 30, .ref S1, .int v2, .int v3] [] I L (some (.int r)) I L := by
  intro n
  induction n with
  | zero => intro v2 v3 h; rw [f_Board_lyingLands_4] at h; cases h
  | succ n ih =>
    intro v2 v3 h 
    rw [f_Board_lyingLands_4] at h
    refine xeb 2 (pc' := 7) (ls' := [.ref 30, .ref S1, .int v2, .int v3]) (st' := [.int 30, .int v3]) rfl ?_
    by_cases c1 : 30 ≤ v3
    · rw [if_pos c1] at h
      refine xei_ge_t rfl c1 ?_
      refine xeb 1 (pc' := 53) (ls' := [.ref 30, .ref S1, .int v2, .int v3]) (st' := [.int v2]) rfl ?_
      obtain rfl := Option.some.inj h
      exact xeiret rfl rfl
    · rw [if_neg c1] at h
      refine xei_ge_f rfl c1 ?_
      refine xeb 2 (pc' := 12) (ls' := [.ref 30, .ref S1, .int v2, .int v3]) (st' := [.int v3, .ref S1]) rfl ?_
      obtain ⟨q2, eq2, h⟩ := xbind_some h
      refine xcallV rfl hS1.1 rfl rfl rfl (Nat.le_of_ble_eq_true rfl) (Nat.le_of_ble_eq_true rfl) (Nat.le_of_ble_eq_true rfl) rfl (g_State_lies (d := d + 0) hS1 _ eq2) ?_
      by_cases c3 : q2 = 0
      · rw [if_pos c3] at h
        refine xef_eq_t rfl c3 ?_
        refine xeb 2 (pc' := 4) (ls' := [.ref 30, .ref S1, .int v2, .int (v3 + 1)]) (st' := []) rfl ?_
        exact ih v2 (v3 + 1) h
      · rw [if_neg c3] at h
        refine xef_eq_f rfl c3 ?_
        refine xeb 1 (pc' := 19) (ls' := [.ref 30, .ref S1, .int v2, .int v3]) (st' := [.ref 30]) rfl ?_
        refine xegf2 rfl xsh30 (by decide) rfl ?_
        refine xegf12 rfl xsh17 (by decide) rfl ?_
        refine xeb 1 (pc' := 26) (ls' := [.ref 30, .ref S1, .int v2, .int v3]) (st' := [.int v3, .ref 18]) rfl ?_
        obtain ⟨b4, h⟩ := xck_some h
        refine xeia rfl xsh18 b4 ?_
        refine xeb 1 (pc' := 29) (ls' := [.ref 30, .ref S1, .int v2, .int v3]) (st' := [.int 9, .int (I 18 (xN v3))]) rfl ?_
        by_cases c5 : (I 18 (xN v3)) = 9
        · rw [if_pos c5] at h
          refine xei_eq_t rfl c5 ?_
          refine xeb 2 (pc' := 4) (ls' := [.ref 30, .ref S1, .int v2, .int (v3 + 1)]) (st' := []) rfl ?_
          exact ih v2 (v3 + 1) h
        · rw [if_neg c5] at h
          refine xei_eq_f rfl c5 ?_
          refine xeb 3 (pc' := 35) (ls' := [.ref 30, .ref S1, .int v2, .int v3]) (st' := [.ref 30, .int 1, .int v2]) rfl ?_
          refine xegf2 rfl xsh30 (by decide) rfl ?_
          refine xegf12 rfl xsh17 (by decide) rfl ?_
          refine xeb 1 (pc' := 42) (ls' := [.ref 30, .ref S1, .int v2, .int v3]) (st' := [.int v3, .ref 18, .int 1, .int v2]) rfl ?_
          obtain ⟨b6, h⟩ := xck_some h
          refine xeia rfl xsh18 b6 ?_
          refine xeb 5 (pc' := 4) (ls' := [.ref 30, .ref S1, .int (v2 ||| (1 <<< ((I 18 (xN v3)) &&& 31))), .int (v3 + 1)]) (st' := []) rfl ?_
          exact ih (v2 ||| (1 <<< ((I 18 (xN v3)) &&& 31))) (v3 + 1) h
noncomputable def f_Board_lyingLands (F : Nat) (S1 : Nat) (I : XI) : Option (Int32) :=
  f_Board_lyingLands_4 F S1 I F 0 0
theorem g_Board_lyingLands {X : XX} {d : Nat} {L : XL} {F : Nat} {S1 : Nat} {I : XI} (hS1 : xisSt S1) (r : Int32) (h : f_Board_lyingLands F S1 I = some r) : xEv X (d + 1) 291 0 [.ref 30, .ref S1, .null, .null] [] I L (some (.int r)) I L := by
  rw [f_Board_lyingLands] at h
  refine xeb 4 (pc' := 4) (ls' := [.ref 30, .ref S1, .int 0, .int 0]) (st' := []) rfl ?_
  exact g_Board_lyingLands_4 hS1 F 0 0 h
noncomputable def f_H_count (F : Nat) (a1 : Int32) (I : XI) : Option (Int32 × XI) :=
  if a1 < 0 ∨ 15 < a1 then (some ((-1), I)) else if a1 = 0 then (some ((I 17 0), I)) else if a1 = 1 then (some ((I 17 1), I)) else if a1 = 2 then (some ((I 17 2), I)) else if a1 = 3 then (some ((I 26 1), I)) else if a1 = 4 then ((f_State_lying F 26 I).bind fun q6 => some (q6, I)) else if a1 = 5 then (some ((I 26 2), I)) else if a1 = 6 then ((f_Rules_isWet F (I 26 1) I).bind fun q9 => some ((if q9.1 = 0 then 0 else 1), q9.2)) else if a1 = 7 then ((f_Calendar_isKnock I (I 17 4) (I 26 1)).bind fun q12 => some ((if q12 = 0 then 0 else 1), I)) else if a1 = 8 then ((f_Table_holes F 17 I).bind fun q15 => some (q15, I)) else if a1 = 9 then (some ((I 1 1), I)) else if a1 = 10 then (some ((I 38 1), I)) else if a1 = 11 then (some ((I 127 3), I)) else if a1 = 12 then ((f_Integer_bitCount (I 38 4)).bind fun q20 => some (q20, I)) else if a1 = 13 then (some ((I 26 3), I)) else if a1 = 14 then ((f_State_pressedSpares F 26 I).bind fun q23 => some (q23, I)) else if a1 = 15 then ((f_Board_lyingLands F 26 I).bind fun q25 => some (q25, I)) else none
theorem g_H_count {X : XX} {d : Nat} {L : XL} {F : Nat} {a1 : Int32} {I : XI}  (r : Int32 × XI) (h : f_H_count F a1 I = some r) : xEv X (d + 3) 292 0 [.ref 0, .int a1] [] I L (some (.int r.1)) r.2 L := by
  rw [f_H_count] at h
  refine xeb 1 (pc' := 1) (ls' := [.ref 0, .int a1]) (st' := [.int a1]) rfl ?_
  by_cases c1 : a1 < 0 ∨ 15 < a1
  · rw [if_pos c1] at h
    refine xetabO rfl rfl rfl c1 ?_
    refine xeb 1 (pc' := 253) (ls' := [.ref 0, .int a1]) (st' := [.int (-1)]) rfl ?_
    obtain rfl := Option.some.inj h
    exact xeiret rfl rfl
  rw [if_neg c1] at h
  by_cases c2 : a1 = 0
  · rw [if_pos c2] at h
    refine xetabI rfl c2 rfl ?_
    refine xeb 1 (pc' := 81) (ls' := [.ref 0, .int a1]) (st' := [.ref 0]) rfl ?_
    refine xegf2 rfl xsh0 (by decide) rfl ?_
    refine xegf10 rfl xsh17 (by decide) ?_
    obtain rfl := Option.some.inj h
    exact xeiret rfl rfl
  rw [if_neg c2] at h
  by_cases c3 : a1 = 1
  · rw [if_pos c3] at h
    refine xetabI rfl c3 rfl ?_
    refine xeb 1 (pc' := 89) (ls' := [.ref 0, .int a1]) (st' := [.ref 0]) rfl ?_
    refine xegf2 rfl xsh0 (by decide) rfl ?_
    refine xegf10 rfl xsh17 (by decide) ?_
    obtain rfl := Option.some.inj h
    exact xeiret rfl rfl
  rw [if_neg c3] at h
  by_cases c4 : a1 = 2
  · rw [if_pos c4] at h
    refine xetabI rfl c4 rfl ?_
    refine xeb 1 (pc' := 97) (ls' := [.ref 0, .int a1]) (st' := [.ref 0]) rfl ?_
    refine xegf2 rfl xsh0 (by decide) rfl ?_
    refine xegf10 rfl xsh17 (by decide) ?_
    obtain rfl := Option.some.inj h
    exact xeiret rfl rfl
  rw [if_neg c4] at h
  by_cases c5 : a1 = 3
  · rw [if_pos c5] at h
    refine xetabI rfl c5 rfl ?_
    refine xeb 1 (pc' := 105) (ls' := [.ref 0, .int a1]) (st' := [.ref 0]) rfl ?_
    refine xegf2 rfl xsh0 (by decide) rfl ?_
    refine xegf10 rfl xsh26 (by decide) ?_
    obtain rfl := Option.some.inj h
    exact xeiret rfl rfl
  rw [if_neg c5] at h
  by_cases c7 : a1 = 4
  · rw [if_pos c7] at h
    refine xetabI rfl c7 rfl ?_
    refine xeb 1 (pc' := 113) (ls' := [.ref 0, .int a1]) (st' := [.ref 0]) rfl ?_
    refine xegf2 rfl xsh0 (by decide) rfl ?_
    obtain ⟨q6, eq6, h⟩ := xbind_some h
    refine xcallV rfl xsh26 rfl rfl rfl (Nat.le_of_ble_eq_true rfl) (Nat.le_of_ble_eq_true rfl) (Nat.le_of_ble_eq_true rfl) rfl (g_State_lying (d := d + 1) xis26 _ eq6) ?_
    obtain rfl := Option.some.inj h
    exact xeiret rfl rfl
  rw [if_neg c7] at h
  by_cases c8 : a1 = 5
  · rw [if_pos c8] at h
    refine xetabI rfl c8 rfl ?_
    refine xeb 1 (pc' := 121) (ls' := [.ref 0, .int a1]) (st' := [.ref 0]) rfl ?_
    refine xegf2 rfl xsh0 (by decide) rfl ?_
    refine xegf10 rfl xsh26 (by decide) ?_
    obtain rfl := Option.some.inj h
    exact xeiret rfl rfl
  rw [if_neg c8] at h
  by_cases c11 : a1 = 6
  · rw [if_pos c11] at h
    refine xetabI rfl c11 rfl ?_
    refine xeb 1 (pc' := 129) (ls' := [.ref 0, .int a1]) (st' := [.ref 0]) rfl ?_
    refine xegf2 rfl xsh0 (by decide) rfl ?_
    refine xeb 1 (pc' := 133) (ls' := [.ref 0, .int a1]) (st' := [.ref 0, .ref 32]) rfl ?_
    refine xegf2 rfl xsh0 (by decide) rfl ?_
    refine xegf10 rfl xsh26 (by decide) ?_
    obtain ⟨q9, eq9, h⟩ := xbind_some h
    refine xcallV rfl xsh32 rfl rfl rfl (Nat.le_of_ble_eq_true rfl) (Nat.le_of_ble_eq_true rfl) (Nat.le_of_ble_eq_true rfl) rfl (g_Rules_isWet (d := d + 0) _ eq9) ?_
    have hj : xEv X (d + 3) 292 150 [.ref 0, .int a1] [.int (if q9.1 = 0 then 0 else 1)] q9.2 L (some (.int r.1)) r.2 L := by
      obtain rfl := Option.some.inj h
      exact xeiret rfl rfl
    by_cases c10 : q9.1 = 0
    · simp only [if_pos c10] at hj
      refine xef_eq_t rfl c10 ?_
      exact xeb 1 rfl hj
    · simp only [if_neg c10] at hj
      refine xef_eq_f rfl c10 ?_
      exact xeb 2 rfl hj
  rw [if_neg c11] at h
  by_cases c14 : a1 = 7
  · rw [if_pos c14] at h
    refine xetabI rfl c14 rfl ?_
    refine xeb 1 (pc' := 152) (ls' := [.ref 0, .int a1]) (st' := [.ref 0]) rfl ?_
    refine xegf2 rfl xsh0 (by decide) rfl ?_
    refine xeb 1 (pc' := 156) (ls' := [.ref 0, .int a1]) (st' := [.ref 0, .ref 37]) rfl ?_
    refine xegf2 rfl xsh0 (by decide) rfl ?_
    refine xegf10 rfl xsh17 (by decide) ?_
    refine xeb 1 (pc' := 163) (ls' := [.ref 0, .int a1]) (st' := [.ref 0, .int (I 17 4), .ref 37]) rfl ?_
    refine xegf2 rfl xsh0 (by decide) rfl ?_
    refine xegf10 rfl xsh26 (by decide) ?_
    obtain ⟨q12, eq12, h⟩ := xbind_some h
    refine xcallV rfl xsh37 rfl rfl rfl (Nat.le_of_ble_eq_true rfl) (Nat.le_of_ble_eq_true rfl) (Nat.le_of_ble_eq_true rfl) rfl (g_Calendar_isKnock (d := d + 0) _ eq12) ?_
    have hj : xEv X (d + 3) 292 180 [.ref 0, .int a1] [.int (if q12 = 0 then 0 else 1)] I L (some (.int r.1)) r.2 L := by
      obtain rfl := Option.some.inj h
      exact xeiret rfl rfl
    by_cases c13 : q12 = 0
    · simp only [if_pos c13] at hj
      refine xef_eq_t rfl c13 ?_
      exact xeb 1 rfl hj
    · simp only [if_neg c13] at hj
      refine xef_eq_f rfl c13 ?_
      exact xeb 2 rfl hj
  rw [if_neg c14] at h
  by_cases c16 : a1 = 8
  · rw [if_pos c16] at h
    refine xetabI rfl c16 rfl ?_
    refine xeb 1 (pc' := 182) (ls' := [.ref 0, .int a1]) (st' := [.ref 0]) rfl ?_
    refine xegf2 rfl xsh0 (by decide) rfl ?_
    obtain ⟨q15, eq15, h⟩ := xbind_some h
    refine xcallV rfl xsh17 rfl rfl rfl (Nat.le_of_ble_eq_true rfl) (Nat.le_of_ble_eq_true rfl) (Nat.le_of_ble_eq_true rfl) rfl (g_Table_holes (d := d + 1) xis17 _ eq15) ?_
    obtain rfl := Option.some.inj h
    exact xeiret rfl rfl
  rw [if_neg c16] at h
  by_cases c17 : a1 = 9
  · rw [if_pos c17] at h
    refine xetabI rfl c17 rfl ?_
    refine xeb 1 (pc' := 190) (ls' := [.ref 0, .int a1]) (st' := [.ref 0]) rfl ?_
    refine xegf2 rfl xsh0 (by decide) rfl ?_
    refine xegf10 rfl xsh1 (by decide) ?_
    obtain rfl := Option.some.inj h
    exact xeiret rfl rfl
  rw [if_neg c17] at h
  by_cases c18 : a1 = 10
  · rw [if_pos c18] at h
    refine xetabI rfl c18 rfl ?_
    refine xeb 1 (pc' := 198) (ls' := [.ref 0, .int a1]) (st' := [.ref 0]) rfl ?_
    refine xegf2 rfl xsh0 (by decide) rfl ?_
    refine xegf10 rfl xsh38 (by decide) ?_
    obtain rfl := Option.some.inj h
    exact xeiret rfl rfl
  rw [if_neg c18] at h
  by_cases c19 : a1 = 11
  · rw [if_pos c19] at h
    refine xetabI rfl c19 rfl ?_
    refine xeb 1 (pc' := 206) (ls' := [.ref 0, .int a1]) (st' := [.ref 0]) rfl ?_
    refine xegf2 rfl xsh0 (by decide) rfl ?_
    refine xegf10 rfl xsh127 (by decide) ?_
    obtain rfl := Option.some.inj h
    exact xeiret rfl rfl
  rw [if_neg c19] at h
  by_cases c21 : a1 = 12
  · rw [if_pos c21] at h
    refine xetabI rfl c21 rfl ?_
    refine xeb 1 (pc' := 214) (ls' := [.ref 0, .int a1]) (st' := [.ref 0]) rfl ?_
    refine xegf2 rfl xsh0 (by decide) rfl ?_
    refine xegf10 rfl xsh38 (by decide) ?_
    obtain ⟨q20, eq20, h⟩ := xbind_some h
    refine xcallS20 rfl rfl rfl (Nat.le_of_ble_eq_true rfl) (Nat.le_of_ble_eq_true rfl) (Nat.le_of_ble_eq_true rfl) rfl (g_Integer_bitCount (d := d + 2) _ eq20) ?_
    obtain rfl := Option.some.inj h
    exact xeiret rfl rfl
  rw [if_neg c21] at h
  by_cases c22 : a1 = 13
  · rw [if_pos c22] at h
    refine xetabI rfl c22 rfl ?_
    refine xeb 1 (pc' := 225) (ls' := [.ref 0, .int a1]) (st' := [.ref 0]) rfl ?_
    refine xegf2 rfl xsh0 (by decide) rfl ?_
    refine xegf10 rfl xsh26 (by decide) ?_
    obtain rfl := Option.some.inj h
    exact xeiret rfl rfl
  rw [if_neg c22] at h
  by_cases c24 : a1 = 14
  · rw [if_pos c24] at h
    refine xetabI rfl c24 rfl ?_
    refine xeb 1 (pc' := 233) (ls' := [.ref 0, .int a1]) (st' := [.ref 0]) rfl ?_
    refine xegf2 rfl xsh0 (by decide) rfl ?_
    obtain ⟨q23, eq23, h⟩ := xbind_some h
    refine xcallV rfl xsh26 rfl rfl rfl (Nat.le_of_ble_eq_true rfl) (Nat.le_of_ble_eq_true rfl) (Nat.le_of_ble_eq_true rfl) rfl (g_State_pressedSpares (d := d + 2) xis26 _ eq23) ?_
    obtain rfl := Option.some.inj h
    exact xeiret rfl rfl
  rw [if_neg c24] at h
  by_cases c26 : a1 = 15
  · rw [if_pos c26] at h
    refine xetabI rfl c26 rfl ?_
    refine xeb 1 (pc' := 241) (ls' := [.ref 0, .int a1]) (st' := [.ref 0]) rfl ?_
    refine xegf2 rfl xsh0 (by decide) rfl ?_
    refine xeb 1 (pc' := 245) (ls' := [.ref 0, .int a1]) (st' := [.ref 0, .ref 30]) rfl ?_
    refine xegf2 rfl xsh0 (by decide) rfl ?_
    obtain ⟨q25, eq25, h⟩ := xbind_some h
    refine xcallV rfl xsh30 rfl rfl rfl (Nat.le_of_ble_eq_true rfl) (Nat.le_of_ble_eq_true rfl) (Nat.le_of_ble_eq_true rfl) rfl (g_Board_lyingLands (d := d + 1) xis26 _ eq25) ?_
    obtain rfl := Option.some.inj h
    exact xeiret rfl rfl
  rw [if_neg c26] at h
  cases h
