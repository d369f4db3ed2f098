/-! the methods as functions, and that a run answers so (by gen6.py) -/
noncomputable def f_M_isRowSet_2 (F : Nat) (I : XI) : Nat → Int32 → Int32 → Int32 → Option (Int32)
  | 0, _, _, _ => none
  | n + 1, v1, v2, v3 =>
    if 6 ≤ v3 then (some 1) else (if ((v2 >>> (v3 &&& 31)) &&& 1) = 0 then (f_M_isRowSet_2 F I n v1 v2 (v3 + 1)) else ((f_M_isPiece I v3 v1).bind fun q3 => if q3 = 0 then (some 0) else (if ((v2 >>> ((v3 + 1) &&& 31)) &&& 1) = 1 then ((f_M_isPiece I (v3 + 1) v1).bind fun q6 => if q6 = 0 then (f_M_isRowSet_2 F I n v1 v2 (v3 + 1)) else ((f_M_doFit I ((6 * v1) + v3) 1).bind fun q8 => if q8 = 0 then (some 0) else (f_M_isRowSet_2 F I n v1 v2 (v3 + 1)))) else (f_M_isRowSet_2 F I n v1 v2 (v3 + 1)))))
theorem g_M_isRowSet_2 {X : XX} {d : Nat} {L : XL} {F : Nat} {I : XI}  {r : Int32}  : ∀ (n : Nat) (v1 : Int32) (v2 : Int32) (v3 : Int32), f_M_isRowSet_2 F I n v1 v2 v3 = some r → xEv X (d + 4) 241 2 [.ref 131, .int v1, .int v2, .int v3] [] I L (some (.int r)) I L := by
  intro n
  induction n with
  | zero => intro v1 v2 v3 h; rw [f_M_isRowSet_2] at h; cases h
  | succ n ih =>
    intro v1 v2 v3 h 
    rw [f_M_isRowSet_2] at h
    refine xeb 2 (pc' := 5) (ls' := [.ref 131, .int v1, .int v2, .int v3]) (st' := [.int 6, .int v3]) rfl ?_
    by_cases c1 : 6 ≤ v3
    · rw [if_pos c1] at h
      refine xei_ge_t rfl c1 ?_
      refine xeb 1 (pc' := 75) (ls' := [.ref 131, .int v1, .int v2, .int v3]) (st' := [.int 1]) rfl ?_
      obtain rfl := Option.some.inj h
      exact xeiret rfl rfl
    · rw [if_neg c1] at h
      refine xei_ge_f rfl c1 ?_
      refine xeb 5 (pc' := 13) (ls' := [.ref 131, .int v1, .int v2, .int v3]) (st' := [.int ((v2 >>> (v3 &&& 31)) &&& 1)]) rfl ?_
      by_cases c2 : ((v2 >>> (v3 &&& 31)) &&& 1) = 0
      · rw [if_pos c2] at h
        refine xef_ne_t rfl c2 ?_
        refine xeb 3 (pc' := 2) (ls' := [.ref 131, .int v1, .int v2, .int (v3 + 1)]) (st' := []) rfl ?_
        exact ih v1 v2 (v3 + 1) h
      · rw [if_neg c2] at h
        refine xef_ne_f rfl c2 ?_
        refine xeb 3 (pc' := 22) (ls' := [.ref 131, .int v1, .int v2, .int v3]) (st' := [.int v1, .int v3, .ref 131]) rfl ?_
        obtain ⟨q3, eq3, h⟩ := xbind_some h
        refine xcallV rfl xsh131 rfl rfl rfl (Nat.le_of_ble_eq_true rfl) (Nat.le_of_ble_eq_true rfl) (Nat.le_of_ble_eq_true rfl) rfl (g_M_isPiece (d := d + 1) _ eq3) ?_
        by_cases c4 : q3 = 0
        · rw [if_pos c4] at h
          refine xef_ne_t rfl c4 ?_
          refine xeb 1 (pc' := 29) (ls' := [.ref 131, .int v1, .int v2, .int v3]) (st' := [.int 0]) rfl ?_
          obtain rfl := Option.some.inj h
          exact xeiret rfl rfl
        · rw [if_neg c4] at h
          refine xef_ne_f rfl c4 ?_
          refine xeb 8 (pc' := 38) (ls' := [.ref 131, .int v1, .int v2, .int v3]) (st' := [.int 1, .int ((v2 >>> ((v3 + 1) &&& 31)) &&& 1)]) rfl ?_
          by_cases c5 : ((v2 >>> ((v3 + 1) &&& 31)) &&& 1) = 1
          · rw [if_pos c5] at h
            refine xei_ne_t rfl c5 ?_
            refine xeb 5 (pc' := 46) (ls' := [.ref 131, .int v1, .int v2, .int v3]) (st' := [.int v1, .int (v3 + 1), .ref 131]) rfl ?_
            obtain ⟨q6, eq6, h⟩ := xbind_some h
            refine xcallV rfl xsh131 rfl rfl rfl (Nat.le_of_ble_eq_true rfl) (Nat.le_of_ble_eq_true rfl) (Nat.le_of_ble_eq_true rfl) rfl (g_M_isPiece (d := d + 1) _ eq6) ?_
            by_cases c7 : q6 = 0
            · rw [if_pos c7] at h
              refine xef_eq_t rfl c7 ?_
              refine xeb 2 (pc' := 2) (ls' := [.ref 131, .int v1, .int v2, .int (v3 + 1)]) (st' := []) rfl ?_
              exact ih v1 v2 (v3 + 1) h
            · rw [if_neg c7] at h
              refine xef_eq_f rfl c7 ?_
              refine xeb 7 (pc' := 60) (ls' := [.ref 131, .int v1, .int v2, .int v3]) (st' := [.int 1, .int ((6 * v1) + v3), .ref 131]) rfl ?_
              obtain ⟨q8, eq8, h⟩ := xbind_some h
              refine xcallV rfl xsh131 rfl rfl rfl (Nat.le_of_ble_eq_true rfl) (Nat.le_of_ble_eq_true rfl) (Nat.le_of_ble_eq_true rfl) rfl (g_M_doFit (d := d + 0) _ eq8) ?_
              by_cases c9 : q8 = 0
              · rw [if_pos c9] at h
                refine xef_ne_t rfl c9 ?_
                refine xeb 1 (pc' := 67) (ls' := [.ref 131, .int v1, .int v2, .int v3]) (st' := [.int 0]) rfl ?_
                obtain rfl := Option.some.inj h
                exact xeiret rfl rfl
              · rw [if_neg c9] at h
                refine xef_ne_f rfl c9 ?_
                refine xeb 2 (pc' := 2) (ls' := [.ref 131, .int v1, .int v2, .int (v3 + 1)]) (st' := []) rfl ?_
                exact ih v1 v2 (v3 + 1) h
          · rw [if_neg c5] at h
            refine xei_ne_f rfl c5 ?_
            refine xeb 2 (pc' := 2) (ls' := [.ref 131, .int v1, .int v2, .int (v3 + 1)]) (st' := []) rfl ?_
            exact ih v1 v2 (v3 + 1) h
noncomputable def f_M_isRowSet (F : Nat) (I : XI) (a1 : Int32) (a2 : Int32) : Option (Int32) :=
  f_M_isRowSet_2 F I F a1 a2 0
theorem g_M_isRowSet {X : XX} {d : Nat} {L : XL} {F : Nat} {I : XI} {a1 : Int32} {a2 : Int32}  (r : Int32) (h : f_M_isRowSet F I a1 a2 = some r) : xEv X (d + 4) 241 0 [.ref 131, .int a1, .int a2, .null] [] I L (some (.int r)) I L := by
  rw [f_M_isRowSet] at h
  refine xeb 2 (pc' := 2) (ls' := [.ref 131, .int a1, .int a2, .int 0]) (st' := []) rfl ?_
  exact g_M_isRowSet_2 F a1 a2 0 h
noncomputable def f_M_bits_4 (F : Nat) : Nat → Int32 → Int32 → Int32 → Option (Int32)
  | 0, _, _, _ => none
  | n + 1, v0, v1, v2 =>
    if 6 ≤ v2 then (some v1) else (f_M_bits_4 F n v0 (v1 + ((v0 >>> (v2 &&& 31)) &&& 1)) (v2 + 1))
theorem g_M_bits_4 {X : XX} {d : Nat} {I : XI} {L : XL} {F : Nat}  {r : Int32}  : ∀ (n : Nat) (v0 : Int32) (v1 : Int32) (v2 : Int32), f_M_bits_4 F n v0 v1 v2 = some r → xEv X (d + 0) 242 4 [.int v0, .int v1, .int v2] [] I L (some (.int r)) I L := by
  intro n
  induction n with
  | zero => intro v0 v1 v2 h; rw [f_M_bits_4] at h; cases h
  | succ n ih =>
    intro v0 v1 v2 h 
    rw [f_M_bits_4] at h
    refine xeb 2 (pc' := 7) (ls' := [.int v0, .int v1, .int v2]) (st' := [.int 6, .int v2]) rfl ?_
    by_cases c1 : 6 ≤ v2
    · rw [if_pos c1] at h
      refine xei_ge_t rfl c1 ?_
      refine xeb 1 (pc' := 25) (ls' := [.int v0, .int v1, .int v2]) (st' := [.int v1]) rfl ?_
      obtain rfl := Option.some.inj h
      exact xeiret rfl rfl
    · rw [if_neg c1] at h
      refine xei_ge_f rfl c1 ?_
      refine xeb 10 (pc' := 4) (ls' := [.int v0, .int (v1 + ((v0 >>> (v2 &&& 31)) &&& 1)), .int (v2 + 1)]) (st' := []) rfl ?_
      exact ih v0 (v1 + ((v0 >>> (v2 &&& 31)) &&& 1)) (v2 + 1) h
noncomputable def f_M_bits (F : Nat) (a0 : Int32) : Option (Int32) :=
  f_M_bits_4 F F a0 0 0
theorem g_M_bits {X : XX} {d : Nat} {I : XI} {L : XL} {F : Nat} {a0 : Int32}  (r : Int32) (h : f_M_bits F a0 = some r) : xEv X (d + 0) 242 0 [.int a0, .null, .null] [] I L (some (.int r)) I L := by
  rw [f_M_bits] at h
  refine xeb 4 (pc' := 4) (ls' := [.int a0, .int 0, .int 0]) (st' := []) rfl ?_
  exact g_M_bits_4 F a0 0 0 h
noncomputable def f_M_areRowSets_3 (F : Nat) (I : XI) : Nat → Int32 → Int32 → Int32 → Int32 → Option (Int32)
  | 0, _, _, _, _ => none
  | n + 1, v1, v2, v3, v4 =>
    if 6 ≤ v4 then (some 1) else (if (((v2 &&& v3) >>> (v4 &&& 31)) &&& 1) = 1 then ((f_M_doFit I ((6 * v1) + v4) 0).bind fun q3 => if q3 = 0 then (some 0) else (f_M_areRowSets_3 F I n v1 v2 v3 (v4 + 1))) else (f_M_areRowSets_3 F I n v1 v2 v3 (v4 + 1)))
theorem g_M_areRowSets_3 {X : XX} {d : Nat} {L : XL} {F : Nat} {I : XI}  {r : Int32}  : ∀ (n : Nat) (v1 : Int32) (v2 : Int32) (v3 : Int32) (v4 : Int32), f_M_areRowSets_3 F I n v1 v2 v3 v4 = some r → xEv X (d + 4) 243 3 [.ref 131, .int v1, .int v2, .int v3, .int v4] [] I L (some (.int r)) I L := by
  intro n
  induction n with
  | zero => intro v1 v2 v3 v4 h; rw [f_M_areRowSets_3] at h; cases h
  | succ n ih =>
    intro v1 v2 v3 v4 h 
    rw [f_M_areRowSets_3] at h
    refine xeb 2 (pc' := 7) (ls' := [.ref 131, .int v1, .int v2, .int v3, .int v4]) (st' := [.int 6, .int v4]) rfl ?_
    by_cases c1 : 6 ≤ v4
    · rw [if_pos c1] at h
      refine xei_ge_t rfl c1 ?_
      refine xeb 1 (pc' := 46) (ls' := [.ref 131, .int v1, .int v2, .int v3, .int v4]) (st' := [.int 1]) rfl ?_
      obtain rfl := Option.some.inj h
      exact xeiret rfl rfl
    · rw [if_neg c1] at h
      refine xei_ge_f rfl c1 ?_
      refine xeb 8 (pc' := 19) (ls' := [.ref 131, .int v1, .int v2, .int v3, .int v4]) (st' := [.int 1, .int (((v2 &&& v3) >>> (v4 &&& 31)) &&& 1)]) rfl ?_
      by_cases c2 : (((v2 &&& v3) >>> (v4 &&& 31)) &&& 1) = 1
      · rw [if_pos c2] at h
        refine xei_ne_t rfl c2 ?_
        refine xeb 7 (pc' := 31) (ls' := [.ref 131, .int v1, .int v2, .int v3, .int v4]) (st' := [.int 0, .int ((6 * v1) + v4), .ref 131]) rfl ?_
        obtain ⟨q3, eq3, h⟩ := xbind_some h
        refine xcallV rfl xsh131 rfl rfl rfl (Nat.le_of_ble_eq_true rfl) (Nat.le_of_ble_eq_true rfl) (Nat.le_of_ble_eq_true rfl) rfl (g_M_doFit (d := d + 0) _ eq3) ?_
        by_cases c4 : q3 = 0
        · rw [if_pos c4] at h
          refine xef_ne_t rfl c4 ?_
          refine xeb 1 (pc' := 38) (ls' := [.ref 131, .int v1, .int v2, .int v3, .int v4]) (st' := [.int 0]) rfl ?_
          obtain rfl := Option.some.inj h
          exact xeiret rfl rfl
        · rw [if_neg c4] at h
          refine xef_ne_f rfl c4 ?_
          refine xeb 2 (pc' := 3) (ls' := [.ref 131, .int v1, .int v2, .int v3, .int (v4 + 1)]) (st' := []) rfl ?_
          exact ih v1 v2 v3 (v4 + 1) h
      · rw [if_neg c2] at h
        refine xei_ne_f rfl c2 ?_
        refine xeb 2 (pc' := 3) (ls' := [.ref 131, .int v1, .int v2, .int v3, .int (v4 + 1)]) (st' := []) rfl ?_
        exact ih v1 v2 v3 (v4 + 1) h
noncomputable def f_M_areRowSets (F : Nat) (I : XI) (a1 : Int32) (a2 : Int32) (a3 : Int32) : Option (Int32) :=
  f_M_areRowSets_3 F I F a1 a2 a3 0
theorem g_M_areRowSets {X : XX} {d : Nat} {L : XL} {F : Nat} {I : XI} {a1 : Int32} {a2 : Int32} {a3 : Int32}  (r : Int32) (h : f_M_areRowSets F I a1 a2 a3 = some r) : xEv X (d + 4) 243 0 [.ref 131, .int a1, .int a2, .int a3, .null] [] I L (some (.int r)) I L := by
  rw [f_M_areRowSets] at h
  refine xeb 2 (pc' := 3) (ls' := [.ref 131, .int a1, .int a2, .int a3, .int 0]) (st' := []) rfl ?_
  exact g_M_areRowSets_3 F a1 a2 a3 0 h
noncomputable def f_M_most_224 (F : Nat) : Nat → Int32 → Int32 → XI → Option (Int32 × XI)
  | 0, _, _, _ => none
  | n + 1, v1, v2, I =>
    if 64 ≤ v2 then (some (v1, I)) else (xck (xin v2 64) (if (I 168 (xN v2)) ≤ v1 then (f_M_most_224 F n v1 (v2 + 1) I) else (xck (xin v2 64) (f_M_most_224 F n (I 168 (xN v2)) (v2 + 1) I))))
theorem g_M_most_224 {X : XX} {d : Nat} {L : XL} {F : Nat}  {r : Int32 × XI}  : ∀ (n : Nat) (v1 : Int32) (v2 : Int32) (I : XI), f_M_most_224 F n v1 v2 I = some r → ∀ (z3 : Value), xEv X (d + 5) 244 224 [.ref 131, .int v1, .int v2, z3] [] I L (some (.int r.1)) r.2 L := by
  intro n
  induction n with
  | zero => intro v1 v2 I h; rw [f_M_most_224] at h; cases h
  | succ n ih =>
    intro v1 v2 I h z3
    rw [f_M_most_224] at h
    refine xeb 2 (pc' := 227) (ls' := [.ref 131, .int v1, .int v2, z3]) (st' := [.int 64, .int v2]) rfl ?_
    by_cases c6 : 64 ≤ v2
    · rw [if_pos c6] at h
      refine xei_ge_t rfl c6 ?_
      refine xeb 1 (pc' := 254) (ls' := [.ref 131, .int v1, .int v2, z3]) (st' := [.int v1]) rfl ?_
      obtain rfl := Option.some.inj h
      exact xeiret rfl rfl
    · rw [if_neg c6] at h
      refine xei_ge_f rfl c6 ?_
      refine xeb 1 (pc' := 231) (ls' := [.ref 131, .int v1, .int v2, z3]) (st' := [.ref 131]) rfl ?_
      refine xegf2 rfl xsh131 (by decide) rfl ?_
      refine xeb 1 (pc' := 235) (ls' := [.ref 131, .int v1, .int v2, z3]) (st' := [.int v2, .ref 168]) rfl ?_
      obtain ⟨b7, h⟩ := xck_some h
      refine xeia rfl xsh168 b7 ?_
      refine xeb 1 (pc' := 237) (ls' := [.ref 131, .int v1, .int v2, z3]) (st' := [.int v1, .int (I 168 (xN v2))]) rfl ?_
      by_cases c8 : (I 168 (xN v2)) ≤ v1
      · rw [if_pos c8] at h
        refine xei_le_t rfl c8 ?_
        refine xeb 2 (pc' := 224) (ls' := [.ref 131, .int v1, .int (v2 + 1), z3]) (st' := []) rfl ?_
        exact ih v1 (v2 + 1) I h _
      · rw [if_neg c8] at h
        refine xei_le_f rfl c8 ?_
        refine xeb 1 (pc' := 241) (ls' := [.ref 131, .int v1, .int v2, z3]) (st' := [.ref 131]) rfl ?_
        refine xegf2 rfl xsh131 (by decide) rfl ?_
        refine xeb 1 (pc' := 245) (ls' := [.ref 131, .int v1, .int v2, z3]) (st' := [.int v2, .ref 168]) rfl ?_
        obtain ⟨b9, h⟩ := xck_some h
        refine xeia rfl xsh168 b9 ?_
        refine xeb 3 (pc' := 224) (ls' := [.ref 131, .int (I 168 (xN v2)), .int (v2 + 1), z3]) (st' := []) rfl ?_
        exact ih (I 168 (xN v2)) (v2 + 1) I h _
noncomputable def f_M_most_190 (F : Nat) (k72 : Int32 → XI → Option (Int32 × XI)) : Nat → Int32 → Int32 → XI → Option (Int32 × XI)
  | 0, _, _, _ => none
  | n + 1, v1, v2, I =>
    if 64 ≤ v2 then (k72 (v1 + 1) I) else (xck (xin v2 64) (xck (xin v2 64) (xst (xput I 168 (xN v2) (I 169 (xN v2))) fun I14 => f_M_most_190 F k72 n v1 (v2 + 1) I14)))
theorem g_M_most_190 {X : XX} {d : Nat} {L : XL} {F : Nat} {k72 : Int32 → XI → Option (Int32 × XI)}  {r : Int32 × XI} (hk72 : ∀ (v1 : Int32) (I : XI), k72 v1 I = some r → ∀ (z2 : Value) (z3 : Value), xEv X (d + 5) 244 72 [.ref 131, .int v1, z2, z3] [] I L (some (.int r.1)) r.2 L) : ∀ (n : Nat) (v1 : Int32) (v2 : Int32) (I : XI), f_M_most_190 F k72 n v1 v2 I = some r → ∀ (z3 : Value), xEv X (d + 5) 244 190 [.ref 131, .int v1, .int v2, z3] [] I L (some (.int r.1)) r.2 L := by
  intro n
  induction n with
  | zero => intro v1 v2 I h; rw [f_M_most_190] at h; cases h
  | succ n ih =>
    intro v1 v2 I h z3
    rw [f_M_most_190] at h
    refine xeb 2 (pc' := 193) (ls' := [.ref 131, .int v1, .int v2, z3]) (st' := [.int 64, .int v2]) rfl ?_
    by_cases c11 : 64 ≤ v2
    · rw [if_pos c11] at h
      refine xei_ge_t rfl c11 ?_
      refine xeb 2 (pc' := 72) (ls' := [.ref 131, .int (v1 + 1), .int v2, z3]) (st' := []) rfl ?_
      exact hk72 (v1 + 1) I h _ _
    · rw [if_neg c11] at h
      refine xei_ge_f rfl c11 ?_
      refine xeb 1 (pc' := 197) (ls' := [.ref 131, .int v1, .int v2, z3]) (st' := [.ref 131]) rfl ?_
      refine xegf2 rfl xsh131 (by decide) rfl ?_
      refine xeb 2 (pc' := 202) (ls' := [.ref 131, .int v1, .int v2, z3]) (st' := [.ref 131, .int v2, .ref 168]) rfl ?_
      refine xegf2 rfl xsh131 (by decide) rfl ?_
      refine xeb 1 (pc' := 206) (ls' := [.ref 131, .int v1, .int v2, z3]) (st' := [.int v2, .ref 169, .int v2, .ref 168]) rfl ?_
      obtain ⟨b12, h⟩ := xck_some h
      refine xeia rfl xsh169 b12 ?_
      obtain ⟨b13, h⟩ := xck_some h
      refine xeis rfl xsh168 b13 ?_
      obtain ⟨I14, hI14, h⟩ := xst_some h
      rw [← hI14]
      refine xeb 2 (pc' := 190) (ls' := [.ref 131, .int v1, .int (v2 + 1), z3]) (st' := []) rfl ?_
      exact ih v1 (v2 + 1) I14 h _
noncomputable def f_M_most_114 (F : Nat) (k87 : Int32 → Int32 → XI → Option (Int32 × XI)) : Nat → Int32 → Int32 → Int32 → XI → Option (Int32 × XI)
  | 0, _, _, _, _ => none
  | n + 1, v1, v2, v3, I =>
    if 64 ≤ v3 then (k87 v1 (v2 + 1) I) else (xck (xin v3 64) (if (I 168 (xN v3)) < 0 then (f_M_most_114 F k87 n v1 v2 (v3 + 1) I) else (xck (xin v3 64) ((f_M_bits F v2).bind fun q23 => xck (xin v2 64) (if ((I 168 (xN v3)) + q23) ≤ (I 169 (xN v2)) then (f_M_most_114 F k87 n v1 v2 (v3 + 1) I) else ((f_M_areRowSets F I v1 v3 v2).bind fun q26 => if q26 = 0 then (f_M_most_114 F k87 n v1 v2 (v3 + 1) I) else (xck (xin v3 64) ((f_M_bits F v2).bind fun q29 => xck (xin v2 64) (xst (xput I 169 (xN v2) ((I 168 (xN v3)) + q29)) fun I31 => f_M_most_114 F k87 n v1 v2 (v3 + 1) I31)))))))))
theorem g_M_most_114 {X : XX} {d : Nat} {L : XL} {F : Nat} {k87 : Int32 → Int32 → XI → Option (Int32 × XI)}  {r : Int32 × XI} (hk87 : ∀ (v1 : Int32) (v2 : Int32) (I : XI), k87 v1 v2 I = some r → ∀ (z3 : Value), xEv X (d + 5) 244 87 [.ref 131, .int v1, .int v2, z3] [] I L (some (.int r.1)) r.2 L) : ∀ (n : Nat) (v1 : Int32) (v2 : Int32) (v3 : Int32) (I : XI), f_M_most_114 F k87 n v1 v2 v3 I = some r → xEv X (d + 5) 244 114 [.ref 131, .int v1, .int v2, .int v3] [] I L (some (.int r.1)) r.2 L := by
  intro n
  induction n with
  | zero => intro v1 v2 v3 I h; rw [f_M_most_114] at h; cases h
  | succ n ih =>
    intro v1 v2 v3 I h 
    rw [f_M_most_114] at h
    refine xeb 2 (pc' := 117) (ls' := [.ref 131, .int v1, .int v2, .int v3]) (st' := [.int 64, .int v3]) rfl ?_
    by_cases c19 : 64 ≤ v3
    · rw [if_pos c19] at h
      refine xei_ge_t rfl c19 ?_
      refine xeb 2 (pc' := 87) (ls' := [.ref 131, .int v1, .int (v2 + 1), .int v3]) (st' := []) rfl ?_
      exact hk87 v1 (v2 + 1) I h _
    · rw [if_neg c19] at h
      refine xei_ge_f rfl c19 ?_
      refine xeb 1 (pc' := 121) (ls' := [.ref 131, .int v1, .int v2, .int v3]) (st' := [.ref 131]) rfl ?_
      refine xegf2 rfl xsh131 (by decide) rfl ?_
      refine xeb 1 (pc' := 125) (ls' := [.ref 131, .int v1, .int v2, .int v3]) (st' := [.int v3, .ref 168]) rfl ?_
      obtain ⟨b20, h⟩ := xck_some h
      refine xeia rfl xsh168 b20 ?_
      by_cases c21 : (I 168 (xN v3)) < 0
      · rw [if_pos c21] at h
        refine xef_lt_t rfl c21 ?_
        refine xeb 2 (pc' := 114) (ls' := [.ref 131, .int v1, .int v2, .int (v3 + 1)]) (st' := []) rfl ?_
        exact ih v1 v2 (v3 + 1) I h
      · rw [if_neg c21] at h
        refine xef_lt_f rfl c21 ?_
        refine xeb 1 (pc' := 130) (ls' := [.ref 131, .int v1, .int v2, .int v3]) (st' := [.ref 131]) rfl ?_
        refine xegf2 rfl xsh131 (by decide) rfl ?_
        refine xeb 1 (pc' := 134) (ls' := [.ref 131, .int v1, .int v2, .int v3]) (st' := [.int v3, .ref 168]) rfl ?_
        obtain ⟨b22, h⟩ := xck_some h
        refine xeia rfl xsh168 b22 ?_
        refine xeb 1 (pc' := 136) (ls' := [.ref 131, .int v1, .int v2, .int v3]) (st' := [.int v2, .int (I 168 (xN v3))]) rfl ?_
        obtain ⟨q23, eq23, h⟩ := xbind_some h
        refine xcallS20 rfl rfl rfl (Nat.le_of_ble_eq_true rfl) (Nat.le_of_ble_eq_true rfl) (Nat.le_of_ble_eq_true rfl) rfl (g_M_bits (d := d + 4) _ eq23) ?_
        refine xeb 2 (pc' := 141) (ls' := [.ref 131, .int v1, .int v2, .int v3]) (st' := [.ref 131, .int ((I 168 (xN v3)) + q23)]) rfl ?_
        refine xegf2 rfl xsh131 (by decide) rfl ?_
        refine xeb 1 (pc' := 145) (ls' := [.ref 131, .int v1, .int v2, .int v3]) (st' := [.int v2, .ref 169, .int ((I 168 (xN v3)) + q23)]) rfl ?_
        obtain ⟨b24, h⟩ := xck_some h
        refine xeia rfl xsh169 b24 ?_
        by_cases c25 : ((I 168 (xN v3)) + q23) ≤ (I 169 (xN v2))
        · rw [if_pos c25] at h
          refine xei_le_t rfl c25 ?_
          refine xeb 2 (pc' := 114) (ls' := [.ref 131, .int v1, .int v2, .int (v3 + 1)]) (st' := []) rfl ?_
          exact ih v1 v2 (v3 + 1) I h
        · rw [if_neg c25] at h
          refine xei_le_f rfl c25 ?_
          refine xeb 4 (pc' := 153) (ls' := [.ref 131, .int v1, .int v2, .int v3]) (st' := [.int v2, .int v3, .int v1, .ref 131]) rfl ?_
          obtain ⟨q26, eq26, h⟩ := xbind_some h
          refine xcallV rfl xsh131 rfl rfl rfl (Nat.le_of_ble_eq_true rfl) (Nat.le_of_ble_eq_true rfl) (Nat.le_of_ble_eq_true rfl) rfl (g_M_areRowSets (d := d + 0) _ eq26) ?_
          by_cases c27 : q26 = 0
          · rw [if_pos c27] at h
            refine xef_eq_t rfl c27 ?_
            refine xeb 2 (pc' := 114) (ls' := [.ref 131, .int v1, .int v2, .int (v3 + 1)]) (st' := []) rfl ?_
            exact ih v1 v2 (v3 + 1) I h
          · rw [if_neg c27] at h
            refine xef_eq_f rfl c27 ?_
            refine xeb 1 (pc' := 160) (ls' := [.ref 131, .int v1, .int v2, .int v3]) (st' := [.ref 131]) rfl ?_
            refine xegf2 rfl xsh131 (by decide) rfl ?_
            refine xeb 2 (pc' := 165) (ls' := [.ref 131, .int v1, .int v2, .int v3]) (st' := [.ref 131, .int v2, .ref 169]) rfl ?_
            refine xegf2 rfl xsh131 (by decide) rfl ?_
            refine xeb 1 (pc' := 169) (ls' := [.ref 131, .int v1, .int v2, .int v3]) (st' := [.int v3, .ref 168, .int v2, .ref 169]) rfl ?_
            obtain ⟨b28, h⟩ := xck_some h
            refine xeia rfl xsh168 b28 ?_
            refine xeb 1 (pc' := 171) (ls' := [.ref 131, .int v1, .int v2, .int v3]) (st' := [.int v2, .int (I 168 (xN v3)), .int v2, .ref 169]) rfl ?_
            obtain ⟨q29, eq29, h⟩ := xbind_some h
            refine xcallS20 rfl rfl rfl (Nat.le_of_ble_eq_true rfl) (Nat.le_of_ble_eq_true rfl) (Nat.le_of_ble_eq_true rfl) rfl (g_M_bits (d := d + 4) _ eq29) ?_
            refine xeb 1 (pc' := 175) (ls' := [.ref 131, .int v1, .int v2, .int v3]) (st' := [.int ((I 168 (xN v3)) + q29), .int v2, .ref 169]) rfl ?_
            obtain ⟨b30, h⟩ := xck_some h
            refine xeis rfl xsh169 b30 ?_
            obtain ⟨I31, hI31, h⟩ := xst_some h
            rw [← hI31]
            refine xeb 2 (pc' := 114) (ls' := [.ref 131, .int v1, .int v2, .int (v3 + 1)]) (st' := []) rfl ?_
            exact ih v1 v2 (v3 + 1) I31 h
noncomputable def f_M_most_87 (F : Nat) (k72 : Int32 → XI → Option (Int32 × XI)) : Nat → Int32 → Int32 → XI → Option (Int32 × XI)
  | 0, _, _, _ => none
  | n + 1, v1, v2, I =>
    if 64 ≤ v2 then (f_M_most_190 F k72 F v1 0 I) else (xck (xin v2 64) (xst (xput I 169 (xN v2) (-1)) fun I16 => (f_M_isRowSet F I16 v1 v2).bind fun q17 => if q17 = 0 then (f_M_most_87 F k72 n v1 (v2 + 1) I16) else (f_M_most_114 F (fun v1 v2 I => f_M_most_87 F k72 n v1 v2 I) F v1 v2 0 I16)))
theorem g_M_most_87 {X : XX} {d : Nat} {L : XL} {F : Nat} {k72 : Int32 → XI → Option (Int32 × XI)}  {r : Int32 × XI} (hk72 : ∀ (v1 : Int32) (I : XI), k72 v1 I = some r → ∀ (z2 : Value) (z3 : Value), xEv X (d + 5) 244 72 [.ref 131, .int v1, z2, z3] [] I L (some (.int r.1)) r.2 L) : ∀ (n : Nat) (v1 : Int32) (v2 : Int32) (I : XI), f_M_most_87 F k72 n v1 v2 I = some r → ∀ (z3 : Value), xEv X (d + 5) 244 87 [.ref 131, .int v1, .int v2, z3] [] I L (some (.int r.1)) r.2 L := by
  intro n
  induction n with
  | zero => intro v1 v2 I h; rw [f_M_most_87] at h; cases h
  | succ n ih =>
    intro v1 v2 I h z3
    rw [f_M_most_87] at h
    refine xeb 2 (pc' := 90) (ls' := [.ref 131, .int v1, .int v2, z3]) (st' := [.int 64, .int v2]) rfl ?_
    by_cases c10 : 64 ≤ v2
    · rw [if_pos c10] at h
      refine xei_ge_t rfl c10 ?_
      refine xeb 2 (pc' := 190) (ls' := [.ref 131, .int v1, .int 0, z3]) (st' := []) rfl ?_
      exact g_M_most_190 hk72 F v1 0 I h _
    · rw [if_neg c10] at h
      refine xei_ge_f rfl c10 ?_
      refine xeb 1 (pc' := 94) (ls' := [.ref 131, .int v1, .int v2, z3]) (st' := [.ref 131]) rfl ?_
      refine xegf2 rfl xsh131 (by decide) rfl ?_
      refine xeb 2 (pc' := 99) (ls' := [.ref 131, .int v1, .int v2, z3]) (st' := [.int (-1), .int v2, .ref 169]) rfl ?_
      obtain ⟨b15, h⟩ := xck_some h
      refine xeis rfl xsh169 b15 ?_
      obtain ⟨I16, hI16, h⟩ := xst_some h
      rw [← hI16]
      refine xeb 3 (pc' := 103) (ls' := [.ref 131, .int v1, .int v2, z3]) (st' := [.int v2, .int v1, .ref 131]) rfl ?_
      obtain ⟨q17, eq17, h⟩ := xbind_some h
      refine xcallV rfl xsh131 rfl rfl rfl (Nat.le_of_ble_eq_true rfl) (Nat.le_of_ble_eq_true rfl) (Nat.le_of_ble_eq_true rfl) rfl (g_M_isRowSet (d := d + 0) _ eq17) ?_
      by_cases c18 : q17 = 0
      · rw [if_pos c18] at h
        refine xef_ne_t rfl c18 ?_
        refine xeb 3 (pc' := 87) (ls' := [.ref 131, .int v1, .int (v2 + 1), z3]) (st' := []) rfl ?_
        exact ih v1 (v2 + 1) I16 h _
      · rw [if_neg c18] at h
        refine xef_ne_f rfl c18 ?_
        refine xeb 2 (pc' := 114) (ls' := [.ref 131, .int v1, .int v2, .int 0]) (st' := []) rfl ?_
        exact g_M_most_114 (fun v1 v2 I h' z3 => ih v1 v2 I h' z3) F v1 v2 0 I16 h
noncomputable def f_M_most_72 (F : Nat) : Nat → Int32 → XI → Option (Int32 × XI)
  | 0, _, _ => none
  | n + 1, v1, I =>
    xck (xin (I 131 18) 2) (if (I 141 (xN (I 131 18))) ≤ v1 then (f_M_most_224 F F 0 0 I) else (f_M_most_87 F (fun v1 I => f_M_most_72 F n v1 I) F v1 0 I))
theorem g_M_most_72 {X : XX} {d : Nat} {L : XL} {F : Nat}  {r : Int32 × XI}  : ∀ (n : Nat) (v1 : Int32) (I : XI), f_M_most_72 F n v1 I = some r → ∀ (z2 : Value) (z3 : Value), xEv X (d + 5) 244 72 [.ref 131, .int v1, z2, z3] [] I L (some (.int r.1)) r.2 L := by
  intro n
  induction n with
  | zero => intro v1 I h; rw [f_M_most_72] at h; cases h
  | succ n ih =>
    intro v1 I h z2 z3
    rw [f_M_most_72] at h
    refine xeb 2 (pc' := 74) (ls' := [.ref 131, .int v1, z2, z3]) (st' := [.ref 131, .int v1]) rfl ?_
    refine xegf2 rfl xsh131 (by decide) rfl ?_
    refine xeb 1 (pc' := 78) (ls' := [.ref 131, .int v1, z2, z3]) (st' := [.ref 131, .ref 141, .int v1]) rfl ?_
    refine xegf0 rfl xsh131 (by decide) ?_
    obtain ⟨b4, h⟩ := xck_some h
    refine xeia rfl xsh141 b4 ?_
    by_cases c5 : (I 141 (xN (I 131 18))) ≤ v1
    · rw [if_pos c5] at h
      refine xei_ge_t rfl c5 ?_
      refine xeb 4 (pc' := 224) (ls' := [.ref 131, .int 0, .int 0, z3]) (st' := []) rfl ?_
      exact g_M_most_224 F 0 0 I h _
    · rw [if_neg c5] at h
      refine xei_ge_f rfl c5 ?_
      refine xeb 2 (pc' := 87) (ls' := [.ref 131, .int v1, .int 0, z3]) (st' := []) rfl ?_
      exact g_M_most_87 (fun v1 I h' z2 z3 => ih v1 I h' z2 z3) F v1 0 I h _
noncomputable def f_M_most_63 (F : Nat) (k43 : Int32 → XI → Option (Int32 × XI)) (v1 : Int32) (s1 : Int32) (s2 : Int32) (I : XI) : Option (Int32 × XI) :=
  xck (xin s1 64) (xst (xput I 168 (xN s1) s2) fun I34 => k43 (v1 + 1) I34)
theorem g_M_most_63 {X : XX} {d : Nat} {L : XL} {F : Nat} {k43 : Int32 → XI → Option (Int32 × XI)}  {r : Int32 × XI} (hk43 : ∀ (v1 : Int32) (I : XI), k43 v1 I = some r → ∀ (z2 : Value) (z3 : Value), xEv X (d + 5) 244 43 [.ref 131, .int v1, z2, z3] [] I L (some (.int r.1)) r.2 L) {v1 : Int32} {s1 : Int32} {s2 : Int32} {I : XI} (h : f_M_most_63 F k43 v1 s1 s2 I = some r) (z2 : Value) (z3 : Value) : xEv X (d + 5) 244 63 [.ref 131, .int v1, z2, z3] [.int s2, .int s1, .ref 168] I L (some (.int r.1)) r.2 L := by
  rw [f_M_most_63] at h
  obtain ⟨b33, h⟩ := xck_some h
  refine xeis rfl xsh168 b33 ?_
  obtain ⟨I34, hI34, h⟩ := xst_some h
  rw [← hI34]
  refine xeb 2 (pc' := 43) (ls' := [.ref 131, .int (v1 + 1), z2, z3]) (st' := []) rfl ?_
  exact hk43 (v1 + 1) I34 h _ _
noncomputable def f_M_most_43 (F : Nat) : Nat → Int32 → XI → Option (Int32 × XI)
  | 0, _, _ => none
  | n + 1, v1, I =>
    if 64 ≤ v1 then (f_M_most_72 F F 0 I) else (f_M_most_63 F (fun v1 I => f_M_most_43 F n v1 I) v1 v1 (if v1 = 0 then 0 else (-1)) I)
theorem g_M_most_43 {X : XX} {d : Nat} {L : XL} {F : Nat}  {r : Int32 × XI}  : ∀ (n : Nat) (v1 : Int32) (I : XI), f_M_most_43 F n v1 I = some r → ∀ (z2 : Value) (z3 : Value), xEv X (d + 5) 244 43 [.ref 131, .int v1, z2, z3] [] I L (some (.int r.1)) r.2 L := by
  intro n
  induction n with
  | zero => intro v1 I h; rw [f_M_most_43] at h; cases h
  | succ n ih =>
    intro v1 I h z2 z3
    rw [f_M_most_43] at h
    refine xeb 2 (pc' := 46) (ls' := [.ref 131, .int v1, z2, z3]) (st' := [.int 64, .int v1]) rfl ?_
    by_cases c3 : 64 ≤ v1
    · rw [if_pos c3] at h
      refine xei_ge_t rfl c3 ?_
      refine xeb 2 (pc' := 72) (ls' := [.ref 131, .int 0, z2, z3]) (st' := []) rfl ?_
      exact g_M_most_72 F 0 I h _ _
    · rw [if_neg c3] at h
      refine xei_ge_f rfl c3 ?_
      refine xeb 1 (pc' := 50) (ls' := [.ref 131, .int v1, z2, z3]) (st' := [.ref 131]) rfl ?_
      refine xegf2 rfl xsh131 (by decide) rfl ?_
      refine xeb 2 (pc' := 55) (ls' := [.ref 131, .int v1, z2, z3]) (st' := [.int v1, .int v1, .ref 168]) rfl ?_
      have hj : xEv X (d + 5) 244 63 [.ref 131, .int v1, z2, z3] [.int (if v1 = 0 then 0 else (-1)), .int v1, .ref 168] I L (some (.int r.1)) r.2 L := by
        exact g_M_most_63 (fun v1 I h' z2 z3 => ih v1 I h' z2 z3) h _ _
      by_cases c32 : v1 = 0
      · simp only [if_pos c32] at hj
        refine xef_ne_t rfl c32 ?_
        exact xeb 2 rfl hj
      · simp only [if_neg c32] at hj
        refine xef_ne_f rfl c32 ?_
        exact xeb 1 rfl hj
noncomputable def f_M_most_6 (F : Nat) : Nat → Int32 → XI → Option (Int32 × XI)
  | 0, _, _ => none
  | n + 1, v1, I =>
    if 30 ≤ v1 then (f_M_most_43 F F 0 I) else ((f_M_isThere I v1).bind fun q35 => if q35 = 0 then (f_M_most_6 F n (v1 + 1) I) else ((f_M_isHole I v1).bind fun q37 => if q37 = 0 then (f_M_most_6 F n (v1 + 1) I) else (xck (xin v1 33) (xst (xput I 163 (xN v1) 0) fun I40 => f_M_most_6 F n (v1 + 1) I40))))
theorem g_M_most_6 {X : XX} {d : Nat} {L : XL} {F : Nat}  {r : Int32 × XI}  : ∀ (n : Nat) (v1 : Int32) (I : XI), f_M_most_6 F n v1 I = some r → ∀ (z2 : Value) (z3 : Value), xEv X (d + 5) 244 6 [.ref 131, .int v1, z2, z3] [] I L (some (.int r.1)) r.2 L := by
  intro n
  induction n with
  | zero => intro v1 I h; rw [f_M_most_6] at h; cases h
  | succ n ih =>
    intro v1 I h z2 z3
    rw [f_M_most_6] at h
    refine xeb 2 (pc' := 9) (ls' := [.ref 131, .int v1, z2, z3]) (st' := [.int 30, .int v1]) rfl ?_
    by_cases c2 : 30 ≤ v1
    · rw [if_pos c2] at h
      refine xei_ge_t rfl c2 ?_
      refine xeb 2 (pc' := 43) (ls' := [.ref 131, .int 0, z2, z3]) (st' := []) rfl ?_
      exact g_M_most_43 F 0 I h _ _
    · rw [if_neg c2] at h
      refine xei_ge_f rfl c2 ?_
      refine xeb 2 (pc' := 14) (ls' := [.ref 131, .int v1, z2, z3]) (st' := [.int v1, .ref 131]) rfl ?_
      obtain ⟨q35, eq35, h⟩ := xbind_some h
      refine xcallV rfl xsh131 rfl rfl rfl (Nat.le_of_ble_eq_true rfl) (Nat.le_of_ble_eq_true rfl) (Nat.le_of_ble_eq_true rfl) rfl (g_M_isThere (d := d + 2) _ eq35) ?_
      by_cases c36 : q35 = 0
      · rw [if_pos c36] at h
        refine xef_eq_t rfl c36 ?_
        refine xeb 2 (pc' := 6) (ls' := [.ref 131, .int (v1 + 1), z2, z3]) (st' := []) rfl ?_
        exact ih (v1 + 1) I h _ _
      · rw [if_neg c36] at h
        refine xef_eq_f rfl c36 ?_
        refine xeb 2 (pc' := 22) (ls' := [.ref 131, .int v1, z2, z3]) (st' := [.int v1, .ref 131]) rfl ?_
        obtain ⟨q37, eq37, h⟩ := xbind_some h
        refine xcallV rfl xsh131 rfl rfl rfl (Nat.le_of_ble_eq_true rfl) (Nat.le_of_ble_eq_true rfl) (Nat.le_of_ble_eq_true rfl) rfl (g_M_isHole (d := d + 3) _ eq37) ?_
        by_cases c38 : q37 = 0
        · rw [if_pos c38] at h
          refine xef_eq_t rfl c38 ?_
          refine xeb 2 (pc' := 6) (ls' := [.ref 131, .int (v1 + 1), z2, z3]) (st' := []) rfl ?_
          exact ih (v1 + 1) I h _ _
        · rw [if_neg c38] at h
          refine xef_eq_f rfl c38 ?_
          refine xeb 1 (pc' := 29) (ls' := [.ref 131, .int v1, z2, z3]) (st' := [.ref 131]) rfl ?_
          refine xegf2 rfl xsh131 (by decide) rfl ?_
          refine xeb 2 (pc' := 34) (ls' := [.ref 131, .int v1, z2, z3]) (st' := [.int 0, .int v1, .ref 163]) rfl ?_
          obtain ⟨b39, h⟩ := xck_some h
          refine xeis rfl xsh163 b39 ?_
          obtain ⟨I40, hI40, h⟩ := xst_some h
          rw [← hI40]
          refine xeb 2 (pc' := 6) (ls' := [.ref 131, .int (v1 + 1), z2, z3]) (st' := []) rfl ?_
          exact ih (v1 + 1) I40 h _ _
noncomputable def f_M_most (F : Nat) (I : XI) : Option (Int32 × XI) :=
  (f_M_copies F I).bind fun q1 => f_M_most_6 F F 0 q1
theorem g_M_most {X : XX} {d : Nat} {L : XL} {F : Nat} {I : XI}  (r : Int32 × XI) (h : f_M_most F I = some r) : xEv X (d + 5) 244 0 [.ref 131, .null, .null, .null] [] I L (some (.int r.1)) r.2 L := by
  rw [f_M_most] at h
  refine xeb 1 (pc' := 1) (ls' := [.ref 131, .null, .null, .null]) (st' := [.ref 131]) rfl ?_
  obtain ⟨q1, eq1, h⟩ := xbind_some h
  refine xcallV rfl xsh131 rfl rfl rfl (Nat.le_of_ble_eq_true rfl) (Nat.le_of_ble_eq_true rfl) (Nat.le_of_ble_eq_true rfl) rfl (g_M_copies (d := d + 4) _ eq1) ?_
  refine xeb 2 (pc' := 6) (ls' := [.ref 131, .int 0, .null, .null]) (st' := []) rfl ?_
  exact g_M_most_6 F 0 q1 h _ _
noncomputable def f_H_joined (F : Nat) (a1 : Int32) (a2 : Int32) (I : XI) : Option (Int32 × XI) :=
  (f_Table_cellAt 17 I a1 a2).bind fun q1 => if q1 = (-1) then (some ((-1), I)) else ((f_State_lies 26 I q1).bind fun q3 => if q3 = 0 then (some ((-2), I)) else ((f_Board_group F 26 q1 (-1) I).bind fun q5 => (f_Integer_bitCount q5.1).bind fun q6 => some (q6, q5.2)))
theorem g_H_joined {X : XX} {d : Nat} {L : XL} {F : Nat} {a1 : Int32} {a2 : Int32} {I : XI}  (r : Int32 × XI) (h : f_H_joined F a1 a2 I = some r) : xEv X (d + 4) 245 0 [.ref 0, .int a1, .int a2, .null] [] I L (some (.int r.1)) r.2 L := by
  rw [f_H_joined] at h
  refine xeb 1 (pc' := 1) (ls' := [.ref 0, .int a1, .int a2, .null]) (st' := [.ref 0]) rfl ?_
  refine xegf2 rfl xsh0 (by decide) rfl ?_
  refine xeb 2 (pc' := 6) (ls' := [.ref 0, .int a1, .int a2, .null]) (st' := [.int a2, .int a1, .ref 17]) rfl ?_
  obtain ⟨q1, eq1, h⟩ := xbind_some h
  refine xcallV rfl xsh17 rfl rfl rfl (Nat.le_of_ble_eq_true rfl) (Nat.le_of_ble_eq_true rfl) (Nat.le_of_ble_eq_true rfl) rfl (g_Table_cellAt (d := d + 3) xis17 _ eq1) ?_
  refine xeb 3 (pc' := 12) (ls' := [.ref 0, .int a1, .int a2, .int q1]) (st' := [.int (-1), .int q1]) rfl ?_
  by_cases c2 : q1 = (-1)
  · rw [if_pos c2] at h
    refine xei_ne_t rfl c2 ?_
    refine xeb 1 (pc' := 16) (ls' := [.ref 0, .int a1, .int a2, .int q1]) (st' := [.int (-1)]) rfl ?_
    obtain rfl := Option.some.inj h
    exact xeiret rfl rfl
  · rw [if_neg c2] at h
    refine xei_ne_f rfl c2 ?_
    refine xeb 1 (pc' := 18) (ls' := [.ref 0, .int a1, .int a2, .int q1]) (st' := [.ref 0]) rfl ?_
    refine xegf2 rfl xsh0 (by decide) rfl ?_
    refine xeb 1 (pc' := 22) (ls' := [.ref 0, .int a1, .int a2, .int q1]) (st' := [.int q1, .ref 26]) rfl ?_
    obtain ⟨q3, eq3, h⟩ := xbind_some h
    refine xcallV rfl xsh26 rfl rfl rfl (Nat.le_of_ble_eq_true rfl) (Nat.le_of_ble_eq_true rfl) (Nat.le_of_ble_eq_true rfl) rfl (g_State_lies (d := d + 3) xis26 _ eq3) ?_
    by_cases c4 : q3 = 0
    · rw [if_pos c4] at h
      refine xef_eq_t rfl c4 ?_
      refine xeb 1 (pc' := 49) (ls' := [.ref 0, .int a1, .int a2, .int q1]) (st' := [.int (-2)]) rfl ?_
      obtain rfl := Option.some.inj h
      exact xeiret rfl rfl
    · rw [if_neg c4] at h
      refine xef_eq_f rfl c4 ?_
      refine xeb 1 (pc' := 29) (ls' := [.ref 0, .int a1, .int a2, .int q1]) (st' := [.ref 0]) rfl ?_
      refine xegf2 rfl xsh0 (by decide) rfl ?_
      refine xeb 1 (pc' := 33) (ls' := [.ref 0, .int a1, .int a2, .int q1]) (st' := [.ref 0, .ref 30]) rfl ?_
      refine xegf2 rfl xsh0 (by decide) rfl ?_
      refine xeb 2 (pc' := 38) (ls' := [.ref 0, .int a1, .int a2, .int q1]) (st' := [.int (-1), .int q1, .ref 26, .ref 30]) rfl ?_
      obtain ⟨q5, eq5, h⟩ := xbind_some h
      refine xcallV rfl xsh30 rfl rfl rfl (Nat.le_of_ble_eq_true rfl) (Nat.le_of_ble_eq_true rfl) (Nat.le_of_ble_eq_true rfl) rfl (g_Board_group (d := d + 0) xis26 _ eq5) ?_
      obtain ⟨q6, eq6, h⟩ := xbind_some h
      refine xcallS20 rfl rfl rfl (Nat.le_of_ble_eq_true rfl) (Nat.le_of_ble_eq_true rfl) (Nat.le_of_ble_eq_true rfl) rfl (g_Integer_bitCount (d := d + 3) _ eq6) ?_
      refine xeb 1 (pc' := 49) (ls' := [.ref 0, .int a1, .int a2, .int q1]) (st' := [.int q6]) rfl ?_
      obtain rfl := Option.some.inj h
      exact xeiret rfl rfl
noncomputable def f_M_sizeOfPart_4 (F : Nat) (I : XI) : Nat → Int32 → Int32 → Int32 → Option (Int32)
  | 0, _, _, _ => none
  | n + 1, v1, v2, v3 =>
    if 30 ≤ v3 then (some v2) else (xck (xin v3 30) (f_M_sizeOfPart_4 F I n v1 (if (I 164 (xN v3)) = v1 then (v2 + 1) else v2) (v3 + 1)))
theorem g_M_sizeOfPart_4 {X : XX} {d : Nat} {L : XL} {F : Nat} {I : XI}  {r : Int32}  : ∀ (n : Nat) (v1 : Int32) (v2 : Int32) (v3 : Int32), f_M_sizeOfPart_4 F I n v1 v2 v3 = some r → xEv X (d + 0) 246 4 [.ref 131, .int v1, .int v2, .int v3] [] I L (some (.int r)) I L := by
  intro n
  induction n with
  | zero => intro v1 v2 v3 h; rw [f_M_sizeOfPart_4] at h; cases h
  | succ n ih =>
    intro v1 v2 v3 h 
    rw [f_M_sizeOfPart_4] at h
    refine xeb 2 (pc' := 7) (ls' := [.ref 131, .int v1, .int v2, .int v3]) (st' := [.int 30, .int v3]) rfl ?_
    by_cases c1 : 30 ≤ v3
    · rw [if_pos c1] at h
      refine xei_ge_t rfl c1 ?_
      refine xeb 1 (pc' := 30) (ls' := [.ref 131, .int v1, .int v2, .int v3]) (st' := [.int v2]) rfl ?_
      obtain rfl := Option.some.inj h
      exact xeiret rfl rfl
    · rw [if_neg c1] at h
      refine xei_ge_f rfl c1 ?_
      refine xeb 1 (pc' := 11) (ls' := [.ref 131, .int v1, .int v2, .int v3]) (st' := [.ref 131]) rfl ?_
      refine xegf2 rfl xsh131 (by decide) rfl ?_
      refine xeb 1 (pc' := 15) (ls' := [.ref 131, .int v1, .int v2, .int v3]) (st' := [.int v3, .ref 164]) rfl ?_
      obtain ⟨b2, h⟩ := xck_some h
      refine xeia rfl xsh164 b2 ?_
      refine xeb 1 (pc' := 17) (ls' := [.ref 131, .int v1, .int v2, .int v3]) (st' := [.int v1, .int (I 164 (xN v3))]) rfl ?_
      have hj : xEv X (d + 0) 246 23 [.ref 131, .int v1, .int (if (I 164 (xN v3)) = v1 then (v2 + 1) else v2), .int v3] [] I L (some (.int r)) I L := by
        refine xeb 2 (pc' := 4) (ls' := [.ref 131, .int v1, .int (if (I 164 (xN v3)) = v1 then (v2 + 1) else v2), .int (v3 + 1)]) (st' := []) rfl ?_
        exact ih v1 (if (I 164 (xN v3)) = v1 then (v2 + 1) else v2) (v3 + 1) h
      by_cases c3 : (I 164 (xN v3)) = v1
      · simp only [if_pos c3] at hj
        refine xei_ne_t rfl c3 ?_
        exact xeb 1 rfl hj
      · simp only [if_neg c3] at hj
        refine xei_ne_f rfl c3 ?_
        exact xeb 0 rfl hj
noncomputable def f_M_sizeOfPart (F : Nat) (I : XI) (a1 : Int32) : Option (Int32) :=
  f_M_sizeOfPart_4 F I F a1 0 0
theorem g_M_sizeOfPart {X : XX} {d : Nat} {L : XL} {F : Nat} {I : XI} {a1 : Int32}  (r : Int32) (h : f_M_sizeOfPart F I a1 = some r) : xEv X (d + 0) 246 0 [.ref 131, .int a1, .null, .null] [] I L (some (.int r)) I L := by
  rw [f_M_sizeOfPart] at h
  refine xeb 4 (pc' := 4) (ls' := [.ref 131, .int a1, .int 0, .int 0]) (st' := []) rfl ?_
  exact g_M_sizeOfPart_4 F a1 0 0 h
noncomputable def f_M_joined (F : Nat) (a1 : Int32) (a2 : Int32) (I : XI) : Option (Int32 × XI) :=
  (f_M_isCell I a1 a2).bind fun q1 => if q1 = 0 then (some ((-1), I)) else ((f_M_copies F I).bind fun q3 => (f_M_doesLie q3 ((6 * a2) + a1)).bind fun q4 => if q4 = 0 then (some ((-2), q3)) else ((f_M_fillsParts F (-1) q3).bind fun q6 => xck (xin ((6 * a2) + a1) 30) ((f_M_sizeOfPart F q6 (q6 164 (xN ((6 * a2) + a1)))).bind fun q8 => some (q8, q6))))
theorem g_M_joined {X : XX} {d : Nat} {L : XL} {F : Nat} {a1 : Int32} {a2 : Int32} {I : XI}  (r : Int32 × XI) (h : f_M_joined F a1 a2 I = some r) : xEv X (d + 6) 247 0 [.ref 131, .int a1, .int a2] [] I L (some (.int r.1)) r.2 L := by
  rw [f_M_joined] at h
  refine xeb 3 (pc' := 3) (ls' := [.ref 131, .int a1, .int a2]) (st' := [.int a2, .int a1, .ref 131]) rfl ?_
  obtain ⟨q1, eq1, h⟩ := xbind_some h
  refine xcallV rfl xsh131 rfl rfl rfl (Nat.le_of_ble_eq_true rfl) (Nat.le_of_ble_eq_true rfl) (Nat.le_of_ble_eq_true rfl) rfl (g_M_isCell (d := d + 4) _ eq1) ?_
  by_cases c2 : q1 = 0
  · rw [if_pos c2] at h
    refine xef_ne_t rfl c2 ?_
    refine xeb 1 (pc' := 10) (ls' := [.ref 131, .int a1, .int a2]) (st' := [.int (-1)]) rfl ?_
    obtain rfl := Option.some.inj h
    exact xeiret rfl rfl
  · rw [if_neg c2] at h
    refine xef_ne_f rfl c2 ?_
    refine xeb 1 (pc' := 12) (ls' := [.ref 131, .int a1, .int a2]) (st' := [.ref 131]) rfl ?_
    obtain ⟨q3, eq3, h⟩ := xbind_some h
    refine xcallV rfl xsh131 rfl rfl rfl (Nat.le_of_ble_eq_true rfl) (Nat.le_of_ble_eq_true rfl) (Nat.le_of_ble_eq_true rfl) rfl (g_M_copies (d := d + 5) _ eq3) ?_
    refine xeb 6 (pc' := 22) (ls' := [.ref 131, .int a1, .int a2]) (st' := [.int ((6 * a2) + a1), .ref 131]) rfl ?_
    obtain ⟨q4, eq4, h⟩ := xbind_some h
    refine xcallV rfl xsh131 rfl rfl rfl (Nat.le_of_ble_eq_true rfl) (Nat.le_of_ble_eq_true rfl) (Nat.le_of_ble_eq_true rfl) rfl (g_M_doesLie (d := d + 5) _ eq4) ?_
    by_cases c5 : q4 = 0
    · rw [if_pos c5] at h
      refine xef_ne_t rfl c5 ?_
      refine xeb 1 (pc' := 30) (ls' := [.ref 131, .int a1, .int a2]) (st' := [.int (-2)]) rfl ?_
      obtain rfl := Option.some.inj h
      exact xeiret rfl rfl
    · rw [if_neg c5] at h
      refine xef_ne_f rfl c5 ?_
      refine xeb 2 (pc' := 33) (ls' := [.ref 131, .int a1, .int a2]) (st' := [.int (-1), .ref 131]) rfl ?_
      obtain ⟨q6, eq6, h⟩ := xbind_some h
      refine xcallV rfl xsh131 rfl rfl rfl (Nat.le_of_ble_eq_true rfl) (Nat.le_of_ble_eq_true rfl) (Nat.le_of_ble_eq_true rfl) rfl (g_M_fillsParts (d := d + 0) _ eq6) ?_
      refine xeb 2 (pc' := 38) (ls' := [.ref 131, .int a1, .int a2]) (st' := [.ref 131, .ref 131]) rfl ?_
      refine xegf2 rfl xsh131 (by decide) rfl ?_
      refine xeb 5 (pc' := 47) (ls' := [.ref 131, .int a1, .int a2]) (st' := [.int ((6 * a2) + a1), .ref 164, .ref 131]) rfl ?_
      obtain ⟨b7, h⟩ := xck_some h
      refine xeia rfl xsh164 b7 ?_
      obtain ⟨q8, eq8, h⟩ := xbind_some h
      refine xcallV rfl xsh131 rfl rfl rfl (Nat.le_of_ble_eq_true rfl) (Nat.le_of_ble_eq_true rfl) (Nat.le_of_ble_eq_true rfl) rfl (g_M_sizeOfPart (d := d + 5) _ eq8) ?_
      obtain rfl := Option.some.inj h
      exact xeiret rfl rfl
noncomputable def f_H_loose_4 (F : Nat) (I : XI) : Nat → Int32 → Int32 → Option (Int32)
  | 0, _, _ => none
  | n + 1, v1, v2 =>
    if 30 ≤ v2 then (some v1) else ((f_State_lies 26 I v2).bind fun q2 => if q2 = 0 then (f_H_loose_4 F I n v1 (v2 + 1)) else ((f_Board_friends F 26 I v2).bind fun q4 => f_H_loose_4 F I n (if q4 = 0 then (v1 + 1) else v1) (v2 + 1)))
theorem g_H_loose_4 {X : XX} {d : Nat} {L : XL} {F : Nat} {I : XI}  {r : Int32}  : ∀ (n : Nat) (v1 : Int32) (v2 : Int32), f_H_loose_4 F I n v1 v2 = some r → xEv X (d + 4) 248 4 [.ref 0, .int v1, .int v2] [] I L (some (.int r)) I L := by
  intro n
  induction n with
  | zero => intro v1 v2 h; rw [f_H_loose_4] at h; cases h
  | succ n ih =>
    intro v1 v2 h 
    rw [f_H_loose_4] at h
    refine xeb 2 (pc' := 7) (ls' := [.ref 0, .int v1, .int v2]) (st' := [.int 30, .int v2]) rfl ?_
    by_cases c1 : 30 ≤ v2
    · rw [if_pos c1] at h
      refine xei_ge_t rfl c1 ?_
      refine xeb 1 (pc' := 46) (ls' := [.ref 0, .int v1, .int v2]) (st' := [.int v1]) rfl ?_
      obtain rfl := Option.some.inj h
      exact xeiret rfl rfl
    · rw [if_neg c1] at h
      refine xei_ge_f rfl c1 ?_
      refine xeb 1 (pc' := 11) (ls' := [.ref 0, .int v1, .int v2]) (st' := [.ref 0]) rfl ?_
      refine xegf2 rfl xsh0 (by decide) rfl ?_
      refine xeb 1 (pc' := 15) (ls' := [.ref 0, .int v1, .int v2]) (st' := [.int v2, .ref 26]) rfl ?_
      obtain ⟨q2, eq2, h⟩ := xbind_some h
      refine xcallV rfl xsh26 rfl rfl rfl (Nat.le_of_ble_eq_true rfl) (Nat.le_of_ble_eq_true rfl) (Nat.le_of_ble_eq_true rfl) rfl (g_State_lies (d := d + 3) xis26 _ eq2) ?_
      by_cases c3 : q2 = 0
      · rw [if_pos c3] at h
        refine xef_eq_t rfl c3 ?_
        refine xeb 2 (pc' := 4) (ls' := [.ref 0, .int v1, .int (v2 + 1)]) (st' := []) rfl ?_
        exact ih v1 (v2 + 1) h
      · rw [if_neg c3] at h
        refine xef_eq_f rfl c3 ?_
        refine xeb 1 (pc' := 22) (ls' := [.ref 0, .int v1, .int v2]) (st' := [.ref 0]) rfl ?_
        refine xegf2 rfl xsh0 (by decide) rfl ?_
        refine xeb 1 (pc' := 26) (ls' := [.ref 0, .int v1, .int v2]) (st' := [.ref 0, .ref 30]) rfl ?_
        refine xegf2 rfl xsh0 (by decide) rfl ?_
        refine xeb 1 (pc' := 30) (ls' := [.ref 0, .int v1, .int v2]) (st' := [.int v2, .ref 26, .ref 30]) rfl ?_
        obtain ⟨q4, eq4, h⟩ := xbind_some h
        refine xcallV rfl xsh30 rfl rfl rfl (Nat.le_of_ble_eq_true rfl) (Nat.le_of_ble_eq_true rfl) (Nat.le_of_ble_eq_true rfl) rfl (g_Board_friends (d := d + 0) xis26 _ eq4) ?_
        have hj : xEv X (d + 4) 248 39 [.ref 0, .int (if q4 = 0 then (v1 + 1) else v1), .int v2] [] I L (some (.int r)) I L := by
          refine xeb 2 (pc' := 4) (ls' := [.ref 0, .int (if q4 = 0 then (v1 + 1) else v1), .int (v2 + 1)]) (st' := []) rfl ?_
          exact ih (if q4 = 0 then (v1 + 1) else v1) (v2 + 1) h
        by_cases c5 : q4 = 0
        · simp only [if_pos c5] at hj
          refine xef_ne_t rfl c5 ?_
          exact xeb 1 rfl hj
        · simp only [if_neg c5] at hj
          refine xef_ne_f rfl c5 ?_
          exact xeb 0 rfl hj
noncomputable def f_H_loose (F : Nat) (I : XI) : Option (Int32) :=
  f_H_loose_4 F I F 0 0
theorem g_H_loose {X : XX} {d : Nat} {L : XL} {F : Nat} {I : XI}  (r : Int32) (h : f_H_loose F I = some r) : xEv X (d + 4) 248 0 [.ref 0, .null, .null] [] I L (some (.int r)) I L := by
  rw [f_H_loose] at h
  refine xeb 4 (pc' := 4) (ls' := [.ref 0, .int 0, .int 0]) (st' := []) rfl ?_
  exact g_H_loose_4 F 0 0 h
noncomputable def f_M_loose_8 (F : Nat) : Nat → Int32 → Int32 → XI → Option (Int32 × XI)
  | 0, _, _, _ => none
  | n + 1, v1, v2, I =>
    if 30 ≤ v2 then (some (v1, I)) else ((f_M_isOf I v2 (-1)).bind fun q3 => if q3 = 0 then (f_M_loose_8 F n v1 (v2 + 1) I) else ((f_M_fitsNext F I v2).bind fun q5 => f_M_loose_8 F n (if q5 = 0 then (v1 + 1) else v1) (v2 + 1) I))
theorem g_M_loose_8 {X : XX} {d : Nat} {L : XL} {F : Nat}  {r : Int32 × XI}  : ∀ (n : Nat) (v1 : Int32) (v2 : Int32) (I : XI), f_M_loose_8 F n v1 v2 I = some r → xEv X (d + 6) 249 8 [.ref 131, .int v1, .int v2] [] I L (some (.int r.1)) r.2 L := by
  intro n
  induction n with
  | zero => intro v1 v2 I h; rw [f_M_loose_8] at h; cases h
  | succ n ih =>
    intro v1 v2 I h 
    rw [f_M_loose_8] at h
    refine xeb 2 (pc' := 11) (ls' := [.ref 131, .int v1, .int v2]) (st' := [.int 30, .int v2]) rfl ?_
    by_cases c2 : 30 ≤ v2
    · rw [if_pos c2] at h
      refine xei_ge_t rfl c2 ?_
      refine xeb 1 (pc' := 41) (ls' := [.ref 131, .int v1, .int v2]) (st' := [.int v1]) rfl ?_
      obtain rfl := Option.some.inj h
      exact xeiret rfl rfl
    · rw [if_neg c2] at h
      refine xei_ge_f rfl c2 ?_
      refine xeb 3 (pc' := 17) (ls' := [.ref 131, .int v1, .int v2]) (st' := [.int (-1), .int v2, .ref 131]) rfl ?_
      obtain ⟨q3, eq3, h⟩ := xbind_some h
      refine xcallV rfl xsh131 rfl rfl rfl (Nat.le_of_ble_eq_true rfl) (Nat.le_of_ble_eq_true rfl) (Nat.le_of_ble_eq_true rfl) rfl (g_M_isOf (d := d + 2) _ eq3) ?_
      by_cases c4 : q3 = 0
      · rw [if_pos c4] at h
        refine xef_eq_t rfl c4 ?_
        refine xeb 2 (pc' := 8) (ls' := [.ref 131, .int v1, .int (v2 + 1)]) (st' := []) rfl ?_
        exact ih v1 (v2 + 1) I h
      · rw [if_neg c4] at h
        refine xef_eq_f rfl c4 ?_
        refine xeb 2 (pc' := 25) (ls' := [.ref 131, .int v1, .int v2]) (st' := [.int v2, .ref 131]) rfl ?_
        obtain ⟨q5, eq5, h⟩ := xbind_some h
        refine xcallV rfl xsh131 rfl rfl rfl (Nat.le_of_ble_eq_true rfl) (Nat.le_of_ble_eq_true rfl) (Nat.le_of_ble_eq_true rfl) rfl (g_M_fitsNext (d := d + 0) _ eq5) ?_
        have hj : xEv X (d + 6) 249 34 [.ref 131, .int (if q5 = 0 then (v1 + 1) else v1), .int v2] [] I L (some (.int r.1)) r.2 L := by
          refine xeb 2 (pc' := 8) (ls' := [.ref 131, .int (if q5 = 0 then (v1 + 1) else v1), .int (v2 + 1)]) (st' := []) rfl ?_
          exact ih (if q5 = 0 then (v1 + 1) else v1) (v2 + 1) I h
        by_cases c6 : q5 = 0
        · simp only [if_pos c6] at hj
          refine xef_ne_t rfl c6 ?_
          exact xeb 1 rfl hj
        · simp only [if_neg c6] at hj
          refine xef_ne_f rfl c6 ?_
          exact xeb 0 rfl hj
noncomputable def f_M_loose (F : Nat) (I : XI) : Option (Int32 × XI) :=
  (f_M_copies F I).bind fun q1 => f_M_loose_8 F F 0 0 q1
theorem g_M_loose {X : XX} {d : Nat} {L : XL} {F : Nat} {I : XI}  (r : Int32 × XI) (h : f_M_loose F I = some r) : xEv X (d + 6) 249 0 [.ref 131, .null, .null] [] I L (some (.int r.1)) r.2 L := by
  rw [f_M_loose] at h
  refine xeb 1 (pc' := 1) (ls' := [.ref 131, .null, .null]) (st' := [.ref 131]) rfl ?_
  obtain ⟨q1, eq1, h⟩ := xbind_some h
  refine xcallV rfl xsh131 rfl rfl rfl (Nat.le_of_ble_eq_true rfl) (Nat.le_of_ble_eq_true rfl) (Nat.le_of_ble_eq_true rfl) rfl (g_M_copies (d := d + 5) _ eq1) ?_
  refine xeb 4 (pc' := 8) (ls' := [.ref 131, .int 0, .int 0]) (st' := []) rfl ?_
  exact g_M_loose_8 F 0 0 q1 h
noncomputable def f_H_empire_4 (F : Nat) : Nat → Int32 → Int32 → XI → Option (Int32 × XI)
  | 0, _, _, _ => none
  | n + 1, v1, v2, I =>
    if 30 ≤ v2 then (some (v1, I)) else ((f_State_lies 26 I v2).bind fun q2 => if q2 = 0 then (f_H_empire_4 F n v1 (v2 + 1) I) else ((f_Board_group F 26 v2 (-1) I).bind fun q4 => (f_Integer_bitCount q4.1).bind fun q5 => f_H_empire_4 F n (if v1 < q5 then q5 else v1) (v2 + 1) q4.2))
theorem g_H_empire_4 {X : XX} {d : Nat} {L : XL} {F : Nat}  {r : Int32 × XI}  : ∀ (n : Nat) (v1 : Int32) (v2 : Int32) (I : XI), f_H_empire_4 F n v1 v2 I = some r → xEv X (d + 4) 250 4 [.ref 0, .int v1, .int v2] [] I L (some (.int r.1)) r.2 L := by
  intro n
  induction n with
  | zero => intro v1 v2 I h; rw [f_H_empire_4] at h; cases h
  | succ n ih =>
    intro v1 v2 I h 
    rw [f_H_empire_4] at h
    refine xeb 2 (pc' := 7) (ls' := [.ref 0, .int v1, .int v2]) (st' := [.int 30, .int v2]) rfl ?_
    by_cases c1 : 30 ≤ v2
    · rw [if_pos c1] at h
      refine xei_ge_t rfl c1 ?_
      refine xeb 1 (pc' := 49) (ls' := [.ref 0, .int v1, .int v2]) (st' := [.int v1]) rfl ?_
      obtain rfl := Option.some.inj h
      exact xeiret rfl rfl
    · rw [if_neg c1] at h
      refine xei_ge_f rfl c1 ?_
      refine xeb 1 (pc' := 11) (ls' := [.ref 0, .int v1, .int v2]) (st' := [.ref 0]) rfl ?_
      refine xegf2 rfl xsh0 (by decide) rfl ?_
      refine xeb 1 (pc' := 15) (ls' := [.ref 0, .int v1, .int v2]) (st' := [.int v2, .ref 26]) rfl ?_
      obtain ⟨q2, eq2, h⟩ := xbind_some h
      refine xcallV rfl xsh26 rfl rfl rfl (Nat.le_of_ble_eq_true rfl) (Nat.le_of_ble_eq_true rfl) (Nat.le_of_ble_eq_true rfl) rfl (g_State_lies (d := d + 3) xis26 _ eq2) ?_
      by_cases c3 : q2 = 0
      · rw [if_pos c3] at h
        refine xef_eq_t rfl c3 ?_
        refine xeb 2 (pc' := 4) (ls' := [.ref 0, .int v1, .int (v2 + 1)]) (st' := []) rfl ?_
        exact ih v1 (v2 + 1) I h
      · rw [if_neg c3] at h
        refine xef_eq_f rfl c3 ?_
        refine xeb 2 (pc' := 23) (ls' := [.ref 0, .int v1, .int v2]) (st' := [.ref 0, .int v1]) rfl ?_
        refine xegf2 rfl xsh0 (by decide) rfl ?_
        refine xeb 1 (pc' := 27) (ls' := [.ref 0, .int v1, .int v2]) (st' := [.ref 0, .ref 30, .int v1]) rfl ?_
        refine xegf2 rfl xsh0 (by decide) rfl ?_
        refine xeb 2 (pc' := 32) (ls' := [.ref 0, .int v1, .int v2]) (st' := [.int (-1), .int v2, .ref 26, .ref 30, .int v1]) rfl ?_
        obtain ⟨q4, eq4, h⟩ := xbind_some h
        refine xcallV rfl xsh30 rfl rfl rfl (Nat.le_of_ble_eq_true rfl) (Nat.le_of_ble_eq_true rfl) (Nat.le_of_ble_eq_true rfl) rfl (g_Board_group (d := d + 0) xis26 _ eq4) ?_
        obtain ⟨q5, eq5, h⟩ := xbind_some h
        refine xcallS20 rfl rfl rfl (Nat.le_of_ble_eq_true rfl) (Nat.le_of_ble_eq_true rfl) (Nat.le_of_ble_eq_true rfl) rfl (g_Integer_bitCount (d := d + 3) _ eq5) ?_
        refine xemax rfl (Nat.le_of_ble_eq_true rfl) ?_
        refine xeb 3 (pc' := 4) (ls' := [.ref 0, .int (if v1 < q5 then q5 else v1), .int (v2 + 1)]) (st' := []) rfl ?_
        exact ih (if v1 < q5 then q5 else v1) (v2 + 1) q4.2 h
noncomputable def f_H_empire (F : Nat) (I : XI) : Option (Int32 × XI) :=
  f_H_empire_4 F F 0 0 I
theorem g_H_empire {X : XX} {d : Nat} {L : XL} {F : Nat} {I : XI}  (r : Int32 × XI) (h : f_H_empire F I = some r) : xEv X (d + 4) 250 0 [.ref 0, .null, .null] [] I L (some (.int r.1)) r.2 L := by
  rw [f_H_empire] at h
  refine xeb 4 (pc' := 4) (ls' := [.ref 0, .int 0, .int 0]) (st' := []) rfl ?_
  exact g_H_empire_4 F 0 0 I h
noncomputable def f_M_empire_13 (F : Nat) : Nat → Int32 → Int32 → XI → Option (Int32 × XI)
  | 0, _, _, _ => none
  | n + 1, v1, v2, I =>
    if 30 ≤ v2 then (some (v1, I)) else (xck (xin v2 30) (if (I 164 (xN v2)) = v2 then ((f_M_sizeOfPart F I v2).bind fun q6 => if q6 ≤ v1 then (f_M_empire_13 F n v1 (v2 + 1) I) else ((f_M_sizeOfPart F I v2).bind fun q8 => f_M_empire_13 F n q8 (v2 + 1) I)) else (f_M_empire_13 F n v1 (v2 + 1) I)))
theorem g_M_empire_13 {X : XX} {d : Nat} {L : XL} {F : Nat}  {r : Int32 × XI}  : ∀ (n : Nat) (v1 : Int32) (v2 : Int32) (I : XI), f_M_empire_13 F n v1 v2 I = some r → xEv X (d + 6) 251 13 [.ref 131, .int v1, .int v2] [] I L (some (.int r.1)) r.2 L := by
  intro n
  induction n with
  | zero => intro v1 v2 I h; rw [f_M_empire_13] at h; cases h
  | succ n ih =>
    intro v1 v2 I h 
    rw [f_M_empire_13] at h
    refine xeb 2 (pc' := 16) (ls' := [.ref 131, .int v1, .int v2]) (st' := [.int 30, .int v2]) rfl ?_
    by_cases c3 : 30 ≤ v2
    · rw [if_pos c3] at h
      refine xei_ge_t rfl c3 ?_
      refine xeb 1 (pc' := 51) (ls' := [.ref 131, .int v1, .int v2]) (st' := [.int v1]) rfl ?_
      obtain rfl := Option.some.inj h
      exact xeiret rfl rfl
    · rw [if_neg c3] at h
      refine xei_ge_f rfl c3 ?_
      refine xeb 1 (pc' := 20) (ls' := [.ref 131, .int v1, .int v2]) (st' := [.ref 131]) rfl ?_
      refine xegf2 rfl xsh131 (by decide) rfl ?_
      refine xeb 1 (pc' := 24) (ls' := [.ref 131, .int v1, .int v2]) (st' := [.int v2, .ref 164]) rfl ?_
      obtain ⟨b4, h⟩ := xck_some h
      refine xeia rfl xsh164 b4 ?_
      refine xeb 1 (pc' := 26) (ls' := [.ref 131, .int v1, .int v2]) (st' := [.int v2, .int (I 164 (xN v2))]) rfl ?_
      by_cases c5 : (I 164 (xN v2)) = v2
      · rw [if_pos c5] at h
        refine xei_ne_t rfl c5 ?_
        refine xeb 2 (pc' := 31) (ls' := [.ref 131, .int v1, .int v2]) (st' := [.int v2, .ref 131]) rfl ?_
        obtain ⟨q6, eq6, h⟩ := xbind_some h
        refine xcallV rfl xsh131 rfl rfl rfl (Nat.le_of_ble_eq_true rfl) (Nat.le_of_ble_eq_true rfl) (Nat.le_of_ble_eq_true rfl) rfl (g_M_sizeOfPart (d := d + 5) _ eq6) ?_
        refine xeb 1 (pc' := 35) (ls' := [.ref 131, .int v1, .int v2]) (st' := [.int v1, .int q6]) rfl ?_
        by_cases c7 : q6 ≤ v1
        · rw [if_pos c7] at h
          refine xei_le_t rfl c7 ?_
          refine xeb 2 (pc' := 13) (ls' := [.ref 131, .int v1, .int (v2 + 1)]) (st' := []) rfl ?_
          exact ih v1 (v2 + 1) I h
        · rw [if_neg c7] at h
          refine xei_le_f rfl c7 ?_
          refine xeb 2 (pc' := 40) (ls' := [.ref 131, .int v1, .int v2]) (st' := [.int v2, .ref 131]) rfl ?_
          obtain ⟨q8, eq8, h⟩ := xbind_some h
          refine xcallV rfl xsh131 rfl rfl rfl (Nat.le_of_ble_eq_true rfl) (Nat.le_of_ble_eq_true rfl) (Nat.le_of_ble_eq_true rfl) rfl (g_M_sizeOfPart (d := d + 5) _ eq8) ?_
          refine xeb 3 (pc' := 13) (ls' := [.ref 131, .int q8, .int (v2 + 1)]) (st' := []) rfl ?_
          exact ih q8 (v2 + 1) I h
      · rw [if_neg c5] at h
        refine xei_ne_f rfl c5 ?_
        refine xeb 2 (pc' := 13) (ls' := [.ref 131, .int v1, .int (v2 + 1)]) (st' := []) rfl ?_
        exact ih v1 (v2 + 1) I h
noncomputable def f_M_empire (F : Nat) (I : XI) : Option (Int32 × XI) :=
  (f_M_copies F I).bind fun q1 => (f_M_fillsParts F (-1) q1).bind fun q2 => f_M_empire_13 F F 0 0 q2
theorem g_M_empire {X : XX} {d : Nat} {L : XL} {F : Nat} {I : XI}  (r : Int32 × XI) (h : f_M_empire F I = some r) : xEv X (d + 6) 251 0 [.ref 131, .null, .null] [] I L (some (.int r.1)) r.2 L := by
  rw [f_M_empire] at h
  refine xeb 1 (pc' := 1) (ls' := [.ref 131, .null, .null]) (st' := [.ref 131]) rfl ?_
  obtain ⟨q1, eq1, h⟩ := xbind_some h
  refine xcallV rfl xsh131 rfl rfl rfl (Nat.le_of_ble_eq_true rfl) (Nat.le_of_ble_eq_true rfl) (Nat.le_of_ble_eq_true rfl) rfl (g_M_copies (d := d + 5) _ eq1) ?_
  refine xeb 2 (pc' := 6) (ls' := [.ref 131, .null, .null]) (st' := [.int (-1), .ref 131]) rfl ?_
  obtain ⟨q2, eq2, h⟩ := xbind_some h
  refine xcallV rfl xsh131 rfl rfl rfl (Nat.le_of_ble_eq_true rfl) (Nat.le_of_ble_eq_true rfl) (Nat.le_of_ble_eq_true rfl) rfl (g_M_fillsParts (d := d + 0) _ eq2) ?_
  refine xeb 4 (pc' := 13) (ls' := [.ref 131, .int 0, .int 0]) (st' := []) rfl ?_
  exact g_M_empire_13 F 0 0 q2 h
noncomputable def f_State_lying_4 (F : Nat) (S0 : Nat) (I : XI) : Nat → Int32 → Int32 → Option (Int32)
  | 0, _, _ => none
  | n + 1, v1, v2 =>
    if 30 ≤ v2 then (some v1) else ((f_State_lies S0 I v2).bind fun q2 => f_State_lying_4 F S0 I n (v1 + (if q2 = 0 then 0 else 1)) (v2 + 1))
theorem g_State_lying_4 {X : XX} {d : Nat} {L : XL} {F : Nat} {S0 : Nat} {I : XI} (hS0 : xisSt S0) {r : Int32}  : ∀ (n : Nat) (v1 : Int32) (v2 : Int32), f_State_lying_4 F S0 I n v1 v2 = some r → xEv X (d + 1) 252 4 [.ref S0, .int v1, .int v2] [] I L (some (.int r)) I L := by
  intro n
  induction n with
  | zero => intro v1 v2 h; rw [f_State_lying_4] at h; cases h
  | succ n ih =>
    intro v1 v2 h 
    rw [f_State_lying_4] at h
    refine xeb 2 (pc' := 7) (ls' := [.ref S0, .int v1, .int v2]) (st' := [.int 30, .int v2]) rfl ?_
    by_cases c1 : 30 ≤ v2
    · rw [if_pos c1] at h
      refine xei_ge_t rfl c1 ?_
      refine xeb 1 (pc' := 33) (ls' := [.ref S0, .int v1, .int v2]) (st' := [.int v1]) rfl ?_
      obtain rfl := Option.some.inj h
      exact xeiret rfl rfl
    · rw [if_neg c1] at h
      refine xei_ge_f rfl c1 ?_
      refine xeb 3 (pc' := 13) (ls' := [.ref S0, .int v1, .int v2]) (st' := [.int v2, .ref S0, .int v1]) rfl ?_
      obtain ⟨q2, eq2, h⟩ := xbind_some h
      refine xcallV rfl hS0.1 rfl rfl rfl (Nat.le_of_ble_eq_true rfl) (Nat.le_of_ble_eq_true rfl) (Nat.le_of_ble_eq_true rfl) rfl (g_State_lies (d := d + 0) hS0 _ eq2) ?_
      have hj : xEv X (d + 1) 252 24 [.ref S0, .int v1, .int v2] [.int (if q2 = 0 then 0 else 1), .int v1] I L (some (.int r)) I L := by
        refine xeb 4 (pc' := 4) (ls' := [.ref S0, .int (v1 + (if q2 = 0 then 0 else 1)), .int (v2 + 1)]) (st' := []) rfl ?_
        exact ih (v1 + (if q2 = 0 then 0 else 1)) (v2 + 1) h
      by_cases c3 : q2 = 0
      · simp only [if_pos c3] at hj
        refine xef_eq_t rfl c3 ?_
        exact xeb 1 rfl hj
      · simp only [if_neg c3] at hj
        refine xef_eq_f rfl c3 ?_
        exact xeb 2 rfl hj
noncomputable def f_State_lying (F : Nat) (S0 : Nat) (I : XI) : Option (Int32) :=
  f_State_lying_4 F S0 I F 0 0
theorem g_State_lying {X : XX} {d : Nat} {L : XL} {F : Nat} {S0 : Nat} {I : XI} (hS0 : xisSt S0) (r : Int32) (h : f_State_lying F S0 I = some r) : xEv X (d + 1) 252 0 [.ref S0, .null, .null] [] I L (some (.int r)) I L := by
  rw [f_State_lying] at h
  refine xeb 4 (pc' := 4) (ls' := [.ref S0, .int 0, .int 0]) (st' := []) rfl ?_
  exact g_State_lying_4 hS0 F 0 0 h
