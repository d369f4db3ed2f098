/-! the methods as functions, and that a run answers so (by gen6.py) -/
noncomputable def f_Integer_bitCount (a0 : Int32) : Option (Int32) :=
  some ((((((((a0 - ((Int32.toUInt32 a0 >>> (Int32.toUInt32 1 &&& Int32.toUInt32 31)).toInt32 &&& 1431655765)) &&& 858993459) + ((Int32.toUInt32 (a0 - ((Int32.toUInt32 a0 >>> (Int32.toUInt32 1 &&& Int32.toUInt32 31)).toInt32 &&& 1431655765)) >>> (Int32.toUInt32 2 &&& Int32.toUInt32 31)).toInt32 &&& 858993459)) + (Int32.toUInt32 (((a0 - ((Int32.toUInt32 a0 >>> (Int32.toUInt32 1 &&& Int32.toUInt32 31)).toInt32 &&& 1431655765)) &&& 858993459) + ((Int32.toUInt32 (a0 - ((Int32.toUInt32 a0 >>> (Int32.toUInt32 1 &&& Int32.toUInt32 31)).toInt32 &&& 1431655765)) >>> (Int32.toUInt32 2 &&& Int32.toUInt32 31)).toInt32 &&& 858993459)) >>> (Int32.toUInt32 4 &&& Int32.toUInt32 31)).toInt32) &&& 252645135) + (Int32.toUInt32 (((((a0 - ((Int32.toUInt32 a0 >>> (Int32.toUInt32 1 &&& Int32.toUInt32 31)).toInt32 &&& 1431655765)) &&& 858993459) + ((Int32.toUInt32 (a0 - ((Int32.toUInt32 a0 >>> (Int32.toUInt32 1 &&& Int32.toUInt32 31)).toInt32 &&& 1431655765)) >>> (Int32.toUInt32 2 &&& Int32.toUInt32 31)).toInt32 &&& 858993459)) + (Int32.toUInt32 (((a0 - ((Int32.toUInt32 a0 >>> (Int32.toUInt32 1 &&& Int32.toUInt32 31)).toInt32 &&& 1431655765)) &&& 858993459) + ((Int32.toUInt32 (a0 - ((Int32.toUInt32 a0 >>> (Int32.toUInt32 1 &&& Int32.toUInt32 31)).toInt32 &&& 1431655765)) >>> (Int32.toUInt32 2 &&& Int32.toUInt32 31)).toInt32 &&& 858993459)) >>> (Int32.toUInt32 4 &&& Int32.toUInt32 31)).toInt32) &&& 252645135) >>> (Int32.toUInt32 8 &&& Int32.toUInt32 31)).toInt32) + (Int32.toUInt32 ((((((a0 - ((Int32.toUInt32 a0 >>> (Int32.toUInt32 1 &&& Int32.toUInt32 31)).toInt32 &&& 1431655765)) &&& 858993459) + ((Int32.toUInt32 (a0 - ((Int32.toUInt32 a0 >>> (Int32.toUInt32 1 &&& Int32.toUInt32 31)).toInt32 &&& 1431655765)) >>> (Int32.toUInt32 2 &&& Int32.toUInt32 31)).toInt32 &&& 858993459)) + (Int32.toUInt32 (((a0 - ((Int32.toUInt32 a0 >>> (Int32.toUInt32 1 &&& Int32.toUInt32 31)).toInt32 &&& 1431655765)) &&& 858993459) + ((Int32.toUInt32 (a0 - ((Int32.toUInt32 a0 >>> (Int32.toUInt32 1 &&& Int32.toUInt32 31)).toInt32 &&& 1431655765)) >>> (Int32.toUInt32 2 &&& Int32.toUInt32 31)).toInt32 &&& 858993459)) >>> (Int32.toUInt32 4 &&& Int32.toUInt32 31)).toInt32) &&& 252645135) + (Int32.toUInt32 (((((a0 - ((Int32.toUInt32 a0 >>> (Int32.toUInt32 1 &&& Int32.toUInt32 31)).toInt32 &&& 1431655765)) &&& 858993459) + ((Int32.toUInt32 (a0 - ((Int32.toUInt32 a0 >>> (Int32.toUInt32 1 &&& Int32.toUInt32 31)).toInt32 &&& 1431655765)) >>> (Int32.toUInt32 2 &&& Int32.toUInt32 31)).toInt32 &&& 858993459)) + (Int32.toUInt32 (((a0 - ((Int32.toUInt32 a0 >>> (Int32.toUInt32 1 &&& Int32.toUInt32 31)).toInt32 &&& 1431655765)) &&& 858993459) + ((Int32.toUInt32 (a0 - ((Int32.toUInt32 a0 >>> (Int32.toUInt32 1 &&& Int32.toUInt32 31)).toInt32 &&& 1431655765)) >>> (Int32.toUInt32 2 &&& Int32.toUInt32 31)).toInt32 &&& 858993459)) >>> (Int32.toUInt32 4 &&& Int32.toUInt32 31)).toInt32) &&& 252645135) >>> (Int32.toUInt32 8 &&& Int32.toUInt32 31)).toInt32) >>> (Int32.toUInt32 16 &&& Int32.toUInt32 31)).toInt32) &&& 63)
theorem g_Integer_bitCount {X : XX} {d : Nat} {I : XI} {L : XL} {a0 : Int32}  (r : Int32) (h : f_Integer_bitCount a0 = some r) : xEv X (d + 0) 187 0 [.int a0] [] I L (some (.int r)) I L := by
  rw [f_Integer_bitCount] at h
  refine xeb 41 (pc' := 52) (ls' := [.int (((((((a0 - ((Int32.toUInt32 a0 >>> (Int32.toUInt32 1 &&& Int32.toUInt32 31)).toInt32 &&& 1431655765)) &&& 858993459) + ((Int32.toUInt32 (a0 - ((Int32.toUInt32 a0 >>> (Int32.toUInt32 1 &&& Int32.toUInt32 31)).toInt32 &&& 1431655765)) >>> (Int32.toUInt32 2 &&& Int32.toUInt32 31)).toInt32 &&& 858993459)) + (Int32.toUInt32 (((a0 - ((Int32.toUInt32 a0 >>> (Int32.toUInt32 1 &&& Int32.toUInt32 31)).toInt32 &&& 1431655765)) &&& 858993459) + ((Int32.toUInt32 (a0 - ((Int32.toUInt32 a0 >>> (Int32.toUInt32 1 &&& Int32.toUInt32 31)).toInt32 &&& 1431655765)) >>> (Int32.toUInt32 2 &&& Int32.toUInt32 31)).toInt32 &&& 858993459)) >>> (Int32.toUInt32 4 &&& Int32.toUInt32 31)).toInt32) &&& 252645135) + (Int32.toUInt32 (((((a0 - ((Int32.toUInt32 a0 >>> (Int32.toUInt32 1 &&& Int32.toUInt32 31)).toInt32 &&& 1431655765)) &&& 858993459) + ((Int32.toUInt32 (a0 - ((Int32.toUInt32 a0 >>> (Int32.toUInt32 1 &&& Int32.toUInt32 31)).toInt32 &&& 1431655765)) >>> (Int32.toUInt32 2 &&& Int32.toUInt32 31)).toInt32 &&& 858993459)) + (Int32.toUInt32 (((a0 - ((Int32.toUInt32 a0 >>> (Int32.toUInt32 1 &&& Int32.toUInt32 31)).toInt32 &&& 1431655765)) &&& 858993459) + ((Int32.toUInt32 (a0 - ((Int32.toUInt32 a0 >>> (Int32.toUInt32 1 &&& Int32.toUInt32 31)).toInt32 &&& 1431655765)) >>> (Int32.toUInt32 2 &&& Int32.toUInt32 31)).toInt32 &&& 858993459)) >>> (Int32.toUInt32 4 &&& Int32.toUInt32 31)).toInt32) &&& 252645135) >>> (Int32.toUInt32 8 &&& Int32.toUInt32 31)).toInt32) + (Int32.toUInt32 ((((((a0 - ((Int32.toUInt32 a0 >>> (Int32.toUInt32 1 &&& Int32.toUInt32 31)).toInt32 &&& 1431655765)) &&& 858993459) + ((Int32.toUInt32 (a0 - ((Int32.toUInt32 a0 >>> (Int32.toUInt32 1 &&& Int32.toUInt32 31)).toInt32 &&& 1431655765)) >>> (Int32.toUInt32 2 &&& Int32.toUInt32 31)).toInt32 &&& 858993459)) + (Int32.toUInt32 (((a0 - ((Int32.toUInt32 a0 >>> (Int32.toUInt32 1 &&& Int32.toUInt32 31)).toInt32 &&& 1431655765)) &&& 858993459) + ((Int32.toUInt32 (a0 - ((Int32.toUInt32 a0 >>> (Int32.toUInt32 1 &&& Int32.toUInt32 31)).toInt32 &&& 1431655765)) >>> (Int32.toUInt32 2 &&& Int32.toUInt32 31)).toInt32 &&& 858993459)) >>> (Int32.toUInt32 4 &&& Int32.toUInt32 31)).toInt32) &&& 252645135) + (Int32.toUInt32 (((((a0 - ((Int32.toUInt32 a0 >>> (Int32.toUInt32 1 &&& Int32.toUInt32 31)).toInt32 &&& 1431655765)) &&& 858993459) + ((Int32.toUInt32 (a0 - ((Int32.toUInt32 a0 >>> (Int32.toUInt32 1 &&& Int32.toUInt32 31)).toInt32 &&& 1431655765)) >>> (Int32.toUInt32 2 &&& Int32.toUInt32 31)).toInt32 &&& 858993459)) + (Int32.toUInt32 (((a0 - ((Int32.toUInt32 a0 >>> (Int32.toUInt32 1 &&& Int32.toUInt32 31)).toInt32 &&& 1431655765)) &&& 858993459) + ((Int32.toUInt32 (a0 - ((Int32.toUInt32 a0 >>> (Int32.toUInt32 1 &&& Int32.toUInt32 31)).toInt32 &&& 1431655765)) >>> (Int32.toUInt32 2 &&& Int32.toUInt32 31)).toInt32 &&& 858993459)) >>> (Int32.toUInt32 4 &&& Int32.toUInt32 31)).toInt32) &&& 252645135) >>> (Int32.toUInt32 8 &&& Int32.toUInt32 31)).toInt32) >>> (Int32.toUInt32 16 &&& Int32.toUInt32 31)).toInt32)]) (st' := [.int ((((((((a0 - ((Int32.toUInt32 a0 >>> (Int32.toUInt32 1 &&& Int32.toUInt32 31)).toInt32 &&& 1431655765)) &&& 858993459) + ((Int32.toUInt32 (a0 - ((Int32.toUInt32 a0 >>> (Int32.toUInt32 1 &&& Int32.toUInt32 31)).toInt32 &&& 1431655765)) >>> (Int32.toUInt32 2 &&& Int32.toUInt32 31)).toInt32 &&& 858993459)) + (Int32.toUInt32 (((a0 - ((Int32.toUInt32 a0 >>> (Int32.toUInt32 1 &&& Int32.toUInt32 31)).toInt32 &&& 1431655765)) &&& 858993459) + ((Int32.toUInt32 (a0 - ((Int32.toUInt32 a0 >>> (Int32.toUInt32 1 &&& Int32.toUInt32 31)).toInt32 &&& 1431655765)) >>> (Int32.toUInt32 2 &&& Int32.toUInt32 31)).toInt32 &&& 858993459)) >>> (Int32.toUInt32 4 &&& Int32.toUInt32 31)).toInt32) &&& 252645135) + (Int32.toUInt32 (((((a0 - ((Int32.toUInt32 a0 >>> (Int32.toUInt32 1 &&& Int32.toUInt32 31)).toInt32 &&& 1431655765)) &&& 858993459) + ((Int32.toUInt32 (a0 - ((Int32.toUInt32 a0 >>> (Int32.toUInt32 1 &&& Int32.toUInt32 31)).toInt32 &&& 1431655765)) >>> (Int32.toUInt32 2 &&& Int32.toUInt32 31)).toInt32 &&& 858993459)) + (Int32.toUInt32 (((a0 - ((Int32.toUInt32 a0 >>> (Int32.toUInt32 1 &&& Int32.toUInt32 31)).toInt32 &&& 1431655765)) &&& 858993459) + ((Int32.toUInt32 (a0 - ((Int32.toUInt32 a0 >>> (Int32.toUInt32 1 &&& Int32.toUInt32 31)).toInt32 &&& 1431655765)) >>> (Int32.toUInt32 2 &&& Int32.toUInt32 31)).toInt32 &&& 858993459)) >>> (Int32.toUInt32 4 &&& Int32.toUInt32 31)).toInt32) &&& 252645135) >>> (Int32.toUInt32 8 &&& Int32.toUInt32 31)).toInt32) + (Int32.toUInt32 ((((((a0 - ((Int32.toUInt32 a0 >>> (Int32.toUInt32 1 &&& Int32.toUInt32 31)).toInt32 &&& 1431655765)) &&& 858993459) + ((Int32.toUInt32 (a0 - ((Int32.toUInt32 a0 >>> (Int32.toUInt32 1 &&& Int32.toUInt32 31)).toInt32 &&& 1431655765)) >>> (Int32.toUInt32 2 &&& Int32.toUInt32 31)).toInt32 &&& 858993459)) + (Int32.toUInt32 (((a0 - ((Int32.toUInt32 a0 >>> (Int32.toUInt32 1 &&& Int32.toUInt32 31)).toInt32 &&& 1431655765)) &&& 858993459) + ((Int32.toUInt32 (a0 - ((Int32.toUInt32 a0 >>> (Int32.toUInt32 1 &&& Int32.toUInt32 31)).toInt32 &&& 1431655765)) >>> (Int32.toUInt32 2 &&& Int32.toUInt32 31)).toInt32 &&& 858993459)) >>> (Int32.toUInt32 4 &&& Int32.toUInt32 31)).toInt32) &&& 252645135) + (Int32.toUInt32 (((((a0 - ((Int32.toUInt32 a0 >>> (Int32.toUInt32 1 &&& Int32.toUInt32 31)).toInt32 &&& 1431655765)) &&& 858993459) + ((Int32.toUInt32 (a0 - ((Int32.toUInt32 a0 >>> (Int32.toUInt32 1 &&& Int32.toUInt32 31)).toInt32 &&& 1431655765)) >>> (Int32.toUInt32 2 &&& Int32.toUInt32 31)).toInt32 &&& 858993459)) + (Int32.toUInt32 (((a0 - ((Int32.toUInt32 a0 >>> (Int32.toUInt32 1 &&& Int32.toUInt32 31)).toInt32 &&& 1431655765)) &&& 858993459) + ((Int32.toUInt32 (a0 - ((Int32.toUInt32 a0 >>> (Int32.toUInt32 1 &&& Int32.toUInt32 31)).toInt32 &&& 1431655765)) >>> (Int32.toUInt32 2 &&& Int32.toUInt32 31)).toInt32 &&& 858993459)) >>> (Int32.toUInt32 4 &&& Int32.toUInt32 31)).toInt32) &&& 252645135) >>> (Int32.toUInt32 8 &&& Int32.toUInt32 31)).toInt32) >>> (Int32.toUInt32 16 &&& Int32.toUInt32 31)).toInt32) &&& 63)]) rfl ?_
  obtain rfl := Option.some.inj h
  exact xeiret rfl rfl
noncomputable def f_Calendar_endDay_78 (F : Nat) (S1 : Nat) : Nat → Int32 → Int32 → XI → Option (XI)
  | 0, _, _, _ => none
  | n + 1, v3, v4, I =>
    if 30 ≤ v4 then ((f_Integer_bitCount v3).bind fun q4 => xst (xput I S1 3 ((I S1 3) + q4)) fun I5 => xst (xput I5 S1 1 ((I5 S1 1) + 1)) fun I6 => some I6) else (if ((v3 >>> (v4 &&& 31)) &&& 1) = 1 then (xck (xin v4 30) (xst (xput I (S1 + 1) (xN v4) (-2)) fun I9 => f_Calendar_endDay_78 F S1 n v3 (v4 + 1) I9)) else (f_Calendar_endDay_78 F S1 n v3 (v4 + 1) I))
theorem g_Calendar_endDay_78 {X : XX} {d : Nat} {L : XL} {F : Nat} {S1 : Nat} (hS1 : xisSt S1) {r : XI}  : ∀ (n : Nat) (v3 : Int32) (v4 : Int32) (I : XI), f_Calendar_endDay_78 F S1 n v3 v4 I = some r → ∀ (z0 : Value) (z2 : Value), xEv X (d + 5) 188 78 [z0, .ref S1, z2, .int v3, .int v4] [] I L none r L := by
  intro n
  induction n with
  | zero => intro v3 v4 I h; rw [f_Calendar_endDay_78] at h; cases h
  | succ n ih =>
    intro v3 v4 I h z0 z2
    rw [f_Calendar_endDay_78] at h
    refine xeb 2 (pc' := 82) (ls' := [z0, .ref S1, z2, .int v3, .int v4]) (st' := [.int 30, .int v4]) rfl ?_
    by_cases c3 : 30 ≤ v4
    · rw [if_pos c3] at h
      refine xei_ge_t rfl c3 ?_
      refine xeb 2 (pc' := 112) (ls' := [z0, .ref S1, z2, .int v3, .int v4]) (st' := [.ref S1, .ref S1]) rfl ?_
      refine xegf10 rfl hS1.1 (by decide) ?_
      refine xeb 1 (pc' := 116) (ls' := [z0, .ref S1, z2, .int v3, .int v4]) (st' := [.int v3, .int (I S1 3), .ref S1]) rfl ?_
      obtain ⟨q4, eq4, h⟩ := xbind_some h
      refine xcallS20 rfl rfl rfl (Nat.le_of_ble_eq_true rfl) (Nat.le_of_ble_eq_true rfl) (Nat.le_of_ble_eq_true rfl) rfl (g_Integer_bitCount (d := d + 4) _ eq4) ?_
      refine xeb 1 (pc' := 120) (ls' := [z0, .ref S1, z2, .int v3, .int v4]) (st' := [.int ((I S1 3) + q4), .ref S1]) rfl ?_
      refine xepf10 rfl hS1.1 (by decide) ?_
      obtain ⟨I5, hI5, h⟩ := xst_some h
      rw [← hI5]
      refine xeb 2 (pc' := 125) (ls' := [z0, .ref S1, z2, .int v3, .int v4]) (st' := [.ref S1, .ref S1]) rfl ?_
      refine xegf10 rfl hS1.1 (by decide) ?_
      refine xeb 2 (pc' := 130) (ls' := [z0, .ref S1, z2, .int v3, .int v4]) (st' := [.int ((I5 S1 1) + 1), .ref S1]) rfl ?_
      refine xepf10 rfl hS1.1 (by decide) ?_
      obtain ⟨I6, hI6, h⟩ := xst_some h
      rw [← hI6]
      obtain rfl := Option.some.inj h
      exact xevret rfl
    · rw [if_neg c3] at h
      refine xei_ge_f rfl c3 ?_
      refine xeb 6 (pc' := 92) (ls' := [z0, .ref S1, z2, .int v3, .int v4]) (st' := [.int 1, .int ((v3 >>> (v4 &&& 31)) &&& 1)]) rfl ?_
      by_cases c7 : ((v3 >>> (v4 &&& 31)) &&& 1) = 1
      · rw [if_pos c7] at h
        refine xei_ne_t rfl c7 ?_
        refine xeb 1 (pc' := 96) (ls' := [z0, .ref S1, z2, .int v3, .int v4]) (st' := [.ref S1]) rfl ?_
        refine xegf12 rfl hS1.1 (by decide) rfl ?_
        refine xeb 2 (pc' := 103) (ls' := [z0, .ref S1, z2, .int v3, .int v4]) (st' := [.int (-2), .int v4, .ref (S1 + 1)]) rfl ?_
        obtain ⟨b8, h⟩ := xck_some h
        refine xeis rfl hS1.2 b8 ?_
        obtain ⟨I9, hI9, h⟩ := xst_some h
        rw [← hI9]
        refine xeb 2 (pc' := 78) (ls' := [z0, .ref S1, z2, .int v3, .int (v4 + 1)]) (st' := []) rfl ?_
        exact ih v3 (v4 + 1) I9 h _ _
      · rw [if_neg c7] at h
        refine xei_ne_f rfl c7 ?_
        refine xeb 2 (pc' := 78) (ls' := [z0, .ref S1, z2, .int v3, .int (v4 + 1)]) (st' := []) rfl ?_
        exact ih v3 (v4 + 1) I h _ _
noncomputable def f_Calendar_endDay_17 (F : Nat) (S1 : Nat) (k78 : Int32 → Int32 → XI → Option (XI)) : Nat → Int32 → Int32 → Int32 → XI → Option (XI)
  | 0, _, _, _, _ => none
  | n + 1, v2, v3, v4, I =>
    if 30 ≤ v4 then (k78 v3 0 I) else ((f_State_lies S1 I v4).bind fun q11 => if q11 = 0 then (f_Calendar_endDay_17 F S1 k78 n v2 v3 (v4 + 1) I) else ((f_Calendar_lot v2 (((64 * (I S1 1)) + 1) + v4)).bind fun q13 => (f_Rules_falls F S1 v4 I).bind fun q14 => f_Calendar_endDay_17 F S1 k78 n v2 (if q14.1 ≤ q13 then v3 else (v3 ||| (1 <<< (v4 &&& 31)))) (v4 + 1) q14.2))
theorem g_Calendar_endDay_17 {X : XX} {d : Nat} {L : XL} {F : Nat} {S1 : Nat} {k78 : Int32 → Int32 → XI → Option (XI)} (hS1 : xisSt S1) {r : XI} (hk78 : ∀ (v3 : Int32) (v4 : Int32) (I : XI), k78 v3 v4 I = some r → ∀ (z0 : Value) (z2 : Value), xEv X (d + 5) 188 78 [z0, .ref S1, z2, .int v3, .int v4] [] I L none r L) : ∀ (n : Nat) (v2 : Int32) (v3 : Int32) (v4 : Int32) (I : XI), f_Calendar_endDay_17 F S1 k78 n v2 v3 v4 I = some r → xEv X (d + 5) 188 17 [.ref 37, .ref S1, .int v2, .int v3, .int v4] [] I L none r L := by
  intro n
  induction n with
  | zero => intro v2 v3 v4 I h; rw [f_Calendar_endDay_17] at h; cases h
  | succ n ih =>
    intro v2 v3 v4 I h 
    rw [f_Calendar_endDay_17] at h
    refine xeb 2 (pc' := 21) (ls' := [.ref 37, .ref S1, .int v2, .int v3, .int v4]) (st' := [.int 30, .int v4]) rfl ?_
    by_cases c10 : 30 ≤ v4
    · rw [if_pos c10] at h
      refine xei_ge_t rfl c10 ?_
      refine xeb 2 (pc' := 78) (ls' := [.ref 37, .ref S1, .int v2, .int v3, .int 0]) (st' := []) rfl ?_
      exact hk78 v3 0 I h _ _
    · rw [if_neg c10] at h
      refine xei_ge_f rfl c10 ?_
      refine xeb 2 (pc' := 27) (ls' := [.ref 37, .ref S1, .int v2, .int v3, .int v4]) (st' := [.int v4, .ref S1]) rfl ?_
      obtain ⟨q11, eq11, h⟩ := xbind_some h
      refine xcallV rfl hS1.1 rfl rfl rfl (Nat.le_of_ble_eq_true rfl) (Nat.le_of_ble_eq_true rfl) (Nat.le_of_ble_eq_true rfl) rfl (g_State_lies (d := d + 4) hS1 _ eq11) ?_
      by_cases c12 : q11 = 0
      · rw [if_pos c12] at h
        refine xef_eq_t rfl c12 ?_
        refine xeb 2 (pc' := 17) (ls' := [.ref 37, .ref S1, .int v2, .int v3, .int (v4 + 1)]) (st' := []) rfl ?_
        exact ih v2 v3 (v4 + 1) I h
      · rw [if_neg c12] at h
        refine xef_eq_f rfl c12 ?_
        refine xeb 3 (pc' := 37) (ls' := [.ref 37, .ref S1, .int v2, .int v3, .int v4]) (st' := [.ref S1, .int 64, .int v2]) rfl ?_
        refine xegf10 rfl hS1.1 (by decide) ?_
        refine xeb 5 (pc' := 46) (ls' := [.ref 37, .ref S1, .int v2, .int v3, .int v4]) (st' := [.int (((64 * (I S1 1)) + 1) + v4), .int v2]) rfl ?_
        obtain ⟨q13, eq13, h⟩ := xbind_some h
        refine xcallS20 rfl rfl rfl (Nat.le_of_ble_eq_true rfl) (Nat.le_of_ble_eq_true rfl) (Nat.le_of_ble_eq_true rfl) rfl (g_Calendar_lot (d := d + 3) _ eq13) ?_
        refine xeb 1 (pc' := 50) (ls' := [.ref 37, .ref S1, .int v2, .int v3, .int v4]) (st' := [.ref 37, .int q13]) rfl ?_
        refine xegf2 rfl xsh37 (by decide) rfl ?_
        refine xeb 2 (pc' := 56) (ls' := [.ref 37, .ref S1, .int v2, .int v3, .int v4]) (st' := [.int v4, .ref S1, .ref 32, .int q13]) rfl ?_
        obtain ⟨q14, eq14, h⟩ := xbind_some h
        refine xcallV rfl xsh32 rfl rfl rfl (Nat.le_of_ble_eq_true rfl) (Nat.le_of_ble_eq_true rfl) (Nat.le_of_ble_eq_true rfl) rfl (g_Rules_falls (d := d + 0) hS1 _ eq14) ?_
        have hj : xEv X (d + 5) 188 69 [.ref 37, .ref S1, .int v2, .int (if q14.1 ≤ q13 then v3 else (v3 ||| (1 <<< (v4 &&& 31)))), .int v4] [] q14.2 L none r L := by
          refine xeb 2 (pc' := 17) (ls' := [.ref 37, .ref S1, .int v2, .int (if q14.1 ≤ q13 then v3 else (v3 ||| (1 <<< (v4 &&& 31)))), .int (v4 + 1)]) (st' := []) rfl ?_
          exact ih v2 (if q14.1 ≤ q13 then v3 else (v3 ||| (1 <<< (v4 &&& 31)))) (v4 + 1) q14.2 h
        by_cases c15 : q14.1 ≤ q13
        · simp only [if_pos c15] at hj
          refine xei_ge_t rfl c15 ?_
          exact xeb 0 rfl hj
        · simp only [if_neg c15] at hj
          refine xei_ge_f rfl c15 ?_
          exact xeb 6 rfl hj
noncomputable def f_Calendar_endDay (F : Nat) (S1 : Nat) (a2 : Int32) (I : XI) : Option (XI) :=
  (f_Calendar_isKnock I a2 (I S1 1)).bind fun q1 => if q1 = 0 then (f_Calendar_endDay_78 F S1 F 0 0 I) else (f_Calendar_endDay_17 F S1 (fun v3 v4 I => f_Calendar_endDay_78 F S1 F v3 v4 I) F a2 0 0 I)
theorem g_Calendar_endDay {X : XX} {d : Nat} {L : XL} {F : Nat} {S1 : Nat} {a2 : Int32} {I : XI} (hS1 : xisSt S1) (r : XI) (h : f_Calendar_endDay F S1 a2 I = some r) : xEv X (d + 5) 188 0 [.ref 37, .ref S1, .int a2, .null, .null] [] I L none r L := by
  rw [f_Calendar_endDay] at h
  refine xeb 5 (pc' := 5) (ls' := [.ref 37, .ref S1, .int a2, .int 0, .null]) (st' := [.ref S1, .int a2, .ref 37]) rfl ?_
  refine xegf10 rfl hS1.1 (by decide) ?_
  obtain ⟨q1, eq1, h⟩ := xbind_some h
  refine xcallV rfl xsh37 rfl rfl rfl (Nat.le_of_ble_eq_true rfl) (Nat.le_of_ble_eq_true rfl) (Nat.le_of_ble_eq_true rfl) rfl (g_Calendar_isKnock (d := d + 2) _ eq1) ?_
  by_cases c2 : q1 = 0
  · rw [if_pos c2] at h
    refine xef_eq_t rfl c2 ?_
    refine xeb 2 (pc' := 78) (ls' := [.ref 37, .ref S1, .int a2, .int 0, .int 0]) (st' := []) rfl ?_
    exact g_Calendar_endDay_78 hS1 F 0 0 I h _ _
  · rw [if_neg c2] at h
    refine xef_eq_f rfl c2 ?_
    refine xeb 2 (pc' := 17) (ls' := [.ref 37, .ref S1, .int a2, .int 0, .int 0]) (st' := []) rfl ?_
    exact g_Calendar_endDay_17 hS1 (fun v3 v4 I h' z0 z2 => g_Calendar_endDay_78 hS1 F v3 v4 I h' z0 z2) F a2 0 0 I h
noncomputable def f_Calendar_pass_10 (F : Nat) (S1 : Nat) (k2 : Int32 → Int32 → XI → Option (XI)) : Nat → Int32 → Int32 → Int32 → XI → Option (XI)
  | 0, _, _, _, _ => none
  | n + 1, v2, v3, v4, I =>
    if 5 ≤ v4 then ((f_Calendar_endDay F S1 (I 17 4) I).bind fun q3 => k2 v2 (v3 + 1) q3) else ((f_Rules_taxes F S1 v4 I).bind fun q4 => xst (xput q4.2 S1 2 ((I S1 2) + q4.1)) fun I5 => f_Calendar_pass_10 F S1 k2 n v2 v3 (v4 + 1) I5)
theorem g_Calendar_pass_10 {X : XX} {d : Nat} {L : XL} {F : Nat} {S1 : Nat} {k2 : Int32 → Int32 → XI → Option (XI)} (hS1 : xisSt S1) {r : XI} (hk2 : ∀ (v2 : Int32) (v3 : Int32) (I : XI), k2 v2 v3 I = some r → ∀ (z4 : Value), xEv X (d + 6) 189 2 [.ref 37, .ref S1, .int v2, .int v3, z4] [] I L none r L) : ∀ (n : Nat) (v2 : Int32) (v3 : Int32) (v4 : Int32) (I : XI), f_Calendar_pass_10 F S1 k2 n v2 v3 v4 I = some r → xEv X (d + 6) 189 10 [.ref 37, .ref S1, .int v2, .int v3, .int v4] [] I L none r L := by
  intro n
  induction n with
  | zero => intro v2 v3 v4 I h; rw [f_Calendar_pass_10] at h; cases h
  | succ n ih =>
    intro v2 v3 v4 I h 
    rw [f_Calendar_pass_10] at h
    refine xeb 2 (pc' := 13) (ls' := [.ref 37, .ref S1, .int v2, .int v3, .int v4]) (st' := [.int 5, .int v4]) rfl ?_
    by_cases c2 : 5 ≤ v4
    · rw [if_pos c2] at h
      refine xei_ge_t rfl c2 ?_
      refine xeb 3 (pc' := 44) (ls' := [.ref 37, .ref S1, .int v2, .int v3, .int v4]) (st' := [.ref 37, .ref S1, .ref 37]) rfl ?_
      refine xegf2 rfl xsh37 (by decide) rfl ?_
      refine xegf10 rfl xsh17 (by decide) ?_
      obtain ⟨q3, eq3, h⟩ := xbind_some h
      refine xcallV rfl xsh37 rfl rfl rfl (Nat.le_of_ble_eq_true rfl) (Nat.le_of_ble_eq_true rfl) (Nat.le_of_ble_eq_true rfl) rfl (g_Calendar_endDay (d := d + 0) hS1 _ eq3) ?_
      refine xeb 2 (pc' := 2) (ls' := [.ref 37, .ref S1, .int v2, .int (v3 + 1), .int v4]) (st' := []) rfl ?_
      exact hk2 v2 (v3 + 1) q3 h _
    · rw [if_neg c2] at h
      refine xei_ge_f rfl c2 ?_
      refine xeb 2 (pc' := 18) (ls' := [.ref 37, .ref S1, .int v2, .int v3, .int v4]) (st' := [.ref S1, .ref S1]) rfl ?_
      refine xegf10 rfl hS1.1 (by decide) ?_
      refine xeb 1 (pc' := 22) (ls' := [.ref 37, .ref S1, .int v2, .int v3, .int v4]) (st' := [.ref 37, .int (I S1 2), .ref S1]) rfl ?_
      refine xegf2 rfl xsh37 (by decide) rfl ?_
      refine xeb 2 (pc' := 28) (ls' := [.ref 37, .ref S1, .int v2, .int v3, .int v4]) (st' := [.int v4, .ref S1, .ref 32, .int (I S1 2), .ref S1]) rfl ?_
      obtain ⟨q4, eq4, h⟩ := xbind_some h
      refine xcallV rfl xsh32 rfl rfl rfl (Nat.le_of_ble_eq_true rfl) (Nat.le_of_ble_eq_true rfl) (Nat.le_of_ble_eq_true rfl) rfl (g_Rules_taxes (d := d + 0) hS1 _ eq4) ?_
      refine xeb 1 (pc' := 32) (ls' := [.ref 37, .ref S1, .int v2, .int v3, .int v4]) (st' := [.int ((I S1 2) + q4.1), .ref S1]) rfl ?_
      refine xepf10 rfl hS1.1 (by decide) ?_
      obtain ⟨I5, hI5, h⟩ := xst_some h
      rw [← hI5]
      refine xeb 2 (pc' := 10) (ls' := [.ref 37, .ref S1, .int v2, .int v3, .int (v4 + 1)]) (st' := []) rfl ?_
      exact ih v2 v3 (v4 + 1) I5 h
noncomputable def f_Calendar_pass_2 (F : Nat) (S1 : Nat) : Nat → Int32 → Int32 → XI → Option (XI)
  | 0, _, _, _ => none
  | n + 1, v2, v3, I =>
    if v2 ≤ v3 then (some I) else (f_Calendar_pass_10 F S1 (fun v2 v3 I => f_Calendar_pass_2 F S1 n v2 v3 I) F v2 v3 0 I)
theorem g_Calendar_pass_2 {X : XX} {d : Nat} {L : XL} {F : Nat} {S1 : Nat} (hS1 : xisSt S1) {r : XI}  : ∀ (n : Nat) (v2 : Int32) (v3 : Int32) (I : XI), f_Calendar_pass_2 F S1 n v2 v3 I = some r → ∀ (z4 : Value), xEv X (d + 6) 189 2 [.ref 37, .ref S1, .int v2, .int v3, z4] [] I L none r L := by
  intro n
  induction n with
  | zero => intro v2 v3 I h; rw [f_Calendar_pass_2] at h; cases h
  | succ n ih =>
    intro v2 v3 I h z4
    rw [f_Calendar_pass_2] at h
    refine xeb 2 (pc' := 4) (ls' := [.ref 37, .ref S1, .int v2, .int v3, z4]) (st' := [.int v2, .int v3]) rfl ?_
    by_cases c1 : v2 ≤ v3
    · rw [if_pos c1] at h
      refine xei_ge_t rfl c1 ?_
      obtain rfl := Option.some.inj h
      exact xevret rfl
    · rw [if_neg c1] at h
      refine xei_ge_f rfl c1 ?_
      refine xeb 2 (pc' := 10) (ls' := [.ref 37, .ref S1, .int v2, .int v3, .int 0]) (st' := []) rfl ?_
      exact g_Calendar_pass_10 hS1 (fun v2 v3 I h' z4 => ih v2 v3 I h' z4) F v2 v3 0 I h
noncomputable def f_Calendar_pass (F : Nat) (S1 : Nat) (a2 : Int32) (I : XI) : Option (XI) :=
  f_Calendar_pass_2 F S1 F a2 0 I
theorem g_Calendar_pass {X : XX} {d : Nat} {L : XL} {F : Nat} {S1 : Nat} {a2 : Int32} {I : XI} (hS1 : xisSt S1) (r : XI) (h : f_Calendar_pass F S1 a2 I = some r) : xEv X (d + 6) 189 0 [.ref 37, .ref S1, .int a2, .null, .null] [] I L none r L := by
  rw [f_Calendar_pass] at h
  refine xeb 2 (pc' := 2) (ls' := [.ref 37, .ref S1, .int a2, .int 0, .null]) (st' := []) rfl ?_
  exact g_Calendar_pass_2 hS1 F a2 0 I h _
noncomputable def f_H_days_39 (F : Nat) (I : XI) : Option (Int32 × XI) :=
  some ((I 26 1), I)
theorem g_H_days_39 {X : XX} {d : Nat} {L : XL} {F : Nat}  {r : Int32 × XI}  {I : XI} (h : f_H_days_39 F I = some r) (z1 : Value) : xEv X (d + 7) 190 39 [.ref 0, z1] [] I L (some (.int r.1)) r.2 L := by
  rw [f_H_days_39] at h
  refine xeb 1 (pc' := 40) (ls' := [.ref 0, z1]) (st' := [.ref 0]) rfl ?_
  refine xegf2 rfl xsh0 (by decide) rfl ?_
  refine xegf10 rfl xsh26 (by decide) ?_
  obtain rfl := Option.some.inj h
  exact xeiret rfl rfl
noncomputable def f_H_days (F : Nat) (a1 : Int32) (I : XI) : Option (Int32 × XI) :=
  if a1 < 0 then (some ((-1), I)) else (if a1 ≤ 60 then (if a1 ≤ 0 then (f_H_days_39 F I) else ((f_Past_keep 26 I).bind fun q4 => (f_Calendar_pass F 26 a1 q4).bind fun q5 => f_H_days_39 F q5)) else (some ((-1), I)))
theorem g_H_days {X : XX} {d : Nat} {L : XL} {F : Nat} {a1 : Int32} {I : XI}  (r : Int32 × XI) (h : f_H_days F a1 I = some r) : xEv X (d + 7) 190 0 [.ref 0, .int a1] [] I L (some (.int r.1)) r.2 L := by
  rw [f_H_days] at h
  refine xeb 1 (pc' := 1) (ls' := [.ref 0, .int a1]) (st' := [.int a1]) rfl ?_
  by_cases c1 : a1 < 0
  · rw [if_pos c1] at h
    refine xef_lt_t rfl c1 ?_
    refine xeb 1 (pc' := 11) (ls' := [.ref 0, .int a1]) (st' := [.int (-1)]) rfl ?_
    obtain rfl := Option.some.inj h
    exact xeiret rfl rfl
  · rw [if_neg c1] at h
    refine xef_lt_f rfl c1 ?_
    refine xeb 2 (pc' := 7) (ls' := [.ref 0, .int a1]) (st' := [.int 60, .int a1]) rfl ?_
    by_cases c2 : a1 ≤ 60
    · rw [if_pos c2] at h
      refine xei_le_t rfl c2 ?_
      refine xeb 1 (pc' := 13) (ls' := [.ref 0, .int a1]) (st' := [.int a1]) rfl ?_
      by_cases c3 : a1 ≤ 0
      · rw [if_pos c3] at h
        refine xef_le_t rfl c3 ?_
        exact g_H_days_39 h _
      · rw [if_neg c3] at h
        refine xef_le_f rfl c3 ?_
        refine xeb 1 (pc' := 17) (ls' := [.ref 0, .int a1]) (st' := [.ref 0]) rfl ?_
        refine xegf2 rfl xsh0 (by decide) rfl ?_
        refine xeb 1 (pc' := 21) (ls' := [.ref 0, .int a1]) (st' := [.ref 0, .ref 38]) rfl ?_
        refine xegf2 rfl xsh0 (by decide) rfl ?_
        obtain ⟨q4, eq4, h⟩ := xbind_some h
        refine xcallV rfl xsh38 rfl rfl rfl (Nat.le_of_ble_eq_true rfl) (Nat.le_of_ble_eq_true rfl) (Nat.le_of_ble_eq_true rfl) rfl (g_Past_keep (d := d + 5) xis26 _ eq4) ?_
        refine xeb 1 (pc' := 28) (ls' := [.ref 0, .int a1]) (st' := [.ref 0]) rfl ?_
        refine xegf2 rfl xsh0 (by decide) rfl ?_
        refine xeb 1 (pc' := 32) (ls' := [.ref 0, .int a1]) (st' := [.ref 0, .ref 37]) rfl ?_
        refine xegf2 rfl xsh0 (by decide) rfl ?_
        refine xeb 1 (pc' := 36) (ls' := [.ref 0, .int a1]) (st' := [.int a1, .ref 26, .ref 37]) rfl ?_
        obtain ⟨q5, eq5, h⟩ := xbind_some h
        refine xcallV rfl xsh37 rfl rfl rfl (Nat.le_of_ble_eq_true rfl) (Nat.le_of_ble_eq_true rfl) (Nat.le_of_ble_eq_true rfl) rfl (g_Calendar_pass (d := d + 0) xis26 _ eq5) ?_
        exact g_H_days_39 h _
    · rw [if_neg c2] at h
      refine xei_le_f rfl c2 ?_
      refine xeb 1 (pc' := 11) (ls' := [.ref 0, .int a1]) (st' := [.int (-1)]) rfl ?_
      obtain rfl := Option.some.inj h
      exact xeiret rfl rfl
noncomputable def f_M_isLong (a0 : Int32) : Option (Int32) :=
  (f_M_in a0 0 60).bind fun q1 => xck (xnarz q1) (some q1)
theorem g_M_isLong {X : XX} {d : Nat} {I : XI} {L : XL} {a0 : Int32}  (r : Int32) (h : f_M_isLong a0 = some r) : xEv X (d + 1) 191 0 [.int a0] [] I L (some (.int r)) I L := by
  rw [f_M_isLong] at h
  refine xeb 3 (pc' := 4) (ls' := [.int a0]) (st' := [.int 60, .int 0, .int a0]) rfl ?_
  obtain ⟨q1, eq1, h⟩ := xbind_some h
  refine xcallS20 rfl rfl rfl (Nat.le_of_ble_eq_true rfl) (Nat.le_of_ble_eq_true rfl) (Nat.le_of_ble_eq_true rfl) rfl (g_M_in (d := d + 0) _ eq1) ?_
  obtain ⟨b2, h⟩ := xck_some h
  obtain rfl := Option.some.inj h
  exact xeiret rfl b2
noncomputable def f_M_mixed (a0 : Int32) (a1 : Int32) : Option (Int32) :=
  some ((((a0 ^^^ a1) * 1103515245) + 12345) ^^^ (Int32.toUInt32 (((a0 ^^^ a1) * 1103515245) + 12345) >>> (Int32.toUInt32 15 &&& Int32.toUInt32 31)).toInt32)
theorem g_M_mixed {X : XX} {d : Nat} {I : XI} {L : XL} {a0 : Int32} {a1 : Int32}  (r : Int32) (h : f_M_mixed a0 a1 = some r) : xEv X (d + 0) 192 0 [.int a0, .int a1, .null] [] I L (some (.int r)) I L := by
  rw [f_M_mixed] at h
  refine xeb 13 (pc' := 18) (ls' := [.int a0, .int a1, .int (((a0 ^^^ a1) * 1103515245) + 12345)]) (st' := [.int ((((a0 ^^^ a1) * 1103515245) + 12345) ^^^ (Int32.toUInt32 (((a0 ^^^ a1) * 1103515245) + 12345) >>> (Int32.toUInt32 15 &&& Int32.toUInt32 31)).toInt32)]) rfl ?_
  obtain rfl := Option.some.inj h
  exact xeiret rfl rfl
noncomputable def f_M_lotOf (I : XI) (a1 : Int32) : Option (Int32) :=
  (f_M_mixed (I 131 50) 123).bind fun q1 => (f_M_mixed q1 a1).bind fun q2 => some ((Int32.toUInt32 q2 >>> (Int32.toUInt32 1 &&& Int32.toUInt32 31)).toInt32 - (Int32.toUInt32 q2 >>> (Int32.toUInt32 1 &&& Int32.toUInt32 31)).toInt32 / 100 * 100)
theorem g_M_lotOf {X : XX} {d : Nat} {L : XL} {I : XI} {a1 : Int32}  (r : Int32) (h : f_M_lotOf I a1 = some r) : xEv X (d + 1) 193 0 [.ref 131, .int a1] [] I L (some (.int r)) I L := by
  rw [f_M_lotOf] at h
  refine xeb 1 (pc' := 1) (ls' := [.ref 131, .int a1]) (st' := [.ref 131]) rfl ?_
  refine xegf0 rfl xsh131 (by decide) ?_
  refine xeb 1 (pc' := 6) (ls' := [.ref 131, .int a1]) (st' := [.int 123, .int (I 131 50)]) rfl ?_
  obtain ⟨q1, eq1, h⟩ := xbind_some h
  refine xcallS20 rfl rfl rfl (Nat.le_of_ble_eq_true rfl) (Nat.le_of_ble_eq_true rfl) (Nat.le_of_ble_eq_true rfl) rfl (g_M_mixed (d := d + 0) _ eq1) ?_
  refine xeb 1 (pc' := 10) (ls' := [.ref 131, .int a1]) (st' := [.int a1, .int q1]) rfl ?_
  obtain ⟨q2, eq2, h⟩ := xbind_some h
  refine xcallS20 rfl rfl rfl (Nat.le_of_ble_eq_true rfl) (Nat.le_of_ble_eq_true rfl) (Nat.le_of_ble_eq_true rfl) rfl (g_M_mixed (d := d + 0) _ eq2) ?_
  refine xeb 4 (pc' := 18) (ls' := [.ref 131, .int a1]) (st' := [.int ((Int32.toUInt32 q2 >>> (Int32.toUInt32 1 &&& Int32.toUInt32 31)).toInt32 - (Int32.toUInt32 q2 >>> (Int32.toUInt32 1 &&& Int32.toUInt32 31)).toInt32 / 100 * 100)]) rfl ?_
  obtain rfl := Option.some.inj h
  exact xeiret rfl rfl
noncomputable def f_M_isKnock (I : XI) : Option (Int32) :=
  xck (xin 30 33) ((f_M_lotOf I (64 * (I 163 (xN 30)))).bind fun q2 => xck (xin (I 131 18) 2) (xck (xnarz (if (I 148 (xN (I 131 18))) ≤ q2 then 0 else 1)) (some (if (I 148 (xN (I 131 18))) ≤ q2 then 0 else 1))))
theorem g_M_isKnock {X : XX} {d : Nat} {L : XL} {I : XI}  (r : Int32) (h : f_M_isKnock I = some r) : xEv X (d + 2) 194 0 [.ref 131] [] I L (some (.int r)) I L := by
  rw [f_M_isKnock] at h
  refine xeb 3 (pc' := 4) (ls' := [.ref 131]) (st' := [.ref 131, .int 64, .ref 131]) rfl ?_
  refine xegf2 rfl xsh131 (by decide) rfl ?_
  refine xeb 1 (pc' := 9) (ls' := [.ref 131]) (st' := [.int 30, .ref 163, .int 64, .ref 131]) rfl ?_
  obtain ⟨b1, h⟩ := xck_some h
  refine xeia rfl xsh163 b1 ?_
  refine xeb 1 (pc' := 11) (ls' := [.ref 131]) (st' := [.int (64 * (I 163 (xN 30))), .ref 131]) rfl ?_
  obtain ⟨q2, eq2, h⟩ := xbind_some h
  refine xcallV rfl xsh131 rfl rfl rfl (Nat.le_of_ble_eq_true rfl) (Nat.le_of_ble_eq_true rfl) (Nat.le_of_ble_eq_true rfl) rfl (g_M_lotOf (d := d + 0) _ eq2) ?_
  refine xeb 1 (pc' := 15) (ls' := [.ref 131]) (st' := [.ref 131, .int q2]) rfl ?_
  refine xegf2 rfl xsh131 (by decide) rfl ?_
  refine xeb 1 (pc' := 19) (ls' := [.ref 131]) (st' := [.ref 131, .ref 148, .int q2]) rfl ?_
  refine xegf0 rfl xsh131 (by decide) ?_
  obtain ⟨b3, h⟩ := xck_some h
  refine xeia rfl xsh148 b3 ?_
  have hj : xEv X (d + 2) 194 31 [.ref 131] [.int (if (I 148 (xN (I 131 18))) ≤ q2 then 0 else 1)] I L (some (.int r)) I L := by
    obtain ⟨b5, h⟩ := xck_some h
    obtain rfl := Option.some.inj h
    exact xeiret rfl b5
  by_cases c4 : (I 148 (xN (I 131 18))) ≤ q2
  · simp only [if_pos c4] at hj
    refine xei_ge_t rfl c4 ?_
    exact xeb 1 rfl hj
  · simp only [if_neg c4] at hj
    refine xei_ge_f rfl c4 ?_
    exact xeb 2 rfl hj
noncomputable def f_M_dayGoes_106 (F : Nat) : Nat → Int32 → XI → Option (XI)
  | 0, _, _ => none
  | n + 1, v2, I =>
    if 30 ≤ v2 then (xck (xin 30 33) (xck (xin 30 33) (xst (xput I 163 (xN 30) ((I 163 (xN 30)) + 1)) fun I7 => some I7))) else (xck (xin v2 30) (if (I 165 (xN v2)) = 0 then (f_M_dayGoes_106 F n (v2 + 1) I) else (xck (xin v2 33) (xst (xput I 163 (xN v2) 0) fun I11 => xck (xin 32 33) (xck (xin 32 33) (xst (xput I11 163 (xN 32) ((I11 163 (xN 32)) + 1)) fun I14 => f_M_dayGoes_106 F n (v2 + 1) I14))))))
theorem g_M_dayGoes_106 {X : XX} {d : Nat} {L : XL} {F : Nat}  {r : XI}  : ∀ (n : Nat) (v2 : Int32) (I : XI), f_M_dayGoes_106 F n v2 I = some r → ∀ (z1 : Value), xEv X (d + 7) 195 106 [.ref 131, z1, .int v2] [] I L none r L := by
  intro n
  induction n with
  | zero => intro v2 I h; rw [f_M_dayGoes_106] at h; cases h
  | succ n ih =>
    intro v2 I h z1
    rw [f_M_dayGoes_106] at h
    refine xeb 2 (pc' := 109) (ls' := [.ref 131, z1, .int v2]) (st' := [.int 30, .int v2]) rfl ?_
    by_cases c4 : 30 ≤ v2
    · rw [if_pos c4] at h
      refine xei_ge_t rfl c4 ?_
      refine xeb 1 (pc' := 149) (ls' := [.ref 131, z1, .int v2]) (st' := [.ref 131]) rfl ?_
      refine xegf2 rfl xsh131 (by decide) rfl ?_
      refine xeb 2 (pc' := 155) (ls' := [.ref 131, z1, .int v2]) (st' := [.int 30, .ref 163, .int 30, .ref 163]) rfl ?_
      obtain ⟨b5, h⟩ := xck_some h
      refine xeia rfl xsh163 b5 ?_
      refine xeb 2 (pc' := 158) (ls' := [.ref 131, z1, .int v2]) (st' := [.int ((I 163 (xN 30)) + 1), .int 30, .ref 163]) rfl ?_
      obtain ⟨b6, h⟩ := xck_some h
      refine xeis rfl xsh163 b6 ?_
      obtain ⟨I7, hI7, h⟩ := xst_some h
      rw [← hI7]
      obtain rfl := Option.some.inj h
      exact xevret rfl
    · rw [if_neg c4] at h
      refine xei_ge_f rfl c4 ?_
      refine xeb 1 (pc' := 113) (ls' := [.ref 131, z1, .int v2]) (st' := [.ref 131]) rfl ?_
      refine xegf2 rfl xsh131 (by decide) rfl ?_
      refine xeb 1 (pc' := 117) (ls' := [.ref 131, z1, .int v2]) (st' := [.int v2, .ref 165]) rfl ?_
      obtain ⟨b8, h⟩ := xck_some h
      refine xeza rfl xsh165 b8 ?_
      by_cases c9 : (I 165 (xN v2)) = 0
      · rw [if_pos c9] at h
        refine xef_ne_t rfl c9 ?_
        refine xeb 3 (pc' := 106) (ls' := [.ref 131, (xkv z1), .int (v2 + 1)]) (st' := []) rfl ?_
        exact ih (v2 + 1) I h _
      · rw [if_neg c9] at h
        refine xef_ne_f rfl c9 ?_
        refine xeb 1 (pc' := 125) (ls' := [.ref 131, z1, .int v2]) (st' := [.ref 131]) rfl ?_
        refine xegf2 rfl xsh131 (by decide) rfl ?_
        refine xeb 2 (pc' := 130) (ls' := [.ref 131, z1, .int v2]) (st' := [.int 0, .int v2, .ref 163]) rfl ?_
        obtain ⟨b10, h⟩ := xck_some h
        refine xeis rfl xsh163 b10 ?_
        obtain ⟨I11, hI11, h⟩ := xst_some h
        rw [← hI11]
        refine xeb 1 (pc' := 132) (ls' := [.ref 131, z1, .int v2]) (st' := [.ref 131]) rfl ?_
        refine xegf2 rfl xsh131 (by decide) rfl ?_
        refine xeb 2 (pc' := 138) (ls' := [.ref 131, z1, .int v2]) (st' := [.int 32, .ref 163, .int 32, .ref 163]) rfl ?_
        obtain ⟨b12, h⟩ := xck_some h
        refine xeia rfl xsh163 b12 ?_
        refine xeb 2 (pc' := 141) (ls' := [.ref 131, z1, .int v2]) (st' := [.int ((I11 163 (xN 32)) + 1), .int 32, .ref 163]) rfl ?_
        obtain ⟨b13, h⟩ := xck_some h
        refine xeis rfl xsh163 b13 ?_
        obtain ⟨I14, hI14, h⟩ := xst_some h
        rw [← hI14]
        refine xeb 2 (pc' := 106) (ls' := [.ref 131, (xkv z1), .int (v2 + 1)]) (st' := []) rfl ?_
        exact ih (v2 + 1) I14 h _
noncomputable def f_M_dayGoes_97 (F : Nat) (k35 : Int32 → Int32 → XI → Option (XI)) (v1 : Int32) (v2 : Int32) (s1 : Int32) (s2 : Int32) (I : XI) : Option (XI) :=
  xck (xin s1 30) (xst (xput I 165 (xN s1) (s2 &&& 1)) fun I17 => k35 v1 (v2 + 1) I17)
theorem g_M_dayGoes_97 {X : XX} {d : Nat} {L : XL} {F : Nat} {k35 : Int32 → Int32 → XI → Option (XI)}  {r : XI} (hk35 : ∀ (v1 : Int32) (v2 : Int32) (I : XI), k35 v1 v2 I = some r → xEv X (d + 7) 195 35 [.ref 131, .int v1, .int v2] [] I L none r L) {v1 : Int32} {v2 : Int32} {s1 : Int32} {s2 : Int32} {I : XI} (h : f_M_dayGoes_97 F k35 v1 v2 s1 s2 I = some r)  : xEv X (d + 7) 195 97 [.ref 131, .int v1, .int v2] [.int s2, .int s1, .ref 165] I L none r L := by
  rw [f_M_dayGoes_97] at h
  obtain ⟨b16, h⟩ := xck_some h
  refine xezs rfl xsh165 b16 ?_
  obtain ⟨I17, hI17, h⟩ := xst_some h
  rw [← hI17]
  refine xeb 2 (pc' := 35) (ls' := [.ref 131, .int v1, .int (v2 + 1)]) (st' := []) rfl ?_
  exact hk35 v1 (v2 + 1) I17 h
noncomputable def f_M_dayGoes_35 (F : Nat) : Nat → Int32 → Int32 → XI → Option (XI)
  | 0, _, _, _ => none
  | n + 1, v1, v2, I =>
    if 30 ≤ v2 then (f_M_dayGoes_106 F F 0 I) else (if v1 = 0 then (f_M_dayGoes_97 F (fun v1 v2 I => f_M_dayGoes_35 F n v1 v2 I) v1 v2 v2 0 I) else ((f_M_isThere I v2).bind fun q18 => if q18 = 0 then (f_M_dayGoes_97 F (fun v1 v2 I => f_M_dayGoes_35 F n v1 v2 I) v1 v2 v2 0 I) else ((f_M_doesLie I v2).bind fun q20 => if q20 = 0 then (f_M_dayGoes_97 F (fun v1 v2 I => f_M_dayGoes_35 F n v1 v2 I) v1 v2 v2 0 I) else (xck (xin 30 33) ((f_M_lotOf I (((64 * (I 163 (xN 30))) + 1) + v2)).bind fun q23 => (f_M_fallsAt F v2 I).bind fun q24 => f_M_dayGoes_97 F (fun v1 v2 I => f_M_dayGoes_35 F n v1 v2 I) v1 v2 v2 (if q24.1 ≤ q23 then 0 else 1) q24.2)))))
theorem g_M_dayGoes_35 {X : XX} {d : Nat} {L : XL} {F : Nat}  {r : XI}  : ∀ (n : Nat) (v1 : Int32) (v2 : Int32) (I : XI), f_M_dayGoes_35 F n v1 v2 I = some r → xEv X (d + 7) 195 35 [.ref 131, .int v1, .int v2] [] I L none r L := by
  intro n
  induction n with
  | zero => intro v1 v2 I h; rw [f_M_dayGoes_35] at h; cases h
  | succ n ih =>
    intro v1 v2 I h 
    rw [f_M_dayGoes_35] at h
    refine xeb 2 (pc' := 38) (ls' := [.ref 131, .int v1, .int v2]) (st' := [.int 30, .int v2]) rfl ?_
    by_cases c3 : 30 ≤ v2
    · rw [if_pos c3] at h
      refine xei_ge_t rfl c3 ?_
      refine xeb 2 (pc' := 106) (ls' := [.ref 131, .int v1, .int 0]) (st' := []) rfl ?_
      exact g_M_dayGoes_106 F 0 I h _
    · rw [if_neg c3] at h
      refine xei_ge_f rfl c3 ?_
      refine xeb 1 (pc' := 42) (ls' := [.ref 131, .int v1, .int v2]) (st' := [.ref 131]) rfl ?_
      refine xegf2 rfl xsh131 (by decide) rfl ?_
      refine xeb 2 (pc' := 47) (ls' := [.ref 131, .int v1, .int v2]) (st' := [.int v1, .int v2, .ref 165]) rfl ?_
      by_cases c15 : v1 = 0
      · rw [if_pos c15] at h
        refine xef_eq_t rfl c15 ?_
        refine xeb 1 (pc' := 97) (ls' := [.ref 131, .int v1, .int v2]) (st' := [.int 0, .int v2, .ref 165]) rfl ?_
        exact g_M_dayGoes_97 (fun v1 v2 I h' => ih v1 v2 I h' ) h
      · rw [if_neg c15] at h
        refine xef_eq_f rfl c15 ?_
        refine xeb 2 (pc' := 52) (ls' := [.ref 131, .int v1, .int v2]) (st' := [.int v2, .ref 131, .int v2, .ref 165]) rfl ?_
        obtain ⟨q18, eq18, h⟩ := xbind_some h
        refine xcallV rfl xsh131 rfl rfl rfl (Nat.le_of_ble_eq_true rfl) (Nat.le_of_ble_eq_true rfl) (Nat.le_of_ble_eq_true rfl) rfl (g_M_isThere (d := d + 4) _ eq18) ?_
        by_cases c19 : q18 = 0
        · rw [if_pos c19] at h
          refine xef_eq_t rfl c19 ?_
          refine xeb 1 (pc' := 97) (ls' := [.ref 131, .int v1, .int v2]) (st' := [.int 0, .int v2, .ref 165]) rfl ?_
          exact g_M_dayGoes_97 (fun v1 v2 I h' => ih v1 v2 I h' ) h
        · rw [if_neg c19] at h
          refine xef_eq_f rfl c19 ?_
          refine xeb 2 (pc' := 60) (ls' := [.ref 131, .int v1, .int v2]) (st' := [.int v2, .ref 131, .int v2, .ref 165]) rfl ?_
          obtain ⟨q20, eq20, h⟩ := xbind_some h
          refine xcallV rfl xsh131 rfl rfl rfl (Nat.le_of_ble_eq_true rfl) (Nat.le_of_ble_eq_true rfl) (Nat.le_of_ble_eq_true rfl) rfl (g_M_doesLie (d := d + 6) _ eq20) ?_
          by_cases c21 : q20 = 0
          · rw [if_pos c21] at h
            refine xef_eq_t rfl c21 ?_
            refine xeb 1 (pc' := 97) (ls' := [.ref 131, .int v1, .int v2]) (st' := [.int 0, .int v2, .ref 165]) rfl ?_
            exact g_M_dayGoes_97 (fun v1 v2 I h' => ih v1 v2 I h' ) h
          · rw [if_neg c21] at h
            refine xef_eq_f rfl c21 ?_
            refine xeb 3 (pc' := 70) (ls' := [.ref 131, .int v1, .int v2]) (st' := [.ref 131, .int 64, .ref 131, .int v2, .ref 165]) rfl ?_
            refine xegf2 rfl xsh131 (by decide) rfl ?_
            refine xeb 1 (pc' := 75) (ls' := [.ref 131, .int v1, .int v2]) (st' := [.int 30, .ref 163, .int 64, .ref 131, .int v2, .ref 165]) rfl ?_
            obtain ⟨b22, h⟩ := xck_some h
            refine xeia rfl xsh163 b22 ?_
            refine xeb 5 (pc' := 81) (ls' := [.ref 131, .int v1, .int v2]) (st' := [.int (((64 * (I 163 (xN 30))) + 1) + v2), .ref 131, .int v2, .ref 165]) rfl ?_
            obtain ⟨q23, eq23, h⟩ := xbind_some h
            refine xcallV rfl xsh131 rfl rfl rfl (Nat.le_of_ble_eq_true rfl) (Nat.le_of_ble_eq_true rfl) (Nat.le_of_ble_eq_true rfl) rfl (g_M_lotOf (d := d + 5) _ eq23) ?_
            refine xeb 2 (pc' := 86) (ls' := [.ref 131, .int v1, .int v2]) (st' := [.int v2, .ref 131, .int q23, .int v2, .ref 165]) rfl ?_
            obtain ⟨q24, eq24, h⟩ := xbind_some h
            refine xcallV rfl xsh131 rfl rfl rfl (Nat.le_of_ble_eq_true rfl) (Nat.le_of_ble_eq_true rfl) (Nat.le_of_ble_eq_true rfl) rfl (g_M_fallsAt (d := d + 0) _ eq24) ?_
            have hj : xEv X (d + 7) 195 97 [.ref 131, .int v1, .int v2] [.int (if q24.1 ≤ q23 then 0 else 1), .int v2, .ref 165] q24.2 L none r L := by
              exact g_M_dayGoes_97 (fun v1 v2 I h' => ih v1 v2 I h' ) h
            by_cases c25 : q24.1 ≤ q23
            · simp only [if_pos c25] at hj
              refine xei_ge_t rfl c25 ?_
              exact xeb 1 rfl hj
            · simp only [if_neg c25] at hj
              refine xei_ge_f rfl c25 ?_
              exact xeb 2 rfl hj
noncomputable def f_M_dayGoes_2 (F : Nat) : Nat → Int32 → XI → Option (XI)
  | 0, _, _ => none
  | n + 1, v1, I =>
    if 5 ≤ v1 then ((f_M_isKnock I).bind fun q2 => f_M_dayGoes_35 F F q2 0 I) else (xck (xin 31 33) ((f_M_taxOf F v1 I).bind fun q27 => xck (xin 31 33) (xst (xput q27.2 163 (xN 31) ((I 163 (xN 31)) + q27.1)) fun I29 => f_M_dayGoes_2 F n (v1 + 1) I29)))
theorem g_M_dayGoes_2 {X : XX} {d : Nat} {L : XL} {F : Nat}  {r : XI}  : ∀ (n : Nat) (v1 : Int32) (I : XI), f_M_dayGoes_2 F n v1 I = some r → ∀ (z2 : Value), xEv X (d + 7) 195 2 [.ref 131, .int v1, z2] [] I L none r L := by
  intro n
  induction n with
  | zero => intro v1 I h; rw [f_M_dayGoes_2] at h; cases h
  | succ n ih =>
    intro v1 I h z2
    rw [f_M_dayGoes_2] at h
    refine xeb 2 (pc' := 4) (ls' := [.ref 131, .int v1, z2]) (st' := [.int 5, .int v1]) rfl ?_
    by_cases c1 : 5 ≤ v1
    · rw [if_pos c1] at h
      refine xei_ge_t rfl c1 ?_
      refine xeb 1 (pc' := 29) (ls' := [.ref 131, .int v1, z2]) (st' := [.ref 131]) rfl ?_
      obtain ⟨q2, eq2, h⟩ := xbind_some h
      refine xcallV rfl xsh131 rfl rfl rfl (Nat.le_of_ble_eq_true rfl) (Nat.le_of_ble_eq_true rfl) (Nat.le_of_ble_eq_true rfl) rfl (g_M_isKnock (d := d + 4) _ eq2) ?_
      refine xeb 3 (pc' := 35) (ls' := [.ref 131, .int q2, .int 0]) (st' := []) rfl ?_
      exact g_M_dayGoes_35 F q2 0 I h
    · rw [if_neg c1] at h
      refine xei_ge_f rfl c1 ?_
      refine xeb 1 (pc' := 8) (ls' := [.ref 131, .int v1, z2]) (st' := [.ref 131]) rfl ?_
      refine xegf2 rfl xsh131 (by decide) rfl ?_
      refine xeb 2 (pc' := 14) (ls' := [.ref 131, .int v1, z2]) (st' := [.int 31, .ref 163, .int 31, .ref 163]) rfl ?_
      obtain ⟨b26, h⟩ := xck_some h
      refine xeia rfl xsh163 b26 ?_
      refine xeb 2 (pc' := 17) (ls' := [.ref 131, .int v1, z2]) (st' := [.int v1, .ref 131, .int (I 163 (xN 31)), .int 31, .ref 163]) rfl ?_
      obtain ⟨q27, eq27, h⟩ := xbind_some h
      refine xcallV rfl xsh131 rfl rfl rfl (Nat.le_of_ble_eq_true rfl) (Nat.le_of_ble_eq_true rfl) (Nat.le_of_ble_eq_true rfl) rfl (g_M_taxOf (d := d + 0) _ eq27) ?_
      refine xeb 1 (pc' := 21) (ls' := [.ref 131, .int v1, z2]) (st' := [.int ((I 163 (xN 31)) + q27.1), .int 31, .ref 163]) rfl ?_
      obtain ⟨b28, h⟩ := xck_some h
      refine xeis rfl xsh163 b28 ?_
      obtain ⟨I29, hI29, h⟩ := xst_some h
      rw [← hI29]
      refine xeb 2 (pc' := 2) (ls' := [.ref 131, .int (v1 + 1), z2]) (st' := []) rfl ?_
      exact ih (v1 + 1) I29 h _
noncomputable def f_M_dayGoes (F : Nat) (I : XI) : Option (XI) :=
  f_M_dayGoes_2 F F 0 I
theorem g_M_dayGoes {X : XX} {d : Nat} {L : XL} {F : Nat} {I : XI}  (r : XI) (h : f_M_dayGoes F I = some r) : xEv X (d + 7) 195 0 [.ref 131, .null, .null] [] I L none r L := by
  rw [f_M_dayGoes] at h
  refine xeb 2 (pc' := 2) (ls' := [.ref 131, .int 0, .null]) (st' := []) rfl ?_
  exact g_M_dayGoes_2 F 0 I h _
noncomputable def f_M_goes_2 (F : Nat) : Nat → Int32 → Int32 → XI → Option (XI)
  | 0, _, _, _ => none
  | n + 1, v1, v2, I =>
    if v1 ≤ v2 then (some I) else ((f_M_dayGoes F I).bind fun q2 => f_M_goes_2 F n v1 (v2 + 1) q2)
theorem g_M_goes_2 {X : XX} {d : Nat} {L : XL} {F : Nat}  {r : XI}  : ∀ (n : Nat) (v1 : Int32) (v2 : Int32) (I : XI), f_M_goes_2 F n v1 v2 I = some r → xEv X (d + 8) 196 2 [.ref 131, .int v1, .int v2] [] I L none r L := by
  intro n
  induction n with
  | zero => intro v1 v2 I h; rw [f_M_goes_2] at h; cases h
  | succ n ih =>
    intro v1 v2 I h 
    rw [f_M_goes_2] at h
    refine xeb 2 (pc' := 4) (ls' := [.ref 131, .int v1, .int v2]) (st' := [.int v1, .int v2]) rfl ?_
    by_cases c1 : v1 ≤ v2
    · rw [if_pos c1] at h
      refine xei_ge_t rfl c1 ?_
      obtain rfl := Option.some.inj h
      exact xevret rfl
    · rw [if_neg c1] at h
      refine xei_ge_f rfl c1 ?_
      refine xeb 1 (pc' := 8) (ls' := [.ref 131, .int v1, .int v2]) (st' := [.ref 131]) rfl ?_
      obtain ⟨q2, eq2, h⟩ := xbind_some h
      refine xcallV rfl xsh131 rfl rfl rfl (Nat.le_of_ble_eq_true rfl) (Nat.le_of_ble_eq_true rfl) (Nat.le_of_ble_eq_true rfl) rfl (g_M_dayGoes (d := d + 0) _ eq2) ?_
      refine xeb 2 (pc' := 2) (ls' := [.ref 131, .int v1, .int (v2 + 1)]) (st' := []) rfl ?_
      exact ih v1 (v2 + 1) q2 h
noncomputable def f_M_goes (F : Nat) (a1 : Int32) (I : XI) : Option (XI) :=
  f_M_goes_2 F F a1 0 I
theorem g_M_goes {X : XX} {d : Nat} {L : XL} {F : Nat} {a1 : Int32} {I : XI}  (r : XI) (h : f_M_goes F a1 I = some r) : xEv X (d + 8) 196 0 [.ref 131, .int a1, .null] [] I L none r L := by
  rw [f_M_goes] at h
  refine xeb 2 (pc' := 2) (ls' := [.ref 131, .int a1, .int 0]) (st' := []) rfl ?_
  exact g_M_goes_2 F a1 0 I h
noncomputable def f_M_days (F : Nat) (a1 : Int32) (I : XI) : Option (Int32 × XI) :=
  (f_M_isLong a1).bind fun q1 => if q1 = 0 then (some ((-1), I)) else (if a1 = 0 then (xck (xin 30 33) (some ((I 162 (xN 30)), I))) else ((f_M_copies F I).bind fun q5 => (f_M_goes F a1 q5).bind fun q6 => (f_M_records F q6).bind fun q7 => xck (xin 30 33) (some ((q7 162 (xN 30)), q7))))
theorem g_M_days {X : XX} {d : Nat} {L : XL} {F : Nat} {a1 : Int32} {I : XI}  (r : Int32 × XI) (h : f_M_days F a1 I = some r) : xEv X (d + 9) 197 0 [.ref 131, .int a1] [] I L (some (.int r.1)) r.2 L := by
  rw [f_M_days] at h
  refine xeb 1 (pc' := 1) (ls' := [.ref 131, .int a1]) (st' := [.int a1]) rfl ?_
  obtain ⟨q1, eq1, h⟩ := xbind_some h
  refine xcallS20 rfl rfl rfl (Nat.le_of_ble_eq_true rfl) (Nat.le_of_ble_eq_true rfl) (Nat.le_of_ble_eq_true rfl) rfl (g_M_isLong (d := d + 7) _ eq1) ?_
  by_cases c2 : q1 = 0
  · rw [if_pos c2] at h
    refine xef_ne_t rfl c2 ?_
    refine xeb 1 (pc' := 8) (ls' := [.ref 131, .int a1]) (st' := [.int (-1)]) rfl ?_
    obtain rfl := Option.some.inj h
    exact xeiret rfl rfl
  · rw [if_neg c2] at h
    refine xef_ne_f rfl c2 ?_
    refine xeb 1 (pc' := 10) (ls' := [.ref 131, .int a1]) (st' := [.int a1]) rfl ?_
    by_cases c3 : a1 = 0
    · rw [if_pos c3] at h
      refine xef_ne_t rfl c3 ?_
      refine xeb 1 (pc' := 14) (ls' := [.ref 131, .int a1]) (st' := [.ref 131]) rfl ?_
      refine xegf2 rfl xsh131 (by decide) rfl ?_
      refine xeb 1 (pc' := 19) (ls' := [.ref 131, .int a1]) (st' := [.int 30, .ref 162]) rfl ?_
      obtain ⟨b4, h⟩ := xck_some h
      refine xeia rfl xsh162 b4 ?_
      obtain rfl := Option.some.inj h
      exact xeiret rfl rfl
    · rw [if_neg c3] at h
      refine xef_ne_f rfl c3 ?_
      refine xeb 1 (pc' := 22) (ls' := [.ref 131, .int a1]) (st' := [.ref 131]) rfl ?_
      obtain ⟨q5, eq5, h⟩ := xbind_some h
      refine xcallV rfl xsh131 rfl rfl rfl (Nat.le_of_ble_eq_true rfl) (Nat.le_of_ble_eq_true rfl) (Nat.le_of_ble_eq_true rfl) rfl (g_M_copies (d := d + 8) _ eq5) ?_
      refine xeb 2 (pc' := 27) (ls' := [.ref 131, .int a1]) (st' := [.int a1, .ref 131]) rfl ?_
      obtain ⟨q6, eq6, h⟩ := xbind_some h
      refine xcallV rfl xsh131 rfl rfl rfl (Nat.le_of_ble_eq_true rfl) (Nat.le_of_ble_eq_true rfl) (Nat.le_of_ble_eq_true rfl) rfl (g_M_goes (d := d + 0) _ eq6) ?_
      refine xeb 1 (pc' := 31) (ls' := [.ref 131, .int a1]) (st' := [.ref 131]) rfl ?_
      obtain ⟨q7, eq7, h⟩ := xbind_some h
      refine xcallV rfl xsh131 rfl rfl rfl (Nat.le_of_ble_eq_true rfl) (Nat.le_of_ble_eq_true rfl) (Nat.le_of_ble_eq_true rfl) rfl (g_M_records (d := d + 7) _ eq7) ?_
      refine xeb 1 (pc' := 35) (ls' := [.ref 131, .int a1]) (st' := [.ref 131]) rfl ?_
      refine xegf2 rfl xsh131 (by decide) rfl ?_
      refine xeb 1 (pc' := 40) (ls' := [.ref 131, .int a1]) (st' := [.int 30, .ref 162]) rfl ?_
      obtain ⟨b8, h⟩ := xck_some h
      refine xeia rfl xsh162 b8 ?_
      obtain rfl := Option.some.inj h
      exact xeiret rfl rfl
noncomputable def f_Past_goBack (S1 : Nat) (I : XI) : Option (Int32 × XI) :=
  if (I 38 1) = 0 then (some (0, I)) else (xst (xput I 38 1 ((I 38 1) - 1)) fun I2 => xst (xput I2 38 2 ((((I2 38 2) + 40) - 1) - (((I2 38 2) + 40) - 1) / 40 * 40)) fun I3 => xck (xin (I3 38 2) 40) ((xrf 39 (xN (I3 38 2))).bind fun R5 => (f_State_copyFrom S1 R5 I3).bind fun q6 => some (1, q6)))
theorem g_Past_goBack {X : XX} {d : Nat} {L : XL} {S1 : Nat} {I : XI} (hS1 : xisSt S1) (r : Int32 × XI) (h : f_Past_goBack S1 I = some r) : xEv X (d + 1) 198 0 [.ref 38, .ref S1] [] I L (some (.int r.1)) r.2 L := by
  rw [f_Past_goBack] at h
  refine xeb 1 (pc' := 1) (ls' := [.ref 38, .ref S1]) (st' := [.ref 38]) rfl ?_
  refine xegf0 rfl xsh38 (by decide) ?_
  by_cases c1 : (I 38 1) = 0
  · rw [if_pos c1] at h
    refine xef_ne_t rfl c1 ?_
    refine xeb 1 (pc' := 8) (ls' := [.ref 38, .ref S1]) (st' := [.int 0]) rfl ?_
    obtain rfl := Option.some.inj h
    exact xeiret rfl rfl
  · rw [if_neg c1] at h
    refine xef_ne_f rfl c1 ?_
    refine xeb 2 (pc' := 11) (ls' := [.ref 38, .ref S1]) (st' := [.ref 38, .ref 38]) rfl ?_
    refine xegf0 rfl xsh38 (by decide) ?_
    refine xeb 2 (pc' := 16) (ls' := [.ref 38, .ref S1]) (st' := [.int ((I 38 1) - 1), .ref 38]) rfl ?_
    refine xepf0 rfl xsh38 (by decide) ?_
    obtain ⟨I2, hI2, h⟩ := xst_some h
    rw [← hI2]
    refine xeb 2 (pc' := 21) (ls' := [.ref 38, .ref S1]) (st' := [.ref 38, .ref 38]) rfl ?_
    refine xegf0 rfl xsh38 (by decide) ?_
    refine xeb 6 (pc' := 32) (ls' := [.ref 38, .ref S1]) (st' := [.int ((((I2 38 2) + 40) - 1) - (((I2 38 2) + 40) - 1) / 40 * 40), .ref 38]) rfl ?_
    refine xepf0 rfl xsh38 (by decide) ?_
    obtain ⟨I3, hI3, h⟩ := xst_some h
    rw [← hI3]
    refine xeb 2 (pc' := 37) (ls' := [.ref 38, .ref S1]) (st' := [.ref 38, .ref S1]) rfl ?_
    refine xegf2 rfl xsh38 (by decide) rfl ?_
    refine xeb 1 (pc' := 41) (ls' := [.ref 38, .ref S1]) (st' := [.ref 38, .ref 39, .ref S1]) rfl ?_
    refine xegf0 rfl xsh38 (by decide) ?_
    obtain ⟨b4, h⟩ := xck_some h
    obtain ⟨R5, eR5, h⟩ := xbind_some h
    refine xeaa rfl xsh39 b4 eR5 ?_
    obtain ⟨q6, eq6, h⟩ := xbind_some h
    refine xcallV rfl hS1.1 rfl rfl rfl (Nat.le_of_ble_eq_true rfl) (Nat.le_of_ble_eq_true rfl) (Nat.le_of_ble_eq_true rfl) rfl (g_State_copyFrom (d := d + 0) hS1 (xisA39 eR5) _ eq6) ?_
    refine xeb 1 (pc' := 49) (ls' := [.ref 38, .ref S1]) (st' := [.int 1]) rfl ?_
    obtain rfl := Option.some.inj h
    exact xeiret rfl rfl
noncomputable def f_H_undo (I : XI) : Option (Int32 × XI) :=
  (f_Past_goBack 26 I).bind fun q1 => xck (xnarz q1.1) (some (q1.1, q1.2))
theorem g_H_undo {X : XX} {d : Nat} {L : XL} {I : XI}  (r : Int32 × XI) (h : f_H_undo I = some r) : xEv X (d + 2) 199 0 [.ref 0] [] I L (some (.int r.1)) r.2 L := by
  rw [f_H_undo] at h
  refine xeb 1 (pc' := 1) (ls' := [.ref 0]) (st' := [.ref 0]) rfl ?_
  refine xegf2 rfl xsh0 (by decide) rfl ?_
  refine xeb 1 (pc' := 5) (ls' := [.ref 0]) (st' := [.ref 0, .ref 38]) rfl ?_
  refine xegf2 rfl xsh0 (by decide) rfl ?_
  obtain ⟨q1, eq1, h⟩ := xbind_some h
  refine xcallV rfl xsh38 rfl rfl rfl (Nat.le_of_ble_eq_true rfl) (Nat.le_of_ble_eq_true rfl) (Nat.le_of_ble_eq_true rfl) rfl (g_Past_goBack (d := d + 0) xis26 _ eq1) ?_
  obtain ⟨b2, h⟩ := xck_some h
  obtain rfl := Option.some.inj h
  exact xeiret rfl b2
noncomputable def f_M_undo_21 (F : Nat) : Nat → Int32 → XI → Option (Int32 × XI)
  | 0, _, _ => none
  | n + 1, v1, I =>
    if 33 ≤ v1 then (some (1, I)) else (xck (xin ((33 * (I 131 54)) + v1) 1320) (xck (xin v1 33) (xst (xput I 162 (xN v1) (I 166 (xN ((33 * (I 131 54)) + v1)))) fun I6 => f_M_undo_21 F n (v1 + 1) I6)))
theorem g_M_undo_21 {X : XX} {d : Nat} {L : XL} {F : Nat}  {r : Int32 × XI}  : ∀ (n : Nat) (v1 : Int32) (I : XI), f_M_undo_21 F n v1 I = some r → xEv X (d + 0) 200 21 [.ref 131, .int v1] [] I L (some (.int r.1)) r.2 L := by
  intro n
  induction n with
  | zero => intro v1 I h; rw [f_M_undo_21] at h; cases h
  | succ n ih =>
    intro v1 I h 
    rw [f_M_undo_21] at h
    refine xeb 2 (pc' := 24) (ls' := [.ref 131, .int v1]) (st' := [.int 33, .int v1]) rfl ?_
    by_cases c3 : 33 ≤ v1
    · rw [if_pos c3] at h
      refine xei_ge_t rfl c3 ?_
      refine xeb 1 (pc' := 54) (ls' := [.ref 131, .int v1]) (st' := [.int 1]) rfl ?_
      obtain rfl := Option.some.inj h
      exact xeiret rfl rfl
    · rw [if_neg c3] at h
      refine xei_ge_f rfl c3 ?_
      refine xeb 1 (pc' := 28) (ls' := [.ref 131, .int v1]) (st' := [.ref 131]) rfl ?_
      refine xegf2 rfl xsh131 (by decide) rfl ?_
      refine xeb 2 (pc' := 33) (ls' := [.ref 131, .int v1]) (st' := [.ref 131, .int v1, .ref 162]) rfl ?_
      refine xegf2 rfl xsh131 (by decide) rfl ?_
      refine xeb 2 (pc' := 39) (ls' := [.ref 131, .int v1]) (st' := [.ref 131, .int 33, .ref 166, .int v1, .ref 162]) rfl ?_
      refine xegf0 rfl xsh131 (by decide) ?_
      refine xeb 3 (pc' := 45) (ls' := [.ref 131, .int v1]) (st' := [.int ((33 * (I 131 54)) + v1), .ref 166, .int v1, .ref 162]) rfl ?_
      obtain ⟨b4, h⟩ := xck_some h
      refine xeia rfl xsh166 b4 ?_
      obtain ⟨b5, h⟩ := xck_some h
      refine xeis rfl xsh162 b5 ?_
      obtain ⟨I6, hI6, h⟩ := xst_some h
      rw [← hI6]
      refine xeb 2 (pc' := 21) (ls' := [.ref 131, .int (v1 + 1)]) (st' := []) rfl ?_
      exact ih (v1 + 1) I6 h
noncomputable def f_M_undo (F : Nat) (I : XI) : Option (Int32 × XI) :=
  if (I 131 54) = 0 then (some (0, I)) else (xst (xput I 131 54 ((I 131 54) - 1)) fun I2 => f_M_undo_21 F F 0 I2)
theorem g_M_undo {X : XX} {d : Nat} {L : XL} {F : Nat} {I : XI}  (r : Int32 × XI) (h : f_M_undo F I = some r) : xEv X (d + 0) 200 0 [.ref 131, .null] [] I L (some (.int r.1)) r.2 L := by
  rw [f_M_undo] at h
  refine xeb 1 (pc' := 1) (ls' := [.ref 131, .null]) (st' := [.ref 131]) rfl ?_
  refine xegf0 rfl xsh131 (by decide) ?_
  by_cases c1 : (I 131 54) = 0
  · rw [if_pos c1] at h
    refine xef_ne_t rfl c1 ?_
    refine xeb 1 (pc' := 8) (ls' := [.ref 131, .null]) (st' := [.int 0]) rfl ?_
    obtain rfl := Option.some.inj h
    exact xeiret rfl rfl
  · rw [if_neg c1] at h
    refine xef_ne_f rfl c1 ?_
    refine xeb 2 (pc' := 11) (ls' := [.ref 131, .null]) (st' := [.ref 131, .ref 131]) rfl ?_
    refine xegf0 rfl xsh131 (by decide) ?_
    refine xeb 2 (pc' := 16) (ls' := [.ref 131, .null]) (st' := [.int ((I 131 54) - 1), .ref 131]) rfl ?_
    refine xepf0 rfl xsh131 (by decide) ?_
    obtain ⟨I2, hI2, h⟩ := xst_some h
    rw [← hI2]
    refine xeb 2 (pc' := 21) (ls' := [.ref 131, .int 0]) (st' := []) rfl ?_
    exact g_M_undo_21 F 0 I2 h
noncomputable def f_H_clash (F : Nat) (I : XI) (a1 : Int32) (a2 : Int32) : Option (Int32) :=
  (f_Table_cellAt 17 I a1 a2).bind fun q1 => if q1 = (-1) then (some (-1)) else ((f_Board_hasKnobs 26 I q1).bind fun q3 => if q3 = 0 then (some (-1)) else (xck (xin q1 30) ((f_Board_clashes F 26 I q1 (I 27 (xN q1))).bind fun q6 => some q6)))
theorem g_H_clash {X : XX} {d : Nat} {L : XL} {F : Nat} {I : XI} {a1 : Int32} {a2 : Int32}  (r : Int32) (h : f_H_clash F I a1 a2 = some r) : xEv X (d + 3) 201 0 [.ref 0, .int a1, .int a2, .null] [] I L (some (.int r)) I L := by
  rw [f_H_clash] at h
  refine xeb 1 (pc' := 1) (ls' := [.ref 0, .int a1, .int a2, .null]) (st' := [.ref 0]) rfl ?_
  refine xegf2 rfl xsh0 (by decide) rfl ?_
  refine xeb 2 (pc' := 6) (ls' := [.ref 0, .int a1, .int a2, .null]) (st' := [.int a2, .int a1, .ref 17]) rfl ?_
  obtain ⟨q1, eq1, h⟩ := xbind_some h
  refine xcallV rfl xsh17 rfl rfl rfl (Nat.le_of_ble_eq_true rfl) (Nat.le_of_ble_eq_true rfl) (Nat.le_of_ble_eq_true rfl) rfl (g_Table_cellAt (d := d + 2) xis17 _ eq1) ?_
  refine xeb 3 (pc' := 12) (ls' := [.ref 0, .int a1, .int a2, .int q1]) (st' := [.int (-1), .int q1]) rfl ?_
  by_cases c2 : q1 = (-1)
  · rw [if_pos c2] at h
    refine xei_eq_t rfl c2 ?_
    refine xeb 1 (pc' := 31) (ls' := [.ref 0, .int a1, .int a2, .int q1]) (st' := [.int (-1)]) rfl ?_
    obtain rfl := Option.some.inj h
    exact xeiret rfl rfl
  · rw [if_neg c2] at h
    refine xei_eq_f rfl c2 ?_
    refine xeb 1 (pc' := 16) (ls' := [.ref 0, .int a1, .int a2, .int q1]) (st' := [.ref 0]) rfl ?_
    refine xegf2 rfl xsh0 (by decide) rfl ?_
    refine xeb 1 (pc' := 20) (ls' := [.ref 0, .int a1, .int a2, .int q1]) (st' := [.ref 0, .ref 30]) rfl ?_
    refine xegf2 rfl xsh0 (by decide) rfl ?_
    refine xeb 1 (pc' := 24) (ls' := [.ref 0, .int a1, .int a2, .int q1]) (st' := [.int q1, .ref 26, .ref 30]) rfl ?_
    obtain ⟨q3, eq3, h⟩ := xbind_some h
    refine xcallV rfl xsh30 rfl rfl rfl (Nat.le_of_ble_eq_true rfl) (Nat.le_of_ble_eq_true rfl) (Nat.le_of_ble_eq_true rfl) rfl (g_Board_hasKnobs (d := d + 1) xis26 _ eq3) ?_
    by_cases c4 : q3 = 0
    · rw [if_pos c4] at h
      refine xef_ne_t rfl c4 ?_
      refine xeb 1 (pc' := 31) (ls' := [.ref 0, .int a1, .int a2, .int q1]) (st' := [.int (-1)]) rfl ?_
      obtain rfl := Option.some.inj h
      exact xeiret rfl rfl
    · rw [if_neg c4] at h
      refine xef_ne_f rfl c4 ?_
      refine xeb 1 (pc' := 33) (ls' := [.ref 0, .int a1, .int a2, .int q1]) (st' := [.ref 0]) rfl ?_
      refine xegf2 rfl xsh0 (by decide) rfl ?_
      refine xeb 1 (pc' := 37) (ls' := [.ref 0, .int a1, .int a2, .int q1]) (st' := [.ref 0, .ref 30]) rfl ?_
      refine xegf2 rfl xsh0 (by decide) rfl ?_
      refine xeb 2 (pc' := 42) (ls' := [.ref 0, .int a1, .int a2, .int q1]) (st' := [.ref 0, .int q1, .ref 26, .ref 30]) rfl ?_
      refine xegf2 rfl xsh0 (by decide) rfl ?_
      refine xegf12 rfl xsh26 (by decide) rfl ?_
      refine xeb 1 (pc' := 49) (ls' := [.ref 0, .int a1, .int a2, .int q1]) (st' := [.int q1, .ref 27, .int q1, .ref 26, .ref 30]) rfl ?_
      obtain ⟨b5, h⟩ := xck_some h
      refine xeia rfl xsh27 b5 ?_
      obtain ⟨q6, eq6, h⟩ := xbind_some h
      refine xcallV rfl xsh30 rfl rfl rfl (Nat.le_of_ble_eq_true rfl) (Nat.le_of_ble_eq_true rfl) (Nat.le_of_ble_eq_true rfl) rfl (g_Board_clashes (d := d + 0) xis26 _ eq6) ?_
      obtain rfl := Option.some.inj h
      exact xeiret rfl rfl
