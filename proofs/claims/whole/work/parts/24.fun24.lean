/-! the methods as functions, and that a run answers so (by gen6.py) -/
noncomputable def f_M_comesOut_84 (F : Nat) (k0 : Int32 → XI → Option (XI)) (v1 : Int32) (s1 : Int32) (I : XI) : Option (XI) :=
  (f_M_emit s1 0 I).bind fun q7 => k0 v1 q7
theorem g_M_comesOut_84 {X : XX} {d : Nat} {L : XL} {F : Nat} {k0 : Int32 → XI → Option (XI)}  {r : XI} (hk0 : ∀ (v1 : Int32) (I : XI), k0 v1 I = some r → ∀ (z2 : Value), xEv X (d + 1) 98 0 [.ref 131, .int v1, z2] [] I L none r L) {v1 : Int32} {s1 : Int32} {I : XI} (h : f_M_comesOut_84 F k0 v1 s1 I = some r) (z2 : Value) : xEv X (d + 1) 98 84 [.ref 131, .int v1, z2] [.int s1, .ref 131] I L none r L := by
  rw [f_M_comesOut_84] at h
  refine xeb 1 (pc' := 85) (ls' := [.ref 131, .int v1, z2]) (st' := [.int 0, .int s1, .ref 131]) rfl ?_
  obtain ⟨q7, eq7, h⟩ := xbind_some h
  refine xcallV rfl xsh131 rfl rfl rfl (Nat.le_of_ble_eq_true rfl) (Nat.le_of_ble_eq_true rfl) (Nat.le_of_ble_eq_true rfl) rfl (g_M_emit (d := d + 0) _ eq7) ?_
  refine xeb 1 (pc' := 0) (ls' := [.ref 131, .int v1, z2]) (st' := []) rfl ?_
  exact hk0 v1 q7 h _
noncomputable def f_M_comesOut_42 (F : Nat) (k0 : Int32 → XI → Option (XI)) (v1 : Int32) (v2 : Int32) (I : XI) : Option (XI) :=
  xst (xput I 131 44 ((I 131 44) - 1)) fun I5 => if v2 = 8 then (f_M_comesOut_84 F k0 v1 2 I5) else (if v2 = 9 then (f_M_comesOut_84 F k0 v1 3 I5) else (f_M_comesOut_84 F k0 v1 (if v2 = 10 then 4 else 5) I5))
theorem g_M_comesOut_42 {X : XX} {d : Nat} {L : XL} {F : Nat} {k0 : Int32 → XI → Option (XI)}  {r : XI} (hk0 : ∀ (v1 : Int32) (I : XI), k0 v1 I = some r → ∀ (z2 : Value), xEv X (d + 1) 98 0 [.ref 131, .int v1, z2] [] I L none r L) {v1 : Int32} {v2 : Int32} {I : XI} (h : f_M_comesOut_42 F k0 v1 v2 I = some r)  : xEv X (d + 1) 98 42 [.ref 131, .int v1, .int v2] [] I L none r L := by
  rw [f_M_comesOut_42] at h
  refine xeb 2 (pc' := 44) (ls' := [.ref 131, .int v1, .int v2]) (st' := [.ref 131, .ref 131]) rfl ?_
  refine xegf0 rfl xsh131 (by decide) ?_
  refine xeb 2 (pc' := 49) (ls' := [.ref 131, .int v1, .int v2]) (st' := [.int ((I 131 44) - 1), .ref 131]) rfl ?_
  refine xepf0 rfl xsh131 (by decide) ?_
  obtain ⟨I5, hI5, h⟩ := xst_some h
  rw [← hI5]
  refine xeb 3 (pc' := 56) (ls' := [.ref 131, .int v1, .int v2]) (st' := [.int 8, .int v2, .ref 131]) rfl ?_
  by_cases c6 : v2 = 8
  · rw [if_pos c6] at h
    refine xei_ne_t rfl c6 ?_
    refine xeb 2 (pc' := 84) (ls' := [.ref 131, .int v1, .int v2]) (st' := [.int 2, .ref 131]) rfl ?_
    exact g_M_comesOut_84 hk0 h _
  · rw [if_neg c6] at h
    refine xei_ne_f rfl c6 ?_
    refine xeb 2 (pc' := 66) (ls' := [.ref 131, .int v1, .int v2]) (st' := [.int 9, .int v2, .ref 131]) rfl ?_
    by_cases c8 : v2 = 9
    · rw [if_pos c8] at h
      refine xei_ne_t rfl c8 ?_
      refine xeb 2 (pc' := 84) (ls' := [.ref 131, .int v1, .int v2]) (st' := [.int 3, .ref 131]) rfl ?_
      exact g_M_comesOut_84 hk0 h _
    · rw [if_neg c8] at h
      refine xei_ne_f rfl c8 ?_
      refine xeb 2 (pc' := 76) (ls' := [.ref 131, .int v1, .int v2]) (st' := [.int 10, .int v2, .ref 131]) rfl ?_
      have hj : xEv X (d + 1) 98 84 [.ref 131, .int v1, .int v2] [.int (if v2 = 10 then 4 else 5), .ref 131] I5 L none r L := by
        exact g_M_comesOut_84 hk0 h _
      by_cases c9 : v2 = 10
      · simp only [if_pos c9] at hj
        refine xei_ne_t rfl c9 ?_
        exact xeb 2 rfl hj
      · simp only [if_neg c9] at hj
        refine xei_ne_f rfl c9 ?_
        exact xeb 1 rfl hj
noncomputable def f_M_comesOut_0 (F : Nat) : Nat → Int32 → XI → Option (XI)
  | 0, _, _ => none
  | n + 1, v1, I =>
    if (I 131 44) ≤ 0 then (some I) else (xck (xin ((I 131 44) - 1) 64) (if (I 159 (xN ((I 131 44) - 1))) = 6 then (some I) else (if v1 = 0 then (f_M_comesOut_42 F (fun v1 I => f_M_comesOut_0 F n v1 I) v1 (I 159 (xN ((I 131 44) - 1))) I) else (if (I 159 (xN ((I 131 44) - 1))) = 8 then (some I) else (if (I 159 (xN ((I 131 44) - 1))) = 9 then (some I) else (f_M_comesOut_42 F (fun v1 I => f_M_comesOut_0 F n v1 I) v1 (I 159 (xN ((I 131 44) - 1))) I))))))
theorem g_M_comesOut_0 {X : XX} {d : Nat} {L : XL} {F : Nat}  {r : XI}  : ∀ (n : Nat) (v1 : Int32) (I : XI), f_M_comesOut_0 F n v1 I = some r → ∀ (z2 : Value), xEv X (d + 1) 98 0 [.ref 131, .int v1, z2] [] I L none r L := by
  intro n
  induction n with
  | zero => intro v1 I h; rw [f_M_comesOut_0] at h; cases h
  | succ n ih =>
    intro v1 I h z2
    rw [f_M_comesOut_0] at h
    refine xeb 1 (pc' := 1) (ls' := [.ref 131, .int v1, z2]) (st' := [.ref 131]) rfl ?_
    refine xegf0 rfl xsh131 (by decide) ?_
    by_cases c1 : (I 131 44) ≤ 0
    · rw [if_pos c1] at h
      refine xef_le_t rfl c1 ?_
      obtain rfl := Option.some.inj h
      exact xevret rfl
    · rw [if_neg c1] at h
      refine xef_le_f rfl c1 ?_
      refine xeb 1 (pc' := 8) (ls' := [.ref 131, .int v1, z2]) (st' := [.ref 131]) rfl ?_
      refine xegf2 rfl xsh131 (by decide) rfl ?_
      refine xeb 1 (pc' := 12) (ls' := [.ref 131, .int v1, z2]) (st' := [.ref 131, .ref 159]) rfl ?_
      refine xegf0 rfl xsh131 (by decide) ?_
      refine xeb 2 (pc' := 17) (ls' := [.ref 131, .int v1, z2]) (st' := [.int ((I 131 44) - 1), .ref 159]) rfl ?_
      obtain ⟨b2, h⟩ := xck_some h
      refine xeia rfl xsh159 b2 ?_
      refine xeb 3 (pc' := 22) (ls' := [.ref 131, .int v1, .int (I 159 (xN ((I 131 44) - 1)))]) (st' := [.int 6, .int (I 159 (xN ((I 131 44) - 1)))]) rfl ?_
      by_cases c3 : (I 159 (xN ((I 131 44) - 1))) = 6
      · rw [if_pos c3] at h
        refine xei_eq_t rfl c3 ?_
        obtain rfl := Option.some.inj h
        exact xevret rfl
      · rw [if_neg c3] at h
        refine xei_eq_f rfl c3 ?_
        refine xeb 1 (pc' := 26) (ls' := [.ref 131, .int v1, .int (I 159 (xN ((I 131 44) - 1)))]) (st' := [.int v1]) rfl ?_
        by_cases c4 : v1 = 0
        · rw [if_pos c4] at h
          refine xef_eq_t rfl c4 ?_
          exact g_M_comesOut_42 (fun v1 I h' z2 => ih v1 I h' z2) h
        · rw [if_neg c4] at h
          refine xef_eq_f rfl c4 ?_
          refine xeb 2 (pc' := 32) (ls' := [.ref 131, .int v1, .int (I 159 (xN ((I 131 44) - 1)))]) (st' := [.int 8, .int (I 159 (xN ((I 131 44) - 1)))]) rfl ?_
          by_cases c10 : (I 159 (xN ((I 131 44) - 1))) = 8
          · rw [if_pos c10] at h
            refine xei_eq_t rfl c10 ?_
            obtain rfl := Option.some.inj h
            exact xevret rfl
          · rw [if_neg c10] at h
            refine xei_eq_f rfl c10 ?_
            refine xeb 2 (pc' := 38) (ls' := [.ref 131, .int v1, .int (I 159 (xN ((I 131 44) - 1)))]) (st' := [.int 9, .int (I 159 (xN ((I 131 44) - 1)))]) rfl ?_
            by_cases c11 : (I 159 (xN ((I 131 44) - 1))) = 9
            · rw [if_pos c11] at h
              refine xei_ne_t rfl c11 ?_
              obtain rfl := Option.some.inj h
              exact xevret rfl
            · rw [if_neg c11] at h
              refine xei_ne_f rfl c11 ?_
              exact g_M_comesOut_42 (fun v1 I h' z2 => ih v1 I h' z2) h
noncomputable def f_M_comesOut (F : Nat) (a1 : Int32) (I : XI) : Option (XI) :=
  f_M_comesOut_0 F F a1 I
theorem g_M_comesOut {X : XX} {d : Nat} {L : XL} {F : Nat} {a1 : Int32} {I : XI}  (r : XI) (h : f_M_comesOut F a1 I = some r) : xEv X (d + 1) 98 0 [.ref 131, .int a1, .null] [] I L none r L := by
  rw [f_M_comesOut] at h
  exact g_M_comesOut_0 F a1 I h _
noncomputable def f_M_expression_204 (F : Nat) (I : XI) : Option (XI) :=
  (f_M_comesOut F 0 I).bind fun q20 => some q20
theorem g_M_expression_204 {X : XX} {d : Nat} {L : XL} {F : Nat}  {r : XI}  {I : XI} (h : f_M_expression_204 F I = some r) (z1 : Value) (z2 : Value) : xEv X (d + 3) 99 204 [.ref 131, z1, z2] [] I L none r L := by
  rw [f_M_expression_204] at h
  refine xeb 2 (pc' := 206) (ls' := [.ref 131, z1, z2]) (st' := [.int 0, .ref 131]) rfl ?_
  obtain ⟨q20, eq20, h⟩ := xbind_some h
  refine xcallV rfl xsh131 rfl rfl rfl (Nat.le_of_ble_eq_true rfl) (Nat.le_of_ble_eq_true rfl) (Nat.le_of_ble_eq_true rfl) rfl (g_M_comesOut (d := d + 1) _ eq20) ?_
  obtain rfl := Option.some.inj h
  exact xevret rfl
noncomputable def f_M_expression_234 (F : Nat) (k12 : Int32 → Int32 → XI → Option (XI)) (v1 : Int32) (v2 : Int32) (s1 : Int32) (I : XI) : Option (XI) :=
  (f_M_comesOut F s1 I).bind fun q26 => xck (xin (q26 131 11) 403) (xck (xin (q26 131 44) 64) (xst (xput q26 159 (xN (q26 131 44)) (q26 134 (xN (q26 131 11)))) fun I29 => xst (xput I29 131 44 ((I29 131 44) + 1)) fun I30 => (f_M_goesOn I30).bind fun q31 => k12 v1 v2 q31))
theorem g_M_expression_234 {X : XX} {d : Nat} {L : XL} {F : Nat} {k12 : Int32 → Int32 → XI → Option (XI)}  {r : XI} (hk12 : ∀ (v1 : Int32) (v2 : Int32) (I : XI), k12 v1 v2 I = some r → xEv X (d + 3) 99 12 [.ref 131, .int v1, .int v2] [] I L none r L) {v1 : Int32} {v2 : Int32} {s1 : Int32} {I : XI} (h : f_M_expression_234 F k12 v1 v2 s1 I = some r)  : xEv X (d + 3) 99 234 [.ref 131, .int v1, .int v2] [.int s1, .ref 131] I L none r L := by
  rw [f_M_expression_234] at h
  obtain ⟨q26, eq26, h⟩ := xbind_some h
  refine xcallV rfl xsh131 rfl rfl rfl (Nat.le_of_ble_eq_true rfl) (Nat.le_of_ble_eq_true rfl) (Nat.le_of_ble_eq_true rfl) rfl (g_M_comesOut (d := d + 1) _ eq26) ?_
  refine xeb 1 (pc' := 238) (ls' := [.ref 131, .int v1, .int v2]) (st' := [.ref 131]) rfl ?_
  refine xegf2 rfl xsh131 (by decide) rfl ?_
  refine xeb 1 (pc' := 242) (ls' := [.ref 131, .int v1, .int v2]) (st' := [.ref 131, .ref 159]) rfl ?_
  refine xegf0 rfl xsh131 (by decide) ?_
  refine xeb 1 (pc' := 246) (ls' := [.ref 131, .int v1, .int v2]) (st' := [.ref 131, .int (q26 131 44), .ref 159]) rfl ?_
  refine xegf2 rfl xsh131 (by decide) rfl ?_
  refine xeb 1 (pc' := 250) (ls' := [.ref 131, .int v1, .int v2]) (st' := [.ref 131, .ref 134, .int (q26 131 44), .ref 159]) rfl ?_
  refine xegf0 rfl xsh131 (by decide) ?_
  obtain ⟨b27, h⟩ := xck_some h
  refine xeia rfl xsh134 b27 ?_
  obtain ⟨b28, h⟩ := xck_some h
  refine xeis rfl xsh159 b28 ?_
  obtain ⟨I29, hI29, h⟩ := xst_some h
  rw [← hI29]
  refine xeb 2 (pc' := 257) (ls' := [.ref 131, .int v1, .int v2]) (st' := [.ref 131, .ref 131]) rfl ?_
  refine xegf0 rfl xsh131 (by decide) ?_
  refine xeb 2 (pc' := 262) (ls' := [.ref 131, .int v1, .int v2]) (st' := [.int ((I29 131 44) + 1), .ref 131]) rfl ?_
  refine xepf0 rfl xsh131 (by decide) ?_
  obtain ⟨I30, hI30, h⟩ := xst_some h
  rw [← hI30]
  refine xeb 1 (pc' := 266) (ls' := [.ref 131, .int v1, .int v2]) (st' := [.ref 131]) rfl ?_
  obtain ⟨q31, eq31, h⟩ := xbind_some h
  refine xcallV rfl xsh131 rfl rfl rfl (Nat.le_of_ble_eq_true rfl) (Nat.le_of_ble_eq_true rfl) (Nat.le_of_ble_eq_true rfl) rfl (g_M_goesOn (d := d + 1) _ eq31) ?_
  refine xeb 1 (pc' := 12) (ls' := [.ref 131, .int v1, .int v2]) (st' := []) rfl ?_
  exact hk12 v1 v2 q31 h
noncomputable def f_M_expression_186 (F : Nat) (k12 : Int32 → Int32 → XI → Option (XI)) (v1 : Int32) (s0 : Int32) (I : XI) : Option (XI) :=
  if s0 = 0 then (if (I 131 12) ≤ v1 then (f_M_expression_204 F I) else ((f_M_fail 1 I).bind fun q21 => f_M_expression_204 F q21)) else ((f_M_is I 10).bind fun q22 => if q22 = 0 then ((f_M_is I 15).bind fun q24 => f_M_expression_234 F k12 v1 s0 (if q24 = 0 then 0 else 1) I) else (f_M_expression_234 F k12 v1 s0 1 I))
theorem g_M_expression_186 {X : XX} {d : Nat} {L : XL} {F : Nat} {k12 : Int32 → Int32 → XI → Option (XI)}  {r : XI} (hk12 : ∀ (v1 : Int32) (v2 : Int32) (I : XI), k12 v1 v2 I = some r → xEv X (d + 3) 99 12 [.ref 131, .int v1, .int v2] [] I L none r L) {v1 : Int32} {s0 : Int32} {I : XI} (h : f_M_expression_186 F k12 v1 s0 I = some r) (z2 : Value) : xEv X (d + 3) 99 186 [.ref 131, .int v1, z2] [.int s0] I L none r L := by
  rw [f_M_expression_186] at h
  refine xeb 2 (pc' := 188) (ls' := [.ref 131, .int v1, .int s0]) (st' := [.int s0]) rfl ?_
  by_cases c18 : s0 = 0
  · rw [if_pos c18] at h
    refine xef_ne_t rfl c18 ?_
    refine xeb 1 (pc' := 192) (ls' := [.ref 131, .int v1, .int s0]) (st' := [.ref 131]) rfl ?_
    refine xegf0 rfl xsh131 (by decide) ?_
    refine xeb 1 (pc' := 196) (ls' := [.ref 131, .int v1, .int s0]) (st' := [.int v1, .int (I 131 12)]) rfl ?_
    by_cases c19 : (I 131 12) ≤ v1
    · rw [if_pos c19] at h
      refine xei_le_t rfl c19 ?_
      exact g_M_expression_204 h _ _
    · rw [if_neg c19] at h
      refine xei_le_f rfl c19 ?_
      refine xeb 2 (pc' := 201) (ls' := [.ref 131, .int v1, .int s0]) (st' := [.int 1, .ref 131]) rfl ?_
      obtain ⟨q21, eq21, h⟩ := xbind_some h
      refine xcallV rfl xsh131 rfl rfl rfl (Nat.le_of_ble_eq_true rfl) (Nat.le_of_ble_eq_true rfl) (Nat.le_of_ble_eq_true rfl) rfl (g_M_fail (d := d + 2) _ eq21) ?_
      exact g_M_expression_204 h _ _
  · rw [if_neg c18] at h
    refine xef_ne_f rfl c18 ?_
    refine xeb 3 (pc' := 214) (ls' := [.ref 131, .int v1, .int s0]) (st' := [.int 10, .ref 131, .ref 131]) rfl ?_
    obtain ⟨q22, eq22, h⟩ := xbind_some h
    refine xcallV rfl xsh131 rfl rfl rfl (Nat.le_of_ble_eq_true rfl) (Nat.le_of_ble_eq_true rfl) (Nat.le_of_ble_eq_true rfl) rfl (g_M_is (d := d + 2) _ eq22) ?_
    by_cases c23 : q22 = 0
    · rw [if_pos c23] at h
      refine xef_ne_t rfl c23 ?_
      refine xeb 2 (pc' := 223) (ls' := [.ref 131, .int v1, .int s0]) (st' := [.int 15, .ref 131, .ref 131]) rfl ?_
      obtain ⟨q24, eq24, h⟩ := xbind_some h
      refine xcallV rfl xsh131 rfl rfl rfl (Nat.le_of_ble_eq_true rfl) (Nat.le_of_ble_eq_true rfl) (Nat.le_of_ble_eq_true rfl) rfl (g_M_is (d := d + 2) _ eq24) ?_
      have hj : xEv X (d + 3) 99 234 [.ref 131, .int v1, .int s0] [.int (if q24 = 0 then 0 else 1), .ref 131] I L none r L := by
        exact g_M_expression_234 hk12 h
      by_cases c25 : q24 = 0
      · simp only [if_pos c25] at hj
        refine xef_eq_t rfl c25 ?_
        exact xeb 1 rfl hj
      · simp only [if_neg c25] at hj
        refine xef_eq_f rfl c25 ?_
        exact xeb 2 rfl hj
    · rw [if_neg c23] at h
      refine xef_ne_f rfl c23 ?_
      refine xeb 2 (pc' := 234) (ls' := [.ref 131, .int v1, .int s0]) (st' := [.int 1, .ref 131]) rfl ?_
      exact g_M_expression_234 hk12 h
noncomputable def f_M_expression_145 (F : Nat) (k12 : Int32 → Int32 → XI → Option (XI)) (v1 : Int32) (I : XI) : Option (XI) :=
  (f_M_is I 8).bind fun q10 => if q10 = 0 then ((f_M_is I 9).bind fun q12 => if q12 = 0 then ((f_M_is I 10).bind fun q14 => if q14 = 0 then ((f_M_is I 15).bind fun q16 => f_M_expression_186 F k12 v1 (if q16 = 0 then 0 else 1) I) else (f_M_expression_186 F k12 v1 1 I)) else (f_M_expression_186 F k12 v1 1 I)) else (f_M_expression_186 F k12 v1 1 I)
theorem g_M_expression_145 {X : XX} {d : Nat} {L : XL} {F : Nat} {k12 : Int32 → Int32 → XI → Option (XI)}  {r : XI} (hk12 : ∀ (v1 : Int32) (v2 : Int32) (I : XI), k12 v1 v2 I = some r → xEv X (d + 3) 99 12 [.ref 131, .int v1, .int v2] [] I L none r L) {v1 : Int32} {I : XI} (h : f_M_expression_145 F k12 v1 I = some r) (z2 : Value) : xEv X (d + 3) 99 145 [.ref 131, .int v1, z2] [] I L none r L := by
  rw [f_M_expression_145] at h
  refine xeb 2 (pc' := 148) (ls' := [.ref 131, .int v1, z2]) (st' := [.int 8, .ref 131]) rfl ?_
  obtain ⟨q10, eq10, h⟩ := xbind_some h
  refine xcallV rfl xsh131 rfl rfl rfl (Nat.le_of_ble_eq_true rfl) (Nat.le_of_ble_eq_true rfl) (Nat.le_of_ble_eq_true rfl) rfl (g_M_is (d := d + 2) _ eq10) ?_
  by_cases c11 : q10 = 0
  · rw [if_pos c11] at h
    refine xef_ne_t rfl c11 ?_
    refine xeb 2 (pc' := 157) (ls' := [.ref 131, .int v1, z2]) (st' := [.int 9, .ref 131]) rfl ?_
    obtain ⟨q12, eq12, h⟩ := xbind_some h
    refine xcallV rfl xsh131 rfl rfl rfl (Nat.le_of_ble_eq_true rfl) (Nat.le_of_ble_eq_true rfl) (Nat.le_of_ble_eq_true rfl) rfl (g_M_is (d := d + 2) _ eq12) ?_
    by_cases c13 : q12 = 0
    · rw [if_pos c13] at h
      refine xef_ne_t rfl c13 ?_
      refine xeb 2 (pc' := 166) (ls' := [.ref 131, .int v1, z2]) (st' := [.int 10, .ref 131]) rfl ?_
      obtain ⟨q14, eq14, h⟩ := xbind_some h
      refine xcallV rfl xsh131 rfl rfl rfl (Nat.le_of_ble_eq_true rfl) (Nat.le_of_ble_eq_true rfl) (Nat.le_of_ble_eq_true rfl) rfl (g_M_is (d := d + 2) _ eq14) ?_
      by_cases c15 : q14 = 0
      · rw [if_pos c15] at h
        refine xef_ne_t rfl c15 ?_
        refine xeb 2 (pc' := 175) (ls' := [.ref 131, .int v1, z2]) (st' := [.int 15, .ref 131]) rfl ?_
        obtain ⟨q16, eq16, h⟩ := xbind_some h
        refine xcallV rfl xsh131 rfl rfl rfl (Nat.le_of_ble_eq_true rfl) (Nat.le_of_ble_eq_true rfl) (Nat.le_of_ble_eq_true rfl) rfl (g_M_is (d := d + 2) _ eq16) ?_
        have hj : xEv X (d + 3) 99 186 [.ref 131, .int v1, z2] [.int (if q16 = 0 then 0 else 1)] I L none r L := by
          exact g_M_expression_186 hk12 h _
        by_cases c17 : q16 = 0
        · simp only [if_pos c17] at hj
          refine xef_eq_t rfl c17 ?_
          exact xeb 1 rfl hj
        · simp only [if_neg c17] at hj
          refine xef_eq_f rfl c17 ?_
          exact xeb 2 rfl hj
      · rw [if_neg c15] at h
        refine xef_ne_f rfl c15 ?_
        refine xeb 2 (pc' := 186) (ls' := [.ref 131, .int v1, z2]) (st' := [.int 1]) rfl ?_
        exact g_M_expression_186 hk12 h _
    · rw [if_neg c13] at h
      refine xef_ne_f rfl c13 ?_
      refine xeb 2 (pc' := 186) (ls' := [.ref 131, .int v1, z2]) (st' := [.int 1]) rfl ?_
      exact g_M_expression_186 hk12 h _
  · rw [if_neg c11] at h
    refine xef_ne_f rfl c11 ?_
    refine xeb 2 (pc' := 186) (ls' := [.ref 131, .int v1, z2]) (st' := [.int 1]) rfl ?_
    exact g_M_expression_186 hk12 h _
noncomputable def f_M_expression_96 (F : Nat) (k12 : Int32 → Int32 → XI → Option (XI)) : Nat → Int32 → XI → Option (XI)
  | 0, _, _ => none
  | n + 1, v1, I =>
    (f_M_is I 7).bind fun q8 => if q8 = 0 then (f_M_expression_145 F k12 v1 I) else (if (I 131 12) ≤ v1 then (f_M_expression_145 F k12 v1 I) else ((f_M_comesOut F 0 I).bind fun q33 => xst (xput q33 131 44 ((q33 131 44) - 1)) fun I34 => xst (xput I34 131 12 ((I34 131 12) - 1)) fun I35 => (f_M_goesOn I35).bind fun q36 => f_M_expression_96 F k12 n v1 q36))
theorem g_M_expression_96 {X : XX} {d : Nat} {L : XL} {F : Nat} {k12 : Int32 → Int32 → XI → Option (XI)}  {r : XI} (hk12 : ∀ (v1 : Int32) (v2 : Int32) (I : XI), k12 v1 v2 I = some r → xEv X (d + 3) 99 12 [.ref 131, .int v1, .int v2] [] I L none r L) : ∀ (n : Nat) (v1 : Int32) (I : XI), f_M_expression_96 F k12 n v1 I = some r → ∀ (z2 : Value), xEv X (d + 3) 99 96 [.ref 131, .int v1, z2] [] I L none r L := by
  intro n
  induction n with
  | zero => intro v1 I h; rw [f_M_expression_96] at h; cases h
  | succ n ih =>
    intro v1 I h z2
    rw [f_M_expression_96] at h
    refine xeb 2 (pc' := 99) (ls' := [.ref 131, .int v1, z2]) (st' := [.int 7, .ref 131]) rfl ?_
    obtain ⟨q8, eq8, h⟩ := xbind_some h
    refine xcallV rfl xsh131 rfl rfl rfl (Nat.le_of_ble_eq_true rfl) (Nat.le_of_ble_eq_true rfl) (Nat.le_of_ble_eq_true rfl) rfl (g_M_is (d := d + 2) _ eq8) ?_
    by_cases c9 : q8 = 0
    · rw [if_pos c9] at h
      refine xef_eq_t rfl c9 ?_
      exact g_M_expression_145 hk12 h _
    · rw [if_neg c9] at h
      refine xef_eq_f rfl c9 ?_
      refine xeb 1 (pc' := 106) (ls' := [.ref 131, .int v1, z2]) (st' := [.ref 131]) rfl ?_
      refine xegf0 rfl xsh131 (by decide) ?_
      refine xeb 1 (pc' := 110) (ls' := [.ref 131, .int v1, z2]) (st' := [.int v1, .int (I 131 12)]) rfl ?_
      by_cases c32 : (I 131 12) ≤ v1
      · rw [if_pos c32] at h
        refine xei_le_t rfl c32 ?_
        exact g_M_expression_145 hk12 h _
      · rw [if_neg c32] at h
        refine xei_le_f rfl c32 ?_
        refine xeb 2 (pc' := 115) (ls' := [.ref 131, .int v1, z2]) (st' := [.int 0, .ref 131]) rfl ?_
        obtain ⟨q33, eq33, h⟩ := xbind_some h
        refine xcallV rfl xsh131 rfl rfl rfl (Nat.le_of_ble_eq_true rfl) (Nat.le_of_ble_eq_true rfl) (Nat.le_of_ble_eq_true rfl) rfl (g_M_comesOut (d := d + 1) _ eq33) ?_
        refine xeb 2 (pc' := 120) (ls' := [.ref 131, .int v1, z2]) (st' := [.ref 131, .ref 131]) rfl ?_
        refine xegf0 rfl xsh131 (by decide) ?_
        refine xeb 2 (pc' := 125) (ls' := [.ref 131, .int v1, z2]) (st' := [.int ((q33 131 44) - 1), .ref 131]) rfl ?_
        refine xepf0 rfl xsh131 (by decide) ?_
        obtain ⟨I34, hI34, h⟩ := xst_some h
        rw [← hI34]
        refine xeb 2 (pc' := 130) (ls' := [.ref 131, .int v1, z2]) (st' := [.ref 131, .ref 131]) rfl ?_
        refine xegf0 rfl xsh131 (by decide) ?_
        refine xeb 2 (pc' := 135) (ls' := [.ref 131, .int v1, z2]) (st' := [.int ((I34 131 12) - 1), .ref 131]) rfl ?_
        refine xepf0 rfl xsh131 (by decide) ?_
        obtain ⟨I35, hI35, h⟩ := xst_some h
        rw [← hI35]
        refine xeb 1 (pc' := 139) (ls' := [.ref 131, .int v1, z2]) (st' := [.ref 131]) rfl ?_
        obtain ⟨q36, eq36, h⟩ := xbind_some h
        refine xcallV rfl xsh131 rfl rfl rfl (Nat.le_of_ble_eq_true rfl) (Nat.le_of_ble_eq_true rfl) (Nat.le_of_ble_eq_true rfl) rfl (g_M_goesOn (d := d + 1) _ eq36) ?_
        refine xeb 1 (pc' := 96) (ls' := [.ref 131, .int v1, z2]) (st' := []) rfl ?_
        exact ih v1 q36 h _
noncomputable def f_M_expression_46 (F : Nat) (k23 : Int32 → XI → Option (XI)) (v1 : Int32) (I : XI) : Option (XI) :=
  xst (xput I 131 12 ((I 131 12) + 1)) fun I39 => (f_M_goesOn I39).bind fun q40 => xck (xin (q40 131 44) 64) (xst (xput q40 159 (xN (q40 131 44)) 6) fun I42 => xst (xput I42 131 44 ((I42 131 44) + 1)) fun I43 => k23 v1 I43)
theorem g_M_expression_46 {X : XX} {d : Nat} {L : XL} {F : Nat} {k23 : Int32 → XI → Option (XI)}  {r : XI} (hk23 : ∀ (v1 : Int32) (I : XI), k23 v1 I = some r → ∀ (z2 : Value), xEv X (d + 3) 99 23 [.ref 131, .int v1, z2] [] I L none r L) {v1 : Int32} {I : XI} (h : f_M_expression_46 F k23 v1 I = some r) (z2 : Value) : xEv X (d + 3) 99 46 [.ref 131, .int v1, z2] [] I L none r L := by
  rw [f_M_expression_46] at h
  refine xeb 2 (pc' := 48) (ls' := [.ref 131, .int v1, z2]) (st' := [.ref 131, .ref 131]) rfl ?_
  refine xegf0 rfl xsh131 (by decide) ?_
  refine xeb 2 (pc' := 53) (ls' := [.ref 131, .int v1, z2]) (st' := [.int ((I 131 12) + 1), .ref 131]) rfl ?_
  refine xepf0 rfl xsh131 (by decide) ?_
  obtain ⟨I39, hI39, h⟩ := xst_some h
  rw [← hI39]
  refine xeb 1 (pc' := 57) (ls' := [.ref 131, .int v1, z2]) (st' := [.ref 131]) rfl ?_
  obtain ⟨q40, eq40, h⟩ := xbind_some h
  refine xcallV rfl xsh131 rfl rfl rfl (Nat.le_of_ble_eq_true rfl) (Nat.le_of_ble_eq_true rfl) (Nat.le_of_ble_eq_true rfl) rfl (g_M_goesOn (d := d + 1) _ eq40) ?_
  refine xeb 1 (pc' := 61) (ls' := [.ref 131, .int v1, z2]) (st' := [.ref 131]) rfl ?_
  refine xegf2 rfl xsh131 (by decide) rfl ?_
  refine xeb 1 (pc' := 65) (ls' := [.ref 131, .int v1, z2]) (st' := [.ref 131, .ref 159]) rfl ?_
  refine xegf0 rfl xsh131 (by decide) ?_
  refine xeb 1 (pc' := 70) (ls' := [.ref 131, .int v1, z2]) (st' := [.int 6, .int (q40 131 44), .ref 159]) rfl ?_
  obtain ⟨b41, h⟩ := xck_some h
  refine xeis rfl xsh159 b41 ?_
  obtain ⟨I42, hI42, h⟩ := xst_some h
  rw [← hI42]
  refine xeb 2 (pc' := 73) (ls' := [.ref 131, .int v1, z2]) (st' := [.ref 131, .ref 131]) rfl ?_
  refine xegf0 rfl xsh131 (by decide) ?_
  refine xeb 2 (pc' := 78) (ls' := [.ref 131, .int v1, z2]) (st' := [.int ((I42 131 44) + 1), .ref 131]) rfl ?_
  refine xepf0 rfl xsh131 (by decide) ?_
  obtain ⟨I43, hI43, h⟩ := xst_some h
  rw [← hI43]
  refine xeb 1 (pc' := 23) (ls' := [.ref 131, .int v1, z2]) (st' := []) rfl ?_
  exact hk23 v1 I43 h _
noncomputable def f_M_expression_23 (F : Nat) (k12 : Int32 → Int32 → XI → Option (XI)) : Nat → Int32 → XI → Option (XI)
  | 0, _, _ => none
  | n + 1, v1, I =>
    (f_M_is I 6).bind fun q4 => if q4 = 0 then ((f_M_unit I).bind fun q6 => if (q6 131 13) ≤ 0 then (f_M_expression_96 F k12 F v1 q6) else (some q6)) else (if (I 131 12) = 6 then ((f_M_fail 2 I).bind fun q38 => f_M_expression_46 F (fun v1 I => f_M_expression_23 F k12 n v1 I) v1 q38) else (f_M_expression_46 F (fun v1 I => f_M_expression_23 F k12 n v1 I) v1 I))
theorem g_M_expression_23 {X : XX} {d : Nat} {L : XL} {F : Nat} {k12 : Int32 → Int32 → XI → Option (XI)}  {r : XI} (hk12 : ∀ (v1 : Int32) (v2 : Int32) (I : XI), k12 v1 v2 I = some r → xEv X (d + 3) 99 12 [.ref 131, .int v1, .int v2] [] I L none r L) : ∀ (n : Nat) (v1 : Int32) (I : XI), f_M_expression_23 F k12 n v1 I = some r → ∀ (z2 : Value), xEv X (d + 3) 99 23 [.ref 131, .int v1, z2] [] I L none r L := by
  intro n
  induction n with
  | zero => intro v1 I h; rw [f_M_expression_23] at h; cases h
  | succ n ih =>
    intro v1 I h z2
    rw [f_M_expression_23] at h
    refine xeb 2 (pc' := 26) (ls' := [.ref 131, .int v1, z2]) (st' := [.int 6, .ref 131]) rfl ?_
    obtain ⟨q4, eq4, h⟩ := xbind_some h
    refine xcallV rfl xsh131 rfl rfl rfl (Nat.le_of_ble_eq_true rfl) (Nat.le_of_ble_eq_true rfl) (Nat.le_of_ble_eq_true rfl) rfl (g_M_is (d := d + 2) _ eq4) ?_
    by_cases c5 : q4 = 0
    · rw [if_pos c5] at h
      refine xef_eq_t rfl c5 ?_
      refine xeb 1 (pc' := 85) (ls' := [.ref 131, .int v1, z2]) (st' := [.ref 131]) rfl ?_
      obtain ⟨q6, eq6, h⟩ := xbind_some h
      refine xcallV rfl xsh131 rfl rfl rfl (Nat.le_of_ble_eq_true rfl) (Nat.le_of_ble_eq_true rfl) (Nat.le_of_ble_eq_true rfl) rfl (g_M_unit (d := d + 0) _ eq6) ?_
      refine xeb 1 (pc' := 89) (ls' := [.ref 131, .int v1, z2]) (st' := [.ref 131]) rfl ?_
      refine xegf0 rfl xsh131 (by decide) ?_
      by_cases c7 : (q6 131 13) ≤ 0
      · rw [if_pos c7] at h
        refine xef_le_t rfl c7 ?_
        exact g_M_expression_96 hk12 F v1 q6 h _
      · rw [if_neg c7] at h
        refine xef_le_f rfl c7 ?_
        obtain rfl := Option.some.inj h
        exact xevret rfl
    · rw [if_neg c5] at h
      refine xef_eq_f rfl c5 ?_
      refine xeb 1 (pc' := 33) (ls' := [.ref 131, .int v1, z2]) (st' := [.ref 131]) rfl ?_
      refine xegf0 rfl xsh131 (by decide) ?_
      refine xeb 1 (pc' := 38) (ls' := [.ref 131, .int v1, z2]) (st' := [.int 6, .int (I 131 12)]) rfl ?_
      by_cases c37 : (I 131 12) = 6
      · rw [if_pos c37] at h
        refine xei_ne_t rfl c37 ?_
        refine xeb 2 (pc' := 43) (ls' := [.ref 131, .int v1, z2]) (st' := [.int 2, .ref 131]) rfl ?_
        obtain ⟨q38, eq38, h⟩ := xbind_some h
        refine xcallV rfl xsh131 rfl rfl rfl (Nat.le_of_ble_eq_true rfl) (Nat.le_of_ble_eq_true rfl) (Nat.le_of_ble_eq_true rfl) rfl (g_M_fail (d := d + 2) _ eq38) ?_
        exact g_M_expression_46 (fun v1 I h' z2 => ih v1 I h' z2) h _
      · rw [if_neg c37] at h
        refine xei_ne_f rfl c37 ?_
        exact g_M_expression_46 (fun v1 I h' z2 => ih v1 I h' z2) h _
noncomputable def f_M_expression_12 (F : Nat) : Nat → Int32 → Int32 → XI → Option (XI)
  | 0, _, _, _ => none
  | n + 1, v1, v2, I =>
    if v2 = 0 then (some I) else (if (I 131 13) = 0 then (f_M_expression_23 F (fun v1 v2 I => f_M_expression_12 F n v1 v2 I) F v1 I) else (some I))
theorem g_M_expression_12 {X : XX} {d : Nat} {L : XL} {F : Nat}  {r : XI}  : ∀ (n : Nat) (v1 : Int32) (v2 : Int32) (I : XI), f_M_expression_12 F n v1 v2 I = some r → xEv X (d + 3) 99 12 [.ref 131, .int v1, .int v2] [] I L none r L := by
  intro n
  induction n with
  | zero => intro v1 v2 I h; rw [f_M_expression_12] at h; cases h
  | succ n ih =>
    intro v1 v2 I h 
    rw [f_M_expression_12] at h
    refine xeb 1 (pc' := 13) (ls' := [.ref 131, .int v1, .int v2]) (st' := [.int v2]) rfl ?_
    by_cases c2 : v2 = 0
    · rw [if_pos c2] at h
      refine xef_eq_t rfl c2 ?_
      obtain rfl := Option.some.inj h
      exact xevret rfl
    · rw [if_neg c2] at h
      refine xef_eq_f rfl c2 ?_
      refine xeb 1 (pc' := 17) (ls' := [.ref 131, .int v1, .int v2]) (st' := [.ref 131]) rfl ?_
      refine xegf0 rfl xsh131 (by decide) ?_
      by_cases c3 : (I 131 13) = 0
      · rw [if_pos c3] at h
        refine xef_ne_t rfl c3 ?_
        exact g_M_expression_23 (fun v1 v2 I h' => ih v1 v2 I h' ) F v1 I h _
      · rw [if_neg c3] at h
        refine xef_ne_f rfl c3 ?_
        obtain rfl := Option.some.inj h
        exact xevret rfl
noncomputable def f_M_expression (F : Nat) (I : XI) : Option (XI) :=
  xst (xput I 131 44 0) fun I1 => f_M_expression_12 F F (I1 131 12) 1 I1
theorem g_M_expression {X : XX} {d : Nat} {L : XL} {F : Nat} {I : XI}  (r : XI) (h : f_M_expression F I = some r) : xEv X (d + 3) 99 0 [.ref 131, .null, .null] [] I L none r L := by
  rw [f_M_expression] at h
  refine xeb 2 (pc' := 2) (ls' := [.ref 131, .null, .null]) (st' := [.int 0, .ref 131]) rfl ?_
  refine xepf0 rfl xsh131 (by decide) ?_
  obtain ⟨I1, hI1, h⟩ := xst_some h
  rw [← hI1]
  refine xeb 1 (pc' := 6) (ls' := [.ref 131, .null, .null]) (st' := [.ref 131]) rfl ?_
  refine xegf0 rfl xsh131 (by decide) ?_
  refine xeb 3 (pc' := 12) (ls' := [.ref 131, .int (I1 131 12), .int 1]) (st' := []) rfl ?_
  exact g_M_expression_12 F (I1 131 12) 1 I1 h
noncomputable def f_M_term_24 (F : Nat) (I : XI) : Option (XI) :=
  xck (xin (I 131 34) 260) (xst (xput I 156 (xN (I 131 34)) (I 131 40)) fun I6 => xst (xput I6 131 34 ((I6 131 34) + 1)) fun I7 => some I7)
theorem g_M_term_24 {X : XX} {d : Nat} {L : XL} {F : Nat}  {r : XI}  {I : XI} (h : f_M_term_24 F I = some r)  : xEv X (d + 4) 100 24 [.ref 131] [] I L none r L := by
  rw [f_M_term_24] at h
  refine xeb 1 (pc' := 25) (ls' := [.ref 131]) (st' := [.ref 131]) rfl ?_
  refine xegf2 rfl xsh131 (by decide) rfl ?_
  refine xeb 1 (pc' := 29) (ls' := [.ref 131]) (st' := [.ref 131, .ref 156]) rfl ?_
  refine xegf0 rfl xsh131 (by decide) ?_
  refine xeb 1 (pc' := 33) (ls' := [.ref 131]) (st' := [.ref 131, .int (I 131 34), .ref 156]) rfl ?_
  refine xegf0 rfl xsh131 (by decide) ?_
  obtain ⟨b5, h⟩ := xck_some h
  refine xeis rfl xsh156 b5 ?_
  obtain ⟨I6, hI6, h⟩ := xst_some h
  rw [← hI6]
  refine xeb 2 (pc' := 39) (ls' := [.ref 131]) (st' := [.ref 131, .ref 131]) rfl ?_
  refine xegf0 rfl xsh131 (by decide) ?_
  refine xeb 2 (pc' := 44) (ls' := [.ref 131]) (st' := [.int ((I6 131 34) + 1), .ref 131]) rfl ?_
  refine xepf0 rfl xsh131 (by decide) ?_
  obtain ⟨I7, hI7, h⟩ := xst_some h
  rw [← hI7]
  obtain rfl := Option.some.inj h
  exact xevret rfl
noncomputable def f_M_term (F : Nat) (I : XI) : Option (XI) :=
  xck (xin (I 131 34) 260) (xst (xput I 155 (xN (I 131 34)) (I 131 40)) fun I2 => if (I2 131 13) = 0 then ((f_M_expression F I2).bind fun q4 => f_M_term_24 F q4) else (f_M_term_24 F I2))
theorem g_M_term {X : XX} {d : Nat} {L : XL} {F : Nat} {I : XI}  (r : XI) (h : f_M_term F I = some r) : xEv X (d + 4) 100 0 [.ref 131] [] I L none r L := by
  rw [f_M_term] at h
  refine xeb 1 (pc' := 1) (ls' := [.ref 131]) (st' := [.ref 131]) rfl ?_
  refine xegf2 rfl xsh131 (by decide) rfl ?_
  refine xeb 1 (pc' := 5) (ls' := [.ref 131]) (st' := [.ref 131, .ref 155]) rfl ?_
  refine xegf0 rfl xsh131 (by decide) ?_
  refine xeb 1 (pc' := 9) (ls' := [.ref 131]) (st' := [.ref 131, .int (I 131 34), .ref 155]) rfl ?_
  refine xegf0 rfl xsh131 (by decide) ?_
  obtain ⟨b1, h⟩ := xck_some h
  refine xeis rfl xsh155 b1 ?_
  obtain ⟨I2, hI2, h⟩ := xst_some h
  rw [← hI2]
  refine xeb 1 (pc' := 14) (ls' := [.ref 131]) (st' := [.ref 131]) rfl ?_
  refine xegf0 rfl xsh131 (by decide) ?_
  by_cases c3 : (I2 131 13) = 0
  · rw [if_pos c3] at h
    refine xef_ne_t rfl c3 ?_
    refine xeb 1 (pc' := 21) (ls' := [.ref 131]) (st' := [.ref 131]) rfl ?_
    obtain ⟨q4, eq4, h⟩ := xbind_some h
    refine xcallV rfl xsh131 rfl rfl rfl (Nat.le_of_ble_eq_true rfl) (Nat.le_of_ble_eq_true rfl) (Nat.le_of_ble_eq_true rfl) rfl (g_M_expression (d := d + 0) _ eq4) ?_
    exact g_M_term_24 h
  · rw [if_neg c3] at h
    refine xef_ne_f rfl c3 ?_
    exact g_M_term_24 h
noncomputable def f_M_tellLaw_129 (F : Nat) (v1 : Int32) (v2 : Int32) (I : XI) : Option (XI) :=
  xck (xin (I 131 34) 260) (xst (xput I 152 (xN (I 131 34)) (0 &&& 1)) fun I6 => (f_M_term F I6).bind fun q7 => (f_M_must 4 q7).bind fun q8 => if (q8 131 13) ≤ 0 then (xck (xin ((4 * (q8 131 19)) + v1) 8) (xst (xput q8 150 (xN ((4 * (q8 131 19)) + v1)) v2) fun I11 => xck (xin ((4 * (I11 131 19)) + v1) 8) (xst (xput I11 151 (xN ((4 * (I11 131 19)) + v1)) (I11 131 34)) fun I13 => some I13))) else (some q8))
theorem g_M_tellLaw_129 {X : XX} {d : Nat} {L : XL} {F : Nat}  {r : XI}  {v1 : Int32} {v2 : Int32} {I : XI} (h : f_M_tellLaw_129 F v1 v2 I = some r) (z3 : Value) : xEv X (d + 5) 101 129 [.ref 131, .int v1, .int v2, z3] [] I L none r L := by
  rw [f_M_tellLaw_129] at h
  refine xeb 1 (pc' := 130) (ls' := [.ref 131, .int v1, .int v2, z3]) (st' := [.ref 131]) rfl ?_
  refine xegf2 rfl xsh131 (by decide) rfl ?_
  refine xeb 1 (pc' := 134) (ls' := [.ref 131, .int v1, .int v2, z3]) (st' := [.ref 131, .ref 152]) rfl ?_
  refine xegf0 rfl xsh131 (by decide) ?_
  refine xeb 1 (pc' := 138) (ls' := [.ref 131, .int v1, .int v2, z3]) (st' := [.int 0, .int (I 131 34), .ref 152]) rfl ?_
  obtain ⟨b5, h⟩ := xck_some h
  refine xezs rfl xsh152 b5 ?_
  obtain ⟨I6, hI6, h⟩ := xst_some h
  rw [← hI6]
  refine xeb 1 (pc' := 140) (ls' := [.ref 131, .int v1, .int v2, z3]) (st' := [.ref 131]) rfl ?_
  obtain ⟨q7, eq7, h⟩ := xbind_some h
  refine xcallV rfl xsh131 rfl rfl rfl (Nat.le_of_ble_eq_true rfl) (Nat.le_of_ble_eq_true rfl) (Nat.le_of_ble_eq_true rfl) rfl (g_M_term (d := d + 0) _ eq7) ?_
  refine xeb 2 (pc' := 145) (ls' := [.ref 131, .int v1, .int v2, z3]) (st' := [.int 4, .ref 131]) rfl ?_
  obtain ⟨q8, eq8, h⟩ := xbind_some h
  refine xcallV rfl xsh131 rfl rfl rfl (Nat.le_of_ble_eq_true rfl) (Nat.le_of_ble_eq_true rfl) (Nat.le_of_ble_eq_true rfl) rfl (g_M_must (d := d + 2) _ eq8) ?_
  refine xeb 1 (pc' := 149) (ls' := [.ref 131, .int v1, .int v2, z3]) (st' := [.ref 131]) rfl ?_
  refine xegf0 rfl xsh131 (by decide) ?_
  by_cases c9 : (q8 131 13) ≤ 0
  · rw [if_pos c9] at h
    refine xef_le_t rfl c9 ?_
    refine xeb 1 (pc' := 157) (ls' := [.ref 131, .int v1, .int v2, z3]) (st' := [.ref 131]) rfl ?_
    refine xegf2 rfl xsh131 (by decide) rfl ?_
    refine xeb 2 (pc' := 162) (ls' := [.ref 131, .int v1, .int v2, z3]) (st' := [.ref 131, .int 4, .ref 150]) rfl ?_
    refine xegf0 rfl xsh131 (by decide) ?_
    refine xeb 4 (pc' := 169) (ls' := [.ref 131, .int v1, .int v2, z3]) (st' := [.int v2, .int ((4 * (q8 131 19)) + v1), .ref 150]) rfl ?_
    obtain ⟨b10, h⟩ := xck_some h
    refine xeis rfl xsh150 b10 ?_
    obtain ⟨I11, hI11, h⟩ := xst_some h
    rw [← hI11]
    refine xeb 1 (pc' := 171) (ls' := [.ref 131, .int v1, .int v2, z3]) (st' := [.ref 131]) rfl ?_
    refine xegf2 rfl xsh131 (by decide) rfl ?_
    refine xeb 2 (pc' := 176) (ls' := [.ref 131, .int v1, .int v2, z3]) (st' := [.ref 131, .int 4, .ref 151]) rfl ?_
    refine xegf0 rfl xsh131 (by decide) ?_
    refine xeb 4 (pc' := 183) (ls' := [.ref 131, .int v1, .int v2, z3]) (st' := [.ref 131, .int ((4 * (I11 131 19)) + v1), .ref 151]) rfl ?_
    refine xegf0 rfl xsh131 (by decide) ?_
    obtain ⟨b12, h⟩ := xck_some h
    refine xeis rfl xsh151 b12 ?_
    obtain ⟨I13, hI13, h⟩ := xst_some h
    rw [← hI13]
    obtain rfl := Option.some.inj h
    exact xevret rfl
  · rw [if_neg c9] at h
    refine xef_le_f rfl c9 ?_
    obtain rfl := Option.some.inj h
    exact xevret rfl
noncomputable def f_M_tellLaw_110 (F : Nat) (k12 : Int32 → Int32 → Int32 → XI → Option (XI)) (v1 : Int32) (v2 : Int32) (v3 : Int32) (I : XI) : Option (XI) :=
  (f_M_must 30 I).bind fun q28 => (f_M_term F q28).bind fun q29 => (f_M_must 31 q29).bind fun q30 => k12 v1 v2 v3 q30
theorem g_M_tellLaw_110 {X : XX} {d : Nat} {L : XL} {F : Nat} {k12 : Int32 → Int32 → Int32 → XI → Option (XI)}  {r : XI} (hk12 : ∀ (v1 : Int32) (v2 : Int32) (v3 : Int32) (I : XI), k12 v1 v2 v3 I = some r → xEv X (d + 5) 101 12 [.ref 131, .int v1, .int v2, .int v3] [] I L none r L) {v1 : Int32} {v2 : Int32} {v3 : Int32} {I : XI} (h : f_M_tellLaw_110 F k12 v1 v2 v3 I = some r)  : xEv X (d + 5) 101 110 [.ref 131, .int v1, .int v2, .int v3] [] I L none r L := by
  rw [f_M_tellLaw_110] at h
  refine xeb 2 (pc' := 113) (ls' := [.ref 131, .int v1, .int v2, .int v3]) (st' := [.int 30, .ref 131]) rfl ?_
  obtain ⟨q28, eq28, h⟩ := xbind_some h
  refine xcallV rfl xsh131 rfl rfl rfl (Nat.le_of_ble_eq_true rfl) (Nat.le_of_ble_eq_true rfl) (Nat.le_of_ble_eq_true rfl) rfl (g_M_must (d := d + 2) _ eq28) ?_
  refine xeb 1 (pc' := 117) (ls' := [.ref 131, .int v1, .int v2, .int v3]) (st' := [.ref 131]) rfl ?_
  obtain ⟨q29, eq29, h⟩ := xbind_some h
  refine xcallV rfl xsh131 rfl rfl rfl (Nat.le_of_ble_eq_true rfl) (Nat.le_of_ble_eq_true rfl) (Nat.le_of_ble_eq_true rfl) rfl (g_M_term (d := d + 0) _ eq29) ?_
  refine xeb 2 (pc' := 123) (ls' := [.ref 131, .int v1, .int v2, .int v3]) (st' := [.int 31, .ref 131]) rfl ?_
  obtain ⟨q30, eq30, h⟩ := xbind_some h
  refine xcallV rfl xsh131 rfl rfl rfl (Nat.le_of_ble_eq_true rfl) (Nat.le_of_ble_eq_true rfl) (Nat.le_of_ble_eq_true rfl) rfl (g_M_must (d := d + 2) _ eq30) ?_
  refine xeb 1 (pc' := 12) (ls' := [.ref 131, .int v1, .int v2, .int v3]) (st' := []) rfl ?_
  exact hk12 v1 v2 v3 q30 h
noncomputable def f_M_tellLaw_38 (F : Nat) (k12 : Int32 → Int32 → Int32 → XI → Option (XI)) (v1 : Int32) (v2 : Int32) (v3 : Int32) (I : XI) : Option (XI) :=
  if (I 131 13) ≤ 0 then ((f_M_goesOn I).bind fun q17 => xck (xin (q17 131 34) 260) (xst (xput q17 152 (xN (q17 131 34)) (1 &&& 1)) fun I19 => xck (xin (I19 131 34) 260) (xst (xput I19 153 (xN (I19 131 34)) (I19 131 40)) fun I21 => (f_M_expression F I21).bind fun q22 => (f_M_must 13 q22).bind fun q23 => xck (xin (q23 131 34) 260) (xst (xput q23 154 (xN (q23 131 34)) (q23 131 40)) fun I25 => if (I25 131 13) = 0 then ((f_M_expression F I25).bind fun q27 => f_M_tellLaw_110 F k12 v1 v2 (v3 + 1) q27) else (f_M_tellLaw_110 F k12 v1 v2 (v3 + 1) I25))))) else (some I)
theorem g_M_tellLaw_38 {X : XX} {d : Nat} {L : XL} {F : Nat} {k12 : Int32 → Int32 → Int32 → XI → Option (XI)}  {r : XI} (hk12 : ∀ (v1 : Int32) (v2 : Int32) (v3 : Int32) (I : XI), k12 v1 v2 v3 I = some r → xEv X (d + 5) 101 12 [.ref 131, .int v1, .int v2, .int v3] [] I L none r L) {v1 : Int32} {v2 : Int32} {v3 : Int32} {I : XI} (h : f_M_tellLaw_38 F k12 v1 v2 v3 I = some r)  : xEv X (d + 5) 101 38 [.ref 131, .int v1, .int v2, .int v3] [] I L none r L := by
  rw [f_M_tellLaw_38] at h
  refine xeb 1 (pc' := 39) (ls' := [.ref 131, .int v1, .int v2, .int v3]) (st' := [.ref 131]) rfl ?_
  refine xegf0 rfl xsh131 (by decide) ?_
  by_cases c16 : (I 131 13) ≤ 0
  · rw [if_pos c16] at h
    refine xef_le_t rfl c16 ?_
    refine xeb 2 (pc' := 50) (ls' := [.ref 131, .int v1, .int v2, .int (v3 + 1)]) (st' := [.ref 131]) rfl ?_
    obtain ⟨q17, eq17, h⟩ := xbind_some h
    refine xcallV rfl xsh131 rfl rfl rfl (Nat.le_of_ble_eq_true rfl) (Nat.le_of_ble_eq_true rfl) (Nat.le_of_ble_eq_true rfl) rfl (g_M_goesOn (d := d + 3) _ eq17) ?_
    refine xeb 1 (pc' := 54) (ls' := [.ref 131, .int v1, .int v2, .int (v3 + 1)]) (st' := [.ref 131]) rfl ?_
    refine xegf2 rfl xsh131 (by decide) rfl ?_
    refine xeb 1 (pc' := 58) (ls' := [.ref 131, .int v1, .int v2, .int (v3 + 1)]) (st' := [.ref 131, .ref 152]) rfl ?_
    refine xegf0 rfl xsh131 (by decide) ?_
    refine xeb 1 (pc' := 62) (ls' := [.ref 131, .int v1, .int v2, .int (v3 + 1)]) (st' := [.int 1, .int (q17 131 34), .ref 152]) rfl ?_
    obtain ⟨b18, h⟩ := xck_some h
    refine xezs rfl xsh152 b18 ?_
    obtain ⟨I19, hI19, h⟩ := xst_some h
    rw [← hI19]
    refine xeb 1 (pc' := 64) (ls' := [.ref 131, .int v1, .int v2, .int (v3 + 1)]) (st' := [.ref 131]) rfl ?_
    refine xegf2 rfl xsh131 (by decide) rfl ?_
    refine xeb 1 (pc' := 68) (ls' := [.ref 131, .int v1, .int v2, .int (v3 + 1)]) (st' := [.ref 131, .ref 153]) rfl ?_
    refine xegf0 rfl xsh131 (by decide) ?_
    refine xeb 1 (pc' := 72) (ls' := [.ref 131, .int v1, .int v2, .int (v3 + 1)]) (st' := [.ref 131, .int (I19 131 34), .ref 153]) rfl ?_
    refine xegf0 rfl xsh131 (by decide) ?_
    obtain ⟨b20, h⟩ := xck_some h
    refine xeis rfl xsh153 b20 ?_
    obtain ⟨I21, hI21, h⟩ := xst_some h
    rw [← hI21]
    refine xeb 1 (pc' := 77) (ls' := [.ref 131, .int v1, .int v2, .int (v3 + 1)]) (st' := [.ref 131]) rfl ?_
    obtain ⟨q22, eq22, h⟩ := xbind_some h
    refine xcallV rfl xsh131 rfl rfl rfl (Nat.le_of_ble_eq_true rfl) (Nat.le_of_ble_eq_true rfl) (Nat.le_of_ble_eq_true rfl) rfl (g_M_expression (d := d + 1) _ eq22) ?_
    refine xeb 2 (pc' := 83) (ls' := [.ref 131, .int v1, .int v2, .int (v3 + 1)]) (st' := [.int 13, .ref 131]) rfl ?_
    obtain ⟨q23, eq23, h⟩ := xbind_some h
    refine xcallV rfl xsh131 rfl rfl rfl (Nat.le_of_ble_eq_true rfl) (Nat.le_of_ble_eq_true rfl) (Nat.le_of_ble_eq_true rfl) rfl (g_M_must (d := d + 2) _ eq23) ?_
    refine xeb 1 (pc' := 87) (ls' := [.ref 131, .int v1, .int v2, .int (v3 + 1)]) (st' := [.ref 131]) rfl ?_
    refine xegf2 rfl xsh131 (by decide) rfl ?_
    refine xeb 1 (pc' := 91) (ls' := [.ref 131, .int v1, .int v2, .int (v3 + 1)]) (st' := [.ref 131, .ref 154]) rfl ?_
    refine xegf0 rfl xsh131 (by decide) ?_
    refine xeb 1 (pc' := 95) (ls' := [.ref 131, .int v1, .int v2, .int (v3 + 1)]) (st' := [.ref 131, .int (q23 131 34), .ref 154]) rfl ?_
    refine xegf0 rfl xsh131 (by decide) ?_
    obtain ⟨b24, h⟩ := xck_some h
    refine xeis rfl xsh154 b24 ?_
    obtain ⟨I25, hI25, h⟩ := xst_some h
    rw [← hI25]
    refine xeb 1 (pc' := 100) (ls' := [.ref 131, .int v1, .int v2, .int (v3 + 1)]) (st' := [.ref 131]) rfl ?_
    refine xegf0 rfl xsh131 (by decide) ?_
    by_cases c26 : (I25 131 13) = 0
    · rw [if_pos c26] at h
      refine xef_ne_t rfl c26 ?_
      refine xeb 1 (pc' := 107) (ls' := [.ref 131, .int v1, .int v2, .int (v3 + 1)]) (st' := [.ref 131]) rfl ?_
      obtain ⟨q27, eq27, h⟩ := xbind_some h
      refine xcallV rfl xsh131 rfl rfl rfl (Nat.le_of_ble_eq_true rfl) (Nat.le_of_ble_eq_true rfl) (Nat.le_of_ble_eq_true rfl) rfl (g_M_expression (d := d + 1) _ eq27) ?_
      exact g_M_tellLaw_110 hk12 h
    · rw [if_neg c26] at h
      refine xef_ne_f rfl c26 ?_
      exact g_M_tellLaw_110 hk12 h
  · rw [if_neg c16] at h
    refine xef_le_f rfl c16 ?_
    obtain rfl := Option.some.inj h
    exact xevret rfl
noncomputable def f_M_tellLaw_12 (F : Nat) : Nat → Int32 → Int32 → Int32 → XI → Option (XI)
  | 0, _, _, _, _ => none
  | n + 1, v1, v2, v3, I =>
    if (I 131 13) = 0 then ((f_M_is I 29).bind fun q3 => if q3 = 0 then (f_M_tellLaw_129 F v1 v2 I) else (if v3 = 4 then ((f_M_fail 2 I).bind fun q15 => f_M_tellLaw_38 F (fun v1 v2 v3 I => f_M_tellLaw_12 F n v1 v2 v3 I) v1 v2 v3 q15) else (f_M_tellLaw_38 F (fun v1 v2 v3 I => f_M_tellLaw_12 F n v1 v2 v3 I) v1 v2 v3 I))) else (f_M_tellLaw_129 F v1 v2 I)
theorem g_M_tellLaw_12 {X : XX} {d : Nat} {L : XL} {F : Nat}  {r : XI}  : ∀ (n : Nat) (v1 : Int32) (v2 : Int32) (v3 : Int32) (I : XI), f_M_tellLaw_12 F n v1 v2 v3 I = some r → xEv X (d + 5) 101 12 [.ref 131, .int v1, .int v2, .int v3] [] I L none r L := by
  intro n
  induction n with
  | zero => intro v1 v2 v3 I h; rw [f_M_tellLaw_12] at h; cases h
  | succ n ih =>
    intro v1 v2 v3 I h 
    rw [f_M_tellLaw_12] at h
    refine xeb 1 (pc' := 13) (ls' := [.ref 131, .int v1, .int v2, .int v3]) (st' := [.ref 131]) rfl ?_
    refine xegf0 rfl xsh131 (by decide) ?_
    by_cases c2 : (I 131 13) = 0
    · rw [if_pos c2] at h
      refine xef_ne_t rfl c2 ?_
      refine xeb 2 (pc' := 22) (ls' := [.ref 131, .int v1, .int v2, .int v3]) (st' := [.int 29, .ref 131]) rfl ?_
      obtain ⟨q3, eq3, h⟩ := xbind_some h
      refine xcallV rfl xsh131 rfl rfl rfl (Nat.le_of_ble_eq_true rfl) (Nat.le_of_ble_eq_true rfl) (Nat.le_of_ble_eq_true rfl) rfl (g_M_is (d := d + 4) _ eq3) ?_
      by_cases c4 : q3 = 0
      · rw [if_pos c4] at h
        refine xef_eq_t rfl c4 ?_
        exact g_M_tellLaw_129 h _
      · rw [if_neg c4] at h
        refine xef_eq_f rfl c4 ?_
        refine xeb 2 (pc' := 30) (ls' := [.ref 131, .int v1, .int v2, .int v3]) (st' := [.int 4, .int v3]) rfl ?_
        by_cases c14 : v3 = 4
        · rw [if_pos c14] at h
          refine xei_ne_t rfl c14 ?_
          refine xeb 2 (pc' := 35) (ls' := [.ref 131, .int v1, .int v2, .int v3]) (st' := [.int 2, .ref 131]) rfl ?_
          obtain ⟨q15, eq15, h⟩ := xbind_some h
          refine xcallV rfl xsh131 rfl rfl rfl (Nat.le_of_ble_eq_true rfl) (Nat.le_of_ble_eq_true rfl) (Nat.le_of_ble_eq_true rfl) rfl (g_M_fail (d := d + 4) _ eq15) ?_
          exact g_M_tellLaw_38 (fun v1 v2 v3 I h' => ih v1 v2 v3 I h' ) h
        · rw [if_neg c14] at h
          refine xei_ne_f rfl c14 ?_
          exact g_M_tellLaw_38 (fun v1 v2 v3 I h' => ih v1 v2 v3 I h' ) h
    · rw [if_neg c2] at h
      refine xef_ne_f rfl c2 ?_
      exact g_M_tellLaw_129 h _
noncomputable def f_M_tellLaw (F : Nat) (a1 : Int32) (I : XI) : Option (XI) :=
  (f_M_must 5 I).bind fun q1 => f_M_tellLaw_12 F F a1 (q1 131 34) 0 q1
theorem g_M_tellLaw {X : XX} {d : Nat} {L : XL} {F : Nat} {a1 : Int32} {I : XI}  (r : XI) (h : f_M_tellLaw F a1 I = some r) : xEv X (d + 5) 101 0 [.ref 131, .int a1, .null, .null] [] I L none r L := by
  rw [f_M_tellLaw] at h
  refine xeb 2 (pc' := 2) (ls' := [.ref 131, .int a1, .null, .null]) (st' := [.int 5, .ref 131]) rfl ?_
  obtain ⟨q1, eq1, h⟩ := xbind_some h
  refine xcallV rfl xsh131 rfl rfl rfl (Nat.le_of_ble_eq_true rfl) (Nat.le_of_ble_eq_true rfl) (Nat.le_of_ble_eq_true rfl) rfl (g_M_must (d := d + 2) _ eq1) ?_
  refine xeb 1 (pc' := 6) (ls' := [.ref 131, .int a1, .null, .null]) (st' := [.ref 131]) rfl ?_
  refine xegf0 rfl xsh131 (by decide) ?_
  refine xeb 3 (pc' := 12) (ls' := [.ref 131, .int a1, .int (q1 131 34), .int 0]) (st' := []) rfl ?_
  exact g_M_tellLaw_12 F a1 (q1 131 34) 0 q1 h
