/-! the methods as functions, and that a run answers so (by gen6.py) -/
noncomputable def f_Reader_readUnit_82 (F : Nat) (C : Int32 → XI → Option XI) (v1 : Int32) (v3 : Int32) (I : XI) : Option (XI) :=
  if v3 = 40 then (if v1 < 6 then ((f_Reader_accept 40 I).bind fun q9 => if q9.1 = 0 then (some q9.2) else ((C (v1 + 1) q9.2).bind fun q11 => (f_Reader_accept 41 q11).bind fun q12 => some q12.2)) else ((f_Reader_fail 2 I).bind fun q13 => some q13)) else ((f_Reader_fail 1 I).bind fun q14 => some q14)
theorem g_Reader_readUnit_82 {X : XX} {d : Nat} {L : XL} {F : Nat} {C : Int32 → XI → Option XI} (hC : ∀ (k : Nat) (a : Int32) (J r : XI), C a J = some r → xEv X (d + k) 66 0 [.ref 6, .int a, .null, .null] [] J L none r L) {r : XI}  {v1 : Int32} {v3 : Int32} {I : XI} (h : f_Reader_readUnit_82 F C v1 v3 I = some r) (z2 : Value) : xEv X (d + 2) 64 82 [.ref 6, .int v1, z2, .int v3] [] I L none r L := by
  rw [f_Reader_readUnit_82] at h
  refine xeb 2 (pc' := 85) (ls' := [.ref 6, .int v1, z2, .int v3]) (st' := [.int 40, .int v3]) rfl ?_
  by_cases c7 : v3 = 40
  · rw [if_pos c7] at h
    refine xei_eq_t rfl c7 ?_
    refine xeb 2 (pc' := 99) (ls' := [.ref 6, .int v1, z2, .int v3]) (st' := [.int 6, .int v1]) rfl ?_
    by_cases c8 : v1 < 6
    · rw [if_pos c8] at h
      refine xei_lt_t rfl c8 ?_
      refine xeb 2 (pc' := 113) (ls' := [.ref 6, .int v1, z2, .int v3]) (st' := [.int 40, .ref 6]) rfl ?_
      obtain ⟨q9, eq9, h⟩ := xbind_some h
      refine xcallV rfl xsh6 rfl rfl rfl (Nat.le_of_ble_eq_true rfl) (Nat.le_of_ble_eq_true rfl) (Nat.le_of_ble_eq_true rfl) rfl (g_Reader_accept (d := d + 0) _ eq9) ?_
      by_cases c10 : q9.1 = 0
      · rw [if_pos c10] at h
        refine xef_eq_t rfl c10 ?_
        obtain rfl := Option.some.inj h
        exact xevret rfl
      · rw [if_neg c10] at h
        refine xef_eq_f rfl c10 ?_
        refine xeb 4 (pc' := 123) (ls' := [.ref 6, .int v1, z2, .int v3]) (st' := [.int (v1 + 1), .ref 6]) rfl ?_
        obtain ⟨q11, eq11, h⟩ := xbind_some h
        refine xcallV rfl xsh6 rfl rfl rfl (Nat.le_of_ble_eq_true rfl) (Nat.le_of_ble_eq_true rfl) (Nat.le_of_ble_eq_true rfl) rfl (hC 1 _ _ _ eq11) ?_
        refine xeb 2 (pc' := 129) (ls' := [.ref 6, .int v1, z2, .int v3]) (st' := [.int 41, .ref 6]) rfl ?_
        obtain ⟨q12, eq12, h⟩ := xbind_some h
        refine xcallV rfl xsh6 rfl rfl rfl (Nat.le_of_ble_eq_true rfl) (Nat.le_of_ble_eq_true rfl) (Nat.le_of_ble_eq_true rfl) rfl (g_Reader_accept (d := d + 0) _ eq12) ?_
        refine xeb 1 (pc' := 133) (ls' := [.ref 6, .int v1, z2, .int v3]) (st' := []) rfl ?_
        obtain rfl := Option.some.inj h
        exact xevret rfl
    · rw [if_neg c8] at h
      refine xei_lt_f rfl c8 ?_
      refine xeb 2 (pc' := 104) (ls' := [.ref 6, .int v1, z2, .int v3]) (st' := [.int 2, .ref 6]) rfl ?_
      obtain ⟨q13, eq13, h⟩ := xbind_some h
      refine xcallV rfl xsh6 rfl rfl rfl (Nat.le_of_ble_eq_true rfl) (Nat.le_of_ble_eq_true rfl) (Nat.le_of_ble_eq_true rfl) rfl (g_Reader_fail (d := d + 1) _ eq13) ?_
      refine xeb 1 (pc' := 133) (ls' := [.ref 6, .int v1, z2, .int v3]) (st' := []) rfl ?_
      obtain rfl := Option.some.inj h
      exact xevret rfl
  · rw [if_neg c7] at h
    refine xei_eq_f rfl c7 ?_
    refine xeb 2 (pc' := 90) (ls' := [.ref 6, .int v1, z2, .int v3]) (st' := [.int 1, .ref 6]) rfl ?_
    obtain ⟨q14, eq14, h⟩ := xbind_some h
    refine xcallV rfl xsh6 rfl rfl rfl (Nat.le_of_ble_eq_true rfl) (Nat.le_of_ble_eq_true rfl) (Nat.le_of_ble_eq_true rfl) rfl (g_Reader_fail (d := d + 1) _ eq14) ?_
    refine xeb 1 (pc' := 133) (ls' := [.ref 6, .int v1, z2, .int v3]) (st' := []) rfl ?_
    obtain rfl := Option.some.inj h
    exact xevret rfl
noncomputable def f_Reader_readUnit (F : Nat) (C : Int32 → XI → Option XI) (a1 : Int32) (I : XI) : Option (XI) :=
  (f_Reader_kind I).bind fun q1 => if q1 = 3 then ((f_Reader_accept 3 I).bind fun q3 => xck (xin (I 6 2) 401) ((f_Laws_emit 11 (q3.2 5 (xN (I 6 2))) q3.2).bind fun q5 => some q5)) else (if q1 < 112 then (f_Reader_readUnit_82 F C a1 q1 I) else (if 120 < q1 then (f_Reader_readUnit_82 F C a1 q1 I) else ((f_Reader_accept q1 I).bind fun q16 => (f_Laws_emit 11 ((10000 + q1) - 112) q16.2).bind fun q17 => some q17)))
theorem g_Reader_readUnit {X : XX} {d : Nat} {L : XL} {F : Nat} {C : Int32 → XI → Option XI} {a1 : Int32} {I : XI} (hC : ∀ (k : Nat) (a : Int32) (J r : XI), C a J = some r → xEv X (d + k) 66 0 [.ref 6, .int a, .null, .null] [] J L none r L) (r : XI) (h : f_Reader_readUnit F C a1 I = some r) : xEv X (d + 2) 64 0 [.ref 6, .int a1, .null, .null] [] I L none r L := by
  rw [f_Reader_readUnit] at h
  refine xeb 1 (pc' := 1) (ls' := [.ref 6, .int a1, .null, .null]) (st' := [.ref 6]) rfl ?_
  refine xegf0 rfl xsh6 (by decide) ?_
  refine xeb 2 (pc' := 6) (ls' := [.ref 6, .int a1, .int (I 6 2), .null]) (st' := [.ref 6]) rfl ?_
  obtain ⟨q1, eq1, h⟩ := xbind_some h
  refine xcallV rfl xsh6 rfl rfl rfl (Nat.le_of_ble_eq_true rfl) (Nat.le_of_ble_eq_true rfl) (Nat.le_of_ble_eq_true rfl) rfl (g_Reader_kind (d := d + 1) _ eq1) ?_
  refine xeb 3 (pc' := 12) (ls' := [.ref 6, .int a1, .int (I 6 2), .int q1]) (st' := [.int 3, .int q1]) rfl ?_
  by_cases c2 : q1 = 3
  · rw [if_pos c2] at h
    refine xei_ne_t rfl c2 ?_
    refine xeb 2 (pc' := 17) (ls' := [.ref 6, .int a1, .int (I 6 2), .int q1]) (st' := [.int 3, .ref 6]) rfl ?_
    obtain ⟨q3, eq3, h⟩ := xbind_some h
    refine xcallV rfl xsh6 rfl rfl rfl (Nat.le_of_ble_eq_true rfl) (Nat.le_of_ble_eq_true rfl) (Nat.le_of_ble_eq_true rfl) rfl (g_Reader_accept (d := d + 0) _ eq3) ?_
    refine xeb 2 (pc' := 22) (ls' := [.ref 6, .int a1, .int (I 6 2), .int q1]) (st' := [.ref 6]) rfl ?_
    refine xegf2 rfl xsh6 (by decide) rfl ?_
    refine xegf12 rfl xsh7 (by decide) rfl ?_
    refine xeb 1 (pc' := 29) (ls' := [.ref 6, .int a1, .int (I 6 2), .int q1]) (st' := [.ref 6, .ref 11]) rfl ?_
    refine xegf2 rfl xsh6 (by decide) rfl ?_
    refine xegf12 rfl xsh1 (by decide) rfl ?_
    refine xeb 1 (pc' := 36) (ls' := [.ref 6, .int a1, .int (I 6 2), .int q1]) (st' := [.int (I 6 2), .ref 5, .ref 11]) rfl ?_
    obtain ⟨b4, h⟩ := xck_some h
    refine xeia rfl xsh5 b4 ?_
    obtain ⟨q5, eq5, h⟩ := xbind_some h
    refine xcallV rfl xsh11 rfl rfl rfl (Nat.le_of_ble_eq_true rfl) (Nat.le_of_ble_eq_true rfl) (Nat.le_of_ble_eq_true rfl) rfl (g_Laws_emit (d := d + 1) xis11 _ eq5) ?_
    refine xeb 1 (pc' := 133) (ls' := [.ref 6, .int a1, .int (I 6 2), .int q1]) (st' := []) rfl ?_
    obtain rfl := Option.some.inj h
    exact xevret rfl
  · rw [if_neg c2] at h
    refine xei_ne_f rfl c2 ?_
    refine xeb 2 (pc' := 46) (ls' := [.ref 6, .int a1, .int (I 6 2), .int q1]) (st' := [.int 112, .int q1]) rfl ?_
    by_cases c6 : q1 < 112
    · rw [if_pos c6] at h
      refine xei_lt_t rfl c6 ?_
      exact g_Reader_readUnit_82 hC h _
    · rw [if_neg c6] at h
      refine xei_lt_f rfl c6 ?_
      refine xeb 2 (pc' := 52) (ls' := [.ref 6, .int a1, .int (I 6 2), .int q1]) (st' := [.int 120, .int q1]) rfl ?_
      by_cases c15 : 120 < q1
      · rw [if_pos c15] at h
        refine xei_gt_t rfl c15 ?_
        exact g_Reader_readUnit_82 hC h _
      · rw [if_neg c15] at h
        refine xei_gt_f rfl c15 ?_
        refine xeb 2 (pc' := 57) (ls' := [.ref 6, .int a1, .int (I 6 2), .int q1]) (st' := [.int q1, .ref 6]) rfl ?_
        obtain ⟨q16, eq16, h⟩ := xbind_some h
        refine xcallV rfl xsh6 rfl rfl rfl (Nat.le_of_ble_eq_true rfl) (Nat.le_of_ble_eq_true rfl) (Nat.le_of_ble_eq_true rfl) rfl (g_Reader_accept (d := d + 0) _ eq16) ?_
        refine xeb 2 (pc' := 62) (ls' := [.ref 6, .int a1, .int (I 6 2), .int q1]) (st' := [.ref 6]) rfl ?_
        refine xegf2 rfl xsh6 (by decide) rfl ?_
        refine xegf12 rfl xsh7 (by decide) rfl ?_
        refine xeb 5 (pc' := 76) (ls' := [.ref 6, .int a1, .int (I 6 2), .int q1]) (st' := [.int ((10000 + q1) - 112), .ref 11]) rfl ?_
        obtain ⟨q17, eq17, h⟩ := xbind_some h
        refine xcallV rfl xsh11 rfl rfl rfl (Nat.le_of_ble_eq_true rfl) (Nat.le_of_ble_eq_true rfl) (Nat.le_of_ble_eq_true rfl) rfl (g_Laws_emit (d := d + 1) xis11 _ eq17) ?_
        refine xeb 1 (pc' := 133) (ls' := [.ref 6, .int a1, .int (I 6 2), .int q1]) (st' := []) rfl ?_
        obtain rfl := Option.some.inj h
        exact xevret rfl
noncomputable def f_Reader_readProduct_39 (F : Nat) (C : Int32 → XI → Option XI) (k7 : Int32 → Int32 → XI → Option (XI)) (v1 : Int32) (v2 : Int32) (I : XI) : Option (XI) :=
  (f_Reader_kind I).bind fun q6 => (f_Reader_accept q6 I).bind fun q7 => (f_Reader_readUnit F C v1 q7.2).bind fun q8 => (f_Laws_emit 11 (20000 + q6) q8).bind fun q9 => k7 v1 (v2 + 1) q9
theorem g_Reader_readProduct_39 {X : XX} {d : Nat} {L : XL} {F : Nat} {C : Int32 → XI → Option XI} {k7 : Int32 → Int32 → XI → Option (XI)} (hC : ∀ (k : Nat) (a : Int32) (J r : XI), C a J = some r → xEv X (d + k) 66 0 [.ref 6, .int a, .null, .null] [] J L none r L) {r : XI} (hk7 : ∀ (v1 : Int32) (v2 : Int32) (I : XI), k7 v1 v2 I = some r → ∀ (z3 : Value), xEv X (d + 3) 65 7 [.ref 6, .int v1, .int v2, z3] [] I L none r L) {v1 : Int32} {v2 : Int32} {I : XI} (h : f_Reader_readProduct_39 F C k7 v1 v2 I = some r) (z3 : Value) : xEv X (d + 3) 65 39 [.ref 6, .int v1, .int v2, z3] [] I L none r L := by
  rw [f_Reader_readProduct_39] at h
  refine xeb 1 (pc' := 40) (ls' := [.ref 6, .int v1, .int v2, z3]) (st' := [.ref 6]) rfl ?_
  obtain ⟨q6, eq6, h⟩ := xbind_some h
  refine xcallV rfl xsh6 rfl rfl rfl (Nat.le_of_ble_eq_true rfl) (Nat.le_of_ble_eq_true rfl) (Nat.le_of_ble_eq_true rfl) rfl (g_Reader_kind (d := d + 2) _ eq6) ?_
  refine xeb 3 (pc' := 46) (ls' := [.ref 6, .int v1, .int v2, .int q6]) (st' := [.int q6, .ref 6]) rfl ?_
  obtain ⟨q7, eq7, h⟩ := xbind_some h
  refine xcallV rfl xsh6 rfl rfl rfl (Nat.le_of_ble_eq_true rfl) (Nat.le_of_ble_eq_true rfl) (Nat.le_of_ble_eq_true rfl) rfl (g_Reader_accept (d := d + 1) _ eq7) ?_
  refine xeb 3 (pc' := 52) (ls' := [.ref 6, .int v1, .int v2, .int q6]) (st' := [.int v1, .ref 6]) rfl ?_
  obtain ⟨q8, eq8, h⟩ := xbind_some h
  refine xcallV rfl xsh6 rfl rfl rfl (Nat.le_of_ble_eq_true rfl) (Nat.le_of_ble_eq_true rfl) (Nat.le_of_ble_eq_true rfl) rfl (g_Reader_readUnit (d := d + 0) (fun k a J r h => Nat.add_assoc d 0 k ▸ hC (0 + k) a J r h) _ eq8) ?_
  refine xeb 1 (pc' := 56) (ls' := [.ref 6, .int v1, .int v2, .int q6]) (st' := [.ref 6]) rfl ?_
  refine xegf2 rfl xsh6 (by decide) rfl ?_
  refine xegf12 rfl xsh7 (by decide) rfl ?_
  refine xeb 3 (pc' := 67) (ls' := [.ref 6, .int v1, .int v2, .int q6]) (st' := [.int (20000 + q6), .ref 11]) rfl ?_
  obtain ⟨q9, eq9, h⟩ := xbind_some h
  refine xcallV rfl xsh11 rfl rfl rfl (Nat.le_of_ble_eq_true rfl) (Nat.le_of_ble_eq_true rfl) (Nat.le_of_ble_eq_true rfl) rfl (g_Laws_emit (d := d + 2) xis11 _ eq9) ?_
  refine xeb 2 (pc' := 7) (ls' := [.ref 6, .int v1, .int (v2 + 1), .int q6]) (st' := []) rfl ?_
  exact hk7 v1 (v2 + 1) q9 h _
noncomputable def f_Reader_readProduct_7 (F : Nat) (C : Int32 → XI → Option XI) : Nat → Int32 → Int32 → XI → Option (XI)
  | 0, _, _, _ => none
  | n + 1, v1, v2, I =>
    if 400 ≤ v2 then (some I) else (if (I 6 3) = 0 then ((f_Reader_kind I).bind fun q4 => if q4 = 42 then (f_Reader_readProduct_39 F C (fun v1 v2 I => f_Reader_readProduct_7 F C n v1 v2 I) v1 v2 I) else ((f_Reader_kind I).bind fun q10 => if q10 = 47 then (f_Reader_readProduct_39 F C (fun v1 v2 I => f_Reader_readProduct_7 F C n v1 v2 I) v1 v2 I) else (some I))) else (some I))
theorem g_Reader_readProduct_7 {X : XX} {d : Nat} {L : XL} {F : Nat} {C : Int32 → XI → Option XI} (hC : ∀ (k : Nat) (a : Int32) (J r : XI), C a J = some r → xEv X (d + k) 66 0 [.ref 6, .int a, .null, .null] [] J L none r L) {r : XI}  : ∀ (n : Nat) (v1 : Int32) (v2 : Int32) (I : XI), f_Reader_readProduct_7 F C n v1 v2 I = some r → ∀ (z3 : Value), xEv X (d + 3) 65 7 [.ref 6, .int v1, .int v2, z3] [] I L none r L := by
  intro n
  induction n with
  | zero => intro v1 v2 I h; rw [f_Reader_readProduct_7] at h; cases h
  | succ n ih =>
    intro v1 v2 I h z3
    rw [f_Reader_readProduct_7] at h
    refine xeb 2 (pc' := 11) (ls' := [.ref 6, .int v1, .int v2, z3]) (st' := [.int 400, .int v2]) rfl ?_
    by_cases c2 : 400 ≤ v2
    · rw [if_pos c2] at h
      refine xei_ge_t rfl c2 ?_
      obtain rfl := Option.some.inj h
      exact xevret rfl
    · rw [if_neg c2] at h
      refine xei_ge_f rfl c2 ?_
      refine xeb 1 (pc' := 15) (ls' := [.ref 6, .int v1, .int v2, z3]) (st' := [.ref 6]) rfl ?_
      refine xegf0 rfl xsh6 (by decide) ?_
      by_cases c3 : (I 6 3) = 0
      · rw [if_pos c3] at h
        refine xef_ne_t rfl c3 ?_
        refine xeb 1 (pc' := 22) (ls' := [.ref 6, .int v1, .int v2, z3]) (st' := [.ref 6]) rfl ?_
        obtain ⟨q4, eq4, h⟩ := xbind_some h
        refine xcallV rfl xsh6 rfl rfl rfl (Nat.le_of_ble_eq_true rfl) (Nat.le_of_ble_eq_true rfl) (Nat.le_of_ble_eq_true rfl) rfl (g_Reader_kind (d := d + 2) _ eq4) ?_
        refine xeb 1 (pc' := 27) (ls' := [.ref 6, .int v1, .int v2, z3]) (st' := [.int 42, .int q4]) rfl ?_
        by_cases c5 : q4 = 42
        · rw [if_pos c5] at h
          refine xei_eq_t rfl c5 ?_
          exact g_Reader_readProduct_39 hC (fun v1 v2 I h' z3 => ih v1 v2 I h' z3) h _
        · rw [if_neg c5] at h
          refine xei_eq_f rfl c5 ?_
          refine xeb 1 (pc' := 31) (ls' := [.ref 6, .int v1, .int v2, z3]) (st' := [.ref 6]) rfl ?_
          obtain ⟨q10, eq10, h⟩ := xbind_some h
          refine xcallV rfl xsh6 rfl rfl rfl (Nat.le_of_ble_eq_true rfl) (Nat.le_of_ble_eq_true rfl) (Nat.le_of_ble_eq_true rfl) rfl (g_Reader_kind (d := d + 2) _ eq10) ?_
          refine xeb 1 (pc' := 36) (ls' := [.ref 6, .int v1, .int v2, z3]) (st' := [.int 47, .int q10]) rfl ?_
          by_cases c11 : q10 = 47
          · rw [if_pos c11] at h
            refine xei_ne_t rfl c11 ?_
            exact g_Reader_readProduct_39 hC (fun v1 v2 I h' z3 => ih v1 v2 I h' z3) h _
          · rw [if_neg c11] at h
            refine xei_ne_f rfl c11 ?_
            obtain rfl := Option.some.inj h
            exact xevret rfl
      · rw [if_neg c3] at h
        refine xef_ne_f rfl c3 ?_
        obtain rfl := Option.some.inj h
        exact xevret rfl
noncomputable def f_Reader_readProduct (F : Nat) (C : Int32 → XI → Option XI) (a1 : Int32) (I : XI) : Option (XI) :=
  (f_Reader_readUnit F C a1 I).bind fun q1 => f_Reader_readProduct_7 F C F a1 0 q1
theorem g_Reader_readProduct {X : XX} {d : Nat} {L : XL} {F : Nat} {C : Int32 → XI → Option XI} {a1 : Int32} {I : XI} (hC : ∀ (k : Nat) (a : Int32) (J r : XI), C a J = some r → xEv X (d + k) 66 0 [.ref 6, .int a, .null, .null] [] J L none r L) (r : XI) (h : f_Reader_readProduct F C a1 I = some r) : xEv X (d + 3) 65 0 [.ref 6, .int a1, .null, .null] [] I L none r L := by
  rw [f_Reader_readProduct] at h
  refine xeb 2 (pc' := 2) (ls' := [.ref 6, .int a1, .null, .null]) (st' := [.int a1, .ref 6]) rfl ?_
  obtain ⟨q1, eq1, h⟩ := xbind_some h
  refine xcallV rfl xsh6 rfl rfl rfl (Nat.le_of_ble_eq_true rfl) (Nat.le_of_ble_eq_true rfl) (Nat.le_of_ble_eq_true rfl) rfl (g_Reader_readUnit (d := d + 0) (fun k a J r h => Nat.add_assoc d 0 k ▸ hC (0 + k) a J r h) _ eq1) ?_
  refine xeb 2 (pc' := 7) (ls' := [.ref 6, .int a1, .int 0, .null]) (st' := []) rfl ?_
  exact g_Reader_readProduct_7 hC F a1 0 q1 h _
noncomputable def f_Reader_readSum_39 (F : Nat) (C : Int32 → XI → Option XI) (k7 : Int32 → Int32 → XI → Option (XI)) (v1 : Int32) (v2 : Int32) (I : XI) : Option (XI) :=
  (f_Reader_kind I).bind fun q6 => (f_Reader_accept q6 I).bind fun q7 => (f_Reader_readProduct F C v1 q7.2).bind fun q8 => (f_Laws_emit 11 (20000 + q6) q8).bind fun q9 => k7 v1 (v2 + 1) q9
theorem g_Reader_readSum_39 {X : XX} {d : Nat} {L : XL} {F : Nat} {C : Int32 → XI → Option XI} {k7 : Int32 → Int32 → XI → Option (XI)} (hC : ∀ (k : Nat) (a : Int32) (J r : XI), C a J = some r → xEv X (d + k) 66 0 [.ref 6, .int a, .null, .null] [] J L none r L) {r : XI} (hk7 : ∀ (v1 : Int32) (v2 : Int32) (I : XI), k7 v1 v2 I = some r → ∀ (z3 : Value), xEv X (d + 4) 66 7 [.ref 6, .int v1, .int v2, z3] [] I L none r L) {v1 : Int32} {v2 : Int32} {I : XI} (h : f_Reader_readSum_39 F C k7 v1 v2 I = some r) (z3 : Value) : xEv X (d + 4) 66 39 [.ref 6, .int v1, .int v2, z3] [] I L none r L := by
  rw [f_Reader_readSum_39] at h
  refine xeb 1 (pc' := 40) (ls' := [.ref 6, .int v1, .int v2, z3]) (st' := [.ref 6]) rfl ?_
  obtain ⟨q6, eq6, h⟩ := xbind_some h
  refine xcallV rfl xsh6 rfl rfl rfl (Nat.le_of_ble_eq_true rfl) (Nat.le_of_ble_eq_true rfl) (Nat.le_of_ble_eq_true rfl) rfl (g_Reader_kind (d := d + 3) _ eq6) ?_
  refine xeb 3 (pc' := 46) (ls' := [.ref 6, .int v1, .int v2, .int q6]) (st' := [.int q6, .ref 6]) rfl ?_
  obtain ⟨q7, eq7, h⟩ := xbind_some h
  refine xcallV rfl xsh6 rfl rfl rfl (Nat.le_of_ble_eq_true rfl) (Nat.le_of_ble_eq_true rfl) (Nat.le_of_ble_eq_true rfl) rfl (g_Reader_accept (d := d + 2) _ eq7) ?_
  refine xeb 3 (pc' := 52) (ls' := [.ref 6, .int v1, .int v2, .int q6]) (st' := [.int v1, .ref 6]) rfl ?_
  obtain ⟨q8, eq8, h⟩ := xbind_some h
  refine xcallV rfl xsh6 rfl rfl rfl (Nat.le_of_ble_eq_true rfl) (Nat.le_of_ble_eq_true rfl) (Nat.le_of_ble_eq_true rfl) rfl (g_Reader_readProduct (d := d + 0) (fun k a J r h => Nat.add_assoc d 0 k ▸ hC (0 + k) a J r h) _ eq8) ?_
  refine xeb 1 (pc' := 56) (ls' := [.ref 6, .int v1, .int v2, .int q6]) (st' := [.ref 6]) rfl ?_
  refine xegf2 rfl xsh6 (by decide) rfl ?_
  refine xegf12 rfl xsh7 (by decide) rfl ?_
  refine xeb 3 (pc' := 67) (ls' := [.ref 6, .int v1, .int v2, .int q6]) (st' := [.int (20000 + q6), .ref 11]) rfl ?_
  obtain ⟨q9, eq9, h⟩ := xbind_some h
  refine xcallV rfl xsh11 rfl rfl rfl (Nat.le_of_ble_eq_true rfl) (Nat.le_of_ble_eq_true rfl) (Nat.le_of_ble_eq_true rfl) rfl (g_Laws_emit (d := d + 3) xis11 _ eq9) ?_
  refine xeb 2 (pc' := 7) (ls' := [.ref 6, .int v1, .int (v2 + 1), .int q6]) (st' := []) rfl ?_
  exact hk7 v1 (v2 + 1) q9 h _
noncomputable def f_Reader_readSum_7 (F : Nat) (C : Int32 → XI → Option XI) : Nat → Int32 → Int32 → XI → Option (XI)
  | 0, _, _, _ => none
  | n + 1, v1, v2, I =>
    if 400 ≤ v2 then (some I) else (if (I 6 3) = 0 then ((f_Reader_kind I).bind fun q4 => if q4 = 43 then (f_Reader_readSum_39 F C (fun v1 v2 I => f_Reader_readSum_7 F C n v1 v2 I) v1 v2 I) else ((f_Reader_kind I).bind fun q10 => if q10 = 45 then (f_Reader_readSum_39 F C (fun v1 v2 I => f_Reader_readSum_7 F C n v1 v2 I) v1 v2 I) else (some I))) else (some I))
theorem g_Reader_readSum_7 {X : XX} {d : Nat} {L : XL} {F : Nat} {C : Int32 → XI → Option XI} (hC : ∀ (k : Nat) (a : Int32) (J r : XI), C a J = some r → xEv X (d + k) 66 0 [.ref 6, .int a, .null, .null] [] J L none r L) {r : XI}  : ∀ (n : Nat) (v1 : Int32) (v2 : Int32) (I : XI), f_Reader_readSum_7 F C n v1 v2 I = some r → ∀ (z3 : Value), xEv X (d + 4) 66 7 [.ref 6, .int v1, .int v2, z3] [] I L none r L := by
  intro n
  induction n with
  | zero => intro v1 v2 I h; rw [f_Reader_readSum_7] at h; cases h
  | succ n ih =>
    intro v1 v2 I h z3
    rw [f_Reader_readSum_7] at h
    refine xeb 2 (pc' := 11) (ls' := [.ref 6, .int v1, .int v2, z3]) (st' := [.int 400, .int v2]) rfl ?_
    by_cases c2 : 400 ≤ v2
    · rw [if_pos c2] at h
      refine xei_ge_t rfl c2 ?_
      obtain rfl := Option.some.inj h
      exact xevret rfl
    · rw [if_neg c2] at h
      refine xei_ge_f rfl c2 ?_
      refine xeb 1 (pc' := 15) (ls' := [.ref 6, .int v1, .int v2, z3]) (st' := [.ref 6]) rfl ?_
      refine xegf0 rfl xsh6 (by decide) ?_
      by_cases c3 : (I 6 3) = 0
      · rw [if_pos c3] at h
        refine xef_ne_t rfl c3 ?_
        refine xeb 1 (pc' := 22) (ls' := [.ref 6, .int v1, .int v2, z3]) (st' := [.ref 6]) rfl ?_
        obtain ⟨q4, eq4, h⟩ := xbind_some h
        refine xcallV rfl xsh6 rfl rfl rfl (Nat.le_of_ble_eq_true rfl) (Nat.le_of_ble_eq_true rfl) (Nat.le_of_ble_eq_true rfl) rfl (g_Reader_kind (d := d + 3) _ eq4) ?_
        refine xeb 1 (pc' := 27) (ls' := [.ref 6, .int v1, .int v2, z3]) (st' := [.int 43, .int q4]) rfl ?_
        by_cases c5 : q4 = 43
        · rw [if_pos c5] at h
          refine xei_eq_t rfl c5 ?_
          exact g_Reader_readSum_39 hC (fun v1 v2 I h' z3 => ih v1 v2 I h' z3) h _
        · rw [if_neg c5] at h
          refine xei_eq_f rfl c5 ?_
          refine xeb 1 (pc' := 31) (ls' := [.ref 6, .int v1, .int v2, z3]) (st' := [.ref 6]) rfl ?_
          obtain ⟨q10, eq10, h⟩ := xbind_some h
          refine xcallV rfl xsh6 rfl rfl rfl (Nat.le_of_ble_eq_true rfl) (Nat.le_of_ble_eq_true rfl) (Nat.le_of_ble_eq_true rfl) rfl (g_Reader_kind (d := d + 3) _ eq10) ?_
          refine xeb 1 (pc' := 36) (ls' := [.ref 6, .int v1, .int v2, z3]) (st' := [.int 45, .int q10]) rfl ?_
          by_cases c11 : q10 = 45
          · rw [if_pos c11] at h
            refine xei_ne_t rfl c11 ?_
            exact g_Reader_readSum_39 hC (fun v1 v2 I h' z3 => ih v1 v2 I h' z3) h _
          · rw [if_neg c11] at h
            refine xei_ne_f rfl c11 ?_
            obtain rfl := Option.some.inj h
            exact xevret rfl
      · rw [if_neg c3] at h
        refine xef_ne_f rfl c3 ?_
        obtain rfl := Option.some.inj h
        exact xevret rfl
noncomputable def f_Reader_readSum (F : Nat) (C : Int32 → XI → Option XI) (a1 : Int32) (I : XI) : Option (XI) :=
  (f_Reader_readProduct F C a1 I).bind fun q1 => f_Reader_readSum_7 F C F a1 0 q1
theorem g_Reader_readSum {X : XX} {d : Nat} {L : XL} {F : Nat} {C : Int32 → XI → Option XI} {a1 : Int32} {I : XI} (hC : ∀ (k : Nat) (a : Int32) (J r : XI), C a J = some r → xEv X (d + k) 66 0 [.ref 6, .int a, .null, .null] [] J L none r L) (r : XI) (h : f_Reader_readSum F C a1 I = some r) : xEv X (d + 4) 66 0 [.ref 6, .int a1, .null, .null] [] I L none r L := by
  rw [f_Reader_readSum] at h
  refine xeb 2 (pc' := 2) (ls' := [.ref 6, .int a1, .null, .null]) (st' := [.int a1, .ref 6]) rfl ?_
  obtain ⟨q1, eq1, h⟩ := xbind_some h
  refine xcallV rfl xsh6 rfl rfl rfl (Nat.le_of_ble_eq_true rfl) (Nat.le_of_ble_eq_true rfl) (Nat.le_of_ble_eq_true rfl) rfl (g_Reader_readProduct (d := d + 0) (fun k a J r h => Nat.add_assoc d 0 k ▸ hC (0 + k) a J r h) _ eq1) ?_
  refine xeb 2 (pc' := 7) (ls' := [.ref 6, .int a1, .int 0, .null]) (st' := []) rfl ?_
  exact g_Reader_readSum_7 hC F a1 0 q1 h _
noncomputable def f_Reader_readSumN (F : Nat) : Nat → Int32 → XI → Option XI
  | 0, _, _ => none
  | n + 1, a, I => f_Reader_readSum F (f_Reader_readSumN F n) a I
theorem g_Reader_readSumN {X : XX} {L : XL} {F : Nat} : ∀ (n d : Nat) (a : Int32) (I r : XI), f_Reader_readSumN F n a I = some r → xEv X (d + 4 * n) 66 0 [.ref 6, .int a, .null, .null] [] I L none r L := by
  intro n
  induction n with
  | zero => intro d a I r h; rw [f_Reader_readSumN] at h; cases h
  | succ n ih =>
    intro d a I r h
    rw [f_Reader_readSumN] at h
    have hc : ∀ (k : Nat) (a : Int32) (J r : XI), f_Reader_readSumN F n a J = some r → xEv X (d + 4 * n + k) 66 0 [.ref 6, .int a, .null, .null] [] J L none r L := by
      intro k a J r h
      rw [Nat.add_right_comm]
      exact ih (d + k) a J r h
    have hg := g_Reader_readSum (X := X) (d := d + 4 * n) (L := L) hc _ h
    rw [Nat.mul_succ, ← Nat.add_assoc]
    exact hg
noncomputable def f_Reader_readLaw_137 (F : Nat) (v1 : Int32) (v3 : Int32) (I : XI) : Option (XI) :=
  (f_Reader_readSumN F 8 0 I).bind fun q4 => (f_Reader_accept 59 q4).bind fun q5 => (f_Laws_emit 11 20000 q5.2).bind fun q6 => xck (xin (v1 - 103) 4) (xst (xput q6 13 (xN (v1 - 103)) v3) fun I8 => some I8)
theorem g_Reader_readLaw_137 {X : XX} {d : Nat} {L : XL} {F : Nat}  {r : XI}  {v1 : Int32} {v3 : Int32} {I : XI} (h : f_Reader_readLaw_137 F v1 v3 I = some r) (z4 : Value) (z5 : Value) : xEv X (d + 33) 68 137 [.ref 6, .int v1, .ref 11, .int v3, z4, z5] [] I L none r L := by
  rw [f_Reader_readLaw_137] at h
  refine xeb 2 (pc' := 139) (ls' := [.ref 6, .int v1, .ref 11, .int v3, z4, z5]) (st' := [.int 0, .ref 6]) rfl ?_
  obtain ⟨q4, eq4, h⟩ := xbind_some h
  refine xcallV rfl xsh6 rfl rfl rfl (Nat.le_of_ble_eq_true rfl) (Nat.le_of_ble_eq_true rfl) (Nat.le_of_ble_eq_true rfl) rfl (g_Reader_readSumN 8 (d + 0) _ _ _ eq4) ?_
  refine xeb 2 (pc' := 145) (ls' := [.ref 6, .int v1, .ref 11, .int v3, z4, z5]) (st' := [.int 59, .ref 6]) rfl ?_
  obtain ⟨q5, eq5, h⟩ := xbind_some h
  refine xcallV rfl xsh6 rfl rfl rfl (Nat.le_of_ble_eq_true rfl) (Nat.le_of_ble_eq_true rfl) (Nat.le_of_ble_eq_true rfl) rfl (g_Reader_accept (d := d + 31) _ eq5) ?_
  refine xeb 3 (pc' := 153) (ls' := [.ref 6, .int v1, .ref 11, .int v3, z4, z5]) (st' := [.int 20000, .ref 11]) rfl ?_
  obtain ⟨q6, eq6, h⟩ := xbind_some h
  refine xcallV rfl xsh11 rfl rfl rfl (Nat.le_of_ble_eq_true rfl) (Nat.le_of_ble_eq_true rfl) (Nat.le_of_ble_eq_true rfl) rfl (g_Laws_emit (d := d + 32) xis11 _ eq6) ?_
  refine xeb 1 (pc' := 157) (ls' := [.ref 6, .int v1, .ref 11, .int v3, z4, z5]) (st' := [.ref 11]) rfl ?_
  refine xegf12 rfl xsh11 (by decide) rfl ?_
  refine xeb 4 (pc' := 165) (ls' := [.ref 6, .int v1, .ref 11, .int v3, z4, z5]) (st' := [.int v3, .int (v1 - 103), .ref 13]) rfl ?_
  obtain ⟨b7, h⟩ := xck_some h
  refine xeis rfl xsh13 b7 ?_
  obtain ⟨I8, hI8, h⟩ := xst_some h
  rw [← hI8]
  obtain rfl := Option.some.inj h
  exact xevret rfl
noncomputable def f_Reader_readLaw_62 (F : Nat) (k29 : Int32 → Int32 → Int32 → XI → Option (XI)) (v1 : Int32) (v3 : Int32) (v4 : Int32) (I : XI) : Option (XI) :=
  (f_Reader_accept 109 I).bind fun q14 => (f_Reader_readSumN F 8 0 q14.2).bind fun q15 => (f_Reader_accept 60 q15).bind fun q16 => (f_Reader_readSumN F 8 0 q16.2).bind fun q17 => (f_Reader_accept 110 q17).bind fun q18 => (f_Laws_emit 11 30000 q18.2).bind fun q19 => (f_Reader_readSumN F 8 0 q19).bind fun q20 => (f_Reader_accept 111 q20).bind fun q21 => (f_Laws_emit 11 20000 q21.2).bind fun q22 => (f_Laws_aim 11 (q18.2 11 1) q22).bind fun q23 => k29 v1 v3 (v4 + 1) q23
theorem g_Reader_readLaw_62 {X : XX} {d : Nat} {L : XL} {F : Nat} {k29 : Int32 → Int32 → Int32 → XI → Option (XI)}  {r : XI} (hk29 : ∀ (v1 : Int32) (v3 : Int32) (v4 : Int32) (I : XI), k29 v1 v3 v4 I = some r → ∀ (z5 : Value), xEv X (d + 33) 68 29 [.ref 6, .int v1, .ref 11, .int v3, .int v4, z5] [] I L none r L) {v1 : Int32} {v3 : Int32} {v4 : Int32} {I : XI} (h : f_Reader_readLaw_62 F k29 v1 v3 v4 I = some r) (z5 : Value) : xEv X (d + 33) 68 62 [.ref 6, .int v1, .ref 11, .int v3, .int v4, z5] [] I L none r L := by
  rw [f_Reader_readLaw_62] at h
  refine xeb 2 (pc' := 65) (ls' := [.ref 6, .int v1, .ref 11, .int v3, .int v4, z5]) (st' := [.int 109, .ref 6]) rfl ?_
  obtain ⟨q14, eq14, h⟩ := xbind_some h
  refine xcallV rfl xsh6 rfl rfl rfl (Nat.le_of_ble_eq_true rfl) (Nat.le_of_ble_eq_true rfl) (Nat.le_of_ble_eq_true rfl) rfl (g_Reader_accept (d := d + 31) _ eq14) ?_
  refine xeb 3 (pc' := 71) (ls' := [.ref 6, .int v1, .ref 11, .int v3, .int v4, z5]) (st' := [.int 0, .ref 6]) rfl ?_
  obtain ⟨q15, eq15, h⟩ := xbind_some h
  refine xcallV rfl xsh6 rfl rfl rfl (Nat.le_of_ble_eq_true rfl) (Nat.le_of_ble_eq_true rfl) (Nat.le_of_ble_eq_true rfl) rfl (g_Reader_readSumN 8 (d + 0) _ _ _ eq15) ?_
  refine xeb 2 (pc' := 77) (ls' := [.ref 6, .int v1, .ref 11, .int v3, .int v4, z5]) (st' := [.int 60, .ref 6]) rfl ?_
  obtain ⟨q16, eq16, h⟩ := xbind_some h
  refine xcallV rfl xsh6 rfl rfl rfl (Nat.le_of_ble_eq_true rfl) (Nat.le_of_ble_eq_true rfl) (Nat.le_of_ble_eq_true rfl) rfl (g_Reader_accept (d := d + 31) _ eq16) ?_
  refine xeb 3 (pc' := 83) (ls' := [.ref 6, .int v1, .ref 11, .int v3, .int v4, z5]) (st' := [.int 0, .ref 6]) rfl ?_
  obtain ⟨q17, eq17, h⟩ := xbind_some h
  refine xcallV rfl xsh6 rfl rfl rfl (Nat.le_of_ble_eq_true rfl) (Nat.le_of_ble_eq_true rfl) (Nat.le_of_ble_eq_true rfl) rfl (g_Reader_readSumN 8 (d + 0) _ _ _ eq17) ?_
  refine xeb 2 (pc' := 89) (ls' := [.ref 6, .int v1, .ref 11, .int v3, .int v4, z5]) (st' := [.int 110, .ref 6]) rfl ?_
  obtain ⟨q18, eq18, h⟩ := xbind_some h
  refine xcallV rfl xsh6 rfl rfl rfl (Nat.le_of_ble_eq_true rfl) (Nat.le_of_ble_eq_true rfl) (Nat.le_of_ble_eq_true rfl) rfl (g_Reader_accept (d := d + 31) _ eq18) ?_
  refine xeb 2 (pc' := 94) (ls' := [.ref 6, .int v1, .ref 11, .int v3, .int v4, z5]) (st' := [.ref 11]) rfl ?_
  refine xegf10 rfl xsh11 (by decide) ?_
  refine xeb 3 (pc' := 103) (ls' := [.ref 6, .int v1, .ref 11, .int v3, .int v4, .int (q18.2 11 1)]) (st' := [.int 30000, .ref 11]) rfl ?_
  obtain ⟨q19, eq19, h⟩ := xbind_some h
  refine xcallV rfl xsh11 rfl rfl rfl (Nat.le_of_ble_eq_true rfl) (Nat.le_of_ble_eq_true rfl) (Nat.le_of_ble_eq_true rfl) rfl (g_Laws_emit (d := d + 32) xis11 _ eq19) ?_
  refine xeb 2 (pc' := 108) (ls' := [.ref 6, .int v1, .ref 11, .int v3, .int v4, .int (q18.2 11 1)]) (st' := [.int 0, .ref 6]) rfl ?_
  obtain ⟨q20, eq20, h⟩ := xbind_some h
  refine xcallV rfl xsh6 rfl rfl rfl (Nat.le_of_ble_eq_true rfl) (Nat.le_of_ble_eq_true rfl) (Nat.le_of_ble_eq_true rfl) rfl (g_Reader_readSumN 8 (d + 0) _ _ _ eq20) ?_
  refine xeb 2 (pc' := 114) (ls' := [.ref 6, .int v1, .ref 11, .int v3, .int v4, .int (q18.2 11 1)]) (st' := [.int 111, .ref 6]) rfl ?_
  obtain ⟨q21, eq21, h⟩ := xbind_some h
  refine xcallV rfl xsh6 rfl rfl rfl (Nat.le_of_ble_eq_true rfl) (Nat.le_of_ble_eq_true rfl) (Nat.le_of_ble_eq_true rfl) rfl (g_Reader_accept (d := d + 31) _ eq21) ?_
  refine xeb 3 (pc' := 122) (ls' := [.ref 6, .int v1, .ref 11, .int v3, .int v4, .int (q18.2 11 1)]) (st' := [.int 20000, .ref 11]) rfl ?_
  obtain ⟨q22, eq22, h⟩ := xbind_some h
  refine xcallV rfl xsh11 rfl rfl rfl (Nat.le_of_ble_eq_true rfl) (Nat.le_of_ble_eq_true rfl) (Nat.le_of_ble_eq_true rfl) rfl (g_Laws_emit (d := d + 32) xis11 _ eq22) ?_
  refine xeb 2 (pc' := 128) (ls' := [.ref 6, .int v1, .ref 11, .int v3, .int v4, .int (q18.2 11 1)]) (st' := [.int (q18.2 11 1), .ref 11]) rfl ?_
  obtain ⟨q23, eq23, h⟩ := xbind_some h
  refine xcallV rfl xsh11 rfl rfl rfl (Nat.le_of_ble_eq_true rfl) (Nat.le_of_ble_eq_true rfl) (Nat.le_of_ble_eq_true rfl) rfl (g_Laws_aim (d := d + 32) xis11 _ eq23) ?_
  refine xeb 2 (pc' := 29) (ls' := [.ref 6, .int v1, .ref 11, .int v3, .int (v4 + 1), .int (q18.2 11 1)]) (st' := []) rfl ?_
  exact hk29 v1 v3 (v4 + 1) q23 h _
noncomputable def f_Reader_readLaw_29 (F : Nat) : Nat → Int32 → Int32 → Int32 → XI → Option (XI)
  | 0, _, _, _, _ => none
  | n + 1, v1, v3, v4, I =>
    if 4 < v4 then (f_Reader_readLaw_137 F v1 v3 I) else (if (I 6 3) = 0 then ((f_Reader_kind I).bind fun q10 => if q10 = 109 then (if v4 = 4 then ((f_Reader_fail 2 I).bind fun q13 => f_Reader_readLaw_62 F (fun v1 v3 v4 I => f_Reader_readLaw_29 F n v1 v3 v4 I) v1 v3 v4 q13) else (f_Reader_readLaw_62 F (fun v1 v3 v4 I => f_Reader_readLaw_29 F n v1 v3 v4 I) v1 v3 v4 I)) else (f_Reader_readLaw_137 F v1 v3 I)) else (f_Reader_readLaw_137 F v1 v3 I))
theorem g_Reader_readLaw_29 {X : XX} {d : Nat} {L : XL} {F : Nat}  {r : XI}  : ∀ (n : Nat) (v1 : Int32) (v3 : Int32) (v4 : Int32) (I : XI), f_Reader_readLaw_29 F n v1 v3 v4 I = some r → ∀ (z5 : Value), xEv X (d + 33) 68 29 [.ref 6, .int v1, .ref 11, .int v3, .int v4, z5] [] I L none r L := by
  intro n
  induction n with
  | zero => intro v1 v3 v4 I h; rw [f_Reader_readLaw_29] at h; cases h
  | succ n ih =>
    intro v1 v3 v4 I h z5
    rw [f_Reader_readLaw_29] at h
    refine xeb 2 (pc' := 32) (ls' := [.ref 6, .int v1, .ref 11, .int v3, .int v4, z5]) (st' := [.int 4, .int v4]) rfl ?_
    by_cases c3 : 4 < v4
    · rw [if_pos c3] at h
      refine xei_gt_t rfl c3 ?_
      exact g_Reader_readLaw_137 h _ _
    · rw [if_neg c3] at h
      refine xei_gt_f rfl c3 ?_
      refine xeb 1 (pc' := 36) (ls' := [.ref 6, .int v1, .ref 11, .int v3, .int v4, z5]) (st' := [.ref 6]) rfl ?_
      refine xegf0 rfl xsh6 (by decide) ?_
      by_cases c9 : (I 6 3) = 0
      · rw [if_pos c9] at h
        refine xef_ne_t rfl c9 ?_
        refine xeb 1 (pc' := 43) (ls' := [.ref 6, .int v1, .ref 11, .int v3, .int v4, z5]) (st' := [.ref 6]) rfl ?_
        obtain ⟨q10, eq10, h⟩ := xbind_some h
        refine xcallV rfl xsh6 rfl rfl rfl (Nat.le_of_ble_eq_true rfl) (Nat.le_of_ble_eq_true rfl) (Nat.le_of_ble_eq_true rfl) rfl (g_Reader_kind (d := d + 32) _ eq10) ?_
        refine xeb 1 (pc' := 48) (ls' := [.ref 6, .int v1, .ref 11, .int v3, .int v4, z5]) (st' := [.int 109, .int q10]) rfl ?_
        by_cases c11 : q10 = 109
        · rw [if_pos c11] at h
          refine xei_ne_t rfl c11 ?_
          refine xeb 2 (pc' := 54) (ls' := [.ref 6, .int v1, .ref 11, .int v3, .int v4, z5]) (st' := [.int 4, .int v4]) rfl ?_
          by_cases c12 : v4 = 4
          · rw [if_pos c12] at h
            refine xei_ne_t rfl c12 ?_
            refine xeb 2 (pc' := 59) (ls' := [.ref 6, .int v1, .ref 11, .int v3, .int v4, z5]) (st' := [.int 2, .ref 6]) rfl ?_
            obtain ⟨q13, eq13, h⟩ := xbind_some h
            refine xcallV rfl xsh6 rfl rfl rfl (Nat.le_of_ble_eq_true rfl) (Nat.le_of_ble_eq_true rfl) (Nat.le_of_ble_eq_true rfl) rfl (g_Reader_fail (d := d + 32) _ eq13) ?_
            exact g_Reader_readLaw_62 (fun v1 v3 v4 I h' z5 => ih v1 v3 v4 I h' z5) h _
          · rw [if_neg c12] at h
            refine xei_ne_f rfl c12 ?_
            exact g_Reader_readLaw_62 (fun v1 v3 v4 I h' z5 => ih v1 v3 v4 I h' z5) h _
        · rw [if_neg c11] at h
          refine xei_ne_f rfl c11 ?_
          exact g_Reader_readLaw_137 h _ _
      · rw [if_neg c9] at h
        refine xef_ne_f rfl c9 ?_
        exact g_Reader_readLaw_137 h _ _
noncomputable def f_Reader_readLaw (F : Nat) (a1 : Int32) (I : XI) : Option (XI) :=
  (f_Reader_accept a1 I).bind fun q1 => (f_Reader_accept 61 q1.2).bind fun q2 => f_Reader_readLaw_29 F F a1 (I 11 1) 0 q2.2
theorem g_Reader_readLaw {X : XX} {d : Nat} {L : XL} {F : Nat} {a1 : Int32} {I : XI}  (r : XI) (h : f_Reader_readLaw F a1 I = some r) : xEv X (d + 33) 68 0 [.ref 6, .int a1, .null, .null, .null, .null] [] I L none r L := by
  rw [f_Reader_readLaw] at h
  refine xeb 1 (pc' := 1) (ls' := [.ref 6, .int a1, .null, .null, .null, .null]) (st' := [.ref 6]) rfl ?_
  refine xegf2 rfl xsh6 (by decide) rfl ?_
  refine xegf12 rfl xsh7 (by decide) rfl ?_
  refine xeb 2 (pc' := 9) (ls' := [.ref 6, .int a1, .ref 11, .null, .null, .null]) (st' := [.ref 11]) rfl ?_
  refine xegf10 rfl xsh11 (by decide) ?_
  refine xeb 3 (pc' := 15) (ls' := [.ref 6, .int a1, .ref 11, .int (I 11 1), .null, .null]) (st' := [.int a1, .ref 6]) rfl ?_
  obtain ⟨q1, eq1, h⟩ := xbind_some h
  refine xcallV rfl xsh6 rfl rfl rfl (Nat.le_of_ble_eq_true rfl) (Nat.le_of_ble_eq_true rfl) (Nat.le_of_ble_eq_true rfl) rfl (g_Reader_accept (d := d + 31) _ eq1) ?_
  refine xeb 3 (pc' := 22) (ls' := [.ref 6, .int a1, .ref 11, .int (I 11 1), .null, .null]) (st' := [.int 61, .ref 6]) rfl ?_
  obtain ⟨q2, eq2, h⟩ := xbind_some h
  refine xcallV rfl xsh6 rfl rfl rfl (Nat.le_of_ble_eq_true rfl) (Nat.le_of_ble_eq_true rfl) (Nat.le_of_ble_eq_true rfl) rfl (g_Reader_accept (d := d + 31) _ eq2) ?_
  refine xeb 3 (pc' := 29) (ls' := [.ref 6, .int a1, .ref 11, .int (I 11 1), .int 0, .null]) (st' := []) rfl ?_
  exact g_Reader_readLaw_29 F a1 (I 11 1) 0 q2.2 h _
noncomputable def f_Reader_readText_230 (F : Nat) (I : XI) : Option (Int32 × XI) :=
  some ((I 6 3), I)
theorem g_Reader_readText_230 {X : XX} {d : Nat} {L : XL} {F : Nat}  {r : Int32 × XI}  {I : XI} (h : f_Reader_readText_230 F I = some r) (z1 : Value) (z2 : Value) : xEv X (d + 34) 72 230 [.ref 6, z1, z2] [] I L (some (.int r.1)) r.2 L := by
  rw [f_Reader_readText_230] at h
  refine xeb 1 (pc' := 231) (ls' := [.ref 6, z1, z2]) (st' := [.ref 6]) rfl ?_
  refine xegf0 rfl xsh6 (by decide) ?_
  obtain rfl := Option.some.inj h
  exact xeiret rfl rfl
noncomputable def f_Reader_readText_207 (F : Nat) (I : XI) : Option (Int32 × XI) :=
  if (I 6 3) = 0 then (xst (xput I 6 3 (I 6 5)) fun I13 => xst (xput I13 6 4 (I13 6 6)) fun I14 => f_Reader_readText_230 F I14) else (f_Reader_readText_230 F I)
theorem g_Reader_readText_207 {X : XX} {d : Nat} {L : XL} {F : Nat}  {r : Int32 × XI}  {I : XI} (h : f_Reader_readText_207 F I = some r) (z1 : Value) (z2 : Value) : xEv X (d + 34) 72 207 [.ref 6, z1, z2] [] I L (some (.int r.1)) r.2 L := by
  rw [f_Reader_readText_207] at h
  refine xeb 1 (pc' := 208) (ls' := [.ref 6, z1, z2]) (st' := [.ref 6]) rfl ?_
  refine xegf0 rfl xsh6 (by decide) ?_
  by_cases c12 : (I 6 3) = 0
  · rw [if_pos c12] at h
    refine xef_ne_t rfl c12 ?_
    refine xeb 2 (pc' := 216) (ls' := [.ref 6, z1, z2]) (st' := [.ref 6, .ref 6]) rfl ?_
    refine xegf0 rfl xsh6 (by decide) ?_
    refine xepf0 rfl xsh6 (by decide) ?_
    obtain ⟨I13, hI13, h⟩ := xst_some h
    rw [← hI13]
    refine xeb 2 (pc' := 224) (ls' := [.ref 6, z1, z2]) (st' := [.ref 6, .ref 6]) rfl ?_
    refine xegf0 rfl xsh6 (by decide) ?_
    refine xepf0 rfl xsh6 (by decide) ?_
    obtain ⟨I14, hI14, h⟩ := xst_some h
    rw [← hI14]
    exact g_Reader_readText_230 h _ _
  · rw [if_neg c12] at h
    refine xef_ne_f rfl c12 ?_
    exact g_Reader_readText_230 h _ _
noncomputable def f_Reader_readText_187 (F : Nat) (I : XI) : Option (Int32 × XI) :=
  (f_Reader_knobsAstray F I).bind fun q10 => if q10 = 0 then (f_Reader_readText_207 F I) else ((f_Reader_mark 6 (I 1 1) I).bind fun q15 => f_Reader_readText_207 F q15)
theorem g_Reader_readText_187 {X : XX} {d : Nat} {L : XL} {F : Nat}  {r : Int32 × XI}  {I : XI} (h : f_Reader_readText_187 F I = some r) (z1 : Value) (z2 : Value) : xEv X (d + 34) 72 187 [.ref 6, z1, z2] [] I L (some (.int r.1)) r.2 L := by
  rw [f_Reader_readText_187] at h
  refine xeb 1 (pc' := 188) (ls' := [.ref 6, z1, z2]) (st' := [.ref 6]) rfl ?_
  obtain ⟨q10, eq10, h⟩ := xbind_some h
  refine xcallV rfl xsh6 rfl rfl rfl (Nat.le_of_ble_eq_true rfl) (Nat.le_of_ble_eq_true rfl) (Nat.le_of_ble_eq_true rfl) rfl (g_Reader_knobsAstray (d := d + 32) _ eq10) ?_
  by_cases c11 : q10 = 0
  · rw [if_pos c11] at h
    refine xef_eq_t rfl c11 ?_
    exact g_Reader_readText_207 h _ _
  · rw [if_neg c11] at h
    refine xef_eq_f rfl c11 ?_
    refine xeb 3 (pc' := 198) (ls' := [.ref 6, z1, z2]) (st' := [.ref 6, .int 6, .ref 6]) rfl ?_
    refine xegf2 rfl xsh6 (by decide) rfl ?_
    refine xegf10 rfl xsh1 (by decide) ?_
    obtain ⟨q15, eq15, h⟩ := xbind_some h
    refine xcallV rfl xsh6 rfl rfl rfl (Nat.le_of_ble_eq_true rfl) (Nat.le_of_ble_eq_true rfl) (Nat.le_of_ble_eq_true rfl) rfl (g_Reader_mark (d := d + 33) _ eq15) ?_
    exact g_Reader_readText_207 h _ _
noncomputable def f_Reader_readText_129 (F : Nat) (k44 : Int32 → XI → Option (Int32 × XI)) (v1 : Int32) (v2 : Int32) (I : XI) : Option (Int32 × XI) :=
  if v2 = 107 then ((f_Reader_readOneNumber v2 100 I).bind fun q28 => xst (xput q28.2 7 3 q28.1) fun I29 => k44 (v1 + 1) I29) else (if v2 = 108 then ((f_Reader_readOneNumber v2 9999 I).bind fun q31 => xst (xput q31.2 7 4 q31.1) fun I32 => k44 (v1 + 1) I32) else ((f_Reader_fail 1 I).bind fun q33 => k44 (v1 + 1) q33))
theorem g_Reader_readText_129 {X : XX} {d : Nat} {L : XL} {F : Nat} {k44 : Int32 → XI → Option (Int32 × XI)}  {r : Int32 × XI} (hk44 : ∀ (v1 : Int32) (I : XI), k44 v1 I = some r → ∀ (z2 : Value), xEv X (d + 34) 72 44 [.ref 6, .int v1, z2] [] I L (some (.int r.1)) r.2 L) {v1 : Int32} {v2 : Int32} {I : XI} (h : f_Reader_readText_129 F k44 v1 v2 I = some r)  : xEv X (d + 34) 72 129 [.ref 6, .int v1, .int v2] [] I L (some (.int r.1)) r.2 L := by
  rw [f_Reader_readText_129] at h
  refine xeb 2 (pc' := 132) (ls' := [.ref 6, .int v1, .int v2]) (st' := [.int 107, .int v2]) rfl ?_
  by_cases c27 : v2 = 107
  · rw [if_pos c27] at h
    refine xei_ne_t rfl c27 ?_
    refine xeb 1 (pc' := 136) (ls' := [.ref 6, .int v1, .int v2]) (st' := [.ref 6]) rfl ?_
    refine xegf2 rfl xsh6 (by decide) rfl ?_
    refine xeb 3 (pc' := 143) (ls' := [.ref 6, .int v1, .int v2]) (st' := [.int 100, .int v2, .ref 6, .ref 7]) rfl ?_
    obtain ⟨q28, eq28, h⟩ := xbind_some h
    refine xcallV rfl xsh6 rfl rfl rfl (Nat.le_of_ble_eq_true rfl) (Nat.le_of_ble_eq_true rfl) (Nat.le_of_ble_eq_true rfl) rfl (g_Reader_readOneNumber (d := d + 30) _ eq28) ?_
    refine xepf10 rfl xsh7 (by decide) ?_
    obtain ⟨I29, hI29, h⟩ := xst_some h
    rw [← hI29]
    refine xeb 3 (pc' := 44) (ls' := [.ref 6, .int (v1 + 1), .int v2]) (st' := []) rfl ?_
    exact hk44 (v1 + 1) I29 h _
  · rw [if_neg c27] at h
    refine xei_ne_f rfl c27 ?_
    refine xeb 2 (pc' := 155) (ls' := [.ref 6, .int v1, .int v2]) (st' := [.int 108, .int v2]) rfl ?_
    by_cases c30 : v2 = 108
    · rw [if_pos c30] at h
      refine xei_ne_t rfl c30 ?_
      refine xeb 1 (pc' := 159) (ls' := [.ref 6, .int v1, .int v2]) (st' := [.ref 6]) rfl ?_
      refine xegf2 rfl xsh6 (by decide) rfl ?_
      refine xeb 3 (pc' := 167) (ls' := [.ref 6, .int v1, .int v2]) (st' := [.int 9999, .int v2, .ref 6, .ref 7]) rfl ?_
      obtain ⟨q31, eq31, h⟩ := xbind_some h
      refine xcallV rfl xsh6 rfl rfl rfl (Nat.le_of_ble_eq_true rfl) (Nat.le_of_ble_eq_true rfl) (Nat.le_of_ble_eq_true rfl) rfl (g_Reader_readOneNumber (d := d + 30) _ eq31) ?_
      refine xepf10 rfl xsh7 (by decide) ?_
      obtain ⟨I32, hI32, h⟩ := xst_some h
      rw [← hI32]
      refine xeb 3 (pc' := 44) (ls' := [.ref 6, .int (v1 + 1), .int v2]) (st' := []) rfl ?_
      exact hk44 (v1 + 1) I32 h _
    · rw [if_neg c30] at h
      refine xei_ne_f rfl c30 ?_
      refine xeb 2 (pc' := 178) (ls' := [.ref 6, .int v1, .int v2]) (st' := [.int 1, .ref 6]) rfl ?_
      obtain ⟨q33, eq33, h⟩ := xbind_some h
      refine xcallV rfl xsh6 rfl rfl rfl (Nat.le_of_ble_eq_true rfl) (Nat.le_of_ble_eq_true rfl) (Nat.le_of_ble_eq_true rfl) rfl (g_Reader_fail (d := d + 33) _ eq33) ?_
      refine xeb 2 (pc' := 44) (ls' := [.ref 6, .int (v1 + 1), .int v2]) (st' := []) rfl ?_
      exact hk44 (v1 + 1) q33 h _
noncomputable def f_Reader_readText_44 (F : Nat) : Nat → Int32 → XI → Option (Int32 × XI)
  | 0, _, _ => none
  | n + 1, v1, I =>
    if 400 < v1 then (f_Reader_readText_187 F I) else (if (I 6 3) = 0 then ((f_Reader_kind I).bind fun q17 => if q17 = 0 then (f_Reader_readText_187 F I) else ((f_Reader_kind I).bind fun q19 => if q19 = 100 then ((f_Reader_readRow F I).bind fun q21 => f_Reader_readText_44 F n (v1 + 1) q21) else (if q19 = 101 then ((f_Reader_readKnob I).bind fun q23 => f_Reader_readText_44 F n (v1 + 1) q23) else (if q19 = 102 then ((f_Reader_readSpare F I).bind fun q25 => f_Reader_readText_44 F n (v1 + 1) q25) else (if q19 < 103 then (f_Reader_readText_129 F (fun v1 I => f_Reader_readText_44 F n v1 I) v1 q19 I) else (if 106 < q19 then (f_Reader_readText_129 F (fun v1 I => f_Reader_readText_44 F n v1 I) v1 q19 I) else ((f_Reader_readLaw F q19 I).bind fun q35 => f_Reader_readText_44 F n (v1 + 1) q35))))))) else (f_Reader_readText_187 F I))
theorem g_Reader_readText_44 {X : XX} {d : Nat} {L : XL} {F : Nat}  {r : Int32 × XI}  : ∀ (n : Nat) (v1 : Int32) (I : XI), f_Reader_readText_44 F n v1 I = some r → ∀ (z2 : Value), xEv X (d + 34) 72 44 [.ref 6, .int v1, z2] [] I L (some (.int r.1)) r.2 L := by
  intro n
  induction n with
  | zero => intro v1 I h; rw [f_Reader_readText_44] at h; cases h
  | succ n ih =>
    intro v1 I h z2
    rw [f_Reader_readText_44] at h
    refine xeb 2 (pc' := 48) (ls' := [.ref 6, .int v1, z2]) (st' := [.int 400, .int v1]) rfl ?_
    by_cases c9 : 400 < v1
    · rw [if_pos c9] at h
      refine xei_gt_t rfl c9 ?_
      exact g_Reader_readText_187 h _ _
    · rw [if_neg c9] at h
      refine xei_gt_f rfl c9 ?_
      refine xeb 1 (pc' := 52) (ls' := [.ref 6, .int v1, z2]) (st' := [.ref 6]) rfl ?_
      refine xegf0 rfl xsh6 (by decide) ?_
      by_cases c16 : (I 6 3) = 0
      · rw [if_pos c16] at h
        refine xef_ne_t rfl c16 ?_
        refine xeb 1 (pc' := 59) (ls' := [.ref 6, .int v1, z2]) (st' := [.ref 6]) rfl ?_
        obtain ⟨q17, eq17, h⟩ := xbind_some h
        refine xcallV rfl xsh6 rfl rfl rfl (Nat.le_of_ble_eq_true rfl) (Nat.le_of_ble_eq_true rfl) (Nat.le_of_ble_eq_true rfl) rfl (g_Reader_kind (d := d + 33) _ eq17) ?_
        by_cases c18 : q17 = 0
        · rw [if_pos c18] at h
          refine xef_eq_t rfl c18 ?_
          exact g_Reader_readText_187 h _ _
        · rw [if_neg c18] at h
          refine xef_eq_f rfl c18 ?_
          refine xeb 1 (pc' := 66) (ls' := [.ref 6, .int v1, z2]) (st' := [.ref 6]) rfl ?_
          obtain ⟨q19, eq19, h⟩ := xbind_some h
          refine xcallV rfl xsh6 rfl rfl rfl (Nat.le_of_ble_eq_true rfl) (Nat.le_of_ble_eq_true rfl) (Nat.le_of_ble_eq_true rfl) rfl (g_Reader_kind (d := d + 33) _ eq19) ?_
          refine xeb 3 (pc' := 73) (ls' := [.ref 6, .int v1, .int q19]) (st' := [.int 100, .int q19]) rfl ?_
          by_cases c20 : q19 = 100
          · rw [if_pos c20] at h
            refine xei_ne_t rfl c20 ?_
            refine xeb 1 (pc' := 77) (ls' := [.ref 6, .int v1, .int q19]) (st' := [.ref 6]) rfl ?_
            obtain ⟨q21, eq21, h⟩ := xbind_some h
            refine xcallV rfl xsh6 rfl rfl rfl (Nat.le_of_ble_eq_true rfl) (Nat.le_of_ble_eq_true rfl) (Nat.le_of_ble_eq_true rfl) rfl (g_Reader_readRow (d := d + 31) _ eq21) ?_
            refine xeb 3 (pc' := 44) (ls' := [.ref 6, .int (v1 + 1), .int q19]) (st' := []) rfl ?_
            exact ih (v1 + 1) q21 h _
          · rw [if_neg c20] at h
            refine xei_ne_f rfl c20 ?_
            refine xeb 2 (pc' := 86) (ls' := [.ref 6, .int v1, .int q19]) (st' := [.int 101, .int q19]) rfl ?_
            by_cases c22 : q19 = 101
            · rw [if_pos c22] at h
              refine xei_ne_t rfl c22 ?_
              refine xeb 1 (pc' := 90) (ls' := [.ref 6, .int v1, .int q19]) (st' := [.ref 6]) rfl ?_
              obtain ⟨q23, eq23, h⟩ := xbind_some h
              refine xcallV rfl xsh6 rfl rfl rfl (Nat.le_of_ble_eq_true rfl) (Nat.le_of_ble_eq_true rfl) (Nat.le_of_ble_eq_true rfl) rfl (g_Reader_readKnob (d := d + 29) _ eq23) ?_
              refine xeb 3 (pc' := 44) (ls' := [.ref 6, .int (v1 + 1), .int q19]) (st' := []) rfl ?_
              exact ih (v1 + 1) q23 h _
            · rw [if_neg c22] at h
              refine xei_ne_f rfl c22 ?_
              refine xeb 2 (pc' := 99) (ls' := [.ref 6, .int v1, .int q19]) (st' := [.int 102, .int q19]) rfl ?_
              by_cases c24 : q19 = 102
              · rw [if_pos c24] at h
                refine xei_ne_t rfl c24 ?_
                refine xeb 1 (pc' := 103) (ls' := [.ref 6, .int v1, .int q19]) (st' := [.ref 6]) rfl ?_
                obtain ⟨q25, eq25, h⟩ := xbind_some h
                refine xcallV rfl xsh6 rfl rfl rfl (Nat.le_of_ble_eq_true rfl) (Nat.le_of_ble_eq_true rfl) (Nat.le_of_ble_eq_true rfl) rfl (g_Reader_readSpare (d := d + 29) _ eq25) ?_
                refine xeb 3 (pc' := 44) (ls' := [.ref 6, .int (v1 + 1), .int q19]) (st' := []) rfl ?_
                exact ih (v1 + 1) q25 h _
              · rw [if_neg c24] at h
                refine xei_ne_f rfl c24 ?_
                refine xeb 2 (pc' := 112) (ls' := [.ref 6, .int v1, .int q19]) (st' := [.int 103, .int q19]) rfl ?_
                by_cases c26 : q19 < 103
                · rw [if_pos c26] at h
                  refine xei_lt_t rfl c26 ?_
                  exact g_Reader_readText_129 (fun v1 I h' z2 => ih v1 I h' z2) h
                · rw [if_neg c26] at h
                  refine xei_lt_f rfl c26 ?_
                  refine xeb 2 (pc' := 118) (ls' := [.ref 6, .int v1, .int q19]) (st' := [.int 106, .int q19]) rfl ?_
                  by_cases c34 : 106 < q19
                  · rw [if_pos c34] at h
                    refine xei_gt_t rfl c34 ?_
                    exact g_Reader_readText_129 (fun v1 I h' z2 => ih v1 I h' z2) h
                  · rw [if_neg c34] at h
                    refine xei_gt_f rfl c34 ?_
                    refine xeb 2 (pc' := 123) (ls' := [.ref 6, .int v1, .int q19]) (st' := [.int q19, .ref 6]) rfl ?_
                    obtain ⟨q35, eq35, h⟩ := xbind_some h
                    refine xcallV rfl xsh6 rfl rfl rfl (Nat.le_of_ble_eq_true rfl) (Nat.le_of_ble_eq_true rfl) (Nat.le_of_ble_eq_true rfl) rfl (g_Reader_readLaw (d := d + 0) _ eq35) ?_
                    refine xeb 3 (pc' := 44) (ls' := [.ref 6, .int (v1 + 1), .int q19]) (st' := []) rfl ?_
                    exact ih (v1 + 1) q35 h _
      · rw [if_neg c16] at h
        refine xef_ne_f rfl c16 ?_
        exact g_Reader_readText_187 h _ _
noncomputable def f_Reader_readText (F : Nat) (I : XI) : Option (Int32 × XI) :=
  (f_Table_clear F 7 I).bind fun q1 => xst (xput q1 6 2 0) fun I2 => xst (xput I2 6 3 0) fun I3 => xst (xput I3 6 4 (-1)) fun I4 => xst (xput I4 6 5 0) fun I5 => xst (xput I5 6 6 (-1)) fun I6 => xst (xput I6 6 7 0) fun I7 => xst (xput I7 6 8 0) fun I8 => f_Reader_readText_44 F F 0 I8
theorem g_Reader_readText {X : XX} {d : Nat} {L : XL} {F : Nat} {I : XI}  (r : Int32 × XI) (h : f_Reader_readText F I = some r) : xEv X (d + 34) 72 0 [.ref 6, .null, .null] [] I L (some (.int r.1)) r.2 L := by
  rw [f_Reader_readText] at h
  refine xeb 1 (pc' := 1) (ls' := [.ref 6, .null, .null]) (st' := [.ref 6]) rfl ?_
  refine xegf2 rfl xsh6 (by decide) rfl ?_
  obtain ⟨q1, eq1, h⟩ := xbind_some h
  refine xcallV rfl xsh7 rfl rfl rfl (Nat.le_of_ble_eq_true rfl) (Nat.le_of_ble_eq_true rfl) (Nat.le_of_ble_eq_true rfl) rfl (g_Table_clear (d := d + 30) xis7 _ eq1) ?_
  refine xeb 2 (pc' := 9) (ls' := [.ref 6, .null, .null]) (st' := [.int 0, .ref 6]) rfl ?_
  refine xepf0 rfl xsh6 (by decide) ?_
  obtain ⟨I2, hI2, h⟩ := xst_some h
  rw [← hI2]
  refine xeb 2 (pc' := 14) (ls' := [.ref 6, .null, .null]) (st' := [.int 0, .ref 6]) rfl ?_
  refine xepf0 rfl xsh6 (by decide) ?_
  obtain ⟨I3, hI3, h⟩ := xst_some h
  rw [← hI3]
  refine xeb 2 (pc' := 19) (ls' := [.ref 6, .null, .null]) (st' := [.int (-1), .ref 6]) rfl ?_
  refine xepf0 rfl xsh6 (by decide) ?_
  obtain ⟨I4, hI4, h⟩ := xst_some h
  rw [← hI4]
  refine xeb 2 (pc' := 24) (ls' := [.ref 6, .null, .null]) (st' := [.int 0, .ref 6]) rfl ?_
  refine xepf0 rfl xsh6 (by decide) ?_
  obtain ⟨I5, hI5, h⟩ := xst_some h
  rw [← hI5]
  refine xeb 2 (pc' := 29) (ls' := [.ref 6, .null, .null]) (st' := [.int (-1), .ref 6]) rfl ?_
  refine xepf0 rfl xsh6 (by decide) ?_
  obtain ⟨I6, hI6, h⟩ := xst_some h
  rw [← hI6]
  refine xeb 2 (pc' := 34) (ls' := [.ref 6, .null, .null]) (st' := [.int 0, .ref 6]) rfl ?_
  refine xepf0 rfl xsh6 (by decide) ?_
  obtain ⟨I7, hI7, h⟩ := xst_some h
  rw [← hI7]
  refine xeb 2 (pc' := 39) (ls' := [.ref 6, .null, .null]) (st' := [.int 0, .ref 6]) rfl ?_
  refine xepf0 rfl xsh6 (by decide) ?_
  obtain ⟨I8, hI8, h⟩ := xst_some h
  rw [← hI8]
  refine xeb 2 (pc' := 44) (ls' := [.ref 6, .int 0, .null]) (st' := []) rfl ?_
  exact g_Reader_readText_44 F 0 I8 h _
noncomputable def f_H_read (F : Nat) (I : XI) : Option (Int32 × XI) :=
  (f_Tape_scan F I).bind fun q1 => (f_Reader_readText F q1).bind fun q2 => xst (xput q2.2 1 1 0) fun I3 => if q2.1 = 0 then ((f_Table_copyFrom 17 7 I3).bind fun q5 => (f_State_clear F 26 q5).bind fun q6 => (f_Past_clear q6).bind fun q7 => xst (xput q7 127 3 0) fun I8 => some (q2.1, I8)) else (some (q2.1, I3))
theorem g_H_read {X : XX} {d : Nat} {L : XL} {F : Nat} {I : XI}  (r : Int32 × XI) (h : f_H_read F I = some r) : xEv X (d + 35) 76 0 [.ref 0, .null] [] I L (some (.int r.1)) r.2 L := by
  rw [f_H_read] at h
  refine xeb 1 (pc' := 1) (ls' := [.ref 0, .null]) (st' := [.ref 0]) rfl ?_
  refine xegf2 rfl xsh0 (by decide) rfl ?_
  obtain ⟨q1, eq1, h⟩ := xbind_some h
  refine xcallV rfl xsh1 rfl rfl rfl (Nat.le_of_ble_eq_true rfl) (Nat.le_of_ble_eq_true rfl) (Nat.le_of_ble_eq_true rfl) rfl (g_Tape_scan (d := d + 24) _ eq1) ?_
  refine xeb 1 (pc' := 8) (ls' := [.ref 0, .null]) (st' := [.ref 0]) rfl ?_
  refine xegf2 rfl xsh0 (by decide) rfl ?_
  obtain ⟨q2, eq2, h⟩ := xbind_some h
  refine xcallV rfl xsh6 rfl rfl rfl (Nat.le_of_ble_eq_true rfl) (Nat.le_of_ble_eq_true rfl) (Nat.le_of_ble_eq_true rfl) rfl (g_Reader_readText (d := d + 0) _ eq2) ?_
  refine xeb 2 (pc' := 16) (ls' := [.ref 0, .int q2.1]) (st' := [.ref 0]) rfl ?_
  refine xegf2 rfl xsh0 (by decide) rfl ?_
  refine xeb 1 (pc' := 20) (ls' := [.ref 0, .int q2.1]) (st' := [.int 0, .ref 1]) rfl ?_
  refine xepf10 rfl xsh1 (by decide) ?_
  obtain ⟨I3, hI3, h⟩ := xst_some h
  rw [← hI3]
  refine xeb 1 (pc' := 24) (ls' := [.ref 0, .int q2.1]) (st' := [.int q2.1]) rfl ?_
  by_cases c4 : q2.1 = 0
  · rw [if_pos c4] at h
    refine xef_ne_t rfl c4 ?_
    refine xeb 1 (pc' := 28) (ls' := [.ref 0, .int q2.1]) (st' := [.ref 0]) rfl ?_
    refine xegf2 rfl xsh0 (by decide) rfl ?_
    refine xeb 1 (pc' := 32) (ls' := [.ref 0, .int q2.1]) (st' := [.ref 0, .ref 17]) rfl ?_
    refine xegf2 rfl xsh0 (by decide) rfl ?_
    refine xegf12 rfl xsh6 (by decide) rfl ?_
    obtain ⟨q5, eq5, h⟩ := xbind_some h
    refine xcallV rfl xsh17 rfl rfl rfl (Nat.le_of_ble_eq_true rfl) (Nat.le_of_ble_eq_true rfl) (Nat.le_of_ble_eq_true rfl) rfl (g_Table_copyFrom (d := d + 33) xis17 xis7 _ eq5) ?_
    refine xeb 1 (pc' := 42) (ls' := [.ref 0, .int q2.1]) (st' := [.ref 0]) rfl ?_
    refine xegf2 rfl xsh0 (by decide) rfl ?_
    obtain ⟨q6, eq6, h⟩ := xbind_some h
    refine xcallV rfl xsh26 rfl rfl rfl (Nat.le_of_ble_eq_true rfl) (Nat.le_of_ble_eq_true rfl) (Nat.le_of_ble_eq_true rfl) rfl (g_State_clear (d := d + 33) xis26 _ eq6) ?_
    refine xeb 1 (pc' := 49) (ls' := [.ref 0, .int q2.1]) (st' := [.ref 0]) rfl ?_
    refine xegf2 rfl xsh0 (by decide) rfl ?_
    obtain ⟨q7, eq7, h⟩ := xbind_some h
    refine xcallV rfl xsh38 rfl rfl rfl (Nat.le_of_ble_eq_true rfl) (Nat.le_of_ble_eq_true rfl) (Nat.le_of_ble_eq_true rfl) rfl (g_Past_clear (d := d + 34) _ eq7) ?_
    refine xeb 1 (pc' := 56) (ls' := [.ref 0, .int q2.1]) (st' := [.ref 0]) rfl ?_
    refine xegf2 rfl xsh0 (by decide) rfl ?_
    refine xeb 1 (pc' := 60) (ls' := [.ref 0, .int q2.1]) (st' := [.int 0, .ref 127]) rfl ?_
    refine xepf10 rfl xsh127 (by decide) ?_
    obtain ⟨I8, hI8, h⟩ := xst_some h
    rw [← hI8]
    refine xeb 1 (pc' := 64) (ls' := [.ref 0, .int q2.1]) (st' := [.int q2.1]) rfl ?_
    obtain rfl := Option.some.inj h
    exact xeiret rfl rfl
  · rw [if_neg c4] at h
    refine xef_ne_f rfl c4 ?_
    refine xeb 1 (pc' := 64) (ls' := [.ref 0, .int q2.1]) (st' := [.int q2.1]) rfl ?_
    obtain rfl := Option.some.inj h
    exact xeiret rfl rfl
