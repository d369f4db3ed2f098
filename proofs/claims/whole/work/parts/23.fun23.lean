/-! the methods as functions, and that a run answers so (by gen6.py) -/
noncomputable def f_M_wrong_46 (v1 : Int32) (v3 : Int32) (I : XI) : Option (XI) :=
  xst (xput I 131 15 v1) fun I4 => xst (xput I4 131 16 v3) fun I5 => some I5
theorem g_M_wrong_46 {X : XX} {d : Nat} {L : XL}  {r : XI}  {v1 : Int32} {v3 : Int32} {I : XI} (h : f_M_wrong_46 v1 v3 I = some r) (z2 : Value) : xEv X (d + 0) 90 46 [.ref 131, .int v1, z2, .int v3] [] I L none r L := by
  rw [f_M_wrong_46] at h
  refine xeb 2 (pc' := 48) (ls' := [.ref 131, .int v1, z2, .int v3]) (st' := [.int v1, .ref 131]) rfl ?_
  refine xepf0 rfl xsh131 (by decide) ?_
  obtain ⟨I4, hI4, h⟩ := xst_some h
  rw [← hI4]
  refine xeb 2 (pc' := 53) (ls' := [.ref 131, .int v1, z2, .int v3]) (st' := [.int v3, .ref 131]) rfl ?_
  refine xepf0 rfl xsh131 (by decide) ?_
  obtain ⟨I5, hI5, h⟩ := xst_some h
  rw [← hI5]
  obtain rfl := Option.some.inj h
  exact xevret rfl
noncomputable def f_M_wrong (a1 : Int32) (a2 : Int32) (I : XI) : Option (XI) :=
  xck (xin a2 403) (if 0 < (I 131 13) then (some I) else (if (I 131 15) = 0 then (f_M_wrong_46 a1 (I 135 (xN a2)) I) else (if (I 131 16) < (I 135 (xN a2)) then (some I) else (if (I 135 (xN a2)) = (I 131 16) then (if a1 < (I 131 15) then (f_M_wrong_46 a1 (I 135 (xN a2)) I) else (some I)) else (f_M_wrong_46 a1 (I 135 (xN a2)) I)))))
theorem g_M_wrong {X : XX} {d : Nat} {L : XL} {a1 : Int32} {a2 : Int32} {I : XI}  (r : XI) (h : f_M_wrong a1 a2 I = some r) : xEv X (d + 0) 90 0 [.ref 131, .int a1, .int a2, .null] [] I L none r L := by
  rw [f_M_wrong] at h
  refine xeb 1 (pc' := 1) (ls' := [.ref 131, .int a1, .int a2, .null]) (st' := [.ref 131]) rfl ?_
  refine xegf2 rfl xsh131 (by decide) rfl ?_
  refine xeb 1 (pc' := 5) (ls' := [.ref 131, .int a1, .int a2, .null]) (st' := [.int a2, .ref 135]) rfl ?_
  obtain ⟨b1, h⟩ := xck_some h
  refine xeia rfl xsh135 b1 ?_
  refine xeb 2 (pc' := 8) (ls' := [.ref 131, .int a1, .int a2, .int (I 135 (xN a2))]) (st' := [.ref 131]) rfl ?_
  refine xegf0 rfl xsh131 (by decide) ?_
  by_cases c2 : 0 < (I 131 13)
  · rw [if_pos c2] at h
    refine xef_gt_t rfl c2 ?_
    obtain rfl := Option.some.inj h
    exact xevret rfl
  · rw [if_neg c2] at h
    refine xef_gt_f rfl c2 ?_
    refine xeb 1 (pc' := 15) (ls' := [.ref 131, .int a1, .int a2, .int (I 135 (xN a2))]) (st' := [.ref 131]) rfl ?_
    refine xegf0 rfl xsh131 (by decide) ?_
    by_cases c3 : (I 131 15) = 0
    · rw [if_pos c3] at h
      refine xef_eq_t rfl c3 ?_
      exact g_M_wrong_46 h _
    · rw [if_neg c3] at h
      refine xef_eq_f rfl c3 ?_
      refine xeb 2 (pc' := 23) (ls' := [.ref 131, .int a1, .int a2, .int (I 135 (xN a2))]) (st' := [.ref 131, .int (I 135 (xN a2))]) rfl ?_
      refine xegf0 rfl xsh131 (by decide) ?_
      by_cases c6 : (I 131 16) < (I 135 (xN a2))
      · rw [if_pos c6] at h
        refine xei_gt_t rfl c6 ?_
        obtain rfl := Option.some.inj h
        exact xevret rfl
      · rw [if_neg c6] at h
        refine xei_gt_f rfl c6 ?_
        refine xeb 2 (pc' := 31) (ls' := [.ref 131, .int a1, .int a2, .int (I 135 (xN a2))]) (st' := [.ref 131, .int (I 135 (xN a2))]) rfl ?_
        refine xegf0 rfl xsh131 (by decide) ?_
        by_cases c7 : (I 135 (xN a2)) = (I 131 16)
        · rw [if_pos c7] at h
          refine xei_ne_t rfl c7 ?_
          refine xeb 2 (pc' := 39) (ls' := [.ref 131, .int a1, .int a2, .int (I 135 (xN a2))]) (st' := [.ref 131, .int a1]) rfl ?_
          refine xegf0 rfl xsh131 (by decide) ?_
          by_cases c8 : a1 < (I 131 15)
          · rw [if_pos c8] at h
            refine xei_lt_t rfl c8 ?_
            exact g_M_wrong_46 h _
          · rw [if_neg c8] at h
            refine xei_lt_f rfl c8 ?_
            obtain rfl := Option.some.inj h
            exact xevret rfl
        · rw [if_neg c7] at h
          refine xei_ne_f rfl c7 ?_
          exact g_M_wrong_46 h _
noncomputable def f_M_tellRow_178 (F : Nat) (L : XL) (I : XI) : Option (XI) :=
  (f_M_must 4 I).bind fun q15 => if (q15 131 13) = 0 then (xck (xin (q15 131 19) 2) (xck (xin (q15 131 19) 2) (xst (xput q15 141 (xN (q15 131 19)) ((q15 141 (xN (q15 131 19))) + 1)) fun I19 => some I19))) else (some q15)
theorem g_M_tellRow_178 {X : XX} {d : Nat} {F : Nat} {L : XL}  {r : XI}  {I : XI} (h : f_M_tellRow_178 F L I = some r) (z1 : Value) (z2 : Value) (z3 : Value) (z4 : Value) (z5 : Value) : xEv X (d + 3) 91 178 [.ref 131, z1, z2, z3, z4, z5] [] I L none r L := by
  rw [f_M_tellRow_178] at h
  refine xeb 2 (pc' := 180) (ls' := [.ref 131, z1, z2, z3, z4, z5]) (st' := [.int 4, .ref 131]) rfl ?_
  obtain ⟨q15, eq15, h⟩ := xbind_some h
  refine xcallV rfl xsh131 rfl rfl rfl (Nat.le_of_ble_eq_true rfl) (Nat.le_of_ble_eq_true rfl) (Nat.le_of_ble_eq_true rfl) rfl (g_M_must (d := d + 0) _ eq15) ?_
  refine xeb 1 (pc' := 184) (ls' := [.ref 131, z1, z2, z3, z4, z5]) (st' := [.ref 131]) rfl ?_
  refine xegf0 rfl xsh131 (by decide) ?_
  by_cases c16 : (q15 131 13) = 0
  · rw [if_pos c16] at h
    refine xef_ne_t rfl c16 ?_
    refine xeb 1 (pc' := 191) (ls' := [.ref 131, z1, z2, z3, z4, z5]) (st' := [.ref 131]) rfl ?_
    refine xegf2 rfl xsh131 (by decide) rfl ?_
    refine xeb 1 (pc' := 195) (ls' := [.ref 131, z1, z2, z3, z4, z5]) (st' := [.ref 131, .ref 141]) rfl ?_
    refine xegf0 rfl xsh131 (by decide) ?_
    refine xeb 1 (pc' := 199) (ls' := [.ref 131, z1, z2, z3, z4, z5]) (st' := [.int (q15 131 19), .ref 141, .int (q15 131 19), .ref 141]) rfl ?_
    obtain ⟨b17, h⟩ := xck_some h
    refine xeia rfl xsh141 b17 ?_
    refine xeb 2 (pc' := 202) (ls' := [.ref 131, z1, z2, z3, z4, z5]) (st' := [.int ((q15 141 (xN (q15 131 19))) + 1), .int (q15 131 19), .ref 141]) rfl ?_
    obtain ⟨b18, h⟩ := xck_some h
    refine xeis rfl xsh141 b18 ?_
    obtain ⟨I19, hI19, h⟩ := xst_some h
    rw [← hI19]
    obtain rfl := Option.some.inj h
    exact xevret rfl
  · rw [if_neg c16] at h
    refine xef_ne_f rfl c16 ?_
    obtain rfl := Option.some.inj h
    exact xevret rfl
noncomputable def f_M_tellRow_160 (F : Nat) (L : XL) (k78 : Int32 → Int32 → Int32 → Int32 → XI → Option (XI)) (v1 : Int32) (v2 : Int32) (v3 : Int32) (v4 : Int32) (s1 : Int32) (s2 : Int32) (I : XI) : Option (XI) :=
  xck (xin s1 60) (xst (xput I 142 (xN s1) s2) fun I27 => k78 v1 v2 v3 (v4 + 1) I27)
theorem g_M_tellRow_160 {X : XX} {d : Nat} {F : Nat} {L : XL} {k78 : Int32 → Int32 → Int32 → Int32 → XI → Option (XI)}  {r : XI} (hk78 : ∀ (v1 : Int32) (v2 : Int32) (v3 : Int32) (v4 : Int32) (I : XI), k78 v1 v2 v3 v4 I = some r → ∀ (z5 : Value), xEv X (d + 3) 91 78 [.ref 131, .int v1, .int v2, .int v3, .int v4, z5] [] I L none r L) {v1 : Int32} {v2 : Int32} {v3 : Int32} {v4 : Int32} {s1 : Int32} {s2 : Int32} {I : XI} (h : f_M_tellRow_160 F L k78 v1 v2 v3 v4 s1 s2 I = some r) (z5 : Value) : xEv X (d + 3) 91 160 [.ref 131, .int v1, .int v2, .int v3, .int v4, z5] [.int s2, .int s1, .ref 142] I L none r L := by
  rw [f_M_tellRow_160] at h
  obtain ⟨b26, h⟩ := xck_some h
  refine xeis rfl xsh142 b26 ?_
  obtain ⟨I27, hI27, h⟩ := xst_some h
  rw [← hI27]
  refine xeb 2 (pc' := 78) (ls' := [.ref 131, .int v1, .int v2, .int v3, .int (v4 + 1), z5]) (st' := []) rfl ?_
  exact hk78 v1 v2 v3 (v4 + 1) I27 h _
noncomputable def f_M_tellRow_112 (F : Nat) (L : XL) (k78 : Int32 → Int32 → Int32 → Int32 → XI → Option (XI)) (v1 : Int32) (v2 : Int32) (v3 : Int32) (v4 : Int32) (v5 : Int32) (I : XI) : Option (XI) :=
  if 6 ≤ v4 then (k78 v1 v2 v3 (v4 + 1) I) else (xck (xin (I 131 19) 2) (f_M_tellRow_160 F L k78 v1 v2 v3 v4 (((30 * (I 131 19)) + (6 * (I 141 (xN (I 131 19))))) + v4) (if v5 = 14 then 9 else v5) I))
theorem g_M_tellRow_112 {X : XX} {d : Nat} {F : Nat} {L : XL} {k78 : Int32 → Int32 → Int32 → Int32 → XI → Option (XI)}  {r : XI} (hk78 : ∀ (v1 : Int32) (v2 : Int32) (v3 : Int32) (v4 : Int32) (I : XI), k78 v1 v2 v3 v4 I = some r → ∀ (z5 : Value), xEv X (d + 3) 91 78 [.ref 131, .int v1, .int v2, .int v3, .int v4, z5] [] I L none r L) {v1 : Int32} {v2 : Int32} {v3 : Int32} {v4 : Int32} {v5 : Int32} {I : XI} (h : f_M_tellRow_112 F L k78 v1 v2 v3 v4 v5 I = some r)  : xEv X (d + 3) 91 112 [.ref 131, .int v1, .int v2, .int v3, .int v4, .int v5] [] I L none r L := by
  rw [f_M_tellRow_112] at h
  refine xeb 2 (pc' := 116) (ls' := [.ref 131, .int v1, .int v2, .int v3, .int v4, .int v5]) (st' := [.int 6, .int v4]) rfl ?_
  by_cases c23 : 6 ≤ v4
  · rw [if_pos c23] at h
    refine xei_ge_t rfl c23 ?_
    refine xeb 2 (pc' := 78) (ls' := [.ref 131, .int v1, .int v2, .int v3, .int (v4 + 1), .int v5]) (st' := []) rfl ?_
    exact hk78 v1 v2 v3 (v4 + 1) I h _
  · rw [if_neg c23] at h
    refine xei_ge_f rfl c23 ?_
    refine xeb 1 (pc' := 120) (ls' := [.ref 131, .int v1, .int v2, .int v3, .int v4, .int v5]) (st' := [.ref 131]) rfl ?_
    refine xegf2 rfl xsh131 (by decide) rfl ?_
    refine xeb 2 (pc' := 126) (ls' := [.ref 131, .int v1, .int v2, .int v3, .int v4, .int v5]) (st' := [.ref 131, .int 30, .ref 142]) rfl ?_
    refine xegf0 rfl xsh131 (by decide) ?_
    refine xeb 3 (pc' := 133) (ls' := [.ref 131, .int v1, .int v2, .int v3, .int v4, .int v5]) (st' := [.ref 131, .int 6, .int (30 * (I 131 19)), .ref 142]) rfl ?_
    refine xegf2 rfl xsh131 (by decide) rfl ?_
    refine xeb 1 (pc' := 137) (ls' := [.ref 131, .int v1, .int v2, .int v3, .int v4, .int v5]) (st' := [.ref 131, .ref 141, .int 6, .int (30 * (I 131 19)), .ref 142]) rfl ?_
    refine xegf0 rfl xsh131 (by decide) ?_
    obtain ⟨b24, h⟩ := xck_some h
    refine xeia rfl xsh141 b24 ?_
    refine xeb 6 (pc' := 150) (ls' := [.ref 131, .int v1, .int v2, .int v3, .int v4, .int v5]) (st' := [.int 14, .int v5, .int (((30 * (I 131 19)) + (6 * (I 141 (xN (I 131 19))))) + v4), .ref 142]) rfl ?_
    have hj : xEv X (d + 3) 91 160 [.ref 131, .int v1, .int v2, .int v3, .int v4, .int v5] [.int (if v5 = 14 then 9 else v5), .int (((30 * (I 131 19)) + (6 * (I 141 (xN (I 131 19))))) + v4), .ref 142] I L none r L := by
      exact g_M_tellRow_160 hk78 h _
    by_cases c25 : v5 = 14
    · simp only [if_pos c25] at hj
      refine xei_ne_t rfl c25 ?_
      exact xeb 2 rfl hj
    · simp only [if_neg c25] at hj
      refine xei_ne_f rfl c25 ?_
      exact xeb 1 rfl hj
noncomputable def f_M_tellRow_78 (F : Nat) (L : XL) : Nat → Int32 → Int32 → Int32 → Int32 → XI → Option (XI)
  | 0, _, _, _, _, _ => none
  | n + 1, v1, v2, v3, v4, I =>
    if v2 ≤ v4 then (if v3 = 0 then ((f_M_wrong 6 v1 I).bind fun q14 => f_M_tellRow_178 F L q14) else (f_M_tellRow_178 F L I)) else (xck (xin v1 403) ((f_M_letterIn F (L 137 (xN v1)) v4).bind fun q21 => if q21 ≤ 4 then (f_M_tellRow_112 F L (fun v1 v2 v3 v4 I => f_M_tellRow_78 F L n v1 v2 v3 v4 I) v1 v2 v3 v4 q21 I) else (f_M_tellRow_112 F L (fun v1 v2 v3 v4 I => f_M_tellRow_78 F L n v1 v2 v3 v4 I) v1 v2 (if q21 = 14 then v3 else 0) v4 q21 I)))
theorem g_M_tellRow_78 {X : XX} {d : Nat} {F : Nat} {L : XL}  {r : XI}  : ∀ (n : Nat) (v1 : Int32) (v2 : Int32) (v3 : Int32) (v4 : Int32) (I : XI), f_M_tellRow_78 F L n v1 v2 v3 v4 I = some r → ∀ (z5 : Value), xEv X (d + 3) 91 78 [.ref 131, .int v1, .int v2, .int v3, .int v4, z5] [] I L none r L := by
  intro n
  induction n with
  | zero => intro v1 v2 v3 v4 I h; rw [f_M_tellRow_78] at h; cases h
  | succ n ih =>
    intro v1 v2 v3 v4 I h z5
    rw [f_M_tellRow_78] at h
    refine xeb 2 (pc' := 81) (ls' := [.ref 131, .int v1, .int v2, .int v3, .int v4, z5]) (st' := [.int v2, .int v4]) rfl ?_
    by_cases c12 : v2 ≤ v4
    · rw [if_pos c12] at h
      refine xei_ge_t rfl c12 ?_
      refine xeb 1 (pc' := 168) (ls' := [.ref 131, .int v1, .int v2, .int v3, .int v4, z5]) (st' := [.int v3]) rfl ?_
      by_cases c13 : v3 = 0
      · rw [if_pos c13] at h
        refine xef_ne_t rfl c13 ?_
        refine xeb 3 (pc' := 175) (ls' := [.ref 131, .int v1, .int v2, .int v3, .int v4, z5]) (st' := [.int v1, .int 6, .ref 131]) rfl ?_
        obtain ⟨q14, eq14, h⟩ := xbind_some h
        refine xcallV rfl xsh131 rfl rfl rfl (Nat.le_of_ble_eq_true rfl) (Nat.le_of_ble_eq_true rfl) (Nat.le_of_ble_eq_true rfl) rfl (g_M_wrong (d := d + 2) _ eq14) ?_
        exact g_M_tellRow_178 h _ _ _ _ _
      · rw [if_neg c13] at h
        refine xef_ne_f rfl c13 ?_
        exact g_M_tellRow_178 h _ _ _ _ _
    · rw [if_neg c12] at h
      refine xei_ge_f rfl c12 ?_
      refine xeb 1 (pc' := 85) (ls' := [.ref 131, .int v1, .int v2, .int v3, .int v4, z5]) (st' := [.ref 131]) rfl ?_
      refine xegf2 rfl xsh131 (by decide) rfl ?_
      refine xeb 1 (pc' := 89) (ls' := [.ref 131, .int v1, .int v2, .int v3, .int v4, z5]) (st' := [.int v1, .ref 137]) rfl ?_
      obtain ⟨b20, h⟩ := xck_some h
      refine xela rfl xsh137 b20 ?_
      refine xeb 1 (pc' := 92) (ls' := [.ref 131, .int v1, .int v2, .int v3, .int v4, z5]) (st' := [.int v4, .long (L 137 (xN v1))]) rfl ?_
      obtain ⟨q21, eq21, h⟩ := xbind_some h
      refine xcallS20 rfl rfl rfl (Nat.le_of_ble_eq_true rfl) (Nat.le_of_ble_eq_true rfl) (Nat.le_of_ble_eq_true rfl) rfl (g_M_letterIn (d := d + 1) _ eq21) ?_
      refine xeb 3 (pc' := 100) (ls' := [.ref 131, .int v1, .int v2, .int v3, .int v4, .int q21]) (st' := [.int 4, .int q21]) rfl ?_
      by_cases c22 : q21 ≤ 4
      · rw [if_pos c22] at h
        refine xei_le_t rfl c22 ?_
        exact g_M_tellRow_112 (fun v1 v2 v3 v4 I h' z5 => ih v1 v2 v3 v4 I h' z5) h
      · rw [if_neg c22] at h
        refine xei_le_f rfl c22 ?_
        refine xeb 2 (pc' := 107) (ls' := [.ref 131, .int v1, .int v2, .int v3, .int v4, .int q21]) (st' := [.int 14, .int q21]) rfl ?_
        have hj : xEv X (d + 3) 91 112 [.ref 131, .int v1, .int v2, .int (if q21 = 14 then v3 else 0), .int v4, .int q21] [] I L none r L := by
          exact g_M_tellRow_112 (fun v1 v2 v3 v4 I h' z5 => ih v1 v2 v3 v4 I h' z5) h
        by_cases c28 : q21 = 14
        · simp only [if_pos c28] at hj
          refine xei_eq_t rfl c28 ?_
          exact xeb 0 rfl hj
        · simp only [if_neg c28] at hj
          refine xei_eq_f rfl c28 ?_
          exact xeb 2 rfl hj
noncomputable def f_M_tellRow_50 (F : Nat) (L : XL) (v1 : Int32) (v2 : Int32) (I : XI) : Option (XI) :=
  xck (xin (I 131 19) 2) (if v2 = (I 140 (xN (I 131 19))) then (f_M_tellRow_78 F L F v1 v2 (if 6 < v2 then 0 else 1) 0 I) else (f_M_tellRow_78 F L F v1 v2 0 0 I))
theorem g_M_tellRow_50 {X : XX} {d : Nat} {F : Nat} {L : XL}  {r : XI}  {v1 : Int32} {v2 : Int32} {I : XI} (h : f_M_tellRow_50 F L v1 v2 I = some r) (z3 : Value) (z4 : Value) (z5 : Value) : xEv X (d + 3) 91 50 [.ref 131, .int v1, .int v2, z3, z4, z5] [] I L none r L := by
  rw [f_M_tellRow_50] at h
  refine xeb 2 (pc' := 52) (ls' := [.ref 131, .int v1, .int v2, z3, z4, z5]) (st' := [.ref 131, .int v2]) rfl ?_
  refine xegf2 rfl xsh131 (by decide) rfl ?_
  refine xeb 1 (pc' := 56) (ls' := [.ref 131, .int v1, .int v2, z3, z4, z5]) (st' := [.ref 131, .ref 140, .int v2]) rfl ?_
  refine xegf0 rfl xsh131 (by decide) ?_
  obtain ⟨b9, h⟩ := xck_some h
  refine xeia rfl xsh140 b9 ?_
  by_cases c10 : v2 = (I 140 (xN (I 131 19)))
  · rw [if_pos c10] at h
    refine xei_ne_t rfl c10 ?_
    refine xeb 2 (pc' := 66) (ls' := [.ref 131, .int v1, .int v2, z3, z4, z5]) (st' := [.int 6, .int v2]) rfl ?_
    have hj : xEv X (d + 3) 91 74 [.ref 131, .int v1, .int v2, z3, z4, z5] [.int (if 6 < v2 then 0 else 1)] I L none r L := by
      refine xeb 3 (pc' := 78) (ls' := [.ref 131, .int v1, .int v2, .int (if 6 < v2 then 0 else 1), .int 0, z5]) (st' := []) rfl ?_
      exact g_M_tellRow_78 F v1 v2 (if 6 < v2 then 0 else 1) 0 I h _
    by_cases c11 : 6 < v2
    · simp only [if_pos c11] at hj
      refine xei_gt_t rfl c11 ?_
      exact xeb 1 rfl hj
    · simp only [if_neg c11] at hj
      refine xei_gt_f rfl c11 ?_
      exact xeb 2 rfl hj
  · rw [if_neg c10] at h
    refine xei_ne_f rfl c10 ?_
    refine xeb 4 (pc' := 78) (ls' := [.ref 131, .int v1, .int v2, .int 0, .int 0, z5]) (st' := []) rfl ?_
    exact g_M_tellRow_78 F v1 v2 0 0 I h _
noncomputable def f_M_tellRow (F : Nat) (L : XL) (I : XI) : Option (XI) :=
  (f_M_must 1 I).bind fun q1 => if (q1 131 13) ≤ 0 then (xck (xin (I 131 11) 403) ((f_M_lettersIn F (L 137 (xN (I 131 11)))).bind fun q4 => xck (xin (q1 131 19) 2) (if (q1 141 (xN (q1 131 19))) = 0 then (xck (xin (q1 131 19) 2) (xst (xput q1 140 (xN (q1 131 19)) q4) fun I8 => f_M_tellRow_50 F L (I 131 11) q4 I8)) else (f_M_tellRow_50 F L (I 131 11) q4 q1)))) else (some q1)
theorem g_M_tellRow {X : XX} {d : Nat} {F : Nat} {L : XL} {I : XI}  (r : XI) (h : f_M_tellRow F L I = some r) : xEv X (d + 3) 91 0 [.ref 131, .null, .null, .null, .null, .null] [] I L none r L := by
  rw [f_M_tellRow] at h
  refine xeb 1 (pc' := 1) (ls' := [.ref 131, .null, .null, .null, .null, .null]) (st' := [.ref 131]) rfl ?_
  refine xegf0 rfl xsh131 (by decide) ?_
  refine xeb 3 (pc' := 7) (ls' := [.ref 131, .int (I 131 11), .null, .null, .null, .null]) (st' := [.int 1, .ref 131]) rfl ?_
  obtain ⟨q1, eq1, h⟩ := xbind_some h
  refine xcallV rfl xsh131 rfl rfl rfl (Nat.le_of_ble_eq_true rfl) (Nat.le_of_ble_eq_true rfl) (Nat.le_of_ble_eq_true rfl) rfl (g_M_must (d := d + 0) _ eq1) ?_
  refine xeb 1 (pc' := 11) (ls' := [.ref 131, .int (I 131 11), .null, .null, .null, .null]) (st' := [.ref 131]) rfl ?_
  refine xegf0 rfl xsh131 (by decide) ?_
  by_cases c2 : (q1 131 13) ≤ 0
  · rw [if_pos c2] at h
    refine xef_le_t rfl c2 ?_
    refine xeb 1 (pc' := 19) (ls' := [.ref 131, .int (I 131 11), .null, .null, .null, .null]) (st' := [.ref 131]) rfl ?_
    refine xegf2 rfl xsh131 (by decide) rfl ?_
    refine xeb 1 (pc' := 23) (ls' := [.ref 131, .int (I 131 11), .null, .null, .null, .null]) (st' := [.int (I 131 11), .ref 137]) rfl ?_
    obtain ⟨b3, h⟩ := xck_some h
    refine xela rfl xsh137 b3 ?_
    obtain ⟨q4, eq4, h⟩ := xbind_some h
    refine xcallS20 rfl rfl rfl (Nat.le_of_ble_eq_true rfl) (Nat.le_of_ble_eq_true rfl) (Nat.le_of_ble_eq_true rfl) rfl (g_M_lettersIn (d := d + 2) _ eq4) ?_
    refine xeb 2 (pc' := 29) (ls' := [.ref 131, .int (I 131 11), .int q4, .null, .null, .null]) (st' := [.ref 131]) rfl ?_
    refine xegf2 rfl xsh131 (by decide) rfl ?_
    refine xeb 1 (pc' := 33) (ls' := [.ref 131, .int (I 131 11), .int q4, .null, .null, .null]) (st' := [.ref 131, .ref 141]) rfl ?_
    refine xegf0 rfl xsh131 (by decide) ?_
    obtain ⟨b5, h⟩ := xck_some h
    refine xeia rfl xsh141 b5 ?_
    by_cases c6 : (q1 141 (xN (q1 131 19))) = 0
    · rw [if_pos c6] at h
      refine xef_ne_t rfl c6 ?_
      refine xeb 1 (pc' := 41) (ls' := [.ref 131, .int (I 131 11), .int q4, .null, .null, .null]) (st' := [.ref 131]) rfl ?_
      refine xegf2 rfl xsh131 (by decide) rfl ?_
      refine xeb 1 (pc' := 45) (ls' := [.ref 131, .int (I 131 11), .int q4, .null, .null, .null]) (st' := [.ref 131, .ref 140]) rfl ?_
      refine xegf0 rfl xsh131 (by decide) ?_
      refine xeb 1 (pc' := 49) (ls' := [.ref 131, .int (I 131 11), .int q4, .null, .null, .null]) (st' := [.int q4, .int (q1 131 19), .ref 140]) rfl ?_
      obtain ⟨b7, h⟩ := xck_some h
      refine xeis rfl xsh140 b7 ?_
      obtain ⟨I8, hI8, h⟩ := xst_some h
      rw [← hI8]
      exact g_M_tellRow_50 h _ _ _
    · rw [if_neg c6] at h
      refine xef_ne_f rfl c6 ?_
      exact g_M_tellRow_50 h _ _ _
  · rw [if_neg c2] at h
    refine xef_le_f rfl c2 ?_
    obtain rfl := Option.some.inj h
    exact xevret rfl
noncomputable def f_M_bounded_15 (v1 : Int32) (I : XI) : Option (Int32 × XI) :=
  (f_M_fail 1 I).bind fun q2 => some (v1, q2)
theorem g_M_bounded_15 {X : XX} {d : Nat} {L : XL}  {r : Int32 × XI}  {v1 : Int32} {I : XI} (h : f_M_bounded_15 v1 I = some r) (z2 : Value) (z3 : Value) : xEv X (d + 2) 92 15 [.ref 131, .int v1, z2, z3] [] I L (some (.int r.1)) r.2 L := by
  rw [f_M_bounded_15] at h
  refine xeb 2 (pc' := 17) (ls' := [.ref 131, .int v1, z2, z3]) (st' := [.int 1, .ref 131]) rfl ?_
  obtain ⟨q2, eq2, h⟩ := xbind_some h
  refine xcallV rfl xsh131 rfl rfl rfl (Nat.le_of_ble_eq_true rfl) (Nat.le_of_ble_eq_true rfl) (Nat.le_of_ble_eq_true rfl) rfl (g_M_fail (d := d + 1) _ eq2) ?_
  refine xeb 1 (pc' := 21) (ls' := [.ref 131, .int v1, z2, z3]) (st' := [.int v1]) rfl ?_
  obtain rfl := Option.some.inj h
  exact xeiret rfl rfl
noncomputable def f_M_bounded_42 (k51 : Int32 → Int32 → Int32 → XI → Option (Int32 × XI)) (v1 : Int32) (v2 : Int32) (v3 : Int32) (I : XI) : Option (Int32 × XI) :=
  (f_M_wrong 5 (I 131 11) I).bind fun q7 => k51 v1 v2 v3 q7
theorem g_M_bounded_42 {X : XX} {d : Nat} {L : XL} {k51 : Int32 → Int32 → Int32 → XI → Option (Int32 × XI)}  {r : Int32 × XI} (hk51 : ∀ (v1 : Int32) (v2 : Int32) (v3 : Int32) (I : XI), k51 v1 v2 v3 I = some r → xEv X (d + 2) 92 51 [.ref 131, .int v1, .int v2, .int v3] [] I L (some (.int r.1)) r.2 L) {v1 : Int32} {v2 : Int32} {v3 : Int32} {I : XI} (h : f_M_bounded_42 k51 v1 v2 v3 I = some r)  : xEv X (d + 2) 92 42 [.ref 131, .int v1, .int v2, .int v3] [] I L (some (.int r.1)) r.2 L := by
  rw [f_M_bounded_42] at h
  refine xeb 3 (pc' := 45) (ls' := [.ref 131, .int v1, .int v2, .int v3]) (st' := [.ref 131, .int 5, .ref 131]) rfl ?_
  refine xegf0 rfl xsh131 (by decide) ?_
  obtain ⟨q7, eq7, h⟩ := xbind_some h
  refine xcallV rfl xsh131 rfl rfl rfl (Nat.le_of_ble_eq_true rfl) (Nat.le_of_ble_eq_true rfl) (Nat.le_of_ble_eq_true rfl) rfl (g_M_wrong (d := d + 1) _ eq7) ?_
  exact hk51 v1 v2 v3 q7 h
noncomputable def f_M_bounded_51 (v1 : Int32) (v2 : Int32) (v3 : Int32) (I : XI) : Option (Int32 × XI) :=
  (f_M_goesOn I).bind fun q8 => if v3 < v1 then (some (v1, q8)) else (some ((if v3 ≤ v2 then v3 else v1), q8))
theorem g_M_bounded_51 {X : XX} {d : Nat} {L : XL}  {r : Int32 × XI}  {v1 : Int32} {v2 : Int32} {v3 : Int32} {I : XI} (h : f_M_bounded_51 v1 v2 v3 I = some r)  : xEv X (d + 2) 92 51 [.ref 131, .int v1, .int v2, .int v3] [] I L (some (.int r.1)) r.2 L := by
  rw [f_M_bounded_51] at h
  refine xeb 1 (pc' := 52) (ls' := [.ref 131, .int v1, .int v2, .int v3]) (st' := [.ref 131]) rfl ?_
  obtain ⟨q8, eq8, h⟩ := xbind_some h
  refine xcallV rfl xsh131 rfl rfl rfl (Nat.le_of_ble_eq_true rfl) (Nat.le_of_ble_eq_true rfl) (Nat.le_of_ble_eq_true rfl) rfl (g_M_goesOn (d := d + 0) _ eq8) ?_
  refine xeb 2 (pc' := 57) (ls' := [.ref 131, .int v1, .int v2, .int v3]) (st' := [.int v1, .int v3]) rfl ?_
  by_cases c9 : v3 < v1
  · rw [if_pos c9] at h
    refine xei_lt_t rfl c9 ?_
    refine xeb 2 (pc' := 70) (ls' := [.ref 131, .int v1, .int v2, .int v3]) (st' := [.int v1]) rfl ?_
    obtain rfl := Option.some.inj h
    exact xeiret rfl rfl
  · rw [if_neg c9] at h
    refine xei_lt_f rfl c9 ?_
    refine xeb 2 (pc' := 62) (ls' := [.ref 131, .int v1, .int v2, .int v3]) (st' := [.int v2, .int v3]) rfl ?_
    have hj : xEv X (d + 2) 92 70 [.ref 131, .int v1, .int v2, .int v3] [.int (if v3 ≤ v2 then v3 else v1)] q8 L (some (.int r.1)) r.2 L := by
      obtain rfl := Option.some.inj h
      exact xeiret rfl rfl
    by_cases c10 : v3 ≤ v2
    · simp only [if_pos c10] at hj
      refine xei_le_t rfl c10 ?_
      exact xeb 1 rfl hj
    · simp only [if_neg c10] at hj
      refine xei_le_f rfl c10 ?_
      exact xeb 2 rfl hj
noncomputable def f_M_bounded (a1 : Int32) (a2 : Int32) (I : XI) : Option (Int32 × XI) :=
  if 0 < (I 131 13) then (f_M_bounded_15 a1 I) else ((f_M_is I 2).bind fun q3 => if q3 = 0 then (f_M_bounded_15 a1 I) else (xck (xin (I 131 11) 403) (if (I 136 (xN (I 131 11))) < a1 then (f_M_bounded_42 (fun v1 v2 v3 I => f_M_bounded_51 v1 v2 v3 I) a1 a2 (I 136 (xN (I 131 11))) I) else (if (I 136 (xN (I 131 11))) ≤ a2 then (f_M_bounded_51 a1 a2 (I 136 (xN (I 131 11))) I) else (f_M_bounded_42 (fun v1 v2 v3 I => f_M_bounded_51 v1 v2 v3 I) a1 a2 (I 136 (xN (I 131 11))) I)))))
theorem g_M_bounded {X : XX} {d : Nat} {L : XL} {a1 : Int32} {a2 : Int32} {I : XI}  (r : Int32 × XI) (h : f_M_bounded a1 a2 I = some r) : xEv X (d + 2) 92 0 [.ref 131, .int a1, .int a2, .null] [] I L (some (.int r.1)) r.2 L := by
  rw [f_M_bounded] at h
  refine xeb 1 (pc' := 1) (ls' := [.ref 131, .int a1, .int a2, .null]) (st' := [.ref 131]) rfl ?_
  refine xegf0 rfl xsh131 (by decide) ?_
  by_cases c1 : 0 < (I 131 13)
  · rw [if_pos c1] at h
    refine xef_gt_t rfl c1 ?_
    exact g_M_bounded_15 h _ _
  · rw [if_neg c1] at h
    refine xef_gt_f rfl c1 ?_
    refine xeb 2 (pc' := 9) (ls' := [.ref 131, .int a1, .int a2, .null]) (st' := [.int 2, .ref 131]) rfl ?_
    obtain ⟨q3, eq3, h⟩ := xbind_some h
    refine xcallV rfl xsh131 rfl rfl rfl (Nat.le_of_ble_eq_true rfl) (Nat.le_of_ble_eq_true rfl) (Nat.le_of_ble_eq_true rfl) rfl (g_M_is (d := d + 1) _ eq3) ?_
    by_cases c4 : q3 = 0
    · rw [if_pos c4] at h
      refine xef_ne_t rfl c4 ?_
      exact g_M_bounded_15 h _ _
    · rw [if_neg c4] at h
      refine xef_ne_f rfl c4 ?_
      refine xeb 1 (pc' := 23) (ls' := [.ref 131, .int a1, .int a2, .null]) (st' := [.ref 131]) rfl ?_
      refine xegf2 rfl xsh131 (by decide) rfl ?_
      refine xeb 1 (pc' := 27) (ls' := [.ref 131, .int a1, .int a2, .null]) (st' := [.ref 131, .ref 136]) rfl ?_
      refine xegf0 rfl xsh131 (by decide) ?_
      obtain ⟨b5, h⟩ := xck_some h
      refine xeia rfl xsh136 b5 ?_
      refine xeb 3 (pc' := 34) (ls' := [.ref 131, .int a1, .int a2, .int (I 136 (xN (I 131 11)))]) (st' := [.int a1, .int (I 136 (xN (I 131 11)))]) rfl ?_
      by_cases c6 : (I 136 (xN (I 131 11))) < a1
      · rw [if_pos c6] at h
        refine xei_lt_t rfl c6 ?_
        exact g_M_bounded_42 (fun v1 v2 v3 I h' => g_M_bounded_51 h') h
      · rw [if_neg c6] at h
        refine xei_lt_f rfl c6 ?_
        refine xeb 2 (pc' := 39) (ls' := [.ref 131, .int a1, .int a2, .int (I 136 (xN (I 131 11)))]) (st' := [.int a2, .int (I 136 (xN (I 131 11)))]) rfl ?_
        by_cases c11 : (I 136 (xN (I 131 11))) ≤ a2
        · rw [if_pos c11] at h
          refine xei_le_t rfl c11 ?_
          exact g_M_bounded_51 h
        · rw [if_neg c11] at h
          refine xei_le_f rfl c11 ?_
          exact g_M_bounded_42 (fun v1 v2 v3 I h' => g_M_bounded_51 h') h
noncomputable def f_M_toldKnob_30 (v1 : Int32) (I : XI) : Option (Int32 × XI) :=
  (f_M_bounded 0 3 I).bind fun q5 => some ((if v1 = 0 then q5.1 else (-q5.1)), q5.2)
theorem g_M_toldKnob_30 {X : XX} {d : Nat} {L : XL}  {r : Int32 × XI}  {v1 : Int32} {I : XI} (h : f_M_toldKnob_30 v1 I = some r) (z2 : Value) : xEv X (d + 3) 93 30 [.ref 131, .int v1, z2] [] I L (some (.int r.1)) r.2 L := by
  rw [f_M_toldKnob_30] at h
  refine xeb 3 (pc' := 33) (ls' := [.ref 131, .int v1, z2]) (st' := [.int 3, .int 0, .ref 131]) rfl ?_
  obtain ⟨q5, eq5, h⟩ := xbind_some h
  refine xcallV rfl xsh131 rfl rfl rfl (Nat.le_of_ble_eq_true rfl) (Nat.le_of_ble_eq_true rfl) (Nat.le_of_ble_eq_true rfl) rfl (g_M_bounded (d := d + 0) _ eq5) ?_
  refine xeb 2 (pc' := 38) (ls' := [.ref 131, .int v1, .int q5.1]) (st' := [.int v1]) rfl ?_
  have hj : xEv X (d + 3) 93 47 [.ref 131, .int v1, .int q5.1] [.int (if v1 = 0 then q5.1 else (-q5.1))] q5.2 L (some (.int r.1)) r.2 L := by
    obtain rfl := Option.some.inj h
    exact xeiret rfl rfl
  by_cases c6 : v1 = 0
  · simp only [if_pos c6] at hj
    refine xef_eq_t rfl c6 ?_
    exact xeb 1 rfl hj
  · simp only [if_neg c6] at hj
    refine xef_eq_f rfl c6 ?_
    exact xeb 3 rfl hj
noncomputable def f_M_toldKnob_21 (s0 : Int32) (I : XI) : Option (Int32 × XI) :=
  if s0 = 0 then (f_M_toldKnob_30 s0 I) else ((f_M_goesOn I).bind fun q7 => f_M_toldKnob_30 s0 q7)
theorem g_M_toldKnob_21 {X : XX} {d : Nat} {L : XL}  {r : Int32 × XI}  {s0 : Int32} {I : XI} (h : f_M_toldKnob_21 s0 I = some r) (z1 : Value) (z2 : Value) : xEv X (d + 3) 93 21 [.ref 131, z1, z2] [.int s0] I L (some (.int r.1)) r.2 L := by
  rw [f_M_toldKnob_21] at h
  refine xeb 2 (pc' := 23) (ls' := [.ref 131, .int s0, z2]) (st' := [.int s0]) rfl ?_
  by_cases c4 : s0 = 0
  · rw [if_pos c4] at h
    refine xef_eq_t rfl c4 ?_
    exact g_M_toldKnob_30 h _
  · rw [if_neg c4] at h
    refine xef_eq_f rfl c4 ?_
    refine xeb 1 (pc' := 27) (ls' := [.ref 131, .int s0, z2]) (st' := [.ref 131]) rfl ?_
    obtain ⟨q7, eq7, h⟩ := xbind_some h
    refine xcallV rfl xsh131 rfl rfl rfl (Nat.le_of_ble_eq_true rfl) (Nat.le_of_ble_eq_true rfl) (Nat.le_of_ble_eq_true rfl) rfl (g_M_goesOn (d := d + 1) _ eq7) ?_
    exact g_M_toldKnob_30 h _
noncomputable def f_M_toldKnob (I : XI) : Option (Int32 × XI) :=
  if (I 131 13) = 0 then ((f_M_is I 9).bind fun q2 => f_M_toldKnob_21 (if q2 = 0 then 0 else 1) I) else (f_M_toldKnob_21 0 I)
theorem g_M_toldKnob {X : XX} {d : Nat} {L : XL} {I : XI}  (r : Int32 × XI) (h : f_M_toldKnob I = some r) : xEv X (d + 3) 93 0 [.ref 131, .null, .null] [] I L (some (.int r.1)) r.2 L := by
  rw [f_M_toldKnob] at h
  refine xeb 1 (pc' := 1) (ls' := [.ref 131, .null, .null]) (st' := [.ref 131]) rfl ?_
  refine xegf0 rfl xsh131 (by decide) ?_
  by_cases c1 : (I 131 13) = 0
  · rw [if_pos c1] at h
    refine xef_ne_t rfl c1 ?_
    refine xeb 2 (pc' := 10) (ls' := [.ref 131, .null, .null]) (st' := [.int 9, .ref 131]) rfl ?_
    obtain ⟨q2, eq2, h⟩ := xbind_some h
    refine xcallV rfl xsh131 rfl rfl rfl (Nat.le_of_ble_eq_true rfl) (Nat.le_of_ble_eq_true rfl) (Nat.le_of_ble_eq_true rfl) rfl (g_M_is (d := d + 2) _ eq2) ?_
    have hj : xEv X (d + 3) 93 21 [.ref 131, .null, .null] [.int (if q2 = 0 then 0 else 1)] I L (some (.int r.1)) r.2 L := by
      exact g_M_toldKnob_21 h _ _
    by_cases c3 : q2 = 0
    · simp only [if_pos c3] at hj
      refine xef_eq_t rfl c3 ?_
      exact xeb 1 rfl hj
    · simp only [if_neg c3] at hj
      refine xef_eq_f rfl c3 ?_
      exact xeb 2 rfl hj
  · rw [if_neg c1] at h
    refine xef_ne_f rfl c1 ?_
    refine xeb 1 (pc' := 21) (ls' := [.ref 131, .null, .null]) (st' := [.int 0]) rfl ?_
    exact g_M_toldKnob_21 h _ _
noncomputable def f_M_tellKnob (I : XI) : Option (XI) :=
  (f_M_bounded 0 5 I).bind fun q1 => (f_M_bounded 0 4 q1.2).bind fun q2 => (f_M_bounded 0 3 q2.2).bind fun q3 => (f_M_toldKnob q3.2).bind fun q4 => (f_M_must 4 q4.2).bind fun q5 => if (q5 131 13) ≤ 0 then (xck (xin (q5 131 19) 2) (xck (xin ((40 * (q5 131 19)) + (q5 144 (xN (q5 131 19)))) 80) (xst (xput q5 145 (xN ((40 * (q5 131 19)) + (q5 144 (xN (q5 131 19))))) ((6 * q2.1) + q1.1)) fun I9 => xck (xin (I9 131 19) 2) (xck (xin (I9 131 19) 2) (xst (xput I9 144 (xN (I9 131 19)) ((I9 144 (xN (I9 131 19))) + 1)) fun I12 => xck (xin (((120 * (I12 131 19)) + (4 * ((6 * q2.1) + q1.1))) + q3.1) 240) (xst (xput I12 143 (xN (((120 * (I12 131 19)) + (4 * ((6 * q2.1) + q1.1))) + q3.1)) q4.1) fun I14 => some I14)))))) else (some q5)
theorem g_M_tellKnob {X : XX} {d : Nat} {L : XL} {I : XI}  (r : XI) (h : f_M_tellKnob I = some r) : xEv X (d + 4) 94 0 [.ref 131, .null, .null, .null, .null] [] I L none r L := by
  rw [f_M_tellKnob] at h
  refine xeb 3 (pc' := 3) (ls' := [.ref 131, .null, .null, .null, .null]) (st' := [.int 5, .int 0, .ref 131]) rfl ?_
  obtain ⟨q1, eq1, h⟩ := xbind_some h
  refine xcallV rfl xsh131 rfl rfl rfl (Nat.le_of_ble_eq_true rfl) (Nat.le_of_ble_eq_true rfl) (Nat.le_of_ble_eq_true rfl) rfl (g_M_bounded (d := d + 1) _ eq1) ?_
  refine xeb 4 (pc' := 10) (ls' := [.ref 131, .int q1.1, .null, .null, .null]) (st' := [.int 4, .int 0, .ref 131]) rfl ?_
  obtain ⟨q2, eq2, h⟩ := xbind_some h
  refine xcallV rfl xsh131 rfl rfl rfl (Nat.le_of_ble_eq_true rfl) (Nat.le_of_ble_eq_true rfl) (Nat.le_of_ble_eq_true rfl) rfl (g_M_bounded (d := d + 1) _ eq2) ?_
  refine xeb 4 (pc' := 17) (ls' := [.ref 131, .int q1.1, .int q2.1, .null, .null]) (st' := [.int 3, .int 0, .ref 131]) rfl ?_
  obtain ⟨q3, eq3, h⟩ := xbind_some h
  refine xcallV rfl xsh131 rfl rfl rfl (Nat.le_of_ble_eq_true rfl) (Nat.le_of_ble_eq_true rfl) (Nat.le_of_ble_eq_true rfl) rfl (g_M_bounded (d := d + 1) _ eq3) ?_
  refine xeb 2 (pc' := 22) (ls' := [.ref 131, .int q1.1, .int q2.1, .int q3.1, .null]) (st' := [.ref 131]) rfl ?_
  obtain ⟨q4, eq4, h⟩ := xbind_some h
  refine xcallV rfl xsh131 rfl rfl rfl (Nat.le_of_ble_eq_true rfl) (Nat.le_of_ble_eq_true rfl) (Nat.le_of_ble_eq_true rfl) rfl (g_M_toldKnob (d := d + 0) _ eq4) ?_
  refine xeb 3 (pc' := 29) (ls' := [.ref 131, .int q1.1, .int q2.1, .int q3.1, .int q4.1]) (st' := [.int 4, .ref 131]) rfl ?_
  obtain ⟨q5, eq5, h⟩ := xbind_some h
  refine xcallV rfl xsh131 rfl rfl rfl (Nat.le_of_ble_eq_true rfl) (Nat.le_of_ble_eq_true rfl) (Nat.le_of_ble_eq_true rfl) rfl (g_M_must (d := d + 1) _ eq5) ?_
  refine xeb 1 (pc' := 33) (ls' := [.ref 131, .int q1.1, .int q2.1, .int q3.1, .int q4.1]) (st' := [.ref 131]) rfl ?_
  refine xegf0 rfl xsh131 (by decide) ?_
  by_cases c6 : (q5 131 13) ≤ 0
  · rw [if_pos c6] at h
    refine xef_le_t rfl c6 ?_
    refine xeb 1 (pc' := 41) (ls' := [.ref 131, .int q1.1, .int q2.1, .int q3.1, .int q4.1]) (st' := [.ref 131]) rfl ?_
    refine xegf2 rfl xsh131 (by decide) rfl ?_
    refine xeb 2 (pc' := 47) (ls' := [.ref 131, .int q1.1, .int q2.1, .int q3.1, .int q4.1]) (st' := [.ref 131, .int 40, .ref 145]) rfl ?_
    refine xegf0 rfl xsh131 (by decide) ?_
    refine xeb 2 (pc' := 52) (ls' := [.ref 131, .int q1.1, .int q2.1, .int q3.1, .int q4.1]) (st' := [.ref 131, .int (40 * (q5 131 19)), .ref 145]) rfl ?_
    refine xegf2 rfl xsh131 (by decide) rfl ?_
    refine xeb 1 (pc' := 56) (ls' := [.ref 131, .int q1.1, .int q2.1, .int q3.1, .int q4.1]) (st' := [.ref 131, .ref 144, .int (40 * (q5 131 19)), .ref 145]) rfl ?_
    refine xegf0 rfl xsh131 (by decide) ?_
    obtain ⟨b7, h⟩ := xck_some h
    refine xeia rfl xsh144 b7 ?_
    refine xeb 6 (pc' := 67) (ls' := [.ref 131, .int q1.1, .int q2.1, .int q3.1, .int q4.1]) (st' := [.int ((6 * q2.1) + q1.1), .int ((40 * (q5 131 19)) + (q5 144 (xN (q5 131 19)))), .ref 145]) rfl ?_
    obtain ⟨b8, h⟩ := xck_some h
    refine xeis rfl xsh145 b8 ?_
    obtain ⟨I9, hI9, h⟩ := xst_some h
    rw [← hI9]
    refine xeb 1 (pc' := 69) (ls' := [.ref 131, .int q1.1, .int q2.1, .int q3.1, .int q4.1]) (st' := [.ref 131]) rfl ?_
    refine xegf2 rfl xsh131 (by decide) rfl ?_
    refine xeb 1 (pc' := 73) (ls' := [.ref 131, .int q1.1, .int q2.1, .int q3.1, .int q4.1]) (st' := [.ref 131, .ref 144]) rfl ?_
    refine xegf0 rfl xsh131 (by decide) ?_
    refine xeb 1 (pc' := 77) (ls' := [.ref 131, .int q1.1, .int q2.1, .int q3.1, .int q4.1]) (st' := [.int (I9 131 19), .ref 144, .int (I9 131 19), .ref 144]) rfl ?_
    obtain ⟨b10, h⟩ := xck_some h
    refine xeia rfl xsh144 b10 ?_
    refine xeb 2 (pc' := 80) (ls' := [.ref 131, .int q1.1, .int q2.1, .int q3.1, .int q4.1]) (st' := [.int ((I9 144 (xN (I9 131 19))) + 1), .int (I9 131 19), .ref 144]) rfl ?_
    obtain ⟨b11, h⟩ := xck_some h
    refine xeis rfl xsh144 b11 ?_
    obtain ⟨I12, hI12, h⟩ := xst_some h
    rw [← hI12]
    refine xeb 1 (pc' := 82) (ls' := [.ref 131, .int q1.1, .int q2.1, .int q3.1, .int q4.1]) (st' := [.ref 131]) rfl ?_
    refine xegf2 rfl xsh131 (by decide) rfl ?_
    refine xeb 2 (pc' := 88) (ls' := [.ref 131, .int q1.1, .int q2.1, .int q3.1, .int q4.1]) (st' := [.ref 131, .int 120, .ref 143]) rfl ?_
    refine xegf0 rfl xsh131 (by decide) ?_
    refine xeb 12 (pc' := 105) (ls' := [.ref 131, .int q1.1, .int q2.1, .int q3.1, .int q4.1]) (st' := [.int q4.1, .int (((120 * (I12 131 19)) + (4 * ((6 * q2.1) + q1.1))) + q3.1), .ref 143]) rfl ?_
    obtain ⟨b13, h⟩ := xck_some h
    refine xeis rfl xsh143 b13 ?_
    obtain ⟨I14, hI14, h⟩ := xst_some h
    rw [← hI14]
    obtain rfl := Option.some.inj h
    exact xevret rfl
  · rw [if_neg c6] at h
    refine xef_le_f rfl c6 ?_
    obtain rfl := Option.some.inj h
    exact xevret rfl
noncomputable def f_M_tellSpare_74 (F : Nat) : Nat → Int32 → Int32 → Int32 → XI → XL → Option (XI × XL)
  | 0, _, _, _, _, _ => none
  | n + 1, v1, v2, v3, I, L =>
    if 4 ≤ v3 then ((f_M_must 4 I).bind fun q5 => if (q5 131 13) ≤ 0 then (xck (xin v2 403) (xck (xin (q5 131 20) 5) (xst (xputL L 139 (xN (q5 131 20)) (L 137 (xN v2))) fun L9 => xst (xput q5 131 20 ((q5 131 20) + 1)) fun I10 => xck (xin (I10 131 19) 2) (xck (xin (I10 131 19) 2) (xst (xput I10 146 (xN (I10 131 19)) ((I10 146 (xN (I10 131 19))) + 1)) fun I13 => some (I13, L9)))))) else (some (q5, L))) else ((f_M_toldKnob I).bind fun q14 => xck (xin ((4 * v1) + v3) 40) (xst (xput q14.2 147 (xN ((4 * v1) + v3)) q14.1) fun I16 => f_M_tellSpare_74 F n v1 v2 (v3 + 1) I16 L))
theorem g_M_tellSpare_74 {X : XX} {d : Nat} {F : Nat}  {r : XI × XL}  : ∀ (n : Nat) (v1 : Int32) (v2 : Int32) (v3 : Int32) (I : XI) (L : XL), f_M_tellSpare_74 F n v1 v2 v3 I L = some r → xEv X (d + 4) 95 74 [.ref 131, .int v1, .int v2, .int v3] [] I L none r.1 r.2 := by
  intro n
  induction n with
  | zero => intro v1 v2 v3 I L h; rw [f_M_tellSpare_74] at h; cases h
  | succ n ih =>
    intro v1 v2 v3 I L h 
    rw [f_M_tellSpare_74] at h
    refine xeb 2 (pc' := 76) (ls' := [.ref 131, .int v1, .int v2, .int v3]) (st' := [.int 4, .int v3]) rfl ?_
    by_cases c4 : 4 ≤ v3
    · rw [if_pos c4] at h
      refine xei_ge_t rfl c4 ?_
      refine xeb 2 (pc' := 101) (ls' := [.ref 131, .int v1, .int v2, .int v3]) (st' := [.int 4, .ref 131]) rfl ?_
      obtain ⟨q5, eq5, h⟩ := xbind_some h
      refine xcallV rfl xsh131 rfl rfl rfl (Nat.le_of_ble_eq_true rfl) (Nat.le_of_ble_eq_true rfl) (Nat.le_of_ble_eq_true rfl) rfl (g_M_must (d := d + 1) _ eq5) ?_
      refine xeb 1 (pc' := 105) (ls' := [.ref 131, .int v1, .int v2, .int v3]) (st' := [.ref 131]) rfl ?_
      refine xegf0 rfl xsh131 (by decide) ?_
      by_cases c6 : (q5 131 13) ≤ 0
      · rw [if_pos c6] at h
        refine xef_le_t rfl c6 ?_
        refine xeb 1 (pc' := 113) (ls' := [.ref 131, .int v1, .int v2, .int v3]) (st' := [.ref 131]) rfl ?_
        refine xegf2 rfl xsh131 (by decide) rfl ?_
        refine xeb 1 (pc' := 117) (ls' := [.ref 131, .int v1, .int v2, .int v3]) (st' := [.ref 131, .ref 139]) rfl ?_
        refine xegf0 rfl xsh131 (by decide) ?_
        refine xeb 1 (pc' := 121) (ls' := [.ref 131, .int v1, .int v2, .int v3]) (st' := [.ref 131, .int (q5 131 20), .ref 139]) rfl ?_
        refine xegf2 rfl xsh131 (by decide) rfl ?_
        refine xeb 1 (pc' := 125) (ls' := [.ref 131, .int v1, .int v2, .int v3]) (st' := [.int v2, .ref 137, .int (q5 131 20), .ref 139]) rfl ?_
        obtain ⟨b7, h⟩ := xck_some h
        refine xela rfl xsh137 b7 ?_
        obtain ⟨b8, h⟩ := xck_some h
        refine xels rfl xsh139 b8 ?_
        obtain ⟨L9, hL9, h⟩ := xst_some h
        rw [← hL9]
        refine xeb 2 (pc' := 129) (ls' := [.ref 131, .int v1, .int v2, .int v3]) (st' := [.ref 131, .ref 131]) rfl ?_
        refine xegf0 rfl xsh131 (by decide) ?_
        refine xeb 2 (pc' := 134) (ls' := [.ref 131, .int v1, .int v2, .int v3]) (st' := [.int ((q5 131 20) + 1), .ref 131]) rfl ?_
        refine xepf0 rfl xsh131 (by decide) ?_
        obtain ⟨I10, hI10, h⟩ := xst_some h
        rw [← hI10]
        refine xeb 1 (pc' := 138) (ls' := [.ref 131, .int v1, .int v2, .int v3]) (st' := [.ref 131]) rfl ?_
        refine xegf2 rfl xsh131 (by decide) rfl ?_
        refine xeb 1 (pc' := 142) (ls' := [.ref 131, .int v1, .int v2, .int v3]) (st' := [.ref 131, .ref 146]) rfl ?_
        refine xegf0 rfl xsh131 (by decide) ?_
        refine xeb 1 (pc' := 146) (ls' := [.ref 131, .int v1, .int v2, .int v3]) (st' := [.int (I10 131 19), .ref 146, .int (I10 131 19), .ref 146]) rfl ?_
        obtain ⟨b11, h⟩ := xck_some h
        refine xeia rfl xsh146 b11 ?_
        refine xeb 2 (pc' := 149) (ls' := [.ref 131, .int v1, .int v2, .int v3]) (st' := [.int ((I10 146 (xN (I10 131 19))) + 1), .int (I10 131 19), .ref 146]) rfl ?_
        obtain ⟨b12, h⟩ := xck_some h
        refine xeis rfl xsh146 b12 ?_
        obtain ⟨I13, hI13, h⟩ := xst_some h
        rw [← hI13]
        obtain rfl := Option.some.inj h
        exact xevret rfl
      · rw [if_neg c6] at h
        refine xef_le_f rfl c6 ?_
        obtain rfl := Option.some.inj h
        exact xevret rfl
    · rw [if_neg c4] at h
      refine xei_ge_f rfl c4 ?_
      refine xeb 1 (pc' := 80) (ls' := [.ref 131, .int v1, .int v2, .int v3]) (st' := [.ref 131]) rfl ?_
      refine xegf2 rfl xsh131 (by decide) rfl ?_
      refine xeb 6 (pc' := 89) (ls' := [.ref 131, .int v1, .int v2, .int v3]) (st' := [.ref 131, .int ((4 * v1) + v3), .ref 147]) rfl ?_
      obtain ⟨q14, eq14, h⟩ := xbind_some h
      refine xcallV rfl xsh131 rfl rfl rfl (Nat.le_of_ble_eq_true rfl) (Nat.le_of_ble_eq_true rfl) (Nat.le_of_ble_eq_true rfl) rfl (g_M_toldKnob (d := d + 0) _ eq14) ?_
      obtain ⟨b15, h⟩ := xck_some h
      refine xeis rfl xsh147 b15 ?_
      obtain ⟨I16, hI16, h⟩ := xst_some h
      rw [← hI16]
      refine xeb 2 (pc' := 74) (ls' := [.ref 131, .int v1, .int v2, .int (v3 + 1)]) (st' := []) rfl ?_
      exact ih v1 v2 (v3 + 1) I16 L h
noncomputable def f_M_tellSpare_29 (F : Nat) : Nat → Int32 → Int32 → Int32 → XI → XL → Option (XI × XL)
  | 0, _, _, _, _, _ => none
  | n + 1, v1, v2, v3, I, L =>
    if (I 131 20) ≤ v3 then (f_M_tellSpare_74 F F v1 v2 0 I L) else (if (I 131 13) = 0 then (xck (xin v3 5) (xck (xin v2 403) (if (lg_cmp (L 139 (xN v3)) (L 137 (xN v2))) = 0 then ((f_M_wrong 3 v2 I).bind fun q21 => f_M_tellSpare_29 F n v1 v2 (v3 + 1) q21 L) else (f_M_tellSpare_29 F n v1 v2 (v3 + 1) I L)))) else (f_M_tellSpare_74 F F v1 v2 0 I L))
theorem g_M_tellSpare_29 {X : XX} {d : Nat} {F : Nat}  {r : XI × XL}  : ∀ (n : Nat) (v1 : Int32) (v2 : Int32) (v3 : Int32) (I : XI) (L : XL), f_M_tellSpare_29 F n v1 v2 v3 I L = some r → xEv X (d + 4) 95 29 [.ref 131, .int v1, .int v2, .int v3] [] I L none r.1 r.2 := by
  intro n
  induction n with
  | zero => intro v1 v2 v3 I L h; rw [f_M_tellSpare_29] at h; cases h
  | succ n ih =>
    intro v1 v2 v3 I L h 
    rw [f_M_tellSpare_29] at h
    refine xeb 2 (pc' := 31) (ls' := [.ref 131, .int v1, .int v2, .int v3]) (st' := [.ref 131, .int v3]) rfl ?_
    refine xegf0 rfl xsh131 (by decide) ?_
    by_cases c3 : (I 131 20) ≤ v3
    · rw [if_pos c3] at h
      refine xei_ge_t rfl c3 ?_
      refine xeb 2 (pc' := 74) (ls' := [.ref 131, .int v1, .int v2, .int 0]) (st' := []) rfl ?_
      exact g_M_tellSpare_74 F v1 v2 0 I L h
    · rw [if_neg c3] at h
      refine xei_ge_f rfl c3 ?_
      refine xeb 1 (pc' := 38) (ls' := [.ref 131, .int v1, .int v2, .int v3]) (st' := [.ref 131]) rfl ?_
      refine xegf0 rfl xsh131 (by decide) ?_
      by_cases c17 : (I 131 13) = 0
      · rw [if_pos c17] at h
        refine xef_ne_t rfl c17 ?_
        refine xeb 1 (pc' := 45) (ls' := [.ref 131, .int v1, .int v2, .int v3]) (st' := [.ref 131]) rfl ?_
        refine xegf2 rfl xsh131 (by decide) rfl ?_
        refine xeb 1 (pc' := 49) (ls' := [.ref 131, .int v1, .int v2, .int v3]) (st' := [.int v3, .ref 139]) rfl ?_
        obtain ⟨b18, h⟩ := xck_some h
        refine xela rfl xsh139 b18 ?_
        refine xeb 1 (pc' := 51) (ls' := [.ref 131, .int v1, .int v2, .int v3]) (st' := [.ref 131, .long (L 139 (xN v3))]) rfl ?_
        refine xegf2 rfl xsh131 (by decide) rfl ?_
        refine xeb 1 (pc' := 55) (ls' := [.ref 131, .int v1, .int v2, .int v3]) (st' := [.int v2, .ref 137, .long (L 139 (xN v3))]) rfl ?_
        obtain ⟨b19, h⟩ := xck_some h
        refine xela rfl xsh137 b19 ?_
        refine xeb 1 (pc' := 57) (ls' := [.ref 131, .int v1, .int v2, .int v3]) (st' := [.int (lg_cmp (L 139 (xN v3)) (L 137 (xN v2)))]) rfl ?_
        by_cases c20 : (lg_cmp (L 139 (xN v3)) (L 137 (xN v2))) = 0
        · rw [if_pos c20] at h
          refine xef_ne_t rfl c20 ?_
          refine xeb 3 (pc' := 63) (ls' := [.ref 131, .int v1, .int v2, .int v3]) (st' := [.int v2, .int 3, .ref 131]) rfl ?_
          obtain ⟨q21, eq21, h⟩ := xbind_some h
          refine xcallV rfl xsh131 rfl rfl rfl (Nat.le_of_ble_eq_true rfl) (Nat.le_of_ble_eq_true rfl) (Nat.le_of_ble_eq_true rfl) rfl (g_M_wrong (d := d + 3) _ eq21) ?_
          refine xeb 2 (pc' := 29) (ls' := [.ref 131, .int v1, .int v2, .int (v3 + 1)]) (st' := []) rfl ?_
          exact ih v1 v2 (v3 + 1) q21 L h
        · rw [if_neg c20] at h
          refine xef_ne_f rfl c20 ?_
          refine xeb 2 (pc' := 29) (ls' := [.ref 131, .int v1, .int v2, .int (v3 + 1)]) (st' := []) rfl ?_
          exact ih v1 v2 (v3 + 1) I L h
      · rw [if_neg c17] at h
        refine xef_ne_f rfl c17 ?_
        refine xeb 2 (pc' := 74) (ls' := [.ref 131, .int v1, .int v2, .int 0]) (st' := []) rfl ?_
        exact g_M_tellSpare_74 F v1 v2 0 I L h
noncomputable def f_M_tellSpare (F : Nat) (I : XI) (L : XL) : Option (XI × XL) :=
  xck (xin (I 131 19) 2) ((f_M_must 1 I).bind fun q2 => f_M_tellSpare_29 F F ((5 * (I 131 19)) + (I 146 (xN (I 131 19)))) (I 131 11) 0 q2 L)
theorem g_M_tellSpare {X : XX} {d : Nat} {F : Nat} {I : XI} {L : XL}  (r : XI × XL) (h : f_M_tellSpare F I L = some r) : xEv X (d + 4) 95 0 [.ref 131, .null, .null, .null] [] I L none r.1 r.2 := by
  rw [f_M_tellSpare] at h
  refine xeb 2 (pc' := 2) (ls' := [.ref 131, .null, .null, .null]) (st' := [.ref 131, .int 5]) rfl ?_
  refine xegf0 rfl xsh131 (by decide) ?_
  refine xeb 2 (pc' := 7) (ls' := [.ref 131, .null, .null, .null]) (st' := [.ref 131, .int (5 * (I 131 19))]) rfl ?_
  refine xegf2 rfl xsh131 (by decide) rfl ?_
  refine xeb 1 (pc' := 11) (ls' := [.ref 131, .null, .null, .null]) (st' := [.ref 131, .ref 146, .int (5 * (I 131 19))]) rfl ?_
  refine xegf0 rfl xsh131 (by decide) ?_
  obtain ⟨b1, h⟩ := xck_some h
  refine xeia rfl xsh146 b1 ?_
  refine xeb 3 (pc' := 18) (ls' := [.ref 131, .int ((5 * (I 131 19)) + (I 146 (xN (I 131 19)))), .null, .null]) (st' := [.ref 131]) rfl ?_
  refine xegf0 rfl xsh131 (by decide) ?_
  refine xeb 3 (pc' := 24) (ls' := [.ref 131, .int ((5 * (I 131 19)) + (I 146 (xN (I 131 19)))), .int (I 131 11), .null]) (st' := [.int 1, .ref 131]) rfl ?_
  obtain ⟨q2, eq2, h⟩ := xbind_some h
  refine xcallV rfl xsh131 rfl rfl rfl (Nat.le_of_ble_eq_true rfl) (Nat.le_of_ble_eq_true rfl) (Nat.le_of_ble_eq_true rfl) rfl (g_M_must (d := d + 1) _ eq2) ?_
  refine xeb 2 (pc' := 29) (ls' := [.ref 131, .int ((5 * (I 131 19)) + (I 146 (xN (I 131 19)))), .int (I 131 11), .int 0]) (st' := []) rfl ?_
  exact g_M_tellSpare_29 F ((5 * (I 131 19)) + (I 146 (xN (I 131 19)))) (I 131 11) 0 q2 L h
noncomputable def f_M_emit (a1 : Int32) (a2 : Int32) (I : XI) : Option (XI) :=
  xck (xin (I 131 40) 840) (xst (xput I 157 (xN (I 131 40)) a1) fun I2 => xck (xin (I2 131 40) 840) (xst (xput I2 158 (xN (I2 131 40)) a2) fun I4 => xst (xput I4 131 40 ((I4 131 40) + 1)) fun I5 => some I5))
theorem g_M_emit {X : XX} {d : Nat} {L : XL} {a1 : Int32} {a2 : Int32} {I : XI}  (r : XI) (h : f_M_emit a1 a2 I = some r) : xEv X (d + 0) 96 0 [.ref 131, .int a1, .int a2] [] I L none r L := by
  rw [f_M_emit] at h
  refine xeb 1 (pc' := 1) (ls' := [.ref 131, .int a1, .int a2]) (st' := [.ref 131]) rfl ?_
  refine xegf2 rfl xsh131 (by decide) rfl ?_
  refine xeb 1 (pc' := 5) (ls' := [.ref 131, .int a1, .int a2]) (st' := [.ref 131, .ref 157]) rfl ?_
  refine xegf0 rfl xsh131 (by decide) ?_
  refine xeb 1 (pc' := 9) (ls' := [.ref 131, .int a1, .int a2]) (st' := [.int a1, .int (I 131 40), .ref 157]) rfl ?_
  obtain ⟨b1, h⟩ := xck_some h
  refine xeis rfl xsh157 b1 ?_
  obtain ⟨I2, hI2, h⟩ := xst_some h
  rw [← hI2]
  refine xeb 1 (pc' := 11) (ls' := [.ref 131, .int a1, .int a2]) (st' := [.ref 131]) rfl ?_
  refine xegf2 rfl xsh131 (by decide) rfl ?_
  refine xeb 1 (pc' := 15) (ls' := [.ref 131, .int a1, .int a2]) (st' := [.ref 131, .ref 158]) rfl ?_
  refine xegf0 rfl xsh131 (by decide) ?_
  refine xeb 1 (pc' := 19) (ls' := [.ref 131, .int a1, .int a2]) (st' := [.int a2, .int (I2 131 40), .ref 158]) rfl ?_
  obtain ⟨b3, h⟩ := xck_some h
  refine xeis rfl xsh158 b3 ?_
  obtain ⟨I4, hI4, h⟩ := xst_some h
  rw [← hI4]
  refine xeb 2 (pc' := 22) (ls' := [.ref 131, .int a1, .int a2]) (st' := [.ref 131, .ref 131]) rfl ?_
  refine xegf0 rfl xsh131 (by decide) ?_
  refine xeb 2 (pc' := 27) (ls' := [.ref 131, .int a1, .int a2]) (st' := [.int ((I4 131 40) + 1), .ref 131]) rfl ?_
  refine xepf0 rfl xsh131 (by decide) ?_
  obtain ⟨I5, hI5, h⟩ := xst_some h
  rw [← hI5]
  obtain rfl := Option.some.inj h
  exact xevret rfl
noncomputable def f_M_unit_88 (I : XI) : Option (XI) :=
  (f_M_fail 1 I).bind fun q6 => some q6
theorem g_M_unit_88 {X : XX} {d : Nat} {L : XL}  {r : XI}  {I : XI} (h : f_M_unit_88 I = some r)  : xEv X (d + 2) 97 88 [.ref 131] [] I L none r L := by
  rw [f_M_unit_88] at h
  refine xeb 2 (pc' := 90) (ls' := [.ref 131]) (st' := [.int 1, .ref 131]) rfl ?_
  obtain ⟨q6, eq6, h⟩ := xbind_some h
  refine xcallV rfl xsh131 rfl rfl rfl (Nat.le_of_ble_eq_true rfl) (Nat.le_of_ble_eq_true rfl) (Nat.le_of_ble_eq_true rfl) rfl (g_M_fail (d := d + 1) _ eq6) ?_
  obtain rfl := Option.some.inj h
  exact xevret rfl
noncomputable def f_M_unit (I : XI) : Option (XI) :=
  (f_M_is I 2).bind fun q1 => if q1 = 0 then (if (I 131 13) = 0 then (xck (xin (I 131 11) 403) (if (I 134 (xN (I 131 11))) < 32 then (f_M_unit_88 I) else (xck (xin (I 131 11) 403) (if 40 < (I 134 (xN (I 131 11))) then (f_M_unit_88 I) else (xck (xin (I 131 11) 403) ((f_M_emit 1 ((I 134 (xN (I 131 11))) - 32) I).bind fun q10 => (f_M_goesOn q10).bind fun q11 => some q11)))))) else (f_M_unit_88 I)) else (xck (xin (I 131 11) 403) ((f_M_emit 0 (I 136 (xN (I 131 11))) I).bind fun q13 => (f_M_goesOn q13).bind fun q14 => some q14))
theorem g_M_unit {X : XX} {d : Nat} {L : XL} {I : XI}  (r : XI) (h : f_M_unit I = some r) : xEv X (d + 2) 97 0 [.ref 131] [] I L none r L := by
  rw [f_M_unit] at h
  refine xeb 2 (pc' := 2) (ls' := [.ref 131]) (st' := [.int 2, .ref 131]) rfl ?_
  obtain ⟨q1, eq1, h⟩ := xbind_some h
  refine xcallV rfl xsh131 rfl rfl rfl (Nat.le_of_ble_eq_true rfl) (Nat.le_of_ble_eq_true rfl) (Nat.le_of_ble_eq_true rfl) rfl (g_M_is (d := d + 1) _ eq1) ?_
  by_cases c2 : q1 = 0
  · rw [if_pos c2] at h
    refine xef_eq_t rfl c2 ?_
    refine xeb 1 (pc' := 30) (ls' := [.ref 131]) (st' := [.ref 131]) rfl ?_
    refine xegf0 rfl xsh131 (by decide) ?_
    by_cases c3 : (I 131 13) = 0
    · rw [if_pos c3] at h
      refine xef_ne_t rfl c3 ?_
      refine xeb 1 (pc' := 37) (ls' := [.ref 131]) (st' := [.ref 131]) rfl ?_
      refine xegf2 rfl xsh131 (by decide) rfl ?_
      refine xeb 1 (pc' := 41) (ls' := [.ref 131]) (st' := [.ref 131, .ref 134]) rfl ?_
      refine xegf0 rfl xsh131 (by decide) ?_
      obtain ⟨b4, h⟩ := xck_some h
      refine xeia rfl xsh134 b4 ?_
      refine xeb 1 (pc' := 47) (ls' := [.ref 131]) (st' := [.int 32, .int (I 134 (xN (I 131 11)))]) rfl ?_
      by_cases c5 : (I 134 (xN (I 131 11))) < 32
      · rw [if_pos c5] at h
        refine xei_lt_t rfl c5 ?_
        exact g_M_unit_88 h
      · rw [if_neg c5] at h
        refine xei_lt_f rfl c5 ?_
        refine xeb 1 (pc' := 51) (ls' := [.ref 131]) (st' := [.ref 131]) rfl ?_
        refine xegf2 rfl xsh131 (by decide) rfl ?_
        refine xeb 1 (pc' := 55) (ls' := [.ref 131]) (st' := [.ref 131, .ref 134]) rfl ?_
        refine xegf0 rfl xsh131 (by decide) ?_
        obtain ⟨b7, h⟩ := xck_some h
        refine xeia rfl xsh134 b7 ?_
        refine xeb 1 (pc' := 61) (ls' := [.ref 131]) (st' := [.int 40, .int (I 134 (xN (I 131 11)))]) rfl ?_
        by_cases c8 : 40 < (I 134 (xN (I 131 11)))
        · rw [if_pos c8] at h
          refine xei_gt_t rfl c8 ?_
          exact g_M_unit_88 h
        · rw [if_neg c8] at h
          refine xei_gt_f rfl c8 ?_
          refine xeb 3 (pc' := 67) (ls' := [.ref 131]) (st' := [.ref 131, .int 1, .ref 131]) rfl ?_
          refine xegf2 rfl xsh131 (by decide) rfl ?_
          refine xeb 1 (pc' := 71) (ls' := [.ref 131]) (st' := [.ref 131, .ref 134, .int 1, .ref 131]) rfl ?_
          refine xegf0 rfl xsh131 (by decide) ?_
          obtain ⟨b9, h⟩ := xck_some h
          refine xeia rfl xsh134 b9 ?_
          refine xeb 2 (pc' := 78) (ls' := [.ref 131]) (st' := [.int ((I 134 (xN (I 131 11))) - 32), .int 1, .ref 131]) rfl ?_
          obtain ⟨q10, eq10, h⟩ := xbind_some h
          refine xcallV rfl xsh131 rfl rfl rfl (Nat.le_of_ble_eq_true rfl) (Nat.le_of_ble_eq_true rfl) (Nat.le_of_ble_eq_true rfl) rfl (g_M_emit (d := d + 1) _ eq10) ?_
          refine xeb 1 (pc' := 82) (ls' := [.ref 131]) (st' := [.ref 131]) rfl ?_
          obtain ⟨q11, eq11, h⟩ := xbind_some h
          refine xcallV rfl xsh131 rfl rfl rfl (Nat.le_of_ble_eq_true rfl) (Nat.le_of_ble_eq_true rfl) (Nat.le_of_ble_eq_true rfl) rfl (g_M_goesOn (d := d + 0) _ eq11) ?_
          refine xeb 1 (pc' := 93) (ls' := [.ref 131]) (st' := []) rfl ?_
          obtain rfl := Option.some.inj h
          exact xevret rfl
    · rw [if_neg c3] at h
      refine xef_ne_f rfl c3 ?_
      exact g_M_unit_88 h
  · rw [if_neg c2] at h
    refine xef_eq_f rfl c2 ?_
    refine xeb 3 (pc' := 11) (ls' := [.ref 131]) (st' := [.ref 131, .int 0, .ref 131]) rfl ?_
    refine xegf2 rfl xsh131 (by decide) rfl ?_
    refine xeb 1 (pc' := 15) (ls' := [.ref 131]) (st' := [.ref 131, .ref 136, .int 0, .ref 131]) rfl ?_
    refine xegf0 rfl xsh131 (by decide) ?_
    obtain ⟨b12, h⟩ := xck_some h
    refine xeia rfl xsh136 b12 ?_
    obtain ⟨q13, eq13, h⟩ := xbind_some h
    refine xcallV rfl xsh131 rfl rfl rfl (Nat.le_of_ble_eq_true rfl) (Nat.le_of_ble_eq_true rfl) (Nat.le_of_ble_eq_true rfl) rfl (g_M_emit (d := d + 1) _ eq13) ?_
    refine xeb 1 (pc' := 23) (ls' := [.ref 131]) (st' := [.ref 131]) rfl ?_
    obtain ⟨q14, eq14, h⟩ := xbind_some h
    refine xcallV rfl xsh131 rfl rfl rfl (Nat.le_of_ble_eq_true rfl) (Nat.le_of_ble_eq_true rfl) (Nat.le_of_ble_eq_true rfl) rfl (g_M_goesOn (d := d + 0) _ eq14) ?_
    refine xeb 1 (pc' := 93) (ls' := [.ref 131]) (st' := []) rfl ?_
    obtain rfl := Option.some.inj h
    exact xevret rfl
