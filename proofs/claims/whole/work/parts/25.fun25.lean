/-! the methods as functions, and that a run answers so (by gen6.py) -/
noncomputable def f_M_tellOne_233 (F : Nat) (k238 : Int32 → XI → XL → Option (XI × XL)) (v1 : Int32) (I : XI) (L : XL) : Option (XI × XL) :=
  (f_M_fail 1 I).bind fun q4 => k238 v1 q4 L
theorem g_M_tellOne_233 {X : XX} {d : Nat} {F : Nat} {k238 : Int32 → XI → XL → Option (XI × XL)}  {r : XI × XL} (hk238 : ∀ (v1 : Int32) (I : XI) (L : XL), k238 v1 I L = some r → xEv X (d + 6) 102 238 [.ref 131, .int v1] [] I L none r.1 r.2) {v1 : Int32} {I : XI} {L : XL} (h : f_M_tellOne_233 F k238 v1 I L = some r)  : xEv X (d + 6) 102 233 [.ref 131, .int v1] [] I L none r.1 r.2 := by
  rw [f_M_tellOne_233] at h
  refine xeb 2 (pc' := 235) (ls' := [.ref 131, .int v1]) (st' := [.int 1, .ref 131]) rfl ?_
  obtain ⟨q4, eq4, h⟩ := xbind_some h
  refine xcallV rfl xsh131 rfl rfl rfl (Nat.le_of_ble_eq_true rfl) (Nat.le_of_ble_eq_true rfl) (Nat.le_of_ble_eq_true rfl) rfl (g_M_fail (d := d + 5) _ eq4) ?_
  exact hk238 v1 q4 L h
noncomputable def f_M_tellOne_238 (F : Nat) (v1 : Int32) (I : XI) (L : XL) : Option (XI × XL) :=
  if (I 131 13) ≤ 0 then ((f_M_goesOn I).bind fun q6 => (f_M_tellLaw F v1 q6).bind fun q7 => some (q7, L)) else (some (I, L))
theorem g_M_tellOne_238 {X : XX} {d : Nat} {F : Nat}  {r : XI × XL}  {v1 : Int32} {I : XI} {L : XL} (h : f_M_tellOne_238 F v1 I L = some r)  : xEv X (d + 6) 102 238 [.ref 131, .int v1] [] I L none r.1 r.2 := by
  rw [f_M_tellOne_238] at h
  refine xeb 1 (pc' := 239) (ls' := [.ref 131, .int v1]) (st' := [.ref 131]) rfl ?_
  refine xegf0 rfl xsh131 (by decide) ?_
  by_cases c5 : (I 131 13) ≤ 0
  · rw [if_pos c5] at h
    refine xef_le_t rfl c5 ?_
    refine xeb 1 (pc' := 247) (ls' := [.ref 131, .int v1]) (st' := [.ref 131]) rfl ?_
    obtain ⟨q6, eq6, h⟩ := xbind_some h
    refine xcallV rfl xsh131 rfl rfl rfl (Nat.le_of_ble_eq_true rfl) (Nat.le_of_ble_eq_true rfl) (Nat.le_of_ble_eq_true rfl) rfl (g_M_goesOn (d := d + 4) _ eq6) ?_
    refine xeb 2 (pc' := 252) (ls' := [.ref 131, .int v1]) (st' := [.int v1, .ref 131]) rfl ?_
    obtain ⟨q7, eq7, h⟩ := xbind_some h
    refine xcallV rfl xsh131 rfl rfl rfl (Nat.le_of_ble_eq_true rfl) (Nat.le_of_ble_eq_true rfl) (Nat.le_of_ble_eq_true rfl) rfl (g_M_tellLaw (d := d + 0) _ eq7) ?_
    obtain rfl := Option.some.inj h
    exact xevret rfl
  · rw [if_neg c5] at h
    refine xef_le_f rfl c5 ?_
    obtain rfl := Option.some.inj h
    exact xevret rfl
noncomputable def f_M_tellOne (F : Nat) (I : XI) (L : XL) : Option (XI × XL) :=
  xck (xin (I 131 11) 403) (if (I 134 (xN (I 131 11))) < 20 ∨ 28 < (I 134 (xN (I 131 11))) then (xck (xin (I 131 11) 403) (if ((I 134 (xN (I 131 11))) - 23) < 0 then (f_M_tellOne_233 F (fun v1 I L => f_M_tellOne_238 F v1 I L) ((I 134 (xN (I 131 11))) - 23) I L) else (xck (xin (I 131 11) 403) (if (I 134 (xN (I 131 11))) ≤ 26 then (f_M_tellOne_238 F ((I 134 (xN (I 131 11))) - 23) I L) else (f_M_tellOne_233 F (fun v1 I L => f_M_tellOne_238 F v1 I L) ((I 134 (xN (I 131 11))) - 23) I L))))) else if (I 134 (xN (I 131 11))) = 20 then (xck (xin (I 131 19) 2) ((f_M_roomFor (I 141 (xN (I 131 19))) 5 I).bind fun q12 => if (q12 131 13) = 0 then ((f_M_tellRow F L q12).bind fun q14 => some (q14, L)) else (some (q12, L)))) else if (I 134 (xN (I 131 11))) = 21 then (xck (xin (I 131 19) 2) ((f_M_roomFor (I 144 (xN (I 131 19))) 40 I).bind fun q17 => if (q17 131 13) = 0 then ((f_M_tellKnob q17).bind fun q19 => some (q19, L)) else (some (q17, L)))) else if (I 134 (xN (I 131 11))) = 22 then (xck (xin (I 131 19) 2) ((f_M_roomFor (I 146 (xN (I 131 19))) 5 I).bind fun q22 => if (q22 131 13) = 0 then ((f_M_tellSpare F q22 L).bind fun q24 => some (q24.1, q24.2)) else (some (q22, L)))) else if (I 134 (xN (I 131 11))) = 23 then (xck (xin (I 131 11) 403) (if ((I 134 (xN (I 131 11))) - 23) < 0 then (f_M_tellOne_233 F (fun v1 I L => f_M_tellOne_238 F v1 I L) ((I 134 (xN (I 131 11))) - 23) I L) else (xck (xin (I 131 11) 403) (if (I 134 (xN (I 131 11))) ≤ 26 then (f_M_tellOne_238 F ((I 134 (xN (I 131 11))) - 23) I L) else (f_M_tellOne_233 F (fun v1 I L => f_M_tellOne_238 F v1 I L) ((I 134 (xN (I 131 11))) - 23) I L))))) else if (I 134 (xN (I 131 11))) = 24 then (xck (xin (I 131 11) 403) (if ((I 134 (xN (I 131 11))) - 23) < 0 then (f_M_tellOne_233 F (fun v1 I L => f_M_tellOne_238 F v1 I L) ((I 134 (xN (I 131 11))) - 23) I L) else (xck (xin (I 131 11) 403) (if (I 134 (xN (I 131 11))) ≤ 26 then (f_M_tellOne_238 F ((I 134 (xN (I 131 11))) - 23) I L) else (f_M_tellOne_233 F (fun v1 I L => f_M_tellOne_238 F v1 I L) ((I 134 (xN (I 131 11))) - 23) I L))))) else if (I 134 (xN (I 131 11))) = 25 then (xck (xin (I 131 11) 403) (if ((I 134 (xN (I 131 11))) - 23) < 0 then (f_M_tellOne_233 F (fun v1 I L => f_M_tellOne_238 F v1 I L) ((I 134 (xN (I 131 11))) - 23) I L) else (xck (xin (I 131 11) 403) (if (I 134 (xN (I 131 11))) ≤ 26 then (f_M_tellOne_238 F ((I 134 (xN (I 131 11))) - 23) I L) else (f_M_tellOne_233 F (fun v1 I L => f_M_tellOne_238 F v1 I L) ((I 134 (xN (I 131 11))) - 23) I L))))) else if (I 134 (xN (I 131 11))) = 26 then (xck (xin (I 131 11) 403) (if ((I 134 (xN (I 131 11))) - 23) < 0 then (f_M_tellOne_233 F (fun v1 I L => f_M_tellOne_238 F v1 I L) ((I 134 (xN (I 131 11))) - 23) I L) else (xck (xin (I 131 11) 403) (if (I 134 (xN (I 131 11))) ≤ 26 then (f_M_tellOne_238 F ((I 134 (xN (I 131 11))) - 23) I L) else (f_M_tellOne_233 F (fun v1 I L => f_M_tellOne_238 F v1 I L) ((I 134 (xN (I 131 11))) - 23) I L))))) else if (I 134 (xN (I 131 11))) = 27 then ((f_M_goesOn I).bind fun q46 => (f_M_bounded 0 100 q46).bind fun q47 => xck (xin (q46 131 19) 2) (xst (xput q47.2 148 (xN (q46 131 19)) q47.1) fun I49 => (f_M_must 4 I49).bind fun q50 => some (q50, L))) else if (I 134 (xN (I 131 11))) = 28 then ((f_M_goesOn I).bind fun q52 => (f_M_bounded 0 9999 q52).bind fun q53 => xck (xin (q52 131 19) 2) (xst (xput q53.2 149 (xN (q52 131 19)) q53.1) fun I55 => (f_M_must 4 I55).bind fun q56 => some (q56, L))) else none)
theorem g_M_tellOne {X : XX} {d : Nat} {F : Nat} {I : XI} {L : XL}  (r : XI × XL) (h : f_M_tellOne F I L = some r) : xEv X (d + 6) 102 0 [.ref 131, .null] [] I L none r.1 r.2 := by
  rw [f_M_tellOne] at h
  refine xeb 1 (pc' := 1) (ls' := [.ref 131, .null]) (st' := [.ref 131]) rfl ?_
  refine xegf2 rfl xsh131 (by decide) rfl ?_
  refine xeb 1 (pc' := 5) (ls' := [.ref 131, .null]) (st' := [.ref 131, .ref 134]) rfl ?_
  refine xegf0 rfl xsh131 (by decide) ?_
  obtain ⟨b1, h⟩ := xck_some h
  refine xeia rfl xsh134 b1 ?_
  by_cases c10 : (I 134 (xN (I 131 11))) < 20 ∨ 28 < (I 134 (xN (I 131 11)))
  · rw [if_pos c10] at h
    refine xetabO rfl rfl rfl c10 ?_
    refine xeb 1 (pc' := 203) (ls' := [.ref 131, .null]) (st' := [.ref 131]) rfl ?_
    refine xegf2 rfl xsh131 (by decide) rfl ?_
    refine xeb 1 (pc' := 207) (ls' := [.ref 131, .null]) (st' := [.ref 131, .ref 134]) rfl ?_
    refine xegf0 rfl xsh131 (by decide) ?_
    obtain ⟨b2, h⟩ := xck_some h
    refine xeia rfl xsh134 b2 ?_
    refine xeb 4 (pc' := 216) (ls' := [.ref 131, .int ((I 134 (xN (I 131 11))) - 23)]) (st' := [.int ((I 134 (xN (I 131 11))) - 23)]) rfl ?_
    by_cases c3 : ((I 134 (xN (I 131 11))) - 23) < 0
    · rw [if_pos c3] at h
      refine xef_lt_t rfl c3 ?_
      exact g_M_tellOne_233 (fun v1 I L h' => g_M_tellOne_238 h') h
    · rw [if_neg c3] at h
      refine xef_lt_f rfl c3 ?_
      refine xeb 1 (pc' := 220) (ls' := [.ref 131, .int ((I 134 (xN (I 131 11))) - 23)]) (st' := [.ref 131]) rfl ?_
      refine xegf2 rfl xsh131 (by decide) rfl ?_
      refine xeb 1 (pc' := 224) (ls' := [.ref 131, .int ((I 134 (xN (I 131 11))) - 23)]) (st' := [.ref 131, .ref 134]) rfl ?_
      refine xegf0 rfl xsh131 (by decide) ?_
      obtain ⟨b8, h⟩ := xck_some h
      refine xeia rfl xsh134 b8 ?_
      refine xeb 1 (pc' := 230) (ls' := [.ref 131, .int ((I 134 (xN (I 131 11))) - 23)]) (st' := [.int 26, .int (I 134 (xN (I 131 11)))]) rfl ?_
      by_cases c9 : (I 134 (xN (I 131 11))) ≤ 26
      · rw [if_pos c9] at h
        refine xei_le_t rfl c9 ?_
        exact g_M_tellOne_238 h
      · rw [if_neg c9] at h
        refine xei_le_f rfl c9 ?_
        exact g_M_tellOne_233 (fun v1 I L h' => g_M_tellOne_238 h') h
  rw [if_neg c10] at h
  by_cases c15 : (I 134 (xN (I 131 11))) = 20
  · rw [if_pos c15] at h
    refine xetabI rfl c15 rfl ?_
    refine xeb 2 (pc' := 62) (ls' := [.ref 131, .null]) (st' := [.ref 131, .ref 131]) rfl ?_
    refine xegf2 rfl xsh131 (by decide) rfl ?_
    refine xeb 1 (pc' := 66) (ls' := [.ref 131, .null]) (st' := [.ref 131, .ref 141, .ref 131]) rfl ?_
    refine xegf0 rfl xsh131 (by decide) ?_
    obtain ⟨b11, h⟩ := xck_some h
    refine xeia rfl xsh141 b11 ?_
    refine xeb 1 (pc' := 71) (ls' := [.ref 131, .null]) (st' := [.int 5, .int (I 141 (xN (I 131 19))), .ref 131]) rfl ?_
    obtain ⟨q12, eq12, h⟩ := xbind_some h
    refine xcallV rfl xsh131 rfl rfl rfl (Nat.le_of_ble_eq_true rfl) (Nat.le_of_ble_eq_true rfl) (Nat.le_of_ble_eq_true rfl) rfl (g_M_roomFor (d := d + 3) _ eq12) ?_
    refine xeb 1 (pc' := 75) (ls' := [.ref 131, .null]) (st' := [.ref 131]) rfl ?_
    refine xegf0 rfl xsh131 (by decide) ?_
    by_cases c13 : (q12 131 13) = 0
    · rw [if_pos c13] at h
      refine xef_ne_t rfl c13 ?_
      refine xeb 1 (pc' := 82) (ls' := [.ref 131, .null]) (st' := [.ref 131]) rfl ?_
      obtain ⟨q14, eq14, h⟩ := xbind_some h
      refine xcallV rfl xsh131 rfl rfl rfl (Nat.le_of_ble_eq_true rfl) (Nat.le_of_ble_eq_true rfl) (Nat.le_of_ble_eq_true rfl) rfl (g_M_tellRow (d := d + 2) _ eq14) ?_
      refine xeb 1 (pc' := 255) (ls' := [.ref 131, .null]) (st' := []) rfl ?_
      obtain rfl := Option.some.inj h
      exact xevret rfl
    · rw [if_neg c13] at h
      refine xef_ne_f rfl c13 ?_
      obtain rfl := Option.some.inj h
      exact xevret rfl
  rw [if_neg c15] at h
  by_cases c20 : (I 134 (xN (I 131 11))) = 21
  · rw [if_pos c20] at h
    refine xetabI rfl c20 rfl ?_
    refine xeb 2 (pc' := 90) (ls' := [.ref 131, .null]) (st' := [.ref 131, .ref 131]) rfl ?_
    refine xegf2 rfl xsh131 (by decide) rfl ?_
    refine xeb 1 (pc' := 94) (ls' := [.ref 131, .null]) (st' := [.ref 131, .ref 144, .ref 131]) rfl ?_
    refine xegf0 rfl xsh131 (by decide) ?_
    obtain ⟨b16, h⟩ := xck_some h
    refine xeia rfl xsh144 b16 ?_
    refine xeb 1 (pc' := 100) (ls' := [.ref 131, .null]) (st' := [.int 40, .int (I 144 (xN (I 131 19))), .ref 131]) rfl ?_
    obtain ⟨q17, eq17, h⟩ := xbind_some h
    refine xcallV rfl xsh131 rfl rfl rfl (Nat.le_of_ble_eq_true rfl) (Nat.le_of_ble_eq_true rfl) (Nat.le_of_ble_eq_true rfl) rfl (g_M_roomFor (d := d + 3) _ eq17) ?_
    refine xeb 1 (pc' := 104) (ls' := [.ref 131, .null]) (st' := [.ref 131]) rfl ?_
    refine xegf0 rfl xsh131 (by decide) ?_
    by_cases c18 : (q17 131 13) = 0
    · rw [if_pos c18] at h
      refine xef_ne_t rfl c18 ?_
      refine xeb 1 (pc' := 111) (ls' := [.ref 131, .null]) (st' := [.ref 131]) rfl ?_
      obtain ⟨q19, eq19, h⟩ := xbind_some h
      refine xcallV rfl xsh131 rfl rfl rfl (Nat.le_of_ble_eq_true rfl) (Nat.le_of_ble_eq_true rfl) (Nat.le_of_ble_eq_true rfl) rfl (g_M_tellKnob (d := d + 1) _ eq19) ?_
      refine xeb 1 (pc' := 255) (ls' := [.ref 131, .null]) (st' := []) rfl ?_
      obtain rfl := Option.some.inj h
      exact xevret rfl
    · rw [if_neg c18] at h
      refine xef_ne_f rfl c18 ?_
      obtain rfl := Option.some.inj h
      exact xevret rfl
  rw [if_neg c20] at h
  by_cases c25 : (I 134 (xN (I 131 11))) = 22
  · rw [if_pos c25] at h
    refine xetabI rfl c25 rfl ?_
    refine xeb 2 (pc' := 119) (ls' := [.ref 131, .null]) (st' := [.ref 131, .ref 131]) rfl ?_
    refine xegf2 rfl xsh131 (by decide) rfl ?_
    refine xeb 1 (pc' := 123) (ls' := [.ref 131, .null]) (st' := [.ref 131, .ref 146, .ref 131]) rfl ?_
    refine xegf0 rfl xsh131 (by decide) ?_
    obtain ⟨b21, h⟩ := xck_some h
    refine xeia rfl xsh146 b21 ?_
    refine xeb 1 (pc' := 128) (ls' := [.ref 131, .null]) (st' := [.int 5, .int (I 146 (xN (I 131 19))), .ref 131]) rfl ?_
    obtain ⟨q22, eq22, h⟩ := xbind_some h
    refine xcallV rfl xsh131 rfl rfl rfl (Nat.le_of_ble_eq_true rfl) (Nat.le_of_ble_eq_true rfl) (Nat.le_of_ble_eq_true rfl) rfl (g_M_roomFor (d := d + 3) _ eq22) ?_
    refine xeb 1 (pc' := 132) (ls' := [.ref 131, .null]) (st' := [.ref 131]) rfl ?_
    refine xegf0 rfl xsh131 (by decide) ?_
    by_cases c23 : (q22 131 13) = 0
    · rw [if_pos c23] at h
      refine xef_ne_t rfl c23 ?_
      refine xeb 1 (pc' := 139) (ls' := [.ref 131, .null]) (st' := [.ref 131]) rfl ?_
      obtain ⟨q24, eq24, h⟩ := xbind_some h
      refine xcallV rfl xsh131 rfl rfl rfl (Nat.le_of_ble_eq_true rfl) (Nat.le_of_ble_eq_true rfl) (Nat.le_of_ble_eq_true rfl) rfl (g_M_tellSpare (d := d + 1) _ eq24) ?_
      refine xeb 1 (pc' := 255) (ls' := [.ref 131, .null]) (st' := []) rfl ?_
      obtain rfl := Option.some.inj h
      exact xevret rfl
    · rw [if_neg c23] at h
      refine xef_ne_f rfl c23 ?_
      obtain rfl := Option.some.inj h
      exact xevret rfl
  rw [if_neg c25] at h
  by_cases c30 : (I 134 (xN (I 131 11))) = 23
  · rw [if_pos c30] at h
    refine xetabI rfl c30 rfl ?_
    refine xeb 1 (pc' := 203) (ls' := [.ref 131, .null]) (st' := [.ref 131]) rfl ?_
    refine xegf2 rfl xsh131 (by decide) rfl ?_
    refine xeb 1 (pc' := 207) (ls' := [.ref 131, .null]) (st' := [.ref 131, .ref 134]) rfl ?_
    refine xegf0 rfl xsh131 (by decide) ?_
    obtain ⟨b26, h⟩ := xck_some h
    refine xeia rfl xsh134 b26 ?_
    refine xeb 4 (pc' := 216) (ls' := [.ref 131, .int ((I 134 (xN (I 131 11))) - 23)]) (st' := [.int ((I 134 (xN (I 131 11))) - 23)]) rfl ?_
    by_cases c27 : ((I 134 (xN (I 131 11))) - 23) < 0
    · rw [if_pos c27] at h
      refine xef_lt_t rfl c27 ?_
      exact g_M_tellOne_233 (fun v1 I L h' => g_M_tellOne_238 h') h
    · rw [if_neg c27] at h
      refine xef_lt_f rfl c27 ?_
      refine xeb 1 (pc' := 220) (ls' := [.ref 131, .int ((I 134 (xN (I 131 11))) - 23)]) (st' := [.ref 131]) rfl ?_
      refine xegf2 rfl xsh131 (by decide) rfl ?_
      refine xeb 1 (pc' := 224) (ls' := [.ref 131, .int ((I 134 (xN (I 131 11))) - 23)]) (st' := [.ref 131, .ref 134]) rfl ?_
      refine xegf0 rfl xsh131 (by decide) ?_
      obtain ⟨b28, h⟩ := xck_some h
      refine xeia rfl xsh134 b28 ?_
      refine xeb 1 (pc' := 230) (ls' := [.ref 131, .int ((I 134 (xN (I 131 11))) - 23)]) (st' := [.int 26, .int (I 134 (xN (I 131 11)))]) rfl ?_
      by_cases c29 : (I 134 (xN (I 131 11))) ≤ 26
      · rw [if_pos c29] at h
        refine xei_le_t rfl c29 ?_
        exact g_M_tellOne_238 h
      · rw [if_neg c29] at h
        refine xei_le_f rfl c29 ?_
        exact g_M_tellOne_233 (fun v1 I L h' => g_M_tellOne_238 h') h
  rw [if_neg c30] at h
  by_cases c35 : (I 134 (xN (I 131 11))) = 24
  · rw [if_pos c35] at h
    refine xetabI rfl c35 rfl ?_
    refine xeb 1 (pc' := 203) (ls' := [.ref 131, .null]) (st' := [.ref 131]) rfl ?_
    refine xegf2 rfl xsh131 (by decide) rfl ?_
    refine xeb 1 (pc' := 207) (ls' := [.ref 131, .null]) (st' := [.ref 131, .ref 134]) rfl ?_
    refine xegf0 rfl xsh131 (by decide) ?_
    obtain ⟨b31, h⟩ := xck_some h
    refine xeia rfl xsh134 b31 ?_
    refine xeb 4 (pc' := 216) (ls' := [.ref 131, .int ((I 134 (xN (I 131 11))) - 23)]) (st' := [.int ((I 134 (xN (I 131 11))) - 23)]) rfl ?_
    by_cases c32 : ((I 134 (xN (I 131 11))) - 23) < 0
    · rw [if_pos c32] at h
      refine xef_lt_t rfl c32 ?_
      exact g_M_tellOne_233 (fun v1 I L h' => g_M_tellOne_238 h') h
    · rw [if_neg c32] at h
      refine xef_lt_f rfl c32 ?_
      refine xeb 1 (pc' := 220) (ls' := [.ref 131, .int ((I 134 (xN (I 131 11))) - 23)]) (st' := [.ref 131]) rfl ?_
      refine xegf2 rfl xsh131 (by decide) rfl ?_
      refine xeb 1 (pc' := 224) (ls' := [.ref 131, .int ((I 134 (xN (I 131 11))) - 23)]) (st' := [.ref 131, .ref 134]) rfl ?_
      refine xegf0 rfl xsh131 (by decide) ?_
      obtain ⟨b33, h⟩ := xck_some h
      refine xeia rfl xsh134 b33 ?_
      refine xeb 1 (pc' := 230) (ls' := [.ref 131, .int ((I 134 (xN (I 131 11))) - 23)]) (st' := [.int 26, .int (I 134 (xN (I 131 11)))]) rfl ?_
      by_cases c34 : (I 134 (xN (I 131 11))) ≤ 26
      · rw [if_pos c34] at h
        refine xei_le_t rfl c34 ?_
        exact g_M_tellOne_238 h
      · rw [if_neg c34] at h
        refine xei_le_f rfl c34 ?_
        exact g_M_tellOne_233 (fun v1 I L h' => g_M_tellOne_238 h') h
  rw [if_neg c35] at h
  by_cases c40 : (I 134 (xN (I 131 11))) = 25
  · rw [if_pos c40] at h
    refine xetabI rfl c40 rfl ?_
    refine xeb 1 (pc' := 203) (ls' := [.ref 131, .null]) (st' := [.ref 131]) rfl ?_
    refine xegf2 rfl xsh131 (by decide) rfl ?_
    refine xeb 1 (pc' := 207) (ls' := [.ref 131, .null]) (st' := [.ref 131, .ref 134]) rfl ?_
    refine xegf0 rfl xsh131 (by decide) ?_
    obtain ⟨b36, h⟩ := xck_some h
    refine xeia rfl xsh134 b36 ?_
    refine xeb 4 (pc' := 216) (ls' := [.ref 131, .int ((I 134 (xN (I 131 11))) - 23)]) (st' := [.int ((I 134 (xN (I 131 11))) - 23)]) rfl ?_
    by_cases c37 : ((I 134 (xN (I 131 11))) - 23) < 0
    · rw [if_pos c37] at h
      refine xef_lt_t rfl c37 ?_
      exact g_M_tellOne_233 (fun v1 I L h' => g_M_tellOne_238 h') h
    · rw [if_neg c37] at h
      refine xef_lt_f rfl c37 ?_
      refine xeb 1 (pc' := 220) (ls' := [.ref 131, .int ((I 134 (xN (I 131 11))) - 23)]) (st' := [.ref 131]) rfl ?_
      refine xegf2 rfl xsh131 (by decide) rfl ?_
      refine xeb 1 (pc' := 224) (ls' := [.ref 131, .int ((I 134 (xN (I 131 11))) - 23)]) (st' := [.ref 131, .ref 134]) rfl ?_
      refine xegf0 rfl xsh131 (by decide) ?_
      obtain ⟨b38, h⟩ := xck_some h
      refine xeia rfl xsh134 b38 ?_
      refine xeb 1 (pc' := 230) (ls' := [.ref 131, .int ((I 134 (xN (I 131 11))) - 23)]) (st' := [.int 26, .int (I 134 (xN (I 131 11)))]) rfl ?_
      by_cases c39 : (I 134 (xN (I 131 11))) ≤ 26
      · rw [if_pos c39] at h
        refine xei_le_t rfl c39 ?_
        exact g_M_tellOne_238 h
      · rw [if_neg c39] at h
        refine xei_le_f rfl c39 ?_
        exact g_M_tellOne_233 (fun v1 I L h' => g_M_tellOne_238 h') h
  rw [if_neg c40] at h
  by_cases c45 : (I 134 (xN (I 131 11))) = 26
  · rw [if_pos c45] at h
    refine xetabI rfl c45 rfl ?_
    refine xeb 1 (pc' := 203) (ls' := [.ref 131, .null]) (st' := [.ref 131]) rfl ?_
    refine xegf2 rfl xsh131 (by decide) rfl ?_
    refine xeb 1 (pc' := 207) (ls' := [.ref 131, .null]) (st' := [.ref 131, .ref 134]) rfl ?_
    refine xegf0 rfl xsh131 (by decide) ?_
    obtain ⟨b41, h⟩ := xck_some h
    refine xeia rfl xsh134 b41 ?_
    refine xeb 4 (pc' := 216) (ls' := [.ref 131, .int ((I 134 (xN (I 131 11))) - 23)]) (st' := [.int ((I 134 (xN (I 131 11))) - 23)]) rfl ?_
    by_cases c42 : ((I 134 (xN (I 131 11))) - 23) < 0
    · rw [if_pos c42] at h
      refine xef_lt_t rfl c42 ?_
      exact g_M_tellOne_233 (fun v1 I L h' => g_M_tellOne_238 h') h
    · rw [if_neg c42] at h
      refine xef_lt_f rfl c42 ?_
      refine xeb 1 (pc' := 220) (ls' := [.ref 131, .int ((I 134 (xN (I 131 11))) - 23)]) (st' := [.ref 131]) rfl ?_
      refine xegf2 rfl xsh131 (by decide) rfl ?_
      refine xeb 1 (pc' := 224) (ls' := [.ref 131, .int ((I 134 (xN (I 131 11))) - 23)]) (st' := [.ref 131, .ref 134]) rfl ?_
      refine xegf0 rfl xsh131 (by decide) ?_
      obtain ⟨b43, h⟩ := xck_some h
      refine xeia rfl xsh134 b43 ?_
      refine xeb 1 (pc' := 230) (ls' := [.ref 131, .int ((I 134 (xN (I 131 11))) - 23)]) (st' := [.int 26, .int (I 134 (xN (I 131 11)))]) rfl ?_
      by_cases c44 : (I 134 (xN (I 131 11))) ≤ 26
      · rw [if_pos c44] at h
        refine xei_le_t rfl c44 ?_
        exact g_M_tellOne_238 h
      · rw [if_neg c44] at h
        refine xei_le_f rfl c44 ?_
        exact g_M_tellOne_233 (fun v1 I L h' => g_M_tellOne_238 h') h
  rw [if_neg c45] at h
  by_cases c51 : (I 134 (xN (I 131 11))) = 27
  · rw [if_pos c51] at h
    refine xetabI rfl c51 rfl ?_
    refine xeb 1 (pc' := 146) (ls' := [.ref 131, .null]) (st' := [.ref 131]) rfl ?_
    obtain ⟨q46, eq46, h⟩ := xbind_some h
    refine xcallV rfl xsh131 rfl rfl rfl (Nat.le_of_ble_eq_true rfl) (Nat.le_of_ble_eq_true rfl) (Nat.le_of_ble_eq_true rfl) rfl (g_M_goesOn (d := d + 4) _ eq46) ?_
    refine xeb 1 (pc' := 150) (ls' := [.ref 131, .null]) (st' := [.ref 131]) rfl ?_
    refine xegf2 rfl xsh131 (by decide) rfl ?_
    refine xeb 1 (pc' := 154) (ls' := [.ref 131, .null]) (st' := [.ref 131, .ref 148]) rfl ?_
    refine xegf0 rfl xsh131 (by decide) ?_
    refine xeb 3 (pc' := 161) (ls' := [.ref 131, .null]) (st' := [.int 100, .int 0, .ref 131, .int (q46 131 19), .ref 148]) rfl ?_
    obtain ⟨q47, eq47, h⟩ := xbind_some h
    refine xcallV rfl xsh131 rfl rfl rfl (Nat.le_of_ble_eq_true rfl) (Nat.le_of_ble_eq_true rfl) (Nat.le_of_ble_eq_true rfl) rfl (g_M_bounded (d := d + 3) _ eq47) ?_
    obtain ⟨b48, h⟩ := xck_some h
    refine xeis rfl xsh148 b48 ?_
    obtain ⟨I49, hI49, h⟩ := xst_some h
    rw [← hI49]
    refine xeb 2 (pc' := 167) (ls' := [.ref 131, .null]) (st' := [.int 4, .ref 131]) rfl ?_
    obtain ⟨q50, eq50, h⟩ := xbind_some h
    refine xcallV rfl xsh131 rfl rfl rfl (Nat.le_of_ble_eq_true rfl) (Nat.le_of_ble_eq_true rfl) (Nat.le_of_ble_eq_true rfl) rfl (g_M_must (d := d + 3) _ eq50) ?_
    refine xeb 1 (pc' := 255) (ls' := [.ref 131, .null]) (st' := []) rfl ?_
    obtain rfl := Option.some.inj h
    exact xevret rfl
  rw [if_neg c51] at h
  by_cases c57 : (I 134 (xN (I 131 11))) = 28
  · rw [if_pos c57] at h
    refine xetabI rfl c57 rfl ?_
    refine xeb 1 (pc' := 174) (ls' := [.ref 131, .null]) (st' := [.ref 131]) rfl ?_
    obtain ⟨q52, eq52, h⟩ := xbind_some h
    refine xcallV rfl xsh131 rfl rfl rfl (Nat.le_of_ble_eq_true rfl) (Nat.le_of_ble_eq_true rfl) (Nat.le_of_ble_eq_true rfl) rfl (g_M_goesOn (d := d + 4) _ eq52) ?_
    refine xeb 1 (pc' := 178) (ls' := [.ref 131, .null]) (st' := [.ref 131]) rfl ?_
    refine xegf2 rfl xsh131 (by decide) rfl ?_
    refine xeb 1 (pc' := 182) (ls' := [.ref 131, .null]) (st' := [.ref 131, .ref 149]) rfl ?_
    refine xegf0 rfl xsh131 (by decide) ?_
    refine xeb 3 (pc' := 190) (ls' := [.ref 131, .null]) (st' := [.int 9999, .int 0, .ref 131, .int (q52 131 19), .ref 149]) rfl ?_
    obtain ⟨q53, eq53, h⟩ := xbind_some h
    refine xcallV rfl xsh131 rfl rfl rfl (Nat.le_of_ble_eq_true rfl) (Nat.le_of_ble_eq_true rfl) (Nat.le_of_ble_eq_true rfl) rfl (g_M_bounded (d := d + 3) _ eq53) ?_
    obtain ⟨b54, h⟩ := xck_some h
    refine xeis rfl xsh149 b54 ?_
    obtain ⟨I55, hI55, h⟩ := xst_some h
    rw [← hI55]
    refine xeb 2 (pc' := 196) (ls' := [.ref 131, .null]) (st' := [.int 4, .ref 131]) rfl ?_
    obtain ⟨q56, eq56, h⟩ := xbind_some h
    refine xcallV rfl xsh131 rfl rfl rfl (Nat.le_of_ble_eq_true rfl) (Nat.le_of_ble_eq_true rfl) (Nat.le_of_ble_eq_true rfl) rfl (g_M_must (d := d + 3) _ eq56) ?_
    refine xeb 1 (pc' := 255) (ls' := [.ref 131, .null]) (st' := []) rfl ?_
    obtain rfl := Option.some.inj h
    exact xevret rfl
  rw [if_neg c57] at h
  cases h
noncomputable def f_M_isTable_2 (F : Nat) (I : XI) : Nat → Int32 → Option (Int32)
  | 0, _ => none
  | n + 1, v1 =>
    xck (xin (I 131 19) 2) (if (I 144 (xN (I 131 19))) ≤ v1 then (some 1) else (xck (xin ((40 * (I 131 19)) + v1) 80) (xck (xin (I 131 19) 2) (if (I 140 (xN (I 131 19))) ≤ ((I 145 (xN ((40 * (I 131 19)) + v1))) - (I 145 (xN ((40 * (I 131 19)) + v1))) / 6 * 6) then (some 0) else (xck (xin (I 131 19) 2) (if (I 141 (xN (I 131 19))) ≤ ((I 145 (xN ((40 * (I 131 19)) + v1))) / 6) then (some 0) else (xck (xin ((30 * (I 131 19)) + (I 145 (xN ((40 * (I 131 19)) + v1)))) 60) (if (I 142 (xN ((30 * (I 131 19)) + (I 145 (xN ((40 * (I 131 19)) + v1)))))) = 9 then (some 0) else (f_M_isTable_2 F I n (v1 + 1))))))))))
theorem g_M_isTable_2 {X : XX} {d : Nat} {L : XL} {F : Nat} {I : XI}  {r : Int32}  : ∀ (n : Nat) (v1 : Int32), f_M_isTable_2 F I n v1 = some r → ∀ (z2 : Value), xEv X (d + 0) 103 2 [.ref 131, .int v1, z2] [] I L (some (.int r)) I L := by
  intro n
  induction n with
  | zero => intro v1 h; rw [f_M_isTable_2] at h; cases h
  | succ n ih =>
    intro v1 h z2
    rw [f_M_isTable_2] at h
    refine xeb 2 (pc' := 4) (ls' := [.ref 131, .int v1, z2]) (st' := [.ref 131, .int v1]) rfl ?_
    refine xegf2 rfl xsh131 (by decide) rfl ?_
    refine xeb 1 (pc' := 8) (ls' := [.ref 131, .int v1, z2]) (st' := [.ref 131, .ref 144, .int v1]) rfl ?_
    refine xegf0 rfl xsh131 (by decide) ?_
    obtain ⟨b1, h⟩ := xck_some h
    refine xeia rfl xsh144 b1 ?_
    by_cases c2 : (I 144 (xN (I 131 19))) ≤ v1
    · rw [if_pos c2] at h
      refine xei_ge_t rfl c2 ?_
      refine xeb 1 (pc' := 90) (ls' := [.ref 131, .int v1, z2]) (st' := [.int 1]) rfl ?_
      obtain rfl := Option.some.inj h
      exact xeiret rfl rfl
    · rw [if_neg c2] at h
      refine xei_ge_f rfl c2 ?_
      refine xeb 1 (pc' := 16) (ls' := [.ref 131, .int v1, z2]) (st' := [.ref 131]) rfl ?_
      refine xegf2 rfl xsh131 (by decide) rfl ?_
      refine xeb 2 (pc' := 22) (ls' := [.ref 131, .int v1, z2]) (st' := [.ref 131, .int 40, .ref 145]) rfl ?_
      refine xegf0 rfl xsh131 (by decide) ?_
      refine xeb 3 (pc' := 28) (ls' := [.ref 131, .int v1, z2]) (st' := [.int ((40 * (I 131 19)) + v1), .ref 145]) rfl ?_
      obtain ⟨b3, h⟩ := xck_some h
      refine xeia rfl xsh145 b3 ?_
      refine xeb 5 (pc' := 35) (ls' := [.ref 131, .int v1, .int (I 145 (xN ((40 * (I 131 19)) + v1)))]) (st' := [.ref 131, .int ((I 145 (xN ((40 * (I 131 19)) + v1))) - (I 145 (xN ((40 * (I 131 19)) + v1))) / 6 * 6)]) rfl ?_
      refine xegf2 rfl xsh131 (by decide) rfl ?_
      refine xeb 1 (pc' := 39) (ls' := [.ref 131, .int v1, .int (I 145 (xN ((40 * (I 131 19)) + v1)))]) (st' := [.ref 131, .ref 140, .int ((I 145 (xN ((40 * (I 131 19)) + v1))) - (I 145 (xN ((40 * (I 131 19)) + v1))) / 6 * 6)]) rfl ?_
      refine xegf0 rfl xsh131 (by decide) ?_
      obtain ⟨b4, h⟩ := xck_some h
      refine xeia rfl xsh140 b4 ?_
      by_cases c5 : (I 140 (xN (I 131 19))) ≤ ((I 145 (xN ((40 * (I 131 19)) + v1))) - (I 145 (xN ((40 * (I 131 19)) + v1))) / 6 * 6)
      · rw [if_pos c5] at h
        refine xei_ge_t rfl c5 ?_
        refine xeb 1 (pc' := 82) (ls' := [.ref 131, .int v1, .int (I 145 (xN ((40 * (I 131 19)) + v1)))]) (st' := [.int 0]) rfl ?_
        obtain rfl := Option.some.inj h
        exact xeiret rfl rfl
      · rw [if_neg c5] at h
        refine xei_ge_f rfl c5 ?_
        refine xeb 4 (pc' := 51) (ls' := [.ref 131, .int v1, .int (I 145 (xN ((40 * (I 131 19)) + v1)))]) (st' := [.ref 131, .int ((I 145 (xN ((40 * (I 131 19)) + v1))) / 6)]) rfl ?_
        refine xegf2 rfl xsh131 (by decide) rfl ?_
        refine xeb 1 (pc' := 55) (ls' := [.ref 131, .int v1, .int (I 145 (xN ((40 * (I 131 19)) + v1)))]) (st' := [.ref 131, .ref 141, .int ((I 145 (xN ((40 * (I 131 19)) + v1))) / 6)]) rfl ?_
        refine xegf0 rfl xsh131 (by decide) ?_
        obtain ⟨b6, h⟩ := xck_some h
        refine xeia rfl xsh141 b6 ?_
        by_cases c7 : (I 141 (xN (I 131 19))) ≤ ((I 145 (xN ((40 * (I 131 19)) + v1))) / 6)
        · rw [if_pos c7] at h
          refine xei_ge_t rfl c7 ?_
          refine xeb 1 (pc' := 82) (ls' := [.ref 131, .int v1, .int (I 145 (xN ((40 * (I 131 19)) + v1)))]) (st' := [.int 0]) rfl ?_
          obtain rfl := Option.some.inj h
          exact xeiret rfl rfl
        · rw [if_neg c7] at h
          refine xei_ge_f rfl c7 ?_
          refine xeb 1 (pc' := 63) (ls' := [.ref 131, .int v1, .int (I 145 (xN ((40 * (I 131 19)) + v1)))]) (st' := [.ref 131]) rfl ?_
          refine xegf2 rfl xsh131 (by decide) rfl ?_
          refine xeb 2 (pc' := 69) (ls' := [.ref 131, .int v1, .int (I 145 (xN ((40 * (I 131 19)) + v1)))]) (st' := [.ref 131, .int 30, .ref 142]) rfl ?_
          refine xegf0 rfl xsh131 (by decide) ?_
          refine xeb 3 (pc' := 75) (ls' := [.ref 131, .int v1, .int (I 145 (xN ((40 * (I 131 19)) + v1)))]) (st' := [.int ((30 * (I 131 19)) + (I 145 (xN ((40 * (I 131 19)) + v1)))), .ref 142]) rfl ?_
          obtain ⟨b8, h⟩ := xck_some h
          refine xeia rfl xsh142 b8 ?_
          refine xeb 1 (pc' := 78) (ls' := [.ref 131, .int v1, .int (I 145 (xN ((40 * (I 131 19)) + v1)))]) (st' := [.int 9, .int (I 142 (xN ((30 * (I 131 19)) + (I 145 (xN ((40 * (I 131 19)) + v1))))))]) rfl ?_
          by_cases c9 : (I 142 (xN ((30 * (I 131 19)) + (I 145 (xN ((40 * (I 131 19)) + v1)))))) = 9
          · rw [if_pos c9] at h
            refine xei_ne_t rfl c9 ?_
            refine xeb 1 (pc' := 82) (ls' := [.ref 131, .int v1, .int (I 145 (xN ((40 * (I 131 19)) + v1)))]) (st' := [.int 0]) rfl ?_
            obtain rfl := Option.some.inj h
            exact xeiret rfl rfl
          · rw [if_neg c9] at h
            refine xei_ne_f rfl c9 ?_
            refine xeb 2 (pc' := 2) (ls' := [.ref 131, .int (v1 + 1), .int (I 145 (xN ((40 * (I 131 19)) + v1)))]) (st' := []) rfl ?_
            exact ih (v1 + 1) h _
noncomputable def f_M_isTable (F : Nat) (I : XI) : Option (Int32) :=
  f_M_isTable_2 F I F 0
theorem g_M_isTable {X : XX} {d : Nat} {L : XL} {F : Nat} {I : XI}  (r : Int32) (h : f_M_isTable F I = some r) : xEv X (d + 0) 103 0 [.ref 131, .null, .null] [] I L (some (.int r)) I L := by
  rw [f_M_isTable] at h
  refine xeb 2 (pc' := 2) (ls' := [.ref 131, .int 0, .null]) (st' := []) rfl ?_
  exact g_M_isTable_2 F 0 h _
noncomputable def f_M_read_243 (F : Nat) : Nat → Int32 → XI → XL → Option (Int32 × XI × XL)
  | 0, _, _, _ => none
  | n + 1, v1, I, L =>
    if 3 ≤ v1 then (some (0, I, L)) else (xck (xin v1 3) (xst (xput I 173 (xN v1) (0 &&& 1)) fun I34 => f_M_read_243 F n (v1 + 1) I34 L))
theorem g_M_read_243 {X : XX} {d : Nat} {F : Nat}  {r : Int32 × XI × XL}  : ∀ (n : Nat) (v1 : Int32) (I : XI) (L : XL), f_M_read_243 F n v1 I L = some r → xEv X (d + 7) 104 243 [.ref 131, .int v1] [] I L (some (.int r.1)) r.2.1 r.2.2 := by
  intro n
  induction n with
  | zero => intro v1 I L h; rw [f_M_read_243] at h; cases h
  | succ n ih =>
    intro v1 I L h 
    rw [f_M_read_243] at h
    refine xeb 2 (pc' := 245) (ls' := [.ref 131, .int v1]) (st' := [.int 3, .int v1]) rfl ?_
    by_cases c32 : 3 ≤ v1
    · rw [if_pos c32] at h
      refine xei_ge_t rfl c32 ?_
      refine xeb 1 (pc' := 262) (ls' := [.ref 131, .int v1]) (st' := [.int 0]) rfl ?_
      obtain rfl := Option.some.inj h
      exact xeiret rfl rfl
    · rw [if_neg c32] at h
      refine xei_ge_f rfl c32 ?_
      refine xeb 1 (pc' := 249) (ls' := [.ref 131, .int v1]) (st' := [.ref 131]) rfl ?_
      refine xegf2 rfl xsh131 (by decide) rfl ?_
      refine xeb 2 (pc' := 254) (ls' := [.ref 131, .int v1]) (st' := [.int 0, .int v1, .ref 173]) rfl ?_
      obtain ⟨b33, h⟩ := xck_some h
      refine xezs rfl xsh173 b33 ?_
      obtain ⟨I34, hI34, h⟩ := xst_some h
      rw [← hI34]
      refine xeb 2 (pc' := 243) (ls' := [.ref 131, .int (v1 + 1)]) (st' := []) rfl ?_
      exact ih (v1 + 1) I34 L h
noncomputable def f_M_read_188 (F : Nat) (s1 : Int32) (I : XI) (L : XL) : Option (Int32 × XI × XL) :=
  xst (xput I 131 17 s1) fun I24 => if (I24 131 13) ≤ 0 then (if (I24 131 15) ≤ 0 then (xst (xput I24 131 18 (I24 131 19)) fun I27 => (f_M_begins F I27).bind fun q28 => (f_M_keepsRow F q28).bind fun q29 => xst (xput q29 131 54 0) fun I30 => xst (xput I30 131 59 0) fun I31 => f_M_read_243 F F 0 I31 L) else (some ((I24 131 15), I24, L))) else (some ((I24 131 13), I24, L))
theorem g_M_read_188 {X : XX} {d : Nat} {F : Nat}  {r : Int32 × XI × XL}  {s1 : Int32} {I : XI} {L : XL} (h : f_M_read_188 F s1 I L = some r) (z1 : Value) : xEv X (d + 7) 104 188 [.ref 131, z1] [.int s1, .ref 131] I L (some (.int r.1)) r.2.1 r.2.2 := by
  rw [f_M_read_188] at h
  refine xepf0 rfl xsh131 (by decide) ?_
  obtain ⟨I24, hI24, h⟩ := xst_some h
  rw [← hI24]
  refine xeb 1 (pc' := 192) (ls' := [.ref 131, z1]) (st' := [.ref 131]) rfl ?_
  refine xegf0 rfl xsh131 (by decide) ?_
  by_cases c25 : (I24 131 13) ≤ 0
  · rw [if_pos c25] at h
    refine xef_le_t rfl c25 ?_
    refine xeb 1 (pc' := 204) (ls' := [.ref 131, z1]) (st' := [.ref 131]) rfl ?_
    refine xegf0 rfl xsh131 (by decide) ?_
    by_cases c26 : (I24 131 15) ≤ 0
    · rw [if_pos c26] at h
      refine xef_le_t rfl c26 ?_
      refine xeb 2 (pc' := 217) (ls' := [.ref 131, z1]) (st' := [.ref 131, .ref 131]) rfl ?_
      refine xegf0 rfl xsh131 (by decide) ?_
      refine xepf0 rfl xsh131 (by decide) ?_
      obtain ⟨I27, hI27, h⟩ := xst_some h
      rw [← hI27]
      refine xeb 1 (pc' := 224) (ls' := [.ref 131, z1]) (st' := [.ref 131]) rfl ?_
      obtain ⟨q28, eq28, h⟩ := xbind_some h
      refine xcallV rfl xsh131 rfl rfl rfl (Nat.le_of_ble_eq_true rfl) (Nat.le_of_ble_eq_true rfl) (Nat.le_of_ble_eq_true rfl) rfl (g_M_begins (d := d + 6) _ eq28) ?_
      refine xeb 1 (pc' := 228) (ls' := [.ref 131, z1]) (st' := [.ref 131]) rfl ?_
      obtain ⟨q29, eq29, h⟩ := xbind_some h
      refine xcallV rfl xsh131 rfl rfl rfl (Nat.le_of_ble_eq_true rfl) (Nat.le_of_ble_eq_true rfl) (Nat.le_of_ble_eq_true rfl) rfl (g_M_keepsRow (d := d + 6) _ eq29) ?_
      refine xeb 2 (pc' := 233) (ls' := [.ref 131, z1]) (st' := [.int 0, .ref 131]) rfl ?_
      refine xepf0 rfl xsh131 (by decide) ?_
      obtain ⟨I30, hI30, h⟩ := xst_some h
      rw [← hI30]
      refine xeb 2 (pc' := 238) (ls' := [.ref 131, z1]) (st' := [.int 0, .ref 131]) rfl ?_
      refine xepf0 rfl xsh131 (by decide) ?_
      obtain ⟨I31, hI31, h⟩ := xst_some h
      rw [← hI31]
      refine xeb 2 (pc' := 243) (ls' := [.ref 131, .int 0]) (st' := []) rfl ?_
      exact g_M_read_243 F 0 I31 L h
    · rw [if_neg c26] at h
      refine xef_le_f rfl c26 ?_
      refine xeb 1 (pc' := 211) (ls' := [.ref 131, z1]) (st' := [.ref 131]) rfl ?_
      refine xegf0 rfl xsh131 (by decide) ?_
      obtain rfl := Option.some.inj h
      exact xeiret rfl rfl
  · rw [if_neg c25] at h
    refine xef_le_f rfl c25 ?_
    refine xeb 1 (pc' := 199) (ls' := [.ref 131, z1]) (st' := [.ref 131]) rfl ?_
    refine xegf0 rfl xsh131 (by decide) ?_
    obtain rfl := Option.some.inj h
    exact xeiret rfl rfl
noncomputable def f_M_read_158 (F : Nat) (I : XI) (L : XL) : Option (Int32 × XI × XL) :=
  if (I 131 13) ≤ 0 then (if (I 131 15) ≤ 0 then (f_M_read_188 F (-1) I L) else (f_M_read_188 F (I 131 16) I L)) else (f_M_read_188 F (I 131 14) I L)
theorem g_M_read_158 {X : XX} {d : Nat} {F : Nat}  {r : Int32 × XI × XL}  {I : XI} {L : XL} (h : f_M_read_158 F I L = some r) (z1 : Value) : xEv X (d + 7) 104 158 [.ref 131, z1] [] I L (some (.int r.1)) r.2.1 r.2.2 := by
  rw [f_M_read_158] at h
  refine xeb 2 (pc' := 160) (ls' := [.ref 131, z1]) (st' := [.ref 131, .ref 131]) rfl ?_
  refine xegf0 rfl xsh131 (by decide) ?_
  by_cases c22 : (I 131 13) ≤ 0
  · rw [if_pos c22] at h
    refine xef_le_t rfl c22 ?_
    refine xeb 1 (pc' := 174) (ls' := [.ref 131, z1]) (st' := [.ref 131, .ref 131]) rfl ?_
    refine xegf0 rfl xsh131 (by decide) ?_
    by_cases c23 : (I 131 15) ≤ 0
    · rw [if_pos c23] at h
      refine xef_le_t rfl c23 ?_
      refine xeb 1 (pc' := 188) (ls' := [.ref 131, z1]) (st' := [.int (-1), .ref 131]) rfl ?_
      exact g_M_read_188 h _
    · rw [if_neg c23] at h
      refine xef_le_f rfl c23 ?_
      refine xeb 1 (pc' := 181) (ls' := [.ref 131, z1]) (st' := [.ref 131, .ref 131]) rfl ?_
      refine xegf0 rfl xsh131 (by decide) ?_
      refine xeb 1 (pc' := 188) (ls' := [.ref 131, z1]) (st' := [.int (I 131 16), .ref 131]) rfl ?_
      exact g_M_read_188 h _
  · rw [if_neg c22] at h
    refine xef_le_f rfl c22 ?_
    refine xeb 1 (pc' := 167) (ls' := [.ref 131, z1]) (st' := [.ref 131, .ref 131]) rfl ?_
    refine xegf0 rfl xsh131 (by decide) ?_
    refine xeb 1 (pc' := 188) (ls' := [.ref 131, z1]) (st' := [.int (I 131 14), .ref 131]) rfl ?_
    exact g_M_read_188 h _
noncomputable def f_M_read_134 (F : Nat) (I : XI) (L : XL) : Option (Int32 × XI × XL) :=
  if (I 131 13) = 0 then ((f_M_isTable F I).bind fun q19 => if q19 = 0 then ((f_M_wrong 6 (I 131 11) I).bind fun q21 => f_M_read_158 F q21 L) else (f_M_read_158 F I L)) else (f_M_read_158 F I L)
theorem g_M_read_134 {X : XX} {d : Nat} {F : Nat}  {r : Int32 × XI × XL}  {I : XI} {L : XL} (h : f_M_read_134 F I L = some r) (z1 : Value) : xEv X (d + 7) 104 134 [.ref 131, z1] [] I L (some (.int r.1)) r.2.1 r.2.2 := by
  rw [f_M_read_134] at h
  refine xeb 1 (pc' := 135) (ls' := [.ref 131, z1]) (st' := [.ref 131]) rfl ?_
  refine xegf0 rfl xsh131 (by decide) ?_
  by_cases c18 : (I 131 13) = 0
  · rw [if_pos c18] at h
    refine xef_ne_t rfl c18 ?_
    refine xeb 1 (pc' := 142) (ls' := [.ref 131, z1]) (st' := [.ref 131]) rfl ?_
    obtain ⟨q19, eq19, h⟩ := xbind_some h
    refine xcallV rfl xsh131 rfl rfl rfl (Nat.le_of_ble_eq_true rfl) (Nat.le_of_ble_eq_true rfl) (Nat.le_of_ble_eq_true rfl) rfl (g_M_isTable (d := d + 6) _ eq19) ?_
    by_cases c20 : q19 = 0
    · rw [if_pos c20] at h
      refine xef_ne_t rfl c20 ?_
      refine xeb 3 (pc' := 152) (ls' := [.ref 131, z1]) (st' := [.ref 131, .int 6, .ref 131]) rfl ?_
      refine xegf0 rfl xsh131 (by decide) ?_
      obtain ⟨q21, eq21, h⟩ := xbind_some h
      refine xcallV rfl xsh131 rfl rfl rfl (Nat.le_of_ble_eq_true rfl) (Nat.le_of_ble_eq_true rfl) (Nat.le_of_ble_eq_true rfl) rfl (g_M_wrong (d := d + 6) _ eq21) ?_
      exact g_M_read_158 h _
    · rw [if_neg c20] at h
      refine xef_ne_f rfl c20 ?_
      exact g_M_read_158 h _
  · rw [if_neg c18] at h
    refine xef_ne_f rfl c18 ?_
    exact g_M_read_158 h _
noncomputable def f_M_read_112 (F : Nat) : Nat → XI → XL → Option (Int32 × XI × XL)
  | 0, _, _ => none
  | n + 1, I, L =>
    if (I 131 13) = 0 then ((f_M_is I 0).bind fun q15 => if q15 = 0 then ((f_M_tellOne F I L).bind fun q17 => f_M_read_112 F n q17.1 q17.2) else (f_M_read_134 F I L)) else (f_M_read_134 F I L)
theorem g_M_read_112 {X : XX} {d : Nat} {F : Nat}  {r : Int32 × XI × XL}  : ∀ (n : Nat) (I : XI) (L : XL), f_M_read_112 F n I L = some r → ∀ (z1 : Value), xEv X (d + 7) 104 112 [.ref 131, z1] [] I L (some (.int r.1)) r.2.1 r.2.2 := by
  intro n
  induction n with
  | zero => intro I L h; rw [f_M_read_112] at h; cases h
  | succ n ih =>
    intro I L h z1
    rw [f_M_read_112] at h
    refine xeb 1 (pc' := 113) (ls' := [.ref 131, z1]) (st' := [.ref 131]) rfl ?_
    refine xegf0 rfl xsh131 (by decide) ?_
    by_cases c14 : (I 131 13) = 0
    · rw [if_pos c14] at h
      refine xef_ne_t rfl c14 ?_
      refine xeb 2 (pc' := 121) (ls' := [.ref 131, z1]) (st' := [.int 0, .ref 131]) rfl ?_
      obtain ⟨q15, eq15, h⟩ := xbind_some h
      refine xcallV rfl xsh131 rfl rfl rfl (Nat.le_of_ble_eq_true rfl) (Nat.le_of_ble_eq_true rfl) (Nat.le_of_ble_eq_true rfl) rfl (g_M_is (d := d + 6) _ eq15) ?_
      by_cases c16 : q15 = 0
      · rw [if_pos c16] at h
        refine xef_ne_t rfl c16 ?_
        refine xeb 1 (pc' := 128) (ls' := [.ref 131, z1]) (st' := [.ref 131]) rfl ?_
        obtain ⟨q17, eq17, h⟩ := xbind_some h
        refine xcallV rfl xsh131 rfl rfl rfl (Nat.le_of_ble_eq_true rfl) (Nat.le_of_ble_eq_true rfl) (Nat.le_of_ble_eq_true rfl) rfl (g_M_tellOne (d := d + 0) _ eq17) ?_
        refine xeb 1 (pc' := 112) (ls' := [.ref 131, z1]) (st' := []) rfl ?_
        exact ih q17.1 q17.2 h _
      · rw [if_neg c16] at h
        refine xef_ne_f rfl c16 ?_
        exact g_M_read_134 h _
    · rw [if_neg c14] at h
      refine xef_ne_f rfl c14 ?_
      exact g_M_read_134 h _
noncomputable def f_M_read_10 (F : Nat) : Nat → Int32 → XI → XL → Option (Int32 × XI × XL)
  | 0, _, _, _ => none
  | n + 1, v1, I, L =>
    if (I 131 4) ≤ v1 then (xst (xput I 131 2 0) fun I3 => (f_M_cut F I3 L).bind fun q4 => xst (xput q4.1 131 11 0) fun I5 => xst (xput I5 131 12 0) fun I6 => xst (xput I6 131 13 0) fun I7 => xst (xput I7 131 15 0) fun I8 => xst (xput I8 131 19 (1 - (I8 131 18))) fun I9 => xst (xput I9 131 20 0) fun I10 => (f_M_plain F (I10 131 19) I10).bind fun q11 => xst (xput q11 131 34 (130 * (q11 131 19))) fun I12 => xst (xput I12 131 40 (420 * (I12 131 19))) fun I13 => f_M_read_112 F F I13 q4.2) else (xck (xin v1 2000) (xck (xin v1 2000) (xst (xput I 133 (xN v1) ((Int32.toInt8 (I 132 (xN v1))).toInt32)) fun I37 => f_M_read_10 F n (v1 + 1) I37 L)))
theorem g_M_read_10 {X : XX} {d : Nat} {F : Nat}  {r : Int32 × XI × XL}  : ∀ (n : Nat) (v1 : Int32) (I : XI) (L : XL), f_M_read_10 F n v1 I L = some r → xEv X (d + 7) 104 10 [.ref 131, .int v1] [] I L (some (.int r.1)) r.2.1 r.2.2 := by
  intro n
  induction n with
  | zero => intro v1 I L h; rw [f_M_read_10] at h; cases h
  | succ n ih =>
    intro v1 I L h 
    rw [f_M_read_10] at h
    refine xeb 2 (pc' := 12) (ls' := [.ref 131, .int v1]) (st' := [.ref 131, .int v1]) rfl ?_
    refine xegf0 rfl xsh131 (by decide) ?_
    by_cases c2 : (I 131 4) ≤ v1
    · rw [if_pos c2] at h
      refine xei_ge_t rfl c2 ?_
      refine xeb 2 (pc' := 38) (ls' := [.ref 131, .int v1]) (st' := [.int 0, .ref 131]) rfl ?_
      refine xepf0 rfl xsh131 (by decide) ?_
      obtain ⟨I3, hI3, h⟩ := xst_some h
      rw [← hI3]
      refine xeb 1 (pc' := 42) (ls' := [.ref 131, .int v1]) (st' := [.ref 131]) rfl ?_
      obtain ⟨q4, eq4, h⟩ := xbind_some h
      refine xcallV rfl xsh131 rfl rfl rfl (Nat.le_of_ble_eq_true rfl) (Nat.le_of_ble_eq_true rfl) (Nat.le_of_ble_eq_true rfl) rfl (g_M_cut (d := d + 4) _ eq4) ?_
      refine xeb 2 (pc' := 47) (ls' := [.ref 131, .int v1]) (st' := [.int 0, .ref 131]) rfl ?_
      refine xepf0 rfl xsh131 (by decide) ?_
      obtain ⟨I5, hI5, h⟩ := xst_some h
      rw [← hI5]
      refine xeb 2 (pc' := 52) (ls' := [.ref 131, .int v1]) (st' := [.int 0, .ref 131]) rfl ?_
      refine xepf0 rfl xsh131 (by decide) ?_
      obtain ⟨I6, hI6, h⟩ := xst_some h
      rw [← hI6]
      refine xeb 2 (pc' := 57) (ls' := [.ref 131, .int v1]) (st' := [.int 0, .ref 131]) rfl ?_
      refine xepf0 rfl xsh131 (by decide) ?_
      obtain ⟨I7, hI7, h⟩ := xst_some h
      rw [← hI7]
      refine xeb 2 (pc' := 62) (ls' := [.ref 131, .int v1]) (st' := [.int 0, .ref 131]) rfl ?_
      refine xepf0 rfl xsh131 (by decide) ?_
      obtain ⟨I8, hI8, h⟩ := xst_some h
      rw [← hI8]
      refine xeb 3 (pc' := 68) (ls' := [.ref 131, .int v1]) (st' := [.ref 131, .int 1, .ref 131]) rfl ?_
      refine xegf0 rfl xsh131 (by decide) ?_
      refine xeb 1 (pc' := 72) (ls' := [.ref 131, .int v1]) (st' := [.int (1 - (I8 131 18)), .ref 131]) rfl ?_
      refine xepf0 rfl xsh131 (by decide) ?_
      obtain ⟨I9, hI9, h⟩ := xst_some h
      rw [← hI9]
      refine xeb 2 (pc' := 77) (ls' := [.ref 131, .int v1]) (st' := [.int 0, .ref 131]) rfl ?_
      refine xepf0 rfl xsh131 (by decide) ?_
      obtain ⟨I10, hI10, h⟩ := xst_some h
      rw [← hI10]
      refine xeb 2 (pc' := 82) (ls' := [.ref 131, .int v1]) (st' := [.ref 131, .ref 131]) rfl ?_
      refine xegf0 rfl xsh131 (by decide) ?_
      obtain ⟨q11, eq11, h⟩ := xbind_some h
      refine xcallV rfl xsh131 rfl rfl rfl (Nat.le_of_ble_eq_true rfl) (Nat.le_of_ble_eq_true rfl) (Nat.le_of_ble_eq_true rfl) rfl (g_M_plain (d := d + 6) _ eq11) ?_
      refine xeb 3 (pc' := 93) (ls' := [.ref 131, .int v1]) (st' := [.ref 131, .int 130, .ref 131]) rfl ?_
      refine xegf0 rfl xsh131 (by decide) ?_
      refine xeb 1 (pc' := 97) (ls' := [.ref 131, .int v1]) (st' := [.int (130 * (q11 131 19)), .ref 131]) rfl ?_
      refine xepf0 rfl xsh131 (by decide) ?_
      obtain ⟨I12, hI12, h⟩ := xst_some h
      rw [← hI12]
      refine xeb 3 (pc' := 105) (ls' := [.ref 131, .int v1]) (st' := [.ref 131, .int 420, .ref 131]) rfl ?_
      refine xegf0 rfl xsh131 (by decide) ?_
      refine xeb 1 (pc' := 109) (ls' := [.ref 131, .int v1]) (st' := [.int (420 * (I12 131 19)), .ref 131]) rfl ?_
      refine xepf0 rfl xsh131 (by decide) ?_
      obtain ⟨I13, hI13, h⟩ := xst_some h
      rw [← hI13]
      exact g_M_read_112 F I13 q4.2 h _
    · rw [if_neg c2] at h
      refine xei_ge_f rfl c2 ?_
      refine xeb 1 (pc' := 19) (ls' := [.ref 131, .int v1]) (st' := [.ref 131]) rfl ?_
      refine xegf2 rfl xsh131 (by decide) rfl ?_
      refine xeb 2 (pc' := 24) (ls' := [.ref 131, .int v1]) (st' := [.ref 131, .int v1, .ref 133]) rfl ?_
      refine xegf2 rfl xsh131 (by decide) rfl ?_
      refine xeb 1 (pc' := 28) (ls' := [.ref 131, .int v1]) (st' := [.int v1, .ref 132, .int v1, .ref 133]) rfl ?_
      obtain ⟨b35, h⟩ := xck_some h
      refine xeba rfl xsh132 b35 ?_
      obtain ⟨b36, h⟩ := xck_some h
      refine xebs rfl xsh133 b36 ?_
      obtain ⟨I37, hI37, h⟩ := xst_some h
      rw [← hI37]
      refine xeb 2 (pc' := 10) (ls' := [.ref 131, .int (v1 + 1)]) (st' := []) rfl ?_
      exact ih (v1 + 1) I37 L h
noncomputable def f_M_read (F : Nat) (I : XI) (L : XL) : Option (Int32 × XI × XL) :=
  xst (xput I 131 4 (I 131 2)) fun I1 => f_M_read_10 F F 0 I1 L
theorem g_M_read {X : XX} {d : Nat} {F : Nat} {I : XI} {L : XL}  (r : Int32 × XI × XL) (h : f_M_read F I L = some r) : xEv X (d + 7) 104 0 [.ref 131, .null] [] I L (some (.int r.1)) r.2.1 r.2.2 := by
  rw [f_M_read] at h
  refine xeb 2 (pc' := 2) (ls' := [.ref 131, .null]) (st' := [.ref 131, .ref 131]) rfl ?_
  refine xegf0 rfl xsh131 (by decide) ?_
  refine xepf0 rfl xsh131 (by decide) ?_
  obtain ⟨I1, hI1, h⟩ := xst_some h
  rw [← hI1]
  refine xeb 2 (pc' := 10) (ls' := [.ref 131, .int 0]) (st' := []) rfl ?_
  exact g_M_read_10 F 0 I1 L h
noncomputable def f_H_place (I : XI) : Option (Int32) :=
  some (I 6 4)
theorem g_H_place {X : XX} {d : Nat} {L : XL} {I : XI}  (r : Int32) (h : f_H_place I = some r) : xEv X (d + 0) 105 0 [.ref 0] [] I L (some (.int r)) I L := by
  rw [f_H_place] at h
  refine xeb 1 (pc' := 1) (ls' := [.ref 0]) (st' := [.ref 0]) rfl ?_
  refine xegf2 rfl xsh0 (by decide) rfl ?_
  refine xegf10 rfl xsh6 (by decide) ?_
  obtain rfl := Option.some.inj h
  exact xeiret rfl rfl
noncomputable def f_M_place (I : XI) : Option (Int32) :=
  some (I 131 17)
theorem g_M_place {X : XX} {d : Nat} {L : XL} {I : XI}  (r : Int32) (h : f_M_place I = some r) : xEv X (d + 0) 106 0 [.ref 131] [] I L (some (.int r)) I L := by
  rw [f_M_place] at h
  refine xeb 1 (pc' := 1) (ls' := [.ref 131]) (st' := [.ref 131]) rfl ?_
  refine xegf0 rfl xsh131 (by decide) ?_
  obtain rfl := Option.some.inj h
  exact xeiret rfl rfl
noncomputable def f_Table_cellAt (S0 : Nat) (I : XI) (a1 : Int32) (a2 : Int32) : Option (Int32) :=
  if a1 < 0 then (some (-1)) else (if a2 < 0 then (some (-1)) else (if (I S0 0) ≤ a1 then (some (-1)) else (some (if a2 < (I S0 1) then ((a2 * 6) + a1) else (-1)))))
theorem g_Table_cellAt {X : XX} {d : Nat} {L : XL} {S0 : Nat} {I : XI} {a1 : Int32} {a2 : Int32} (hS0 : xisTb S0) (r : Int32) (h : f_Table_cellAt S0 I a1 a2 = some r) : xEv X (d + 0) 107 0 [.ref S0, .int a1, .int a2] [] I L (some (.int r)) I L := by
  rw [f_Table_cellAt] at h
  refine xeb 1 (pc' := 1) (ls' := [.ref S0, .int a1, .int a2]) (st' := [.int a1]) rfl ?_
  by_cases c1 : a1 < 0
  · rw [if_pos c1] at h
    refine xef_lt_t rfl c1 ?_
    refine xeb 2 (pc' := 34) (ls' := [.ref S0, .int a1, .int a2]) (st' := [.int (-1)]) rfl ?_
    obtain rfl := Option.some.inj h
    exact xeiret rfl rfl
  · rw [if_neg c1] at h
    refine xef_lt_f rfl c1 ?_
    refine xeb 1 (pc' := 5) (ls' := [.ref S0, .int a1, .int a2]) (st' := [.int a2]) rfl ?_
    by_cases c2 : a2 < 0
    · rw [if_pos c2] at h
      refine xef_lt_t rfl c2 ?_
      refine xeb 2 (pc' := 34) (ls' := [.ref S0, .int a1, .int a2]) (st' := [.int (-1)]) rfl ?_
      obtain rfl := Option.some.inj h
      exact xeiret rfl rfl
    · rw [if_neg c2] at h
      refine xef_lt_f rfl c2 ?_
      refine xeb 2 (pc' := 10) (ls' := [.ref S0, .int a1, .int a2]) (st' := [.ref S0, .int a1]) rfl ?_
      refine xegf0 rfl hS0.1 (by decide) ?_
      by_cases c3 : (I S0 0) ≤ a1
      · rw [if_pos c3] at h
        refine xei_ge_t rfl c3 ?_
        refine xeb 2 (pc' := 34) (ls' := [.ref S0, .int a1, .int a2]) (st' := [.int (-1)]) rfl ?_
        obtain rfl := Option.some.inj h
        exact xeiret rfl rfl
      · rw [if_neg c3] at h
        refine xei_ge_f rfl c3 ?_
        refine xeb 2 (pc' := 18) (ls' := [.ref S0, .int a1, .int a2]) (st' := [.ref S0, .int a2]) rfl ?_
        refine xegf0 rfl hS0.1 (by decide) ?_
        have hj : xEv X (d + 0) 107 34 [.ref S0, .int a1, .int a2] [.int (if a2 < (I S0 1) then ((a2 * 6) + a1) else (-1))] I L (some (.int r)) I L := by
          obtain rfl := Option.some.inj h
          exact xeiret rfl rfl
        by_cases c4 : a2 < (I S0 1)
        · simp only [if_pos c4] at hj
          refine xei_lt_t rfl c4 ?_
          exact xeb 5 rfl hj
        · simp only [if_neg c4] at hj
          refine xei_lt_f rfl c4 ?_
          exact xeb 2 rfl hj
noncomputable def f_State_lies (S0 : Nat) (I : XI) (a1 : Int32) : Option (Int32) :=
  xck (xin a1 30) (xck (xnarz (if (I (S0 + 1) (xN a1)) = (-2) then 0 else 1)) (some (if (I (S0 + 1) (xN a1)) = (-2) then 0 else 1)))
theorem g_State_lies {X : XX} {d : Nat} {L : XL} {S0 : Nat} {I : XI} {a1 : Int32} (hS0 : xisSt S0) (r : Int32) (h : f_State_lies S0 I a1 = some r) : xEv X (d + 0) 108 0 [.ref S0, .int a1] [] I L (some (.int r)) I L := by
  rw [f_State_lies] at h
  refine xeb 1 (pc' := 1) (ls' := [.ref S0, .int a1]) (st' := [.ref S0]) rfl ?_
  refine xegf2 rfl hS0.1 (by decide) rfl ?_
  refine xeb 1 (pc' := 5) (ls' := [.ref S0, .int a1]) (st' := [.int a1, .ref (S0 + 1)]) rfl ?_
  obtain ⟨b1, h⟩ := xck_some h
  refine xeia rfl hS0.2 b1 ?_
  refine xeb 1 (pc' := 8) (ls' := [.ref S0, .int a1]) (st' := [.int (-2), .int (I (S0 + 1) (xN a1))]) rfl ?_
  have hj : xEv X (d + 0) 108 16 [.ref S0, .int a1] [.int (if (I (S0 + 1) (xN a1)) = (-2) then 0 else 1)] I L (some (.int r)) I L := by
    obtain ⟨b3, h⟩ := xck_some h
    obtain rfl := Option.some.inj h
    exact xeiret rfl b3
  by_cases c2 : (I (S0 + 1) (xN a1)) = (-2)
  · simp only [if_pos c2] at hj
    refine xei_eq_t rfl c2 ?_
    exact xeb 1 rfl hj
  · simp only [if_neg c2] at hj
    refine xei_eq_f rfl c2 ?_
    exact xeb 2 rfl hj
noncomputable def f_Table_beside (S0 : Nat) (I : XI) (a1 : Int32) (a2 : Int32) : Option (Int32) :=
  if a2 < 0 ∨ 2 < a2 then (some (if (a1 - a1 / 6 * 6) ≤ 0 then (-1) else (a1 - 1))) else if a2 = 0 then (some (if (a1 / 6) ≤ 0 then (-1) else (a1 - 6))) else if a2 = 1 then (some (if ((I S0 0) - 1) ≤ (a1 - a1 / 6 * 6) then (-1) else (a1 + 1))) else if a2 = 2 then (some (if ((I S0 1) - 1) ≤ (a1 / 6) then (-1) else (a1 + 6))) else none
theorem g_Table_beside {X : XX} {d : Nat} {L : XL} {S0 : Nat} {I : XI} {a1 : Int32} {a2 : Int32} (hS0 : xisTb S0) (r : Int32) (h : f_Table_beside S0 I a1 a2 = some r) : xEv X (d + 0) 109 0 [.ref S0, .int a1, .int a2, .null, .null] [] I L (some (.int r)) I L := by
  rw [f_Table_beside] at h
  refine xeb 9 (pc' := 12) (ls' := [.ref S0, .int a1, .int a2, .int (a1 - a1 / 6 * 6), .int (a1 / 6)]) (st' := [.int a2]) rfl ?_
  by_cases c2 : a2 < 0 ∨ 2 < a2
  · rw [if_pos c2] at h
    refine xetabO rfl rfl rfl c2 ?_
    refine xeb 1 (pc' := 93) (ls' := [.ref S0, .int a1, .int a2, .int (a1 - a1 / 6 * 6), .int (a1 / 6)]) (st' := [.int (a1 - a1 / 6 * 6)]) rfl ?_
    have hj : xEv X (d + 0) 109 103 [.ref S0, .int a1, .int a2, .int (a1 - a1 / 6 * 6), .int (a1 / 6)] [.int (if (a1 - a1 / 6 * 6) ≤ 0 then (-1) else (a1 - 1))] I L (some (.int r)) I L := by
      obtain rfl := Option.some.inj h
      exact xeiret rfl rfl
    by_cases c1 : (a1 - a1 / 6 * 6) ≤ 0
    · simp only [if_pos c1] at hj
      refine xef_le_t rfl c1 ?_
      exact xeb 1 rfl hj
    · simp only [if_neg c1] at hj
      refine xef_le_f rfl c1 ?_
      exact xeb 4 rfl hj
  rw [if_neg c2] at h
  by_cases c4 : a2 = 0
  · rw [if_pos c4] at h
    refine xetabI rfl c4 rfl ?_
    refine xeb 1 (pc' := 42) (ls' := [.ref S0, .int a1, .int a2, .int (a1 - a1 / 6 * 6), .int (a1 / 6)]) (st' := [.int (a1 / 6)]) rfl ?_
    have hj : xEv X (d + 0) 109 53 [.ref S0, .int a1, .int a2, .int (a1 - a1 / 6 * 6), .int (a1 / 6)] [.int (if (a1 / 6) ≤ 0 then (-1) else (a1 - 6))] I L (some (.int r)) I L := by
      obtain rfl := Option.some.inj h
      exact xeiret rfl rfl
    by_cases c3 : (a1 / 6) ≤ 0
    · simp only [if_pos c3] at hj
      refine xef_le_t rfl c3 ?_
      exact xeb 1 rfl hj
    · simp only [if_neg c3] at hj
      refine xef_le_f rfl c3 ?_
      exact xeb 4 rfl hj
  rw [if_neg c4] at h
  by_cases c6 : a2 = 1
  · rw [if_pos c6] at h
    refine xetabI rfl c6 rfl ?_
    refine xeb 2 (pc' := 56) (ls' := [.ref S0, .int a1, .int a2, .int (a1 - a1 / 6 * 6), .int (a1 / 6)]) (st' := [.ref S0, .int (a1 - a1 / 6 * 6)]) rfl ?_
    refine xegf0 rfl hS0.1 (by decide) ?_
    refine xeb 2 (pc' := 61) (ls' := [.ref S0, .int a1, .int a2, .int (a1 - a1 / 6 * 6), .int (a1 / 6)]) (st' := [.int ((I S0 0) - 1), .int (a1 - a1 / 6 * 6)]) rfl ?_
    have hj : xEv X (d + 0) 109 71 [.ref S0, .int a1, .int a2, .int (a1 - a1 / 6 * 6), .int (a1 / 6)] [.int (if ((I S0 0) - 1) ≤ (a1 - a1 / 6 * 6) then (-1) else (a1 + 1))] I L (some (.int r)) I L := by
      obtain rfl := Option.some.inj h
      exact xeiret rfl rfl
    by_cases c5 : ((I S0 0) - 1) ≤ (a1 - a1 / 6 * 6)
    · simp only [if_pos c5] at hj
      refine xei_ge_t rfl c5 ?_
      exact xeb 1 rfl hj
    · simp only [if_neg c5] at hj
      refine xei_ge_f rfl c5 ?_
      exact xeb 4 rfl hj
  rw [if_neg c6] at h
  by_cases c8 : a2 = 2
  · rw [if_pos c8] at h
    refine xetabI rfl c8 rfl ?_
    refine xeb 2 (pc' := 75) (ls' := [.ref S0, .int a1, .int a2, .int (a1 - a1 / 6 * 6), .int (a1 / 6)]) (st' := [.ref S0, .int (a1 / 6)]) rfl ?_
    refine xegf0 rfl hS0.1 (by decide) ?_
    refine xeb 2 (pc' := 80) (ls' := [.ref S0, .int a1, .int a2, .int (a1 - a1 / 6 * 6), .int (a1 / 6)]) (st' := [.int ((I S0 1) - 1), .int (a1 / 6)]) rfl ?_
    have hj : xEv X (d + 0) 109 91 [.ref S0, .int a1, .int a2, .int (a1 - a1 / 6 * 6), .int (a1 / 6)] [.int (if ((I S0 1) - 1) ≤ (a1 / 6) then (-1) else (a1 + 6))] I L (some (.int r)) I L := by
      obtain rfl := Option.some.inj h
      exact xeiret rfl rfl
    by_cases c7 : ((I S0 1) - 1) ≤ (a1 / 6)
    · simp only [if_pos c7] at hj
      refine xei_ge_t rfl c7 ?_
      exact xeb 1 rfl hj
    · simp only [if_neg c7] at hj
      refine xei_ge_f rfl c7 ?_
      exact xeb 4 rfl hj
  rw [if_neg c8] at h
  cases h
noncomputable def f_Table_spareKnob (S0 : Nat) (I : XI) (a1 : Int32) (a2 : Int32) (a3 : Int32) : Option (Int32) :=
  xck (xin ((a1 * 4) + (((a3 + 4) - a2) - ((a3 + 4) - a2) / 4 * 4)) 20) (some (I (S0 + 3) (xN ((a1 * 4) + (((a3 + 4) - a2) - ((a3 + 4) - a2) / 4 * 4)))))
theorem g_Table_spareKnob {X : XX} {d : Nat} {L : XL} {S0 : Nat} {I : XI} {a1 : Int32} {a2 : Int32} {a3 : Int32} (hS0 : xisTb S0) (r : Int32) (h : f_Table_spareKnob S0 I a1 a2 a3 = some r) : xEv X (d + 0) 110 0 [.ref S0, .int a1, .int a2, .int a3] [] I L (some (.int r)) I L := by
  rw [f_Table_spareKnob] at h
  refine xeb 1 (pc' := 1) (ls' := [.ref S0, .int a1, .int a2, .int a3]) (st' := [.ref S0]) rfl ?_
  refine xegf2 rfl hS0.1 (by decide) rfl ?_
  refine xeb 11 (pc' := 15) (ls' := [.ref S0, .int a1, .int a2, .int a3]) (st' := [.int ((a1 * 4) + (((a3 + 4) - a2) - ((a3 + 4) - a2) / 4 * 4)), .ref (S0 + 3)]) rfl ?_
  obtain ⟨b1, h⟩ := xck_some h
  refine xeia rfl hS0.2.2.2.1 b1 ?_
  obtain rfl := Option.some.inj h
  exact xeiret rfl rfl
noncomputable def f_Board_knobOf (I : XI) (a1 : Int32) (a2 : Int32) (a3 : Int32) : Option (Int32) :=
  if a1 < 0 then (xck (xin ((a2 * 4) + a3) 120) (some (I 19 (xN ((a2 * 4) + a3))))) else ((f_Table_spareKnob 17 I (a1 / 10) (a1 - a1 / 10 * 10) a3).bind fun q3 => some q3)
theorem g_Board_knobOf {X : XX} {d : Nat} {L : XL} {I : XI} {a1 : Int32} {a2 : Int32} {a3 : Int32}  (r : Int32) (h : f_Board_knobOf I a1 a2 a3 = some r) : xEv X (d + 1) 111 0 [.ref 30, .int a1, .int a2, .int a3] [] I L (some (.int r)) I L := by
  rw [f_Board_knobOf] at h
  refine xeb 1 (pc' := 1) (ls' := [.ref 30, .int a1, .int a2, .int a3]) (st' := [.int a1]) rfl ?_
  by_cases c1 : a1 < 0
  · rw [if_pos c1] at h
    refine xef_lt_t rfl c1 ?_
    refine xeb 1 (pc' := 24) (ls' := [.ref 30, .int a1, .int a2, .int a3]) (st' := [.ref 30]) rfl ?_
    refine xegf2 rfl xsh30 (by decide) rfl ?_
    refine xegf12 rfl xsh17 (by decide) rfl ?_
    refine xeb 5 (pc' := 35) (ls' := [.ref 30, .int a1, .int a2, .int a3]) (st' := [.int ((a2 * 4) + a3), .ref 19]) rfl ?_
    obtain ⟨b2, h⟩ := xck_some h
    refine xeia rfl xsh19 b2 ?_
    obtain rfl := Option.some.inj h
    exact xeiret rfl rfl
  · rw [if_neg c1] at h
    refine xef_lt_f rfl c1 ?_
    refine xeb 1 (pc' := 5) (ls' := [.ref 30, .int a1, .int a2, .int a3]) (st' := [.ref 30]) rfl ?_
    refine xegf2 rfl xsh30 (by decide) rfl ?_
    refine xeb 7 (pc' := 17) (ls' := [.ref 30, .int a1, .int a2, .int a3]) (st' := [.int a3, .int (a1 - a1 / 10 * 10), .int (a1 / 10), .ref 17]) rfl ?_
    obtain ⟨q3, eq3, h⟩ := xbind_some h
    refine xcallV rfl xsh17 rfl rfl rfl (Nat.le_of_ble_eq_true rfl) (Nat.le_of_ble_eq_true rfl) (Nat.le_of_ble_eq_true rfl) rfl (g_Table_spareKnob (d := d + 0) xis17 _ eq3) ?_
    refine xeb 1 (pc' := 36) (ls' := [.ref 30, .int a1, .int a2, .int a3]) (st' := [.int q3]) rfl ?_
    obtain rfl := Option.some.inj h
    exact xeiret rfl rfl
noncomputable def f_H_opposite (a0 : Int32) : Option (Int32) :=
  some ((a0 + 2) - (a0 + 2) / 4 * 4)
theorem g_H_opposite {X : XX} {d : Nat} {I : XI} {L : XL} {a0 : Int32}  (r : Int32) (h : f_H_opposite a0 = some r) : xEv X (d + 0) 112 0 [.int a0] [] I L (some (.int r)) I L := by
  rw [f_H_opposite] at h
  refine xeb 5 (pc' := 5) (ls' := [.int a0]) (st' := [.int ((a0 + 2) - (a0 + 2) / 4 * 4)]) rfl ?_
  obtain rfl := Option.some.inj h
  exact xeiret rfl rfl
