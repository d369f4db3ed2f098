/-! the law itself as a function (by gen7.py) -/
noncomputable def f_law_208 (X : XX) (F : Nat) (k18 : Int32 → XI → XL → Option (Int32 × XI × XL)) (v3 : Int32) (I : XI) (L : XL) : Option (Int32 × XI × XL) :=
  xck (xin (v3 + 1) X.1) (xck (xin (v3 + 2) X.1) (xck (xin (v3 + 3) X.1) (xck (xin (v3 + 4) X.1) (xck (xin (v3 + 5) X.1) ((f_H_feed F (X.2 (xN (v3 + 1))) (X.2 (xN (v3 + 2))) (X.2 (xN (v3 + 3))) (X.2 (xN (v3 + 4))) (X.2 (xN (v3 + 5))) I).bind fun q9 => xck (xin (v3 + 1) X.1) (xck (xin (v3 + 2) X.1) (xck (xin (v3 + 3) X.1) (xck (xin (v3 + 4) X.1) (xck (xin (v3 + 5) X.1) ((f_M_feed F (X.2 (xN (v3 + 1))) (X.2 (xN (v3 + 2))) (X.2 (xN (v3 + 3))) (X.2 (xN (v3 + 4))) (X.2 (xN (v3 + 5))) q9.2).bind fun q15 => if q9.1 = q15.1 then (k18 (v3 + 7) q15.2 L) else (some (0, q15.2, L))))))))))))
theorem g_law_208 {X : XX} {d : Nat} {F : Nat} {k18 : Int32 → XI → XL → Option (Int32 × XI × XL)}  {r : Int32 × XI × XL} (hk18 : ∀ (v3 : Int32) (I : XI) (L : XL), k18 v3 I L = some r → xEv X (d + 36) 294 18 [.ref xSCR, .ref 0, .ref 131, .int v3] [] I L (some (.int r.1)) r.2.1 r.2.2) {v3 : Int32} {I : XI} {L : XL} (h : f_law_208 X F k18 v3 I L = some r)  : xEv X (d + 36) 294 208 [.ref xSCR, .ref 0, .ref 131, .int v3] [] I L (some (.int r.1)) r.2.1 r.2.2 := by
  rw [f_law_208] at h
  refine xeb 5 (pc' := 213) (ls' := [.ref xSCR, .ref 0, .ref 131, .int v3]) (st' := [.int (v3 + 1), .ref xSCR, .ref 0]) rfl ?_
  obtain ⟨b4, h⟩ := xck_some h
  refine xeiaX rfl b4 ?_
  refine xeb 4 (pc' := 218) (ls' := [.ref xSCR, .ref 0, .ref 131, .int v3]) (st' := [.int (v3 + 2), .ref xSCR, .int (X.2 (xN (v3 + 1))), .ref 0]) rfl ?_
  obtain ⟨b5, h⟩ := xck_some h
  refine xeiaX rfl b5 ?_
  refine xeb 4 (pc' := 223) (ls' := [.ref xSCR, .ref 0, .ref 131, .int v3]) (st' := [.int (v3 + 3), .ref xSCR, .int (X.2 (xN (v3 + 2))), .int (X.2 (xN (v3 + 1))), .ref 0]) rfl ?_
  obtain ⟨b6, h⟩ := xck_some h
  refine xeiaX rfl b6 ?_
  refine xeb 4 (pc' := 228) (ls' := [.ref xSCR, .ref 0, .ref 131, .int v3]) (st' := [.int (v3 + 4), .ref xSCR, .int (X.2 (xN (v3 + 3))), .int (X.2 (xN (v3 + 2))), .int (X.2 (xN (v3 + 1))), .ref 0]) rfl ?_
  obtain ⟨b7, h⟩ := xck_some h
  refine xeiaX rfl b7 ?_
  refine xeb 4 (pc' := 233) (ls' := [.ref xSCR, .ref 0, .ref 131, .int v3]) (st' := [.int (v3 + 5), .ref xSCR, .int (X.2 (xN (v3 + 4))), .int (X.2 (xN (v3 + 3))), .int (X.2 (xN (v3 + 2))), .int (X.2 (xN (v3 + 1))), .ref 0]) rfl ?_
  obtain ⟨b8, h⟩ := xck_some h
  refine xeiaX rfl b8 ?_
  obtain ⟨q9, eq9, h⟩ := xbind_some h
  refine xcallV rfl xsh0 rfl rfl rfl (Nat.le_of_ble_eq_true rfl) (Nat.le_of_ble_eq_true rfl) (Nat.le_of_ble_eq_true rfl) rfl (g_H_feed (d := d + 34) _ eq9) ?_
  refine xeb 5 (pc' := 242) (ls' := [.ref xSCR, .ref 0, .ref 131, .int v3]) (st' := [.int (v3 + 1), .ref xSCR, .ref 131, .int q9.1]) rfl ?_
  obtain ⟨b10, h⟩ := xck_some h
  refine xeiaX rfl b10 ?_
  refine xeb 4 (pc' := 247) (ls' := [.ref xSCR, .ref 0, .ref 131, .int v3]) (st' := [.int (v3 + 2), .ref xSCR, .int (X.2 (xN (v3 + 1))), .ref 131, .int q9.1]) rfl ?_
  obtain ⟨b11, h⟩ := xck_some h
  refine xeiaX rfl b11 ?_
  refine xeb 4 (pc' := 252) (ls' := [.ref xSCR, .ref 0, .ref 131, .int v3]) (st' := [.int (v3 + 3), .ref xSCR, .int (X.2 (xN (v3 + 2))), .int (X.2 (xN (v3 + 1))), .ref 131, .int q9.1]) rfl ?_
  obtain ⟨b12, h⟩ := xck_some h
  refine xeiaX rfl b12 ?_
  refine xeb 4 (pc' := 257) (ls' := [.ref xSCR, .ref 0, .ref 131, .int v3]) (st' := [.int (v3 + 4), .ref xSCR, .int (X.2 (xN (v3 + 3))), .int (X.2 (xN (v3 + 2))), .int (X.2 (xN (v3 + 1))), .ref 131, .int q9.1]) rfl ?_
  obtain ⟨b13, h⟩ := xck_some h
  refine xeiaX rfl b13 ?_
  refine xeb 4 (pc' := 262) (ls' := [.ref xSCR, .ref 0, .ref 131, .int v3]) (st' := [.int (v3 + 5), .ref xSCR, .int (X.2 (xN (v3 + 4))), .int (X.2 (xN (v3 + 3))), .int (X.2 (xN (v3 + 2))), .int (X.2 (xN (v3 + 1))), .ref 131, .int q9.1]) rfl ?_
  obtain ⟨b14, h⟩ := xck_some h
  refine xeiaX rfl b14 ?_
  obtain ⟨q15, eq15, h⟩ := xbind_some h
  refine xcallV rfl xsh131 rfl rfl rfl (Nat.le_of_ble_eq_true rfl) (Nat.le_of_ble_eq_true rfl) (Nat.le_of_ble_eq_true rfl) rfl (g_M_feed (d := d + 34) _ eq15) ?_
  by_cases c16 : q9.1 = q15.1
  · rw [if_pos c16] at h
    refine xei_eq_t rfl c16 ?_
    refine xeb 2 (pc' := 18) (ls' := [.ref xSCR, .ref 0, .ref 131, .int (v3 + 7)]) (st' := []) rfl ?_
    exact hk18 (v3 + 7) q15.2 L h
  · rw [if_neg c16] at h
    refine xei_eq_f rfl c16 ?_
    refine xeb 1 (pc' := 270) (ls' := [.ref xSCR, .ref 0, .ref 131, .int v3]) (st' := [.int 0]) rfl ?_
    obtain rfl := Option.some.inj h
    exact xeiret rfl rfl
noncomputable def f_law_271 (X : XX) (F : Nat) (k18 : Int32 → XI → XL → Option (Int32 × XI × XL)) (v3 : Int32) (I : XI) (L : XL) : Option (Int32 × XI × XL) :=
  xck (xin (v3 + 1) X.1) ((f_H_back (X.2 (xN (v3 + 1))) I).bind fun q19 => xck (xin (v3 + 1) X.1) ((f_M_back (X.2 (xN (v3 + 1))) q19.2).bind fun q21 => if q19.1 = q21.1 then (k18 (v3 + 7) q21.2 L) else (some (0, q21.2, L))))
theorem g_law_271 {X : XX} {d : Nat} {F : Nat} {k18 : Int32 → XI → XL → Option (Int32 × XI × XL)}  {r : Int32 × XI × XL} (hk18 : ∀ (v3 : Int32) (I : XI) (L : XL), k18 v3 I L = some r → xEv X (d + 36) 294 18 [.ref xSCR, .ref 0, .ref 131, .int v3] [] I L (some (.int r.1)) r.2.1 r.2.2) {v3 : Int32} {I : XI} {L : XL} (h : f_law_271 X F k18 v3 I L = some r)  : xEv X (d + 36) 294 271 [.ref xSCR, .ref 0, .ref 131, .int v3] [] I L (some (.int r.1)) r.2.1 r.2.2 := by
  rw [f_law_271] at h
  refine xeb 5 (pc' := 276) (ls' := [.ref xSCR, .ref 0, .ref 131, .int v3]) (st' := [.int (v3 + 1), .ref xSCR, .ref 0]) rfl ?_
  obtain ⟨b18, h⟩ := xck_some h
  refine xeiaX rfl b18 ?_
  obtain ⟨q19, eq19, h⟩ := xbind_some h
  refine xcallV rfl xsh0 rfl rfl rfl (Nat.le_of_ble_eq_true rfl) (Nat.le_of_ble_eq_true rfl) (Nat.le_of_ble_eq_true rfl) rfl (g_H_back (d := d + 35) _ eq19) ?_
  refine xeb 5 (pc' := 285) (ls' := [.ref xSCR, .ref 0, .ref 131, .int v3]) (st' := [.int (v3 + 1), .ref xSCR, .ref 131, .int q19.1]) rfl ?_
  obtain ⟨b20, h⟩ := xck_some h
  refine xeiaX rfl b20 ?_
  obtain ⟨q21, eq21, h⟩ := xbind_some h
  refine xcallV rfl xsh131 rfl rfl rfl (Nat.le_of_ble_eq_true rfl) (Nat.le_of_ble_eq_true rfl) (Nat.le_of_ble_eq_true rfl) rfl (g_M_back (d := d + 35) _ eq21) ?_
  by_cases c22 : q19.1 = q21.1
  · rw [if_pos c22] at h
    refine xei_eq_t rfl c22 ?_
    refine xeb 2 (pc' := 18) (ls' := [.ref xSCR, .ref 0, .ref 131, .int (v3 + 7)]) (st' := []) rfl ?_
    exact hk18 (v3 + 7) q21.2 L h
  · rw [if_neg c22] at h
    refine xei_eq_f rfl c22 ?_
    refine xeb 1 (pc' := 293) (ls' := [.ref xSCR, .ref 0, .ref 131, .int v3]) (st' := [.int 0]) rfl ?_
    obtain rfl := Option.some.inj h
    exact xeiret rfl rfl
noncomputable def f_law_294 (X : XX) (F : Nat) (k18 : Int32 → XI → XL → Option (Int32 × XI × XL)) (v3 : Int32) (I : XI) (L : XL) : Option (Int32 × XI × XL) :=
  (f_H_read F I).bind fun q24 => (f_M_read F q24.2 L).bind fun q25 => if q24.1 = q25.1 then (k18 (v3 + 7) q25.2.1 q25.2.2) else (some (0, q25.2.1, q25.2.2))
theorem g_law_294 {X : XX} {d : Nat} {F : Nat} {k18 : Int32 → XI → XL → Option (Int32 × XI × XL)}  {r : Int32 × XI × XL} (hk18 : ∀ (v3 : Int32) (I : XI) (L : XL), k18 v3 I L = some r → xEv X (d + 36) 294 18 [.ref xSCR, .ref 0, .ref 131, .int v3] [] I L (some (.int r.1)) r.2.1 r.2.2) {v3 : Int32} {I : XI} {L : XL} (h : f_law_294 X F k18 v3 I L = some r)  : xEv X (d + 36) 294 294 [.ref xSCR, .ref 0, .ref 131, .int v3] [] I L (some (.int r.1)) r.2.1 r.2.2 := by
  rw [f_law_294] at h
  refine xeb 1 (pc' := 295) (ls' := [.ref xSCR, .ref 0, .ref 131, .int v3]) (st' := [.ref 0]) rfl ?_
  obtain ⟨q24, eq24, h⟩ := xbind_some h
  refine xcallV rfl xsh0 rfl rfl rfl (Nat.le_of_ble_eq_true rfl) (Nat.le_of_ble_eq_true rfl) (Nat.le_of_ble_eq_true rfl) rfl (g_H_read (d := d + 0) _ eq24) ?_
  refine xeb 1 (pc' := 299) (ls' := [.ref xSCR, .ref 0, .ref 131, .int v3]) (st' := [.ref 131, .int q24.1]) rfl ?_
  obtain ⟨q25, eq25, h⟩ := xbind_some h
  refine xcallV rfl xsh131 rfl rfl rfl (Nat.le_of_ble_eq_true rfl) (Nat.le_of_ble_eq_true rfl) (Nat.le_of_ble_eq_true rfl) rfl (g_M_read (d := d + 28) _ eq25) ?_
  by_cases c26 : q24.1 = q25.1
  · rw [if_pos c26] at h
    refine xei_eq_t rfl c26 ?_
    refine xeb 2 (pc' := 18) (ls' := [.ref xSCR, .ref 0, .ref 131, .int (v3 + 7)]) (st' := []) rfl ?_
    exact hk18 (v3 + 7) q25.2.1 q25.2.2 h
  · rw [if_neg c26] at h
    refine xei_eq_f rfl c26 ?_
    refine xeb 1 (pc' := 306) (ls' := [.ref xSCR, .ref 0, .ref 131, .int v3]) (st' := [.int 0]) rfl ?_
    obtain rfl := Option.some.inj h
    exact xeiret rfl rfl
noncomputable def f_law_307 (X : XX) (F : Nat) (k18 : Int32 → XI → XL → Option (Int32 × XI × XL)) (v3 : Int32) (I : XI) (L : XL) : Option (Int32 × XI × XL) :=
  (f_H_place I).bind fun q28 => (f_M_place I).bind fun q29 => if q28 = q29 then (k18 (v3 + 7) I L) else (some (0, I, L))
theorem g_law_307 {X : XX} {d : Nat} {F : Nat} {k18 : Int32 → XI → XL → Option (Int32 × XI × XL)}  {r : Int32 × XI × XL} (hk18 : ∀ (v3 : Int32) (I : XI) (L : XL), k18 v3 I L = some r → xEv X (d + 36) 294 18 [.ref xSCR, .ref 0, .ref 131, .int v3] [] I L (some (.int r.1)) r.2.1 r.2.2) {v3 : Int32} {I : XI} {L : XL} (h : f_law_307 X F k18 v3 I L = some r)  : xEv X (d + 36) 294 307 [.ref xSCR, .ref 0, .ref 131, .int v3] [] I L (some (.int r.1)) r.2.1 r.2.2 := by
  rw [f_law_307] at h
  refine xeb 1 (pc' := 308) (ls' := [.ref xSCR, .ref 0, .ref 131, .int v3]) (st' := [.ref 0]) rfl ?_
  obtain ⟨q28, eq28, h⟩ := xbind_some h
  refine xcallV rfl xsh0 rfl rfl rfl (Nat.le_of_ble_eq_true rfl) (Nat.le_of_ble_eq_true rfl) (Nat.le_of_ble_eq_true rfl) rfl (g_H_place (d := d + 35) _ eq28) ?_
  refine xeb 1 (pc' := 312) (ls' := [.ref xSCR, .ref 0, .ref 131, .int v3]) (st' := [.ref 131, .int q28]) rfl ?_
  obtain ⟨q29, eq29, h⟩ := xbind_some h
  refine xcallV rfl xsh131 rfl rfl rfl (Nat.le_of_ble_eq_true rfl) (Nat.le_of_ble_eq_true rfl) (Nat.le_of_ble_eq_true rfl) rfl (g_M_place (d := d + 35) _ eq29) ?_
  by_cases c30 : q28 = q29
  · rw [if_pos c30] at h
    refine xei_eq_t rfl c30 ?_
    refine xeb 2 (pc' := 18) (ls' := [.ref xSCR, .ref 0, .ref 131, .int (v3 + 7)]) (st' := []) rfl ?_
    exact hk18 (v3 + 7) I L h
  · rw [if_neg c30] at h
    refine xei_eq_f rfl c30 ?_
    refine xeb 1 (pc' := 319) (ls' := [.ref xSCR, .ref 0, .ref 131, .int v3]) (st' := [.int 0]) rfl ?_
    obtain rfl := Option.some.inj h
    exact xeiret rfl rfl
noncomputable def f_law_320 (X : XX) (F : Nat) (k18 : Int32 → XI → XL → Option (Int32 × XI × XL)) (v3 : Int32) (I : XI) (L : XL) : Option (Int32 × XI × XL) :=
  xck (xin (v3 + 1) X.1) (xck (xin (v3 + 2) X.1) (xck (xin (v3 + 3) X.1) ((f_H_cell F (X.2 (xN (v3 + 1))) (X.2 (xN (v3 + 2))) (X.2 (xN (v3 + 3))) I).bind fun q35 => xck (xin (v3 + 1) X.1) (xck (xin (v3 + 2) X.1) (xck (xin (v3 + 3) X.1) ((f_M_cell F (X.2 (xN (v3 + 1))) (X.2 (xN (v3 + 2))) (X.2 (xN (v3 + 3))) q35.2).bind fun q39 => if q35.1 = q39.1 then (k18 (v3 + 7) q39.2 L) else (some (0, q39.2, L))))))))
theorem g_law_320 {X : XX} {d : Nat} {F : Nat} {k18 : Int32 → XI → XL → Option (Int32 × XI × XL)}  {r : Int32 × XI × XL} (hk18 : ∀ (v3 : Int32) (I : XI) (L : XL), k18 v3 I L = some r → xEv X (d + 36) 294 18 [.ref xSCR, .ref 0, .ref 131, .int v3] [] I L (some (.int r.1)) r.2.1 r.2.2) {v3 : Int32} {I : XI} {L : XL} (h : f_law_320 X F k18 v3 I L = some r)  : xEv X (d + 36) 294 320 [.ref xSCR, .ref 0, .ref 131, .int v3] [] I L (some (.int r.1)) r.2.1 r.2.2 := by
  rw [f_law_320] at h
  refine xeb 5 (pc' := 325) (ls' := [.ref xSCR, .ref 0, .ref 131, .int v3]) (st' := [.int (v3 + 1), .ref xSCR, .ref 0]) rfl ?_
  obtain ⟨b32, h⟩ := xck_some h
  refine xeiaX rfl b32 ?_
  refine xeb 4 (pc' := 330) (ls' := [.ref xSCR, .ref 0, .ref 131, .int v3]) (st' := [.int (v3 + 2), .ref xSCR, .int (X.2 (xN (v3 + 1))), .ref 0]) rfl ?_
  obtain ⟨b33, h⟩ := xck_some h
  refine xeiaX rfl b33 ?_
  refine xeb 4 (pc' := 335) (ls' := [.ref xSCR, .ref 0, .ref 131, .int v3]) (st' := [.int (v3 + 3), .ref xSCR, .int (X.2 (xN (v3 + 2))), .int (X.2 (xN (v3 + 1))), .ref 0]) rfl ?_
  obtain ⟨b34, h⟩ := xck_some h
  refine xeiaX rfl b34 ?_
  obtain ⟨q35, eq35, h⟩ := xbind_some h
  refine xcallV rfl xsh0 rfl rfl rfl (Nat.le_of_ble_eq_true rfl) (Nat.le_of_ble_eq_true rfl) (Nat.le_of_ble_eq_true rfl) rfl (g_H_cell (d := d + 30) _ eq35) ?_
  refine xeb 5 (pc' := 344) (ls' := [.ref xSCR, .ref 0, .ref 131, .int v3]) (st' := [.int (v3 + 1), .ref xSCR, .ref 131, .int q35.1]) rfl ?_
  obtain ⟨b36, h⟩ := xck_some h
  refine xeiaX rfl b36 ?_
  refine xeb 4 (pc' := 349) (ls' := [.ref xSCR, .ref 0, .ref 131, .int v3]) (st' := [.int (v3 + 2), .ref xSCR, .int (X.2 (xN (v3 + 1))), .ref 131, .int q35.1]) rfl ?_
  obtain ⟨b37, h⟩ := xck_some h
  refine xeiaX rfl b37 ?_
  refine xeb 4 (pc' := 354) (ls' := [.ref xSCR, .ref 0, .ref 131, .int v3]) (st' := [.int (v3 + 3), .ref xSCR, .int (X.2 (xN (v3 + 2))), .int (X.2 (xN (v3 + 1))), .ref 131, .int q35.1]) rfl ?_
  obtain ⟨b38, h⟩ := xck_some h
  refine xeiaX rfl b38 ?_
  obtain ⟨q39, eq39, h⟩ := xbind_some h
  refine xcallV rfl xsh131 rfl rfl rfl (Nat.le_of_ble_eq_true rfl) (Nat.le_of_ble_eq_true rfl) (Nat.le_of_ble_eq_true rfl) rfl (g_M_cell (d := d + 28) _ eq39) ?_
  by_cases c40 : q35.1 = q39.1
  · rw [if_pos c40] at h
    refine xei_eq_t rfl c40 ?_
    refine xeb 2 (pc' := 18) (ls' := [.ref xSCR, .ref 0, .ref 131, .int (v3 + 7)]) (st' := []) rfl ?_
    exact hk18 (v3 + 7) q39.2 L h
  · rw [if_neg c40] at h
    refine xei_eq_f rfl c40 ?_
    refine xeb 1 (pc' := 362) (ls' := [.ref xSCR, .ref 0, .ref 131, .int v3]) (st' := [.int 0]) rfl ?_
    obtain rfl := Option.some.inj h
    exact xeiret rfl rfl
noncomputable def f_law_363 (X : XX) (F : Nat) (k18 : Int32 → XI → XL → Option (Int32 × XI × XL)) (v3 : Int32) (I : XI) (L : XL) : Option (Int32 × XI × XL) :=
  xck (xin (v3 + 1) X.1) (xck (xin (v3 + 2) X.1) (xck (xin (v3 + 3) X.1) ((f_H_knob I (X.2 (xN (v3 + 1))) (X.2 (xN (v3 + 2))) (X.2 (xN (v3 + 3)))).bind fun q45 => xck (xin (v3 + 1) X.1) (xck (xin (v3 + 2) X.1) (xck (xin (v3 + 3) X.1) ((f_M_knob F (X.2 (xN (v3 + 1))) (X.2 (xN (v3 + 2))) (X.2 (xN (v3 + 3))) I).bind fun q49 => if q45 = q49.1 then (k18 (v3 + 7) q49.2 L) else (some (0, q49.2, L))))))))
theorem g_law_363 {X : XX} {d : Nat} {F : Nat} {k18 : Int32 → XI → XL → Option (Int32 × XI × XL)}  {r : Int32 × XI × XL} (hk18 : ∀ (v3 : Int32) (I : XI) (L : XL), k18 v3 I L = some r → xEv X (d + 36) 294 18 [.ref xSCR, .ref 0, .ref 131, .int v3] [] I L (some (.int r.1)) r.2.1 r.2.2) {v3 : Int32} {I : XI} {L : XL} (h : f_law_363 X F k18 v3 I L = some r)  : xEv X (d + 36) 294 363 [.ref xSCR, .ref 0, .ref 131, .int v3] [] I L (some (.int r.1)) r.2.1 r.2.2 := by
  rw [f_law_363] at h
  refine xeb 5 (pc' := 368) (ls' := [.ref xSCR, .ref 0, .ref 131, .int v3]) (st' := [.int (v3 + 1), .ref xSCR, .ref 0]) rfl ?_
  obtain ⟨b42, h⟩ := xck_some h
  refine xeiaX rfl b42 ?_
  refine xeb 4 (pc' := 373) (ls' := [.ref xSCR, .ref 0, .ref 131, .int v3]) (st' := [.int (v3 + 2), .ref xSCR, .int (X.2 (xN (v3 + 1))), .ref 0]) rfl ?_
  obtain ⟨b43, h⟩ := xck_some h
  refine xeiaX rfl b43 ?_
  refine xeb 4 (pc' := 378) (ls' := [.ref xSCR, .ref 0, .ref 131, .int v3]) (st' := [.int (v3 + 3), .ref xSCR, .int (X.2 (xN (v3 + 2))), .int (X.2 (xN (v3 + 1))), .ref 0]) rfl ?_
  obtain ⟨b44, h⟩ := xck_some h
  refine xeiaX rfl b44 ?_
  obtain ⟨q45, eq45, h⟩ := xbind_some h
  refine xcallV rfl xsh0 rfl rfl rfl (Nat.le_of_ble_eq_true rfl) (Nat.le_of_ble_eq_true rfl) (Nat.le_of_ble_eq_true rfl) rfl (g_H_knob (d := d + 33) _ eq45) ?_
  refine xeb 5 (pc' := 387) (ls' := [.ref xSCR, .ref 0, .ref 131, .int v3]) (st' := [.int (v3 + 1), .ref xSCR, .ref 131, .int q45]) rfl ?_
  obtain ⟨b46, h⟩ := xck_some h
  refine xeiaX rfl b46 ?_
  refine xeb 4 (pc' := 392) (ls' := [.ref xSCR, .ref 0, .ref 131, .int v3]) (st' := [.int (v3 + 2), .ref xSCR, .int (X.2 (xN (v3 + 1))), .ref 131, .int q45]) rfl ?_
  obtain ⟨b47, h⟩ := xck_some h
  refine xeiaX rfl b47 ?_
  refine xeb 4 (pc' := 397) (ls' := [.ref xSCR, .ref 0, .ref 131, .int v3]) (st' := [.int (v3 + 3), .ref xSCR, .int (X.2 (xN (v3 + 2))), .int (X.2 (xN (v3 + 1))), .ref 131, .int q45]) rfl ?_
  obtain ⟨b48, h⟩ := xck_some h
  refine xeiaX rfl b48 ?_
  obtain ⟨q49, eq49, h⟩ := xbind_some h
  refine xcallV rfl xsh131 rfl rfl rfl (Nat.le_of_ble_eq_true rfl) (Nat.le_of_ble_eq_true rfl) (Nat.le_of_ble_eq_true rfl) rfl (g_M_knob (d := d + 32) _ eq49) ?_
  by_cases c50 : q45 = q49.1
  · rw [if_pos c50] at h
    refine xei_eq_t rfl c50 ?_
    refine xeb 2 (pc' := 18) (ls' := [.ref xSCR, .ref 0, .ref 131, .int (v3 + 7)]) (st' := []) rfl ?_
    exact hk18 (v3 + 7) q49.2 L h
  · rw [if_neg c50] at h
    refine xei_eq_f rfl c50 ?_
    refine xeb 1 (pc' := 405) (ls' := [.ref xSCR, .ref 0, .ref 131, .int v3]) (st' := [.int 0]) rfl ?_
    obtain rfl := Option.some.inj h
    exact xeiret rfl rfl
noncomputable def f_law_406 (X : XX) (F : Nat) (k18 : Int32 → XI → XL → Option (Int32 × XI × XL)) (v3 : Int32) (I : XI) (L : XL) : Option (Int32 × XI × XL) :=
  xck (xin (v3 + 1) X.1) (xck (xin (v3 + 2) X.1) (xck (xin (v3 + 3) X.1) ((f_H_spare I (X.2 (xN (v3 + 1))) (X.2 (xN (v3 + 2))) (X.2 (xN (v3 + 3)))).bind fun q55 => xck (xin (v3 + 1) X.1) (xck (xin (v3 + 2) X.1) (xck (xin (v3 + 3) X.1) ((f_M_spare I (X.2 (xN (v3 + 1))) (X.2 (xN (v3 + 2))) (X.2 (xN (v3 + 3)))).bind fun q59 => if q55 = q59 then (k18 (v3 + 7) I L) else (some (0, I, L))))))))
theorem g_law_406 {X : XX} {d : Nat} {F : Nat} {k18 : Int32 → XI → XL → Option (Int32 × XI × XL)}  {r : Int32 × XI × XL} (hk18 : ∀ (v3 : Int32) (I : XI) (L : XL), k18 v3 I L = some r → xEv X (d + 36) 294 18 [.ref xSCR, .ref 0, .ref 131, .int v3] [] I L (some (.int r.1)) r.2.1 r.2.2) {v3 : Int32} {I : XI} {L : XL} (h : f_law_406 X F k18 v3 I L = some r)  : xEv X (d + 36) 294 406 [.ref xSCR, .ref 0, .ref 131, .int v3] [] I L (some (.int r.1)) r.2.1 r.2.2 := by
  rw [f_law_406] at h
  refine xeb 5 (pc' := 411) (ls' := [.ref xSCR, .ref 0, .ref 131, .int v3]) (st' := [.int (v3 + 1), .ref xSCR, .ref 0]) rfl ?_
  obtain ⟨b52, h⟩ := xck_some h
  refine xeiaX rfl b52 ?_
  refine xeb 4 (pc' := 416) (ls' := [.ref xSCR, .ref 0, .ref 131, .int v3]) (st' := [.int (v3 + 2), .ref xSCR, .int (X.2 (xN (v3 + 1))), .ref 0]) rfl ?_
  obtain ⟨b53, h⟩ := xck_some h
  refine xeiaX rfl b53 ?_
  refine xeb 4 (pc' := 421) (ls' := [.ref xSCR, .ref 0, .ref 131, .int v3]) (st' := [.int (v3 + 3), .ref xSCR, .int (X.2 (xN (v3 + 2))), .int (X.2 (xN (v3 + 1))), .ref 0]) rfl ?_
  obtain ⟨b54, h⟩ := xck_some h
  refine xeiaX rfl b54 ?_
  obtain ⟨q55, eq55, h⟩ := xbind_some h
  refine xcallV rfl xsh0 rfl rfl rfl (Nat.le_of_ble_eq_true rfl) (Nat.le_of_ble_eq_true rfl) (Nat.le_of_ble_eq_true rfl) rfl (g_H_spare (d := d + 34) _ eq55) ?_
  refine xeb 5 (pc' := 430) (ls' := [.ref xSCR, .ref 0, .ref 131, .int v3]) (st' := [.int (v3 + 1), .ref xSCR, .ref 131, .int q55]) rfl ?_
  obtain ⟨b56, h⟩ := xck_some h
  refine xeiaX rfl b56 ?_
  refine xeb 4 (pc' := 435) (ls' := [.ref xSCR, .ref 0, .ref 131, .int v3]) (st' := [.int (v3 + 2), .ref xSCR, .int (X.2 (xN (v3 + 1))), .ref 131, .int q55]) rfl ?_
  obtain ⟨b57, h⟩ := xck_some h
  refine xeiaX rfl b57 ?_
  refine xeb 4 (pc' := 440) (ls' := [.ref xSCR, .ref 0, .ref 131, .int v3]) (st' := [.int (v3 + 3), .ref xSCR, .int (X.2 (xN (v3 + 2))), .int (X.2 (xN (v3 + 1))), .ref 131, .int q55]) rfl ?_
  obtain ⟨b58, h⟩ := xck_some h
  refine xeiaX rfl b58 ?_
  obtain ⟨q59, eq59, h⟩ := xbind_some h
  refine xcallV rfl xsh131 rfl rfl rfl (Nat.le_of_ble_eq_true rfl) (Nat.le_of_ble_eq_true rfl) (Nat.le_of_ble_eq_true rfl) rfl (g_M_spare (d := d + 33) _ eq59) ?_
  by_cases c60 : q55 = q59
  · rw [if_pos c60] at h
    refine xei_eq_t rfl c60 ?_
    refine xeb 2 (pc' := 18) (ls' := [.ref xSCR, .ref 0, .ref 131, .int (v3 + 7)]) (st' := []) rfl ?_
    exact hk18 (v3 + 7) I L h
  · rw [if_neg c60] at h
    refine xei_eq_f rfl c60 ?_
    refine xeb 1 (pc' := 448) (ls' := [.ref xSCR, .ref 0, .ref 131, .int v3]) (st' := [.int 0]) rfl ?_
    obtain rfl := Option.some.inj h
    exact xeiret rfl rfl
noncomputable def f_law_449 (X : XX) (F : Nat) (k18 : Int32 → XI → XL → Option (Int32 × XI × XL)) (v3 : Int32) (I : XI) (L : XL) : Option (Int32 × XI × XL) :=
  xck (xin (v3 + 1) X.1) (xck (xin (v3 + 2) X.1) ((f_H_land F (X.2 (xN (v3 + 1))) (X.2 (xN (v3 + 2))) I).bind fun q64 => xck (xin (v3 + 1) X.1) (xck (xin (v3 + 2) X.1) ((f_M_land F (X.2 (xN (v3 + 1))) (X.2 (xN (v3 + 2))) q64.2).bind fun q67 => if q64.1 = q67.1 then (k18 (v3 + 7) q67.2 L) else (some (0, q67.2, L))))))
theorem g_law_449 {X : XX} {d : Nat} {F : Nat} {k18 : Int32 → XI → XL → Option (Int32 × XI × XL)}  {r : Int32 × XI × XL} (hk18 : ∀ (v3 : Int32) (I : XI) (L : XL), k18 v3 I L = some r → xEv X (d + 36) 294 18 [.ref xSCR, .ref 0, .ref 131, .int v3] [] I L (some (.int r.1)) r.2.1 r.2.2) {v3 : Int32} {I : XI} {L : XL} (h : f_law_449 X F k18 v3 I L = some r)  : xEv X (d + 36) 294 449 [.ref xSCR, .ref 0, .ref 131, .int v3] [] I L (some (.int r.1)) r.2.1 r.2.2 := by
  rw [f_law_449] at h
  refine xeb 5 (pc' := 454) (ls' := [.ref xSCR, .ref 0, .ref 131, .int v3]) (st' := [.int (v3 + 1), .ref xSCR, .ref 0]) rfl ?_
  obtain ⟨b62, h⟩ := xck_some h
  refine xeiaX rfl b62 ?_
  refine xeb 4 (pc' := 459) (ls' := [.ref xSCR, .ref 0, .ref 131, .int v3]) (st' := [.int (v3 + 2), .ref xSCR, .int (X.2 (xN (v3 + 1))), .ref 0]) rfl ?_
  obtain ⟨b63, h⟩ := xck_some h
  refine xeiaX rfl b63 ?_
  obtain ⟨q64, eq64, h⟩ := xbind_some h
  refine xcallV rfl xsh0 rfl rfl rfl (Nat.le_of_ble_eq_true rfl) (Nat.le_of_ble_eq_true rfl) (Nat.le_of_ble_eq_true rfl) rfl (g_H_land (d := d + 29) _ eq64) ?_
  refine xeb 5 (pc' := 468) (ls' := [.ref xSCR, .ref 0, .ref 131, .int v3]) (st' := [.int (v3 + 1), .ref xSCR, .ref 131, .int q64.1]) rfl ?_
  obtain ⟨b65, h⟩ := xck_some h
  refine xeiaX rfl b65 ?_
  refine xeb 4 (pc' := 473) (ls' := [.ref xSCR, .ref 0, .ref 131, .int v3]) (st' := [.int (v3 + 2), .ref xSCR, .int (X.2 (xN (v3 + 1))), .ref 131, .int q64.1]) rfl ?_
  obtain ⟨b66, h⟩ := xck_some h
  refine xeiaX rfl b66 ?_
  obtain ⟨q67, eq67, h⟩ := xbind_some h
  refine xcallV rfl xsh131 rfl rfl rfl (Nat.le_of_ble_eq_true rfl) (Nat.le_of_ble_eq_true rfl) (Nat.le_of_ble_eq_true rfl) rfl (g_M_land (d := d + 28) _ eq67) ?_
  by_cases c68 : q64.1 = q67.1
  · rw [if_pos c68] at h
    refine xei_eq_t rfl c68 ?_
    refine xeb 2 (pc' := 18) (ls' := [.ref xSCR, .ref 0, .ref 131, .int (v3 + 7)]) (st' := []) rfl ?_
    exact hk18 (v3 + 7) q67.2 L h
  · rw [if_neg c68] at h
    refine xei_eq_f rfl c68 ?_
    refine xeb 1 (pc' := 481) (ls' := [.ref xSCR, .ref 0, .ref 131, .int v3]) (st' := [.int 0]) rfl ?_
    obtain rfl := Option.some.inj h
    exact xeiret rfl rfl
noncomputable def f_law_482 (X : XX) (F : Nat) (k18 : Int32 → XI → XL → Option (Int32 × XI × XL)) (v3 : Int32) (I : XI) (L : XL) : Option (Int32 × XI × XL) :=
  xck (xin (v3 + 1) X.1) (xck (xin (v3 + 2) X.1) ((f_H_lay F (X.2 (xN (v3 + 1))) (X.2 (xN (v3 + 2))) I).bind fun q72 => xck (xin (v3 + 1) X.1) (xck (xin (v3 + 2) X.1) ((f_M_lay F (X.2 (xN (v3 + 1))) (X.2 (xN (v3 + 2))) q72.2).bind fun q75 => if q72.1 = q75.1 then (k18 (v3 + 7) q75.2 L) else (some (0, q75.2, L))))))
theorem g_law_482 {X : XX} {d : Nat} {F : Nat} {k18 : Int32 → XI → XL → Option (Int32 × XI × XL)}  {r : Int32 × XI × XL} (hk18 : ∀ (v3 : Int32) (I : XI) (L : XL), k18 v3 I L = some r → xEv X (d + 36) 294 18 [.ref xSCR, .ref 0, .ref 131, .int v3] [] I L (some (.int r.1)) r.2.1 r.2.2) {v3 : Int32} {I : XI} {L : XL} (h : f_law_482 X F k18 v3 I L = some r)  : xEv X (d + 36) 294 482 [.ref xSCR, .ref 0, .ref 131, .int v3] [] I L (some (.int r.1)) r.2.1 r.2.2 := by
  rw [f_law_482] at h
  refine xeb 5 (pc' := 487) (ls' := [.ref xSCR, .ref 0, .ref 131, .int v3]) (st' := [.int (v3 + 1), .ref xSCR, .ref 0]) rfl ?_
  obtain ⟨b70, h⟩ := xck_some h
  refine xeiaX rfl b70 ?_
  refine xeb 4 (pc' := 492) (ls' := [.ref xSCR, .ref 0, .ref 131, .int v3]) (st' := [.int (v3 + 2), .ref xSCR, .int (X.2 (xN (v3 + 1))), .ref 0]) rfl ?_
  obtain ⟨b71, h⟩ := xck_some h
  refine xeiaX rfl b71 ?_
  obtain ⟨q72, eq72, h⟩ := xbind_some h
  refine xcallV rfl xsh0 rfl rfl rfl (Nat.le_of_ble_eq_true rfl) (Nat.le_of_ble_eq_true rfl) (Nat.le_of_ble_eq_true rfl) rfl (g_H_lay (d := d + 32) _ eq72) ?_
  refine xeb 5 (pc' := 501) (ls' := [.ref xSCR, .ref 0, .ref 131, .int v3]) (st' := [.int (v3 + 1), .ref xSCR, .ref 131, .int q72.1]) rfl ?_
  obtain ⟨b73, h⟩ := xck_some h
  refine xeiaX rfl b73 ?_
  refine xeb 4 (pc' := 506) (ls' := [.ref xSCR, .ref 0, .ref 131, .int v3]) (st' := [.int (v3 + 2), .ref xSCR, .int (X.2 (xN (v3 + 1))), .ref 131, .int q72.1]) rfl ?_
  obtain ⟨b74, h⟩ := xck_some h
  refine xeiaX rfl b74 ?_
  obtain ⟨q75, eq75, h⟩ := xbind_some h
  refine xcallV rfl xsh131 rfl rfl rfl (Nat.le_of_ble_eq_true rfl) (Nat.le_of_ble_eq_true rfl) (Nat.le_of_ble_eq_true rfl) rfl (g_M_lay (d := d + 29) _ eq75) ?_
  by_cases c76 : q72.1 = q75.1
  · rw [if_pos c76] at h
    refine xei_eq_t rfl c76 ?_
    refine xeb 2 (pc' := 18) (ls' := [.ref xSCR, .ref 0, .ref 131, .int (v3 + 7)]) (st' := []) rfl ?_
    exact hk18 (v3 + 7) q75.2 L h
  · rw [if_neg c76] at h
    refine xei_eq_f rfl c76 ?_
    refine xeb 1 (pc' := 514) (ls' := [.ref xSCR, .ref 0, .ref 131, .int v3]) (st' := [.int 0]) rfl ?_
    obtain rfl := Option.some.inj h
    exact xeiret rfl rfl
noncomputable def f_law_515 (X : XX) (F : Nat) (k18 : Int32 → XI → XL → Option (Int32 × XI × XL)) (v3 : Int32) (I : XI) (L : XL) : Option (Int32 × XI × XL) :=
  xck (xin (v3 + 1) X.1) (xck (xin (v3 + 2) X.1) ((f_H_take F (X.2 (xN (v3 + 1))) (X.2 (xN (v3 + 2))) I).bind fun q80 => xck (xin (v3 + 1) X.1) (xck (xin (v3 + 2) X.1) ((f_M_take F (X.2 (xN (v3 + 1))) (X.2 (xN (v3 + 2))) q80.2).bind fun q83 => if q80.1 = q83.1 then (k18 (v3 + 7) q83.2 L) else (some (0, q83.2, L))))))
theorem g_law_515 {X : XX} {d : Nat} {F : Nat} {k18 : Int32 → XI → XL → Option (Int32 × XI × XL)}  {r : Int32 × XI × XL} (hk18 : ∀ (v3 : Int32) (I : XI) (L : XL), k18 v3 I L = some r → xEv X (d + 36) 294 18 [.ref xSCR, .ref 0, .ref 131, .int v3] [] I L (some (.int r.1)) r.2.1 r.2.2) {v3 : Int32} {I : XI} {L : XL} (h : f_law_515 X F k18 v3 I L = some r)  : xEv X (d + 36) 294 515 [.ref xSCR, .ref 0, .ref 131, .int v3] [] I L (some (.int r.1)) r.2.1 r.2.2 := by
  rw [f_law_515] at h
  refine xeb 5 (pc' := 520) (ls' := [.ref xSCR, .ref 0, .ref 131, .int v3]) (st' := [.int (v3 + 1), .ref xSCR, .ref 0]) rfl ?_
  obtain ⟨b78, h⟩ := xck_some h
  refine xeiaX rfl b78 ?_
  refine xeb 4 (pc' := 525) (ls' := [.ref xSCR, .ref 0, .ref 131, .int v3]) (st' := [.int (v3 + 2), .ref xSCR, .int (X.2 (xN (v3 + 1))), .ref 0]) rfl ?_
  obtain ⟨b79, h⟩ := xck_some h
  refine xeiaX rfl b79 ?_
  obtain ⟨q80, eq80, h⟩ := xbind_some h
  refine xcallV rfl xsh0 rfl rfl rfl (Nat.le_of_ble_eq_true rfl) (Nat.le_of_ble_eq_true rfl) (Nat.le_of_ble_eq_true rfl) rfl (g_H_take (d := d + 32) _ eq80) ?_
  refine xeb 5 (pc' := 534) (ls' := [.ref xSCR, .ref 0, .ref 131, .int v3]) (st' := [.int (v3 + 1), .ref xSCR, .ref 131, .int q80.1]) rfl ?_
  obtain ⟨b81, h⟩ := xck_some h
  refine xeiaX rfl b81 ?_
  refine xeb 4 (pc' := 539) (ls' := [.ref xSCR, .ref 0, .ref 131, .int v3]) (st' := [.int (v3 + 2), .ref xSCR, .int (X.2 (xN (v3 + 1))), .ref 131, .int q80.1]) rfl ?_
  obtain ⟨b82, h⟩ := xck_some h
  refine xeiaX rfl b82 ?_
  obtain ⟨q83, eq83, h⟩ := xbind_some h
  refine xcallV rfl xsh131 rfl rfl rfl (Nat.le_of_ble_eq_true rfl) (Nat.le_of_ble_eq_true rfl) (Nat.le_of_ble_eq_true rfl) rfl (g_M_take (d := d + 32) _ eq83) ?_
  by_cases c84 : q80.1 = q83.1
  · rw [if_pos c84] at h
    refine xei_eq_t rfl c84 ?_
    refine xeb 2 (pc' := 18) (ls' := [.ref xSCR, .ref 0, .ref 131, .int (v3 + 7)]) (st' := []) rfl ?_
    exact hk18 (v3 + 7) q83.2 L h
  · rw [if_neg c84] at h
    refine xei_eq_f rfl c84 ?_
    refine xeb 1 (pc' := 547) (ls' := [.ref xSCR, .ref 0, .ref 131, .int v3]) (st' := [.int 0]) rfl ?_
    obtain rfl := Option.some.inj h
    exact xeiret rfl rfl
noncomputable def f_law_548 (X : XX) (F : Nat) (k18 : Int32 → XI → XL → Option (Int32 × XI × XL)) (v3 : Int32) (I : XI) (L : XL) : Option (Int32 × XI × XL) :=
  xck (xin (v3 + 1) X.1) (xck (xin (v3 + 2) X.1) (xck (xin (v3 + 3) X.1) (xck (xin (v3 + 4) X.1) ((f_H_press F (X.2 (xN (v3 + 1))) (X.2 (xN (v3 + 2))) (X.2 (xN (v3 + 3))) (X.2 (xN (v3 + 4))) I).bind fun q90 => xck (xin (v3 + 1) X.1) (xck (xin (v3 + 2) X.1) (xck (xin (v3 + 3) X.1) (xck (xin (v3 + 4) X.1) ((f_M_press F (X.2 (xN (v3 + 1))) (X.2 (xN (v3 + 2))) (X.2 (xN (v3 + 3))) (X.2 (xN (v3 + 4))) q90.2).bind fun q95 => if q90.1 = q95.1 then (k18 (v3 + 7) q95.2 L) else (some (0, q95.2, L))))))))))
theorem g_law_548 {X : XX} {d : Nat} {F : Nat} {k18 : Int32 → XI → XL → Option (Int32 × XI × XL)}  {r : Int32 × XI × XL} (hk18 : ∀ (v3 : Int32) (I : XI) (L : XL), k18 v3 I L = some r → xEv X (d + 36) 294 18 [.ref xSCR, .ref 0, .ref 131, .int v3] [] I L (some (.int r.1)) r.2.1 r.2.2) {v3 : Int32} {I : XI} {L : XL} (h : f_law_548 X F k18 v3 I L = some r)  : xEv X (d + 36) 294 548 [.ref xSCR, .ref 0, .ref 131, .int v3] [] I L (some (.int r.1)) r.2.1 r.2.2 := by
  rw [f_law_548] at h
  refine xeb 5 (pc' := 553) (ls' := [.ref xSCR, .ref 0, .ref 131, .int v3]) (st' := [.int (v3 + 1), .ref xSCR, .ref 0]) rfl ?_
  obtain ⟨b86, h⟩ := xck_some h
  refine xeiaX rfl b86 ?_
  refine xeb 4 (pc' := 558) (ls' := [.ref xSCR, .ref 0, .ref 131, .int v3]) (st' := [.int (v3 + 2), .ref xSCR, .int (X.2 (xN (v3 + 1))), .ref 0]) rfl ?_
  obtain ⟨b87, h⟩ := xck_some h
  refine xeiaX rfl b87 ?_
  refine xeb 4 (pc' := 563) (ls' := [.ref xSCR, .ref 0, .ref 131, .int v3]) (st' := [.int (v3 + 3), .ref xSCR, .int (X.2 (xN (v3 + 2))), .int (X.2 (xN (v3 + 1))), .ref 0]) rfl ?_
  obtain ⟨b88, h⟩ := xck_some h
  refine xeiaX rfl b88 ?_
  refine xeb 4 (pc' := 568) (ls' := [.ref xSCR, .ref 0, .ref 131, .int v3]) (st' := [.int (v3 + 4), .ref xSCR, .int (X.2 (xN (v3 + 3))), .int (X.2 (xN (v3 + 2))), .int (X.2 (xN (v3 + 1))), .ref 0]) rfl ?_
  obtain ⟨b89, h⟩ := xck_some h
  refine xeiaX rfl b89 ?_
  obtain ⟨q90, eq90, h⟩ := xbind_some h
  refine xcallV rfl xsh0 rfl rfl rfl (Nat.le_of_ble_eq_true rfl) (Nat.le_of_ble_eq_true rfl) (Nat.le_of_ble_eq_true rfl) rfl (g_H_press (d := d + 32) _ eq90) ?_
  refine xeb 5 (pc' := 577) (ls' := [.ref xSCR, .ref 0, .ref 131, .int v3]) (st' := [.int (v3 + 1), .ref xSCR, .ref 131, .int q90.1]) rfl ?_
  obtain ⟨b91, h⟩ := xck_some h
  refine xeiaX rfl b91 ?_
  refine xeb 4 (pc' := 582) (ls' := [.ref xSCR, .ref 0, .ref 131, .int v3]) (st' := [.int (v3 + 2), .ref xSCR, .int (X.2 (xN (v3 + 1))), .ref 131, .int q90.1]) rfl ?_
  obtain ⟨b92, h⟩ := xck_some h
  refine xeiaX rfl b92 ?_
  refine xeb 4 (pc' := 587) (ls' := [.ref xSCR, .ref 0, .ref 131, .int v3]) (st' := [.int (v3 + 3), .ref xSCR, .int (X.2 (xN (v3 + 2))), .int (X.2 (xN (v3 + 1))), .ref 131, .int q90.1]) rfl ?_
  obtain ⟨b93, h⟩ := xck_some h
  refine xeiaX rfl b93 ?_
  refine xeb 4 (pc' := 592) (ls' := [.ref xSCR, .ref 0, .ref 131, .int v3]) (st' := [.int (v3 + 4), .ref xSCR, .int (X.2 (xN (v3 + 3))), .int (X.2 (xN (v3 + 2))), .int (X.2 (xN (v3 + 1))), .ref 131, .int q90.1]) rfl ?_
  obtain ⟨b94, h⟩ := xck_some h
  refine xeiaX rfl b94 ?_
  obtain ⟨q95, eq95, h⟩ := xbind_some h
  refine xcallV rfl xsh131 rfl rfl rfl (Nat.le_of_ble_eq_true rfl) (Nat.le_of_ble_eq_true rfl) (Nat.le_of_ble_eq_true rfl) rfl (g_M_press (d := d + 30) _ eq95) ?_
  by_cases c96 : q90.1 = q95.1
  · rw [if_pos c96] at h
    refine xei_eq_t rfl c96 ?_
    refine xeb 2 (pc' := 18) (ls' := [.ref xSCR, .ref 0, .ref 131, .int (v3 + 7)]) (st' := []) rfl ?_
    exact hk18 (v3 + 7) q95.2 L h
  · rw [if_neg c96] at h
    refine xei_eq_f rfl c96 ?_
    refine xeb 1 (pc' := 600) (ls' := [.ref xSCR, .ref 0, .ref 131, .int v3]) (st' := [.int 0]) rfl ?_
    obtain rfl := Option.some.inj h
    exact xeiret rfl rfl
noncomputable def f_law_601 (X : XX) (F : Nat) (k18 : Int32 → XI → XL → Option (Int32 × XI × XL)) (v3 : Int32) (I : XI) (L : XL) : Option (Int32 × XI × XL) :=
  xck (xin (v3 + 1) X.1) ((f_H_days F (X.2 (xN (v3 + 1))) I).bind fun q99 => xck (xin (v3 + 1) X.1) ((f_M_days F (X.2 (xN (v3 + 1))) q99.2).bind fun q101 => if q99.1 = q101.1 then (k18 (v3 + 7) q101.2 L) else (some (0, q101.2, L))))
theorem g_law_601 {X : XX} {d : Nat} {F : Nat} {k18 : Int32 → XI → XL → Option (Int32 × XI × XL)}  {r : Int32 × XI × XL} (hk18 : ∀ (v3 : Int32) (I : XI) (L : XL), k18 v3 I L = some r → xEv X (d + 36) 294 18 [.ref xSCR, .ref 0, .ref 131, .int v3] [] I L (some (.int r.1)) r.2.1 r.2.2) {v3 : Int32} {I : XI} {L : XL} (h : f_law_601 X F k18 v3 I L = some r)  : xEv X (d + 36) 294 601 [.ref xSCR, .ref 0, .ref 131, .int v3] [] I L (some (.int r.1)) r.2.1 r.2.2 := by
  rw [f_law_601] at h
  refine xeb 5 (pc' := 606) (ls' := [.ref xSCR, .ref 0, .ref 131, .int v3]) (st' := [.int (v3 + 1), .ref xSCR, .ref 0]) rfl ?_
  obtain ⟨b98, h⟩ := xck_some h
  refine xeiaX rfl b98 ?_
  obtain ⟨q99, eq99, h⟩ := xbind_some h
  refine xcallV rfl xsh0 rfl rfl rfl (Nat.le_of_ble_eq_true rfl) (Nat.le_of_ble_eq_true rfl) (Nat.le_of_ble_eq_true rfl) rfl (g_H_days (d := d + 28) _ eq99) ?_
  refine xeb 5 (pc' := 615) (ls' := [.ref xSCR, .ref 0, .ref 131, .int v3]) (st' := [.int (v3 + 1), .ref xSCR, .ref 131, .int q99.1]) rfl ?_
  obtain ⟨b100, h⟩ := xck_some h
  refine xeiaX rfl b100 ?_
  obtain ⟨q101, eq101, h⟩ := xbind_some h
  refine xcallV rfl xsh131 rfl rfl rfl (Nat.le_of_ble_eq_true rfl) (Nat.le_of_ble_eq_true rfl) (Nat.le_of_ble_eq_true rfl) rfl (g_M_days (d := d + 26) _ eq101) ?_
  by_cases c102 : q99.1 = q101.1
  · rw [if_pos c102] at h
    refine xei_eq_t rfl c102 ?_
    refine xeb 2 (pc' := 18) (ls' := [.ref xSCR, .ref 0, .ref 131, .int (v3 + 7)]) (st' := []) rfl ?_
    exact hk18 (v3 + 7) q101.2 L h
  · rw [if_neg c102] at h
    refine xei_eq_f rfl c102 ?_
    refine xeb 1 (pc' := 623) (ls' := [.ref xSCR, .ref 0, .ref 131, .int v3]) (st' := [.int 0]) rfl ?_
    obtain rfl := Option.some.inj h
    exact xeiret rfl rfl
noncomputable def f_law_624 (X : XX) (F : Nat) (k18 : Int32 → XI → XL → Option (Int32 × XI × XL)) (v3 : Int32) (I : XI) (L : XL) : Option (Int32 × XI × XL) :=
  (f_H_undo I).bind fun q104 => (f_M_undo F q104.2).bind fun q105 => if q104.1 = q105.1 then (k18 (v3 + 7) q105.2 L) else (some (0, q105.2, L))
theorem g_law_624 {X : XX} {d : Nat} {F : Nat} {k18 : Int32 → XI → XL → Option (Int32 × XI × XL)}  {r : Int32 × XI × XL} (hk18 : ∀ (v3 : Int32) (I : XI) (L : XL), k18 v3 I L = some r → xEv X (d + 36) 294 18 [.ref xSCR, .ref 0, .ref 131, .int v3] [] I L (some (.int r.1)) r.2.1 r.2.2) {v3 : Int32} {I : XI} {L : XL} (h : f_law_624 X F k18 v3 I L = some r)  : xEv X (d + 36) 294 624 [.ref xSCR, .ref 0, .ref 131, .int v3] [] I L (some (.int r.1)) r.2.1 r.2.2 := by
  rw [f_law_624] at h
  refine xeb 1 (pc' := 625) (ls' := [.ref xSCR, .ref 0, .ref 131, .int v3]) (st' := [.ref 0]) rfl ?_
  obtain ⟨q104, eq104, h⟩ := xbind_some h
  refine xcallV rfl xsh0 rfl rfl rfl (Nat.le_of_ble_eq_true rfl) (Nat.le_of_ble_eq_true rfl) (Nat.le_of_ble_eq_true rfl) rfl (g_H_undo (d := d + 33) _ eq104) ?_
  refine xeb 1 (pc' := 629) (ls' := [.ref xSCR, .ref 0, .ref 131, .int v3]) (st' := [.ref 131, .int q104.1]) rfl ?_
  obtain ⟨q105, eq105, h⟩ := xbind_some h
  refine xcallV rfl xsh131 rfl rfl rfl (Nat.le_of_ble_eq_true rfl) (Nat.le_of_ble_eq_true rfl) (Nat.le_of_ble_eq_true rfl) rfl (g_M_undo (d := d + 35) _ eq105) ?_
  by_cases c106 : q104.1 = q105.1
  · rw [if_pos c106] at h
    refine xei_eq_t rfl c106 ?_
    refine xeb 2 (pc' := 18) (ls' := [.ref xSCR, .ref 0, .ref 131, .int (v3 + 7)]) (st' := []) rfl ?_
    exact hk18 (v3 + 7) q105.2 L h
  · rw [if_neg c106] at h
    refine xei_eq_f rfl c106 ?_
    refine xeb 1 (pc' := 636) (ls' := [.ref xSCR, .ref 0, .ref 131, .int v3]) (st' := [.int 0]) rfl ?_
    obtain rfl := Option.some.inj h
    exact xeiret rfl rfl
noncomputable def f_law_637 (X : XX) (F : Nat) (k18 : Int32 → XI → XL → Option (Int32 × XI × XL)) (v3 : Int32) (I : XI) (L : XL) : Option (Int32 × XI × XL) :=
  xck (xin (v3 + 1) X.1) (xck (xin (v3 + 2) X.1) ((f_H_clash F I (X.2 (xN (v3 + 1))) (X.2 (xN (v3 + 2)))).bind fun q110 => xck (xin (v3 + 1) X.1) (xck (xin (v3 + 2) X.1) ((f_M_clash F (X.2 (xN (v3 + 1))) (X.2 (xN (v3 + 2))) I).bind fun q113 => if q110 = q113.1 then (k18 (v3 + 7) q113.2 L) else (some (0, q113.2, L))))))
theorem g_law_637 {X : XX} {d : Nat} {F : Nat} {k18 : Int32 → XI → XL → Option (Int32 × XI × XL)}  {r : Int32 × XI × XL} (hk18 : ∀ (v3 : Int32) (I : XI) (L : XL), k18 v3 I L = some r → xEv X (d + 36) 294 18 [.ref xSCR, .ref 0, .ref 131, .int v3] [] I L (some (.int r.1)) r.2.1 r.2.2) {v3 : Int32} {I : XI} {L : XL} (h : f_law_637 X F k18 v3 I L = some r)  : xEv X (d + 36) 294 637 [.ref xSCR, .ref 0, .ref 131, .int v3] [] I L (some (.int r.1)) r.2.1 r.2.2 := by
  rw [f_law_637] at h
  refine xeb 5 (pc' := 642) (ls' := [.ref xSCR, .ref 0, .ref 131, .int v3]) (st' := [.int (v3 + 1), .ref xSCR, .ref 0]) rfl ?_
  obtain ⟨b108, h⟩ := xck_some h
  refine xeiaX rfl b108 ?_
  refine xeb 4 (pc' := 647) (ls' := [.ref xSCR, .ref 0, .ref 131, .int v3]) (st' := [.int (v3 + 2), .ref xSCR, .int (X.2 (xN (v3 + 1))), .ref 0]) rfl ?_
  obtain ⟨b109, h⟩ := xck_some h
  refine xeiaX rfl b109 ?_
  obtain ⟨q110, eq110, h⟩ := xbind_some h
  refine xcallV rfl xsh0 rfl rfl rfl (Nat.le_of_ble_eq_true rfl) (Nat.le_of_ble_eq_true rfl) (Nat.le_of_ble_eq_true rfl) rfl (g_H_clash (d := d + 32) _ eq110) ?_
  refine xeb 5 (pc' := 656) (ls' := [.ref xSCR, .ref 0, .ref 131, .int v3]) (st' := [.int (v3 + 1), .ref xSCR, .ref 131, .int q110]) rfl ?_
  obtain ⟨b111, h⟩ := xck_some h
  refine xeiaX rfl b111 ?_
  refine xeb 4 (pc' := 661) (ls' := [.ref xSCR, .ref 0, .ref 131, .int v3]) (st' := [.int (v3 + 2), .ref xSCR, .int (X.2 (xN (v3 + 1))), .ref 131, .int q110]) rfl ?_
  obtain ⟨b112, h⟩ := xck_some h
  refine xeiaX rfl b112 ?_
  obtain ⟨q113, eq113, h⟩ := xbind_some h
  refine xcallV rfl xsh131 rfl rfl rfl (Nat.le_of_ble_eq_true rfl) (Nat.le_of_ble_eq_true rfl) (Nat.le_of_ble_eq_true rfl) rfl (g_M_clash (d := d + 30) _ eq113) ?_
  by_cases c114 : q110 = q113.1
  · rw [if_pos c114] at h
    refine xei_eq_t rfl c114 ?_
    refine xeb 2 (pc' := 18) (ls' := [.ref xSCR, .ref 0, .ref 131, .int (v3 + 7)]) (st' := []) rfl ?_
    exact hk18 (v3 + 7) q113.2 L h
  · rw [if_neg c114] at h
    refine xei_eq_f rfl c114 ?_
    refine xeb 1 (pc' := 669) (ls' := [.ref xSCR, .ref 0, .ref 131, .int v3]) (st' := [.int 0]) rfl ?_
    obtain rfl := Option.some.inj h
    exact xeiret rfl rfl
noncomputable def f_law_670 (X : XX) (F : Nat) (k18 : Int32 → XI → XL → Option (Int32 × XI × XL)) (v3 : Int32) (I : XI) (L : XL) : Option (Int32 × XI × XL) :=
  xck (xin (v3 + 1) X.1) (xck (xin (v3 + 2) X.1) (xck (xin (v3 + 3) X.1) ((f_H_called I (X.2 (xN (v3 + 1))) (X.2 (xN (v3 + 2))) (X.2 (xN (v3 + 3)))).bind fun q119 => xck (xin (v3 + 1) X.1) (xck (xin (v3 + 2) X.1) (xck (xin (v3 + 3) X.1) ((f_M_called I (X.2 (xN (v3 + 1))) (X.2 (xN (v3 + 2))) (X.2 (xN (v3 + 3)))).bind fun q123 => if q119 = q123 then (k18 (v3 + 7) I L) else (some (0, I, L))))))))
theorem g_law_670 {X : XX} {d : Nat} {F : Nat} {k18 : Int32 → XI → XL → Option (Int32 × XI × XL)}  {r : Int32 × XI × XL} (hk18 : ∀ (v3 : Int32) (I : XI) (L : XL), k18 v3 I L = some r → xEv X (d + 36) 294 18 [.ref xSCR, .ref 0, .ref 131, .int v3] [] I L (some (.int r.1)) r.2.1 r.2.2) {v3 : Int32} {I : XI} {L : XL} (h : f_law_670 X F k18 v3 I L = some r)  : xEv X (d + 36) 294 670 [.ref xSCR, .ref 0, .ref 131, .int v3] [] I L (some (.int r.1)) r.2.1 r.2.2 := by
  rw [f_law_670] at h
  refine xeb 5 (pc' := 675) (ls' := [.ref xSCR, .ref 0, .ref 131, .int v3]) (st' := [.int (v3 + 1), .ref xSCR, .ref 0]) rfl ?_
  obtain ⟨b116, h⟩ := xck_some h
  refine xeiaX rfl b116 ?_
  refine xeb 4 (pc' := 680) (ls' := [.ref xSCR, .ref 0, .ref 131, .int v3]) (st' := [.int (v3 + 2), .ref xSCR, .int (X.2 (xN (v3 + 1))), .ref 0]) rfl ?_
  obtain ⟨b117, h⟩ := xck_some h
  refine xeiaX rfl b117 ?_
  refine xeb 4 (pc' := 685) (ls' := [.ref xSCR, .ref 0, .ref 131, .int v3]) (st' := [.int (v3 + 3), .ref xSCR, .int (X.2 (xN (v3 + 2))), .int (X.2 (xN (v3 + 1))), .ref 0]) rfl ?_
  obtain ⟨b118, h⟩ := xck_some h
  refine xeiaX rfl b118 ?_
  obtain ⟨q119, eq119, h⟩ := xbind_some h
  refine xcallV rfl xsh0 rfl rfl rfl (Nat.le_of_ble_eq_true rfl) (Nat.le_of_ble_eq_true rfl) (Nat.le_of_ble_eq_true rfl) rfl (g_H_called (d := d + 33) _ eq119) ?_
  refine xeb 5 (pc' := 694) (ls' := [.ref xSCR, .ref 0, .ref 131, .int v3]) (st' := [.int (v3 + 1), .ref xSCR, .ref 131, .int q119]) rfl ?_
  obtain ⟨b120, h⟩ := xck_some h
  refine xeiaX rfl b120 ?_
  refine xeb 4 (pc' := 699) (ls' := [.ref xSCR, .ref 0, .ref 131, .int v3]) (st' := [.int (v3 + 2), .ref xSCR, .int (X.2 (xN (v3 + 1))), .ref 131, .int q119]) rfl ?_
  obtain ⟨b121, h⟩ := xck_some h
  refine xeiaX rfl b121 ?_
  refine xeb 4 (pc' := 704) (ls' := [.ref xSCR, .ref 0, .ref 131, .int v3]) (st' := [.int (v3 + 3), .ref xSCR, .int (X.2 (xN (v3 + 2))), .int (X.2 (xN (v3 + 1))), .ref 131, .int q119]) rfl ?_
  obtain ⟨b122, h⟩ := xck_some h
  refine xeiaX rfl b122 ?_
  obtain ⟨q123, eq123, h⟩ := xbind_some h
  refine xcallV rfl xsh131 rfl rfl rfl (Nat.le_of_ble_eq_true rfl) (Nat.le_of_ble_eq_true rfl) (Nat.le_of_ble_eq_true rfl) rfl (g_M_called (d := d + 31) _ eq123) ?_
  by_cases c124 : q119 = q123
  · rw [if_pos c124] at h
    refine xei_eq_t rfl c124 ?_
    refine xeb 2 (pc' := 18) (ls' := [.ref xSCR, .ref 0, .ref 131, .int (v3 + 7)]) (st' := []) rfl ?_
    exact hk18 (v3 + 7) I L h
  · rw [if_neg c124] at h
    refine xei_eq_f rfl c124 ?_
    refine xeb 1 (pc' := 712) (ls' := [.ref xSCR, .ref 0, .ref 131, .int v3]) (st' := [.int 0]) rfl ?_
    obtain rfl := Option.some.inj h
    exact xeiret rfl rfl
noncomputable def f_law_713 (X : XX) (F : Nat) (k18 : Int32 → XI → XL → Option (Int32 × XI × XL)) (v3 : Int32) (I : XI) (L : XL) : Option (Int32 × XI × XL) :=
  xck (xin (v3 + 1) X.1) (xck (xin (v3 + 2) X.1) (xck (xin (v3 + 3) X.1) ((f_H_spares F I (X.2 (xN (v3 + 1))) (X.2 (xN (v3 + 2))) (X.2 (xN (v3 + 3)))).bind fun q129 => xck (xin (v3 + 1) X.1) (xck (xin (v3 + 2) X.1) (xck (xin (v3 + 3) X.1) ((f_M_spares F I (X.2 (xN (v3 + 1))) (X.2 (xN (v3 + 2))) (X.2 (xN (v3 + 3)))).bind fun q133 => if q129 = q133 then (k18 (v3 + 7) I L) else (some (0, I, L))))))))
theorem g_law_713 {X : XX} {d : Nat} {F : Nat} {k18 : Int32 → XI → XL → Option (Int32 × XI × XL)}  {r : Int32 × XI × XL} (hk18 : ∀ (v3 : Int32) (I : XI) (L : XL), k18 v3 I L = some r → xEv X (d + 36) 294 18 [.ref xSCR, .ref 0, .ref 131, .int v3] [] I L (some (.int r.1)) r.2.1 r.2.2) {v3 : Int32} {I : XI} {L : XL} (h : f_law_713 X F k18 v3 I L = some r)  : xEv X (d + 36) 294 713 [.ref xSCR, .ref 0, .ref 131, .int v3] [] I L (some (.int r.1)) r.2.1 r.2.2 := by
  rw [f_law_713] at h
  refine xeb 5 (pc' := 718) (ls' := [.ref xSCR, .ref 0, .ref 131, .int v3]) (st' := [.int (v3 + 1), .ref xSCR, .ref 0]) rfl ?_
  obtain ⟨b126, h⟩ := xck_some h
  refine xeiaX rfl b126 ?_
  refine xeb 4 (pc' := 723) (ls' := [.ref xSCR, .ref 0, .ref 131, .int v3]) (st' := [.int (v3 + 2), .ref xSCR, .int (X.2 (xN (v3 + 1))), .ref 0]) rfl ?_
  obtain ⟨b127, h⟩ := xck_some h
  refine xeiaX rfl b127 ?_
  refine xeb 4 (pc' := 728) (ls' := [.ref xSCR, .ref 0, .ref 131, .int v3]) (st' := [.int (v3 + 3), .ref xSCR, .int (X.2 (xN (v3 + 2))), .int (X.2 (xN (v3 + 1))), .ref 0]) rfl ?_
  obtain ⟨b128, h⟩ := xck_some h
  refine xeiaX rfl b128 ?_
  obtain ⟨q129, eq129, h⟩ := xbind_some h
  refine xcallV rfl xsh0 rfl rfl rfl (Nat.le_of_ble_eq_true rfl) (Nat.le_of_ble_eq_true rfl) (Nat.le_of_ble_eq_true rfl) rfl (g_H_spares (d := d + 31) _ eq129) ?_
  refine xeb 5 (pc' := 737) (ls' := [.ref xSCR, .ref 0, .ref 131, .int v3]) (st' := [.int (v3 + 1), .ref xSCR, .ref 131, .int q129]) rfl ?_
  obtain ⟨b130, h⟩ := xck_some h
  refine xeiaX rfl b130 ?_
  refine xeb 4 (pc' := 742) (ls' := [.ref xSCR, .ref 0, .ref 131, .int v3]) (st' := [.int (v3 + 2), .ref xSCR, .int (X.2 (xN (v3 + 1))), .ref 131, .int q129]) rfl ?_
  obtain ⟨b131, h⟩ := xck_some h
  refine xeiaX rfl b131 ?_
  refine xeb 4 (pc' := 747) (ls' := [.ref xSCR, .ref 0, .ref 131, .int v3]) (st' := [.int (v3 + 3), .ref xSCR, .int (X.2 (xN (v3 + 2))), .int (X.2 (xN (v3 + 1))), .ref 131, .int q129]) rfl ?_
  obtain ⟨b132, h⟩ := xck_some h
  refine xeiaX rfl b132 ?_
  obtain ⟨q133, eq133, h⟩ := xbind_some h
  refine xcallV rfl xsh131 rfl rfl rfl (Nat.le_of_ble_eq_true rfl) (Nat.le_of_ble_eq_true rfl) (Nat.le_of_ble_eq_true rfl) rfl (g_M_spares (d := d + 30) _ eq133) ?_
  by_cases c134 : q129 = q133
  · rw [if_pos c134] at h
    refine xei_eq_t rfl c134 ?_
    refine xeb 2 (pc' := 18) (ls' := [.ref xSCR, .ref 0, .ref 131, .int (v3 + 7)]) (st' := []) rfl ?_
    exact hk18 (v3 + 7) I L h
  · rw [if_neg c134] at h
    refine xei_eq_f rfl c134 ?_
    refine xeb 1 (pc' := 755) (ls' := [.ref xSCR, .ref 0, .ref 131, .int v3]) (st' := [.int 0]) rfl ?_
    obtain rfl := Option.some.inj h
    exact xeiret rfl rfl
noncomputable def f_law_756 (X : XX) (F : Nat) (k18 : Int32 → XI → XL → Option (Int32 × XI × XL)) (v3 : Int32) (I : XI) (L : XL) : Option (Int32 × XI × XL) :=
  xck (xin (v3 + 1) X.1) ((f_H_homes F I (X.2 (xN (v3 + 1)))).bind fun q137 => xck (xin (v3 + 1) X.1) ((f_M_homes F I (X.2 (xN (v3 + 1)))).bind fun q139 => if q137 = q139 then (k18 (v3 + 7) I L) else (some (0, I, L))))
theorem g_law_756 {X : XX} {d : Nat} {F : Nat} {k18 : Int32 → XI → XL → Option (Int32 × XI × XL)}  {r : Int32 × XI × XL} (hk18 : ∀ (v3 : Int32) (I : XI) (L : XL), k18 v3 I L = some r → xEv X (d + 36) 294 18 [.ref xSCR, .ref 0, .ref 131, .int v3] [] I L (some (.int r.1)) r.2.1 r.2.2) {v3 : Int32} {I : XI} {L : XL} (h : f_law_756 X F k18 v3 I L = some r)  : xEv X (d + 36) 294 756 [.ref xSCR, .ref 0, .ref 131, .int v3] [] I L (some (.int r.1)) r.2.1 r.2.2 := by
  rw [f_law_756] at h
  refine xeb 5 (pc' := 761) (ls' := [.ref xSCR, .ref 0, .ref 131, .int v3]) (st' := [.int (v3 + 1), .ref xSCR, .ref 0]) rfl ?_
  obtain ⟨b136, h⟩ := xck_some h
  refine xeiaX rfl b136 ?_
  obtain ⟨q137, eq137, h⟩ := xbind_some h
  refine xcallV rfl xsh0 rfl rfl rfl (Nat.le_of_ble_eq_true rfl) (Nat.le_of_ble_eq_true rfl) (Nat.le_of_ble_eq_true rfl) rfl (g_H_homes (d := d + 31) _ eq137) ?_
  refine xeb 5 (pc' := 770) (ls' := [.ref xSCR, .ref 0, .ref 131, .int v3]) (st' := [.int (v3 + 1), .ref xSCR, .ref 131, .int q137]) rfl ?_
  obtain ⟨b138, h⟩ := xck_some h
  refine xeiaX rfl b138 ?_
  obtain ⟨q139, eq139, h⟩ := xbind_some h
  refine xcallV rfl xsh131 rfl rfl rfl (Nat.le_of_ble_eq_true rfl) (Nat.le_of_ble_eq_true rfl) (Nat.le_of_ble_eq_true rfl) rfl (g_M_homes (d := d + 30) _ eq139) ?_
  by_cases c140 : q137 = q139
  · rw [if_pos c140] at h
    refine xei_eq_t rfl c140 ?_
    refine xeb 2 (pc' := 18) (ls' := [.ref xSCR, .ref 0, .ref 131, .int (v3 + 7)]) (st' := []) rfl ?_
    exact hk18 (v3 + 7) I L h
  · rw [if_neg c140] at h
    refine xei_eq_f rfl c140 ?_
    refine xeb 1 (pc' := 778) (ls' := [.ref xSCR, .ref 0, .ref 131, .int v3]) (st' := [.int 0]) rfl ?_
    obtain rfl := Option.some.inj h
    exact xeiret rfl rfl
noncomputable def f_law_779 (X : XX) (F : Nat) (k18 : Int32 → XI → XL → Option (Int32 × XI × XL)) (v3 : Int32) (I : XI) (L : XL) : Option (Int32 × XI × XL) :=
  (f_H_free F I).bind fun q142 => (f_M_free F I).bind fun q143 => if q142 = q143.1 then (k18 (v3 + 7) q143.2 L) else (some (0, q143.2, L))
theorem g_law_779 {X : XX} {d : Nat} {F : Nat} {k18 : Int32 → XI → XL → Option (Int32 × XI × XL)}  {r : Int32 × XI × XL} (hk18 : ∀ (v3 : Int32) (I : XI) (L : XL), k18 v3 I L = some r → xEv X (d + 36) 294 18 [.ref xSCR, .ref 0, .ref 131, .int v3] [] I L (some (.int r.1)) r.2.1 r.2.2) {v3 : Int32} {I : XI} {L : XL} (h : f_law_779 X F k18 v3 I L = some r)  : xEv X (d + 36) 294 779 [.ref xSCR, .ref 0, .ref 131, .int v3] [] I L (some (.int r.1)) r.2.1 r.2.2 := by
  rw [f_law_779] at h
  refine xeb 1 (pc' := 780) (ls' := [.ref xSCR, .ref 0, .ref 131, .int v3]) (st' := [.ref 0]) rfl ?_
  obtain ⟨q142, eq142, h⟩ := xbind_some h
  refine xcallV rfl xsh0 rfl rfl rfl (Nat.le_of_ble_eq_true rfl) (Nat.le_of_ble_eq_true rfl) (Nat.le_of_ble_eq_true rfl) rfl (g_H_free (d := d + 32) _ eq142) ?_
  refine xeb 1 (pc' := 784) (ls' := [.ref xSCR, .ref 0, .ref 131, .int v3]) (st' := [.ref 131, .int q142]) rfl ?_
  obtain ⟨q143, eq143, h⟩ := xbind_some h
  refine xcallV rfl xsh131 rfl rfl rfl (Nat.le_of_ble_eq_true rfl) (Nat.le_of_ble_eq_true rfl) (Nat.le_of_ble_eq_true rfl) rfl (g_M_free (d := d + 29) _ eq143) ?_
  by_cases c144 : q142 = q143.1
  · rw [if_pos c144] at h
    refine xei_eq_t rfl c144 ?_
    refine xeb 2 (pc' := 18) (ls' := [.ref xSCR, .ref 0, .ref 131, .int (v3 + 7)]) (st' := []) rfl ?_
    exact hk18 (v3 + 7) q143.2 L h
  · rw [if_neg c144] at h
    refine xei_eq_f rfl c144 ?_
    refine xeb 1 (pc' := 791) (ls' := [.ref xSCR, .ref 0, .ref 131, .int v3]) (st' := [.int 0]) rfl ?_
    obtain rfl := Option.some.inj h
    exact xeiret rfl rfl
noncomputable def f_law_792 (X : XX) (F : Nat) (k18 : Int32 → XI → XL → Option (Int32 × XI × XL)) (v3 : Int32) (I : XI) (L : XL) : Option (Int32 × XI × XL) :=
  xck (xin (v3 + 1) X.1) (xck (xin (v3 + 2) X.1) ((f_H_border F I (X.2 (xN (v3 + 1))) (X.2 (xN (v3 + 2)))).bind fun q148 => xck (xin (v3 + 1) X.1) (xck (xin (v3 + 2) X.1) ((f_M_border F (X.2 (xN (v3 + 1))) (X.2 (xN (v3 + 2))) I).bind fun q151 => if q148 = q151.1 then (k18 (v3 + 7) q151.2 L) else (some (0, q151.2, L))))))
theorem g_law_792 {X : XX} {d : Nat} {F : Nat} {k18 : Int32 → XI → XL → Option (Int32 × XI × XL)}  {r : Int32 × XI × XL} (hk18 : ∀ (v3 : Int32) (I : XI) (L : XL), k18 v3 I L = some r → xEv X (d + 36) 294 18 [.ref xSCR, .ref 0, .ref 131, .int v3] [] I L (some (.int r.1)) r.2.1 r.2.2) {v3 : Int32} {I : XI} {L : XL} (h : f_law_792 X F k18 v3 I L = some r)  : xEv X (d + 36) 294 792 [.ref xSCR, .ref 0, .ref 131, .int v3] [] I L (some (.int r.1)) r.2.1 r.2.2 := by
  rw [f_law_792] at h
  refine xeb 5 (pc' := 797) (ls' := [.ref xSCR, .ref 0, .ref 131, .int v3]) (st' := [.int (v3 + 1), .ref xSCR, .ref 0]) rfl ?_
  obtain ⟨b146, h⟩ := xck_some h
  refine xeiaX rfl b146 ?_
  refine xeb 4 (pc' := 802) (ls' := [.ref xSCR, .ref 0, .ref 131, .int v3]) (st' := [.int (v3 + 2), .ref xSCR, .int (X.2 (xN (v3 + 1))), .ref 0]) rfl ?_
  obtain ⟨b147, h⟩ := xck_some h
  refine xeiaX rfl b147 ?_
  obtain ⟨q148, eq148, h⟩ := xbind_some h
  refine xcallV rfl xsh0 rfl rfl rfl (Nat.le_of_ble_eq_true rfl) (Nat.le_of_ble_eq_true rfl) (Nat.le_of_ble_eq_true rfl) rfl (g_H_border (d := d + 31) _ eq148) ?_
  refine xeb 5 (pc' := 811) (ls' := [.ref xSCR, .ref 0, .ref 131, .int v3]) (st' := [.int (v3 + 1), .ref xSCR, .ref 131, .int q148]) rfl ?_
  obtain ⟨b149, h⟩ := xck_some h
  refine xeiaX rfl b149 ?_
  refine xeb 4 (pc' := 816) (ls' := [.ref xSCR, .ref 0, .ref 131, .int v3]) (st' := [.int (v3 + 2), .ref xSCR, .int (X.2 (xN (v3 + 1))), .ref 131, .int q148]) rfl ?_
  obtain ⟨b150, h⟩ := xck_some h
  refine xeiaX rfl b150 ?_
  obtain ⟨q151, eq151, h⟩ := xbind_some h
  refine xcallV rfl xsh131 rfl rfl rfl (Nat.le_of_ble_eq_true rfl) (Nat.le_of_ble_eq_true rfl) (Nat.le_of_ble_eq_true rfl) rfl (g_M_border (d := d + 30) _ eq151) ?_
  by_cases c152 : q148 = q151.1
  · rw [if_pos c152] at h
    refine xei_eq_t rfl c152 ?_
    refine xeb 2 (pc' := 18) (ls' := [.ref xSCR, .ref 0, .ref 131, .int (v3 + 7)]) (st' := []) rfl ?_
    exact hk18 (v3 + 7) q151.2 L h
  · rw [if_neg c152] at h
    refine xei_eq_f rfl c152 ?_
    refine xeb 1 (pc' := 824) (ls' := [.ref xSCR, .ref 0, .ref 131, .int v3]) (st' := [.int 0]) rfl ?_
    obtain rfl := Option.some.inj h
    exact xeiret rfl rfl
noncomputable def f_law_825 (X : XX) (F : Nat) (k18 : Int32 → XI → XL → Option (Int32 × XI × XL)) (v3 : Int32) (I : XI) (L : XL) : Option (Int32 × XI × XL) :=
  xck (xin (v3 + 1) X.1) ((f_H_richest F (X.2 (xN (v3 + 1))) I).bind fun q155 => xck (xin (v3 + 1) X.1) ((f_M_richest F (X.2 (xN (v3 + 1))) q155.2).bind fun q157 => if q155.1 = q157.1 then (k18 (v3 + 7) q157.2 L) else (some (0, q157.2, L))))
theorem g_law_825 {X : XX} {d : Nat} {F : Nat} {k18 : Int32 → XI → XL → Option (Int32 × XI × XL)}  {r : Int32 × XI × XL} (hk18 : ∀ (v3 : Int32) (I : XI) (L : XL), k18 v3 I L = some r → xEv X (d + 36) 294 18 [.ref xSCR, .ref 0, .ref 131, .int v3] [] I L (some (.int r.1)) r.2.1 r.2.2) {v3 : Int32} {I : XI} {L : XL} (h : f_law_825 X F k18 v3 I L = some r)  : xEv X (d + 36) 294 825 [.ref xSCR, .ref 0, .ref 131, .int v3] [] I L (some (.int r.1)) r.2.1 r.2.2 := by
  rw [f_law_825] at h
  refine xeb 5 (pc' := 830) (ls' := [.ref xSCR, .ref 0, .ref 131, .int v3]) (st' := [.int (v3 + 1), .ref xSCR, .ref 0]) rfl ?_
  obtain ⟨b154, h⟩ := xck_some h
  refine xeiaX rfl b154 ?_
  obtain ⟨q155, eq155, h⟩ := xbind_some h
  refine xcallV rfl xsh0 rfl rfl rfl (Nat.le_of_ble_eq_true rfl) (Nat.le_of_ble_eq_true rfl) (Nat.le_of_ble_eq_true rfl) rfl (g_H_richest (d := d + 29) _ eq155) ?_
  refine xeb 5 (pc' := 839) (ls' := [.ref xSCR, .ref 0, .ref 131, .int v3]) (st' := [.int (v3 + 1), .ref xSCR, .ref 131, .int q155.1]) rfl ?_
  obtain ⟨b156, h⟩ := xck_some h
  refine xeiaX rfl b156 ?_
  obtain ⟨q157, eq157, h⟩ := xbind_some h
  refine xcallV rfl xsh131 rfl rfl rfl (Nat.le_of_ble_eq_true rfl) (Nat.le_of_ble_eq_true rfl) (Nat.le_of_ble_eq_true rfl) rfl (g_M_richest (d := d + 28) _ eq157) ?_
  by_cases c158 : q155.1 = q157.1
  · rw [if_pos c158] at h
    refine xei_eq_t rfl c158 ?_
    refine xeb 2 (pc' := 18) (ls' := [.ref xSCR, .ref 0, .ref 131, .int (v3 + 7)]) (st' := []) rfl ?_
    exact hk18 (v3 + 7) q157.2 L h
  · rw [if_neg c158] at h
    refine xei_eq_f rfl c158 ?_
    refine xeb 1 (pc' := 847) (ls' := [.ref xSCR, .ref 0, .ref 131, .int v3]) (st' := [.int 0]) rfl ?_
    obtain rfl := Option.some.inj h
    exact xeiret rfl rfl
noncomputable def f_law_848 (X : XX) (F : Nat) (k18 : Int32 → XI → XL → Option (Int32 × XI × XL)) (v3 : Int32) (I : XI) (L : XL) : Option (Int32 × XI × XL) :=
  xck (xin (v3 + 1) X.1) (xck (xin (v3 + 2) X.1) (xck (xin (v3 + 3) X.1) ((f_H_step F (X.2 (xN (v3 + 1))) (X.2 (xN (v3 + 2))) (X.2 (xN (v3 + 3))) I).bind fun q163 => xck (xin (v3 + 1) X.1) (xck (xin (v3 + 2) X.1) (xck (xin (v3 + 3) X.1) ((f_M_step F (X.2 (xN (v3 + 1))) (X.2 (xN (v3 + 2))) (X.2 (xN (v3 + 3))) q163.2).bind fun q167 => if q163.1 = q167.1 then (k18 (v3 + 7) q167.2 L) else (some (0, q167.2, L))))))))
theorem g_law_848 {X : XX} {d : Nat} {F : Nat} {k18 : Int32 → XI → XL → Option (Int32 × XI × XL)}  {r : Int32 × XI × XL} (hk18 : ∀ (v3 : Int32) (I : XI) (L : XL), k18 v3 I L = some r → xEv X (d + 36) 294 18 [.ref xSCR, .ref 0, .ref 131, .int v3] [] I L (some (.int r.1)) r.2.1 r.2.2) {v3 : Int32} {I : XI} {L : XL} (h : f_law_848 X F k18 v3 I L = some r)  : xEv X (d + 36) 294 848 [.ref xSCR, .ref 0, .ref 131, .int v3] [] I L (some (.int r.1)) r.2.1 r.2.2 := by
  rw [f_law_848] at h
  refine xeb 5 (pc' := 853) (ls' := [.ref xSCR, .ref 0, .ref 131, .int v3]) (st' := [.int (v3 + 1), .ref xSCR, .ref 0]) rfl ?_
  obtain ⟨b160, h⟩ := xck_some h
  refine xeiaX rfl b160 ?_
  refine xeb 4 (pc' := 858) (ls' := [.ref xSCR, .ref 0, .ref 131, .int v3]) (st' := [.int (v3 + 2), .ref xSCR, .int (X.2 (xN (v3 + 1))), .ref 0]) rfl ?_
  obtain ⟨b161, h⟩ := xck_some h
  refine xeiaX rfl b161 ?_
  refine xeb 4 (pc' := 863) (ls' := [.ref xSCR, .ref 0, .ref 131, .int v3]) (st' := [.int (v3 + 3), .ref xSCR, .int (X.2 (xN (v3 + 2))), .int (X.2 (xN (v3 + 1))), .ref 0]) rfl ?_
  obtain ⟨b162, h⟩ := xck_some h
  refine xeiaX rfl b162 ?_
  obtain ⟨q163, eq163, h⟩ := xbind_some h
  refine xcallV rfl xsh0 rfl rfl rfl (Nat.le_of_ble_eq_true rfl) (Nat.le_of_ble_eq_true rfl) (Nat.le_of_ble_eq_true rfl) rfl (g_H_step (d := d + 32) _ eq163) ?_
  refine xeb 5 (pc' := 872) (ls' := [.ref xSCR, .ref 0, .ref 131, .int v3]) (st' := [.int (v3 + 1), .ref xSCR, .ref 131, .int q163.1]) rfl ?_
  obtain ⟨b164, h⟩ := xck_some h
  refine xeiaX rfl b164 ?_
  refine xeb 4 (pc' := 877) (ls' := [.ref xSCR, .ref 0, .ref 131, .int v3]) (st' := [.int (v3 + 2), .ref xSCR, .int (X.2 (xN (v3 + 1))), .ref 131, .int q163.1]) rfl ?_
  obtain ⟨b165, h⟩ := xck_some h
  refine xeiaX rfl b165 ?_
  refine xeb 4 (pc' := 882) (ls' := [.ref xSCR, .ref 0, .ref 131, .int v3]) (st' := [.int (v3 + 3), .ref xSCR, .int (X.2 (xN (v3 + 2))), .int (X.2 (xN (v3 + 1))), .ref 131, .int q163.1]) rfl ?_
  obtain ⟨b166, h⟩ := xck_some h
  refine xeiaX rfl b166 ?_
  obtain ⟨q167, eq167, h⟩ := xbind_some h
  refine xcallV rfl xsh131 rfl rfl rfl (Nat.le_of_ble_eq_true rfl) (Nat.le_of_ble_eq_true rfl) (Nat.le_of_ble_eq_true rfl) rfl (g_M_step (d := d + 31) _ eq167) ?_
  by_cases c168 : q163.1 = q167.1
  · rw [if_pos c168] at h
    refine xei_eq_t rfl c168 ?_
    refine xeb 2 (pc' := 18) (ls' := [.ref xSCR, .ref 0, .ref 131, .int (v3 + 7)]) (st' := []) rfl ?_
    exact hk18 (v3 + 7) q167.2 L h
  · rw [if_neg c168] at h
    refine xei_eq_f rfl c168 ?_
    refine xeb 1 (pc' := 890) (ls' := [.ref xSCR, .ref 0, .ref 131, .int v3]) (st' := [.int 0]) rfl ?_
    obtain rfl := Option.some.inj h
    exact xeiret rfl rfl
noncomputable def f_law_891 (X : XX) (F : Nat) (k18 : Int32 → XI → XL → Option (Int32 × XI × XL)) (v3 : Int32) (I : XI) (L : XL) : Option (Int32 × XI × XL) :=
  xck (xin (v3 + 1) X.1) (xck (xin (v3 + 2) X.1) (xck (xin (v3 + 3) X.1) (xck (xin (v3 + 4) X.1) ((f_H_far F (X.2 (xN (v3 + 1))) (X.2 (xN (v3 + 2))) (X.2 (xN (v3 + 3))) (X.2 (xN (v3 + 4))) I).bind fun q174 => xck (xin (v3 + 1) X.1) (xck (xin (v3 + 2) X.1) (xck (xin (v3 + 3) X.1) (xck (xin (v3 + 4) X.1) ((f_M_far F (X.2 (xN (v3 + 1))) (X.2 (xN (v3 + 2))) (X.2 (xN (v3 + 3))) (X.2 (xN (v3 + 4))) q174.2).bind fun q179 => if q174.1 = q179.1 then (k18 (v3 + 7) q179.2 L) else (some (0, q179.2, L))))))))))
theorem g_law_891 {X : XX} {d : Nat} {F : Nat} {k18 : Int32 → XI → XL → Option (Int32 × XI × XL)}  {r : Int32 × XI × XL} (hk18 : ∀ (v3 : Int32) (I : XI) (L : XL), k18 v3 I L = some r → xEv X (d + 36) 294 18 [.ref xSCR, .ref 0, .ref 131, .int v3] [] I L (some (.int r.1)) r.2.1 r.2.2) {v3 : Int32} {I : XI} {L : XL} (h : f_law_891 X F k18 v3 I L = some r)  : xEv X (d + 36) 294 891 [.ref xSCR, .ref 0, .ref 131, .int v3] [] I L (some (.int r.1)) r.2.1 r.2.2 := by
  rw [f_law_891] at h
  refine xeb 5 (pc' := 896) (ls' := [.ref xSCR, .ref 0, .ref 131, .int v3]) (st' := [.int (v3 + 1), .ref xSCR, .ref 0]) rfl ?_
  obtain ⟨b170, h⟩ := xck_some h
  refine xeiaX rfl b170 ?_
  refine xeb 4 (pc' := 901) (ls' := [.ref xSCR, .ref 0, .ref 131, .int v3]) (st' := [.int (v3 + 2), .ref xSCR, .int (X.2 (xN (v3 + 1))), .ref 0]) rfl ?_
  obtain ⟨b171, h⟩ := xck_some h
  refine xeiaX rfl b171 ?_
  refine xeb 4 (pc' := 906) (ls' := [.ref xSCR, .ref 0, .ref 131, .int v3]) (st' := [.int (v3 + 3), .ref xSCR, .int (X.2 (xN (v3 + 2))), .int (X.2 (xN (v3 + 1))), .ref 0]) rfl ?_
  obtain ⟨b172, h⟩ := xck_some h
  refine xeiaX rfl b172 ?_
  refine xeb 4 (pc' := 911) (ls' := [.ref xSCR, .ref 0, .ref 131, .int v3]) (st' := [.int (v3 + 4), .ref xSCR, .int (X.2 (xN (v3 + 3))), .int (X.2 (xN (v3 + 2))), .int (X.2 (xN (v3 + 1))), .ref 0]) rfl ?_
  obtain ⟨b173, h⟩ := xck_some h
  refine xeiaX rfl b173 ?_
  obtain ⟨q174, eq174, h⟩ := xbind_some h
  refine xcallV rfl xsh0 rfl rfl rfl (Nat.le_of_ble_eq_true rfl) (Nat.le_of_ble_eq_true rfl) (Nat.le_of_ble_eq_true rfl) rfl (g_H_far (d := d + 31) _ eq174) ?_
  refine xeb 5 (pc' := 920) (ls' := [.ref xSCR, .ref 0, .ref 131, .int v3]) (st' := [.int (v3 + 1), .ref xSCR, .ref 131, .int q174.1]) rfl ?_
  obtain ⟨b175, h⟩ := xck_some h
  refine xeiaX rfl b175 ?_
  refine xeb 4 (pc' := 925) (ls' := [.ref xSCR, .ref 0, .ref 131, .int v3]) (st' := [.int (v3 + 2), .ref xSCR, .int (X.2 (xN (v3 + 1))), .ref 131, .int q174.1]) rfl ?_
  obtain ⟨b176, h⟩ := xck_some h
  refine xeiaX rfl b176 ?_
  refine xeb 4 (pc' := 930) (ls' := [.ref xSCR, .ref 0, .ref 131, .int v3]) (st' := [.int (v3 + 3), .ref xSCR, .int (X.2 (xN (v3 + 2))), .int (X.2 (xN (v3 + 1))), .ref 131, .int q174.1]) rfl ?_
  obtain ⟨b177, h⟩ := xck_some h
  refine xeiaX rfl b177 ?_
  refine xeb 4 (pc' := 935) (ls' := [.ref xSCR, .ref 0, .ref 131, .int v3]) (st' := [.int (v3 + 4), .ref xSCR, .int (X.2 (xN (v3 + 3))), .int (X.2 (xN (v3 + 2))), .int (X.2 (xN (v3 + 1))), .ref 131, .int q174.1]) rfl ?_
  obtain ⟨b178, h⟩ := xck_some h
  refine xeiaX rfl b178 ?_
  obtain ⟨q179, eq179, h⟩ := xbind_some h
  refine xcallV rfl xsh131 rfl rfl rfl (Nat.le_of_ble_eq_true rfl) (Nat.le_of_ble_eq_true rfl) (Nat.le_of_ble_eq_true rfl) rfl (g_M_far (d := d + 30) _ eq179) ?_
  by_cases c180 : q174.1 = q179.1
  · rw [if_pos c180] at h
    refine xei_eq_t rfl c180 ?_
    refine xeb 2 (pc' := 18) (ls' := [.ref xSCR, .ref 0, .ref 131, .int (v3 + 7)]) (st' := []) rfl ?_
    exact hk18 (v3 + 7) q179.2 L h
  · rw [if_neg c180] at h
    refine xei_eq_f rfl c180 ?_
    refine xeb 1 (pc' := 943) (ls' := [.ref xSCR, .ref 0, .ref 131, .int v3]) (st' := [.int 0]) rfl ?_
    obtain rfl := Option.some.inj h
    exact xeiret rfl rfl
noncomputable def f_law_944 (X : XX) (F : Nat) (k18 : Int32 → XI → XL → Option (Int32 × XI × XL)) (v3 : Int32) (I : XI) (L : XL) : Option (Int32 × XI × XL) :=
  xck (xin (v3 + 1) X.1) (xck (xin (v3 + 2) X.1) (xck (xin (v3 + 3) X.1) (xck (xin (v3 + 4) X.1) ((f_H_more F (X.2 (xN (v3 + 1))) (X.2 (xN (v3 + 2))) (X.2 (xN (v3 + 3))) (X.2 (xN (v3 + 4))) I).bind fun q186 => xck (xin (v3 + 1) X.1) (xck (xin (v3 + 2) X.1) (xck (xin (v3 + 3) X.1) (xck (xin (v3 + 4) X.1) ((f_M_more F (X.2 (xN (v3 + 1))) (X.2 (xN (v3 + 2))) (X.2 (xN (v3 + 3))) (X.2 (xN (v3 + 4))) q186.2).bind fun q191 => if q186.1 = q191.1 then (k18 (v3 + 7) q191.2 L) else (some (0, q191.2, L))))))))))
theorem g_law_944 {X : XX} {d : Nat} {F : Nat} {k18 : Int32 → XI → XL → Option (Int32 × XI × XL)}  {r : Int32 × XI × XL} (hk18 : ∀ (v3 : Int32) (I : XI) (L : XL), k18 v3 I L = some r → xEv X (d + 36) 294 18 [.ref xSCR, .ref 0, .ref 131, .int v3] [] I L (some (.int r.1)) r.2.1 r.2.2) {v3 : Int32} {I : XI} {L : XL} (h : f_law_944 X F k18 v3 I L = some r)  : xEv X (d + 36) 294 944 [.ref xSCR, .ref 0, .ref 131, .int v3] [] I L (some (.int r.1)) r.2.1 r.2.2 := by
  rw [f_law_944] at h
  refine xeb 5 (pc' := 949) (ls' := [.ref xSCR, .ref 0, .ref 131, .int v3]) (st' := [.int (v3 + 1), .ref xSCR, .ref 0]) rfl ?_
  obtain ⟨b182, h⟩ := xck_some h
  refine xeiaX rfl b182 ?_
  refine xeb 4 (pc' := 954) (ls' := [.ref xSCR, .ref 0, .ref 131, .int v3]) (st' := [.int (v3 + 2), .ref xSCR, .int (X.2 (xN (v3 + 1))), .ref 0]) rfl ?_
  obtain ⟨b183, h⟩ := xck_some h
  refine xeiaX rfl b183 ?_
  refine xeb 4 (pc' := 959) (ls' := [.ref xSCR, .ref 0, .ref 131, .int v3]) (st' := [.int (v3 + 3), .ref xSCR, .int (X.2 (xN (v3 + 2))), .int (X.2 (xN (v3 + 1))), .ref 0]) rfl ?_
  obtain ⟨b184, h⟩ := xck_some h
  refine xeiaX rfl b184 ?_
  refine xeb 4 (pc' := 964) (ls' := [.ref xSCR, .ref 0, .ref 131, .int v3]) (st' := [.int (v3 + 4), .ref xSCR, .int (X.2 (xN (v3 + 3))), .int (X.2 (xN (v3 + 2))), .int (X.2 (xN (v3 + 1))), .ref 0]) rfl ?_
  obtain ⟨b185, h⟩ := xck_some h
  refine xeiaX rfl b185 ?_
  obtain ⟨q186, eq186, h⟩ := xbind_some h
  refine xcallV rfl xsh0 rfl rfl rfl (Nat.le_of_ble_eq_true rfl) (Nat.le_of_ble_eq_true rfl) (Nat.le_of_ble_eq_true rfl) rfl (g_H_more (d := d + 32) _ eq186) ?_
  refine xeb 5 (pc' := 973) (ls' := [.ref xSCR, .ref 0, .ref 131, .int v3]) (st' := [.int (v3 + 1), .ref xSCR, .ref 131, .int q186.1]) rfl ?_
  obtain ⟨b187, h⟩ := xck_some h
  refine xeiaX rfl b187 ?_
  refine xeb 4 (pc' := 978) (ls' := [.ref xSCR, .ref 0, .ref 131, .int v3]) (st' := [.int (v3 + 2), .ref xSCR, .int (X.2 (xN (v3 + 1))), .ref 131, .int q186.1]) rfl ?_
  obtain ⟨b188, h⟩ := xck_some h
  refine xeiaX rfl b188 ?_
  refine xeb 4 (pc' := 983) (ls' := [.ref xSCR, .ref 0, .ref 131, .int v3]) (st' := [.int (v3 + 3), .ref xSCR, .int (X.2 (xN (v3 + 2))), .int (X.2 (xN (v3 + 1))), .ref 131, .int q186.1]) rfl ?_
  obtain ⟨b189, h⟩ := xck_some h
  refine xeiaX rfl b189 ?_
  refine xeb 4 (pc' := 988) (ls' := [.ref xSCR, .ref 0, .ref 131, .int v3]) (st' := [.int (v3 + 4), .ref xSCR, .int (X.2 (xN (v3 + 3))), .int (X.2 (xN (v3 + 2))), .int (X.2 (xN (v3 + 1))), .ref 131, .int q186.1]) rfl ?_
  obtain ⟨b190, h⟩ := xck_some h
  refine xeiaX rfl b190 ?_
  obtain ⟨q191, eq191, h⟩ := xbind_some h
  refine xcallV rfl xsh131 rfl rfl rfl (Nat.le_of_ble_eq_true rfl) (Nat.le_of_ble_eq_true rfl) (Nat.le_of_ble_eq_true rfl) rfl (g_M_more (d := d + 31) _ eq191) ?_
  by_cases c192 : q186.1 = q191.1
  · rw [if_pos c192] at h
    refine xei_eq_t rfl c192 ?_
    refine xeb 2 (pc' := 18) (ls' := [.ref xSCR, .ref 0, .ref 131, .int (v3 + 7)]) (st' := []) rfl ?_
    exact hk18 (v3 + 7) q191.2 L h
  · rw [if_neg c192] at h
    refine xei_eq_f rfl c192 ?_
    refine xeb 1 (pc' := 996) (ls' := [.ref xSCR, .ref 0, .ref 131, .int v3]) (st' := [.int 0]) rfl ?_
    obtain rfl := Option.some.inj h
    exact xeiret rfl rfl
noncomputable def f_law_997 (X : XX) (F : Nat) (k18 : Int32 → XI → XL → Option (Int32 × XI × XL)) (v3 : Int32) (I : XI) (L : XL) : Option (Int32 × XI × XL) :=
  (f_H_most F I).bind fun q194 => (f_M_most F q194.2).bind fun q195 => if q194.1 = q195.1 then (k18 (v3 + 7) q195.2 L) else (some (0, q195.2, L))
theorem g_law_997 {X : XX} {d : Nat} {F : Nat} {k18 : Int32 → XI → XL → Option (Int32 × XI × XL)}  {r : Int32 × XI × XL} (hk18 : ∀ (v3 : Int32) (I : XI) (L : XL), k18 v3 I L = some r → xEv X (d + 36) 294 18 [.ref xSCR, .ref 0, .ref 131, .int v3] [] I L (some (.int r.1)) r.2.1 r.2.2) {v3 : Int32} {I : XI} {L : XL} (h : f_law_997 X F k18 v3 I L = some r)  : xEv X (d + 36) 294 997 [.ref xSCR, .ref 0, .ref 131, .int v3] [] I L (some (.int r.1)) r.2.1 r.2.2 := by
  rw [f_law_997] at h
  refine xeb 1 (pc' := 998) (ls' := [.ref xSCR, .ref 0, .ref 131, .int v3]) (st' := [.ref 0]) rfl ?_
  obtain ⟨q194, eq194, h⟩ := xbind_some h
  refine xcallV rfl xsh0 rfl rfl rfl (Nat.le_of_ble_eq_true rfl) (Nat.le_of_ble_eq_true rfl) (Nat.le_of_ble_eq_true rfl) rfl (g_H_most (d := d + 31) _ eq194) ?_
  refine xeb 1 (pc' := 1002) (ls' := [.ref xSCR, .ref 0, .ref 131, .int v3]) (st' := [.ref 131, .int q194.1]) rfl ?_
  obtain ⟨q195, eq195, h⟩ := xbind_some h
  refine xcallV rfl xsh131 rfl rfl rfl (Nat.le_of_ble_eq_true rfl) (Nat.le_of_ble_eq_true rfl) (Nat.le_of_ble_eq_true rfl) rfl (g_M_most (d := d + 30) _ eq195) ?_
  by_cases c196 : q194.1 = q195.1
  · rw [if_pos c196] at h
    refine xei_eq_t rfl c196 ?_
    refine xeb 2 (pc' := 18) (ls' := [.ref xSCR, .ref 0, .ref 131, .int (v3 + 7)]) (st' := []) rfl ?_
    exact hk18 (v3 + 7) q195.2 L h
  · rw [if_neg c196] at h
    refine xei_eq_f rfl c196 ?_
    refine xeb 1 (pc' := 1009) (ls' := [.ref xSCR, .ref 0, .ref 131, .int v3]) (st' := [.int 0]) rfl ?_
    obtain rfl := Option.some.inj h
    exact xeiret rfl rfl
noncomputable def f_law_1010 (X : XX) (F : Nat) (k18 : Int32 → XI → XL → Option (Int32 × XI × XL)) (v3 : Int32) (I : XI) (L : XL) : Option (Int32 × XI × XL) :=
  xck (xin (v3 + 1) X.1) (xck (xin (v3 + 2) X.1) ((f_H_joined F (X.2 (xN (v3 + 1))) (X.2 (xN (v3 + 2))) I).bind fun q200 => xck (xin (v3 + 1) X.1) (xck (xin (v3 + 2) X.1) ((f_M_joined F (X.2 (xN (v3 + 1))) (X.2 (xN (v3 + 2))) q200.2).bind fun q203 => if q200.1 = q203.1 then (k18 (v3 + 7) q203.2 L) else (some (0, q203.2, L))))))
theorem g_law_1010 {X : XX} {d : Nat} {F : Nat} {k18 : Int32 → XI → XL → Option (Int32 × XI × XL)}  {r : Int32 × XI × XL} (hk18 : ∀ (v3 : Int32) (I : XI) (L : XL), k18 v3 I L = some r → xEv X (d + 36) 294 18 [.ref xSCR, .ref 0, .ref 131, .int v3] [] I L (some (.int r.1)) r.2.1 r.2.2) {v3 : Int32} {I : XI} {L : XL} (h : f_law_1010 X F k18 v3 I L = some r)  : xEv X (d + 36) 294 1010 [.ref xSCR, .ref 0, .ref 131, .int v3] [] I L (some (.int r.1)) r.2.1 r.2.2 := by
  rw [f_law_1010] at h
  refine xeb 5 (pc' := 1015) (ls' := [.ref xSCR, .ref 0, .ref 131, .int v3]) (st' := [.int (v3 + 1), .ref xSCR, .ref 0]) rfl ?_
  obtain ⟨b198, h⟩ := xck_some h
  refine xeiaX rfl b198 ?_
  refine xeb 4 (pc' := 1020) (ls' := [.ref xSCR, .ref 0, .ref 131, .int v3]) (st' := [.int (v3 + 2), .ref xSCR, .int (X.2 (xN (v3 + 1))), .ref 0]) rfl ?_
  obtain ⟨b199, h⟩ := xck_some h
  refine xeiaX rfl b199 ?_
  obtain ⟨q200, eq200, h⟩ := xbind_some h
  refine xcallV rfl xsh0 rfl rfl rfl (Nat.le_of_ble_eq_true rfl) (Nat.le_of_ble_eq_true rfl) (Nat.le_of_ble_eq_true rfl) rfl (g_H_joined (d := d + 31) _ eq200) ?_
  refine xeb 5 (pc' := 1029) (ls' := [.ref xSCR, .ref 0, .ref 131, .int v3]) (st' := [.int (v3 + 1), .ref xSCR, .ref 131, .int q200.1]) rfl ?_
  obtain ⟨b201, h⟩ := xck_some h
  refine xeiaX rfl b201 ?_
  refine xeb 4 (pc' := 1034) (ls' := [.ref xSCR, .ref 0, .ref 131, .int v3]) (st' := [.int (v3 + 2), .ref xSCR, .int (X.2 (xN (v3 + 1))), .ref 131, .int q200.1]) rfl ?_
  obtain ⟨b202, h⟩ := xck_some h
  refine xeiaX rfl b202 ?_
  obtain ⟨q203, eq203, h⟩ := xbind_some h
  refine xcallV rfl xsh131 rfl rfl rfl (Nat.le_of_ble_eq_true rfl) (Nat.le_of_ble_eq_true rfl) (Nat.le_of_ble_eq_true rfl) rfl (g_M_joined (d := d + 29) _ eq203) ?_
  by_cases c204 : q200.1 = q203.1
  · rw [if_pos c204] at h
    refine xei_eq_t rfl c204 ?_
    refine xeb 2 (pc' := 18) (ls' := [.ref xSCR, .ref 0, .ref 131, .int (v3 + 7)]) (st' := []) rfl ?_
    exact hk18 (v3 + 7) q203.2 L h
  · rw [if_neg c204] at h
    refine xei_eq_f rfl c204 ?_
    refine xeb 1 (pc' := 1042) (ls' := [.ref xSCR, .ref 0, .ref 131, .int v3]) (st' := [.int 0]) rfl ?_
    obtain rfl := Option.some.inj h
    exact xeiret rfl rfl
noncomputable def f_law_1043 (X : XX) (F : Nat) (k18 : Int32 → XI → XL → Option (Int32 × XI × XL)) (v3 : Int32) (I : XI) (L : XL) : Option (Int32 × XI × XL) :=
  (f_H_loose F I).bind fun q206 => (f_M_loose F I).bind fun q207 => if q206 = q207.1 then (k18 (v3 + 7) q207.2 L) else (some (0, q207.2, L))
theorem g_law_1043 {X : XX} {d : Nat} {F : Nat} {k18 : Int32 → XI → XL → Option (Int32 × XI × XL)}  {r : Int32 × XI × XL} (hk18 : ∀ (v3 : Int32) (I : XI) (L : XL), k18 v3 I L = some r → xEv X (d + 36) 294 18 [.ref xSCR, .ref 0, .ref 131, .int v3] [] I L (some (.int r.1)) r.2.1 r.2.2) {v3 : Int32} {I : XI} {L : XL} (h : f_law_1043 X F k18 v3 I L = some r)  : xEv X (d + 36) 294 1043 [.ref xSCR, .ref 0, .ref 131, .int v3] [] I L (some (.int r.1)) r.2.1 r.2.2 := by
  rw [f_law_1043] at h
  refine xeb 1 (pc' := 1044) (ls' := [.ref xSCR, .ref 0, .ref 131, .int v3]) (st' := [.ref 0]) rfl ?_
  obtain ⟨q206, eq206, h⟩ := xbind_some h
  refine xcallV rfl xsh0 rfl rfl rfl (Nat.le_of_ble_eq_true rfl) (Nat.le_of_ble_eq_true rfl) (Nat.le_of_ble_eq_true rfl) rfl (g_H_loose (d := d + 31) _ eq206) ?_
  refine xeb 1 (pc' := 1048) (ls' := [.ref xSCR, .ref 0, .ref 131, .int v3]) (st' := [.ref 131, .int q206]) rfl ?_
  obtain ⟨q207, eq207, h⟩ := xbind_some h
  refine xcallV rfl xsh131 rfl rfl rfl (Nat.le_of_ble_eq_true rfl) (Nat.le_of_ble_eq_true rfl) (Nat.le_of_ble_eq_true rfl) rfl (g_M_loose (d := d + 29) _ eq207) ?_
  by_cases c208 : q206 = q207.1
  · rw [if_pos c208] at h
    refine xei_eq_t rfl c208 ?_
    refine xeb 2 (pc' := 18) (ls' := [.ref xSCR, .ref 0, .ref 131, .int (v3 + 7)]) (st' := []) rfl ?_
    exact hk18 (v3 + 7) q207.2 L h
  · rw [if_neg c208] at h
    refine xei_eq_f rfl c208 ?_
    refine xeb 1 (pc' := 1055) (ls' := [.ref xSCR, .ref 0, .ref 131, .int v3]) (st' := [.int 0]) rfl ?_
    obtain rfl := Option.some.inj h
    exact xeiret rfl rfl
noncomputable def f_law_1056 (X : XX) (F : Nat) (k18 : Int32 → XI → XL → Option (Int32 × XI × XL)) (v3 : Int32) (I : XI) (L : XL) : Option (Int32 × XI × XL) :=
  (f_H_empire F I).bind fun q210 => (f_M_empire F q210.2).bind fun q211 => if q210.1 = q211.1 then (k18 (v3 + 7) q211.2 L) else (some (0, q211.2, L))
theorem g_law_1056 {X : XX} {d : Nat} {F : Nat} {k18 : Int32 → XI → XL → Option (Int32 × XI × XL)}  {r : Int32 × XI × XL} (hk18 : ∀ (v3 : Int32) (I : XI) (L : XL), k18 v3 I L = some r → xEv X (d + 36) 294 18 [.ref xSCR, .ref 0, .ref 131, .int v3] [] I L (some (.int r.1)) r.2.1 r.2.2) {v3 : Int32} {I : XI} {L : XL} (h : f_law_1056 X F k18 v3 I L = some r)  : xEv X (d + 36) 294 1056 [.ref xSCR, .ref 0, .ref 131, .int v3] [] I L (some (.int r.1)) r.2.1 r.2.2 := by
  rw [f_law_1056] at h
  refine xeb 1 (pc' := 1057) (ls' := [.ref xSCR, .ref 0, .ref 131, .int v3]) (st' := [.ref 0]) rfl ?_
  obtain ⟨q210, eq210, h⟩ := xbind_some h
  refine xcallV rfl xsh0 rfl rfl rfl (Nat.le_of_ble_eq_true rfl) (Nat.le_of_ble_eq_true rfl) (Nat.le_of_ble_eq_true rfl) rfl (g_H_empire (d := d + 31) _ eq210) ?_
  refine xeb 1 (pc' := 1061) (ls' := [.ref xSCR, .ref 0, .ref 131, .int v3]) (st' := [.ref 131, .int q210.1]) rfl ?_
  obtain ⟨q211, eq211, h⟩ := xbind_some h
  refine xcallV rfl xsh131 rfl rfl rfl (Nat.le_of_ble_eq_true rfl) (Nat.le_of_ble_eq_true rfl) (Nat.le_of_ble_eq_true rfl) rfl (g_M_empire (d := d + 29) _ eq211) ?_
  by_cases c212 : q210.1 = q211.1
  · rw [if_pos c212] at h
    refine xei_eq_t rfl c212 ?_
    refine xeb 2 (pc' := 18) (ls' := [.ref xSCR, .ref 0, .ref 131, .int (v3 + 7)]) (st' := []) rfl ?_
    exact hk18 (v3 + 7) q211.2 L h
  · rw [if_neg c212] at h
    refine xei_eq_f rfl c212 ?_
    refine xeb 1 (pc' := 1068) (ls' := [.ref xSCR, .ref 0, .ref 131, .int v3]) (st' := [.int 0]) rfl ?_
    obtain rfl := Option.some.inj h
    exact xeiret rfl rfl
noncomputable def f_law_1069 (X : XX) (F : Nat) (k18 : Int32 → XI → XL → Option (Int32 × XI × XL)) (v3 : Int32) (I : XI) (L : XL) : Option (Int32 × XI × XL) :=
  xck (xin (v3 + 1) X.1) ((f_H_liesIn F (X.2 (xN (v3 + 1))) I).bind fun q215 => xck (xin (v3 + 1) X.1) ((f_M_liesIn F (X.2 (xN (v3 + 1))) q215.2).bind fun q217 => if q215.1 = q217.1 then (k18 (v3 + 7) q217.2 L) else (some (0, q217.2, L))))
theorem g_law_1069 {X : XX} {d : Nat} {F : Nat} {k18 : Int32 → XI → XL → Option (Int32 × XI × XL)}  {r : Int32 × XI × XL} (hk18 : ∀ (v3 : Int32) (I : XI) (L : XL), k18 v3 I L = some r → xEv X (d + 36) 294 18 [.ref xSCR, .ref 0, .ref 131, .int v3] [] I L (some (.int r.1)) r.2.1 r.2.2) {v3 : Int32} {I : XI} {L : XL} (h : f_law_1069 X F k18 v3 I L = some r)  : xEv X (d + 36) 294 1069 [.ref xSCR, .ref 0, .ref 131, .int v3] [] I L (some (.int r.1)) r.2.1 r.2.2 := by
  rw [f_law_1069] at h
  refine xeb 5 (pc' := 1074) (ls' := [.ref xSCR, .ref 0, .ref 131, .int v3]) (st' := [.int (v3 + 1), .ref xSCR, .ref 0]) rfl ?_
  obtain ⟨b214, h⟩ := xck_some h
  refine xeiaX rfl b214 ?_
  obtain ⟨q215, eq215, h⟩ := xbind_some h
  refine xcallV rfl xsh0 rfl rfl rfl (Nat.le_of_ble_eq_true rfl) (Nat.le_of_ble_eq_true rfl) (Nat.le_of_ble_eq_true rfl) rfl (g_H_liesIn (d := d + 28) _ eq215) ?_
  refine xeb 5 (pc' := 1083) (ls' := [.ref xSCR, .ref 0, .ref 131, .int v3]) (st' := [.int (v3 + 1), .ref xSCR, .ref 131, .int q215.1]) rfl ?_
  obtain ⟨b216, h⟩ := xck_some h
  refine xeiaX rfl b216 ?_
  obtain ⟨q217, eq217, h⟩ := xbind_some h
  refine xcallV rfl xsh131 rfl rfl rfl (Nat.le_of_ble_eq_true rfl) (Nat.le_of_ble_eq_true rfl) (Nat.le_of_ble_eq_true rfl) rfl (g_M_liesIn (d := d + 26) _ eq217) ?_
  by_cases c218 : q215.1 = q217.1
  · rw [if_pos c218] at h
    refine xei_eq_t rfl c218 ?_
    refine xeb 2 (pc' := 18) (ls' := [.ref xSCR, .ref 0, .ref 131, .int (v3 + 7)]) (st' := []) rfl ?_
    exact hk18 (v3 + 7) q217.2 L h
  · rw [if_neg c218] at h
    refine xei_eq_f rfl c218 ?_
    refine xeb 1 (pc' := 1091) (ls' := [.ref xSCR, .ref 0, .ref 131, .int v3]) (st' := [.int 0]) rfl ?_
    obtain rfl := Option.some.inj h
    exact xeiret rfl rfl
noncomputable def f_law_1092 (X : XX) (F : Nat) (k18 : Int32 → XI → XL → Option (Int32 × XI × XL)) (v3 : Int32) (I : XI) (L : XL) : Option (Int32 × XI × XL) :=
  xck (xin (v3 + 1) X.1) ((f_H_taxIn F (X.2 (xN (v3 + 1))) I).bind fun q221 => xck (xin (v3 + 1) X.1) ((f_M_taxIn F (X.2 (xN (v3 + 1))) q221.2).bind fun q223 => if q221.1 = q223.1 then (k18 (v3 + 7) q223.2 L) else (some (0, q223.2, L))))
theorem g_law_1092 {X : XX} {d : Nat} {F : Nat} {k18 : Int32 → XI → XL → Option (Int32 × XI × XL)}  {r : Int32 × XI × XL} (hk18 : ∀ (v3 : Int32) (I : XI) (L : XL), k18 v3 I L = some r → xEv X (d + 36) 294 18 [.ref xSCR, .ref 0, .ref 131, .int v3] [] I L (some (.int r.1)) r.2.1 r.2.2) {v3 : Int32} {I : XI} {L : XL} (h : f_law_1092 X F k18 v3 I L = some r)  : xEv X (d + 36) 294 1092 [.ref xSCR, .ref 0, .ref 131, .int v3] [] I L (some (.int r.1)) r.2.1 r.2.2 := by
  rw [f_law_1092] at h
  refine xeb 5 (pc' := 1097) (ls' := [.ref xSCR, .ref 0, .ref 131, .int v3]) (st' := [.int (v3 + 1), .ref xSCR, .ref 0]) rfl ?_
  obtain ⟨b220, h⟩ := xck_some h
  refine xeiaX rfl b220 ?_
  obtain ⟨q221, eq221, h⟩ := xbind_some h
  refine xcallV rfl xsh0 rfl rfl rfl (Nat.le_of_ble_eq_true rfl) (Nat.le_of_ble_eq_true rfl) (Nat.le_of_ble_eq_true rfl) rfl (g_H_taxIn (d := d + 28) _ eq221) ?_
  refine xeb 5 (pc' := 1106) (ls' := [.ref xSCR, .ref 0, .ref 131, .int v3]) (st' := [.int (v3 + 1), .ref xSCR, .ref 131, .int q221.1]) rfl ?_
  obtain ⟨b222, h⟩ := xck_some h
  refine xeiaX rfl b222 ?_
  obtain ⟨q223, eq223, h⟩ := xbind_some h
  refine xcallV rfl xsh131 rfl rfl rfl (Nat.le_of_ble_eq_true rfl) (Nat.le_of_ble_eq_true rfl) (Nat.le_of_ble_eq_true rfl) rfl (g_M_taxIn (d := d + 26) _ eq223) ?_
  by_cases c224 : q221.1 = q223.1
  · rw [if_pos c224] at h
    refine xei_eq_t rfl c224 ?_
    refine xeb 2 (pc' := 18) (ls' := [.ref xSCR, .ref 0, .ref 131, .int (v3 + 7)]) (st' := []) rfl ?_
    exact hk18 (v3 + 7) q223.2 L h
  · rw [if_neg c224] at h
    refine xei_eq_f rfl c224 ?_
    refine xeb 1 (pc' := 1114) (ls' := [.ref xSCR, .ref 0, .ref 131, .int v3]) (st' := [.int 0]) rfl ?_
    obtain rfl := Option.some.inj h
    exact xeiret rfl rfl
noncomputable def f_law_1115 (X : XX) (F : Nat) (k18 : Int32 → XI → XL → Option (Int32 × XI × XL)) (v3 : Int32) (I : XI) (L : XL) : Option (Int32 × XI × XL) :=
  xck (xin (v3 + 1) X.1) (xck (xin (v3 + 2) X.1) ((f_H_stays F (X.2 (xN (v3 + 1))) (X.2 (xN (v3 + 2))) I).bind fun q228 => xck (xin (v3 + 1) X.1) (xck (xin (v3 + 2) X.1) ((f_M_stays F (X.2 (xN (v3 + 1))) (X.2 (xN (v3 + 2))) q228.2).bind fun q231 => if q228.1 = q231.1 then (k18 (v3 + 7) q231.2 L) else (some (0, q231.2, L))))))
theorem g_law_1115 {X : XX} {d : Nat} {F : Nat} {k18 : Int32 → XI → XL → Option (Int32 × XI × XL)}  {r : Int32 × XI × XL} (hk18 : ∀ (v3 : Int32) (I : XI) (L : XL), k18 v3 I L = some r → xEv X (d + 36) 294 18 [.ref xSCR, .ref 0, .ref 131, .int v3] [] I L (some (.int r.1)) r.2.1 r.2.2) {v3 : Int32} {I : XI} {L : XL} (h : f_law_1115 X F k18 v3 I L = some r)  : xEv X (d + 36) 294 1115 [.ref xSCR, .ref 0, .ref 131, .int v3] [] I L (some (.int r.1)) r.2.1 r.2.2 := by
  rw [f_law_1115] at h
  refine xeb 5 (pc' := 1120) (ls' := [.ref xSCR, .ref 0, .ref 131, .int v3]) (st' := [.int (v3 + 1), .ref xSCR, .ref 0]) rfl ?_
  obtain ⟨b226, h⟩ := xck_some h
  refine xeiaX rfl b226 ?_
  refine xeb 4 (pc' := 1125) (ls' := [.ref xSCR, .ref 0, .ref 131, .int v3]) (st' := [.int (v3 + 2), .ref xSCR, .int (X.2 (xN (v3 + 1))), .ref 0]) rfl ?_
  obtain ⟨b227, h⟩ := xck_some h
  refine xeiaX rfl b227 ?_
  obtain ⟨q228, eq228, h⟩ := xbind_some h
  refine xcallV rfl xsh0 rfl rfl rfl (Nat.le_of_ble_eq_true rfl) (Nat.le_of_ble_eq_true rfl) (Nat.le_of_ble_eq_true rfl) rfl (g_H_stays (d := d + 28) _ eq228) ?_
  refine xeb 5 (pc' := 1134) (ls' := [.ref xSCR, .ref 0, .ref 131, .int v3]) (st' := [.int (v3 + 1), .ref xSCR, .ref 131, .int q228.1]) rfl ?_
  obtain ⟨b229, h⟩ := xck_some h
  refine xeiaX rfl b229 ?_
  refine xeb 4 (pc' := 1139) (ls' := [.ref xSCR, .ref 0, .ref 131, .int v3]) (st' := [.int (v3 + 2), .ref xSCR, .int (X.2 (xN (v3 + 1))), .ref 131, .int q228.1]) rfl ?_
  obtain ⟨b230, h⟩ := xck_some h
  refine xeiaX rfl b230 ?_
  obtain ⟨q231, eq231, h⟩ := xbind_some h
  refine xcallV rfl xsh131 rfl rfl rfl (Nat.le_of_ble_eq_true rfl) (Nat.le_of_ble_eq_true rfl) (Nat.le_of_ble_eq_true rfl) rfl (g_M_stays (d := d + 27) _ eq231) ?_
  by_cases c232 : q228.1 = q231.1
  · rw [if_pos c232] at h
    refine xei_eq_t rfl c232 ?_
    refine xeb 2 (pc' := 18) (ls' := [.ref xSCR, .ref 0, .ref 131, .int (v3 + 7)]) (st' := []) rfl ?_
    exact hk18 (v3 + 7) q231.2 L h
  · rw [if_neg c232] at h
    refine xei_eq_f rfl c232 ?_
    refine xeb 1 (pc' := 1147) (ls' := [.ref xSCR, .ref 0, .ref 131, .int v3]) (st' := [.int 0]) rfl ?_
    obtain rfl := Option.some.inj h
    exact xeiret rfl rfl
noncomputable def f_law_1148 (X : XX) (F : Nat) (k18 : Int32 → XI → XL → Option (Int32 × XI × XL)) (v3 : Int32) (I : XI) (L : XL) : Option (Int32 × XI × XL) :=
  (f_H_wetter F I).bind fun q234 => (f_M_wetter F q234.2).bind fun q235 => if q234.1 = q235.1 then (k18 (v3 + 7) q235.2 L) else (some (0, q235.2, L))
theorem g_law_1148 {X : XX} {d : Nat} {F : Nat} {k18 : Int32 → XI → XL → Option (Int32 × XI × XL)}  {r : Int32 × XI × XL} (hk18 : ∀ (v3 : Int32) (I : XI) (L : XL), k18 v3 I L = some r → xEv X (d + 36) 294 18 [.ref xSCR, .ref 0, .ref 131, .int v3] [] I L (some (.int r.1)) r.2.1 r.2.2) {v3 : Int32} {I : XI} {L : XL} (h : f_law_1148 X F k18 v3 I L = some r)  : xEv X (d + 36) 294 1148 [.ref xSCR, .ref 0, .ref 131, .int v3] [] I L (some (.int r.1)) r.2.1 r.2.2 := by
  rw [f_law_1148] at h
  refine xeb 1 (pc' := 1149) (ls' := [.ref xSCR, .ref 0, .ref 131, .int v3]) (st' := [.ref 0]) rfl ?_
  obtain ⟨q234, eq234, h⟩ := xbind_some h
  refine xcallV rfl xsh0 rfl rfl rfl (Nat.le_of_ble_eq_true rfl) (Nat.le_of_ble_eq_true rfl) (Nat.le_of_ble_eq_true rfl) rfl (g_H_wetter (d := d + 32) _ eq234) ?_
  refine xeb 1 (pc' := 1153) (ls' := [.ref xSCR, .ref 0, .ref 131, .int v3]) (st' := [.ref 131, .int q234.1]) rfl ?_
  obtain ⟨q235, eq235, h⟩ := xbind_some h
  refine xcallV rfl xsh131 rfl rfl rfl (Nat.le_of_ble_eq_true rfl) (Nat.le_of_ble_eq_true rfl) (Nat.le_of_ble_eq_true rfl) rfl (g_M_wetter (d := d + 32) _ eq235) ?_
  by_cases c236 : q234.1 = q235.1
  · rw [if_pos c236] at h
    refine xei_eq_t rfl c236 ?_
    refine xeb 2 (pc' := 18) (ls' := [.ref xSCR, .ref 0, .ref 131, .int (v3 + 7)]) (st' := []) rfl ?_
    exact hk18 (v3 + 7) q235.2 L h
  · rw [if_neg c236] at h
    refine xei_eq_f rfl c236 ?_
    refine xeb 1 (pc' := 1160) (ls' := [.ref xSCR, .ref 0, .ref 131, .int v3]) (st' := [.int 0]) rfl ?_
    obtain rfl := Option.some.inj h
    exact xeiret rfl rfl
noncomputable def f_law_1161 (X : XX) (F : Nat) (k18 : Int32 → XI → XL → Option (Int32 × XI × XL)) (v3 : Int32) (I : XI) (L : XL) : Option (Int32 × XI × XL) :=
  xck (xin (v3 + 1) X.1) (xck (xin (v3 + 2) X.1) (xck (xin (v3 + 3) X.1) (xck (xin (v3 + 4) X.1) (xck (xin (v3 + 5) X.1) (xck (xin (v3 + 6) X.1) ((f_H_year F (X.2 (xN (v3 + 1))) (X.2 (xN (v3 + 2))) (X.2 (xN (v3 + 3))) (X.2 (xN (v3 + 4))) (X.2 (xN (v3 + 5))) (X.2 (xN (v3 + 6))) I).bind fun q244 => xck (xin (v3 + 1) X.1) (xck (xin (v3 + 2) X.1) (xck (xin (v3 + 3) X.1) (xck (xin (v3 + 4) X.1) (xck (xin (v3 + 5) X.1) (xck (xin (v3 + 6) X.1) ((f_M_year F (X.2 (xN (v3 + 1))) (X.2 (xN (v3 + 2))) (X.2 (xN (v3 + 3))) (X.2 (xN (v3 + 4))) (X.2 (xN (v3 + 5))) (X.2 (xN (v3 + 6))) q244.2).bind fun q251 => if q244.1 = q251.1 then (k18 (v3 + 7) q251.2 L) else (some (0, q251.2, L))))))))))))))
theorem g_law_1161 {X : XX} {d : Nat} {F : Nat} {k18 : Int32 → XI → XL → Option (Int32 × XI × XL)}  {r : Int32 × XI × XL} (hk18 : ∀ (v3 : Int32) (I : XI) (L : XL), k18 v3 I L = some r → xEv X (d + 36) 294 18 [.ref xSCR, .ref 0, .ref 131, .int v3] [] I L (some (.int r.1)) r.2.1 r.2.2) {v3 : Int32} {I : XI} {L : XL} (h : f_law_1161 X F k18 v3 I L = some r)  : xEv X (d + 36) 294 1161 [.ref xSCR, .ref 0, .ref 131, .int v3] [] I L (some (.int r.1)) r.2.1 r.2.2 := by
  rw [f_law_1161] at h
  refine xeb 5 (pc' := 1166) (ls' := [.ref xSCR, .ref 0, .ref 131, .int v3]) (st' := [.int (v3 + 1), .ref xSCR, .ref 0]) rfl ?_
  obtain ⟨b238, h⟩ := xck_some h
  refine xeiaX rfl b238 ?_
  refine xeb 4 (pc' := 1171) (ls' := [.ref xSCR, .ref 0, .ref 131, .int v3]) (st' := [.int (v3 + 2), .ref xSCR, .int (X.2 (xN (v3 + 1))), .ref 0]) rfl ?_
  obtain ⟨b239, h⟩ := xck_some h
  refine xeiaX rfl b239 ?_
  refine xeb 4 (pc' := 1176) (ls' := [.ref xSCR, .ref 0, .ref 131, .int v3]) (st' := [.int (v3 + 3), .ref xSCR, .int (X.2 (xN (v3 + 2))), .int (X.2 (xN (v3 + 1))), .ref 0]) rfl ?_
  obtain ⟨b240, h⟩ := xck_some h
  refine xeiaX rfl b240 ?_
  refine xeb 4 (pc' := 1181) (ls' := [.ref xSCR, .ref 0, .ref 131, .int v3]) (st' := [.int (v3 + 4), .ref xSCR, .int (X.2 (xN (v3 + 3))), .int (X.2 (xN (v3 + 2))), .int (X.2 (xN (v3 + 1))), .ref 0]) rfl ?_
  obtain ⟨b241, h⟩ := xck_some h
  refine xeiaX rfl b241 ?_
  refine xeb 4 (pc' := 1186) (ls' := [.ref xSCR, .ref 0, .ref 131, .int v3]) (st' := [.int (v3 + 5), .ref xSCR, .int (X.2 (xN (v3 + 4))), .int (X.2 (xN (v3 + 3))), .int (X.2 (xN (v3 + 2))), .int (X.2 (xN (v3 + 1))), .ref 0]) rfl ?_
  obtain ⟨b242, h⟩ := xck_some h
  refine xeiaX rfl b242 ?_
  refine xeb 4 (pc' := 1192) (ls' := [.ref xSCR, .ref 0, .ref 131, .int v3]) (st' := [.int (v3 + 6), .ref xSCR, .int (X.2 (xN (v3 + 5))), .int (X.2 (xN (v3 + 4))), .int (X.2 (xN (v3 + 3))), .int (X.2 (xN (v3 + 2))), .int (X.2 (xN (v3 + 1))), .ref 0]) rfl ?_
  obtain ⟨b243, h⟩ := xck_some h
  refine xeiaX rfl b243 ?_
  obtain ⟨q244, eq244, h⟩ := xbind_some h
  refine xcallV rfl xsh0 rfl rfl rfl (Nat.le_of_ble_eq_true rfl) (Nat.le_of_ble_eq_true rfl) (Nat.le_of_ble_eq_true rfl) rfl (g_H_year (d := d + 28) _ eq244) ?_
  refine xeb 5 (pc' := 1201) (ls' := [.ref xSCR, .ref 0, .ref 131, .int v3]) (st' := [.int (v3 + 1), .ref xSCR, .ref 131, .int q244.1]) rfl ?_
  obtain ⟨b245, h⟩ := xck_some h
  refine xeiaX rfl b245 ?_
  refine xeb 4 (pc' := 1206) (ls' := [.ref xSCR, .ref 0, .ref 131, .int v3]) (st' := [.int (v3 + 2), .ref xSCR, .int (X.2 (xN (v3 + 1))), .ref 131, .int q244.1]) rfl ?_
  obtain ⟨b246, h⟩ := xck_some h
  refine xeiaX rfl b246 ?_
  refine xeb 4 (pc' := 1211) (ls' := [.ref xSCR, .ref 0, .ref 131, .int v3]) (st' := [.int (v3 + 3), .ref xSCR, .int (X.2 (xN (v3 + 2))), .int (X.2 (xN (v3 + 1))), .ref 131, .int q244.1]) rfl ?_
  obtain ⟨b247, h⟩ := xck_some h
  refine xeiaX rfl b247 ?_
  refine xeb 4 (pc' := 1216) (ls' := [.ref xSCR, .ref 0, .ref 131, .int v3]) (st' := [.int (v3 + 4), .ref xSCR, .int (X.2 (xN (v3 + 3))), .int (X.2 (xN (v3 + 2))), .int (X.2 (xN (v3 + 1))), .ref 131, .int q244.1]) rfl ?_
  obtain ⟨b248, h⟩ := xck_some h
  refine xeiaX rfl b248 ?_
  refine xeb 4 (pc' := 1221) (ls' := [.ref xSCR, .ref 0, .ref 131, .int v3]) (st' := [.int (v3 + 5), .ref xSCR, .int (X.2 (xN (v3 + 4))), .int (X.2 (xN (v3 + 3))), .int (X.2 (xN (v3 + 2))), .int (X.2 (xN (v3 + 1))), .ref 131, .int q244.1]) rfl ?_
  obtain ⟨b249, h⟩ := xck_some h
  refine xeiaX rfl b249 ?_
  refine xeb 4 (pc' := 1227) (ls' := [.ref xSCR, .ref 0, .ref 131, .int v3]) (st' := [.int (v3 + 6), .ref xSCR, .int (X.2 (xN (v3 + 5))), .int (X.2 (xN (v3 + 4))), .int (X.2 (xN (v3 + 3))), .int (X.2 (xN (v3 + 2))), .int (X.2 (xN (v3 + 1))), .ref 131, .int q244.1]) rfl ?_
  obtain ⟨b250, h⟩ := xck_some h
  refine xeiaX rfl b250 ?_
  obtain ⟨q251, eq251, h⟩ := xbind_some h
  refine xcallV rfl xsh131 rfl rfl rfl (Nat.le_of_ble_eq_true rfl) (Nat.le_of_ble_eq_true rfl) (Nat.le_of_ble_eq_true rfl) rfl (g_M_year (d := d + 26) _ eq251) ?_
  by_cases c252 : q244.1 = q251.1
  · rw [if_pos c252] at h
    refine xei_eq_t rfl c252 ?_
    refine xeb 2 (pc' := 18) (ls' := [.ref xSCR, .ref 0, .ref 131, .int (v3 + 7)]) (st' := []) rfl ?_
    exact hk18 (v3 + 7) q251.2 L h
  · rw [if_neg c252] at h
    refine xei_eq_f rfl c252 ?_
    refine xeb 1 (pc' := 1235) (ls' := [.ref xSCR, .ref 0, .ref 131, .int v3]) (st' := [.int 0]) rfl ?_
    obtain rfl := Option.some.inj h
    exact xeiret rfl rfl
noncomputable def f_law_1236 (X : XX) (F : Nat) (k18 : Int32 → XI → XL → Option (Int32 × XI × XL)) (v3 : Int32) (I : XI) (L : XL) : Option (Int32 × XI × XL) :=
  xck (xin (v3 + 1) X.1) (xck (xin (v3 + 2) X.1) ((f_H_tell (X.2 (xN (v3 + 1))) (X.2 (xN (v3 + 2))) I).bind fun q256 => xck (xin (v3 + 1) X.1) (xck (xin (v3 + 2) X.1) ((f_M_tell (X.2 (xN (v3 + 1))) (X.2 (xN (v3 + 2))) q256.2).bind fun q259 => if q256.1 = q259.1 then (k18 (v3 + 7) q259.2 L) else (some (0, q259.2, L))))))
theorem g_law_1236 {X : XX} {d : Nat} {F : Nat} {k18 : Int32 → XI → XL → Option (Int32 × XI × XL)}  {r : Int32 × XI × XL} (hk18 : ∀ (v3 : Int32) (I : XI) (L : XL), k18 v3 I L = some r → xEv X (d + 36) 294 18 [.ref xSCR, .ref 0, .ref 131, .int v3] [] I L (some (.int r.1)) r.2.1 r.2.2) {v3 : Int32} {I : XI} {L : XL} (h : f_law_1236 X F k18 v3 I L = some r)  : xEv X (d + 36) 294 1236 [.ref xSCR, .ref 0, .ref 131, .int v3] [] I L (some (.int r.1)) r.2.1 r.2.2 := by
  rw [f_law_1236] at h
  refine xeb 5 (pc' := 1241) (ls' := [.ref xSCR, .ref 0, .ref 131, .int v3]) (st' := [.int (v3 + 1), .ref xSCR, .ref 0]) rfl ?_
  obtain ⟨b254, h⟩ := xck_some h
  refine xeiaX rfl b254 ?_
  refine xeb 4 (pc' := 1246) (ls' := [.ref xSCR, .ref 0, .ref 131, .int v3]) (st' := [.int (v3 + 2), .ref xSCR, .int (X.2 (xN (v3 + 1))), .ref 0]) rfl ?_
  obtain ⟨b255, h⟩ := xck_some h
  refine xeiaX rfl b255 ?_
  obtain ⟨q256, eq256, h⟩ := xbind_some h
  refine xcallV rfl xsh0 rfl rfl rfl (Nat.le_of_ble_eq_true rfl) (Nat.le_of_ble_eq_true rfl) (Nat.le_of_ble_eq_true rfl) rfl (g_H_tell (d := d + 34) _ eq256) ?_
  refine xeb 5 (pc' := 1255) (ls' := [.ref xSCR, .ref 0, .ref 131, .int v3]) (st' := [.int (v3 + 1), .ref xSCR, .ref 131, .int q256.1]) rfl ?_
  obtain ⟨b257, h⟩ := xck_some h
  refine xeiaX rfl b257 ?_
  refine xeb 4 (pc' := 1260) (ls' := [.ref xSCR, .ref 0, .ref 131, .int v3]) (st' := [.int (v3 + 2), .ref xSCR, .int (X.2 (xN (v3 + 1))), .ref 131, .int q256.1]) rfl ?_
  obtain ⟨b258, h⟩ := xck_some h
  refine xeiaX rfl b258 ?_
  obtain ⟨q259, eq259, h⟩ := xbind_some h
  refine xcallV rfl xsh131 rfl rfl rfl (Nat.le_of_ble_eq_true rfl) (Nat.le_of_ble_eq_true rfl) (Nat.le_of_ble_eq_true rfl) rfl (g_M_tell (d := d + 33) _ eq259) ?_
  by_cases c260 : q256.1 = q259.1
  · rw [if_pos c260] at h
    refine xei_eq_t rfl c260 ?_
    refine xeb 2 (pc' := 18) (ls' := [.ref xSCR, .ref 0, .ref 131, .int (v3 + 7)]) (st' := []) rfl ?_
    exact hk18 (v3 + 7) q259.2 L h
  · rw [if_neg c260] at h
    refine xei_eq_f rfl c260 ?_
    refine xeb 1 (pc' := 1268) (ls' := [.ref xSCR, .ref 0, .ref 131, .int v3]) (st' := [.int 0]) rfl ?_
    obtain rfl := Option.some.inj h
    exact xeiret rfl rfl
noncomputable def f_law_1269 (X : XX) (F : Nat) (k18 : Int32 → XI → XL → Option (Int32 × XI × XL)) (v3 : Int32) (I : XI) (L : XL) : Option (Int32 × XI × XL) :=
  (f_H_forget I).bind fun q262 => (f_M_forget q262.2).bind fun q263 => if q262.1 = q263.1 then (k18 (v3 + 7) q263.2 L) else (some (0, q263.2, L))
theorem g_law_1269 {X : XX} {d : Nat} {F : Nat} {k18 : Int32 → XI → XL → Option (Int32 × XI × XL)}  {r : Int32 × XI × XL} (hk18 : ∀ (v3 : Int32) (I : XI) (L : XL), k18 v3 I L = some r → xEv X (d + 36) 294 18 [.ref xSCR, .ref 0, .ref 131, .int v3] [] I L (some (.int r.1)) r.2.1 r.2.2) {v3 : Int32} {I : XI} {L : XL} (h : f_law_1269 X F k18 v3 I L = some r)  : xEv X (d + 36) 294 1269 [.ref xSCR, .ref 0, .ref 131, .int v3] [] I L (some (.int r.1)) r.2.1 r.2.2 := by
  rw [f_law_1269] at h
  refine xeb 1 (pc' := 1270) (ls' := [.ref xSCR, .ref 0, .ref 131, .int v3]) (st' := [.ref 0]) rfl ?_
  obtain ⟨q262, eq262, h⟩ := xbind_some h
  refine xcallV rfl xsh0 rfl rfl rfl (Nat.le_of_ble_eq_true rfl) (Nat.le_of_ble_eq_true rfl) (Nat.le_of_ble_eq_true rfl) rfl (g_H_forget (d := d + 35) _ eq262) ?_
  refine xeb 1 (pc' := 1274) (ls' := [.ref xSCR, .ref 0, .ref 131, .int v3]) (st' := [.ref 131, .int q262.1]) rfl ?_
  obtain ⟨q263, eq263, h⟩ := xbind_some h
  refine xcallV rfl xsh131 rfl rfl rfl (Nat.le_of_ble_eq_true rfl) (Nat.le_of_ble_eq_true rfl) (Nat.le_of_ble_eq_true rfl) rfl (g_M_forget (d := d + 35) _ eq263) ?_
  by_cases c264 : q262.1 = q263.1
  · rw [if_pos c264] at h
    refine xei_eq_t rfl c264 ?_
    refine xeb 2 (pc' := 18) (ls' := [.ref xSCR, .ref 0, .ref 131, .int (v3 + 7)]) (st' := []) rfl ?_
    exact hk18 (v3 + 7) q263.2 L h
  · rw [if_neg c264] at h
    refine xei_eq_f rfl c264 ?_
    refine xeb 1 (pc' := 1281) (ls' := [.ref xSCR, .ref 0, .ref 131, .int v3]) (st' := [.int 0]) rfl ?_
    obtain rfl := Option.some.inj h
    exact xeiret rfl rfl
noncomputable def f_law_1282 (X : XX) (F : Nat) (k18 : Int32 → XI → XL → Option (Int32 × XI × XL)) (v3 : Int32) (I : XI) (L : XL) : Option (Int32 × XI × XL) :=
  xck (xin (v3 + 1) X.1) ((f_H_missing F I (X.2 (xN (v3 + 1)))).bind fun q267 => xck (xin (v3 + 1) X.1) ((f_M_missing F I (X.2 (xN (v3 + 1)))).bind fun q269 => if q267 = q269 then (k18 (v3 + 7) I L) else (some (0, I, L))))
theorem g_law_1282 {X : XX} {d : Nat} {F : Nat} {k18 : Int32 → XI → XL → Option (Int32 × XI × XL)}  {r : Int32 × XI × XL} (hk18 : ∀ (v3 : Int32) (I : XI) (L : XL), k18 v3 I L = some r → xEv X (d + 36) 294 18 [.ref xSCR, .ref 0, .ref 131, .int v3] [] I L (some (.int r.1)) r.2.1 r.2.2) {v3 : Int32} {I : XI} {L : XL} (h : f_law_1282 X F k18 v3 I L = some r)  : xEv X (d + 36) 294 1282 [.ref xSCR, .ref 0, .ref 131, .int v3] [] I L (some (.int r.1)) r.2.1 r.2.2 := by
  rw [f_law_1282] at h
  refine xeb 5 (pc' := 1287) (ls' := [.ref xSCR, .ref 0, .ref 131, .int v3]) (st' := [.int (v3 + 1), .ref xSCR, .ref 0]) rfl ?_
  obtain ⟨b266, h⟩ := xck_some h
  refine xeiaX rfl b266 ?_
  obtain ⟨q267, eq267, h⟩ := xbind_some h
  refine xcallV rfl xsh0 rfl rfl rfl (Nat.le_of_ble_eq_true rfl) (Nat.le_of_ble_eq_true rfl) (Nat.le_of_ble_eq_true rfl) rfl (g_H_missing (d := d + 31) _ eq267) ?_
  refine xeb 5 (pc' := 1296) (ls' := [.ref xSCR, .ref 0, .ref 131, .int v3]) (st' := [.int (v3 + 1), .ref xSCR, .ref 131, .int q267]) rfl ?_
  obtain ⟨b268, h⟩ := xck_some h
  refine xeiaX rfl b268 ?_
  obtain ⟨q269, eq269, h⟩ := xbind_some h
  refine xcallV rfl xsh131 rfl rfl rfl (Nat.le_of_ble_eq_true rfl) (Nat.le_of_ble_eq_true rfl) (Nat.le_of_ble_eq_true rfl) rfl (g_M_missing (d := d + 33) _ eq269) ?_
  by_cases c270 : q267 = q269
  · rw [if_pos c270] at h
    refine xei_eq_t rfl c270 ?_
    refine xeb 2 (pc' := 18) (ls' := [.ref xSCR, .ref 0, .ref 131, .int (v3 + 7)]) (st' := []) rfl ?_
    exact hk18 (v3 + 7) I L h
  · rw [if_neg c270] at h
    refine xei_eq_f rfl c270 ?_
    refine xeb 1 (pc' := 1304) (ls' := [.ref xSCR, .ref 0, .ref 131, .int v3]) (st' := [.int 0]) rfl ?_
    obtain rfl := Option.some.inj h
    exact xeiret rfl rfl
noncomputable def f_law_1305 (X : XX) (F : Nat) (k18 : Int32 → XI → XL → Option (Int32 × XI × XL)) (v3 : Int32) (I : XI) (L : XL) : Option (Int32 × XI × XL) :=
  xck (xin (v3 + 1) X.1) ((f_H_sure F I (X.2 (xN (v3 + 1)))).bind fun q273 => xck (xin (v3 + 1) X.1) ((f_M_sure F I (X.2 (xN (v3 + 1)))).bind fun q275 => if q273 = q275 then (k18 (v3 + 7) I L) else (some (0, I, L))))
theorem g_law_1305 {X : XX} {d : Nat} {F : Nat} {k18 : Int32 → XI → XL → Option (Int32 × XI × XL)}  {r : Int32 × XI × XL} (hk18 : ∀ (v3 : Int32) (I : XI) (L : XL), k18 v3 I L = some r → xEv X (d + 36) 294 18 [.ref xSCR, .ref 0, .ref 131, .int v3] [] I L (some (.int r.1)) r.2.1 r.2.2) {v3 : Int32} {I : XI} {L : XL} (h : f_law_1305 X F k18 v3 I L = some r)  : xEv X (d + 36) 294 1305 [.ref xSCR, .ref 0, .ref 131, .int v3] [] I L (some (.int r.1)) r.2.1 r.2.2 := by
  rw [f_law_1305] at h
  refine xeb 5 (pc' := 1310) (ls' := [.ref xSCR, .ref 0, .ref 131, .int v3]) (st' := [.int (v3 + 1), .ref xSCR, .ref 0]) rfl ?_
  obtain ⟨b272, h⟩ := xck_some h
  refine xeiaX rfl b272 ?_
  obtain ⟨q273, eq273, h⟩ := xbind_some h
  refine xcallV rfl xsh0 rfl rfl rfl (Nat.le_of_ble_eq_true rfl) (Nat.le_of_ble_eq_true rfl) (Nat.le_of_ble_eq_true rfl) rfl (g_H_sure (d := d + 31) _ eq273) ?_
  refine xeb 5 (pc' := 1319) (ls' := [.ref xSCR, .ref 0, .ref 131, .int v3]) (st' := [.int (v3 + 1), .ref xSCR, .ref 131, .int q273]) rfl ?_
  obtain ⟨b274, h⟩ := xck_some h
  refine xeiaX rfl b274 ?_
  obtain ⟨q275, eq275, h⟩ := xbind_some h
  refine xcallV rfl xsh131 rfl rfl rfl (Nat.le_of_ble_eq_true rfl) (Nat.le_of_ble_eq_true rfl) (Nat.le_of_ble_eq_true rfl) rfl (g_M_sure (d := d + 33) _ eq275) ?_
  by_cases c276 : q273 = q275
  · rw [if_pos c276] at h
    refine xei_eq_t rfl c276 ?_
    refine xeb 2 (pc' := 18) (ls' := [.ref xSCR, .ref 0, .ref 131, .int (v3 + 7)]) (st' := []) rfl ?_
    exact hk18 (v3 + 7) I L h
  · rw [if_neg c276] at h
    refine xei_eq_f rfl c276 ?_
    refine xeb 1 (pc' := 1327) (ls' := [.ref xSCR, .ref 0, .ref 131, .int v3]) (st' := [.int 0]) rfl ?_
    obtain rfl := Option.some.inj h
    exact xeiret rfl rfl
noncomputable def f_law_1328 (X : XX) (F : Nat) (k18 : Int32 → XI → XL → Option (Int32 × XI × XL)) (v3 : Int32) (I : XI) (L : XL) : Option (Int32 × XI × XL) :=
  xck (xin (v3 + 1) X.1) ((f_H_ask F (X.2 (xN (v3 + 1))) I).bind fun q279 => xck (xin (v3 + 1) X.1) ((f_M_ask F (X.2 (xN (v3 + 1))) q279.2).bind fun q281 => if q279.1 = q281.1 then (k18 (v3 + 7) q281.2 L) else (some (0, q281.2, L))))
theorem g_law_1328 {X : XX} {d : Nat} {F : Nat} {k18 : Int32 → XI → XL → Option (Int32 × XI × XL)}  {r : Int32 × XI × XL} (hk18 : ∀ (v3 : Int32) (I : XI) (L : XL), k18 v3 I L = some r → xEv X (d + 36) 294 18 [.ref xSCR, .ref 0, .ref 131, .int v3] [] I L (some (.int r.1)) r.2.1 r.2.2) {v3 : Int32} {I : XI} {L : XL} (h : f_law_1328 X F k18 v3 I L = some r)  : xEv X (d + 36) 294 1328 [.ref xSCR, .ref 0, .ref 131, .int v3] [] I L (some (.int r.1)) r.2.1 r.2.2 := by
  rw [f_law_1328] at h
  refine xeb 5 (pc' := 1333) (ls' := [.ref xSCR, .ref 0, .ref 131, .int v3]) (st' := [.int (v3 + 1), .ref xSCR, .ref 0]) rfl ?_
  obtain ⟨b278, h⟩ := xck_some h
  refine xeiaX rfl b278 ?_
  obtain ⟨q279, eq279, h⟩ := xbind_some h
  refine xcallV rfl xsh0 rfl rfl rfl (Nat.le_of_ble_eq_true rfl) (Nat.le_of_ble_eq_true rfl) (Nat.le_of_ble_eq_true rfl) rfl (g_H_ask (d := d + 30) _ eq279) ?_
  refine xeb 5 (pc' := 1342) (ls' := [.ref xSCR, .ref 0, .ref 131, .int v3]) (st' := [.int (v3 + 1), .ref xSCR, .ref 131, .int q279.1]) rfl ?_
  obtain ⟨b280, h⟩ := xck_some h
  refine xeiaX rfl b280 ?_
  obtain ⟨q281, eq281, h⟩ := xbind_some h
  refine xcallV rfl xsh131 rfl rfl rfl (Nat.le_of_ble_eq_true rfl) (Nat.le_of_ble_eq_true rfl) (Nat.le_of_ble_eq_true rfl) rfl (g_M_ask (d := d + 33) _ eq281) ?_
  by_cases c282 : q279.1 = q281.1
  · rw [if_pos c282] at h
    refine xei_eq_t rfl c282 ?_
    refine xeb 2 (pc' := 18) (ls' := [.ref xSCR, .ref 0, .ref 131, .int (v3 + 7)]) (st' := []) rfl ?_
    exact hk18 (v3 + 7) q281.2 L h
  · rw [if_neg c282] at h
    refine xei_eq_f rfl c282 ?_
    refine xeb 1 (pc' := 1350) (ls' := [.ref xSCR, .ref 0, .ref 131, .int v3]) (st' := [.int 0]) rfl ?_
    obtain rfl := Option.some.inj h
    exact xeiret rfl rfl
noncomputable def f_law_1351 (X : XX) (F : Nat) (k18 : Int32 → XI → XL → Option (Int32 × XI × XL)) (v3 : Int32) (I : XI) (L : XL) : Option (Int32 × XI × XL) :=
  xck (xin (v3 + 1) X.1) ((f_H_hold (X.2 (xN (v3 + 1))) I).bind fun q285 => xck (xin (v3 + 1) X.1) ((f_M_hold F (X.2 (xN (v3 + 1))) q285.2).bind fun q287 => if q285.1 = q287.1 then (k18 (v3 + 7) q287.2 L) else (some (0, q287.2, L))))
theorem g_law_1351 {X : XX} {d : Nat} {F : Nat} {k18 : Int32 → XI → XL → Option (Int32 × XI × XL)}  {r : Int32 × XI × XL} (hk18 : ∀ (v3 : Int32) (I : XI) (L : XL), k18 v3 I L = some r → xEv X (d + 36) 294 18 [.ref xSCR, .ref 0, .ref 131, .int v3] [] I L (some (.int r.1)) r.2.1 r.2.2) {v3 : Int32} {I : XI} {L : XL} (h : f_law_1351 X F k18 v3 I L = some r)  : xEv X (d + 36) 294 1351 [.ref xSCR, .ref 0, .ref 131, .int v3] [] I L (some (.int r.1)) r.2.1 r.2.2 := by
  rw [f_law_1351] at h
  refine xeb 5 (pc' := 1356) (ls' := [.ref xSCR, .ref 0, .ref 131, .int v3]) (st' := [.int (v3 + 1), .ref xSCR, .ref 0]) rfl ?_
  obtain ⟨b284, h⟩ := xck_some h
  refine xeiaX rfl b284 ?_
  obtain ⟨q285, eq285, h⟩ := xbind_some h
  refine xcallV rfl xsh0 rfl rfl rfl (Nat.le_of_ble_eq_true rfl) (Nat.le_of_ble_eq_true rfl) (Nat.le_of_ble_eq_true rfl) rfl (g_H_hold (d := d + 33) _ eq285) ?_
  refine xeb 5 (pc' := 1365) (ls' := [.ref xSCR, .ref 0, .ref 131, .int v3]) (st' := [.int (v3 + 1), .ref xSCR, .ref 131, .int q285.1]) rfl ?_
  obtain ⟨b286, h⟩ := xck_some h
  refine xeiaX rfl b286 ?_
  obtain ⟨q287, eq287, h⟩ := xbind_some h
  refine xcallV rfl xsh131 rfl rfl rfl (Nat.le_of_ble_eq_true rfl) (Nat.le_of_ble_eq_true rfl) (Nat.le_of_ble_eq_true rfl) rfl (g_M_hold (d := d + 34) _ eq287) ?_
  by_cases c288 : q285.1 = q287.1
  · rw [if_pos c288] at h
    refine xei_eq_t rfl c288 ?_
    refine xeb 2 (pc' := 18) (ls' := [.ref xSCR, .ref 0, .ref 131, .int (v3 + 7)]) (st' := []) rfl ?_
    exact hk18 (v3 + 7) q287.2 L h
  · rw [if_neg c288] at h
    refine xei_eq_f rfl c288 ?_
    refine xeb 1 (pc' := 1373) (ls' := [.ref xSCR, .ref 0, .ref 131, .int v3]) (st' := [.int 0]) rfl ?_
    obtain rfl := Option.some.inj h
    exact xeiret rfl rfl
noncomputable def f_law_1374 (X : XX) (F : Nat) (k18 : Int32 → XI → XL → Option (Int32 × XI × XL)) (v3 : Int32) (I : XI) (L : XL) : Option (Int32 × XI × XL) :=
  xck (xin (v3 + 1) X.1) ((f_H_restore (X.2 (xN (v3 + 1))) I).bind fun q291 => xck (xin (v3 + 1) X.1) ((f_M_restore F (X.2 (xN (v3 + 1))) q291.2).bind fun q293 => if q291.1 = q293.1 then (k18 (v3 + 7) q293.2 L) else (some (0, q293.2, L))))
theorem g_law_1374 {X : XX} {d : Nat} {F : Nat} {k18 : Int32 → XI → XL → Option (Int32 × XI × XL)}  {r : Int32 × XI × XL} (hk18 : ∀ (v3 : Int32) (I : XI) (L : XL), k18 v3 I L = some r → xEv X (d + 36) 294 18 [.ref xSCR, .ref 0, .ref 131, .int v3] [] I L (some (.int r.1)) r.2.1 r.2.2) {v3 : Int32} {I : XI} {L : XL} (h : f_law_1374 X F k18 v3 I L = some r)  : xEv X (d + 36) 294 1374 [.ref xSCR, .ref 0, .ref 131, .int v3] [] I L (some (.int r.1)) r.2.1 r.2.2 := by
  rw [f_law_1374] at h
  refine xeb 5 (pc' := 1379) (ls' := [.ref xSCR, .ref 0, .ref 131, .int v3]) (st' := [.int (v3 + 1), .ref xSCR, .ref 0]) rfl ?_
  obtain ⟨b290, h⟩ := xck_some h
  refine xeiaX rfl b290 ?_
  obtain ⟨q291, eq291, h⟩ := xbind_some h
  refine xcallV rfl xsh0 rfl rfl rfl (Nat.le_of_ble_eq_true rfl) (Nat.le_of_ble_eq_true rfl) (Nat.le_of_ble_eq_true rfl) rfl (g_H_restore (d := d + 33) _ eq291) ?_
  refine xeb 5 (pc' := 1388) (ls' := [.ref xSCR, .ref 0, .ref 131, .int v3]) (st' := [.int (v3 + 1), .ref xSCR, .ref 131, .int q291.1]) rfl ?_
  obtain ⟨b292, h⟩ := xck_some h
  refine xeiaX rfl b292 ?_
  obtain ⟨q293, eq293, h⟩ := xbind_some h
  refine xcallV rfl xsh131 rfl rfl rfl (Nat.le_of_ble_eq_true rfl) (Nat.le_of_ble_eq_true rfl) (Nat.le_of_ble_eq_true rfl) rfl (g_M_restore (d := d + 34) _ eq293) ?_
  by_cases c294 : q291.1 = q293.1
  · rw [if_pos c294] at h
    refine xei_eq_t rfl c294 ?_
    refine xeb 2 (pc' := 18) (ls' := [.ref xSCR, .ref 0, .ref 131, .int (v3 + 7)]) (st' := []) rfl ?_
    exact hk18 (v3 + 7) q293.2 L h
  · rw [if_neg c294] at h
    refine xei_eq_f rfl c294 ?_
    refine xeb 1 (pc' := 1396) (ls' := [.ref xSCR, .ref 0, .ref 131, .int v3]) (st' := [.int 0]) rfl ?_
    obtain rfl := Option.some.inj h
    exact xeiret rfl rfl
noncomputable def f_law_1397 (X : XX) (F : Nat) (k18 : Int32 → XI → XL → Option (Int32 × XI × XL)) (v3 : Int32) (I : XI) (L : XL) : Option (Int32 × XI × XL) :=
  xck (xin (v3 + 1) X.1) ((f_H_count F (X.2 (xN (v3 + 1))) I).bind fun q297 => xck (xin (v3 + 1) X.1) ((f_M_count F (X.2 (xN (v3 + 1))) q297.2).bind fun q299 => if q297.1 = q299.1 then (k18 (v3 + 7) q299.2 L) else (some (0, q299.2, L))))
theorem g_law_1397 {X : XX} {d : Nat} {F : Nat} {k18 : Int32 → XI → XL → Option (Int32 × XI × XL)}  {r : Int32 × XI × XL} (hk18 : ∀ (v3 : Int32) (I : XI) (L : XL), k18 v3 I L = some r → xEv X (d + 36) 294 18 [.ref xSCR, .ref 0, .ref 131, .int v3] [] I L (some (.int r.1)) r.2.1 r.2.2) {v3 : Int32} {I : XI} {L : XL} (h : f_law_1397 X F k18 v3 I L = some r)  : xEv X (d + 36) 294 1397 [.ref xSCR, .ref 0, .ref 131, .int v3] [] I L (some (.int r.1)) r.2.1 r.2.2 := by
  rw [f_law_1397] at h
  refine xeb 5 (pc' := 1402) (ls' := [.ref xSCR, .ref 0, .ref 131, .int v3]) (st' := [.int (v3 + 1), .ref xSCR, .ref 0]) rfl ?_
  obtain ⟨b296, h⟩ := xck_some h
  refine xeiaX rfl b296 ?_
  obtain ⟨q297, eq297, h⟩ := xbind_some h
  refine xcallV rfl xsh0 rfl rfl rfl (Nat.le_of_ble_eq_true rfl) (Nat.le_of_ble_eq_true rfl) (Nat.le_of_ble_eq_true rfl) rfl (g_H_count (d := d + 32) _ eq297) ?_
  refine xeb 5 (pc' := 1411) (ls' := [.ref xSCR, .ref 0, .ref 131, .int v3]) (st' := [.int (v3 + 1), .ref xSCR, .ref 131, .int q297.1]) rfl ?_
  obtain ⟨b298, h⟩ := xck_some h
  refine xeiaX rfl b298 ?_
  obtain ⟨q299, eq299, h⟩ := xbind_some h
  refine xcallV rfl xsh131 rfl rfl rfl (Nat.le_of_ble_eq_true rfl) (Nat.le_of_ble_eq_true rfl) (Nat.le_of_ble_eq_true rfl) rfl (g_M_count (d := d + 30) _ eq299) ?_
  by_cases c300 : q297.1 = q299.1
  · rw [if_pos c300] at h
    refine xei_eq_t rfl c300 ?_
    refine xeb 2 (pc' := 18) (ls' := [.ref xSCR, .ref 0, .ref 131, .int (v3 + 7)]) (st' := []) rfl ?_
    exact hk18 (v3 + 7) q299.2 L h
  · rw [if_neg c300] at h
    refine xei_eq_f rfl c300 ?_
    refine xeb 1 (pc' := 1419) (ls' := [.ref xSCR, .ref 0, .ref 131, .int v3]) (st' := [.int 0]) rfl ?_
    obtain rfl := Option.some.inj h
    exact xeiret rfl rfl
noncomputable def f_law_18 (X : XX) (F : Nat) : Nat → Int32 → XI → XL → Option (Int32 × XI × XL)
  | 0, _, _, _ => none
  | n + 1, v3, I, L =>
    if ((Int32.ofNat X.1) - 7) < v3 then (some (1, I, L)) else (xck (xin v3 X.1) (if ((X.2 (xN v3)) &&& 63) < 0 ∨ 39 < ((X.2 (xN v3)) &&& 63) then (f_law_18 X F n (v3 + 7) I L) else if ((X.2 (xN v3)) &&& 63) = 0 then (f_law_208 X F (fun v3 I L => f_law_18 X F n v3 I L) v3 I L) else if ((X.2 (xN v3)) &&& 63) = 1 then (f_law_271 X F (fun v3 I L => f_law_18 X F n v3 I L) v3 I L) else if ((X.2 (xN v3)) &&& 63) = 2 then (f_law_294 X F (fun v3 I L => f_law_18 X F n v3 I L) v3 I L) else if ((X.2 (xN v3)) &&& 63) = 3 then (f_law_307 X F (fun v3 I L => f_law_18 X F n v3 I L) v3 I L) else if ((X.2 (xN v3)) &&& 63) = 4 then (f_law_320 X F (fun v3 I L => f_law_18 X F n v3 I L) v3 I L) else if ((X.2 (xN v3)) &&& 63) = 5 then (f_law_363 X F (fun v3 I L => f_law_18 X F n v3 I L) v3 I L) else if ((X.2 (xN v3)) &&& 63) = 6 then (f_law_406 X F (fun v3 I L => f_law_18 X F n v3 I L) v3 I L) else if ((X.2 (xN v3)) &&& 63) = 7 then (f_law_449 X F (fun v3 I L => f_law_18 X F n v3 I L) v3 I L) else if ((X.2 (xN v3)) &&& 63) = 8 then (f_law_482 X F (fun v3 I L => f_law_18 X F n v3 I L) v3 I L) else if ((X.2 (xN v3)) &&& 63) = 9 then (f_law_515 X F (fun v3 I L => f_law_18 X F n v3 I L) v3 I L) else if ((X.2 (xN v3)) &&& 63) = 10 then (f_law_548 X F (fun v3 I L => f_law_18 X F n v3 I L) v3 I L) else if ((X.2 (xN v3)) &&& 63) = 11 then (f_law_601 X F (fun v3 I L => f_law_18 X F n v3 I L) v3 I L) else if ((X.2 (xN v3)) &&& 63) = 12 then (f_law_624 X F (fun v3 I L => f_law_18 X F n v3 I L) v3 I L) else if ((X.2 (xN v3)) &&& 63) = 13 then (f_law_637 X F (fun v3 I L => f_law_18 X F n v3 I L) v3 I L) else if ((X.2 (xN v3)) &&& 63) = 14 then (f_law_670 X F (fun v3 I L => f_law_18 X F n v3 I L) v3 I L) else if ((X.2 (xN v3)) &&& 63) = 15 then (f_law_713 X F (fun v3 I L => f_law_18 X F n v3 I L) v3 I L) else if ((X.2 (xN v3)) &&& 63) = 16 then (f_law_756 X F (fun v3 I L => f_law_18 X F n v3 I L) v3 I L) else if ((X.2 (xN v3)) &&& 63) = 17 then (f_law_779 X F (fun v3 I L => f_law_18 X F n v3 I L) v3 I L) else if ((X.2 (xN v3)) &&& 63) = 18 then (f_law_792 X F (fun v3 I L => f_law_18 X F n v3 I L) v3 I L) else if ((X.2 (xN v3)) &&& 63) = 19 then (f_law_825 X F (fun v3 I L => f_law_18 X F n v3 I L) v3 I L) else if ((X.2 (xN v3)) &&& 63) = 20 then (f_law_848 X F (fun v3 I L => f_law_18 X F n v3 I L) v3 I L) else if ((X.2 (xN v3)) &&& 63) = 21 then (f_law_891 X F (fun v3 I L => f_law_18 X F n v3 I L) v3 I L) else if ((X.2 (xN v3)) &&& 63) = 22 then (f_law_944 X F (fun v3 I L => f_law_18 X F n v3 I L) v3 I L) else if ((X.2 (xN v3)) &&& 63) = 23 then (f_law_997 X F (fun v3 I L => f_law_18 X F n v3 I L) v3 I L) else if ((X.2 (xN v3)) &&& 63) = 24 then (f_law_1010 X F (fun v3 I L => f_law_18 X F n v3 I L) v3 I L) else if ((X.2 (xN v3)) &&& 63) = 25 then (f_law_1043 X F (fun v3 I L => f_law_18 X F n v3 I L) v3 I L) else if ((X.2 (xN v3)) &&& 63) = 26 then (f_law_1056 X F (fun v3 I L => f_law_18 X F n v3 I L) v3 I L) else if ((X.2 (xN v3)) &&& 63) = 27 then (f_law_1069 X F (fun v3 I L => f_law_18 X F n v3 I L) v3 I L) else if ((X.2 (xN v3)) &&& 63) = 28 then (f_law_1092 X F (fun v3 I L => f_law_18 X F n v3 I L) v3 I L) else if ((X.2 (xN v3)) &&& 63) = 29 then (f_law_1115 X F (fun v3 I L => f_law_18 X F n v3 I L) v3 I L) else if ((X.2 (xN v3)) &&& 63) = 30 then (f_law_1148 X F (fun v3 I L => f_law_18 X F n v3 I L) v3 I L) else if ((X.2 (xN v3)) &&& 63) = 31 then (f_law_1161 X F (fun v3 I L => f_law_18 X F n v3 I L) v3 I L) else if ((X.2 (xN v3)) &&& 63) = 32 then (f_law_1236 X F (fun v3 I L => f_law_18 X F n v3 I L) v3 I L) else if ((X.2 (xN v3)) &&& 63) = 33 then (f_law_1269 X F (fun v3 I L => f_law_18 X F n v3 I L) v3 I L) else if ((X.2 (xN v3)) &&& 63) = 34 then (f_law_1282 X F (fun v3 I L => f_law_18 X F n v3 I L) v3 I L) else if ((X.2 (xN v3)) &&& 63) = 35 then (f_law_1305 X F (fun v3 I L => f_law_18 X F n v3 I L) v3 I L) else if ((X.2 (xN v3)) &&& 63) = 36 then (f_law_1328 X F (fun v3 I L => f_law_18 X F n v3 I L) v3 I L) else if ((X.2 (xN v3)) &&& 63) = 37 then (f_law_1351 X F (fun v3 I L => f_law_18 X F n v3 I L) v3 I L) else if ((X.2 (xN v3)) &&& 63) = 38 then (f_law_1374 X F (fun v3 I L => f_law_18 X F n v3 I L) v3 I L) else if ((X.2 (xN v3)) &&& 63) = 39 then (f_law_1397 X F (fun v3 I L => f_law_18 X F n v3 I L) v3 I L) else none))
theorem g_law_18 {X : XX} {d : Nat} {F : Nat}  {r : Int32 × XI × XL}  : ∀ (n : Nat) (v3 : Int32) (I : XI) (L : XL), f_law_18 X F n v3 I L = some r → xEv X (d + 36) 294 18 [.ref xSCR, .ref 0, .ref 131, .int v3] [] I L (some (.int r.1)) r.2.1 r.2.2 := by
  intro n
  induction n with
  | zero => intro v3 I L h; rw [f_law_18] at h; cases h
  | succ n ih =>
    intro v3 I L h 
    rw [f_law_18] at h
    refine xeb 2 (pc' := 20) (ls' := [.ref xSCR, .ref 0, .ref 131, .int v3]) (st' := [.ref xSCR, .int v3]) rfl ?_
    refine xelenX rfl ?_
    refine xeb 2 (pc' := 24) (ls' := [.ref xSCR, .ref 0, .ref 131, .int v3]) (st' := [.int ((Int32.ofNat X.1) - 7), .int v3]) rfl ?_
    by_cases c1 : ((Int32.ofNat X.1) - 7) < v3
    · rw [if_pos c1] at h
      refine xei_gt_t rfl c1 ?_
      refine xeb 1 (pc' := 1427) (ls' := [.ref xSCR, .ref 0, .ref 131, .int v3]) (st' := [.int 1]) rfl ?_
      obtain rfl := Option.some.inj h
      exact xeiret rfl rfl
    · rw [if_neg c1] at h
      refine xei_gt_f rfl c1 ?_
      refine xeb 2 (pc' := 29) (ls' := [.ref xSCR, .ref 0, .ref 131, .int v3]) (st' := [.int v3, .ref xSCR]) rfl ?_
      obtain ⟨b2, h⟩ := xck_some h
      refine xeiaX rfl b2 ?_
      refine xeb 2 (pc' := 33) (ls' := [.ref xSCR, .ref 0, .ref 131, .int v3]) (st' := [.int ((X.2 (xN v3)) &&& 63)]) rfl ?_
      by_cases c3 : ((X.2 (xN v3)) &&& 63) < 0 ∨ 39 < ((X.2 (xN v3)) &&& 63)
      · rw [if_pos c3] at h
        refine xetabO rfl rfl rfl c3 ?_
        refine xeb 2 (pc' := 18) (ls' := [.ref xSCR, .ref 0, .ref 131, .int (v3 + 7)]) (st' := []) rfl ?_
        exact ih (v3 + 7) I L h
      rw [if_neg c3] at h
      by_cases c17 : ((X.2 (xN v3)) &&& 63) = 0
      · rw [if_pos c17] at h
        refine xetabI rfl c17 rfl ?_
        exact g_law_208 (fun v3 I L h' => ih v3 I L h' ) h
      rw [if_neg c17] at h
      by_cases c23 : ((X.2 (xN v3)) &&& 63) = 1
      · rw [if_pos c23] at h
        refine xetabI rfl c23 rfl ?_
        exact g_law_271 (fun v3 I L h' => ih v3 I L h' ) h
      rw [if_neg c23] at h
      by_cases c27 : ((X.2 (xN v3)) &&& 63) = 2
      · rw [if_pos c27] at h
        refine xetabI rfl c27 rfl ?_
        exact g_law_294 (fun v3 I L h' => ih v3 I L h' ) h
      rw [if_neg c27] at h
      by_cases c31 : ((X.2 (xN v3)) &&& 63) = 3
      · rw [if_pos c31] at h
        refine xetabI rfl c31 rfl ?_
        exact g_law_307 (fun v3 I L h' => ih v3 I L h' ) h
      rw [if_neg c31] at h
      by_cases c41 : ((X.2 (xN v3)) &&& 63) = 4
      · rw [if_pos c41] at h
        refine xetabI rfl c41 rfl ?_
        exact g_law_320 (fun v3 I L h' => ih v3 I L h' ) h
      rw [if_neg c41] at h
      by_cases c51 : ((X.2 (xN v3)) &&& 63) = 5
      · rw [if_pos c51] at h
        refine xetabI rfl c51 rfl ?_
        exact g_law_363 (fun v3 I L h' => ih v3 I L h' ) h
      rw [if_neg c51] at h
      by_cases c61 : ((X.2 (xN v3)) &&& 63) = 6
      · rw [if_pos c61] at h
        refine xetabI rfl c61 rfl ?_
        exact g_law_406 (fun v3 I L h' => ih v3 I L h' ) h
      rw [if_neg c61] at h
      by_cases c69 : ((X.2 (xN v3)) &&& 63) = 7
      · rw [if_pos c69] at h
        refine xetabI rfl c69 rfl ?_
        exact g_law_449 (fun v3 I L h' => ih v3 I L h' ) h
      rw [if_neg c69] at h
      by_cases c77 : ((X.2 (xN v3)) &&& 63) = 8
      · rw [if_pos c77] at h
        refine xetabI rfl c77 rfl ?_
        exact g_law_482 (fun v3 I L h' => ih v3 I L h' ) h
      rw [if_neg c77] at h
      by_cases c85 : ((X.2 (xN v3)) &&& 63) = 9
      · rw [if_pos c85] at h
        refine xetabI rfl c85 rfl ?_
        exact g_law_515 (fun v3 I L h' => ih v3 I L h' ) h
      rw [if_neg c85] at h
      by_cases c97 : ((X.2 (xN v3)) &&& 63) = 10
      · rw [if_pos c97] at h
        refine xetabI rfl c97 rfl ?_
        exact g_law_548 (fun v3 I L h' => ih v3 I L h' ) h
      rw [if_neg c97] at h
      by_cases c103 : ((X.2 (xN v3)) &&& 63) = 11
      · rw [if_pos c103] at h
        refine xetabI rfl c103 rfl ?_
        exact g_law_601 (fun v3 I L h' => ih v3 I L h' ) h
      rw [if_neg c103] at h
      by_cases c107 : ((X.2 (xN v3)) &&& 63) = 12
      · rw [if_pos c107] at h
        refine xetabI rfl c107 rfl ?_
        exact g_law_624 (fun v3 I L h' => ih v3 I L h' ) h
      rw [if_neg c107] at h
      by_cases c115 : ((X.2 (xN v3)) &&& 63) = 13
      · rw [if_pos c115] at h
        refine xetabI rfl c115 rfl ?_
        exact g_law_637 (fun v3 I L h' => ih v3 I L h' ) h
      rw [if_neg c115] at h
      by_cases c125 : ((X.2 (xN v3)) &&& 63) = 14
      · rw [if_pos c125] at h
        refine xetabI rfl c125 rfl ?_
        exact g_law_670 (fun v3 I L h' => ih v3 I L h' ) h
      rw [if_neg c125] at h
      by_cases c135 : ((X.2 (xN v3)) &&& 63) = 15
      · rw [if_pos c135] at h
        refine xetabI rfl c135 rfl ?_
        exact g_law_713 (fun v3 I L h' => ih v3 I L h' ) h
      rw [if_neg c135] at h
      by_cases c141 : ((X.2 (xN v3)) &&& 63) = 16
      · rw [if_pos c141] at h
        refine xetabI rfl c141 rfl ?_
        exact g_law_756 (fun v3 I L h' => ih v3 I L h' ) h
      rw [if_neg c141] at h
      by_cases c145 : ((X.2 (xN v3)) &&& 63) = 17
      · rw [if_pos c145] at h
        refine xetabI rfl c145 rfl ?_
        exact g_law_779 (fun v3 I L h' => ih v3 I L h' ) h
      rw [if_neg c145] at h
      by_cases c153 : ((X.2 (xN v3)) &&& 63) = 18
      · rw [if_pos c153] at h
        refine xetabI rfl c153 rfl ?_
        exact g_law_792 (fun v3 I L h' => ih v3 I L h' ) h
      rw [if_neg c153] at h
      by_cases c159 : ((X.2 (xN v3)) &&& 63) = 19
      · rw [if_pos c159] at h
        refine xetabI rfl c159 rfl ?_
        exact g_law_825 (fun v3 I L h' => ih v3 I L h' ) h
      rw [if_neg c159] at h
      by_cases c169 : ((X.2 (xN v3)) &&& 63) = 20
      · rw [if_pos c169] at h
        refine xetabI rfl c169 rfl ?_
        exact g_law_848 (fun v3 I L h' => ih v3 I L h' ) h
      rw [if_neg c169] at h
      by_cases c181 : ((X.2 (xN v3)) &&& 63) = 21
      · rw [if_pos c181] at h
        refine xetabI rfl c181 rfl ?_
        exact g_law_891 (fun v3 I L h' => ih v3 I L h' ) h
      rw [if_neg c181] at h
      by_cases c193 : ((X.2 (xN v3)) &&& 63) = 22
      · rw [if_pos c193] at h
        refine xetabI rfl c193 rfl ?_
        exact g_law_944 (fun v3 I L h' => ih v3 I L h' ) h
      rw [if_neg c193] at h
      by_cases c197 : ((X.2 (xN v3)) &&& 63) = 23
      · rw [if_pos c197] at h
        refine xetabI rfl c197 rfl ?_
        exact g_law_997 (fun v3 I L h' => ih v3 I L h' ) h
      rw [if_neg c197] at h
      by_cases c205 : ((X.2 (xN v3)) &&& 63) = 24
      · rw [if_pos c205] at h
        refine xetabI rfl c205 rfl ?_
        exact g_law_1010 (fun v3 I L h' => ih v3 I L h' ) h
      rw [if_neg c205] at h
      by_cases c209 : ((X.2 (xN v3)) &&& 63) = 25
      · rw [if_pos c209] at h
        refine xetabI rfl c209 rfl ?_
        exact g_law_1043 (fun v3 I L h' => ih v3 I L h' ) h
      rw [if_neg c209] at h
      by_cases c213 : ((X.2 (xN v3)) &&& 63) = 26
      · rw [if_pos c213] at h
        refine xetabI rfl c213 rfl ?_
        exact g_law_1056 (fun v3 I L h' => ih v3 I L h' ) h
      rw [if_neg c213] at h
      by_cases c219 : ((X.2 (xN v3)) &&& 63) = 27
      · rw [if_pos c219] at h
        refine xetabI rfl c219 rfl ?_
        exact g_law_1069 (fun v3 I L h' => ih v3 I L h' ) h
      rw [if_neg c219] at h
      by_cases c225 : ((X.2 (xN v3)) &&& 63) = 28
      · rw [if_pos c225] at h
        refine xetabI rfl c225 rfl ?_
        exact g_law_1092 (fun v3 I L h' => ih v3 I L h' ) h
      rw [if_neg c225] at h
      by_cases c233 : ((X.2 (xN v3)) &&& 63) = 29
      · rw [if_pos c233] at h
        refine xetabI rfl c233 rfl ?_
        exact g_law_1115 (fun v3 I L h' => ih v3 I L h' ) h
      rw [if_neg c233] at h
      by_cases c237 : ((X.2 (xN v3)) &&& 63) = 30
      · rw [if_pos c237] at h
        refine xetabI rfl c237 rfl ?_
        exact g_law_1148 (fun v3 I L h' => ih v3 I L h' ) h
      rw [if_neg c237] at h
      by_cases c253 : ((X.2 (xN v3)) &&& 63) = 31
      · rw [if_pos c253] at h
        refine xetabI rfl c253 rfl ?_
        exact g_law_1161 (fun v3 I L h' => ih v3 I L h' ) h
      rw [if_neg c253] at h
      by_cases c261 : ((X.2 (xN v3)) &&& 63) = 32
      · rw [if_pos c261] at h
        refine xetabI rfl c261 rfl ?_
        exact g_law_1236 (fun v3 I L h' => ih v3 I L h' ) h
      rw [if_neg c261] at h
      by_cases c265 : ((X.2 (xN v3)) &&& 63) = 33
      · rw [if_pos c265] at h
        refine xetabI rfl c265 rfl ?_
        exact g_law_1269 (fun v3 I L h' => ih v3 I L h' ) h
      rw [if_neg c265] at h
      by_cases c271 : ((X.2 (xN v3)) &&& 63) = 34
      · rw [if_pos c271] at h
        refine xetabI rfl c271 rfl ?_
        exact g_law_1282 (fun v3 I L h' => ih v3 I L h' ) h
      rw [if_neg c271] at h
      by_cases c277 : ((X.2 (xN v3)) &&& 63) = 35
      · rw [if_pos c277] at h
        refine xetabI rfl c277 rfl ?_
        exact g_law_1305 (fun v3 I L h' => ih v3 I L h' ) h
      rw [if_neg c277] at h
      by_cases c283 : ((X.2 (xN v3)) &&& 63) = 36
      · rw [if_pos c283] at h
        refine xetabI rfl c283 rfl ?_
        exact g_law_1328 (fun v3 I L h' => ih v3 I L h' ) h
      rw [if_neg c283] at h
      by_cases c289 : ((X.2 (xN v3)) &&& 63) = 37
      · rw [if_pos c289] at h
        refine xetabI rfl c289 rfl ?_
        exact g_law_1351 (fun v3 I L h' => ih v3 I L h' ) h
      rw [if_neg c289] at h
      by_cases c295 : ((X.2 (xN v3)) &&& 63) = 38
      · rw [if_pos c295] at h
        refine xetabI rfl c295 rfl ?_
        exact g_law_1374 (fun v3 I L h' => ih v3 I L h' ) h
      rw [if_neg c295] at h
      by_cases c301 : ((X.2 (xN v3)) &&& 63) = 39
      · rw [if_pos c301] at h
        refine xetabI rfl c301 rfl ?_
        exact g_law_1397 (fun v3 I L h' => ih v3 I L h' ) h
      rw [if_neg c301] at h
      cases h
