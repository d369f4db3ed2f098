/-! the two words that the class spells its marks with -/
theorem xSHlen : xSH.length = 175 := by decide +kernel
theorem xSHv (k : Nat) : xSH[xSTV + k]? = none := List.getElem?_eq_none (by rw [xSHlen]; unfold xSTV; omega)
theorem xSHs (k : Nat) : xSH[xSTR + k]? = none := List.getElem?_eq_none (by rw [xSHlen]; unfold xSTR; omega)
theorem xSHva (k q : Nat) : xarr xSH (xSTV + k) q = none := by
  unfold xarr
  rw [xSHv]
section XE3
variable {X : XX} {d m pc : Nat} {ls st : List Value} {I I' : XI} {L L' : XL} {r : Option Value} {x : Int32} {a b c nx k : Nat}
theorem xegf3 {i : Nat} (hop : xop m pc = (.getfield i, x, a, b, 3, nx)) (hk : k < 2) (kk : xEv X d m nx ls (.ref (xSTV + k) :: st) I L r I' L') : xEv X d m pc ls (.ref (xSTR + k) :: st) I L r I' L' :=
  xe2 hop rfl rfl (by
    have h1 : xSTR ≤ xSTR + k ∧ xSTR + k < xSTR + 2 := ⟨Nat.le_add_right _ _, Nat.add_lt_add_left hk _⟩
    simp only [xs2, if_pos h1, Nat.add_sub_cancel_left]) kk
theorem xegf4 {i : Nat} (hop : xop m pc = (.getfield i, x, a, b, 4, nx)) (hk : k < 2) (kk : xEv X d m nx ls (.int 0 :: st) I L r I' L') : xEv X d m pc ls (.ref (xSTR + k) :: st) I L r I' L' :=
  xe2 hop rfl rfl (by
    have h1 : xSTR ≤ xSTR + k ∧ xSTR + k < xSTR + 2 := ⟨Nat.le_add_right _ _, Nat.add_lt_add_left hk _⟩
    simp only [xs2, if_pos h1]) kk
theorem xegs5 {i : Nat} (hop : xop m pc = (.getstatic i, x, a, b, 5, nx)) (kk : xEv X d m nx ls (.int 1 :: st) I L r I' L') : xEv X d m pc ls st I L r I' L' :=
  xe2 hop rfl rfl rfl kk
theorem xegs6 {i : Nat} (hop : xop m pc = (.getstatic i, x, a, b, 6, nx)) (kk : xEv X d m nx ls (.float 0 :: st) I L r I' L') : xEv X d m pc ls st I L r I' L' :=
  xe2 hop rfl rfl rfl kk
theorem xelenS (hop : xop m pc = (.arraylength, x, a, b, c, nx)) (hk : k < 2) (kk : xEv X d m nx ls (.int (Int32.ofNat (xstr k).length) :: st) I L r I' L') : xEv X d m pc ls (.ref (xSTV + k) :: st) I L r I' L' :=
  xe2 hop rfl rfl (by
    have h1 : xSTV ≤ xSTV + k ∧ xSTV + k < xSTV + 2 := ⟨Nat.le_add_right _ _, Nat.add_lt_add_left hk _⟩
    have h0 : ¬ xSTV + k = xSCR := by unfold xSTV xSCR; omega
    simp only [xs2, xSHv, if_neg h0, if_pos h1, Nat.add_sub_cancel_left]) kk
theorem xebaS {i : Int32} (hop : xop m pc = (.baload, x, a, b, c, nx)) (hk : k < 2) (hi : xin i (xstr k).length = true) (kk : xEv X d m nx ls (.int ((xstr k).getD (xN i) 0) :: st) I L r I' L') : xEv X d m pc ls (.int i :: .ref (xSTV + k) :: st) I L r I' L' :=
  xe2 hop rfl rfl (by
    have h1 : xSTV ≤ xSTV + k ∧ xSTV + k < xSTV + 2 := ⟨Nat.le_add_right _ _, Nat.add_lt_add_left hk _⟩
    simp only [xs2, xSHva, Nat.add_sub_cancel_left, hi, h1, and_self, if_true]) kk
theorem xcallW {i : Nat} {vals rest ls0 : List Value} {v : Option Value} {I1 : XI} {L1 : XL} (hop : xop m pc = (.invokevirtual i, x, a, b, 40, nx)) (hk : k < 2) (hoc : Nat.beq (xmi a).1 xocS = true) (hv : (st.take b).reverse = .ref (xSTR + k) :: vals) (hr : st.drop b = rest) (hb : b ≤ st.length) (hsl : (xsl (.ref (xSTR + k) :: vals)).length ≤ (xmi a).2.2.2.1) (hcat : (rest.map fun v => v.category).sum ≤ 8) (hent : xent (.ref (xSTR + k) :: vals) (xmi a).2.2.2.1 = ls0)
    (hcal : xEv X d a 0 ls0 [] I L v I1 L1) (kk : xEv X (d + 1) m nx ls (v.toList ++ rest) I1 L1 r I' L') : xEv X (d + 1) m pc ls st I L r I' L' :=
  xecall hop rfl rfl rfl rfl rfl hv hr hb hsl hcat (fun _ => by
    have h1 : xSTR ≤ xSTR + k ∧ xSTR + k < xSTR + 2 := ⟨Nat.le_add_right _ _, Nat.add_lt_add_left hk _⟩
    simp only [xrecv, List.head?_cons, xSHs, hoc, h1, and_self, decide_true, Bool.and_self]) (fun h => by cases h) hent hcal kk
end XE3
section XE4
variable {X : XX} {d : Nat} {I : XI} {L : XL} {k : Nat}
theorem xr_coder (hk : k < 2) : xEv X d 33 0 [.ref (xSTR + k)] [] I L (some (.int 0)) I L := by
  refine xegs5 rfl ?_
  refine xef_eq_f rfl (by decide) ?_
  refine xeb 1 (pc' := 7) (ls' := [.ref (xSTR + k)]) (st' := [.ref (xSTR + k)]) rfl ?_
  refine xegf4 rfl hk ?_
  refine xeb 1 (pc' := 14) (ls' := [.ref (xSTR + k)]) (st' := [.int 0]) rfl ?_
  exact xeiret rfl rfl
theorem xr_latin (hk : k < 2) : xEv X d 35 0 [.ref (xSTR + k)] [] I L (some (.int 1)) I L := by
  refine xegs5 rfl ?_
  refine xef_eq_f rfl (by decide) ?_
  refine xeb 1 (pc' := 7) (ls' := [.ref (xSTR + k)]) (st' := [.ref (xSTR + k)]) rfl ?_
  refine xegf4 rfl hk ?_
  refine xef_ne_t rfl rfl ?_
  refine xeb 2 (pc' := 18) (ls' := [.ref (xSTR + k)]) (st' := [.int 1]) rfl ?_
  exact xeiret rfl rfl
theorem xr_len (hk : k < 2) : xEv X (d + 1) 34 0 [.ref (xSTR + k)] [] I L (some (.int (Int32.ofNat (xstr k).length))) I L := by
  refine xeb 1 (pc' := 1) (ls' := [.ref (xSTR + k)]) (st' := [.ref (xSTR + k)]) rfl ?_
  refine xegf3 rfl hk ?_
  refine xelenS rfl hk ?_
  refine xeb 1 (pc' := 6) (ls' := [.ref (xSTR + k)]) (st' := [.ref (xSTR + k), .int (Int32.ofNat (xstr k).length)]) rfl ?_
  refine xcallW rfl hk rfl rfl rfl (Nat.le_of_ble_eq_true rfl) (Nat.le_of_ble_eq_true rfl) (Nat.le_of_ble_eq_true rfl) rfl (xr_coder hk) ?_
  have e : (Int32.ofNat (xstr k).length) >>> ((0 : Int32) &&& 31) = Int32.ofNat (xstr k).length := by
    match k, hk with
    | 0, _ => decide +kernel
    | 1, _ => decide +kernel
  refine xeb 1 (pc' := 10) (ls' := [.ref (xSTR + k)]) (st' := [.int ((Int32.ofNat (xstr k).length) >>> ((0 : Int32) &&& 31))]) rfl ?_
  rw [e]
  exact xeiret rfl rfl
end XE4
theorem xin_of {i : Int32} {n : Nat} (hn : n < 2147483648) (h : xin i n = true) : ¬ i < 0 ∧ i < Int32.ofNat n := by
  simp only [xin, Bool.not_eq_true', Bool.or_eq_false_iff, decide_eq_false_iff_not] at h
  refine ⟨h.1, ?_⟩
  have h0 : ¬ i.toInt < 0 := fun q => h.1 (Int32.lt_iff_toInt_lt.mpr q)
  rw [Int32.lt_iff_toInt_lt, Int32.toInt_ofNat_of_lt hn]
  have h2 : i.toNatClampNeg = i.toInt.toNat := rfl
  have h3 := h.2
  rw [h2] at h3
  omega
section XE5
variable {X : XX} {d : Nat} {I : XI} {L : XL} {k : Nat} {i n : Int32}
theorem xr_pre (h0 : ¬ i < 0) (h1 : i < n) : xEv X d 36 0 [.int i, .int n, .float 0] [] I L (some (.int i)) I L := by
  refine xeb 1 (pc' := 1) (ls' := [.int i, .int n, .float 0]) (st' := [.int i]) rfl ?_
  refine xef_lt_f rfl h0 ?_
  refine xeb 2 (pc' := 6) (ls' := [.int i, .int n, .float 0]) (st' := [.int n, .int i]) rfl ?_
  refine xei_lt_t rfl h1 ?_
  refine xeb 1 (pc' := 17) (ls' := [.int i, .int n, .float 0]) (st' := [.int i]) rfl ?_
  exact xeiret rfl rfl
theorem xr_idx (h0 : ¬ i < 0) (h1 : i < n) : xEv X (d + 1) 37 0 [.int i, .int n] [] I L none I L := by
  refine xeb 2 (pc' := 2) (ls' := [.int i, .int n]) (st' := [.int n, .int i]) rfl ?_
  refine xegs6 rfl ?_
  refine xcallS20 rfl rfl rfl (Nat.le_of_ble_eq_true rfl) (Nat.le_of_ble_eq_true rfl) (Nat.le_of_ble_eq_true rfl) rfl (xr_pre h0 h1) ?_
  refine xeb 1 (pc' := 9) (ls' := [.int i, .int n]) (st' := []) rfl ?_
  exact xevret rfl
end XE5
def xchr (k : Nat) (i : Int32) : Int32 := (xstr k).getD (xN i) 0
theorem xchr_ok {k : Nat} {i : Int32} (hk : k < 2) (hi : xin i (xstr k).length = true) : ((xchr k i &&& 255).toUInt32 % 65536).toInt32 = xchr k i ∧ xnar 3 (xchr k i) = true := by
  have hall : ∀ k, k < 2 → (xstr k).all (fun c => decide (((c &&& 255).toUInt32 % 65536).toInt32 = c) && xnar 3 c) = true := by
    intro k hk
    match k, hk with
    | 0, _ => decide +kernel
    | 1, _ => decide +kernel
  have h := List.all_eq_true.mp (hall k hk) (xchr k i) (by
    have hl : xN i < (xstr k).length := by
      simp only [xin, Bool.not_eq_true', Bool.or_eq_false_iff, decide_eq_false_iff_not] at hi
      exact Nat.lt_of_not_le hi.2
    unfold xchr
    rw [List.getD_eq_getElem?_getD, List.getElem?_eq_getElem hl]
    exact List.getElem_mem hl)
  simpa only [Bool.and_eq_true, decide_eq_true_eq] using h
section XE6
variable {X : XX} {d : Nat} {I : XI} {L : XL} {k : Nat} {i : Int32}
theorem xr_l1 (hk : k < 2) (hi : xin i (xstr k).length = true) : xEv X (d + 2) 38 0 [.ref (xSTV + k), .int i] [] I L (some (.int (xchr k i))) I L := by
  have hn : (xstr k).length < 2147483648 := by
    match k, hk with
    | 0, _ => decide +kernel
    | 1, _ => decide +kernel
  obtain ⟨h0, h1⟩ := xin_of hn hi
  refine xeb 2 (pc' := 2) (ls' := [.ref (xSTV + k), .int i]) (st' := [.ref (xSTV + k), .int i]) rfl ?_
  refine xelenS rfl hk ?_
  refine xcallS20 rfl rfl rfl (Nat.le_of_ble_eq_true rfl) (Nat.le_of_ble_eq_true rfl) (Nat.le_of_ble_eq_true rfl) rfl (xr_idx h0 h1) ?_
  refine xeb 2 (pc' := 8) (ls' := [.ref (xSTV + k), .int i]) (st' := [.int i, .ref (xSTV + k)]) rfl ?_
  refine xebaS rfl hk hi ?_
  refine xeb 3 (pc' := 14) (ls' := [.ref (xSTV + k), .int i]) (st' := [.int ((xchr k i &&& 255).toUInt32 % 65536).toInt32]) rfl ?_
  rw [(xchr_ok hk hi).1]
  exact xeiret rfl (xchr_ok hk hi).2
theorem xr_char (hk : k < 2) (hi : xin i (xstr k).length = true) : xEv X (d + 3) 43 0 [.ref (xSTR + k), .int i] [] I L (some (.int (xchr k i))) I L := by
  refine xeb 1 (pc' := 1) (ls' := [.ref (xSTR + k), .int i]) (st' := [.ref (xSTR + k)]) rfl ?_
  refine xcallW rfl hk rfl rfl rfl (Nat.le_of_ble_eq_true rfl) (Nat.le_of_ble_eq_true rfl) (Nat.le_of_ble_eq_true rfl) rfl (xr_latin hk) ?_
  refine xef_eq_f rfl (by decide) ?_
  refine xeb 1 (pc' := 8) (ls' := [.ref (xSTR + k), .int i]) (st' := [.ref (xSTR + k)]) rfl ?_
  refine xegf3 rfl hk ?_
  refine xeb 1 (pc' := 12) (ls' := [.ref (xSTR + k), .int i]) (st' := [.int i, .ref (xSTV + k)]) rfl ?_
  refine xcallS20 rfl rfl rfl (Nat.le_of_ble_eq_true rfl) (Nat.le_of_ble_eq_true rfl) (Nat.le_of_ble_eq_true rfl) rfl (xr_l1 hk hi) ?_
  exact xeiret rfl (xchr_ok hk hi).2
end XE6
section XE7
variable {X : XX} {d m pc : Nat} {ls st : List Value} {I I' : XI} {L L' : XL} {r : Option Value} {x : Int32} {nx k : Nat}
theorem xestrlen {i n i' : Nat} (hop : xop m pc = (.invokevirtual i', x, 34, 1, 40, nx)) (hk : i < 2) (hn : (xstr i).length = n) (hs : (st.map fun v => v.category).sum ≤ 8) (kk : xEv X (d + 2) m nx ls (.int (Int32.ofNat n) :: st) I L r I' L') : xEv X (d + 2) m pc ls (.ref (xSTR + i) :: st) I L r I' L' := by
  subst hn
  exact xcallW hop hk rfl rfl rfl (Nat.le_add_left _ _) (Nat.le_of_ble_eq_true rfl) hs rfl (xr_len hk) kk
theorem xestrch {i n i' : Nat} {j : Int32} (hop : xop m pc = (.invokevirtual i', x, 43, 2, 40, nx)) (hk : i < 2) (hj : xin j n = true) (hn : (xstr i).length = n) (hs : (st.map fun v => v.category).sum ≤ 8) (kk : xEv X (d + 4) m nx ls (.int (xchr i j) :: st) I L r I' L') : xEv X (d + 4) m pc ls (.int j :: .ref (xSTR + i) :: st) I L r I' L' := by
  subst hn
  exact xcallW hop hk rfl rfl rfl (Nat.le_add_left _ _) (Nat.le_of_ble_eq_true rfl) hs rfl (xr_char hk hj) kk
end XE7
