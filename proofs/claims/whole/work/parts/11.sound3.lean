/-! SOUNDNESS, 3: instructions that read cells, or write numbers into them -/
theorem xble {a : Nat} (h : a < 13) : Nat.ble 90 a = false := by
  cases q : Nat.ble 90 a with
  | false => rfl
  | true => have := Nat.le_of_ble_eq_true q; omega
theorem xobj_spec {sh : XSh} {o ci b : Nat} {rs : List (Option Nat)} (h : xobj sh o ci b = some rs) : ∃ n, sh[o]? = some (ci + 5, n, rs) ∧ b < n := by
  unfold xobj at h
  split at h
  · rename_i k n rs' he
    split at h
    · rename_i hk
      cases h
      refine ⟨n, ?_, hk.2⟩
      rw [he, hk.1, Nat.add_comm]
    · cases h
  · cases h
theorem xarr_spec {sh : XSh} {o k n : Nat} (h : xarr sh o k = some n) : ∃ rs, sh[o]? = some (k, n, rs) := by
  unfold xarr at h
  split at h
  · rename_i k' n' rs' he
    split at h
    · rename_i hk
      cases h
      exact ⟨rs', by rw [he, hk]⟩
    · cases h
  · cases h
theorem xin_spec {i : Int32} {n : Nat} (h : xin i n = true) : vp_in i n := by
  unfold xin at h
  simp only [Bool.not_eq_true', Bool.or_eq_false_iff, decide_eq_false_iff_not] at h
  exact fun q => q.elim h.1 h.2
theorem xfs_at {ad : Nat → Nat} {ci : Nat} {rs : List (Option Nat)} {f : Nat → Int32} {n b : Nat} (h : b < n) : ((List.range n).map (xfv ad ci rs f))[b]? = some (xfv ad ci rs f b) := by
  rw [List.getElem?_map, List.getElem?_range h]; rfl
theorem xfv_i {ad : Nat → Nat} {ci b : Nat} {rs : List (Option Nat)} {f : Nat → Int32} (h : xcty ci b = .int ∨ xcty ci b = .boolean) : xfv ad ci rs f b = .int (f b) := by
  unfold xfv
  rcases h with h | h <;> rw [h]
theorem xfv_r {ad : Nat → Nat} {ci b : Nat} {rs : List (Option Nat)} {f : Nat → Int32} (h : xrefT (xcty ci b) = true) : xfv ad ci rs f b = va_rf ((rs.getD b none).map ad) := by
  unfold xfv
  cases hq : xcty ci b <;> rw [hq] at h <;> first | rfl | cases h
theorem xcv_put {cT : Nat → ClassId} {ad : Nat → Nat} {ci n b : Nat} {rs : List (Option Nat)} {f : Nat → Int32} {g : Nat → Int64} {y : Int32} (hb : b < n) (h : xcty ci b = .int ∨ xcty ci b = .boolean) :
    xcv cT ad (ci + 5, n, rs) (upd f b y) g = .inr (ci, ((List.range n).map (xfv ad ci rs f)).set b (.int y)) := by
  show Sum.inr (ci, (List.range n).map (xfv ad ci rs (upd f b y))) = _
  congr 2
  apply List.ext_getElem?
  intro j
  rw [List.getElem?_set]
  rcases Nat.lt_or_ge j n with q | q
  · rw [xfs_at q]
    split
    · rename_i e1
      subst e1
      rw [if_pos (by simpa using q), xfv_i h]
      simp [upd]
    · rename_i e1
      rw [xfs_at q]
      congr 1
      unfold xfv
      simp [upd, Ne.symm e1]
  · rw [List.getElem?_eq_none_iff.mpr (by simpa using q), if_neg (by omega), List.getElem?_eq_none_iff.mpr (by simpa using q)]
theorem xnarz_n {y : Int32} (h : xnarz y = true) : narrow .boolean (.int y) = .int y := by
  unfold xnarz at h
  simp only [Bool.or_eq_true, decide_eq_true_eq] at h
  rcases h with h | h <;> subst h <;> rfl
theorem xnarz_f {y : Int32} (h : xnarz y = true) : fits .boolean (.int y) = true := by
  unfold xnarz at h
  simp only [Bool.or_eq_true, decide_eq_true_eq] at h
  rcases h with h | h <;> subst h <;> rfl
theorem xsum {ad : Nat → Nat} {vS : Value} (hv : vS.category = 1) (st : List Value) : ((st.map (xtr ad vS)).map fun v => v.category).sum = (st.map fun v => v.category).sum := by
  rw [List.map_map]
  congr 1
  exact List.map_congr_left fun v _ => xtr_cat hv v
theorem xSTR_i {o : Nat} (h : xSTR ≤ o ∧ o < xSTR + 2) : ∃ i, i < 2 ∧ o = xSTR + i := ⟨o - xSTR, by omega, by omega⟩
theorem xSTV_i {o : Nat} (h : xSTV ≤ o ∧ o < xSTV + 2) : ∃ i, i < 2 ∧ o = xSTV + i := ⟨o - xSTV, by omega, by omega⟩
theorem xMw {m : Nat} (h1 : m = 901 ∨ m = 902 ∨ m = 903 ∨ m = 900) : True := trivial
section XC
variable {p : Program} {l : Launch} {e : Env} {R : Room} {s : State} {mid : MethodId} {args : Array Value} {below : List Frame} {meth : Method} {c : Code} {H : Heap} {locs : List Loc} {cells slots : Nat} {Q : State → Prop}
set_option maxHeartbeats 8000000 in
theorem xs2_ok {X : XX} {D : va_G} {cT : Nat → ClassId} {A : Nat → Prop} {ad : Nat → Nat} {vS : Value} {m pc : Nat} {st st' : List Value} {hp hp' : XHp} {lr : Array Slot} {ins : ClassFile.Instr} {x : Int32} {a b c0 nx : Nat} (hF : xFr p s mid args meth c m) (hE : xEx X ad vS A s) (hW : xWd D cT ad A s H locs hp) (hls : lr.size = (xmi m).2.2.2.1)
    (hRf : 8 ≤ R.frames) (hRl : 400 ≤ R.locals) (hRc : cells ≤ R.cells) (hRs : slots ≤ R.slots)
    (hc : xchk m pc (ins, x, a, b, c0, nx) = true) (h : xs2 X ins a b c0 hp st = some (st', hp'))
    (k : ∀ H' locs', xWd D cT ad A s H' locs' hp' → W p l e R s mid args below meth c H' locs' cells slots Q (F0 mid nx lr (st'.map (xtr ad vS)))) :
    W p l e R s mid args below meth c H locs cells slots Q (F0 mid pc lr (st.map (xtr ad vS))) := by
  obtain ⟨hx, hb, hml, hown, hts, hnw, hr, hlk, hini⟩ := hF
  obtain ⟨hK, hP, hD, hS⟩ := id hW
  obtain ⟨hEX, hEs, hEz, hEq, hvc⟩ := hE
  unfold xs2 at h
  split at h
  · rename_i o st0
    obtain ⟨hd, -, he⟩ := xdec hc (by simp)
    simp only [xext, Bool.and_eq_true, Bool.or_eq_true, decide_eq_true_eq] at he
    obtain ⟨rfl, hfs, ⟨ha, hbk⟩, hty⟩ := he
    rw [Nat.add_sub_cancel_left] at hd
    have hfo := xFS_ok _ (List.mem_of_getElem? hfs)
    simp only [xFok, xble ha, cond_false] at hfo
    split at h
    · rename_i rs hrs
      obtain ⟨n, hcell, hbn⟩ := xobj_spec hrs
      cases h
      refine va_get (D := D) (ci := a) (ref := ((xcl a).2.1 b).1) hx hb hts (xcw_all a ha) hown hK hP o (xw_at hcell) (xcl_at a ha) b hbk (hts _ hfo) (fun _ z => z) (xfs_at hbn) hd ?_
      rw [xfv_i hty]
      exact k H locs ⟨hK, hP, hD, hS⟩
    · cases h
  · rename_i o st0
    obtain ⟨hd, -, he⟩ := xdec hc (by simp)
    simp only [xext, Bool.and_eq_true, Bool.or_eq_true, decide_eq_true_eq] at he
    obtain ⟨rfl, hfs, ⟨ha, hbk⟩, hty⟩ := he
    rw [Nat.add_sub_cancel_left] at hd
    have hfo := xFS_ok _ (List.mem_of_getElem? hfs)
    simp only [xFok] at hfo
    split at h
    · rename_i rs hrs
      obtain ⟨n, hcell, hbn⟩ := xobj_spec hrs
      cases h
      refine va_getN (D := D) (ci := a) (ref := ((xcl a).2.1 b).1) hx hb hts (xcw_all a ha) hown hK hP o (xw_at hcell) (xcl_at a ha) b hbk (va_Nw.use rfl (hnw _ hfo)) (fun _ z => z) (xfs_at hbn) hd ?_
      rw [xfv_i hty]
      exact k H locs ⟨hK, hP, hD, hS⟩
    · cases h
  · rename_i o st0
    obtain ⟨hd, -, he⟩ := xdec hc (by simp)
    simp only [xext, Bool.and_eq_true, Bool.or_eq_true, decide_eq_true_eq] at he
    obtain ⟨rfl, hfs, ⟨ha, hbk⟩, hty⟩ := he
    rw [Nat.add_sub_cancel_left] at hd
    have hfo := xFS_ok _ (List.mem_of_getElem? hfs)
    simp only [xFok, xble ha, cond_false] at hfo
    split at h
    · rename_i rs hrs
      obtain ⟨n, hcell, hbn⟩ := xobj_spec hrs
      split at h
      · rename_i r hr0
        cases h
        refine va_get (D := D) (ci := a) (ref := ((xcl a).2.1 b).1) hx hb hts (xcw_all a ha) hown hK hP o (xw_at hcell) (xcl_at a ha) b hbk (hts _ hfo) (fun _ z => z) (xfs_at hbn) hd ?_
        rw [xfv_r hty, hr0]
        exact k H locs ⟨hK, hP, hD, hS⟩
      · cases h
    · cases h
  · rename_i o st0
    obtain ⟨hd, -, he⟩ := xdec hc (by simp)
    simp only [xext, Bool.and_eq_true, Bool.or_eq_true, decide_eq_true_eq] at he
    obtain ⟨rfl, hfs, ⟨ha, hbk⟩, hty⟩ := he
    rw [Nat.add_sub_cancel_left] at hd
    have hfo := xFS_ok _ (List.mem_of_getElem? hfs)
    simp only [xFok] at hfo
    split at h
    · rename_i rs hrs
      obtain ⟨n, hcell, hbn⟩ := xobj_spec hrs
      split at h
      · rename_i r hr0
        cases h
        refine va_getN (D := D) (ci := a) (ref := ((xcl a).2.1 b).1) hx hb hts (xcw_all a ha) hown hK hP o (xw_at hcell) (xcl_at a ha) b hbk (va_Nw.use rfl (hnw _ hfo)) (fun _ z => z) (xfs_at hbn) hd ?_
        rw [xfv_r hty, hr0]
        exact k H locs ⟨hK, hP, hD, hS⟩
      · cases h
    · cases h
  · rename_i o st0
    obtain ⟨hd, -, he⟩ := xdec hc (by simp)
    simp only [xext, Bool.and_eq_true, decide_eq_true_eq] at he
    obtain ⟨rfl, hfs⟩ := he
    rw [Nat.add_sub_cancel_left] at hd
    have hfo := xFS_ok _ (List.mem_of_getElem? hfs)
    simp only [xFok, show Nat.ble 90 98 = true from rfl, cond_true] at hfo
    split at h
    · rename_i ho
      cases h
      obtain ⟨i, hi, hio⟩ := xSTR_i ho
      have hs := hEs i hi
      rw [← hio] at hs
      simp only [hio, Nat.add_sub_cancel_left] at k
      exact vk_getf hx hb hs.2.2.1 hS hown (hts _ hfo) (fun _ z => z) hd (k H locs hW)
    · cases h
  · rename_i o st0
    obtain ⟨hd, -, he⟩ := xdec hc (by simp)
    simp only [xext, Bool.and_eq_true, decide_eq_true_eq] at he
    obtain ⟨rfl, hfs⟩ := he
    rw [Nat.add_sub_cancel_left] at hd
    have hfo := xFS_ok _ (List.mem_of_getElem? hfs)
    simp only [xFok, show Nat.ble 90 98 = true from rfl, cond_true] at hfo
    split at h
    · rename_i ho
      cases h
      obtain ⟨i, hi, hio⟩ := xSTR_i ho
      have hs := hEs i hi
      rw [← hio] at hs
      exact vk_getf hx hb hs.2.1 hS hown (hts _ hfo) (fun _ z => z) hd (k H locs hW)
    · cases h
  · cases h
    obtain ⟨hd, -, he⟩ := xdec hc (by simp)
    simp only [xext, Bool.and_eq_true, decide_eq_true_eq] at he
    obtain ⟨rfl, hfs⟩ := he
    rw [Nat.add_sub_cancel_left] at hd
    have hfo := xFS_ok _ (List.mem_of_getElem? hfs)
    simp only [xFok, show Nat.ble 90 98 = true from rfl, cond_true] at hfo
    exact va_gets hx hb hEz hS hown (hts _ hfo) (fun _ z => z) hd (k H locs hW)
  · cases h
    obtain ⟨hd, -, he⟩ := xdec hc (by simp)
    simp only [xext, Bool.and_eq_true, decide_eq_true_eq] at he
    obtain ⟨rfl, hfs⟩ := he
    rw [Nat.add_sub_cancel_left] at hd
    have hfo := xFS_ok _ (List.mem_of_getElem? hfs)
    simp only [xFok, show Nat.ble 90 98 = true from rfl, cond_true] at hfo
    exact va_gets hx hb hEq hS hown (hts _ hfo) (fun _ z => z) hd (k H locs hW)
  · rename_i y o st0
    obtain ⟨hd, -, he⟩ := xdec hc (by simp)
    simp only [xext, Bool.and_eq_true, decide_eq_true_eq] at he
    obtain ⟨rfl, hfs, ⟨ha, hbk⟩, hty, hfin⟩ := he
    rw [Nat.add_sub_cancel_left] at hd
    have hfo := xFS_ok _ (List.mem_of_getElem? hfs)
    simp only [xFok, xble ha, cond_false] at hfo
    split at h
    · rename_i rs hrs
      obtain ⟨n, hcell, hbn⟩ := xobj_spec hrs
      cases h
      refine va_put (D := D) (ci := a) (ref := ((xcl a).2.1 b).1) (v := .int y) hx hb hts (xcw_all a ha) (xcty a) (xty_all a ha) (xnm_all a ha) hown hK hP hD hS o (xw_at hcell) (xcl_at a ha) b hbk (hts _ hfo) (fun _ z => z) hfin (xty_all a ha b hbk) (by rw [hty]; rfl) (by rw [hty]; rfl) (by simpa using hbn) hd (fun H1 locs1 hP1 hD1 hS1 => k H1 locs1 ⟨hK, ?_, ?_, hS1⟩)
      · rw [← xw_setI hcell, xcv_put hbn (Or.inl hty)]; exact hP1
      · rw [← xw_setI hcell, xcv_put hbn (Or.inl hty)]; exact hD1
    · cases h
  · rename_i y o st0
    obtain ⟨hd, -, he⟩ := xdec hc (by simp)
    simp only [xext, Bool.and_eq_true, decide_eq_true_eq] at he
    obtain ⟨rfl, hfs, ⟨ha, hbk⟩, hty, hfin⟩ := he
    rw [Nat.add_sub_cancel_left] at hd
    have hfo := xFS_ok _ (List.mem_of_getElem? hfs)
    simp only [xFok] at hfo
    split at h
    · rename_i rs hrs
      obtain ⟨n, hcell, hbn⟩ := xobj_spec hrs
      cases h
      refine va_putN (D := D) (ci := a) (ref := ((xcl a).2.1 b).1) (v := .int y) hx hb hts (xcw_all a ha) (xcty a) (xty_all a ha) (xnm_all a ha) hown hK hP hD hS o (xw_at hcell) (xcl_at a ha) b hbk (va_Nw.use rfl (hnw _ hfo)) (fun _ z => z) hfin (xty_all a ha b hbk) (by rw [hty]; rfl) (by rw [hty]; rfl) (by simpa using hbn) hd (fun H1 locs1 hP1 hD1 hS1 => k H1 locs1 ⟨hK, ?_, ?_, hS1⟩)
      · rw [← xw_setI hcell, xcv_put hbn (Or.inl hty)]; exact hP1
      · rw [← xw_setI hcell, xcv_put hbn (Or.inl hty)]; exact hD1
    · cases h
  · rename_i y o st0
    obtain ⟨hd, -, he⟩ := xdec hc (by simp)
    simp only [xext, Bool.and_eq_true, decide_eq_true_eq] at he
    obtain ⟨rfl, hfs, ⟨ha, hbk⟩, hty, hfin⟩ := he
    rw [Nat.add_sub_cancel_left] at hd
    have hfo := xFS_ok _ (List.mem_of_getElem? hfs)
    simp only [xFok, xble ha, cond_false] at hfo
    split at h
    · rename_i rs hrs
      obtain ⟨n, hcell, hbn⟩ := xobj_spec hrs
      split at h
      · rename_i hz
        cases h
        refine va_put (D := D) (ci := a) (ref := ((xcl a).2.1 b).1) (v := .int y) hx hb hts (xcw_all a ha) (xcty a) (xty_all a ha) (xnm_all a ha) hown hK hP hD hS o (xw_at hcell) (xcl_at a ha) b hbk (hts _ hfo) (fun _ z => z) hfin (xty_all a ha b hbk) (by rw [hty]; exact xnarz_n hz) (by rw [hty]; exact xnarz_f hz) (by simpa using hbn) hd (fun H1 locs1 hP1 hD1 hS1 => k H1 locs1 ⟨hK, ?_, ?_, hS1⟩)
        · rw [← xw_setI hcell, xcv_put hbn (Or.inr hty)]; exact hP1
        · rw [← xw_setI hcell, xcv_put hbn (Or.inr hty)]; exact hD1
      · cases h
    · cases h
  · rename_i i o st0
    obtain ⟨hd, -, he⟩ := xdec hc (by simp)
    simp only [xext, decide_eq_true_eq] at he
    subst he
    rw [Nat.add_sub_cancel_left] at hd
    split at h
    · rename_i n hn
      obtain ⟨rs, hcell⟩ := xarr_spec hn
      split at h
      · rename_i hi
        cases h
        exact va_iald hx hb hK hP o 0 (xw_at hcell) rfl (xin_spec hi) hd (k H locs hW)
      · cases h
    · split at h
      · rename_i ho
        obtain ⟨rfl, hi⟩ := ho
        cases h
        exact va_ti hx hb hEX hS (xin_spec hi) rfl hd (k H locs hW)
      · cases h
  · rename_i i o st0
    obtain ⟨hd, -, he⟩ := xdec hc (by simp)
    simp only [xext, decide_eq_true_eq] at he
    subst he
    rw [Nat.add_sub_cancel_left] at hd
    split at h
    · rename_i n hn
      obtain ⟨rs, hcell⟩ := xarr_spec hn
      split at h
      · rename_i hi
        cases h
        exact va_bald hx hb hK hP o 1 (xw_at hcell) rfl (xin_spec hi) hd (k H locs hW)
      · cases h
    · split at h
      · rename_i n hn
        obtain ⟨rs, hcell⟩ := xarr_spec hn
        split at h
        · rename_i hi
          cases h
          exact va_zald hx hb hK hP o 2 (xw_at hcell) rfl (xin_spec hi) hd (k H locs hW)
        · cases h
      · split at h
        · rename_i ho
          obtain ⟨ho, hi⟩ := ho
          cases h
          obtain ⟨i, hi2, hio⟩ := xSTV_i ho
          have hs := (hEs i hi2).2.2.2.1
          rw [← hio, show xstr i = xstr (o - xSTV) by rw [hio, Nat.add_sub_cancel_left]] at hs
          exact va_tb hx hb hs hS (xin_spec hi) rfl hd (k H locs hW)
        · cases h
  · rename_i i o st0
    obtain ⟨hd, -, he⟩ := xdec hc (by simp)
    simp only [xext, decide_eq_true_eq] at he
    subst he
    rw [Nat.add_sub_cancel_left] at hd
    split at h
    · rename_i n hn
      obtain ⟨rs, hcell⟩ := xarr_spec hn
      split at h
      · rename_i hi
        cases h
        exact va_lald hx hb hK hP o 3 (xw_at hcell) rfl (xin_spec hi) hd (k H locs hW)
      · cases h
    · cases h
  · rename_i i o st0
    obtain ⟨hd, -, he⟩ := xdec hc (by simp)
    simp only [xext, decide_eq_true_eq] at he
    subst he
    rw [Nat.add_sub_cancel_left] at hd
    split at h
    · rename_i n rs hcell
      split at h
      · rename_i hi
        split at h
        · rename_i r hr0
          cases h
          refine va_aldq hx hb hK hP o 4 (xw_at hcell) rfl (xin_spec hi) hd ?_
          rw [hr0]
          exact k H locs hW
        · cases h
      · cases h
    · cases h
  · rename_i y i o st0
    obtain ⟨hd, -, he⟩ := xdec hc (by simp)
    simp only [xext, decide_eq_true_eq] at he
    subst he
    rw [Nat.add_sub_cancel_left] at hd
    split at h
    · rename_i n hn
      obtain ⟨rs, hcell⟩ := xarr_spec hn
      split at h
      · rename_i hi
        cases h
        refine va_iast hx hb hK hP hD hS o 0 (xw_at hcell) rfl (xin_spec hi) hd (fun H1 locs1 hP1 hD1 hS1 => k H1 locs1 ⟨hK, ?_, ?_, hS1⟩)
        · rw [← xw_setI hcell]; exact hP1
        · rw [← xw_setI hcell]; exact hD1
      · cases h
    · cases h
  · rename_i y i o st0
    obtain ⟨hd, -, he⟩ := xdec hc (by simp)
    simp only [xext, decide_eq_true_eq] at he
    subst he
    rw [Nat.add_sub_cancel_left] at hd
    split at h
    · rename_i n hn
      obtain ⟨rs, hcell⟩ := xarr_spec hn
      split at h
      · rename_i hi
        cases h
        refine va_bast hx hb hK hP hD hS o 1 (xw_at hcell) rfl (xin_spec hi) hd (fun H1 locs1 hP1 hD1 hS1 => k H1 locs1 ⟨hK, ?_, ?_, hS1⟩)
        · rw [← xw_setI hcell]; exact hP1
        · rw [← xw_setI hcell]; exact hD1
      · cases h
    · split at h
      · rename_i n hn
        obtain ⟨rs, hcell⟩ := xarr_spec hn
        split at h
        · rename_i hi
          cases h
          refine va_zast hx hb hK hP hD hS o 2 (xw_at hcell) rfl (xin_spec hi) hd (fun H1 locs1 hP1 hD1 hS1 => k H1 locs1 ⟨hK, ?_, ?_, hS1⟩)
          · rw [← xw_setI hcell]; exact hP1
          · rw [← xw_setI hcell]; exact hD1
        · cases h
      · cases h
  · rename_i y i o st0
    obtain ⟨hd, -, he⟩ := xdec hc (by simp)
    simp only [xext, decide_eq_true_eq] at he
    subst he
    rw [Nat.add_sub_cancel_left] at hd
    split at h
    · rename_i n hn
      obtain ⟨rs, hcell⟩ := xarr_spec hn
      split at h
      · rename_i hi
        cases h
        refine va_last hx hb hK hP hD hS o 3 (xw_at hcell) rfl (xin_spec hi) hd (fun H1 locs1 hP1 hD1 hS1 => k H1 locs1 ⟨hK, ?_, ?_, hS1⟩)
        · rw [← xw_setL hcell]; exact hP1
        · rw [← xw_setL hcell]; exact hD1
      · cases h
    · cases h
  · rename_i o st0
    obtain ⟨hd, -, he⟩ := xdec hc (by simp)
    simp only [xext, decide_eq_true_eq] at he
    subst he
    rw [Nat.add_sub_cancel_left] at hd
    split at h
    · rename_i kk n rs hcell
      split at h
      · rename_i hk
        cases h
        have hk5 : kk = 0 ∨ kk = 1 ∨ kk = 2 ∨ kk = 3 ∨ kk = 4 := by omega
        rcases hk5 with rfl | rfl | rfl | rfl | rfl
        · exact va_alen (tys := xkT cT) hx hb hK hP o 0 (xw_at hcell) rfl rfl hd (k H locs hW)
        · exact va_alen (tys := xkT cT) hx hb hK hP o 1 (xw_at hcell) rfl rfl hd (k H locs hW)
        · exact va_alen (tys := xkT cT) hx hb hK hP o 2 (xw_at hcell) rfl rfl hd (k H locs hW)
        · exact va_alen (tys := xkT cT) hx hb hK hP o 3 (xw_at hcell) rfl rfl hd (k H locs hW)
        · exact va_alen (tys := xkT cT) hx hb hK hP o 4 (xw_at hcell) rfl rfl hd (k H locs hW)
      · cases h
    · split at h
      · rename_i ho
        subst ho
        cases h
        exact va_tlen hx hb hEX hS rfl hd (k H locs hW)
      · split at h
        · rename_i ho
          cases h
          obtain ⟨i, hi2, hio⟩ := xSTV_i ho
          have hs := (hEs i hi2).2.2.2.1
          rw [← hio, show xstr i = xstr (o - xSTV) by rw [hio, Nat.add_sub_cancel_left]] at hs
          exact va_tlen hx hb hs hS rfl hd (k H locs hW)
        · cases h
  · rename_i n dp o2 sp o1 st0
    obtain ⟨hd, -, he⟩ := xdec hc (by simp)
    simp only [xext, Bool.and_eq_true, decide_eq_true_eq] at he
    obtain ⟨rfl, hms⟩ := he
    rw [Nat.add_sub_cancel_left] at hd
    have hmo := xMS_ok _ (List.mem_of_getElem? hms)
    simp only [xSok, show Nat.beq 901 900 = false from rfl, show Nat.beq 901 901 = true from rfl, cond_false, cond_true] at hmo
    split at h
    · rename_i n1 n2 hn1 hn2
      obtain ⟨rs1, hc1⟩ := xarr_spec hn1
      obtain ⟨rs2, hc2⟩ := xarr_spec hn2
      split at h
      · rename_i hh
        obtain ⟨⟨g1, g2, g3, g4, g5⟩, g6⟩ := hh
        cases h
        refine va_copyi (ty := .int) hx hb (by rw [hml, hls]) hown (hts _ hmo) (hts _ xW_an) (hts _ xW_as) (hts _ xW_ai) hK hP hD hS o1 o2 0 0 (xw_at hc1) (xw_at hc2) rfl rfl rfl g1 g2 g3 g4 g5 (fun _ _ => rfl) (by omega) (by
          rw [xsum hvc]
          have e2 : nativeFrameWords "java/lang/System" "arraycopy" 5 ≤ 300 := by decide +kernel
          omega) hd (fun H1 locs1 hP1 hD1 hS1 => k H1 locs1 ⟨hK, ?_, ?_, hS1⟩)
        · rw [← xw_setI hc2]; exact hP1
        · rw [← xw_setI hc2]; exact hD1
      · cases h
    · cases h
  · rename_i y z st0
    obtain ⟨hd, -, he⟩ := xdec hc (by simp)
    simp only [xext, Bool.and_eq_true, decide_eq_true_eq] at he
    obtain ⟨rfl, hms⟩ := he
    rw [Nat.add_sub_cancel_left] at hd
    have hmo := xMS_ok _ (List.mem_of_getElem? hms)
    simp only [xSok, show Nat.beq 902 900 = false from rfl, show Nat.beq 902 901 = false from rfl, show Nat.beq 902 902 = true from rfl, show Nat.beq 902 903 = false from rfl, cond_false, cond_true] at hmo
    split at h
    · rename_i hh
      cases h
      refine va_mmax hx hb (by rw [hml, hls]) hown (hts _ hmo) (hts _ xW_maxs) (hts _ xW_mi) (hts _ xW_maxc) (by omega) (by
          rw [xsum hvc]
          omega) hRc hRs hd (k H locs hW)
    · cases h
  · rename_i y z st0
    obtain ⟨hd, -, he⟩ := xdec hc (by simp)
    simp only [xext, Bool.and_eq_true, decide_eq_true_eq] at he
    obtain ⟨rfl, hms⟩ := he
    rw [Nat.add_sub_cancel_left] at hd
    have hmo := xMS_ok _ (List.mem_of_getElem? hms)
    simp only [xSok, show Nat.beq 903 900 = false from rfl, show Nat.beq 903 901 = false from rfl, show Nat.beq 903 902 = false from rfl, show Nat.beq 903 903 = true from rfl, cond_false, cond_true] at hmo
    split at h
    · rename_i hh
      cases h
      refine va_mmin hx hb (by rw [hml, hls]) hown (hts _ hmo) (hts _ xW_mins) (hts _ xW_mi) (hts _ xW_minc) (by omega) (by
          rw [xsum hvc]
          omega) hRc hRs hd (k H locs hW)
    · cases h
  · rename_i o st0
    obtain ⟨hd, -, he⟩ := xdec hc (by simp)
    simp only [xext, Bool.and_eq_true, decide_eq_true_eq] at he
    obtain ⟨rfl, hms⟩ := he
    rw [Nat.add_sub_cancel_left] at hd
    have hmo := xMS_ok _ (List.mem_of_getElem? hms)
    simp only [xSok, show Nat.beq 900 900 = true from rfl, cond_true] at hmo
    split at h
    · rename_i hh
      cases h
      refine W.objInit hx hb hown (hts _ hmo) (hts _ xW_oi) (hts _ xW_oc) rfl (by rw [hml]; exact hls) rfl hd (by omega) (by
          have e1 := xsum (ad := ad) hvc st'
          show 2 * 0 + ((st'.map (xtr ad vS)).map fun v => v.category).sum + 12 ≤ _
          omega) ?_
      exact k H locs hW
    · cases h
  · cases h
end XC
