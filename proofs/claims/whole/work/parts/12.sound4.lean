/-! SOUNDNESS, 4: instructions that make cells -/
def xsz (sh : XSh) : Nat := (sh.map (fun e => e.2.1)).sum
def xad (ad : Nat → Nat) (n q : Nat) : Nat → Nat := fun k => if k = n then q else ad k
theorem xcv_ad {cT : Nat → ClassId} {ad ad' : Nat → Nat} {e : XSe} {f : Nat → Int32} {g : Nat → Int64} (h : ∀ r, some r ∈ e.2.2 → ad' r = ad r) : xcv cT ad' e f g = xcv cT ad e f g := by
  have key : ∀ (rs : List (Option Nat)) (j : Nat), (∀ r, some r ∈ rs → ad' r = ad r) → (rs.getD j none).map ad' = (rs.getD j none).map ad := by
    intro rs j hr
    rw [List.getD_eq_getElem?_getD]
    cases hq : rs[j]? with
    | none => rfl
    | some o => cases o with
      | none => rfl
      | some r => simp [hr r (List.mem_of_getElem? hq)]
  obtain ⟨k, n, rs⟩ := e
  match k, h with
  | 0, _ => rfl
  | 1, _ => rfl
  | 2, _ => rfl
  | 3, _ => rfl
  | 4, h =>
    show Sum.inl (cT 4, n, Sum.inr (Sum.inr (Sum.inr (Sum.inr (fun j => (rs.getD j none).map ad'))))) = Sum.inl (cT 4, n, Sum.inr (Sum.inr (Sum.inr (Sum.inr (fun j => (rs.getD j none).map ad)))))
    rw [show (fun j => (rs.getD j none).map ad') = (fun j => (rs.getD j none).map ad) from funext fun j => key rs j h]
  | k + 5, h =>
    show Sum.inr (k, (List.range n).map (xfv ad' k rs f)) = Sum.inr (k, (List.range n).map (xfv ad k rs f))
    rw [show xfv ad' k rs f = xfv ad k rs f from funext fun j => by unfold xfv; rw [key rs j h]]
theorem xokh_ref {sh : XSh} (h : xokh sh = true) {e : XSe} (he : e ∈ sh) {r : Nat} (hr : some r ∈ e.2.2) : r < sh.length := by
  unfold xokh at h
  simp only [Bool.and_eq_true, List.all_eq_true, decide_eq_true_eq] at h
  have := h.2 e he (some r) hr
  simpa using this
theorem xokh_len {sh : XSh} (h : xokh sh = true) : sh.length < 1000000 := by
  unfold xokh at h
  simp only [Bool.and_eq_true, decide_eq_true_eq] at h
  exact h.1
theorem xw_push {cT : Nat → ClassId} {ad : Nat → Nat} {h : XHp} {e : XSe} (hok : xokh h.1 = true) (he : ∀ r, some r ∉ e.2.2) (q : Nat) :
    xw cT ad h ++ [(q, xcv cT ad e (fun _ => 0) (fun _ => 0))] = xw cT (xad ad h.1.length q) (h.1 ++ [e], xrow h.2.1 h.1.length (fun _ => 0), xrow h.2.2 h.1.length (fun _ => 0)) := by
  refine xw_ext (by simp [xw_len]) fun j e' hj => ?_
  rcases Nat.lt_or_ge j h.1.length with w | w
  · rw [List.getElem?_append_left (by rw [xw_len]; exact w)]
    have hj' : h.1[j]? = some e' := by
      have h1 := hj
      rw [List.getElem?_append_left w] at h1
      exact h1
    have hne : j ≠ h.1.length := by omega
    rw [xw_at (h := h) hj', xcv_ad (ad := ad) (ad' := xad ad h.1.length q) (fun r hr => by
      have := xokh_ref hok (List.mem_of_getElem? hj') hr
      simp only [xad]
      rw [if_neg (by omega)])]
    simp [xad, xrow, hne]
  · have hl : j = h.1.length := by
      have := (List.getElem?_eq_some_iff.mp hj).1
      simp at this
      omega
    subst hl
    have h1 : some e = some e' := by
      have h1 := hj
      rw [List.getElem?_append_right (Nat.le_refl _), Nat.sub_self] at h1
      exact h1
    cases h1
    rw [List.getElem?_append_right (by rw [xw_len]; exact Nat.le_refl _), xw_len, Nat.sub_self, xcv_ad (ad := ad) (ad' := xad ad h.1.length q) (fun r hr => absurd hr (he r))]
    simp [xad, xrow]
theorem xtr_ad {ad ad' : Nat → Nat} {vS : Value} {len : Nat} {v : Value} (hok : xokv len v = true) (ha : ∀ k, k < len ∨ 1000000 ≤ k → ad' k = ad k) : xtr ad' vS v = xtr ad vS v := by
  cases v with
  | ref r =>
    unfold xokv at hok
    simp only [Bool.or_eq_true, decide_eq_true_eq] at hok
    simp [xtr, ha r hok]
  | _ => rfl
theorem xtrs_ad {ad ad' : Nat → Nat} {vS : Value} {len : Nat} {vs : List Value} (hok : xoks len vs = true) (ha : ∀ k, k < len ∨ 1000000 ≤ k → ad' k = ad k) : vs.map (xtr ad' vS) = vs.map (xtr ad vS) := by
  apply List.map_congr_left
  intro v hv
  exact xtr_ad (List.all_eq_true.mp hok v hv) ha
theorem xLR_ad {ad ad' : Nat → Nat} {vS : Value} {len : Nat} {ls : List Value} {nL : Nat} {lr : Array Slot} (hok : xoks len ls = true) (ha : ∀ k, k < len ∨ 1000000 ≤ k → ad' k = ad k) (h : xLR ad vS ls nL lr) : xLR ad' vS ls nL lr := by
  refine ⟨h.1, h.2.1, h.2.2.1, fun k v hk hn => ?_⟩
  rw [xtr_ad (List.all_eq_true.mp hok v (List.mem_of_getElem? hk)) ha]
  exact h.2.2.2 k v hk hn
theorem xoks_app {len : Nat} {a b : List Value} : xoks len (a ++ b) = true ↔ xoks len a = true ∧ xoks len b = true := by
  unfold xoks
  rw [List.all_append, Bool.and_eq_true]
theorem xsz_app (a b : XSh) : xsz (a ++ b) = xsz a + xsz b := by simp [xsz]
theorem xsz_set {sh : XSh} {o : Nat} {k n : Nat} {rs rs' : List (Option Nat)} (h : sh[o]? = some (k, n, rs)) : xsz (sh.set o (k, n, rs')) = xsz sh := by
  unfold xsz
  congr 1
  apply List.ext_getElem?
  intro j
  rw [List.getElem?_map, List.getElem?_map, List.getElem?_set]
  split
  · rename_i e
    subst e
    rw [if_pos (List.getElem?_eq_some_iff.mp h).1, h]
    rfl
  · rfl
theorem xcv_putR {cT : Nat → ClassId} {ad : Nat → Nat} {ci n b r : Nat} {rs : List (Option Nat)} {f : Nat → Int32} {g : Nat → Int64} (hb : b < n) (hl : b < rs.length) (h : xrefT (xcty ci b) = true) :
    xcv cT ad (ci + 5, n, rs.set b (some r)) f g = .inr (ci, ((List.range n).map (xfv ad ci rs f)).set b (.ref (ad r))) := by
  show Sum.inr (ci, (List.range n).map (xfv ad ci (rs.set b (some r)) f)) = _
  congr 2
  apply List.ext_getElem?
  intro j
  rw [List.getElem?_set]
  rcases Nat.lt_or_ge j n with q | q
  · rw [xfs_at q]
    split
    · rename_i e1
      subst e1
      rw [if_pos (by simpa using q), xfv_r h]
      congr 1
      rw [List.getD_eq_getElem?_getD, List.getElem?_set, if_pos rfl, if_pos hl]
      rfl
    · rename_i e1
      rw [xfs_at q]
      congr 1
      unfold xfv
      rw [List.getD_eq_getElem?_getD, List.getD_eq_getElem?_getD, List.getElem?_set, if_neg e1]
  · rw [List.getElem?_eq_none_iff.mpr (by simpa using q), if_neg (by omega), List.getElem?_eq_none_iff.mpr (by simpa using q)]
theorem xwd_len {D : va_G} {cT : Nat → ClassId} {ad : Nat → Nat} {A : Nat → Prop} {s : State} {H : Heap} {locs : List Loc} {h : XHp} (hW : xWd D cT ad A s H locs h) (n q : Nat) (hn : h.1.length < 1000000) (hnn : n = h.1.length) : ∀ k, k < h.1.length ∨ 1000000 ≤ k → xad ad n q k = ad k := by
  intro k hk
  subst hnn
  unfold xad
  rw [if_neg (by omega)]
section XN
variable {p : Program} {l : Launch} {e : Env} {R : Room} {s : State} {mid : MethodId} {args : Array Value} {below : List Frame} {meth : Method} {c : Code} {H : Heap} {locs : List Loc} {cells slots : Nat} {Q : State → Prop}
set_option maxHeartbeats 8000000 in
theorem xs3_ok {D : va_G} {cT : Nat → ClassId} {A : Nat → Prop} {ad : Nat → Nat} {vS : Value} {m pc nL : Nat} {ls st st' : List Value} {hp hp' : XHp} {lr : Array Slot} {ins : ClassFile.Instr} {x : Int32} {a b c0 nx : Nat} (hF : xFr p s mid args meth c m) (hA : ∀ q, s.heap.size ≤ q → A q) (hW : xWd D cT ad A s H locs hp) (hL : xLR ad vS ls nL lr)
    (hRc : cells + hp'.1.length ≤ R.cells + hp.1.length) (hRs : slots + xsz hp'.1 ≤ R.slots + xsz hp.1)
    (hc : xchk m pc (ins, x, a, b, c0, nx) = true) (h : xs3 ins a b c0 hp ls st = some (st', hp'))
    (k : ∀ H' locs' ad' cells' slots', xWd D cT ad' A s H' locs' hp' → (∀ j, j < hp.1.length ∨ hp'.1.length ≤ j → ad' j = ad j) → xLR ad' vS ls nL lr → cells' + hp.1.length = cells + hp'.1.length → slots' + xsz hp.1 = slots + xsz hp'.1 →
      W p l e R s mid args below meth c H' locs' cells' slots' Q (F0 mid nx lr (st'.map (xtr ad' vS)))) :
    W p l e R s mid args below meth c H locs cells slots Q (F0 mid pc lr (st.map (xtr ad vS))) := by
  obtain ⟨hx, hb, hml, hown, hts, hnw, hr, hlk, hini⟩ := hF
  obtain ⟨hK, hP, hD, hS⟩ := id hW
  unfold xs3 at h
  split at h
  -- new
  · split at h
    · rename_i hok
      cases h
      obtain ⟨hd, -, he⟩ := xdec hc (by simp)
      simp only [xext, Bool.and_eq_true, decide_eq_true_eq] at he
      obtain ⟨rfl, hms, ha, hbn⟩ := he
      rw [Nat.add_sub_cancel_left] at hd
      have hmo := xMS_ok _ (List.mem_of_getElem? hms)
      simp only [xSok] at hmo
      obtain ⟨hok1, hok2⟩ := hok
      obtain ⟨hok2, hok3⟩ := xoks_app.mp hok2
      have hl6 := xokh_len hok1
      have z1 : xsz (hp.1 ++ [(5 + a, b, List.replicate b none)]) = xsz hp.1 + b := by rw [xsz_app]; simp [xsz]
      simp only [List.length_append, List.length_singleton, z1] at hRc hRs k
      refine va_new (ci := a) (fs := (List.range b).map (xfv ad a (List.replicate b none) (fun _ => 0))) hx hb hts (xcw_all a ha) (xcty a) (xty_all a ha) hown (hts _ hmo) (hts _ (xNewOk a ha).1) (hts _ (xNewOk a ha).2) hK hP hD hS hA (xcl_at a ha) (fun j hj => ?_) (by omega) (by rw [← hbn]; omega) hd (fun q H1 hP1 hD1 hS1 => ?_)
      · rw [← hbn] at hj
        unfold vp_V
        rw [List.getD_eq_getElem?_getD, xfs_at hj]
        show _ = xfv ad a (List.replicate b none) (fun _ => 0) j
        rcases xty_kind a ha j (by rw [← hbn]; exact hj) with z | z | z
        · rw [xfv_i (Or.inl z), z]; rfl
        · rw [xfv_i (Or.inr z), z]; rfl
        · rw [xfv_r z]
          have e0 : (List.replicate b (none : Option Nat)).getD j none = none := by
            rw [List.getD_eq_getElem?_getD, List.getElem?_replicate]
            split <;> rfl
          rw [e0]
          cases hq : xcty a j <;> rw [hq] at z <;> first | rfl | cases z
      · have hr0 : ∀ r : Nat, some r ∉ ((5 + a, b, List.replicate b none) : XSe).2.2 := fun r hr => by
          have := List.eq_of_mem_replicate hr
          cases this
        have e1 := xw_push (cT := cT) (ad := ad) (e := (5 + a, b, List.replicate b none)) hok1 hr0 q
        have e2 : xcv cT ad (5 + a, b, List.replicate b none) (fun _ => 0) (fun _ => 0) = .inr (a, (List.range b).map (xfv ad a (List.replicate b none) (fun _ => 0))) := by
          rw [Nat.add_comm 5 a]; rfl
        rw [e2] at e1
        rw [e1] at hP1 hD1
        have hg := xwd_len hW hp.1.length q hl6 rfl
        have hk := k H1 locs (xad ad hp.1.length q) (cells + 1) (slots + b) ⟨hK, hP1, hD1, hS1⟩ (fun j hj => by unfold xad; rw [if_neg (by omega)]) (xLR_ad hok2 hg hL) (by omega) (by omega)
        rw [List.map_cons, xtrs_ad hok3 hg, show xtr (xad ad hp.1.length q) vS (.ref hp.1.length) = .ref q by simp [xtr, xad]] at hk
        rw [← hbn]
        exact hk
    · cases h
  -- newarray
  · split at h
    · rename_i t n st0 hok
      cases h
      obtain ⟨hd, -, he⟩ := xdec hc (by simp)
      simp only [xext, Bool.and_eq_true, decide_eq_true_eq] at he
      obtain ⟨rfl, ht, ha4⟩ := he
      rw [Nat.add_sub_cancel_left] at hd
      obtain ⟨⟨hok1, hok2⟩, hn, hnb⟩ := hok
      obtain ⟨hok2, hok3⟩ := xoks_app.mp hok2
      have hl6 := xokh_len hok1
      have z1 : xsz (hp.1 ++ [(a, n.toNatClampNeg, [])]) = xsz hp.1 + n.toNatClampNeg := by rw [xsz_app]; simp [xsz]
      simp only [List.length_append, List.length_singleton, z1] at hRc hRs k
      have hr0 : ∀ r : Nat, some r ∉ ((a, n.toNatClampNeg, []) : XSe).2.2 := fun r hr => by cases hr
      have fin : ∀ (q : Nat) (H1 : Heap), va_P D vwCl (xw cT ad hp ++ [(q, xcv cT ad (a, n.toNatClampNeg, []) (fun _ => 0) (fun _ => 0))]) H1 → va_D A (xw cT ad hp ++ [(q, xcv cT ad (a, n.toNatClampNeg, []) (fun _ => 0) (fun _ => 0))]) → va_S A s.heap H1 locs →
          W p l e R s mid args below meth c H1 locs (cells + 1) (slots + n.toNatClampNeg) Q (F0 mid (pc + 2) lr (.ref q :: st0.map (xtr ad vS))) := by
        intro q H1 hP1 hD1 hS1
        rw [xw_push hok1 hr0 q] at hP1 hD1
        have hg := xwd_len hW hp.1.length q hl6 rfl
        have hk := k H1 locs (xad ad hp.1.length q) (cells + 1) (slots + n.toNatClampNeg) ⟨hK, hP1, hD1, hS1⟩ (fun j hj => by unfold xad; rw [if_neg (by omega)]) (xLR_ad hok2 hg hL) (by omega) (by omega)
        rw [List.map_cons, xtrs_ad hok3 hg, show xtr (xad ad hp.1.length q) vS (.ref hp.1.length) = .ref q by simp [xtr, xad]] at hk
        exact hk
      cases t
      case int =>
        have ht : 0 = a := ht
        subst ht
        refine va_newa (atype := .int) (ty := .int) (a0 := (n.toNatClampNeg, .inl (fun _ => 0))) hx hb (hts _ xW_i) rfl hK hP hD hS hA (fun cA => rfl) hn rfl (by show n.toNatClampNeg * 4 ≤ _; omega) (by omega) (by omega) hd (fun q cA H1 hK1 hP1 hD1 hS1 => ?_)
        have e1 : cA = cT 0 := Option.some.inj (((hK1.2 5 _ rfl).2 : s.vm.findClass _ = some cA).symm.trans (hK.2 0 _ rfl).2)
        subst e1
        exact fin q H1 hP1 hD1 hS1
      case byte =>
        have ht : 1 = a := ht
        subst ht
        refine va_newa (atype := .byte) (ty := .byte) (a0 := (n.toNatClampNeg, .inl (fun _ => 0))) hx hb (hts _ xW_b) rfl hK hP hD hS hA (fun cA => rfl) hn rfl (by show n.toNatClampNeg * 1 ≤ _; omega) (by omega) (by omega) hd (fun q cA H1 hK1 hP1 hD1 hS1 => ?_)
        have e1 : cA = cT 1 := Option.some.inj (((hK1.2 5 _ rfl).2 : s.vm.findClass _ = some cA).symm.trans (hK.2 1 _ rfl).2)
        subst e1
        exact fin q H1 hP1 hD1 hS1
      case boolean =>
        have ht : 2 = a := ht
        subst ht
        refine va_newa (atype := .boolean) (ty := .boolean) (a0 := (n.toNatClampNeg, .inl (fun _ => 0))) hx hb (hts _ xW_z) rfl hK hP hD hS hA (fun cA => rfl) hn rfl (by show n.toNatClampNeg * 1 ≤ _; omega) (by omega) (by omega) hd (fun q cA H1 hK1 hP1 hD1 hS1 => ?_)
        have e1 : cA = cT 2 := Option.some.inj (((hK1.2 5 _ rfl).2 : s.vm.findClass _ = some cA).symm.trans (hK.2 2 _ rfl).2)
        subst e1
        exact fin q H1 hP1 hD1 hS1
      case long =>
        have ht : 3 = a := ht
        subst ht
        refine va_newa (atype := .long) (ty := .long) (a0 := (n.toNatClampNeg, .inr (.inl (fun _ => 0)))) hx hb (hts _ xW_l) rfl hK hP hD hS hA (fun cA => rfl) hn rfl (by show n.toNatClampNeg * 8 ≤ _; omega) (by omega) (by omega) hd (fun q cA H1 hK1 hP1 hD1 hS1 => ?_)
        have e1 : cA = cT 3 := Option.some.inj (((hK1.2 5 _ rfl).2 : s.vm.findClass _ = some cA).symm.trans (hK.2 3 _ rfl).2)
        subst e1
        exact fin q H1 hP1 hD1 hS1
      all_goals
        have ht : 9 = a := ht
        omega
    · cases h
  -- anewarray
  · split at h
    · rename_i idx n st0 hok
      cases h
      obtain ⟨hd, -, he⟩ := xdec hc (by simp)
      simp only [xext, Bool.and_eq_true, decide_eq_true_eq] at he
      obtain ⟨rfl, hms⟩ := he
      rw [Nat.add_sub_cancel_left] at hd
      have hmo := xMS_ok _ (List.mem_of_getElem? hms)
      simp only [xSok] at hmo
      obtain ⟨⟨hok1, hok2⟩, hn, hnb⟩ := hok
      obtain ⟨hok2, hok3⟩ := xoks_app.mp hok2
      have hl6 := xokh_len hok1
      have z1 : xsz (hp.1 ++ [(4, n.toNatClampNeg, List.replicate n.toNatClampNeg none)]) = xsz hp.1 + n.toNatClampNeg := by rw [xsz_app]; simp [xsz]
      simp only [List.length_append, List.length_singleton, z1] at hRc hRs k
      have hr0 : ∀ r : Nat, some r ∉ ((4, n.toNatClampNeg, List.replicate n.toNatClampNeg none) : XSe).2.2 := fun r hr => by
          have := List.eq_of_mem_replicate hr
          cases this
      refine va_newq (C := "JigsawHole$State") hx hb hown (hts _ hmo) (hnw _ xW_ao) hK hP hD hS hA hn rfl (by omega) (by omega) (by omega) hd (fun q cA H1 hK1 hP1 hD1 hS1 => ?_)
      have e1 : cA = cT 4 := by
        obtain ⟨-, -, -, -, -, q1⟩ := (hK1.2 5 _ rfl).2
        obtain ⟨-, -, -, -, -, q2⟩ := (hK.2 4 _ rfl).2
        exact Option.some.inj (q1.symm.trans q2)
      subst e1
      have e2 : xcv cT ad (4, n.toNatClampNeg, List.replicate n.toNatClampNeg none) (fun _ => 0) (fun _ => 0) = .inl (cT 4, n.toNatClampNeg, .inr (.inr (.inr (.inr (fun _ => none))))) := by
        show Sum.inl (cT 4, n.toNatClampNeg, Sum.inr (Sum.inr (Sum.inr (Sum.inr (fun j => ((List.replicate n.toNatClampNeg (none : Option Nat)).getD j none).map ad))))) = _
        rw [show (fun j => ((List.replicate n.toNatClampNeg (none : Option Nat)).getD j none).map ad) = fun _ => none from funext fun j => by
          rw [List.getD_eq_getElem?_getD, List.getElem?_replicate]
          split <;> rfl]
      rw [← e2, xw_push hok1 hr0 q] at hP1 hD1
      have hg := xwd_len hW hp.1.length q hl6 rfl
      have hk := k H1 locs (xad ad hp.1.length q) (cells + 1) (slots + n.toNatClampNeg) ⟨hK, hP1, hD1, hS1⟩ (fun j hj => by unfold xad; rw [if_neg (by omega)]) (xLR_ad hok2 hg hL) (by omega) (by omega)
      rw [List.map_cons, xtrs_ad hok3 hg, show xtr (xad ad hp.1.length q) vS (.ref hp.1.length) = .ref q by simp [xtr, xad]] at hk
      exact hk
    · cases h
  -- putfield of a reference
  · rename_i idx r o st0
    split at h
    · rename_i kk n rs hcell
      split at h
      · rename_i hh
        obtain ⟨⟨hkk, hbn⟩, hbl, hrl⟩ := hh
        cases h
        subst hkk
        obtain ⟨hd, -, he⟩ := xdec hc (by simp)
        simp only [xext, Bool.and_eq_true, decide_eq_true_eq] at he
        obtain ⟨rfl, hfs, ⟨ha, hbk⟩, hty, hfin, hki, hao⟩ := he
        rw [Nat.add_sub_cancel_left] at hd
        have hfo := xFS_ok _ (List.mem_of_getElem? hfs)
        simp only [xFok, xble ha, cond_false] at hfo
        rw [Nat.add_comm 5 a] at hcell
        have hol : o < hp.1.length := (List.getElem?_eq_some_iff.mp hcell).1
        have e0 : hp.1.set o (5 + a, n, rs.set b (some r)) = hp.1.set o (a + 5, n, rs.set b (some r)) := by rw [Nat.add_comm 5 a]
        rw [e0] at k
        refine va_putF (D := D) (ci := a) (ref := ((xcl a).2.1 b).1) (v := .ref (ad r)) hx hb hts (xcw_all a ha) (xcty a) (xty_all a ha) (xnm_all a ha) hown hK hP hD hS o (xw_at hcell) (xcl_at a ha) b hbk (hts _ hfo) (fun _ z => z) hfin (hini hki) (by rw [xdecl_all a ha b hbk, hao]) (xty_all a ha b hbk) (by cases hq : xcty a b <;> rw [hq] at hty <;> first | rfl | cases hty) (by cases hq : xcty a b <;> rw [hq] at hty <;> first | rfl | cases hty) (by simpa using hbn) hd (fun H1 locs1 hP1 hD1 hS1 => ?_)
        have e1 : (xw cT ad hp).set o (ad o, .inr (a, ((List.range n).map (xfv ad a rs (hp.2.1 o))).set b (.ref (ad r)))) = xw cT ad (hp.1.set o (a + 5, n, rs.set b (some r)), hp.2) := by
          rw [← xw_setS hol, xcv_putR hbn hbl hty]
        rw [e1] at hP1 hD1
        exact k H1 locs1 ad cells slots ⟨hK, hP1, hD1, hS1⟩ (fun _ _ => rfl) hL (by simp) (by rw [xsz_set hcell])
      · cases h
    · cases h
  -- aastore
  · rename_i r i o st0
    split at h
    · rename_i n rs kk n2 rs2 hcell hcell2
      split at h
      · rename_i hh
        obtain ⟨⟨hkk, hin⟩, hil⟩ := hh
        cases h
        subst hkk
        obtain ⟨hd, -, he⟩ := xdec hc (by simp)
        simp only [xext, decide_eq_true_eq] at he
        subst he
        rw [Nat.add_sub_cancel_left] at hd
        rw [Nat.add_comm 5 xciT] at hcell2
        have hol : o < hp.1.length := (List.getElem?_eq_some_iff.mp hcell).1
        refine va_astq (tys := xkT cT) (r := xcl xciT) hx hb hK hP hD hS o 4 r xciT (xw_at hcell) rfl (xw_at hcell2) (xcl_at xciT (by decide)) (xin_spec hin) hd (fun H1 locs1 hP1 hD1 hS1 => ?_)
        have e1 : (xw cT ad hp).set o (ad o, .inl (cT 4, n, .inr (.inr (.inr (.inr (va_up (fun j => (rs.getD j none).map ad) i.toNatClampNeg (some (ad r)))))))) = xw cT ad (hp.1.set o (4, n, rs.set i.toNatClampNeg (some r)), hp.2) := by
          rw [← xw_setS hol]
          congr 2
          show _ = Sum.inl (cT 4, n, Sum.inr (Sum.inr (Sum.inr (Sum.inr (fun j => ((rs.set i.toNatClampNeg (some r)).getD j none).map ad)))))
          rw [show va_up (fun j => (rs.getD j none).map ad) i.toNatClampNeg (some (ad r)) = fun j => ((rs.set i.toNatClampNeg (some r)).getD j none).map ad from funext fun j => by
            show (if j = i.toNatClampNeg then some (ad r) else (rs.getD j none).map ad) = _
            rw [List.getD_eq_getElem?_getD, List.getD_eq_getElem?_getD, List.getElem?_set]
            by_cases q : j = i.toNatClampNeg
            · subst q
              rw [if_pos rfl, if_pos rfl, if_pos hil]
              rfl
            · rw [if_neg q, if_neg (fun z => q z.symm)]]
        rw [e1] at hP1 hD1
        exact k H1 locs1 ad cells slots ⟨hK, hP1, hD1, hS1⟩ (fun _ _ => rfl) hL (by simp) (by rw [xsz_set hcell])
      · cases h
    · cases h
  · cases h
end XN
