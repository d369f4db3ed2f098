/-! SOUNDNESS, 1: locals and stack -/
def xtr (ad : Nat → Nat) (vS : Value) (v : Value) : Value := match v with
  | .ref r => .ref (ad r)
  | .float _ => vS
  | v => v
theorem xtr_cat {ad : Nat → Nat} {vS : Value} (hv : vS.category = 1) (v : Value) : (xtr ad vS v).category = v.category := by
  cases v <;> first | rfl | exact hv
theorem xtr_nn {ad : Nat → Nat} {vS : Value} {v : Value} : v = .null ↔ v = .null := Iff.rfl
/-- what a frame of method m knows -/
def xFr (p : Program) (s : State) (mid : MethodId) (args : Array Value) (meth : Method) (c : Code) (m : Nat) : Prop :=
  p.tables.exec = Jvm.exec ∧ c.code = (xmi m).2.2.1 ∧ c.maxLocals = (xmi m).2.2.2.1 ∧ s.vm.findClass (xcn (xmi m).1) = some mid.cls ∧ (∀ w ∈ xTBL, w.before args s = true) ∧ (∀ w ∈ xNW, va_Nw w s) ∧
  meth.sig.returnType = (xmi m).2.2.2.2.1 ∧ meth.locks = false ∧ ((xmi m).2.2.2.2.2.1 = 2 → meth.name = "<init>")
/-- the locals: those of the small machine are held by the real ones -/
def xLR (ad : Nat → Nat) (vS : Value) (ls : List Value) (nL : Nat) (lr : Array Slot) : Prop :=
  ls.length = nL ∧ lr.size = nL ∧ lv_wf lr ∧ ∀ (k : Nat) (v : Value), ls[k]? = some v → v ≠ .null → lr[k]? = some (.val (xtr ad vS v))
def xlv (ad : Nat → Nat) (vS : Value) (ls : List Value) : List (Nat × Value) := (List.range ls.length).filterMap (fun k => match (ls[k]? : Option Value) with
  | some Value.null => none
  | some v => some (k, xtr ad vS v)
  | none => none)
theorem xlv_mem {ad : Nat → Nat} {vS : Value} {ls : List Value} {k : Nat} {w : Value} : (k, w) ∈ xlv ad vS ls ↔ ∃ v, ls[k]? = some v ∧ v ≠ .null ∧ w = xtr ad vS v := by
  unfold xlv
  rw [List.mem_filterMap]
  constructor
  · rintro ⟨j, hj, h⟩
    split at h
    · cases h
    · rename_i v hv hn
      cases h
      exact ⟨v, hn, fun e => hv e, rfl⟩
    · cases h
  · rintro ⟨v, h1, h2, rfl⟩
    refine ⟨k, List.mem_range.mpr (List.getElem?_eq_some_iff.mp h1).1, ?_⟩
    rw [h1]
    cases v <;> first | rfl | exact absurd rfl h2
theorem xLR.has {ad : Nat → Nat} {vS : Value} {ls : List Value} {nL : Nat} {lr : Array Slot} (h : xLR ad vS ls nL lr) : lv_has lr nL (xlv ad vS ls) := by
  refine ⟨h.2.1, h.2.2.1, fun q hq => ?_⟩
  obtain ⟨k, w⟩ := q
  obtain ⟨v, h1, h2, rfl⟩ := xlv_mem.mp hq
  exact h.2.2.2 k v h1 h2
theorem xkill_len (ls : List Value) (i : Nat) : (xkill ls i).length = ls.length := by
  unfold xkill
  split
  · rfl
  · split
    · split <;> simp
    · rfl
theorem xkill_at {ls : List Value} {i k : Nat} {v : Value} (h : (xkill ls i)[k]? = some v) (hn : v ≠ .null) : ls[k]? = some v ∧ ¬ (k + 1 = i ∧ v.category = 2) := by
  unfold xkill at h
  split at h
  · exact ⟨h, fun q => by omega⟩
  · rename_i i
    split at h
    · rename_i w hw
      split at h
      · rename_i hc
        rw [List.getElem?_set] at h
        split at h
        · rename_i e
          split at h
          · cases h; exact absurd rfl hn
          · cases h
        · rename_i e
          exact ⟨h, fun q => e (by omega)⟩
      · rename_i hc
        refine ⟨h, fun q => hc ?_⟩
        have : k = i := by omega
        subst this
        rw [hw] at h
        cases h
        exact q.2
    · rename_i hw
      refine ⟨h, fun q => ?_⟩
      have : k = i := by omega
      subst this
      rw [hw] at h
      cases h
theorem xset1_at {ls : List Value} {i k : Nat} {v w : Value} (h : (xset1 ls i v)[k]? = some w) (hn : w ≠ .null) : (k = i ∧ w = v) ∨ (k ≠ i ∧ ls[k]? = some w ∧ ¬ (k + 1 = i ∧ w.category = 2)) := by
  unfold xset1 at h
  rw [List.getElem?_set] at h
  split at h
  · rename_i e
    split at h
    · cases h; exact Or.inl ⟨e.symm, rfl⟩
    · cases h
  · rename_i e
    obtain ⟨h1, h2⟩ := xkill_at h hn
    exact Or.inr ⟨fun q => e q.symm, h1, h2⟩
theorem xset2_at {ls : List Value} {i k : Nat} {v w : Value} (h : (xset2 ls i v)[k]? = some w) (hn : w ≠ .null) : (k = i ∧ w = v) ∨ (k ≠ i ∧ k ≠ i + 1 ∧ ls[k]? = some w ∧ ¬ (k + 1 = i ∧ w.category = 2)) := by
  unfold xset2 at h
  rw [List.getElem?_set] at h
  split at h
  · split at h
    · cases h; exact absurd rfl hn
    · cases h
  · rename_i e
    rcases xset1_at h hn with q | ⟨q1, q2, q3⟩
    · exact Or.inl q
    · exact Or.inr ⟨q1, fun z => e z.symm, q2, q3⟩
theorem xset1_len (ls : List Value) (i : Nat) (v : Value) : (xset1 ls i v).length = ls.length := by simp [xset1, xkill_len]
theorem xset2_len (ls : List Value) (i : Nat) (v : Value) : (xset2 ls i v).length = ls.length := by simp [xset2, xkill_len]
theorem xLR.put1 {ad : Nat → Nat} {vS : Value} {ls : List Value} {nL : Nat} {lr lr' : Array Slot} {i : Nat} {v : Value} (hv : vS.category = 1) (h : xLR ad vS ls nL lr) (h' : lv_has lr' nL ((i, xtr ad vS v) :: (xlv ad vS ls).filter (fun q => !(q.1 == i) && !(q.1 + 1 == i && q.2.category == 2)))) : xLR ad vS (xset1 ls i v) nL lr' := by
  refine ⟨by rw [xset1_len]; exact h.1, h'.1, h'.2.1, fun k w hk hn => ?_⟩
  rcases xset1_at hk hn with ⟨rfl, rfl⟩ | ⟨q1, q2, q3⟩
  · exact h'.2.2 _ List.mem_cons_self
  · refine h'.2.2 (k, xtr ad vS w) (List.mem_cons_of_mem _ (List.mem_filter.mpr ⟨xlv_mem.mpr ⟨w, q2, hn, rfl⟩, ?_⟩))
    simp only [xtr_cat hv, Bool.and_eq_true, Bool.not_eq_true', beq_eq_false_iff_ne, ne_eq, Bool.and_eq_false_iff]
    refine ⟨q1, ?_⟩
    by_cases z : k + 1 = i
    · exact Or.inr fun y => q3 ⟨z, y⟩
    · exact Or.inl z
theorem xLR.put2 {ad : Nat → Nat} {vS : Value} {ls : List Value} {nL : Nat} {lr lr' : Array Slot} {i : Nat} {v : Value} (hv : vS.category = 1) (h : xLR ad vS ls nL lr) (h' : lv_has lr' nL ((i, xtr ad vS v) :: (xlv ad vS ls).filter (fun q => !(q.1 == i) && (!(q.1 == i + 1) && !(q.1 + 1 == i && q.2.category == 2))))) : xLR ad vS (xset2 ls i v) nL lr' := by
  refine ⟨by rw [xset2_len]; exact h.1, h'.1, h'.2.1, fun k w hk hn => ?_⟩
  rcases xset2_at hk hn with ⟨rfl, rfl⟩ | ⟨q1, q1', q2, q3⟩
  · exact h'.2.2 _ List.mem_cons_self
  · refine h'.2.2 (k, xtr ad vS w) (List.mem_cons_of_mem _ (List.mem_filter.mpr ⟨xlv_mem.mpr ⟨w, q2, hn, rfl⟩, ?_⟩))
    simp only [xtr_cat hv, Bool.and_eq_true, Bool.not_eq_true', beq_eq_false_iff_ne, ne_eq, Bool.and_eq_false_iff]
    refine ⟨q1, q1', ?_⟩
    by_cases z : k + 1 = i
    · exact Or.inr fun y => q3 ⟨z, y⟩
    · exact Or.inl z
section XS
variable {p : Program} {l : Launch} {e : Env} {R : Room} {s : State} {mid : MethodId} {args : Array Value} {below : List Frame} {meth : Method} {c : Code} {H : Heap} {locs : List Loc} {cells slots : Nat} {Q : State → Prop}
theorem xdec {m pc : Nat} {ins : ClassFile.Instr} {x : Int32} {a b k nx : Nat} (h : xchk m pc (ins, x, a, b, k, nx) = true) (hn : ins ≠ .nop) : decode (xmi m).2.2.1 pc = .ok (ins, nx - pc) ∧ pc < nx ∧ xext m pc (ins, x, a, b, k, nx) = true := by
  unfold xchk at h
  split at h
  · rename_i e; cases e; exact absurd rfl hn
  · rename_i e; cases e
    simp only [Bool.and_eq_true, decide_eq_true_eq] at h
    exact h
set_option maxHeartbeats 8000000 in
theorem xs1_ok {ad : Nat → Nat} {vS : Value} {m pc nL : Nat} {ls st ls' st' : List Value} {lr : Array Slot} {ins : ClassFile.Instr} {x : Int32} {a b c0 nx : Nat} (hF : xFr p s mid args meth c m) (hv : vS.category = 1) (hL : xLR ad vS ls nL lr)
    (hz : ∀ i : Nat, i < 2 → vk_R (xcn xciU) (xsk i) (if i = 0 then "row knob spare ways taxes wet falls knocks seed if then else across down land joined day same size parts side " else ";=+-*/<()") (ad (xSTR + i)) s)
    (hc : xchk m pc (ins, x, a, b, c0, nx) = true) (h : xs1 ins x a c0 ls st = some (ls', st'))
    (k : ∀ lr', xLR ad vS ls' nL lr' → W p l e R s mid args below meth c H locs cells slots Q (F0 mid nx lr' (st'.map (xtr ad vS)))) :
    W p l e R s mid args below meth c H locs cells slots Q (F0 mid pc lr (st.map (xtr ad vS))) := by
  obtain ⟨hx, hb, hml, hown, hts, hnw, hr, hlk, hini⟩ := hF
  unfold xs1 at h
  split at h
  · obtain ⟨hd, -, he⟩ := xdec hc (by simp)
    simp only [xext, Bool.and_eq_true, decide_eq_true_eq] at he
    cases h
    obtain ⟨rfl, he⟩ := he
    rw [Nat.add_sub_cancel_left] at hd
    exact lv_iconst hx hb hd he (k lr hL)
  · obtain ⟨hd, -, he⟩ := xdec hc (by simp)
    simp only [xext, Bool.and_eq_true, decide_eq_true_eq] at he
    cases h
    obtain ⟨rfl, he⟩ := he
    rw [Nat.add_sub_cancel_left] at hd
    exact lv_bipush hx hb hd he (k lr hL)
  · obtain ⟨hd, -, he⟩ := xdec hc (by simp)
    simp only [xext, Bool.and_eq_true, decide_eq_true_eq] at he
    cases h
    obtain ⟨rfl, he⟩ := he
    rw [Nat.add_sub_cancel_left] at hd
    exact lv_sipush hx hb hd he (k lr hL)
  · obtain ⟨hd, -, he⟩ := xdec hc (by simp)
    simp only [xext, Bool.and_eq_true, decide_eq_true_eq] at he
    cases h
    obtain ⟨rfl, he⟩ := he
    rw [Nat.add_sub_cancel_left] at hd
    have hk := xKS_ok _ (List.mem_of_getElem? he)
    simp only [xKok] at hk
    exact lv_ldcw hx hb hown (hts _ hk) hd (k lr hL)
  · obtain ⟨hd, -, he⟩ := xdec hc (by simp)
    simp only [xext, Bool.and_eq_true, decide_eq_true_eq] at he
    cases h
    obtain ⟨rfl, he⟩ := he
    rw [Nat.add_sub_cancel_left] at hd
    have hk := xKS_ok _ (List.mem_of_getElem? he)
    simp only [xKok] at hk
    exact lv_ldc hx hb hown (hts _ hk) hd (k lr hL)
  · obtain ⟨hd, -, he⟩ := xdec hc (by simp)
    simp only [xext, Bool.and_eq_true, decide_eq_true_eq] at he
    split at h
    · rename_i ha
      cases h
      obtain ⟨rfl, -, ho, hi⟩ := he
      rw [Nat.add_sub_cancel_left] at hd
      subst hi
      rw [ho] at hown
      exact va_ldcS hx hb hown (hz a ha) hd (k lr hL)
    · cases h
  · obtain ⟨hd, -, he⟩ := xdec hc (by simp)
    simp only [xext, Bool.and_eq_true, decide_eq_true_eq] at he
    cases h
    obtain ⟨rfl, he⟩ := he
    rw [Nat.add_sub_cancel_left] at hd
    exact lv_lconst hx hb hd he (k lr hL)
  · obtain ⟨hd, -, he⟩ := xdec hc (by simp)
    simp only [xext, Bool.and_eq_true, decide_eq_true_eq] at he
    cases h
    obtain ⟨rfl, he⟩ := he
    rw [Nat.add_sub_cancel_left] at hd
    have hk := xKS_ok _ (List.mem_of_getElem? he)
    simp only [xKok] at hk
    exact lv_ldc2 hx hb hown (hts _ hk) hd (k lr hL)
  · obtain ⟨hd, -, he⟩ := xdec hc (by simp)
    simp only [xext, Bool.and_eq_true, decide_eq_true_eq] at he
    obtain ⟨rfl, he⟩ := he
    rw [Nat.add_sub_cancel_left] at hd
    split at h
    · rename_i y hy
      cases h
      exact lv_iload_n hx hb hd he (hL.2.2.2 _ _ hy (by simp)) (k lr hL)
    · cases h
  · obtain ⟨hd, -, he⟩ := xdec hc (by simp)
    simp only [xext, Bool.and_eq_true, decide_eq_true_eq] at he
    obtain ⟨rfl, he⟩ := he
    subst he
    rw [Nat.add_sub_cancel_left] at hd
    split at h
    · rename_i y hy
      cases h
      exact lv_iload hx hb hd (hL.2.2.2 _ _ hy (by simp)) (k lr hL)
    · cases h
  · obtain ⟨hd, -, he⟩ := xdec hc (by simp)
    simp only [xext, Bool.and_eq_true, decide_eq_true_eq] at he
    obtain ⟨rfl, he⟩ := he
    rw [Nat.add_sub_cancel_left] at hd
    split at h
    · rename_i y hy
      cases h
      exact lv_lload_n hx hb hd he (hL.2.2.2 _ _ hy (by simp)) (k lr hL)
    · cases h
  · obtain ⟨hd, -, he⟩ := xdec hc (by simp)
    simp only [xext, Bool.and_eq_true, decide_eq_true_eq] at he
    obtain ⟨rfl, he⟩ := he
    subst he
    rw [Nat.add_sub_cancel_left] at hd
    split at h
    · rename_i y hy
      cases h
      exact lv_lload hx hb hd (hL.2.2.2 _ _ hy (by simp)) (k lr hL)
    · cases h
  · obtain ⟨hd, -, he⟩ := xdec hc (by simp)
    simp only [xext, Bool.and_eq_true, decide_eq_true_eq] at he
    obtain ⟨rfl, he⟩ := he
    rw [Nat.add_sub_cancel_left] at hd
    split at h
    · rename_i y hy
      cases h
      exact lv_aload_n hx hb hd he (hL.2.2.2 _ _ hy (by simp)) (k lr hL)
    · cases h
  · obtain ⟨hd, -, he⟩ := xdec hc (by simp)
    simp only [xext, Bool.and_eq_true, decide_eq_true_eq] at he
    obtain ⟨rfl, he⟩ := he
    subst he
    rw [Nat.add_sub_cancel_left] at hd
    split at h
    · rename_i y hy
      cases h
      exact lv_aload hx hb hd (hL.2.2.2 _ _ hy (by simp)) (k lr hL)
    · cases h
  · obtain ⟨hd, -, he⟩ := xdec hc (by simp)
    simp only [xext, Bool.and_eq_true, decide_eq_true_eq] at he
    obtain ⟨rfl, he⟩ := he
    rw [Nat.add_sub_cancel_left] at hd
    split at h
    · rename_i ha
      cases h
      exact lv_istore_n hx hb hd he hL.has (by rw [← hL.1]; exact ha) rfl (fun lr' h' => k lr' (xLR.put1 hv hL h'))
    · cases h
  · obtain ⟨hd, -, he⟩ := xdec hc (by simp)
    simp only [xext, Bool.and_eq_true, decide_eq_true_eq] at he
    obtain ⟨rfl, he⟩ := he
    subst he
    rw [Nat.add_sub_cancel_left] at hd
    split at h
    · rename_i ha
      cases h
      exact lv_istore hx hb hd hL.has (by rw [← hL.1]; exact ha) rfl (fun lr' h' => k lr' (xLR.put1 hv hL h'))
    · cases h
  · obtain ⟨hd, -, he⟩ := xdec hc (by simp)
    simp only [xext, Bool.and_eq_true, decide_eq_true_eq] at he
    obtain ⟨rfl, he⟩ := he
    rw [Nat.add_sub_cancel_left] at hd
    split at h
    · rename_i ha
      cases h
      exact lv_astore_n hx hb hd he hL.has (by rw [← hL.1]; exact ha) rfl (fun lr' h' => k lr' (xLR.put1 hv hL h'))
    · cases h
  · obtain ⟨hd, -, he⟩ := xdec hc (by simp)
    simp only [xext, Bool.and_eq_true, decide_eq_true_eq] at he
    obtain ⟨rfl, he⟩ := he
    subst he
    rw [Nat.add_sub_cancel_left] at hd
    split at h
    · rename_i ha
      cases h
      exact lv_astore hx hb hd hL.has (by rw [← hL.1]; exact ha) rfl (fun lr' h' => k lr' (xLR.put1 hv hL h'))
    · cases h
  · obtain ⟨hd, -, he⟩ := xdec hc (by simp)
    simp only [xext, Bool.and_eq_true, decide_eq_true_eq] at he
    obtain ⟨rfl, he⟩ := he
    rw [Nat.add_sub_cancel_left] at hd
    split at h
    · rename_i ha
      cases h
      exact lv_lstore_n hx hb hd he hL.has (by rw [← hL.1]; exact ha) rfl (fun lr' h' => k lr' (xLR.put2 hv hL h'))
    · cases h
  · obtain ⟨hd, -, he⟩ := xdec hc (by simp)
    simp only [xext, Bool.and_eq_true, decide_eq_true_eq] at he
    obtain ⟨rfl, he⟩ := he
    subst he
    rw [Nat.add_sub_cancel_left] at hd
    split at h
    · rename_i ha
      cases h
      exact lv_lstore hx hb hd hL.has (by rw [← hL.1]; exact ha) rfl (fun lr' h' => k lr' (xLR.put2 hv hL h'))
    · cases h
  · obtain ⟨hd, -, he⟩ := xdec hc (by simp)
    simp only [xext, Bool.and_eq_true, decide_eq_true_eq] at he
    obtain ⟨rfl, he, hi⟩ := he
    subst he
    rw [Nat.add_sub_cancel_left] at hd
    split at h
    · rename_i y hy
      cases h
      have hh := hL.has
      have hh2 : lv_has lr nL ((_, Value.int y) :: xlv ad vS ls) := ⟨hh.1, hh.2.1, fun q hq => (List.mem_cons.mp hq).elim (fun e => by rw [e]; exact hL.2.2.2 _ _ hy (by simp)) (hh.2.2 q)⟩
      refine lv_iinc (k := 0) hx hb hd hh2 rfl (by rw [hi]) (by rw [← hL.1]; exact (List.getElem?_eq_some_iff.mp hy).1) rfl (fun lr' h' => k lr' (xLR.put1 hv hL ⟨h'.1, h'.2.1, fun q hq => h'.2.2 q ?_⟩))
      rcases List.mem_cons.mp hq with z | z
      · rw [z]; exact List.mem_cons_self
      · obtain ⟨z1, z2⟩ := List.mem_filter.mp z
        exact List.mem_cons_of_mem _ (List.mem_filter.mpr ⟨List.mem_cons_of_mem _ z1, z2⟩)
    · cases h
  · obtain ⟨hd, -, he⟩ := xdec hc (by simp)
    simp only [xext, Bool.and_eq_true, decide_eq_true_eq] at he
    cases h
    subst he
    rw [Nat.add_sub_cancel_left] at hd
    exact lv_iadd hx hb hd (k lr hL)
  · obtain ⟨hd, -, he⟩ := xdec hc (by simp)
    simp only [xext, Bool.and_eq_true, decide_eq_true_eq] at he
    cases h
    subst he
    rw [Nat.add_sub_cancel_left] at hd
    exact lv_isub hx hb hd (k lr hL)
  · obtain ⟨hd, -, he⟩ := xdec hc (by simp)
    simp only [xext, Bool.and_eq_true, decide_eq_true_eq] at he
    cases h
    subst he
    rw [Nat.add_sub_cancel_left] at hd
    exact lv_imul hx hb hd (k lr hL)
  · obtain ⟨hd, -, he⟩ := xdec hc (by simp)
    simp only [xext, Bool.and_eq_true, decide_eq_true_eq] at he
    subst he
    rw [Nat.add_sub_cancel_left] at hd
    split at h
    · cases h
    · rename_i hne
      cases h
      exact lv_idiv hx hb hd hne (k lr hL)
  · obtain ⟨hd, -, he⟩ := xdec hc (by simp)
    simp only [xext, Bool.and_eq_true, decide_eq_true_eq] at he
    subst he
    rw [Nat.add_sub_cancel_left] at hd
    split at h
    · cases h
    · rename_i hne
      cases h
      exact lv_irem hx hb hd hne (k lr hL)
  · obtain ⟨hd, -, he⟩ := xdec hc (by simp)
    simp only [xext, Bool.and_eq_true, decide_eq_true_eq] at he
    cases h
    subst he
    rw [Nat.add_sub_cancel_left] at hd
    exact lv_ineg hx hb hd (k lr hL)
  · obtain ⟨hd, -, he⟩ := xdec hc (by simp)
    simp only [xext, Bool.and_eq_true, decide_eq_true_eq] at he
    cases h
    subst he
    rw [Nat.add_sub_cancel_left] at hd
    exact lv_iand hx hb hd (k lr hL)
  · obtain ⟨hd, -, he⟩ := xdec hc (by simp)
    simp only [xext, Bool.and_eq_true, decide_eq_true_eq] at he
    cases h
    subst he
    rw [Nat.add_sub_cancel_left] at hd
    exact lv_ior hx hb hd (k lr hL)
  · obtain ⟨hd, -, he⟩ := xdec hc (by simp)
    simp only [xext, Bool.and_eq_true, decide_eq_true_eq] at he
    cases h
    subst he
    rw [Nat.add_sub_cancel_left] at hd
    exact lv_ixor hx hb hd (k lr hL)
  · obtain ⟨hd, -, he⟩ := xdec hc (by simp)
    simp only [xext, Bool.and_eq_true, decide_eq_true_eq] at he
    cases h
    subst he
    rw [Nat.add_sub_cancel_left] at hd
    exact lv_ishl hx hb hd (k lr hL)
  · obtain ⟨hd, -, he⟩ := xdec hc (by simp)
    simp only [xext, Bool.and_eq_true, decide_eq_true_eq] at he
    cases h
    subst he
    rw [Nat.add_sub_cancel_left] at hd
    exact lv_ishr hx hb hd (k lr hL)
  · obtain ⟨hd, -, he⟩ := xdec hc (by simp)
    simp only [xext, Bool.and_eq_true, decide_eq_true_eq] at he
    cases h
    subst he
    rw [Nat.add_sub_cancel_left] at hd
    exact lv_iushr hx hb hd rfl (k lr hL)
  · obtain ⟨hd, -, he⟩ := xdec hc (by simp)
    simp only [xext, Bool.and_eq_true, decide_eq_true_eq] at he
    cases h
    subst he
    rw [Nat.add_sub_cancel_left] at hd
    exact lv_ladd hx hb hd (k lr hL)
  · obtain ⟨hd, -, he⟩ := xdec hc (by simp)
    simp only [xext, Bool.and_eq_true, decide_eq_true_eq] at he
    cases h
    subst he
    rw [Nat.add_sub_cancel_left] at hd
    exact lv_lmul hx hb hd (k lr hL)
  · obtain ⟨hd, -, he⟩ := xdec hc (by simp)
    simp only [xext, Bool.and_eq_true, decide_eq_true_eq] at he
    subst he
    rw [Nat.add_sub_cancel_left] at hd
    split at h
    · cases h
    · rename_i hne
      cases h
      exact lv_ldiv hx hb hd hne (k lr hL)
  · obtain ⟨hd, -, he⟩ := xdec hc (by simp)
    simp only [xext, Bool.and_eq_true, decide_eq_true_eq] at he
    subst he
    rw [Nat.add_sub_cancel_left] at hd
    split at h
    · cases h
    · rename_i hne
      cases h
      exact lv_lrem hx hb hd hne (k lr hL)
  · obtain ⟨hd, -, he⟩ := xdec hc (by simp)
    simp only [xext, Bool.and_eq_true, decide_eq_true_eq] at he
    cases h
    subst he
    rw [Nat.add_sub_cancel_left] at hd
    exact W.lcmp hx hb hd (k lr hL)
  · obtain ⟨hd, -, he⟩ := xdec hc (by simp)
    simp only [xext, Bool.and_eq_true, decide_eq_true_eq] at he
    cases h
    subst he
    rw [Nat.add_sub_cancel_left] at hd
    exact lv_i2l hx hb hd rfl (k lr hL)
  · obtain ⟨hd, -, he⟩ := xdec hc (by simp)
    simp only [xext, Bool.and_eq_true, decide_eq_true_eq] at he
    cases h
    subst he
    rw [Nat.add_sub_cancel_left] at hd
    exact lv_l2i hx hb hd rfl (k lr hL)
  · obtain ⟨hd, -, he⟩ := xdec hc (by simp)
    simp only [xext, Bool.and_eq_true, decide_eq_true_eq] at he
    cases h
    subst he
    rw [Nat.add_sub_cancel_left] at hd
    exact lv_i2b hx hb hd rfl (k lr hL)
  · obtain ⟨hd, -, he⟩ := xdec hc (by simp)
    simp only [xext, Bool.and_eq_true, decide_eq_true_eq] at he
    cases h
    subst he
    rw [Nat.add_sub_cancel_left] at hd
    exact lv_i2c hx hb hd rfl (k lr hL)
  · obtain ⟨hd, -, he⟩ := xdec hc (by simp)
    simp only [xext, Bool.and_eq_true, decide_eq_true_eq] at he
    subst he
    rw [Nat.add_sub_cancel_left] at hd
    split at h
    · rename_i hcat
      cases h
      exact lv_dup hx hb hd (by rw [xtr_cat hv]; exact hcat) (k lr hL)
    · cases h
  · obtain ⟨hd, -, he⟩ := xdec hc (by simp)
    simp only [xext, Bool.and_eq_true, decide_eq_true_eq] at he
    subst he
    rw [Nat.add_sub_cancel_left] at hd
    split at h
    · rename_i hcat
      cases h
      exact lv_dup2_11 hx hb hd (by rw [xtr_cat hv]; exact hcat.1) (by rw [xtr_cat hv]; exact hcat.2) (k lr hL)
    · cases h
  · obtain ⟨hd, -, he⟩ := xdec hc (by simp)
    simp only [xext, Bool.and_eq_true, decide_eq_true_eq] at he
    subst he
    rw [Nat.add_sub_cancel_left] at hd
    split at h
    · rename_i hcat
      cases h
      exact lv_pop hx hb hd (by rw [xtr_cat hv]; exact hcat) (k lr hL)
    · cases h
  · cases h
end XS
