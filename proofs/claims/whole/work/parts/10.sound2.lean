/-! SOUNDNESS, 2: the world, jumps -/
def xkT (cT : Nat → ClassId) : List (ClassId × FieldType) := [(cT 0, .int), (cT 1, .byte), (cT 2, .boolean), (cT 3, .long), (cT 4, .object "JigsawHole$State")]
noncomputable def xfv (ad : Nat → Nat) (ci : Nat) (rs : List (Option Nat)) (f : Nat → Int32) (j : Nat) : Value := match xcty ci j with
  | .int => .int (f j)
  | .boolean => .int (f j)
  | _ => va_rf ((rs.getD j none).map ad)
noncomputable def xcv (cT : Nat → ClassId) (ad : Nat → Nat) (e : XSe) (f : Nat → Int32) (g : Nat → Int64) : va_E := match e with
  | (0, n, _) => .inl (cT 0, n, .inl f)
  | (1, n, _) => .inl (cT 1, n, .inl f)
  | (2, n, _) => .inl (cT 2, n, .inl f)
  | (3, n, _) => .inl (cT 3, n, .inr (.inl g))
  | (4, n, rs) => .inl (cT 4, n, .inr (.inr (.inr (.inr (fun j => (rs.getD j none).map ad)))))
  | (k + 5, n, rs) => .inr (k, (List.range n).map (xfv ad k rs f))
noncomputable def xw (cT : Nat → ClassId) (ad : Nat → Nat) (h : XHp) : va_W := (List.range h.1.length).map (fun k => (ad k, xcv cT ad (h.1.getD k (0, 0, [])) (h.2.1 k) (h.2.2 k)))
theorem xw_len (cT : Nat → ClassId) (ad : Nat → Nat) (h : XHp) : (xw cT ad h).length = h.1.length := by simp [xw]
theorem xw_at {cT : Nat → ClassId} {ad : Nat → Nat} {h : XHp} {k : Nat} {e : XSe} (he : h.1[k]? = some e) : (xw cT ad h)[k]? = some (ad k, xcv cT ad e (h.2.1 k) (h.2.2 k)) := by
  have hk : k < h.1.length := (List.getElem?_eq_some_iff.mp he).1
  unfold xw
  rw [List.getElem?_map, List.getElem?_range hk]
  show some (ad k, xcv cT ad (List.getD h.1 k (0, 0, [])) (h.2.1 k) (h.2.2 k)) = _
  rw [List.getD_eq_getElem?_getD, he]
  rfl
theorem xw_no {cT : Nat → ClassId} {ad : Nat → Nat} {h : XHp} {k : Nat} (hk : h.1.length ≤ k) : (xw cT ad h)[k]? = none := by
  rw [List.getElem?_eq_none_iff, xw_len]; exact hk
theorem xw_ext {cT : Nat → ClassId} {ad : Nat → Nat} {h : XHp} {ws : va_W} (hl : ws.length = h.1.length) (ha : ∀ (k : Nat) (e : XSe), h.1[k]? = some e → ws[k]? = some (ad k, xcv cT ad e (h.2.1 k) (h.2.2 k))) : ws = xw cT ad h := by
  apply List.ext_getElem?
  intro k
  rcases Nat.lt_or_ge k h.1.length with q | q
  · rw [xw_at (List.getElem?_eq_getElem q), ha k _ (List.getElem?_eq_getElem q)]
  · rw [xw_no q, List.getElem?_eq_none_iff, hl]; exact q
theorem xw_setI {cT : Nat → ClassId} {ad : Nat → Nat} {h : XHp} {k : Nat} {e : XSe} (he : h.1[k]? = some e) (f : Nat → Int32) : (xw cT ad h).set k (ad k, xcv cT ad e f (h.2.2 k)) = xw cT ad (h.1, xrow h.2.1 k f, h.2.2) := by
  have hk : k < h.1.length := (List.getElem?_eq_some_iff.mp he).1
  refine xw_ext (by simp [xw_len]) fun j e' hj => ?_
  rw [List.getElem?_set]
  split
  · rename_i e1; subst e1
    cases he.symm.trans hj
    rw [if_pos (by rw [xw_len]; exact hk)]
    simp [xrow]
  · rename_i e1
    rw [xw_at (h := h) (show h.1[j]? = some e' from hj)]
    simp [xrow, Ne.symm e1]
theorem xw_setL {cT : Nat → ClassId} {ad : Nat → Nat} {h : XHp} {k : Nat} {e : XSe} (he : h.1[k]? = some e) (g : Nat → Int64) : (xw cT ad h).set k (ad k, xcv cT ad e (h.2.1 k) g) = xw cT ad (h.1, h.2.1, xrow h.2.2 k g) := by
  have hk : k < h.1.length := (List.getElem?_eq_some_iff.mp he).1
  refine xw_ext (by simp [xw_len]) fun j e' hj => ?_
  rw [List.getElem?_set]
  split
  · rename_i e1; subst e1
    cases he.symm.trans hj
    rw [if_pos (by rw [xw_len]; exact hk)]
    simp [xrow]
  · rename_i e1
    rw [xw_at (h := h) (show h.1[j]? = some e' from hj)]
    simp [xrow, Ne.symm e1]
theorem xw_setS {cT : Nat → ClassId} {ad : Nat → Nat} {h : XHp} {k : Nat} {e : XSe} (hk : k < h.1.length) : (xw cT ad h).set k (ad k, xcv cT ad e (h.2.1 k) (h.2.2 k)) = xw cT ad (h.1.set k e, h.2) := by
  refine xw_ext (by simp [xw_len]) fun j e' hj => ?_
  rw [List.getElem?_set] at hj ⊢
  split
  · rename_i e1; subst e1
    rw [if_pos (by rw [xw_len]; exact hk)]
    rw [if_pos rfl, if_pos hk] at hj
    cases hj
    rfl
  · rename_i e1
    rw [if_neg e1] at hj
    exact xw_at (h := h) hj
/-- the world that a frame stands in -/
def xWd (D : va_G) (cT : Nat → ClassId) (ad : Nat → Nat) (A : Nat → Prop) (s : State) (H : Heap) (locs : List Loc) (h : XHp) : Prop :=
  va_K D vwCl (xkT cT) s ∧ va_P D vwCl (xw cT ad h) H ∧ va_D A (xw cT ad h) ∧ va_S A s.heap H locs
def xtx (i : Nat) : String := if i = 0 then "row knob spare ways taxes wet falls knocks seed if then else across down land joined day same size parts side " else ";=+-*/<()"
/-- what a frame reads that is no cell of the world -/
def xEx (X : XX) (ad : Nat → Nat) (vS : Value) (A : Nat → Prop) (s : State) : Prop :=
  va_T .int (ad xSCR) X.1 (fun j => .int (X.2 j)) A s s.heap ∧
  (∀ i : Nat, i < 2 → va_O "java/lang/String" (ad (xSTR + i)) A s s.heap ∧ va_OF "java/lang/String" "coder" "B" (.int 0) (ad (xSTR + i)) A s s.heap ∧ va_OF "java/lang/String" "value" "[B" (.ref (ad (xSTV + i))) (ad (xSTR + i)) A s s.heap ∧
    va_T .byte (ad (xSTV + i)) (xstr i).length (fun j => .int ((xstr i).getD j 0)) A s s.heap ∧ vk_R (xcn xciU) (xsk i) (xtx i) (ad (xSTR + i)) s) ∧
  va_Z "java/lang/String" "COMPACT_STRINGS" "Z" (.int 1) A s s.heap ∧ va_Z "jdk/internal/util/Preconditions" "SIOOBE_FORMATTER" "Ljava/util/function/BiFunction;" vS A s s.heap ∧ vS.category = 1
section XJ
variable {p : Program} {l : Launch} {e : Env} {R : Room} {s : State} {mid : MethodId} {args : Array Value} {below : List Frame} {meth : Method} {c : Code} {H : Heap} {locs : List Loc} {cells slots : Nat} {Q : State → Prop}
theorem xjmp_ok {ad : Nat → Nat} {vS : Value} {m pc pc' : Nat} {st st' : List Value} {lr : Array Slot} {ins : ClassFile.Instr} {x : Int32} {a b c0 nx : Nat} (hF : xFr p s mid args meth c m)
    (hc : xchk m pc (ins, x, a, b, c0, nx) = true) (h : xjmp ins a nx pc st = some (pc', st'))
    (k : W p l e R s mid args below meth c H locs cells slots Q (F0 mid pc' lr (st'.map (xtr ad vS)))) :
    W p l e R s mid args below meth c H locs cells slots Q (F0 mid pc lr (st.map (xtr ad vS))) := by
  obtain ⟨hx, hb, hml, hown, hts, hnw, hr, hlk, hini⟩ := hF
  unfold xjmp at h
  split at h
  · cases h
    obtain ⟨hd, -, he⟩ := xdec hc (by simp)
    simp only [xext, Bool.and_eq_true, decide_eq_true_eq] at he
    obtain ⟨rfl, he⟩ := he
    rw [Nat.add_sub_cancel_left] at hd
    exact lv_goto hx hb hd he k
  · rename_i cnd off y st0
    cases h
    obtain ⟨hd, -, he⟩ := xdec hc (by simp)
    simp only [xext, Bool.and_eq_true, decide_eq_true_eq] at he
    obtain ⟨rfl, he⟩ := he
    rw [Nat.add_sub_cancel_left] at hd
    cases cnd
    · refine lv_if_eq hx hb hd he (fun q => ?_) (fun q => ?_)
      · rw [show xcnd .eq y 0 = true by simp [xcnd, q]] at k; exact k
      · rw [show xcnd .eq y 0 = false by simp [xcnd, q]] at k; exact k
    · refine lv_if_ne hx hb hd he (fun q => ?_) (fun q => ?_)
      · rw [show xcnd .ne y 0 = true by simp [xcnd, q]] at k; exact k
      · rw [show xcnd .ne y 0 = false by simp [xcnd, q]] at k; exact k
    · refine lv_if_lt hx hb hd he (fun q => ?_) (fun q => ?_)
      · rw [show xcnd .lt y 0 = true by simp only [xcnd, decide_eq_true_eq]; exact q] at k; exact k
      · rw [show xcnd .lt y 0 = false by simp only [xcnd, decide_eq_false_iff_not]; exact q] at k; exact k
    · refine lv_if_ge hx hb hd he (fun q => ?_) (fun q => ?_)
      · rw [show xcnd .ge y 0 = true by simp only [xcnd, decide_eq_true_eq]; exact q] at k; exact k
      · rw [show xcnd .ge y 0 = false by simp only [xcnd, decide_eq_false_iff_not]; exact q] at k; exact k
    · refine lv_if_gt hx hb hd he (fun q => ?_) (fun q => ?_)
      · rw [show xcnd .gt y 0 = true by simp only [xcnd, decide_eq_true_eq]; exact q] at k; exact k
      · rw [show xcnd .gt y 0 = false by simp only [xcnd, decide_eq_false_iff_not]; exact q] at k; exact k
    · refine lv_if_le hx hb hd he (fun q => ?_) (fun q => ?_)
      · rw [show xcnd .le y 0 = true by simp only [xcnd, decide_eq_true_eq]; exact q] at k; exact k
      · rw [show xcnd .le y 0 = false by simp only [xcnd, decide_eq_false_iff_not]; exact q] at k; exact k
  · rename_i cnd off y z st0
    cases h
    obtain ⟨hd, -, he⟩ := xdec hc (by simp)
    simp only [xext, Bool.and_eq_true, decide_eq_true_eq] at he
    obtain ⟨rfl, he⟩ := he
    rw [Nat.add_sub_cancel_left] at hd
    cases cnd
    · refine lv_icmp_eq hx hb hd he (fun q => ?_) (fun q => ?_)
      · rw [show xcnd .eq z y = true by simp [xcnd, q]] at k; exact k
      · rw [show xcnd .eq z y = false by simp [xcnd, q]] at k; exact k
    · refine lv_icmp_ne hx hb hd he (fun q => ?_) (fun q => ?_)
      · rw [show xcnd .ne z y = true by simp [xcnd, q]] at k; exact k
      · rw [show xcnd .ne z y = false by simp [xcnd, q]] at k; exact k
    · refine lv_icmp_lt hx hb hd he (fun q => ?_) (fun q => ?_)
      · rw [show xcnd .lt z y = true by simp only [xcnd, decide_eq_true_eq]; exact q] at k; exact k
      · rw [show xcnd .lt z y = false by simp only [xcnd, decide_eq_false_iff_not]; exact q] at k; exact k
    · refine lv_icmp_ge hx hb hd he (fun q => ?_) (fun q => ?_)
      · rw [show xcnd .ge z y = true by simp only [xcnd, decide_eq_true_eq]; exact q] at k; exact k
      · rw [show xcnd .ge z y = false by simp only [xcnd, decide_eq_false_iff_not]; exact q] at k; exact k
    · refine lv_icmp_gt hx hb hd he (fun q => ?_) (fun q => ?_)
      · rw [show xcnd .gt z y = true by simp only [xcnd, decide_eq_true_eq]; exact q] at k; exact k
      · rw [show xcnd .gt z y = false by simp only [xcnd, decide_eq_false_iff_not]; exact q] at k; exact k
    · refine lv_icmp_le hx hb hd he (fun q => ?_) (fun q => ?_)
      · rw [show xcnd .le z y = true by simp only [xcnd, decide_eq_true_eq]; exact q] at k; exact k
      · rw [show xcnd .le z y = false by simp only [xcnd, decide_eq_false_iff_not]; exact q] at k; exact k
  · rename_i d lo hi offs y st0
    obtain ⟨hd, -, he⟩ := xdec hc (by simp)
    simp only [xext, Bool.and_eq_true, decide_eq_true_eq, List.all_eq_true] at he
    obtain ⟨he1, he2⟩ := he
    split at h
    · rename_i ho
      cases h
      exact lv_tableOut hx hb hd ho he1 k
    · rename_i ho
      split at h
      · rename_i off hoff
        cases h
        have h0 := he2 off (by
          have := Array.mem_of_getElem? hoff
          exact Array.mem_def.mp this)
        exact lv_tableIn hx hb hd (fun q => ho (Or.inl q)) (fun q => ho (Or.inr q)) hoff (Int.toNat_of_nonneg h0).symm k
      · cases h
  · cases h
end XJ
