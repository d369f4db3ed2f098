/-! THE CLAIM OUT OF ONE WALK OF THE LAW'S BODY. Your part is whole_start (and what it stands on); all else here is the same for every law, but numbers. -/
def R_law : String := "JigsawHoleLaw"
def lw_P (b : Addr) (xs : List Int32) (args : Array Value) (s : State) : Prop := args = #[.ref b] ∧ s.IntsAt b xs ∧ xs.length ≤ 3584 ∧ (Jvm.Cond.and given_1 narrow_1).before args s = true
def lw_Q (_ : Array Value) (s : State) (o : Outcome) (t : State) : Prop := o = .returned (some (.int 1)) ∧ Framed s o t [] 600000 7302250
def lw_Z (below : List Frame) (a : Array Value) (s : State) : State → Prop := fun t => ∃ o, t.status = .running ∧ Ended t below o ∧ lw_Q a s o t
/-- the law's own end, with 1 on the stack, nothing written that was there before, its room as the claim has it -/
theorem lw_ret {p : Program} {l : Launch} {e : Env} {s : State} {m : MethodId} {below : List Frame} {meth : Method} {c : Code} {b : Nat} (hx : p.tables.exec = Jvm.exec) (hb : c.code = code) (hr : meth.sig.returnType = ret) (hlocks : meth.locks = false) {pc : Nat} {H : Heap} {ls : Array Slot} (hdg : decode code pc = .ok (.ireturn, 1)) : W p l e room_1 s m #[Value.ref b] below meth c H [] 600000 7302250 (lw_Z below #[Value.ref b] s) (F0 m pc ls [.int 1]) := by
  intro T hT X
  obtain ⟨fs, hret, hrun, hended, hW, hframe⟩ := X.leave (v := some (.int 1)) (hlocks := hlocks) (fun h => by rw [hr] at h; cases h)
  have hmeth' : T.vm.method? m = some meth := X.method'
  refine ⟨T.setFrames fs, ?_, .returned (some (.int 1)), hrun, hended, rfl, ⟨_, rfl⟩, hW, hframe⟩
  jvm_step X.here [X.here.top, hx, hb, hdg, hmeth', hr, ret, narrow_b1]
  (try refine ⟨rfl, ?_⟩); (try refine ⟨rfl, ?_⟩)
  first | (intro acts; rw [hret _ acts rfl rfl rfl]) | rw [hret _ _ rfl rfl rfl]
  exact Steps.refl _
/-- what holds at the law's entry: the machine, the code, the tables' words (any of lw_tbl by 'hts w (by decide +kernel)'), the script of L ints xs at the cell b, what the Statement gives of the start (any of its parts by flat_of_before) -/
def lw_At (p : Program) (s : State) (m : MethodId) (meth : Method) (c : Code) (b L : Nat) (xs : Nat → Int32) : Prop :=
  p.tables.exec = Jvm.exec ∧ c.code = code ∧ meth.sig.returnType = ret ∧ c.maxLocals = 4 ∧ s.vm.findClass R_law = some m.cls ∧ (∀ w ∈ lw_tbl, w.before #[Value.ref b] s = true) ∧ va_X b L xs s s.heap ∧ b < s.heap.size ∧ meth.locks = false ∧ (Jvm.Cond.and given_1 narrow_1).before #[Value.ref b] s = true
/-! THE START: what the Statement gives, as a frame of the law's own method -/
def xlen (i : Nat) : Nat := match i with
  | 0 => 110
  | _ => 9
theorem xlen_str : ∀ i, i < 2 → (xstr i).length = xlen i := by decide +kernel
theorem xlen_g : ∀ i, i < 2 → [110, 9].getD i 0 = (xstr i).length := by decide +kernel
theorem xbyt_g : ∀ i, i < 2 → [xstr 0, xstr 1].getD i [] = xstr i := fun i hi => match i, hi with
  | 0, _ => rfl
  | 1, _ => rfl
  | k + 2, hi => absurd hi (by omega)
theorem xcn_U : xcn xciU = "JigsawHole$Tape" := rfl
abbrev xgv : Jvm.Cond := Jvm.Cond.and given_1 narrow_1
theorem xgv_el {args : Array Value} {s : State} (h : ∀ c ∈ flatC xgv, c.before args s = true) : ∀ i : Nat, i < 2 → ∀ j : Nat, j < xlen i → (Cond.eq (.elem (.field (.string "JigsawHole$Tape" (xsk i)) "java/lang/String" "value" "[B") (.int (Int32.ofNat j))) (.int (([xstr 0, xstr 1].getD i []).getD j 0))).before args s = true := fun i hi j hj => match i, hi, j, hj with
  | 0, _, 0, _ => h _ (List.mem_of_getElem? (i := 13) rfl)
  | 0, _, 1, _ => h _ (List.mem_of_getElem? (i := 14) rfl)
  | 0, _, 2, _ => h _ (List.mem_of_getElem? (i := 15) rfl)
  | 0, _, 3, _ => h _ (List.mem_of_getElem? (i := 16) rfl)
  | 0, _, 4, _ => h _ (List.mem_of_getElem? (i := 17) rfl)
  | 0, _, 5, _ => h _ (List.mem_of_getElem? (i := 18) rfl)
  | 0, _, 6, _ => h _ (List.mem_of_getElem? (i := 19) rfl)
  | 0, _, 7, _ => h _ (List.mem_of_getElem? (i := 20) rfl)
  | 0, _, 8, _ => h _ (List.mem_of_getElem? (i := 21) rfl)
  | 0, _, 9, _ => h _ (List.mem_of_getElem? (i := 22) rfl)
  | 0, _, 10, _ => h _ (List.mem_of_getElem? (i := 23) rfl)
  | 0, _, 11, _ => h _ (List.mem_of_getElem? (i := 24) rfl)
  | 0, _, 12, _ => h _ (List.mem_of_getElem? (i := 25) rfl)
  | 0, _, 13, _ => h _ (List.mem_of_getElem? (i := 26) rfl)
  | 0, _, 14, _ => h _ (List.mem_of_getElem? (i := 27) rfl)
  | 0, _, 15, _ => h _ (List.mem_of_getElem? (i := 28) rfl)
  | 0, _, 16, _ => h _ (List.mem_of_getElem? (i := 29) rfl)
  | 0, _, 17, _ => h _ (List.mem_of_getElem? (i := 30) rfl)
  | 0, _, 18, _ => h _ (List.mem_of_getElem? (i := 31) rfl)
  | 0, _, 19, _ => h _ (List.mem_of_getElem? (i := 32) rfl)
  | 0, _, 20, _ => h _ (List.mem_of_getElem? (i := 33) rfl)
  | 0, _, 21, _ => h _ (List.mem_of_getElem? (i := 34) rfl)
  | 0, _, 22, _ => h _ (List.mem_of_getElem? (i := 35) rfl)
  | 0, _, 23, _ => h _ (List.mem_of_getElem? (i := 36) rfl)
  | 0, _, 24, _ => h _ (List.mem_of_getElem? (i := 37) rfl)
  | 0, _, 25, _ => h _ (List.mem_of_getElem? (i := 38) rfl)
  | 0, _, 26, _ => h _ (List.mem_of_getElem? (i := 39) rfl)
  | 0, _, 27, _ => h _ (List.mem_of_getElem? (i := 40) rfl)
  | 0, _, 28, _ => h _ (List.mem_of_getElem? (i := 41) rfl)
  | 0, _, 29, _ => h _ (List.mem_of_getElem? (i := 42) rfl)
  | 0, _, 30, _ => h _ (List.mem_of_getElem? (i := 43) rfl)
  | 0, _, 31, _ => h _ (List.mem_of_getElem? (i := 44) rfl)
  | 0, _, 32, _ => h _ (List.mem_of_getElem? (i := 45) rfl)
  | 0, _, 33, _ => h _ (List.mem_of_getElem? (i := 46) rfl)
  | 0, _, 34, _ => h _ (List.mem_of_getElem? (i := 47) rfl)
  | 0, _, 35, _ => h _ (List.mem_of_getElem? (i := 48) rfl)
  | 0, _, 36, _ => h _ (List.mem_of_getElem? (i := 49) rfl)
  | 0, _, 37, _ => h _ (List.mem_of_getElem? (i := 50) rfl)
  | 0, _, 38, _ => h _ (List.mem_of_getElem? (i := 51) rfl)
  | 0, _, 39, _ => h _ (List.mem_of_getElem? (i := 52) rfl)
  | 0, _, 40, _ => h _ (List.mem_of_getElem? (i := 53) rfl)
  | 0, _, 41, _ => h _ (List.mem_of_getElem? (i := 54) rfl)
  | 0, _, 42, _ => h _ (List.mem_of_getElem? (i := 55) rfl)
  | 0, _, 43, _ => h _ (List.mem_of_getElem? (i := 56) rfl)
  | 0, _, 44, _ => h _ (List.mem_of_getElem? (i := 57) rfl)
  | 0, _, 45, _ => h _ (List.mem_of_getElem? (i := 58) rfl)
  | 0, _, 46, _ => h _ (List.mem_of_getElem? (i := 59) rfl)
  | 0, _, 47, _ => h _ (List.mem_of_getElem? (i := 60) rfl)
  | 0, _, 48, _ => h _ (List.mem_of_getElem? (i := 61) rfl)
  | 0, _, 49, _ => h _ (List.mem_of_getElem? (i := 62) rfl)
  | 0, _, 50, _ => h _ (List.mem_of_getElem? (i := 63) rfl)
  | 0, _, 51, _ => h _ (List.mem_of_getElem? (i := 64) rfl)
  | 0, _, 52, _ => h _ (List.mem_of_getElem? (i := 65) rfl)
  | 0, _, 53, _ => h _ (List.mem_of_getElem? (i := 66) rfl)
  | 0, _, 54, _ => h _ (List.mem_of_getElem? (i := 67) rfl)
  | 0, _, 55, _ => h _ (List.mem_of_getElem? (i := 68) rfl)
  | 0, _, 56, _ => h _ (List.mem_of_getElem? (i := 69) rfl)
  | 0, _, 57, _ => h _ (List.mem_of_getElem? (i := 70) rfl)
  | 0, _, 58, _ => h _ (List.mem_of_getElem? (i := 71) rfl)
  | 0, _, 59, _ => h _ (List.mem_of_getElem? (i := 72) rfl)
  | 0, _, 60, _ => h _ (List.mem_of_getElem? (i := 73) rfl)
  | 0, _, 61, _ => h _ (List.mem_of_getElem? (i := 74) rfl)
  | 0, _, 62, _ => h _ (List.mem_of_getElem? (i := 75) rfl)
  | 0, _, 63, _ => h _ (List.mem_of_getElem? (i := 76) rfl)
  | 0, _, 64, _ => h _ (List.mem_of_getElem? (i := 77) rfl)
  | 0, _, 65, _ => h _ (List.mem_of_getElem? (i := 78) rfl)
  | 0, _, 66, _ => h _ (List.mem_of_getElem? (i := 79) rfl)
  | 0, _, 67, _ => h _ (List.mem_of_getElem? (i := 80) rfl)
  | 0, _, 68, _ => h _ (List.mem_of_getElem? (i := 81) rfl)
  | 0, _, 69, _ => h _ (List.mem_of_getElem? (i := 82) rfl)
  | 0, _, 70, _ => h _ (List.mem_of_getElem? (i := 83) rfl)
  | 0, _, 71, _ => h _ (List.mem_of_getElem? (i := 84) rfl)
  | 0, _, 72, _ => h _ (List.mem_of_getElem? (i := 85) rfl)
  | 0, _, 73, _ => h _ (List.mem_of_getElem? (i := 86) rfl)
  | 0, _, 74, _ => h _ (List.mem_of_getElem? (i := 87) rfl)
  | 0, _, 75, _ => h _ (List.mem_of_getElem? (i := 88) rfl)
  | 0, _, 76, _ => h _ (List.mem_of_getElem? (i := 89) rfl)
  | 0, _, 77, _ => h _ (List.mem_of_getElem? (i := 90) rfl)
  | 0, _, 78, _ => h _ (List.mem_of_getElem? (i := 91) rfl)
  | 0, _, 79, _ => h _ (List.mem_of_getElem? (i := 92) rfl)
  | 0, _, 80, _ => h _ (List.mem_of_getElem? (i := 93) rfl)
  | 0, _, 81, _ => h _ (List.mem_of_getElem? (i := 94) rfl)
  | 0, _, 82, _ => h _ (List.mem_of_getElem? (i := 95) rfl)
  | 0, _, 83, _ => h _ (List.mem_of_getElem? (i := 96) rfl)
  | 0, _, 84, _ => h _ (List.mem_of_getElem? (i := 97) rfl)
  | 0, _, 85, _ => h _ (List.mem_of_getElem? (i := 98) rfl)
  | 0, _, 86, _ => h _ (List.mem_of_getElem? (i := 99) rfl)
  | 0, _, 87, _ => h _ (List.mem_of_getElem? (i := 100) rfl)
  | 0, _, 88, _ => h _ (List.mem_of_getElem? (i := 101) rfl)
  | 0, _, 89, _ => h _ (List.mem_of_getElem? (i := 102) rfl)
  | 0, _, 90, _ => h _ (List.mem_of_getElem? (i := 103) rfl)
  | 0, _, 91, _ => h _ (List.mem_of_getElem? (i := 104) rfl)
  | 0, _, 92, _ => h _ (List.mem_of_getElem? (i := 105) rfl)
  | 0, _, 93, _ => h _ (List.mem_of_getElem? (i := 106) rfl)
  | 0, _, 94, _ => h _ (List.mem_of_getElem? (i := 107) rfl)
  | 0, _, 95, _ => h _ (List.mem_of_getElem? (i := 108) rfl)
  | 0, _, 96, _ => h _ (List.mem_of_getElem? (i := 109) rfl)
  | 0, _, 97, _ => h _ (List.mem_of_getElem? (i := 110) rfl)
  | 0, _, 98, _ => h _ (List.mem_of_getElem? (i := 111) rfl)
  | 0, _, 99, _ => h _ (List.mem_of_getElem? (i := 112) rfl)
  | 0, _, 100, _ => h _ (List.mem_of_getElem? (i := 113) rfl)
  | 0, _, 101, _ => h _ (List.mem_of_getElem? (i := 114) rfl)
  | 0, _, 102, _ => h _ (List.mem_of_getElem? (i := 115) rfl)
  | 0, _, 103, _ => h _ (List.mem_of_getElem? (i := 116) rfl)
  | 0, _, 104, _ => h _ (List.mem_of_getElem? (i := 117) rfl)
  | 0, _, 105, _ => h _ (List.mem_of_getElem? (i := 118) rfl)
  | 0, _, 106, _ => h _ (List.mem_of_getElem? (i := 119) rfl)
  | 0, _, 107, _ => h _ (List.mem_of_getElem? (i := 120) rfl)
  | 0, _, 108, _ => h _ (List.mem_of_getElem? (i := 121) rfl)
  | 0, _, 109, _ => h _ (List.mem_of_getElem? (i := 122) rfl)
  | 0, _, k + 110, hj => absurd hj (by show ¬ k + 110 < 110; omega)
  | 1, _, 0, _ => h _ (List.mem_of_getElem? (i := 127) rfl)
  | 1, _, 1, _ => h _ (List.mem_of_getElem? (i := 128) rfl)
  | 1, _, 2, _ => h _ (List.mem_of_getElem? (i := 129) rfl)
  | 1, _, 3, _ => h _ (List.mem_of_getElem? (i := 130) rfl)
  | 1, _, 4, _ => h _ (List.mem_of_getElem? (i := 131) rfl)
  | 1, _, 5, _ => h _ (List.mem_of_getElem? (i := 132) rfl)
  | 1, _, 6, _ => h _ (List.mem_of_getElem? (i := 133) rfl)
  | 1, _, 7, _ => h _ (List.mem_of_getElem? (i := 134) rfl)
  | 1, _, 8, _ => h _ (List.mem_of_getElem? (i := 135) rfl)
  | 1, _, k + 9, hj => absurd hj (by show ¬ k + 9 < 9; omega)
  | k + 2, hi, _, _ => absurd hi (by omega)
theorem xgv_ex {args : Array Value} {s : State} (h : ∀ c ∈ flatC xgv, c.before args s = true) : ∀ i : Nat, i < 2 → (Cond.exactly (.string "JigsawHole$Tape" (xsk i)) "java/lang/String").before args s = true := fun i hi => match i, hi with
  | 0, _ => h _ (List.mem_of_getElem? (i := 9) rfl)
  | 1, _ => h _ (List.mem_of_getElem? (i := 123) rfl)
  | k + 2, hi => absurd hi (by omega)
theorem xgv_co {args : Array Value} {s : State} (h : ∀ c ∈ flatC xgv, c.before args s = true) : ∀ i : Nat, i < 2 → (Cond.eq (.field (.string "JigsawHole$Tape" (xsk i)) "java/lang/String" "coder" "B") (.int 0)).before args s = true := fun i hi => match i, hi with
  | 0, _ => h _ (List.mem_of_getElem? (i := 10) rfl)
  | 1, _ => h _ (List.mem_of_getElem? (i := 124) rfl)
  | k + 2, hi => absurd hi (by omega)
theorem xgv_ar {args : Array Value} {s : State} (h : ∀ c ∈ flatC xgv, c.before args s = true) : ∀ i : Nat, i < 2 → (Cond.arrayOf (.field (.string "JigsawHole$Tape" (xsk i)) "java/lang/String" "value" "[B") .byte).before args s = true := fun i hi => match i, hi with
  | 0, _ => h _ (List.mem_of_getElem? (i := 11) rfl)
  | 1, _ => h _ (List.mem_of_getElem? (i := 125) rfl)
  | k + 2, hi => absurd hi (by omega)
theorem xgv_le {args : Array Value} {s : State} (h : ∀ c ∈ flatC xgv, c.before args s = true) : ∀ i : Nat, i < 2 → (Cond.eq (.length (.field (.string "JigsawHole$Tape" (xsk i)) "java/lang/String" "value" "[B")) (.int (Int32.ofNat ([110, 9].getD i 0)))).before args s = true := fun i hi => match i, hi with
  | 0, _ => h _ (List.mem_of_getElem? (i := 12) rfl)
  | 1, _ => h _ (List.mem_of_getElem? (i := 126) rfl)
  | k + 2, hi => absurd hi (by omega)
theorem xgv_ne {args : Array Value} {s : State} (h : ∀ c ∈ flatC xgv, c.before args s = true) : ∀ i j : Nat, i < 2 → j < 2 → i ≠ j → (Cond.not (Cond.eq (.string "JigsawHole$Tape" (xsk i)) (.string "JigsawHole$Tape" (xsk j)))).before args s = true ∨ (Cond.not (Cond.eq (.string "JigsawHole$Tape" (xsk j)) (.string "JigsawHole$Tape" (xsk i)))).before args s = true := fun i j hi hj hij => match i, j, hi, hj with
  | 0, 1, _, _ => Or.inl (h _ (List.mem_of_getElem? (i := 136) rfl))
  | 1, 0, _, _ => Or.inr (h _ (List.mem_of_getElem? (i := 136) rfl))
  | 0, 0, _, _ => absurd rfl hij
  | 1, 1, _, _ => absurd rfl hij
  | k + 2, _, hi, _ => absurd hi (by omega)
  | _, k + 2, _, hj => absurd hj (by omega)
theorem xgv_cs {args : Array Value} {s : State} (h : ∀ c ∈ flatC xgv, c.before args s = true) : (Cond.eq (.static "java/lang/String" "COMPACT_STRINGS" "Z") (.int 1)).before args s = true := h _ (List.mem_of_getElem? (i := 4) rfl)
theorem xgv_sf {args : Array Value} {s : State} (h : ∀ c ∈ flatC xgv, c.before args s = true) : (Cond.isRef (.static "jdk/internal/util/Preconditions" "SIOOBE_FORMATTER" "Ljava/util/function/BiFunction;")).before args s = true := h _ (List.mem_of_getElem? (i := 5) rfl)
theorem xsr_all {args : Array Value} {s : State} (hts : ∀ w ∈ lw_tbl, w.before args s = true) : ∀ i : Nat, i < 2 → (Cond.stringRef (xcn xciU) (xsk i) (xtx i)).before args s = true := fun i hi => match i, hi with
  | 0, _ => hts _ xW_str0
  | 1, _ => hts _ xW_str1
  | k + 2, hi => absurd hi (by omega)
def xad0 (b : Nat) (adK adV : Nat → Nat) : Nat → Nat := fun k => if k = xSCR then b else if k < xSTV then adK (k - xSTR) else adV (k - xSTV)
theorem xad0_c (b : Nat) (adK adV : Nat → Nat) : xad0 b adK adV xSCR = b := by unfold xad0; rw [if_pos rfl]
theorem xad0_k (b : Nat) (adK adV : Nat → Nat) {i : Nat} (hi : i < 2) : xad0 b adK adV (xSTR + i) = adK i := by
  unfold xad0 xSCR xSTR xSTV
  rw [if_neg (by omega), if_pos (by omega), Nat.add_sub_cancel_left]
theorem xad0_v (b : Nat) (adK adV : Nat → Nat) {i : Nat} (hi : i < 2) : xad0 b adK adV (xSTV + i) = adV i := by
  unfold xad0 xSCR xSTR xSTV
  rw [if_neg (by omega), if_neg (by omega), Nat.add_sub_cancel_left]
theorem xarr_of {args : Array Value} {s : State} {ty : FieldType} (hp : ∀ C, ty ≠ .object C) (h : (Cond.arrayClass ty).before args s = true) : ∃ cA : ClassId, ArrOfT s cA ty ∧ va_RA s cA ty := by
  obtain ⟨c, k, comp, h1, h2, h3⟩ := Cond.arrayClass_spec h
  refine ⟨c, fun n z => ⟨fun q hq => (by cases hq), k, h2, comp, h3⟩, ?_⟩
  cases ty <;> first | exact h1 | exact absurd rfl (hp _)
theorem xobj_of {args : Array Value} {s : State} {C : String} (h : (Cond.arrayOver (.object C)).before args s = true) : ∃ cA : ClassId, ArrOfT s cA (.object C) ∧ va_RA s cA (.object C) := by
  obtain ⟨comp, c, k, h1, -, h2, h3, h4⟩ := Cond.arrayOver_spec h
  exact ⟨c, fun n z => ⟨fun q hq => (by cases hq), k, h2, comp, h3⟩, k, comp, h2, h3, h1, h4⟩
theorem xKn_all {args : Array Value} {s : State} (hts : ∀ w ∈ xTBL, w.before args s = true) : ∃ D : va_G, ∀ (c : Nat) (q : vw_C), vwCl[c]? = some q → u_Kn s q.1 q.2.1 q.2.2 (D.1 c) (D.2 c) := by
  have h0 : ∀ c : Nat, ∃ q : ClassId × (Nat → Nat), c < 13 → u_Kn s (xcl c).1 (xcl c).2.1 (xcl c).2.2 q.1 q.2 := by
    intro c
    by_cases hc : c < 13
    · obtain ⟨cC, iS, h⟩ := u_known hts (xcw_all c hc) (hts _ (xNewOk c hc).1)
      exact ⟨(cC, iS), fun _ => h⟩
    · exact ⟨(0, fun _ => 0), fun h => absurd h hc⟩
  obtain ⟨f, hf⟩ := Classical.axiomOfChoice h0
  refine ⟨(fun c => (f c).1, fun c => (f c).2), fun c q hq => ?_⟩
  have hc : c < 13 := (List.getElem?_eq_some_iff.mp hq).1
  have e := (xcl_at c hc).symm.trans hq
  cases e
  exact hf c hc
/-- whole_start, out of a run of the law on the small machine -/
theorem xstart {p : Program} {e : Env} {s : State} {m : MethodId} {below : List Frame} {meth : Method} {c : Code} (l : Launch) {b L : Nat} {xs : Nat → Int32} (C0 : lw_At p s m meth c b L xs)
    (hrun : ∃ (n : Nat) (hp' : XHp), xexec (L, xs) n 64 xlaw 0 [.ref xSCR, .null, .null, .null] [] ([], fun _ _ => 0, fun _ _ => 0) = some (some (.int 1), hp') ∧ hp'.1.length ≤ 600000 ∧ xsz hp'.1 ≤ 7302250) :
    W p l e room_1 s m #[Value.ref b] below meth c s.heap [] 0 0 (lw_Z below #[Value.ref b] s) (entryFrame m ([Value.ref b] : List Value).toArray 4) := by
  obtain ⟨n, hp', hrun, hl1, hl2⟩ := hrun
  obtain ⟨hx, hb, hr, hml, hown, hts, hX, hbl, hlocks, hgv⟩ := id C0
  have hfl := flat_of_before xgv hgv
  have htb : ∀ w ∈ xTBL, w.before #[Value.ref b] s = true := fun w hw => hts w (xTBL_in w hw)
  have hAll : ∀ a : Nat, a < s.heap.size → ¬ (fun q : Nat => s.heap.size ≤ q) a := fun a h => Nat.not_le.mpr h
  obtain ⟨adK, adV, hSt, hev⟩ := vk_Sof (N := 2) (tm := fun i => .string "JigsawHole$Tape" (xsk i)) (len := [110, 9]) (byt := [xstr 0, xstr 1]) (A := fun q : Nat => s.heap.size ≤ q) (by decide) (xgv_ex hfl) (xgv_co hfl) (xgv_ar hfl) (xgv_le hfl)
    (fun i hi j hj => xgv_el hfl i hi j (by
      match i, hi with
      | 0, _ => exact hj
      | 1, _ => exact hj)) (xgv_ne hfl) hAll
  obtain ⟨vS, hvS, hcat⟩ : ∃ vS : Value, va_Z "jdk/internal/util/Preconditions" "SIOOBE_FORMATTER" "Ljava/util/function/BiFunction;" vS (fun q : Nat => s.heap.size ≤ q) s s.heap ∧ vS.category = 1 := by
    rcases va_Zqof (hts _ xW_sf) (htb _ xW_ip) (xgv_sf hfl) hAll with h | ⟨t, h⟩
    · exact ⟨_, h, rfl⟩
    · exact ⟨_, h, rfl⟩
  have hE : xEx (L, xs) (xad0 b adK adV) vS (fun q : Nat => s.heap.size ≤ q) s := by
    refine ⟨?_, fun i hi => ?_, va_Zof (hts _ xW_cs) (htb _ xW_is) (va_eqi (xgv_cs hfl)) hAll, hvS, hcat⟩
    · rw [xad0_c]
      obtain ⟨scr, h1, h2, h3, h4, h5⟩ := hX
      exact ⟨scr, h1, h2, h3, by omega, by rw [h4], h5, hAll b hbl⟩
    · obtain ⟨g1, g2, g3, g4⟩ := hSt.1 i hi
      rw [xad0_k b adK adV hi, xad0_v b adK adV hi]
      have hsr := xsr_all hts i hi
      rw [xcn_U] at hsr ⊢
      refine ⟨g1, g2, g3, ?_, vk_R.of hsr (hev i hi)⟩
      rw [xlen_g i hi, xbyt_g i hi] at g4
      exact g4
  obtain ⟨D, hD⟩ := xKn_all htb
  obtain ⟨c0, k0⟩ := xarr_of (ty := .int) (fun _ h => by cases h) (htb _ xW_i)
  obtain ⟨c1, k1⟩ := xarr_of (ty := .byte) (fun _ h => by cases h) (htb _ xW_b)
  obtain ⟨c2, k2⟩ := xarr_of (ty := .boolean) (fun _ h => by cases h) (htb _ xW_z)
  obtain ⟨c3, k3⟩ := xarr_of (ty := .long) (fun _ h => by cases h) (htb _ xW_l)
  obtain ⟨c4, k4⟩ := xobj_of (hts _ (xNW_in _ xW_ao))
  have hK : va_K D vwCl (xkT (fun k => if k = 0 then c0 else if k = 1 then c1 else if k = 2 then c2 else if k = 3 then c3 else c4)) s := by
    refine ⟨hD, fun k q hq => ?_⟩
    match k, hq with
    | 0, hq => cases hq; exact k0
    | 1, hq => cases hq; exact k1
    | 2, hq => cases hq; exact k2
    | 3, hq => cases hq; exact k3
    | 4, hq => cases hq; exact k4
    | k + 5, hq => simp [xkT] at hq
  generalize (fun k => if k = 0 then c0 else if k = 1 then c1 else if k = 2 then c2 else if k = 3 then c3 else c4) = cT at hK
  have hF : xFr p s m #[Value.ref b] meth c xlaw := ⟨hx, hb, hml, hown, htb, fun w hw => by
    rcases xNW_k w hw with ⟨_, _, _, _, _, _, rfl⟩ | ⟨_, _, _, _, rfl⟩ | rfl
    · exact va_Nw.of rfl (hts _ (xNW_in _ hw))
    · exact va_Nw.of rfl (hts _ (xNW_in _ hw))
    · exact va_AO.of (hts _ (xNW_in _ hw)), hr, hlocks, fun h => absurd h (by decide)⟩
  rw [lg_entry_eq]
  have hent : xent [.ref xSCR] 4 = [.ref xSCR, .null, .null, .null] := rfl
  have hL := xent_LR (ad := xad0 b adK adV) (vS := vS) (vals := [.ref xSCR]) (n := 4) hcat (by decide)
  rw [hent] at hL
  have hmap : [Value.ref xSCR].map (xtr (xad0 b adK adV) vS) = [Value.ref b] := by
    show [Value.ref (xad0 b adK adV xSCR)] = _
    rw [xad0_c]
  rw [hmap] at hL
  have hW0 : xWd D cT (xad0 b adK adV) (fun q : Nat => s.heap.size ≤ q) s s.heap [] ([], fun _ _ => 0, fun _ _ => 0) := ⟨hK, fun k q h => by simp [xw] at h, ⟨fun i j p q h => by simp [xw] at h, fun k q h => by simp [xw] at h⟩, va_S.rf⟩
  refine xsound (L, xs) D cT vS l n 64 xlaw 0 _ [] _ _ _ hrun (A := fun q : Nat => s.heap.size ≤ q) (ad := xad0 b adK adV) hF hE (fun _ h => h) hW0 hL (by decide) (by decide) (by show 0 + _ ≤ 600000 + 0; omega) (by show 0 + _ ≤ 7302250 + 0; omega) ?_
  intro pc' lr' H' locs' ad' cells' slots' hW hag hce hsl hrt
  refine va_forget hW.2.2.2.2.2 ?_
  refine W.widen (k := 600000) (n := 7302250) (by simp [xsz] at hce; omega) (by simp [xsz] at hsl ⊢; unfold xsz at hl2; omega) ?_
  exact lw_ret hx hb hr hlocks hrt.1
