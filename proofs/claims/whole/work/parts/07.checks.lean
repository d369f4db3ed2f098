/-! every instruction of the tables is the one that the bytes hold -/
def xkindOf (t : ArrayType) : Nat := match t with
  | .int => 0
  | .byte => 1
  | .boolean => 2
  | .long => 3
  | _ => 9
def xrefT (t : FieldType) : Bool := match t with
  | .object _ => true
  | .array _ => true
  | _ => false
noncomputable def xext (m pc : Nat) (op : XOp) : Bool := match op with
  | (.iconst n, x, _, _, _, nx) => decide (nx = pc + 1) && decide (Int32.ofInt n = x)
  | (.bipush n, x, _, _, _, nx) => decide (nx = pc + 2) && decide ((Int8.ofInt n).toInt32 = x)
  | (.sipush n, x, _, _, _, nx) => decide (nx = pc + 3) && decide ((Int16.ofInt n).toInt32 = x)
  | (.ldc i, x, _, b, 0, nx) => decide (nx = pc + 2) && decide (xKS[b]? = some ((xmi m).1, i, x, 0))
  | (.ldc i, _, a, _, 1, nx) => decide (nx = pc + 2) && (decide (a < 2) && (decide ((xmi m).1 = xciU) && decide (xsk a = i)))
  | (.ldc_w i, x, _, b, _, nx) => decide (nx = pc + 3) && decide (xKS[b]? = some ((xmi m).1, i, x, 0))
  | (.ldc2_w i, x, _, b, _, nx) => decide (nx = pc + 3) && decide (xKS[b]? = some ((xmi m).1, i, x, 1))
  | (.lconst n, x, _, _, _, nx) => decide (nx = pc + 1) && decide (Int64.ofNat (n : Nat) = x.toInt64)
  | (.iload_n k, _, a, _, _, nx) => decide (nx = pc + 1) && decide ((k : Nat) = a)
  | (.lload_n k, _, a, _, _, nx) => decide (nx = pc + 1) && decide ((k : Nat) = a)
  | (.aload_n k, _, a, _, _, nx) => decide (nx = pc + 1) && decide ((k : Nat) = a)
  | (.istore_n k, _, a, _, _, nx) => decide (nx = pc + 1) && decide ((k : Nat) = a)
  | (.lstore_n k, _, a, _, _, nx) => decide (nx = pc + 1) && decide ((k : Nat) = a)
  | (.astore_n k, _, a, _, _, nx) => decide (nx = pc + 1) && decide ((k : Nat) = a)
  | (.iload k, _, a, _, _, nx) => decide (nx = pc + 2) && decide (k = a)
  | (.lload k, _, a, _, _, nx) => decide (nx = pc + 2) && decide (k = a)
  | (.aload k, _, a, _, _, nx) => decide (nx = pc + 2) && decide (k = a)
  | (.istore k, _, a, _, _, nx) => decide (nx = pc + 2) && decide (k = a)
  | (.lstore k, _, a, _, _, nx) => decide (nx = pc + 2) && decide (k = a)
  | (.astore k, _, a, _, _, nx) => decide (nx = pc + 2) && decide (k = a)
  | (.iinc k n, x, a, _, _, nx) => decide (nx = pc + 3) && (decide (k = a) && decide (Int32.ofInt n = x))
  | (.goto off, _, a, _, _, nx) => decide (nx = pc + 3) && decide ((pc : Int) + off = (a : Int))
  | (.ifCond _ off, _, a, _, _, nx) => decide (nx = pc + 3) && decide ((pc : Int) + off = (a : Int))
  | (.if_icmp _ off, _, a, _, _, nx) => decide (nx = pc + 3) && decide ((pc : Int) + off = (a : Int))
  | (.tableswitch d _ _ offs, _, a, _, _, _) => decide ((pc : Int) + d = (a : Int)) && offs.toList.all (fun off => decide (0 ≤ (pc : Int) + off))
  | (.getfield i, x, a, b, 0, nx) => decide (nx = pc + 3) && (decide (xFS[x.toNatClampNeg]? = some ((xmi m).1, i, a, b, 0)) && (decide (a < xncl ∧ b < (xcl a).2.2) && (decide (xcty a b = .int) || decide (xcty a b = .boolean))))
  | (.getfield i, x, a, b, 10, nx) => decide (nx = pc + 3) && (decide (xFS[x.toNatClampNeg]? = some ((xmi m).1, i, a, b, 1)) && (decide (a < xncl ∧ b < (xcl a).2.2) && (decide (xcty a b = .int) || decide (xcty a b = .boolean))))
  | (.getfield i, x, a, b, 2, nx) => decide (nx = pc + 3) && (decide (xFS[x.toNatClampNeg]? = some ((xmi m).1, i, a, b, 0)) && (decide (a < xncl ∧ b < (xcl a).2.2) && xrefT (xcty a b)))
  | (.getfield i, x, a, b, 12, nx) => decide (nx = pc + 3) && (decide (xFS[x.toNatClampNeg]? = some ((xmi m).1, i, a, b, 1)) && (decide (a < xncl ∧ b < (xcl a).2.2) && xrefT (xcty a b)))
  | (.getfield i, _, a, _, 3, nx) => decide (nx = pc + 3) && decide (xFS[a]? = some ((xmi m).1, i, 98, 0, 0))
  | (.getfield i, _, a, _, 4, nx) => decide (nx = pc + 3) && decide (xFS[a]? = some ((xmi m).1, i, 98, 1, 0))
  | (.getstatic i, _, a, _, 5, nx) => decide (nx = pc + 3) && decide (xFS[a]? = some ((xmi m).1, i, 98, 2, 0))
  | (.getstatic i, _, a, _, 6, nx) => decide (nx = pc + 3) && decide (xFS[a]? = some ((xmi m).1, i, 98, 3, 0))
  | (.putfield i, x, a, b, 0, nx) => decide (nx = pc + 3) && (decide (xFS[x.toNatClampNeg]? = some ((xmi m).1, i, a, b, 0)) && (decide (a < xncl ∧ b < (xcl a).2.2) && (decide (xcty a b = .int) && decide (((xcl a).2.1 b).2.2.2 = false))))
  | (.putfield i, x, a, b, 10, nx) => decide (nx = pc + 3) && (decide (xFS[x.toNatClampNeg]? = some ((xmi m).1, i, a, b, 1)) && (decide (a < xncl ∧ b < (xcl a).2.2) && (decide (xcty a b = .int) && decide (((xcl a).2.1 b).2.2.2 = false))))
  | (.putfield i, x, a, b, 1, nx) => decide (nx = pc + 3) && (decide (xFS[x.toNatClampNeg]? = some ((xmi m).1, i, a, b, 0)) && (decide (a < xncl ∧ b < (xcl a).2.2) && (decide (xcty a b = .boolean) && decide (((xcl a).2.1 b).2.2.2 = false))))
  | (.putfield i, x, a, b, 2, nx) => decide (nx = pc + 3) && (decide (xFS[x.toNatClampNeg]? = some ((xmi m).1, i, a, b, 0)) && (decide (a < xncl ∧ b < (xcl a).2.2) && (xrefT (xcty a b) && (decide (((xcl a).2.1 b).2.2.2 = true) && (decide ((xmi m).2.2.2.2.2.1 = 2) && decide (a = (xmi m).1))))))
  | (.new i, _, a, b, c, nx) => decide (nx = pc + 3) && (decide (xMS[c]? = some ((xmi m).1, i, a, 2)) && (decide (a < xncl) && decide (b = (xcl a).2.2)))
  | (.newarray t, _, a, _, _, nx) => decide (nx = pc + 2) && (decide (xkindOf t = a) && decide (a < 4))
  | (.anewarray i, _, _, _, c, nx) => decide (nx = pc + 3) && decide (xMS[c]? = some ((xmi m).1, i, xciT, 2))
  | (.invokestatic i, x, a, b, 20, nx) => decide (nx = pc + 3) && (decide (xMS[x.toNatClampNeg]? = some ((xmi m).1, i, a, 0)) && (decide ((xmi a).2.2.2.2.2 = (0, b)) && decide (a < 800 ∧ a < xnm ∧ a ≠ xlaw)))
  | (.invokestatic i, x, a, b, 30, nx) => decide (nx = pc + 3) && (decide (xMS[x.toNatClampNeg]? = some ((xmi m).1, i, a, 1)) && (decide ((xmi a).2.2.2.2.2 = (0, b)) && decide (a < 800 ∧ a < xnm ∧ a ≠ xlaw)))
  | (.invokevirtual i, x, a, b, 40, nx) => decide (nx = pc + 3) && (decide (xMS[x.toNatClampNeg]? = some ((xmi m).1, i, a, 0)) && (decide ((xmi a).2.2.2.2.2.1 = 1 ∧ (xmi a).2.2.2.2.2.2 + 1 = b) && (decide (a < 800 ∧ a < xnm ∧ a ≠ xlaw) && decide ((xmi a).1 < xncl ∨ (xmi a).1 = xocS))))
  | (.invokespecial i, x, a, b, 60, nx) => decide (nx = pc + 3) && (decide (xMS[x.toNatClampNeg]? = some ((xmi m).1, i, a, 0)) && (decide ((xmi a).2.2.2.2.2.1 = 2 ∧ (xmi a).2.2.2.2.2.2 + 1 = b) && decide (a < 800 ∧ a < xnm ∧ a ≠ xlaw)))
  | (.invokespecial i, x, a, b, 70, nx) => decide (nx = pc + 3) && (decide (xMS[x.toNatClampNeg]? = some ((xmi m).1, i, a, 1)) && (decide ((xmi a).2.2.2.2.2.1 = 2 ∧ (xmi a).2.2.2.2.2.2 + 1 = b) && decide (a < 800 ∧ a < xnm ∧ a ≠ xlaw)))
  | (.invokespecial i, _, a, _, 1, nx) => decide (nx = pc + 3) && decide (xMS[a]? = some ((xmi m).1, i, 900, 0))
  | (.invokestatic i, _, a, _, 2, nx) => decide (nx = pc + 3) && decide (xMS[a]? = some ((xmi m).1, i, 901, 0))
  | (.invokestatic i, _, a, _, 3, nx) => decide (nx = pc + 3) && decide (xMS[a]? = some ((xmi m).1, i, 902, 0))
  | (.invokestatic i, _, a, _, 4, nx) => decide (nx = pc + 3) && decide (xMS[a]? = some ((xmi m).1, i, 903, 0))
  | (.ireturn, _, _, _, 0, nx) => decide (nx = pc + 1) && decide ((xmi m).2.2.2.2.1 = some .int)
  | (.ireturn, _, _, _, 1, nx) => decide (nx = pc + 1) && decide ((xmi m).2.2.2.2.1 = some .boolean)
  | (.ireturn, _, _, _, 2, nx) => decide (nx = pc + 1) && decide ((xmi m).2.2.2.2.1 = some .byte)
  | (.ireturn, _, _, _, 3, nx) => decide (nx = pc + 1) && decide ((xmi m).2.2.2.2.1 = some .char)
  | (.lreturn, _, _, _, _, nx) => decide (nx = pc + 1) && decide ((xmi m).2.2.2.2.1 = some .long)
  | (.return_, _, _, _, _, nx) => decide (nx = pc + 1) && decide ((xmi m).2.2.2.2.1 = none)
  | (.getfield _, _) => false
  | (.putfield _, _) => false
  | (.getstatic _, _) => false
  | (.invokestatic _, _) => false
  | (.invokespecial _, _) => false
  | (.invokevirtual _, _) => false
  | (.ireturn, _) => false
  | (.ldc _, _) => false
  | (_, _, _, _, _, nx) => decide (nx = pc + 1)
noncomputable def xchk (m pc : Nat) (op : XOp) : Bool := match op with
  | (.nop, _) => true
  | (ins, x, a, b, c, nx) => decide (decode (xmi m).2.2.1 pc = .ok (ins, nx - pc)) && (decide (pc < nx) && xext m pc (ins, x, a, b, c, nx))
noncomputable def xchks (m : Nat) (l : List (List (Nat × XOp))) : Bool := l.all (fun ch => ch.all (fun q => xchk m q.1 q.2))
theorem xchk_of {m : Nat} (h : xchks m (xprog m) = true) (pc : Nat) : xchk m pc (xop m pc) = true := by
  unfold xop
  cases hf : ((xprog m).getD (pc / 64) []).find? (fun q => Nat.beq q.1 pc) with
  | none => rfl
  | some q =>
    have h1 := List.find?_some hf
    have h2 := List.mem_of_find?_eq_some hf
    have h3 : Nat.beq q.1 pc = true := h1
    have h4 : q.1 = pc := Nat.eq_of_beq_eq_true h3
    have h5 : ((xprog m).getD (pc / 64) []).all (fun q => xchk m q.1 q.2) = true := by
      rw [List.getD_eq_getElem?_getD]
      cases hg : (xprog m)[pc / 64]? with
      | none => rfl
      | some ch => exact List.all_eq_true.mp h ch (List.mem_of_getElem? hg)
    have h6 := List.all_eq_true.mp h5 q h2
    rw [h4] at h6
    exact h6

set_option maxRecDepth 100000 in
theorem xck0 : xchks 0 xc0 = true := by decide +kernel
set_option maxRecDepth 100000 in
theorem xck1 : xchks 1 xc1 = true := by decide +kernel
set_option maxRecDepth 100000 in
theorem xck2 : xchks 2 xc2 = true := by decide +kernel
set_option maxRecDepth 100000 in
theorem xck3 : xchks 3 xc3 = true := by decide +kernel
set_option maxRecDepth 100000 in
theorem xck4 : xchks 4 xc4 = true := by decide +kernel
set_option maxRecDepth 100000 in
theorem xck5 : xchks 5 xc5 = true := by decide +kernel
set_option maxRecDepth 100000 in
theorem xck6 : xchks 6 xc6 = true := by decide +kernel
set_option maxRecDepth 100000 in
theorem xck7 : xchks 7 xc7 = true := by decide +kernel
set_option maxRecDepth 100000 in
theorem xck8 : xchks 8 xc8 = true := by decide +kernel
set_option maxRecDepth 100000 in
theorem xck9 : xchks 9 xc9 = true := by decide +kernel
set_option maxRecDepth 100000 in
theorem xck10 : xchks 10 xc10 = true := by decide +kernel
set_option maxRecDepth 100000 in
theorem xck11 : xchks 11 xc11 = true := by decide +kernel
set_option maxRecDepth 100000 in
theorem xck12 : xchks 12 xc12 = true := by decide +kernel
set_option maxRecDepth 100000 in
theorem xck13 : xchks 13 xc13 = true := by decide +kernel
set_option maxRecDepth 100000 in
theorem xck14 : xchks 14 xc14 = true := by decide +kernel
set_option maxRecDepth 100000 in
theorem xck15 : xchks 15 xc15 = true := by decide +kernel
set_option maxRecDepth 100000 in
theorem xck16 : xchks 16 xc16 = true := by decide +kernel
set_option maxRecDepth 100000 in
theorem xck17 : xchks 17 xc17 = true := by decide +kernel
set_option maxRecDepth 100000 in
theorem xck18 : xchks 18 xc18 = true := by decide +kernel
set_option maxRecDepth 100000 in
theorem xck19 : xchks 19 xc19 = true := by decide +kernel
set_option maxRecDepth 100000 in
theorem xck20 : xchks 20 xc20 = true := by decide +kernel
set_option maxRecDepth 100000 in
theorem xck21 : xchks 21 xc21 = true := by decide +kernel
set_option maxRecDepth 100000 in
theorem xck22 : xchks 22 xc22 = true := by decide +kernel
set_option maxRecDepth 100000 in
theorem xck23_0 : xc23_0.all (fun q => xchk 23 q.1 q.2) = true := by decide +kernel
set_option maxRecDepth 100000 in
theorem xck23_1 : xc23_1.all (fun q => xchk 23 q.1 q.2) = true := by decide +kernel
set_option maxRecDepth 100000 in
theorem xck23_2 : xc23_2.all (fun q => xchk 23 q.1 q.2) = true := by decide +kernel
set_option maxRecDepth 100000 in
theorem xck23_3 : xc23_3.all (fun q => xchk 23 q.1 q.2) = true := by decide +kernel
set_option maxRecDepth 100000 in
theorem xck23_4 : xc23_4.all (fun q => xchk 23 q.1 q.2) = true := by decide +kernel
set_option maxRecDepth 100000 in
theorem xck23_5 : xc23_5.all (fun q => xchk 23 q.1 q.2) = true := by decide +kernel
set_option maxRecDepth 100000 in
theorem xck23_6 : xc23_6.all (fun q => xchk 23 q.1 q.2) = true := by decide +kernel
set_option maxRecDepth 100000 in
theorem xck23_7 : xc23_7.all (fun q => xchk 23 q.1 q.2) = true := by decide +kernel
set_option maxRecDepth 100000 in
theorem xck23_8 : xc23_8.all (fun q => xchk 23 q.1 q.2) = true := by decide +kernel
set_option maxRecDepth 100000 in
theorem xck23_9 : xc23_9.all (fun q => xchk 23 q.1 q.2) = true := by decide +kernel
set_option maxRecDepth 100000 in
theorem xck23_10 : xc23_10.all (fun q => xchk 23 q.1 q.2) = true := by decide +kernel
set_option maxRecDepth 100000 in
theorem xck23_11 : xc23_11.all (fun q => xchk 23 q.1 q.2) = true := by decide +kernel
set_option maxRecDepth 100000 in
theorem xck23_12 : xc23_12.all (fun q => xchk 23 q.1 q.2) = true := by decide +kernel
theorem xck23 : xchks 23 xc23 = true := List.all_eq_true.mpr ((List.forall_mem_cons.mpr ⟨xck23_0, (List.forall_mem_cons.mpr ⟨xck23_1, (List.forall_mem_cons.mpr ⟨xck23_2, (List.forall_mem_cons.mpr ⟨xck23_3, (List.forall_mem_cons.mpr ⟨xck23_4, (List.forall_mem_cons.mpr ⟨xck23_5, (List.forall_mem_cons.mpr ⟨xck23_6, (List.forall_mem_cons.mpr ⟨xck23_7, (List.forall_mem_cons.mpr ⟨xck23_8, (List.forall_mem_cons.mpr ⟨xck23_9, (List.forall_mem_cons.mpr ⟨xck23_10, (List.forall_mem_cons.mpr ⟨xck23_11, (List.forall_mem_cons.mpr ⟨xck23_12, (fun _ h => absurd h List.not_mem_nil)⟩)⟩)⟩)⟩)⟩)⟩)⟩)⟩)⟩)⟩)⟩)⟩)⟩))
set_option maxRecDepth 100000 in
theorem xck24 : xchks 24 xc24 = true := by decide +kernel
set_option maxRecDepth 100000 in
theorem xck25 : xchks 25 xc25 = true := by decide +kernel
set_option maxRecDepth 100000 in
theorem xck26 : xchks 26 xc26 = true := by decide +kernel
set_option maxRecDepth 100000 in
theorem xck27 : xchks 27 xc27 = true := by decide +kernel
set_option maxRecDepth 100000 in
theorem xck28 : xchks 28 xc28 = true := by decide +kernel
set_option maxRecDepth 100000 in
theorem xck29 : xchks 29 xc29 = true := by decide +kernel
set_option maxRecDepth 100000 in
theorem xck30 : xchks 30 xc30 = true := by decide +kernel
set_option maxRecDepth 100000 in
theorem xck31 : xchks 31 xc31 = true := by decide +kernel
set_option maxRecDepth 100000 in
theorem xck32 : xchks 32 xc32 = true := by decide +kernel
set_option maxRecDepth 100000 in
theorem xck33 : xchks 33 xc33 = true := by decide +kernel
set_option maxRecDepth 100000 in
theorem xck34 : xchks 34 xc34 = true := by decide +kernel
set_option maxRecDepth 100000 in
theorem xck35 : xchks 35 xc35 = true := by decide +kernel
set_option maxRecDepth 100000 in
theorem xck36 : xchks 36 xc36 = true := by decide +kernel
set_option maxRecDepth 100000 in
theorem xck37 : xchks 37 xc37 = true := by decide +kernel
set_option maxRecDepth 100000 in
theorem xck38 : xchks 38 xc38 = true := by decide +kernel
set_option maxRecDepth 100000 in
theorem xck39 : xchks 39 xc39 = true := by decide +kernel
set_option maxRecDepth 100000 in
theorem xck40 : xchks 40 xc40 = true := by decide +kernel
set_option maxRecDepth 100000 in
theorem xck41 : xchks 41 xc41 = true := by decide +kernel
set_option maxRecDepth 100000 in
theorem xck42 : xchks 42 xc42 = true := by decide +kernel
set_option maxRecDepth 100000 in
theorem xck43 : xchks 43 xc43 = true := by decide +kernel
set_option maxRecDepth 100000 in
theorem xck44 : xchks 44 xc44 = true := by decide +kernel
set_option maxRecDepth 100000 in
theorem xck45 : xchks 45 xc45 = true := by decide +kernel
set_option maxRecDepth 100000 in
theorem xck46 : xchks 46 xc46 = true := by decide +kernel
set_option maxRecDepth 100000 in
theorem xck47 : xchks 47 xc47 = true := by decide +kernel
set_option maxRecDepth 100000 in
theorem xck48 : xchks 48 xc48 = true := by decide +kernel
set_option maxRecDepth 100000 in
theorem xck49 : xchks 49 xc49 = true := by decide +kernel
set_option maxRecDepth 100000 in
theorem xck50 : xchks 50 xc50 = true := by decide +kernel
set_option maxRecDepth 100000 in
theorem xck51 : xchks 51 xc51 = true := by decide +kernel
set_option maxRecDepth 100000 in
theorem xck52 : xchks 52 xc52 = true := by decide +kernel
set_option maxRecDepth 100000 in
theorem xck53 : xchks 53 xc53 = true := by decide +kernel
set_option maxRecDepth 100000 in
theorem xck54 : xchks 54 xc54 = true := by decide +kernel
set_option maxRecDepth 100000 in
theorem xck55 : xchks 55 xc55 = true := by decide +kernel
set_option maxRecDepth 100000 in
theorem xck56 : xchks 56 xc56 = true := by decide +kernel
set_option maxRecDepth 100000 in
theorem xck57 : xchks 57 xc57 = true := by decide +kernel
set_option maxRecDepth 100000 in
theorem xck58 : xchks 58 xc58 = true := by decide +kernel
set_option maxRecDepth 100000 in
theorem xck59 : xchks 59 xc59 = true := by decide +kernel
set_option maxRecDepth 100000 in
theorem xck60 : xchks 60 xc60 = true := by decide +kernel
set_option maxRecDepth 100000 in
theorem xck61 : xchks 61 xc61 = true := by decide +kernel
set_option maxRecDepth 100000 in
theorem xck62 : xchks 62 xc62 = true := by decide +kernel
set_option maxRecDepth 100000 in
theorem xck63 : xchks 63 xc63 = true := by decide +kernel
set_option maxRecDepth 100000 in
theorem xck64 : xchks 64 xc64 = true := by decide +kernel
set_option maxRecDepth 100000 in
theorem xck65 : xchks 65 xc65 = true := by decide +kernel
set_option maxRecDepth 100000 in
theorem xck66 : xchks 66 xc66 = true := by decide +kernel
set_option maxRecDepth 100000 in
theorem xck67 : xchks 67 xc67 = true := by decide +kernel
set_option maxRecDepth 100000 in
theorem xck68 : xchks 68 xc68 = true := by decide +kernel
set_option maxRecDepth 100000 in
theorem xck69 : xchks 69 xc69 = true := by decide +kernel
set_option maxRecDepth 100000 in
theorem xck70 : xchks 70 xc70 = true := by decide +kernel
set_option maxRecDepth 100000 in
theorem xck71 : xchks 71 xc71 = true := by decide +kernel
set_option maxRecDepth 100000 in
theorem xck72_0 : xc72_0.all (fun q => xchk 72 q.1 q.2) = true := by decide +kernel
set_option maxRecDepth 100000 in
theorem xck72_1 : xc72_1.all (fun q => xchk 72 q.1 q.2) = true := by decide +kernel
set_option maxRecDepth 100000 in
theorem xck72_2 : xc72_2.all (fun q => xchk 72 q.1 q.2) = true := by decide +kernel
set_option maxRecDepth 100000 in
theorem xck72_3 : xc72_3.all (fun q => xchk 72 q.1 q.2) = true := by decide +kernel
theorem xck72 : xchks 72 xc72 = true := List.all_eq_true.mpr ((List.forall_mem_cons.mpr ⟨xck72_0, (List.forall_mem_cons.mpr ⟨xck72_1, (List.forall_mem_cons.mpr ⟨xck72_2, (List.forall_mem_cons.mpr ⟨xck72_3, (fun _ h => absurd h List.not_mem_nil)⟩)⟩)⟩)⟩))
set_option maxRecDepth 100000 in
theorem xck73 : xchks 73 xc73 = true := by decide +kernel
set_option maxRecDepth 100000 in
theorem xck74 : xchks 74 xc74 = true := by decide +kernel
set_option maxRecDepth 100000 in
theorem xck75 : xchks 75 xc75 = true := by decide +kernel
set_option maxRecDepth 100000 in
theorem xck76 : xchks 76 xc76 = true := by decide +kernel
set_option maxRecDepth 100000 in
theorem xck77 : xchks 77 xc77 = true := by decide +kernel
set_option maxRecDepth 100000 in
theorem xck78 : xchks 78 xc78 = true := by decide +kernel
set_option maxRecDepth 100000 in
theorem xck79 : xchks 79 xc79 = true := by decide +kernel
set_option maxRecDepth 100000 in
theorem xck80 : xchks 80 xc80 = true := by decide +kernel
set_option maxRecDepth 100000 in
theorem xck81 : xchks 81 xc81 = true := by decide +kernel
set_option maxRecDepth 100000 in
theorem xck82_0 : xc82_0.all (fun q => xchk 82 q.1 q.2) = true := by decide +kernel
set_option maxRecDepth 100000 in
theorem xck82_1 : xc82_1.all (fun q => xchk 82 q.1 q.2) = true := by decide +kernel
set_option maxRecDepth 100000 in
theorem xck82_2 : xc82_2.all (fun q => xchk 82 q.1 q.2) = true := by decide +kernel
set_option maxRecDepth 100000 in
theorem xck82_3 : xc82_3.all (fun q => xchk 82 q.1 q.2) = true := by decide +kernel
set_option maxRecDepth 100000 in
theorem xck82_4 : xc82_4.all (fun q => xchk 82 q.1 q.2) = true := by decide +kernel
theorem xck82 : xchks 82 xc82 = true := List.all_eq_true.mpr ((List.forall_mem_cons.mpr ⟨xck82_0, (List.forall_mem_cons.mpr ⟨xck82_1, (List.forall_mem_cons.mpr ⟨xck82_2, (List.forall_mem_cons.mpr ⟨xck82_3, (List.forall_mem_cons.mpr ⟨xck82_4, (fun _ h => absurd h List.not_mem_nil)⟩)⟩)⟩)⟩)⟩))
set_option maxRecDepth 100000 in
theorem xck83 : xchks 83 xc83 = true := by decide +kernel
set_option maxRecDepth 100000 in
theorem xck84 : xchks 84 xc84 = true := by decide +kernel
set_option maxRecDepth 100000 in
theorem xck85 : xchks 85 xc85 = true := by decide +kernel
set_option maxRecDepth 100000 in
theorem xck86 : xchks 86 xc86 = true := by decide +kernel
set_option maxRecDepth 100000 in
theorem xck87 : xchks 87 xc87 = true := by decide +kernel
set_option maxRecDepth 100000 in
theorem xck88 : xchks 88 xc88 = true := by decide +kernel
set_option maxRecDepth 100000 in
theorem xck89 : xchks 89 xc89 = true := by decide +kernel
set_option maxRecDepth 100000 in
theorem xck90 : xchks 90 xc90 = true := by decide +kernel
set_option maxRecDepth 100000 in
theorem xck91_0 : xc91_0.all (fun q => xchk 91 q.1 q.2) = true := by decide +kernel
set_option maxRecDepth 100000 in
theorem xck91_1 : xc91_1.all (fun q => xchk 91 q.1 q.2) = true := by decide +kernel
set_option maxRecDepth 100000 in
theorem xck91_2 : xc91_2.all (fun q => xchk 91 q.1 q.2) = true := by decide +kernel
set_option maxRecDepth 100000 in
theorem xck91_3 : xc91_3.all (fun q => xchk 91 q.1 q.2) = true := by decide +kernel
theorem xck91 : xchks 91 xc91 = true := List.all_eq_true.mpr ((List.forall_mem_cons.mpr ⟨xck91_0, (List.forall_mem_cons.mpr ⟨xck91_1, (List.forall_mem_cons.mpr ⟨xck91_2, (List.forall_mem_cons.mpr ⟨xck91_3, (fun _ h => absurd h List.not_mem_nil)⟩)⟩)⟩)⟩))
set_option maxRecDepth 100000 in
theorem xck92 : xchks 92 xc92 = true := by decide +kernel
set_option maxRecDepth 100000 in
theorem xck93 : xchks 93 xc93 = true := by decide +kernel
set_option maxRecDepth 100000 in
theorem xck94 : xchks 94 xc94 = true := by decide +kernel
set_option maxRecDepth 100000 in
theorem xck95 : xchks 95 xc95 = true := by decide +kernel
set_option maxRecDepth 100000 in
theorem xck96 : xchks 96 xc96 = true := by decide +kernel
set_option maxRecDepth 100000 in
theorem xck97 : xchks 97 xc97 = true := by decide +kernel
set_option maxRecDepth 100000 in
theorem xck98 : xchks 98 xc98 = true := by decide +kernel
set_option maxRecDepth 100000 in
theorem xck99_0 : xc99_0.all (fun q => xchk 99 q.1 q.2) = true := by decide +kernel
set_option maxRecDepth 100000 in
theorem xck99_1 : xc99_1.all (fun q => xchk 99 q.1 q.2) = true := by decide +kernel
set_option maxRecDepth 100000 in
theorem xck99_2 : xc99_2.all (fun q => xchk 99 q.1 q.2) = true := by decide +kernel
set_option maxRecDepth 100000 in
theorem xck99_3 : xc99_3.all (fun q => xchk 99 q.1 q.2) = true := by decide +kernel
set_option maxRecDepth 100000 in
theorem xck99_4 : xc99_4.all (fun q => xchk 99 q.1 q.2) = true := by decide +kernel
theorem xck99 : xchks 99 xc99 = true := List.all_eq_true.mpr ((List.forall_mem_cons.mpr ⟨xck99_0, (List.forall_mem_cons.mpr ⟨xck99_1, (List.forall_mem_cons.mpr ⟨xck99_2, (List.forall_mem_cons.mpr ⟨xck99_3, (List.forall_mem_cons.mpr ⟨xck99_4, (fun _ h => absurd h List.not_mem_nil)⟩)⟩)⟩)⟩)⟩))
set_option maxRecDepth 100000 in
theorem xck100 : xchks 100 xc100 = true := by decide +kernel
set_option maxRecDepth 100000 in
theorem xck101 : xchks 101 xc101 = true := by decide +kernel
set_option maxRecDepth 100000 in
theorem xck102 : xchks 102 xc102 = true := by decide +kernel
set_option maxRecDepth 100000 in
theorem xck103 : xchks 103 xc103 = true := by decide +kernel
set_option maxRecDepth 100000 in
theorem xck104_0 : xc104_0.all (fun q => xchk 104 q.1 q.2) = true := by decide +kernel
set_option maxRecDepth 100000 in
theorem xck104_1 : xc104_1.all (fun q => xchk 104 q.1 q.2) = true := by decide +kernel
set_option maxRecDepth 100000 in
theorem xck104_2 : xc104_2.all (fun q => xchk 104 q.1 q.2) = true := by decide +kernel
set_option maxRecDepth 100000 in
theorem xck104_3 : xc104_3.all (fun q => xchk 104 q.1 q.2) = true := by decide +kernel
set_option maxRecDepth 100000 in
theorem xck104_4 : xc104_4.all (fun q => xchk 104 q.1 q.2) = true := by decide +kernel
theorem xck104 : xchks 104 xc104 = true := List.all_eq_true.mpr ((List.forall_mem_cons.mpr ⟨xck104_0, (List.forall_mem_cons.mpr ⟨xck104_1, (List.forall_mem_cons.mpr ⟨xck104_2, (List.forall_mem_cons.mpr ⟨xck104_3, (List.forall_mem_cons.mpr ⟨xck104_4, (fun _ h => absurd h List.not_mem_nil)⟩)⟩)⟩)⟩)⟩))
set_option maxRecDepth 100000 in
theorem xck105 : xchks 105 xc105 = true := by decide +kernel
set_option maxRecDepth 100000 in
theorem xck106 : xchks 106 xc106 = true := by decide +kernel
set_option maxRecDepth 100000 in
theorem xck107 : xchks 107 xc107 = true := by decide +kernel
set_option maxRecDepth 100000 in
theorem xck108 : xchks 108 xc108 = true := by decide +kernel
set_option maxRecDepth 100000 in
theorem xck109 : xchks 109 xc109 = true := by decide +kernel
set_option maxRecDepth 100000 in
theorem xck110 : xchks 110 xc110 = true := by decide +kernel
set_option maxRecDepth 100000 in
theorem xck111 : xchks 111 xc111 = true := by decide +kernel
set_option maxRecDepth 100000 in
theorem xck112 : xchks 112 xc112 = true := by decide +kernel
set_option maxRecDepth 100000 in
theorem xck113 : xchks 113 xc113 = true := by decide +kernel
set_option maxRecDepth 100000 in
theorem xck114 : xchks 114 xc114 = true := by decide +kernel
set_option maxRecDepth 100000 in
theorem xck115 : xchks 115 xc115 = true := by decide +kernel
set_option maxRecDepth 100000 in
theorem xck116 : xchks 116 xc116 = true := by decide +kernel
set_option maxRecDepth 100000 in
theorem xck117_0 : xc117_0.all (fun q => xchk 117 q.1 q.2) = true := by decide +kernel
set_option maxRecDepth 100000 in
theorem xck117_1 : xc117_1.all (fun q => xchk 117 q.1 q.2) = true := by decide +kernel
set_option maxRecDepth 100000 in
theorem xck117_2 : xc117_2.all (fun q => xchk 117 q.1 q.2) = true := by decide +kernel
set_option maxRecDepth 100000 in
theorem xck117_3 : xc117_3.all (fun q => xchk 117 q.1 q.2) = true := by decide +kernel
theorem xck117 : xchks 117 xc117 = true := List.all_eq_true.mpr ((List.forall_mem_cons.mpr ⟨xck117_0, (List.forall_mem_cons.mpr ⟨xck117_1, (List.forall_mem_cons.mpr ⟨xck117_2, (List.forall_mem_cons.mpr ⟨xck117_3, (fun _ h => absurd h List.not_mem_nil)⟩)⟩)⟩)⟩))
set_option maxRecDepth 100000 in
theorem xck118 : xchks 118 xc118 = true := by decide +kernel
set_option maxRecDepth 100000 in
theorem xck119 : xchks 119 xc119 = true := by decide +kernel
set_option maxRecDepth 100000 in
theorem xck120 : xchks 120 xc120 = true := by decide +kernel
set_option maxRecDepth 100000 in
theorem xck121 : xchks 121 xc121 = true := by decide +kernel
set_option maxRecDepth 100000 in
theorem xck122 : xchks 122 xc122 = true := by decide +kernel
set_option maxRecDepth 100000 in
theorem xck123 : xchks 123 xc123 = true := by decide +kernel
set_option maxRecDepth 100000 in
theorem xck124 : xchks 124 xc124 = true := by decide +kernel
set_option maxRecDepth 100000 in
theorem xck125 : xchks 125 xc125 = true := by decide +kernel
set_option maxRecDepth 100000 in
theorem xck126 : xchks 126 xc126 = true := by decide +kernel
set_option maxRecDepth 100000 in
theorem xck127 : xchks 127 xc127 = true := by decide +kernel
set_option maxRecDepth 100000 in
theorem xck128 : xchks 128 xc128 = true := by decide +kernel
set_option maxRecDepth 100000 in
theorem xck129 : xchks 129 xc129 = true := by decide +kernel
set_option maxRecDepth 100000 in
theorem xck130 : xchks 130 xc130 = true := by decide +kernel
set_option maxRecDepth 100000 in
theorem xck131 : xchks 131 xc131 = true := by decide +kernel
set_option maxRecDepth 100000 in
theorem xck132 : xchks 132 xc132 = true := by decide +kernel
set_option maxRecDepth 100000 in
theorem xck133 : xchks 133 xc133 = true := by decide +kernel
set_option maxRecDepth 100000 in
theorem xck134 : xchks 134 xc134 = true := by decide +kernel
set_option maxRecDepth 100000 in
theorem xck135 : xchks 135 xc135 = true := by decide +kernel
set_option maxRecDepth 100000 in
theorem xck136 : xchks 136 xc136 = true := by decide +kernel
set_option maxRecDepth 100000 in
theorem xck137 : xchks 137 xc137 = true := by decide +kernel
set_option maxRecDepth 100000 in
theorem xck138 : xchks 138 xc138 = true := by decide +kernel
set_option maxRecDepth 100000 in
theorem xck139 : xchks 139 xc139 = true := by decide +kernel
set_option maxRecDepth 100000 in
theorem xck140 : xchks 140 xc140 = true := by decide +kernel
set_option maxRecDepth 100000 in
theorem xck141 : xchks 141 xc141 = true := by decide +kernel
set_option maxRecDepth 100000 in
theorem xck142 : xchks 142 xc142 = true := by decide +kernel
set_option maxRecDepth 100000 in
theorem xck143 : xchks 143 xc143 = true := by decide +kernel
set_option maxRecDepth 100000 in
theorem xck144 : xchks 144 xc144 = true := by decide +kernel
set_option maxRecDepth 100000 in
theorem xck145 : xchks 145 xc145 = true := by decide +kernel
set_option maxRecDepth 100000 in
theorem xck146 : xchks 146 xc146 = true := by decide +kernel
set_option maxRecDepth 100000 in
theorem xck147 : xchks 147 xc147 = true := by decide +kernel
set_option maxRecDepth 100000 in
theorem xck148 : xchks 148 xc148 = true := by decide +kernel
set_option maxRecDepth 100000 in
theorem xck149 : xchks 149 xc149 = true := by decide +kernel
set_option maxRecDepth 100000 in
theorem xck150 : xchks 150 xc150 = true := by decide +kernel
set_option maxRecDepth 100000 in
theorem xck151 : xchks 151 xc151 = true := by decide +kernel
set_option maxRecDepth 100000 in
theorem xck152 : xchks 152 xc152 = true := by decide +kernel
set_option maxRecDepth 100000 in
theorem xck153 : xchks 153 xc153 = true := by decide +kernel
set_option maxRecDepth 100000 in
theorem xck154 : xchks 154 xc154 = true := by decide +kernel
set_option maxRecDepth 100000 in
theorem xck155 : xchks 155 xc155 = true := by decide +kernel
set_option maxRecDepth 100000 in
theorem xck156 : xchks 156 xc156 = true := by decide +kernel
set_option maxRecDepth 100000 in
theorem xck157 : xchks 157 xc157 = true := by decide +kernel
set_option maxRecDepth 100000 in
theorem xck158 : xchks 158 xc158 = true := by decide +kernel
set_option maxRecDepth 100000 in
theorem xck159 : xchks 159 xc159 = true := by decide +kernel
set_option maxRecDepth 100000 in
theorem xck160 : xchks 160 xc160 = true := by decide +kernel
set_option maxRecDepth 100000 in
theorem xck161 : xchks 161 xc161 = true := by decide +kernel
set_option maxRecDepth 100000 in
theorem xck162 : xchks 162 xc162 = true := by decide +kernel
set_option maxRecDepth 100000 in
theorem xck163 : xchks 163 xc163 = true := by decide +kernel
set_option maxRecDepth 100000 in
theorem xck164 : xchks 164 xc164 = true := by decide +kernel
set_option maxRecDepth 100000 in
theorem xck165 : xchks 165 xc165 = true := by decide +kernel
set_option maxRecDepth 100000 in
theorem xck166 : xchks 166 xc166 = true := by decide +kernel
set_option maxRecDepth 100000 in
theorem xck167 : xchks 167 xc167 = true := by decide +kernel
set_option maxRecDepth 100000 in
theorem xck168 : xchks 168 xc168 = true := by decide +kernel
set_option maxRecDepth 100000 in
theorem xck169 : xchks 169 xc169 = true := by decide +kernel
set_option maxRecDepth 100000 in
theorem xck170 : xchks 170 xc170 = true := by decide +kernel
set_option maxRecDepth 100000 in
theorem xck171 : xchks 171 xc171 = true := by decide +kernel
set_option maxRecDepth 100000 in
theorem xck172 : xchks 172 xc172 = true := by decide +kernel
set_option maxRecDepth 100000 in
theorem xck173 : xchks 173 xc173 = true := by decide +kernel
set_option maxRecDepth 100000 in
theorem xck174 : xchks 174 xc174 = true := by decide +kernel
set_option maxRecDepth 100000 in
theorem xck175 : xchks 175 xc175 = true := by decide +kernel
set_option maxRecDepth 100000 in
theorem xck176 : xchks 176 xc176 = true := by decide +kernel
set_option maxRecDepth 100000 in
theorem xck177 : xchks 177 xc177 = true := by decide +kernel
set_option maxRecDepth 100000 in
theorem xck178 : xchks 178 xc178 = true := by decide +kernel
set_option maxRecDepth 100000 in
theorem xck179 : xchks 179 xc179 = true := by decide +kernel
set_option maxRecDepth 100000 in
theorem xck180 : xchks 180 xc180 = true := by decide +kernel
set_option maxRecDepth 100000 in
theorem xck181 : xchks 181 xc181 = true := by decide +kernel
set_option maxRecDepth 100000 in
theorem xck182 : xchks 182 xc182 = true := by decide +kernel
set_option maxRecDepth 100000 in
theorem xck183 : xchks 183 xc183 = true := by decide +kernel
set_option maxRecDepth 100000 in
theorem xck184 : xchks 184 xc184 = true := by decide +kernel
set_option maxRecDepth 100000 in
theorem xck185 : xchks 185 xc185 = true := by decide +kernel
set_option maxRecDepth 100000 in
theorem xck186 : xchks 186 xc186 = true := by decide +kernel
set_option maxRecDepth 100000 in
theorem xck187 : xchks 187 xc187 = true := by decide +kernel
set_option maxRecDepth 100000 in
theorem xck188 : xchks 188 xc188 = true := by decide +kernel
set_option maxRecDepth 100000 in
theorem xck189 : xchks 189 xc189 = true := by decide +kernel
set_option maxRecDepth 100000 in
theorem xck190 : xchks 190 xc190 = true := by decide +kernel
set_option maxRecDepth 100000 in
theorem xck191 : xchks 191 xc191 = true := by decide +kernel
set_option maxRecDepth 100000 in
theorem xck192 : xchks 192 xc192 = true := by decide +kernel
set_option maxRecDepth 100000 in
theorem xck193 : xchks 193 xc193 = true := by decide +kernel
set_option maxRecDepth 100000 in
theorem xck194 : xchks 194 xc194 = true := by decide +kernel
set_option maxRecDepth 100000 in
theorem xck195 : xchks 195 xc195 = true := by decide +kernel
set_option maxRecDepth 100000 in
theorem xck196 : xchks 196 xc196 = true := by decide +kernel
set_option maxRecDepth 100000 in
theorem xck197 : xchks 197 xc197 = true := by decide +kernel
set_option maxRecDepth 100000 in
theorem xck198 : xchks 198 xc198 = true := by decide +kernel
set_option maxRecDepth 100000 in
theorem xck199 : xchks 199 xc199 = true := by decide +kernel
set_option maxRecDepth 100000 in
theorem xck200 : xchks 200 xc200 = true := by decide +kernel
set_option maxRecDepth 100000 in
theorem xck201 : xchks 201 xc201 = true := by decide +kernel
set_option maxRecDepth 100000 in
theorem xck202 : xchks 202 xc202 = true := by decide +kernel
set_option maxRecDepth 100000 in
theorem xck203 : xchks 203 xc203 = true := by decide +kernel
set_option maxRecDepth 100000 in
theorem xck204 : xchks 204 xc204 = true := by decide +kernel
set_option maxRecDepth 100000 in
theorem xck205 : xchks 205 xc205 = true := by decide +kernel
set_option maxRecDepth 100000 in
theorem xck206 : xchks 206 xc206 = true := by decide +kernel
set_option maxRecDepth 100000 in
theorem xck207 : xchks 207 xc207 = true := by decide +kernel
set_option maxRecDepth 100000 in
theorem xck208 : xchks 208 xc208 = true := by decide +kernel
set_option maxRecDepth 100000 in
theorem xck209 : xchks 209 xc209 = true := by decide +kernel
set_option maxRecDepth 100000 in
theorem xck210 : xchks 210 xc210 = true := by decide +kernel
set_option maxRecDepth 100000 in
theorem xck211 : xchks 211 xc211 = true := by decide +kernel
set_option maxRecDepth 100000 in
theorem xck212 : xchks 212 xc212 = true := by decide +kernel
set_option maxRecDepth 100000 in
theorem xck213 : xchks 213 xc213 = true := by decide +kernel
set_option maxRecDepth 100000 in
theorem xck214 : xchks 214 xc214 = true := by decide +kernel
set_option maxRecDepth 100000 in
theorem xck215 : xchks 215 xc215 = true := by decide +kernel
set_option maxRecDepth 100000 in
theorem xck216 : xchks 216 xc216 = true := by decide +kernel
set_option maxRecDepth 100000 in
theorem xck217 : xchks 217 xc217 = true := by decide +kernel
set_option maxRecDepth 100000 in
theorem xck218 : xchks 218 xc218 = true := by decide +kernel
set_option maxRecDepth 100000 in
theorem xck219 : xchks 219 xc219 = true := by decide +kernel
set_option maxRecDepth 100000 in
theorem xck220 : xchks 220 xc220 = true := by decide +kernel
set_option maxRecDepth 100000 in
theorem xck221 : xchks 221 xc221 = true := by decide +kernel
set_option maxRecDepth 100000 in
theorem xck222 : xchks 222 xc222 = true := by decide +kernel
set_option maxRecDepth 100000 in
theorem xck223 : xchks 223 xc223 = true := by decide +kernel
set_option maxRecDepth 100000 in
theorem xck224 : xchks 224 xc224 = true := by decide +kernel
set_option maxRecDepth 100000 in
theorem xck225 : xchks 225 xc225 = true := by decide +kernel
set_option maxRecDepth 100000 in
theorem xck226 : xchks 226 xc226 = true := by decide +kernel
set_option maxRecDepth 100000 in
theorem xck227 : xchks 227 xc227 = true := by decide +kernel
set_option maxRecDepth 100000 in
theorem xck228 : xchks 228 xc228 = true := by decide +kernel
set_option maxRecDepth 100000 in
theorem xck229 : xchks 229 xc229 = true := by decide +kernel
set_option maxRecDepth 100000 in
theorem xck230 : xchks 230 xc230 = true := by decide +kernel
set_option maxRecDepth 100000 in
theorem xck231 : xchks 231 xc231 = true := by decide +kernel
set_option maxRecDepth 100000 in
theorem xck232_0 : xc232_0.all (fun q => xchk 232 q.1 q.2) = true := by decide +kernel
set_option maxRecDepth 100000 in
theorem xck232_1 : xc232_1.all (fun q => xchk 232 q.1 q.2) = true := by decide +kernel
set_option maxRecDepth 100000 in
theorem xck232_2 : xc232_2.all (fun q => xchk 232 q.1 q.2) = true := by decide +kernel
set_option maxRecDepth 100000 in
theorem xck232_3 : xc232_3.all (fun q => xchk 232 q.1 q.2) = true := by decide +kernel
theorem xck232 : xchks 232 xc232 = true := List.all_eq_true.mpr ((List.forall_mem_cons.mpr ⟨xck232_0, (List.forall_mem_cons.mpr ⟨xck232_1, (List.forall_mem_cons.mpr ⟨xck232_2, (List.forall_mem_cons.mpr ⟨xck232_3, (fun _ h => absurd h List.not_mem_nil)⟩)⟩)⟩)⟩))
set_option maxRecDepth 100000 in
theorem xck233 : xchks 233 xc233 = true := by decide +kernel
set_option maxRecDepth 100000 in
theorem xck234 : xchks 234 xc234 = true := by decide +kernel
set_option maxRecDepth 100000 in
theorem xck235 : xchks 235 xc235 = true := by decide +kernel
set_option maxRecDepth 100000 in
theorem xck236 : xchks 236 xc236 = true := by decide +kernel
set_option maxRecDepth 100000 in
theorem xck237_0 : xc237_0.all (fun q => xchk 237 q.1 q.2) = true := by decide +kernel
set_option maxRecDepth 100000 in
theorem xck237_1 : xc237_1.all (fun q => xchk 237 q.1 q.2) = true := by decide +kernel
set_option maxRecDepth 100000 in
theorem xck237_2 : xc237_2.all (fun q => xchk 237 q.1 q.2) = true := by decide +kernel
set_option maxRecDepth 100000 in
theorem xck237_3 : xc237_3.all (fun q => xchk 237 q.1 q.2) = true := by decide +kernel
set_option maxRecDepth 100000 in
theorem xck237_4 : xc237_4.all (fun q => xchk 237 q.1 q.2) = true := by decide +kernel
theorem xck237 : xchks 237 xc237 = true := List.all_eq_true.mpr ((List.forall_mem_cons.mpr ⟨xck237_0, (List.forall_mem_cons.mpr ⟨xck237_1, (List.forall_mem_cons.mpr ⟨xck237_2, (List.forall_mem_cons.mpr ⟨xck237_3, (List.forall_mem_cons.mpr ⟨xck237_4, (fun _ h => absurd h List.not_mem_nil)⟩)⟩)⟩)⟩)⟩))
set_option maxRecDepth 100000 in
theorem xck238 : xchks 238 xc238 = true := by decide +kernel
set_option maxRecDepth 100000 in
theorem xck239 : xchks 239 xc239 = true := by decide +kernel
set_option maxRecDepth 100000 in
theorem xck240 : xchks 240 xc240 = true := by decide +kernel
set_option maxRecDepth 100000 in
theorem xck241 : xchks 241 xc241 = true := by decide +kernel
set_option maxRecDepth 100000 in
theorem xck242 : xchks 242 xc242 = true := by decide +kernel
set_option maxRecDepth 100000 in
theorem xck243 : xchks 243 xc243 = true := by decide +kernel
set_option maxRecDepth 100000 in
theorem xck244_0 : xc244_0.all (fun q => xchk 244 q.1 q.2) = true := by decide +kernel
set_option maxRecDepth 100000 in
theorem xck244_1 : xc244_1.all (fun q => xchk 244 q.1 q.2) = true := by decide +kernel
set_option maxRecDepth 100000 in
theorem xck244_2 : xc244_2.all (fun q => xchk 244 q.1 q.2) = true := by decide +kernel
set_option maxRecDepth 100000 in
theorem xck244_3 : xc244_3.all (fun q => xchk 244 q.1 q.2) = true := by decide +kernel
theorem xck244 : xchks 244 xc244 = true := List.all_eq_true.mpr ((List.forall_mem_cons.mpr ⟨xck244_0, (List.forall_mem_cons.mpr ⟨xck244_1, (List.forall_mem_cons.mpr ⟨xck244_2, (List.forall_mem_cons.mpr ⟨xck244_3, (fun _ h => absurd h List.not_mem_nil)⟩)⟩)⟩)⟩))
set_option maxRecDepth 100000 in
theorem xck245 : xchks 245 xc245 = true := by decide +kernel
set_option maxRecDepth 100000 in
theorem xck246 : xchks 246 xc246 = true := by decide +kernel
set_option maxRecDepth 100000 in
theorem xck247 : xchks 247 xc247 = true := by decide +kernel
set_option maxRecDepth 100000 in
theorem xck248 : xchks 248 xc248 = true := by decide +kernel
set_option maxRecDepth 100000 in
theorem xck249 : xchks 249 xc249 = true := by decide +kernel
set_option maxRecDepth 100000 in
theorem xck250 : xchks 250 xc250 = true := by decide +kernel
set_option maxRecDepth 100000 in
theorem xck251 : xchks 251 xc251 = true := by decide +kernel
set_option maxRecDepth 100000 in
theorem xck252 : xchks 252 xc252 = true := by decide +kernel
set_option maxRecDepth 100000 in
theorem xck253 : xchks 253 xc253 = true := by decide +kernel
set_option maxRecDepth 100000 in
theorem xck254 : xchks 254 xc254 = true := by decide +kernel
set_option maxRecDepth 100000 in
theorem xck255 : xchks 255 xc255 = true := by decide +kernel
set_option maxRecDepth 100000 in
theorem xck256 : xchks 256 xc256 = true := by decide +kernel
set_option maxRecDepth 100000 in
theorem xck257 : xchks 257 xc257 = true := by decide +kernel
set_option maxRecDepth 100000 in
theorem xck258 : xchks 258 xc258 = true := by decide +kernel
set_option maxRecDepth 100000 in
theorem xck259 : xchks 259 xc259 = true := by decide +kernel
set_option maxRecDepth 100000 in
theorem xck260 : xchks 260 xc260 = true := by decide +kernel
set_option maxRecDepth 100000 in
theorem xck261 : xchks 261 xc261 = true := by decide +kernel
set_option maxRecDepth 100000 in
theorem xck262 : xchks 262 xc262 = true := by decide +kernel
set_option maxRecDepth 100000 in
theorem xck263 : xchks 263 xc263 = true := by decide +kernel
set_option maxRecDepth 100000 in
theorem xck264 : xchks 264 xc264 = true := by decide +kernel
set_option maxRecDepth 100000 in
theorem xck265 : xchks 265 xc265 = true := by decide +kernel
set_option maxRecDepth 100000 in
theorem xck266 : xchks 266 xc266 = true := by decide +kernel
set_option maxRecDepth 100000 in
theorem xck267 : xchks 267 xc267 = true := by decide +kernel
set_option maxRecDepth 100000 in
theorem xck268 : xchks 268 xc268 = true := by decide +kernel
set_option maxRecDepth 100000 in
theorem xck269 : xchks 269 xc269 = true := by decide +kernel
set_option maxRecDepth 100000 in
theorem xck270 : xchks 270 xc270 = true := by decide +kernel
set_option maxRecDepth 100000 in
theorem xck271 : xchks 271 xc271 = true := by decide +kernel
set_option maxRecDepth 100000 in
theorem xck272 : xchks 272 xc272 = true := by decide +kernel
set_option maxRecDepth 100000 in
theorem xck273 : xchks 273 xc273 = true := by decide +kernel
set_option maxRecDepth 100000 in
theorem xck274 : xchks 274 xc274 = true := by decide +kernel
set_option maxRecDepth 100000 in
theorem xck275 : xchks 275 xc275 = true := by decide +kernel
set_option maxRecDepth 100000 in
theorem xck276 : xchks 276 xc276 = true := by decide +kernel
set_option maxRecDepth 100000 in
theorem xck277 : xchks 277 xc277 = true := by decide +kernel
set_option maxRecDepth 100000 in
theorem xck278 : xchks 278 xc278 = true := by decide +kernel
set_option maxRecDepth 100000 in
theorem xck279 : xchks 279 xc279 = true := by decide +kernel
set_option maxRecDepth 100000 in
theorem xck280 : xchks 280 xc280 = true := by decide +kernel
set_option maxRecDepth 100000 in
theorem xck281 : xchks 281 xc281 = true := by decide +kernel
set_option maxRecDepth 100000 in
theorem xck282 : xchks 282 xc282 = true := by decide +kernel
set_option maxRecDepth 100000 in
theorem xck283_0 : xc283_0.all (fun q => xchk 283 q.1 q.2) = true := by decide +kernel
set_option maxRecDepth 100000 in
theorem xck283_1 : xc283_1.all (fun q => xchk 283 q.1 q.2) = true := by decide +kernel
set_option maxRecDepth 100000 in
theorem xck283_2 : xc283_2.all (fun q => xchk 283 q.1 q.2) = true := by decide +kernel
set_option maxRecDepth 100000 in
theorem xck283_3 : xc283_3.all (fun q => xchk 283 q.1 q.2) = true := by decide +kernel
theorem xck283 : xchks 283 xc283 = true := List.all_eq_true.mpr ((List.forall_mem_cons.mpr ⟨xck283_0, (List.forall_mem_cons.mpr ⟨xck283_1, (List.forall_mem_cons.mpr ⟨xck283_2, (List.forall_mem_cons.mpr ⟨xck283_3, (fun _ h => absurd h List.not_mem_nil)⟩)⟩)⟩)⟩))
set_option maxRecDepth 100000 in
theorem xck284 : xchks 284 xc284 = true := by decide +kernel
set_option maxRecDepth 100000 in
theorem xck285 : xchks 285 xc285 = true := by decide +kernel
set_option maxRecDepth 100000 in
theorem xck286 : xchks 286 xc286 = true := by decide +kernel
set_option maxRecDepth 100000 in
theorem xck287 : xchks 287 xc287 = true := by decide +kernel
set_option maxRecDepth 100000 in
theorem xck288 : xchks 288 xc288 = true := by decide +kernel
set_option maxRecDepth 100000 in
theorem xck289 : xchks 289 xc289 = true := by decide +kernel
set_option maxRecDepth 100000 in
theorem xck290 : xchks 290 xc290 = true := by decide +kernel
set_option maxRecDepth 100000 in
theorem xck291 : xchks 291 xc291 = true := by decide +kernel
set_option maxRecDepth 100000 in
theorem xck292 : xchks 292 xc292 = true := by decide +kernel
set_option maxRecDepth 100000 in
theorem xck293_0 : xc293_0.all (fun q => xchk 293 q.1 q.2) = true := by decide +kernel
set_option maxRecDepth 100000 in
theorem xck293_1 : xc293_1.all (fun q => xchk 293 q.1 q.2) = true := by decide +kernel
set_option maxRecDepth 100000 in
theorem xck293_2 : xc293_2.all (fun q => xchk 293 q.1 q.2) = true := by decide +kernel
set_option maxRecDepth 100000 in
theorem xck293_3 : xc293_3.all (fun q => xchk 293 q.1 q.2) = true := by decide +kernel
set_option maxRecDepth 100000 in
theorem xck293_4 : xc293_4.all (fun q => xchk 293 q.1 q.2) = true := by decide +kernel
set_option maxRecDepth 100000 in
theorem xck293_5 : xc293_5.all (fun q => xchk 293 q.1 q.2) = true := by decide +kernel
theorem xck293 : xchks 293 xc293 = true := List.all_eq_true.mpr ((List.forall_mem_cons.mpr ⟨xck293_0, (List.forall_mem_cons.mpr ⟨xck293_1, (List.forall_mem_cons.mpr ⟨xck293_2, (List.forall_mem_cons.mpr ⟨xck293_3, (List.forall_mem_cons.mpr ⟨xck293_4, (List.forall_mem_cons.mpr ⟨xck293_5, (fun _ h => absurd h List.not_mem_nil)⟩)⟩)⟩)⟩)⟩)⟩))
set_option maxRecDepth 100000 in
theorem xck294_0 : xc294_0.all (fun q => xchk 294 q.1 q.2) = true := by decide +kernel
set_option maxRecDepth 100000 in
theorem xck294_1 : xc294_1.all (fun q => xchk 294 q.1 q.2) = true := by decide +kernel
set_option maxRecDepth 100000 in
theorem xck294_2 : xc294_2.all (fun q => xchk 294 q.1 q.2) = true := by decide +kernel
set_option maxRecDepth 100000 in
theorem xck294_3 : xc294_3.all (fun q => xchk 294 q.1 q.2) = true := by decide +kernel
set_option maxRecDepth 100000 in
theorem xck294_4 : xc294_4.all (fun q => xchk 294 q.1 q.2) = true := by decide +kernel
set_option maxRecDepth 100000 in
theorem xck294_5 : xc294_5.all (fun q => xchk 294 q.1 q.2) = true := by decide +kernel
set_option maxRecDepth 100000 in
theorem xck294_6 : xc294_6.all (fun q => xchk 294 q.1 q.2) = true := by decide +kernel
set_option maxRecDepth 100000 in
theorem xck294_7 : xc294_7.all (fun q => xchk 294 q.1 q.2) = true := by decide +kernel
set_option maxRecDepth 100000 in
theorem xck294_8 : xc294_8.all (fun q => xchk 294 q.1 q.2) = true := by decide +kernel
set_option maxRecDepth 100000 in
theorem xck294_9 : xc294_9.all (fun q => xchk 294 q.1 q.2) = true := by decide +kernel
set_option maxRecDepth 100000 in
theorem xck294_10 : xc294_10.all (fun q => xchk 294 q.1 q.2) = true := by decide +kernel
set_option maxRecDepth 100000 in
theorem xck294_11 : xc294_11.all (fun q => xchk 294 q.1 q.2) = true := by decide +kernel
set_option maxRecDepth 100000 in
theorem xck294_12 : xc294_12.all (fun q => xchk 294 q.1 q.2) = true := by decide +kernel
set_option maxRecDepth 100000 in
theorem xck294_13 : xc294_13.all (fun q => xchk 294 q.1 q.2) = true := by decide +kernel
set_option maxRecDepth 100000 in
theorem xck294_14 : xc294_14.all (fun q => xchk 294 q.1 q.2) = true := by decide +kernel
set_option maxRecDepth 100000 in
theorem xck294_15 : xc294_15.all (fun q => xchk 294 q.1 q.2) = true := by decide +kernel
set_option maxRecDepth 100000 in
theorem xck294_16 : xc294_16.all (fun q => xchk 294 q.1 q.2) = true := by decide +kernel
set_option maxRecDepth 100000 in
theorem xck294_17 : xc294_17.all (fun q => xchk 294 q.1 q.2) = true := by decide +kernel
set_option maxRecDepth 100000 in
theorem xck294_18 : xc294_18.all (fun q => xchk 294 q.1 q.2) = true := by decide +kernel
set_option maxRecDepth 100000 in
theorem xck294_19 : xc294_19.all (fun q => xchk 294 q.1 q.2) = true := by decide +kernel
set_option maxRecDepth 100000 in
theorem xck294_20 : xc294_20.all (fun q => xchk 294 q.1 q.2) = true := by decide +kernel
set_option maxRecDepth 100000 in
theorem xck294_21 : xc294_21.all (fun q => xchk 294 q.1 q.2) = true := by decide +kernel
set_option maxRecDepth 100000 in
theorem xck294_22 : xc294_22.all (fun q => xchk 294 q.1 q.2) = true := by decide +kernel
theorem xck294 : xchks 294 xc294 = true := List.all_eq_true.mpr ((List.forall_mem_cons.mpr ⟨xck294_0, (List.forall_mem_cons.mpr ⟨xck294_1, (List.forall_mem_cons.mpr ⟨xck294_2, (List.forall_mem_cons.mpr ⟨xck294_3, (List.forall_mem_cons.mpr ⟨xck294_4, (List.forall_mem_cons.mpr ⟨xck294_5, (List.forall_mem_cons.mpr ⟨xck294_6, (List.forall_mem_cons.mpr ⟨xck294_7, (List.forall_mem_cons.mpr ⟨xck294_8, (List.forall_mem_cons.mpr ⟨xck294_9, (List.forall_mem_cons.mpr ⟨xck294_10, (List.forall_mem_cons.mpr ⟨xck294_11, (List.forall_mem_cons.mpr ⟨xck294_12, (List.forall_mem_cons.mpr ⟨xck294_13, (List.forall_mem_cons.mpr ⟨xck294_14, (List.forall_mem_cons.mpr ⟨xck294_15, (List.forall_mem_cons.mpr ⟨xck294_16, (List.forall_mem_cons.mpr ⟨xck294_17, (List.forall_mem_cons.mpr ⟨xck294_18, (List.forall_mem_cons.mpr ⟨xck294_19, (List.forall_mem_cons.mpr ⟨xck294_20, (List.forall_mem_cons.mpr ⟨xck294_21, (List.forall_mem_cons.mpr ⟨xck294_22, (fun _ h => absurd h List.not_mem_nil)⟩)⟩)⟩)⟩)⟩)⟩)⟩)⟩)⟩)⟩)⟩)⟩)⟩)⟩)⟩)⟩)⟩)⟩)⟩)⟩)⟩)⟩)⟩))
theorem xck_lt : ∀ m, m < 295 → xchks m (xprog m) = true := fun m h => match m, h with
  | 0, _ => xck0
  | 1, _ => xck1
  | 2, _ => xck2
  | 3, _ => xck3
  | 4, _ => xck4
  | 5, _ => xck5
  | 6, _ => xck6
  | 7, _ => xck7
  | 8, _ => xck8
  | 9, _ => xck9
  | 10, _ => xck10
  | 11, _ => xck11
  | 12, _ => xck12
  | 13, _ => xck13
  | 14, _ => xck14
  | 15, _ => xck15
  | 16, _ => xck16
  | 17, _ => xck17
  | 18, _ => xck18
  | 19, _ => xck19
  | 20, _ => xck20
  | 21, _ => xck21
  | 22, _ => xck22
  | 23, _ => xck23
  | 24, _ => xck24
  | 25, _ => xck25
  | 26, _ => xck26
  | 27, _ => xck27
  | 28, _ => xck28
  | 29, _ => xck29
  | 30, _ => xck30
  | 31, _ => xck31
  | 32, _ => xck32
  | 33, _ => xck33
  | 34, _ => xck34
  | 35, _ => xck35
  | 36, _ => xck36
  | 37, _ => xck37
  | 38, _ => xck38
  | 39, _ => xck39
  | 40, _ => xck40
  | 41, _ => xck41
  | 42, _ => xck42
  | 43, _ => xck43
  | 44, _ => xck44
  | 45, _ => xck45
  | 46, _ => xck46
  | 47, _ => xck47
  | 48, _ => xck48
  | 49, _ => xck49
  | 50, _ => xck50
  | 51, _ => xck51
  | 52, _ => xck52
  | 53, _ => xck53
  | 54, _ => xck54
  | 55, _ => xck55
  | 56, _ => xck56
  | 57, _ => xck57
  | 58, _ => xck58
  | 59, _ => xck59
  | 60, _ => xck60
  | 61, _ => xck61
  | 62, _ => xck62
  | 63, _ => xck63
  | 64, _ => xck64
  | 65, _ => xck65
  | 66, _ => xck66
  | 67, _ => xck67
  | 68, _ => xck68
  | 69, _ => xck69
  | 70, _ => xck70
  | 71, _ => xck71
  | 72, _ => xck72
  | 73, _ => xck73
  | 74, _ => xck74
  | 75, _ => xck75
  | 76, _ => xck76
  | 77, _ => xck77
  | 78, _ => xck78
  | 79, _ => xck79
  | 80, _ => xck80
  | 81, _ => xck81
  | 82, _ => xck82
  | 83, _ => xck83
  | 84, _ => xck84
  | 85, _ => xck85
  | 86, _ => xck86
  | 87, _ => xck87
  | 88, _ => xck88
  | 89, _ => xck89
  | 90, _ => xck90
  | 91, _ => xck91
  | 92, _ => xck92
  | 93, _ => xck93
  | 94, _ => xck94
  | 95, _ => xck95
  | 96, _ => xck96
  | 97, _ => xck97
  | 98, _ => xck98
  | 99, _ => xck99
  | 100, _ => xck100
  | 101, _ => xck101
  | 102, _ => xck102
  | 103, _ => xck103
  | 104, _ => xck104
  | 105, _ => xck105
  | 106, _ => xck106
  | 107, _ => xck107
  | 108, _ => xck108
  | 109, _ => xck109
  | 110, _ => xck110
  | 111, _ => xck111
  | 112, _ => xck112
  | 113, _ => xck113
  | 114, _ => xck114
  | 115, _ => xck115
  | 116, _ => xck116
  | 117, _ => xck117
  | 118, _ => xck118
  | 119, _ => xck119
  | 120, _ => xck120
  | 121, _ => xck121
  | 122, _ => xck122
  | 123, _ => xck123
  | 124, _ => xck124
  | 125, _ => xck125
  | 126, _ => xck126
  | 127, _ => xck127
  | 128, _ => xck128
  | 129, _ => xck129
  | 130, _ => xck130
  | 131, _ => xck131
  | 132, _ => xck132
  | 133, _ => xck133
  | 134, _ => xck134
  | 135, _ => xck135
  | 136, _ => xck136
  | 137, _ => xck137
  | 138, _ => xck138
  | 139, _ => xck139
  | 140, _ => xck140
  | 141, _ => xck141
  | 142, _ => xck142
  | 143, _ => xck143
  | 144, _ => xck144
  | 145, _ => xck145
  | 146, _ => xck146
  | 147, _ => xck147
  | 148, _ => xck148
  | 149, _ => xck149
  | 150, _ => xck150
  | 151, _ => xck151
  | 152, _ => xck152
  | 153, _ => xck153
  | 154, _ => xck154
  | 155, _ => xck155
  | 156, _ => xck156
  | 157, _ => xck157
  | 158, _ => xck158
  | 159, _ => xck159
  | 160, _ => xck160
  | 161, _ => xck161
  | 162, _ => xck162
  | 163, _ => xck163
  | 164, _ => xck164
  | 165, _ => xck165
  | 166, _ => xck166
  | 167, _ => xck167
  | 168, _ => xck168
  | 169, _ => xck169
  | 170, _ => xck170
  | 171, _ => xck171
  | 172, _ => xck172
  | 173, _ => xck173
  | 174, _ => xck174
  | 175, _ => xck175
  | 176, _ => xck176
  | 177, _ => xck177
  | 178, _ => xck178
  | 179, _ => xck179
  | 180, _ => xck180
  | 181, _ => xck181
  | 182, _ => xck182
  | 183, _ => xck183
  | 184, _ => xck184
  | 185, _ => xck185
  | 186, _ => xck186
  | 187, _ => xck187
  | 188, _ => xck188
  | 189, _ => xck189
  | 190, _ => xck190
  | 191, _ => xck191
  | 192, _ => xck192
  | 193, _ => xck193
  | 194, _ => xck194
  | 195, _ => xck195
  | 196, _ => xck196
  | 197, _ => xck197
  | 198, _ => xck198
  | 199, _ => xck199
  | 200, _ => xck200
  | 201, _ => xck201
  | 202, _ => xck202
  | 203, _ => xck203
  | 204, _ => xck204
  | 205, _ => xck205
  | 206, _ => xck206
  | 207, _ => xck207
  | 208, _ => xck208
  | 209, _ => xck209
  | 210, _ => xck210
  | 211, _ => xck211
  | 212, _ => xck212
  | 213, _ => xck213
  | 214, _ => xck214
  | 215, _ => xck215
  | 216, _ => xck216
  | 217, _ => xck217
  | 218, _ => xck218
  | 219, _ => xck219
  | 220, _ => xck220
  | 221, _ => xck221
  | 222, _ => xck222
  | 223, _ => xck223
  | 224, _ => xck224
  | 225, _ => xck225
  | 226, _ => xck226
  | 227, _ => xck227
  | 228, _ => xck228
  | 229, _ => xck229
  | 230, _ => xck230
  | 231, _ => xck231
  | 232, _ => xck232
  | 233, _ => xck233
  | 234, _ => xck234
  | 235, _ => xck235
  | 236, _ => xck236
  | 237, _ => xck237
  | 238, _ => xck238
  | 239, _ => xck239
  | 240, _ => xck240
  | 241, _ => xck241
  | 242, _ => xck242
  | 243, _ => xck243
  | 244, _ => xck244
  | 245, _ => xck245
  | 246, _ => xck246
  | 247, _ => xck247
  | 248, _ => xck248
  | 249, _ => xck249
  | 250, _ => xck250
  | 251, _ => xck251
  | 252, _ => xck252
  | 253, _ => xck253
  | 254, _ => xck254
  | 255, _ => xck255
  | 256, _ => xck256
  | 257, _ => xck257
  | 258, _ => xck258
  | 259, _ => xck259
  | 260, _ => xck260
  | 261, _ => xck261
  | 262, _ => xck262
  | 263, _ => xck263
  | 264, _ => xck264
  | 265, _ => xck265
  | 266, _ => xck266
  | 267, _ => xck267
  | 268, _ => xck268
  | 269, _ => xck269
  | 270, _ => xck270
  | 271, _ => xck271
  | 272, _ => xck272
  | 273, _ => xck273
  | 274, _ => xck274
  | 275, _ => xck275
  | 276, _ => xck276
  | 277, _ => xck277
  | 278, _ => xck278
  | 279, _ => xck279
  | 280, _ => xck280
  | 281, _ => xck281
  | 282, _ => xck282
  | 283, _ => xck283
  | 284, _ => xck284
  | 285, _ => xck285
  | 286, _ => xck286
  | 287, _ => xck287
  | 288, _ => xck288
  | 289, _ => xck289
  | 290, _ => xck290
  | 291, _ => xck291
  | 292, _ => xck292
  | 293, _ => xck293
  | 294, _ => xck294
  | k + 295, h => absurd h (by omega)
theorem xck_all (m pc : Nat) : xchk m pc (xop m pc) = true := by
  rcases Nat.lt_or_ge m 295 with h | h
  · exact xchk_of (xck_lt m h) pc
  · have e : xprog m = [] := by
      unfold xprog
      rw [show Nat.ble m 294 = false from by rw [← Bool.not_eq_true, Nat.ble_eq]; omega]
      rfl
    unfold xop
    rw [e]
    rfl
theorem xMok_lt : ∀ m, m < 295 → m ≠ 294 → xMok m := fun m h h2 => match m, h, h2 with
  | 0, _, _ => xMok0
  | 1, _, _ => xMok1
  | 2, _, _ => xMok2
  | 3, _, _ => xMok3
  | 4, _, _ => xMok4
  | 5, _, _ => xMok5
  | 6, _, _ => xMok6
  | 7, _, _ => xMok7
  | 8, _, _ => xMok8
  | 9, _, _ => xMok9
  | 10, _, _ => xMok10
  | 11, _, _ => xMok11
  | 12, _, _ => xMok12
  | 13, _, _ => xMok13
  | 14, _, _ => xMok14
  | 15, _, _ => xMok15
  | 16, _, _ => xMok16
  | 17, _, _ => xMok17
  | 18, _, _ => xMok18
  | 19, _, _ => xMok19
  | 20, _, _ => xMok20
  | 21, _, _ => xMok21
  | 22, _, _ => xMok22
  | 23, _, _ => xMok23
  | 24, _, _ => xMok24
  | 25, _, _ => xMok25
  | 26, _, _ => xMok26
  | 27, _, _ => xMok27
  | 28, _, _ => xMok28
  | 29, _, _ => xMok29
  | 30, _, _ => xMok30
  | 31, _, _ => xMok31
  | 32, _, _ => xMok32
  | 33, _, _ => xMok33
  | 34, _, _ => xMok34
  | 35, _, _ => xMok35
  | 36, _, _ => xMok36
  | 37, _, _ => xMok37
  | 38, _, _ => xMok38
  | 39, _, _ => xMok39
  | 40, _, _ => xMok40
  | 41, _, _ => xMok41
  | 42, _, _ => xMok42
  | 43, _, _ => xMok43
  | 44, _, _ => xMok44
  | 45, _, _ => xMok45
  | 46, _, _ => xMok46
  | 47, _, _ => xMok47
  | 48, _, _ => xMok48
  | 49, _, _ => xMok49
  | 50, _, _ => xMok50
  | 51, _, _ => xMok51
  | 52, _, _ => xMok52
  | 53, _, _ => xMok53
  | 54, _, _ => xMok54
  | 55, _, _ => xMok55
  | 56, _, _ => xMok56
  | 57, _, _ => xMok57
  | 58, _, _ => xMok58
  | 59, _, _ => xMok59
  | 60, _, _ => xMok60
  | 61, _, _ => xMok61
  | 62, _, _ => xMok62
  | 63, _, _ => xMok63
  | 64, _, _ => xMok64
  | 65, _, _ => xMok65
  | 66, _, _ => xMok66
  | 67, _, _ => xMok67
  | 68, _, _ => xMok68
  | 69, _, _ => xMok69
  | 70, _, _ => xMok70
  | 71, _, _ => xMok71
  | 72, _, _ => xMok72
  | 73, _, _ => xMok73
  | 74, _, _ => xMok74
  | 75, _, _ => xMok75
  | 76, _, _ => xMok76
  | 77, _, _ => xMok77
  | 78, _, _ => xMok78
  | 79, _, _ => xMok79
  | 80, _, _ => xMok80
  | 81, _, _ => xMok81
  | 82, _, _ => xMok82
  | 83, _, _ => xMok83
  | 84, _, _ => xMok84
  | 85, _, _ => xMok85
  | 86, _, _ => xMok86
  | 87, _, _ => xMok87
  | 88, _, _ => xMok88
  | 89, _, _ => xMok89
  | 90, _, _ => xMok90
  | 91, _, _ => xMok91
  | 92, _, _ => xMok92
  | 93, _, _ => xMok93
  | 94, _, _ => xMok94
  | 95, _, _ => xMok95
  | 96, _, _ => xMok96
  | 97, _, _ => xMok97
  | 98, _, _ => xMok98
  | 99, _, _ => xMok99
  | 100, _, _ => xMok100
  | 101, _, _ => xMok101
  | 102, _, _ => xMok102
  | 103, _, _ => xMok103
  | 104, _, _ => xMok104
  | 105, _, _ => xMok105
  | 106, _, _ => xMok106
  | 107, _, _ => xMok107
  | 108, _, _ => xMok108
  | 109, _, _ => xMok109
  | 110, _, _ => xMok110
  | 111, _, _ => xMok111
  | 112, _, _ => xMok112
  | 113, _, _ => xMok113
  | 114, _, _ => xMok114
  | 115, _, _ => xMok115
  | 116, _, _ => xMok116
  | 117, _, _ => xMok117
  | 118, _, _ => xMok118
  | 119, _, _ => xMok119
  | 120, _, _ => xMok120
  | 121, _, _ => xMok121
  | 122, _, _ => xMok122
  | 123, _, _ => xMok123
  | 124, _, _ => xMok124
  | 125, _, _ => xMok125
  | 126, _, _ => xMok126
  | 127, _, _ => xMok127
  | 128, _, _ => xMok128
  | 129, _, _ => xMok129
  | 130, _, _ => xMok130
  | 131, _, _ => xMok131
  | 132, _, _ => xMok132
  | 133, _, _ => xMok133
  | 134, _, _ => xMok134
  | 135, _, _ => xMok135
  | 136, _, _ => xMok136
  | 137, _, _ => xMok137
  | 138, _, _ => xMok138
  | 139, _, _ => xMok139
  | 140, _, _ => xMok140
  | 141, _, _ => xMok141
  | 142, _, _ => xMok142
  | 143, _, _ => xMok143
  | 144, _, _ => xMok144
  | 145, _, _ => xMok145
  | 146, _, _ => xMok146
  | 147, _, _ => xMok147
  | 148, _, _ => xMok148
  | 149, _, _ => xMok149
  | 150, _, _ => xMok150
  | 151, _, _ => xMok151
  | 152, _, _ => xMok152
  | 153, _, _ => xMok153
  | 154, _, _ => xMok154
  | 155, _, _ => xMok155
  | 156, _, _ => xMok156
  | 157, _, _ => xMok157
  | 158, _, _ => xMok158
  | 159, _, _ => xMok159
  | 160, _, _ => xMok160
  | 161, _, _ => xMok161
  | 162, _, _ => xMok162
  | 163, _, _ => xMok163
  | 164, _, _ => xMok164
  | 165, _, _ => xMok165
  | 166, _, _ => xMok166
  | 167, _, _ => xMok167
  | 168, _, _ => xMok168
  | 169, _, _ => xMok169
  | 170, _, _ => xMok170
  | 171, _, _ => xMok171
  | 172, _, _ => xMok172
  | 173, _, _ => xMok173
  | 174, _, _ => xMok174
  | 175, _, _ => xMok175
  | 176, _, _ => xMok176
  | 177, _, _ => xMok177
  | 178, _, _ => xMok178
  | 179, _, _ => xMok179
  | 180, _, _ => xMok180
  | 181, _, _ => xMok181
  | 182, _, _ => xMok182
  | 183, _, _ => xMok183
  | 184, _, _ => xMok184
  | 185, _, _ => xMok185
  | 186, _, _ => xMok186
  | 187, _, _ => xMok187
  | 188, _, _ => xMok188
  | 189, _, _ => xMok189
  | 190, _, _ => xMok190
  | 191, _, _ => xMok191
  | 192, _, _ => xMok192
  | 193, _, _ => xMok193
  | 194, _, _ => xMok194
  | 195, _, _ => xMok195
  | 196, _, _ => xMok196
  | 197, _, _ => xMok197
  | 198, _, _ => xMok198
  | 199, _, _ => xMok199
  | 200, _, _ => xMok200
  | 201, _, _ => xMok201
  | 202, _, _ => xMok202
  | 203, _, _ => xMok203
  | 204, _, _ => xMok204
  | 205, _, _ => xMok205
  | 206, _, _ => xMok206
  | 207, _, _ => xMok207
  | 208, _, _ => xMok208
  | 209, _, _ => xMok209
  | 210, _, _ => xMok210
  | 211, _, _ => xMok211
  | 212, _, _ => xMok212
  | 213, _, _ => xMok213
  | 214, _, _ => xMok214
  | 215, _, _ => xMok215
  | 216, _, _ => xMok216
  | 217, _, _ => xMok217
  | 218, _, _ => xMok218
  | 219, _, _ => xMok219
  | 220, _, _ => xMok220
  | 221, _, _ => xMok221
  | 222, _, _ => xMok222
  | 223, _, _ => xMok223
  | 224, _, _ => xMok224
  | 225, _, _ => xMok225
  | 226, _, _ => xMok226
  | 227, _, _ => xMok227
  | 228, _, _ => xMok228
  | 229, _, _ => xMok229
  | 230, _, _ => xMok230
  | 231, _, _ => xMok231
  | 232, _, _ => xMok232
  | 233, _, _ => xMok233
  | 234, _, _ => xMok234
  | 235, _, _ => xMok235
  | 236, _, _ => xMok236
  | 237, _, _ => xMok237
  | 238, _, _ => xMok238
  | 239, _, _ => xMok239
  | 240, _, _ => xMok240
  | 241, _, _ => xMok241
  | 242, _, _ => xMok242
  | 243, _, _ => xMok243
  | 244, _, _ => xMok244
  | 245, _, _ => xMok245
  | 246, _, _ => xMok246
  | 247, _, _ => xMok247
  | 248, _, _ => xMok248
  | 249, _, _ => xMok249
  | 250, _, _ => xMok250
  | 251, _, _ => xMok251
  | 252, _, _ => xMok252
  | 253, _, _ => xMok253
  | 254, _, _ => xMok254
  | 255, _, _ => xMok255
  | 256, _, _ => xMok256
  | 257, _, _ => xMok257
  | 258, _, _ => xMok258
  | 259, _, _ => xMok259
  | 260, _, _ => xMok260
  | 261, _, _ => xMok261
  | 262, _, _ => xMok262
  | 263, _, _ => xMok263
  | 264, _, _ => xMok264
  | 265, _, _ => xMok265
  | 266, _, _ => xMok266
  | 267, _, _ => xMok267
  | 268, _, _ => xMok268
  | 269, _, _ => xMok269
  | 270, _, _ => xMok270
  | 271, _, _ => xMok271
  | 272, _, _ => xMok272
  | 273, _, _ => xMok273
  | 274, _, _ => xMok274
  | 275, _, _ => xMok275
  | 276, _, _ => xMok276
  | 277, _, _ => xMok277
  | 278, _, _ => xMok278
  | 279, _, _ => xMok279
  | 280, _, _ => xMok280
  | 281, _, _ => xMok281
  | 282, _, _ => xMok282
  | 283, _, _ => xMok283
  | 284, _, _ => xMok284
  | 285, _, _ => xMok285
  | 286, _, _ => xMok286
  | 287, _, _ => xMok287
  | 288, _, _ => xMok288
  | 289, _, _ => xMok289
  | 290, _, _ => xMok290
  | 291, _, _ => xMok291
  | 292, _, _ => xMok292
  | 293, _, _ => xMok293
  | 294, _, h2 => absurd rfl h2
  | k + 295, h, _ => absurd h (by omega)
