/-! SOUNDNESS, 5: calls -/
noncomputable def xws (m : Nat) : List Cond := Cond.code (xmi m).2.1 (xmi m).2.2.1 (xmi m).2.2.2.1 (xmi m).2.2.2.2.1 :: xTBL
def xrm (d mc ms : Nat) : Room := { frames := d + 8, cells := mc, slots := ms, locals := 64 * d + 400 }
theorem xws_in {m : Nat} (h : xMok m) : GoodIn xTBL (xws m) := by
  intro w hw
  rcases List.mem_cons.mp hw with rfl | q
  · exact ⟨h.1, good_of_word (xTBL_good _ h.1)⟩
  · exact ⟨q, good_of_word (xTBL_good w q)⟩
theorem xNW_k : ∀ w ∈ xNW, (∃ a i b n d h, w = .fieldLinkNest a i b n d h) ∨ (∃ a i x h, w = .methodLinkNest a i x h) ∨ w = .arrayOver (.object "JigsawHole$State") := by
  intro w hw
  unfold xNW at hw
  repeat (rcases List.mem_cons.mp hw with rfl | hw; first | exact Or.inl ⟨_, _, _, _, _, _, rfl⟩ | exact Or.inr (Or.inl ⟨_, _, _, _, rfl⟩) | exact Or.inr (Or.inr rfl))
  cases hw
theorem xNW_warm {s U : State} (hW : s.WarmedH U.vm) (h : ∀ w ∈ xNW, va_Nw w s) : ∀ w ∈ xNW, va_Nw w U := by
  intro w hw
  rcases xNW_k w hw with ⟨_, _, _, _, _, _, rfl⟩ | ⟨_, _, _, _, rfl⟩ | rfl
  · exact va_Nw.warmF hW (h _ hw)
  · exact va_Nw.warmM hW (h _ hw)
  · exact va_AO.moved hW.alike (h _ hw)
theorem xNW_same {s U : State} (hv : s.vm = U.vm) (h : ∀ w ∈ xNW, va_Nw w s) : ∀ w ∈ xNW, va_Nw w U := by
  intro w hw
  rcases xNW_k w hw with ⟨_, _, _, _, _, _, rfl⟩ | ⟨_, _, _, _, rfl⟩ | rfl
  · exact va_Nw.same rfl hv (h _ hw)
  · exact va_Nw.same rfl hv (h _ hw)
  · exact va_AO.moved (by rw [hv]; exact Vm.Alike.refl _) (h _ hw)
theorem xEx_same {X : XX} {ad : Nat → Nat} {vS : Value} {A : Nat → Prop} {s U : State} (hv : U.vm = s.vm) (hh : U.heap = s.heap) (h : xEx X ad vS A s) : xEx X ad vS A U := by
  have ha : s.vm.Alike U.vm := by rw [hv]; exact Vm.Alike.refl _
  obtain ⟨h1, h2, h3, h4, h5⟩ := h
  refine ⟨?_, fun i hi => ?_, ?_, ?_, h5⟩
  · rw [hh]; exact va_T.moved ha h1
  · obtain ⟨g1, g2, g3, g4, g5⟩ := h2 i hi
    rw [hh]
    exact ⟨va_O.moved ha g1, va_OF.moved ha g2, va_OF.moved ha g3, va_T.moved ha g4, vk_R.same hv g5⟩
  · rw [hh]; exact va_Z.moved ha h3
  · rw [hh]; exact va_Z.moved ha h4
theorem xEx_call {X : XX} {ad : Nat → Nat} {vS : Value} {A B : Nat → Prop} {s U : State} {H : Heap} {locs : List Loc} (hW : s.WarmedH U.vm) (hh : U.heap = H) (hS : va_S A s.heap H locs) (hAB : ∀ q, B q → A q) (h : xEx X ad vS A s) : xEx X ad vS B U := by
  have ha := hW.alike
  obtain ⟨h1, h2, h3, h4, h5⟩ := h
  subst hh
  refine ⟨((h1.kept hS.2.1).narrow hAB).moved ha, fun i hi => ?_, ((h3.kept hS.2.1).narrow hAB).moved ha, ((h4.kept hS.2.1).narrow hAB).moved ha, h5⟩
  obtain ⟨g1, g2, g3, g4, g5⟩ := h2 i hi
  exact ⟨((g1.kept hS.2.1).narrow hAB).moved ha, ((g2.kept hS.2.1).narrow hAB).moved ha, ((g3.kept hS.2.1).narrow hAB).moved ha, ((g4.kept hS.2.1).narrow hAB).moved ha, g5.warm hW⟩
theorem xEx_ad {X : XX} {ad ad' : Nat → Nat} {vS : Value} {A : Nat → Prop} {s : State} (ha : ∀ k, 1000000 ≤ k → ad' k = ad k) (h : xEx X ad vS A s) : xEx X ad' vS A s := by
  obtain ⟨h1, h2, h3⟩ := h
  refine ⟨by rw [ha _ (by unfold xSCR; omega)]; exact h1, fun i hi => ?_, h3⟩
  rw [ha (xSTR + i) (by unfold xSTR; omega), ha (xSTV + i) (by unfold xSTV; omega)]
  exact h2 i hi
/-- what a call begins with -/
def xPre (X : XX) (D : va_G) (cT : Nat → ClassId) (ad : Nat → Nat) (vS : Value) (hp : XHp) (sz : Nat) (U : State) : Prop :=
  U.heap.size = sz ∧ va_P D vwCl (xw cT ad hp) U.heap ∧ va_K D vwCl (xkT cT) U ∧ va_D (fun _ => True) (xw cT ad hp) ∧ xEx X ad vS (va_A (xw cT ad hp) sz) U ∧ ∀ w ∈ xNW, va_Nw w U
/-- what it ends with -/
def xQc (D : va_G) (cT : Nat → ClassId) (ad : Nat → Nat) (vS : Value) (hp hp' : XHp) (r : Option Value) (sz : Nat) : Array Value → State → Outcome → State → Prop := fun _ st oc t =>
  (∃ ad' : Nat → Nat, (∀ j, j < hp.1.length ∨ hp'.1.length ≤ j → ad' j = ad j) ∧ oc = .returned (r.map (xtr ad' vS)) ∧ va_P D vwCl (xw cT ad' hp') t.heap ∧ va_K D vwCl (xkT cT) t ∧ va_D (va_A (xw cT ad hp) sz) (xw cT ad' hp')) ∧ va_F (va_A (xw cT ad hp) sz) st t
theorem xPre_blind {X : XX} {D : va_G} {cT : Nat → ClassId} {ad : Nat → Nat} {vS : Value} {hp : XHp} {sz : Nat} {av : List Value} : FrameBlind (va_Pc av (xPre X D cT ad vS hp sz)) := by
  intro a U g mk h
  obtain ⟨h0, h1, h2, h3, h4, h5, h6⟩ := h
  exact ⟨h0, h1, h2, va_K.moved (u := U) (U := U.calling g mk a) (Vm.Alike.refl U.vm) h3, h4, xEx_same (s := U) (U := U.calling g mk a) rfl rfl h5, xNW_same (s := U) (U := U.calling g mk a) rfl h6⟩
section XQ
variable {p : Program} {l : Launch} {e : Env} {R : Room} {s : State} {mid : MethodId} {args : Array Value} {below : List Frame} {meth : Method} {c : Code} {H : Heap} {locs : List Loc} {cells slots : Nat} {Q : State → Prop}
theorem xgo {pc mc ms : Nat} {lr : Array Slot} {rest st0 : List Value} {Qa : State → Outcome → State → Prop} {free : Addr → Prop} (hr : va_Run p l e R s mid args below meth c H locs cells slots mc ms (F0 mid pc lr st0) rest Qa free)
    (kk : ∀ (v : Option Value) (st₀ t : State) (H1 : Heap) (L : List Loc), st₀.heap = H → t.heap = H1 → s.vm.Alike t.vm → Qa st₀ (.returned v) t → (∀ q ∈ L, free q.base) → W p l e R s mid args below meth c H1 (locs ++ L) (cells + mc) (slots + ms) Q (F0 mid (pc + 3) lr (v.toList ++ rest))) : W p l e R s mid args below meth c H locs cells slots Q (F0 mid pc lr st0) := by
  intro T hT X
  obtain ⟨v, st₀, t, T', L, h0, X', hL, e1, e2, hq, st⟩ := hr T hT X
  obtain ⟨t2, a1, b1⟩ := kk v st₀ t T'.heap L h0 e1.symm (by rw [← e2]; exact X'.warmed.alike) hq hL T' rfl X'
  exact ⟨t2, st t2 a1, b1⟩
theorem xmax_all {m : Nat} (h : m < xnm) : (xmi m).2.2.2.1 ≤ 45 := xmax_lt m h
set_option maxRecDepth 100000 in
set_option maxHeartbeats 8000000 in
theorem xcall_ok {X : XX} {D : va_G} {cT : Nat → ClassId} {A : Nat → Prop} {ad : Nat → Nat} {vS : Value} {m pc nL d' kd : Nat} {st : List Value} {hp hp1 : XHp} {lr : Array Slot} {ins : ClassFile.Instr} {x : Int32} {a b c0 nx : Nat} {v : Option Value} {mc ms : Nat}
    (hF : xFr p s mid args meth c m) (hE : xEx X ad vS A s) (hA : ∀ q, s.heap.size ≤ q → A q) (hW : xWd D cT ad A s H locs hp) (hls : lr.size = (xmi m).2.2.2.1)
    (hRf : d' + 1 + 8 ≤ R.frames) (hRl : 64 * (d' + 1) + 400 ≤ R.locals) (hRc : cells + mc ≤ R.cells) (hRs : slots + ms ≤ R.slots)
    (hc : xchk m pc (ins, x, a, b, c0, nx) = true) (h : xcall ins c0 = some kd) (hb0 : b ≤ st.length) (hcat : ((st.drop b).map fun v => v.category).sum ≤ 8)
    (h1 : kd = 1 → xrecv hp.1 (xmi a).1 ((st.take b).reverse.head?) = true) (h2 : kd = 2 → xisref ((st.take b).reverse.head?) = true)
    (hM : xMok a → a < xnm → Met l (xmi a).2.1 (xws a) (xrm d' mc ms) (va_Pc ((st.take b).reverse.map (xtr ad vS)) (xPre X D cT ad vS hp H.size)) (xQc D cT ad vS hp hp1 v H.size) mc ms (va_A (xw cT ad hp) H.size))
    (k : ∀ ad' H' locs', xWd D cT ad' A s H' locs' hp1 → (∀ j, j < hp.1.length ∨ hp1.1.length ≤ j → ad' j = ad j) → W p l e R s mid args below meth c H' locs' (cells + mc) (slots + ms) Q (F0 mid nx lr ((v.map (xtr ad' vS)).toList ++ (st.drop b).map (xtr ad vS)))) :
    W p l e R s mid args below meth c H locs cells slots Q (F0 mid pc lr (st.map (xtr ad vS))) := by
  obtain ⟨hx, hb, hml, hown, hts, hnw, hr, hlk, hini⟩ := hF
  obtain ⟨hK, hP, hD, hS⟩ := id hW
  have hvc := hE.2.2.2.2
  have hfree : ∀ q, va_A (xw cT ad hp) H.size q → A q := by
    intro q hq
    rcases hq with ⟨j, e0, hj⟩ | hq
    · exact hD.2 j _ hj
    · exact hA q (Nat.le_trans hS.1 hq)
  have hpre : ∀ U : State, U.heap = H → s.WarmedH U.vm → xPre X D cT ad vS hp H.size U := fun U hU hWm => ⟨by rw [hU], by rw [hU]; exact hP, hK.moved hWm.alike, hD.weaken (fun _ _ _ _ => trivial), xEx_call hWm hU hS hfree hE, xNW_warm hWm hnw⟩
  have hst : st.map (xtr ad vS) = (((st.take b).reverse.map (xtr ad vS)).reverse) ++ (st.drop b).map (xtr ad vS) := by
    rw [← List.map_reverse, List.reverse_reverse, ← List.map_append, List.take_append_drop]
  have hcat' : (((st.drop b).map (xtr ad vS)).map fun v => v.category).sum ≤ 8 := by rw [xsum hvc]; exact hcat
  have hlen : ((st.take b).reverse.map (xtr ad vS)).length = b := by simp; omega
  have fin : va_Run p l e R s mid args below meth c H locs cells slots mc ms (F0 mid pc lr (st.map (xtr ad vS))) ((st.drop b).map (xtr ad vS)) (xQc D cT ad vS hp hp1 v H.size ((st.take b).reverse.map (xtr ad vS)).toArray) (va_A (xw cT ad hp) H.size) → nx = pc + 3 → W p l e R s mid args below meth c H locs cells slots Q (F0 mid pc lr (st.map (xtr ad vS))) := by
    intro hrun hnx
    refine xgo hrun (fun v1 st₀ t H1 L h0 ht hal hq hL => ?_)
    obtain ⟨⟨ad', hag, hv, hP1, hK1, hD1⟩, hF1, hF2⟩ := hq
    rw [h0] at hF1 hF2
    cases hv
    rw [← hnx]
    subst ht
    refine k ad' t.heap (locs ++ L) ⟨hK, hP1, hD1.weaken (fun _ q _ hq => hfree _ hq), Nat.le_trans hS.1 hF1, fun q g1 g2 => ?_, fun q hq => ?_⟩ hag
    · rw [hF2 q (Nat.lt_of_lt_of_le g1 hS.1) (fun z => g2 (hfree q z))]
      exact hS.2.1 q g1 g2
    · rcases List.mem_append.mp hq with z | z
      · exact hS.2.2 q z
      · exact hfree _ (hL q z)
  have hrest := lv_room (m := mid) (pc := pc) (ls := lr) (rest := st.map (xtr ad vS)) hcat'
  generalize hvals : (st.take b).reverse = vals at *
  have hS0 : CallFix p mid c (xmi m).2.2.1 (xmi m).2.2.2.1 s args xTBL (xcn (xmi m).1) := ⟨hx, hb, hml, hown, hts⟩
  unfold xcall at h
  split at h
  -- static
  · cases h
    obtain ⟨hd, -, he⟩ := xdec hc (by simp)
    simp only [xext, Bool.and_eq_true, decide_eq_true_eq] at he
    obtain ⟨rfl, hms, hki, ha8, ham, hal⟩ := he
    rw [Nat.add_sub_cancel_left] at hd
    have hmo := xMS_ok _ (List.mem_of_getElem? hms)
    simp only [xSok, show Nat.beq a 900 = false from by rw [← Bool.not_eq_true, Nat.beq_eq]; omega, show Nat.beq a 901 = false from by rw [← Bool.not_eq_true, Nat.beq_eq]; omega, show Nat.beq a 902 = false from by rw [← Bool.not_eq_true, Nat.beq_eq]; omega, show Nat.beq a 903 = false from by rw [← Bool.not_eq_true, Nat.beq_eq]; omega, cond_false] at hmo
    have hmk := xMok_lt a ham hal
    have hmx := xmax_all ham
    have hkb : (xmi a).2.2.2.2.2.1 = 0 := by rw [hki]
    have hnb : (xmi a).2.2.2.2.2.2 = b := by rw [hki]
    refine fin (va_runS (As := vals.map (xtr ad vS)) hS0 (hM hmk ham) ⟨callB_of b hts (xws_in hmk) rfl rfl rfl (hts _ hmk.2.1) (hts _ hmo) (by
        have h8 := hmk.2.2.2.2.2.2.2.1
        rw [hnb] at h8
        exact h8) ⟨by show d' + 8 + 1 ≤ _; omega, by show 8 + (_ + 11) + (64 * d' + 400) ≤ _; omega⟩, hts _ (hmk.2.2.1 hkb)⟩ ⟨xPre_blind, fun U hU hWm => ⟨rfl, hpre U hU hWm⟩⟩ rfl hlen hls hst hrest hd ⟨hRc, hRs⟩) rfl
  · cases h
    obtain ⟨hd, -, he⟩ := xdec hc (by simp)
    simp only [xext, Bool.and_eq_true, decide_eq_true_eq] at he
    obtain ⟨rfl, hms, hki, ha8, ham, hal⟩ := he
    rw [Nat.add_sub_cancel_left] at hd
    have hmo := xMS_ok _ (List.mem_of_getElem? hms)
    simp only [xSok] at hmo
    have hmk := xMok_lt a ham hal
    have hmx := xmax_all ham
    have hkb : (xmi a).2.2.2.2.2.1 = 0 := by rw [hki]
    have hnb : (xmi a).2.2.2.2.2.2 = b := by rw [hki]
    refine fin (va_runSN (As := vals.map (xtr ad vS)) hS0 (hM hmk ham) ⟨va_cnB b hts (xws_in hmk) rfl rfl rfl (hnw _ hmo) (hts _ hmk.2.1) (by
        have h8 := hmk.2.2.2.2.2.2.2.1
        rw [hnb] at h8
        exact h8) ⟨by show d' + 8 + 1 ≤ _; omega, by show 8 + (_ + 11) + (64 * d' + 400) ≤ _; omega⟩, hts _ (hmk.2.2.1 hkb), trivial⟩ ⟨xPre_blind, fun U hU hWm => ⟨rfl, hpre U hU hWm⟩⟩ rfl hlen hls hst hrest hd ⟨hRc, hRs⟩) rfl
  -- virtual
  · cases h
    obtain ⟨hd, -, he⟩ := xdec hc (by simp)
    simp only [xext, Bool.and_eq_true, decide_eq_true_eq] at he
    obtain ⟨rfl, hms, ⟨hki, hnb⟩, ⟨ha8, ham, hal⟩, hoc⟩ := he
    rw [Nat.add_sub_cancel_left] at hd
    have hmo := xMS_ok _ (List.mem_of_getElem? hms)
    simp only [xSok, show Nat.beq a 900 = false from by rw [← Bool.not_eq_true, Nat.beq_eq]; omega, show Nat.beq a 901 = false from by rw [← Bool.not_eq_true, Nat.beq_eq]; omega, show Nat.beq a 902 = false from by rw [← Bool.not_eq_true, Nat.beq_eq]; omega, show Nat.beq a 903 = false from by rw [← Bool.not_eq_true, Nat.beq_eq]; omega, cond_false] at hmo
    have hmk := xMok_lt a ham hal
    have hmx := xmax_all ham
    have hrv := h1 rfl
    unfold xrecv at hrv
    split at hrv
    · rename_i o hho
      obtain ⟨as, rfl⟩ : ∃ as, vals = .ref o :: as := by
        cases vals with
        | nil => cases hho
        | cons y ys => cases hho; exact ⟨ys, rfl⟩
      have hrecv : ∃ cellB : Cell, H[ad o]? = some cellB ∧ cellB.vm.isStatics = false ∧ s.vm.findClass (xmi a).2.1.cls = some cellB.cls := by
        rw [hmk.2.2.2.2.2.1]
        split at hrv
        · rename_i kk n rs hcell
          simp only [decide_eq_true_eq] at hrv
          subst hrv
          rw [Nat.add_comm 5 _] at hcell
          have hlt : (xmi a).1 < 13 := by
            rcases hoc with z | z
            · exact z
            · have := xw_at (cT := cT) (ad := ad) hcell
              obtain ⟨r0, hr0, -⟩ := hP o _ this
              rw [z] at hr0
              exact absurd (List.getElem?_eq_some_iff.mp hr0).1 (by decide)
          have := va_recv hK hP (xcl_at _ hlt) (xw_at (cT := cT) (ad := ad) hcell)
          rw [show ((xcl (xmi a).1).1, (xcl (xmi a).1).2.1, (xcl (xmi a).1).2.2).1 = xcn (xmi a).1 from xcl_nm _ hlt] at this
          exact this
        · simp only [Bool.and_eq_true, decide_eq_true_eq] at hrv
          obtain ⟨ho, hb2⟩ := hrv
          obtain ⟨i, hi, hio⟩ := xSTR_i ho
          have hs := (hE.2.1 i hi).1
          rw [← hio] at hs
          obtain ⟨cell, g1, g2, g3, -⟩ := hs.kept hS.2.1
          rw [Nat.eq_of_beq_eq_true hb2]
          exact ⟨cell, g1, g2, g3⟩
      refine fin (va_runV (C := (xmi a).2.1.cls) (b := ad o) (As := as.map (xtr ad vS)) hS0 (hM hmk ham) ⟨callB_of (xmi a).2.2.2.2.2.2 hts (xws_in hmk) rfl rfl rfl (hts _ hmk.2.1) (hts _ hmo) hmk.2.2.2.2.2.2.2.1 ⟨by show d' + 8 + 1 ≤ _; omega, by show 8 + (_ + 11) + (64 * d' + 400) ≤ _; omega⟩, hts _ (hmk.2.2.2.1 (by omega)), hts _ (hmk.2.2.2.2.1 hki)⟩ ⟨xPre_blind, hrecv, fun U hU hWm => ⟨rfl, hpre U hU hWm⟩⟩ rfl (by simp only [List.map_cons, List.length_cons] at hlen; omega) hls (by rw [hst]; simp [xtr]) hrest hd ⟨hRc, hRs⟩) rfl
    · cases hrv
  -- special
  · cases h
    obtain ⟨hd, -, he⟩ := xdec hc (by simp)
    simp only [xext, Bool.and_eq_true, decide_eq_true_eq] at he
    obtain ⟨rfl, hms, ⟨hki, hnb⟩, ha8, ham, hal⟩ := he
    rw [Nat.add_sub_cancel_left] at hd
    have hmo := xMS_ok _ (List.mem_of_getElem? hms)
    simp only [xSok, show Nat.beq a 900 = false from by rw [← Bool.not_eq_true, Nat.beq_eq]; omega, show Nat.beq a 901 = false from by rw [← Bool.not_eq_true, Nat.beq_eq]; omega, show Nat.beq a 902 = false from by rw [← Bool.not_eq_true, Nat.beq_eq]; omega, show Nat.beq a 903 = false from by rw [← Bool.not_eq_true, Nat.beq_eq]; omega, cond_false] at hmo
    have hmk := xMok_lt a ham hal
    have hmx := xmax_all ham
    have hrv := h2 rfl
    unfold xisref at hrv
    split at hrv
    · rename_i o hho
      obtain ⟨as, rfl⟩ : ∃ as, vals = .ref o :: as := by
        cases vals with
        | nil => cases hho
        | cons y ys => cases hho; exact ⟨ys, rfl⟩
      obtain ⟨hin1, hin2⟩ := hmk.2.2.2.2.2.2.2.2 hki
      refine fin (va_runI (ws := xws a) (rm := xrm d' mc ms) (bytes := (xmi a).2.2.1) (maxL := (xmi a).2.2.2.1) (b := ad o) (As := as.map (xtr ad vS)) hS0 (hM hmk ham) (cwI (xmi a).2.2.2.2.2.2 hts (xws_in hmk) (by rw [xws, hin2]) rfl rfl (hts _ hmk.2.1) (hts _ hmo) (hts _ (hmk.2.2.2.1 (by omega))) hin1 hmk.2.2.2.2.2.2.2.1 ⟨by show d' + 8 + 1 ≤ _; omega, by show 8 + (_ + 11) + (64 * d' + 400) ≤ _; omega⟩) ⟨xPre_blind, fun U hU hWm => ⟨rfl, hpre U hU hWm⟩⟩ rfl (by simp only [List.map_cons, List.length_cons] at hlen; omega) hls (by rw [hst]; simp [xtr]) hrest hd ⟨hRc, hRs⟩) rfl
    · cases hrv
  · cases h
    obtain ⟨hd, -, he⟩ := xdec hc (by simp)
    simp only [xext, Bool.and_eq_true, decide_eq_true_eq] at he
    obtain ⟨rfl, hms, ⟨hki, hnb⟩, ha8, ham, hal⟩ := he
    rw [Nat.add_sub_cancel_left] at hd
    have hmo := xMS_ok _ (List.mem_of_getElem? hms)
    simp only [xSok] at hmo
    have hmk := xMok_lt a ham hal
    have hmx := xmax_all ham
    have hrv := h2 rfl
    unfold xisref at hrv
    split at hrv
    · rename_i o hho
      obtain ⟨as, rfl⟩ : ∃ as, vals = .ref o :: as := by
        cases vals with
        | nil => cases hho
        | cons y ys => cases hho; exact ⟨ys, rfl⟩
      obtain ⟨hin1, hin2⟩ := hmk.2.2.2.2.2.2.2.2 hki
      refine fin (va_runIN (ws := xws a) (rm := xrm d' mc ms) (bytes := (xmi a).2.2.1) (maxL := (xmi a).2.2.2.1) (b := ad o) (As := as.map (xtr ad vS)) hS0 (hM hmk ham) ⟨va_cnB (xmi a).2.2.2.2.2.2 hts (xws_in hmk) (by rw [xws, hin2]) rfl rfl (hnw _ hmo) (hts _ hmk.2.1) hmk.2.2.2.2.2.2.2.1 ⟨by show d' + 8 + 1 ≤ _; omega, by show 8 + (_ + 11) + (64 * d' + 400) ≤ _; omega⟩, hin1, hts _ (hmk.2.2.2.1 (by omega))⟩ ⟨xPre_blind, fun U hU hWm => ⟨rfl, hpre U hU hWm⟩⟩ rfl (by simp only [List.map_cons, List.length_cons] at hlen; omega) hls (by rw [hst]; simp [xtr]) hrest hd ⟨hRc, hRs⟩) rfl
    · cases hrv
  · cases h
end XQ
