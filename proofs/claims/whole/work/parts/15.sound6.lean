/-! SOUNDNESS, 6: a run of the small machine is a run of the machine -/
theorem xargs_mem {ad : Nat → Nat} {vS : Value} (hv : vS.category = 1) : ∀ (vals : List Value) (i k : Nat) (v : Value), (xsl vals)[k]? = some v → v ≠ .null → (i + k, xtr ad vS v) ∈ lv_args i (vals.map (xtr ad vS))
  | [], i, k, v, h, _ => by simp [xsl] at h
  | w :: ws, i, k, v, h, hn => by
    rw [List.map_cons]
    show (i + k, xtr ad vS v) ∈ (i, xtr ad vS w) :: lv_args (if (xtr ad vS w).category = 2 then i + 2 else i + 1) (ws.map (xtr ad vS))
    rw [xtr_cat hv]
    have e : xsl (w :: ws) = (if w.category = 2 then [w, .null] else [w]) ++ xsl ws := by simp [xsl]
    rw [e] at h
    by_cases hc : w.category = 2
    · rw [if_pos hc] at h ⊢
      match k, h with
      | 0, h => cases h; exact List.mem_cons_self
      | 1, h => cases h; exact absurd rfl hn
      | k + 2, h =>
        have h1 : (xsl ws)[k]? = some v := by simpa using h
        have := xargs_mem (ad := ad) hv ws (i + 2) k v h1 hn
        rw [show i + 2 + k = i + (k + 2) by omega] at this
        exact List.mem_cons_of_mem _ this
    · rw [if_neg hc] at h ⊢
      match k, h with
      | 0, h => cases h; exact List.mem_cons_self
      | k + 1, h =>
        have h1 : (xsl ws)[k]? = some v := by simpa using h
        have := xargs_mem (ad := ad) hv ws (i + 1) k v h1 hn
        rw [show i + 1 + k = i + (k + 1) by omega] at this
        exact List.mem_cons_of_mem _ this
theorem xsl_len {ad : Nat → Nat} {vS : Value} (hv : vS.category = 1) (vals : List Value) : (lg_sl (vals.map (xtr ad vS))).length = (xsl vals).length := by
  induction vals with
  | nil => rfl
  | cons w ws ih =>
    have e1 : lg_sl ((w :: ws).map (xtr ad vS)) = (if (xtr ad vS w).category = 2 then [.val (xtr ad vS w), .second] else [.val (xtr ad vS w)]) ++ lg_sl (ws.map (xtr ad vS)) := by simp [lg_sl]
    have e2 : xsl (w :: ws) = (if w.category = 2 then [w, .null] else [w]) ++ xsl ws := by simp [xsl]
    rw [e1, e2, List.length_append, List.length_append, ih, xtr_cat hv]
    split <;> rfl
theorem xent_LR {ad : Nat → Nat} {vS : Value} {vals : List Value} {n : Nat} (hv : vS.category = 1) (hn : (xsl vals).length ≤ n) :
    xLR ad vS (xent vals n) n ((lg_sl (vals.map (xtr ad vS)) ++ List.replicate (n - (lg_sl (vals.map (xtr ad vS))).length) Slot.unset).toArray) := by
  have hl := lv_entry (vals.map (xtr ad vS)) (n := n) (by rw [xsl_len hv]; exact hn)
  refine ⟨by simp [xent]; omega, hl.1, hl.2.1, fun k v hk hnn => hl.2.2 (k, xtr ad vS v) ?_⟩
  unfold xent at hk
  rcases Nat.lt_or_ge k (xsl vals).length with q | q
  · rw [List.getElem?_append_left q] at hk
    have := xargs_mem (ad := ad) hv vals 0 k v hk hnn
    rwa [Nat.zero_add] at this
  · rw [List.getElem?_append_right q, List.getElem?_replicate] at hk
    split at hk
    · cases hk; exact absurd rfl hnn
    · cases hk
/-- where a method ends -/
def xRt (m pc : Nat) (r : Option Value) : Prop := match r with
  | some (.int y) => decode (xmi m).2.2.1 pc = .ok (.ireturn, 1) ∧ ∃ ty, (xmi m).2.2.2.2.1 = some ty ∧ narrow ty (.int y) = .int y
  | some (.long y) => decode (xmi m).2.2.1 pc = .ok (.lreturn, 1) ∧ (xmi m).2.2.2.2.1 = some .long
  | none => decode (xmi m).2.2.1 pc = .ok (.return_, 1) ∧ (xmi m).2.2.2.2.1 = none
  | _ => False
theorem xret_ok {m pc : Nat} {ins : ClassFile.Instr} {x : Int32} {a b c0 nx : Nat} {st : List Value} {r : Option Value} (hc : xchk m pc (ins, x, a, b, c0, nx) = true) (h : xret ins c0 st = some r) : xRt m pc r ∧ st = r.toList := by
  unfold xret at h
  split at h
  · rename_i y
    split at h
    · rename_i hy
      cases h
      obtain ⟨hd, -, he⟩ := xdec hc (by simp)
      unfold xnar at hy
      split at hy <;> simp only [xext, Bool.and_eq_true, decide_eq_true_eq] at he
      · obtain ⟨rfl, ht⟩ := he
        rw [Nat.add_sub_cancel_left] at hd
        exact ⟨⟨hd, _, ht, rfl⟩, rfl⟩
      · obtain ⟨rfl, ht⟩ := he
        rw [Nat.add_sub_cancel_left] at hd
        exact ⟨⟨hd, _, ht, xnarz_n hy⟩, rfl⟩
      · obtain ⟨rfl, ht⟩ := he
        rw [Nat.add_sub_cancel_left] at hd
        simp only [decide_eq_true_eq] at hy
        exact ⟨⟨hd, _, ht, by show Value.int _ = _; rw [hy]⟩, rfl⟩
      · rename_i n0 n1 n2
        match c0, n0, n1, n2, he with
        | 3, _, _, _, he =>
          simp only [xext, Bool.and_eq_true, decide_eq_true_eq] at he
          obtain ⟨rfl, ht⟩ := he
          rw [Nat.add_sub_cancel_left] at hd
          simp only [decide_eq_true_eq] at hy
          exact ⟨⟨hd, _, ht, by show Value.int _ = _; rw [hy]⟩, rfl⟩
        | k + 4, _, _, _, he => simp [xext] at he
        | 0, n0, _, _, _ => exact absurd rfl n0
        | 1, _, n1, _, _ => exact absurd rfl n1
        | 2, _, _, n2, _ => exact absurd rfl n2
    · cases h
  · cases h
    obtain ⟨hd, -, he⟩ := xdec hc (by simp)
    simp only [xext, Bool.and_eq_true, decide_eq_true_eq] at he
    obtain ⟨rfl, ht⟩ := he
    rw [Nat.add_sub_cancel_left] at hd
    exact ⟨⟨hd, ht⟩, rfl⟩
  · cases h
    obtain ⟨hd, -, he⟩ := xdec hc (by simp)
    simp only [xext, Bool.and_eq_true, decide_eq_true_eq] at he
    obtain ⟨rfl, ht⟩ := he
    rw [Nat.add_sub_cancel_left] at hd
    exact ⟨⟨hd, ht⟩, rfl⟩
  · cases h
/-- what is claimed of runs of n steps -/
def xSound (X : XX) (D : va_G) (cT : Nat → ClassId) (vS : Value) (l : Launch) (n : Nat) : Prop :=
  ∀ (d m pc : Nat) (ls st : List Value) (hp : XHp) (r : Option Value) (hp' : XHp), xexec X n d m pc ls st hp = some (r, hp') →
  ∀ {p : Program} {e : Env} {R : Room} {s : State} {mid : MethodId} {args : Array Value} {below : List Frame} {meth : Method} {c : Code} {A : Nat → Prop} {ad : Nat → Nat} {H : Heap} {locs : List Loc} {cells slots : Nat} {lr : Array Slot} {Q : State → Prop},
  xFr p s mid args meth c m → xEx X ad vS A s → (∀ q, s.heap.size ≤ q → A q) → xWd D cT ad A s H locs hp → xLR ad vS ls (xmi m).2.2.2.1 lr → d + 8 ≤ R.frames → 64 * d + 400 ≤ R.locals →
  cells + hp'.1.length ≤ R.cells + hp.1.length → slots + xsz hp'.1 ≤ R.slots + xsz hp.1 →
  (∀ pc' lr' H' locs' ad' cells' slots', xWd D cT ad' A s H' locs' hp' → (∀ j, j < hp.1.length ∨ hp'.1.length ≤ j → ad' j = ad j) → cells' + hp.1.length = cells + hp'.1.length → slots' + xsz hp.1 = slots + xsz hp'.1 → xRt m pc' r →
    W p l e R s mid args below meth c H' locs' cells' slots' Q (F0 mid pc' lr' (r.toList.map (xtr ad' vS)))) →
  W p l e R s mid args below meth c H locs cells slots Q (F0 mid pc lr (st.map (xtr ad vS)))
/-- a call, out of a run -/
theorem xmet {X : XX} {D : va_G} {cT : Nat → ClassId} {vS : Value} {l : Launch} {n : Nat} (hS : xSound X D cT vS l n) {d a sz : Nat} {ad : Nat → Nat} {vals : List Value} {hp hp' : XHp} {r : Option Value}
    (h : xexec X n d a 0 (xent vals (xmi a).2.2.2.1) [] hp = some (r, hp')) (hv : vS.category = 1) (hn : (xsl vals).length ≤ (xmi a).2.2.2.1) (hmk : xMok a) :
    Met l (xmi a).2.1 (xws a) (xrm d (hp'.1.length - hp.1.length) (xsz hp'.1 - xsz hp.1)) (va_Pc (vals.map (xtr ad vS)) (xPre X D cT ad vS hp sz)) (xQc D cT ad vS hp hp' r sz) (hp'.1.length - hp.1.length) (xsz hp'.1 - xsz hp.1) (va_A (xw cT ad hp) sz) := by
  obtain ⟨hm1, hm2⟩ := xmono _ _ _ _ _ _ _ _ _ h
  refine Met.ofW (cc := (xmi a).2.2.1) (maxL := (xmi a).2.2.2.1) (ret := (xmi a).2.2.2.2.1) hmk.2.2.2.2.2.2.1 rfl ?_
  intro p e s mid args below meth c s₁ B hml hpr
  obtain ⟨rfl, hsz, hP, hK, hD0, hE, hN⟩ := hpr
  have hts0 := atoms_spec (ws := xws a) B.pre
  have hown : s.vm.findClass (xcn (xmi a).1) = some mid.cls := by
    rw [← hmk.2.2.2.2.2.1]
    exact findClass_of_methodNamed B.named
  have hF : xFr p s mid (vals.map (xtr ad vS)).toArray meth c a := ⟨B.exec, B.bytes, hml, hown, fun w hw => hts0 w (List.mem_cons_of_mem _ hw), hN, B.returns, B.notSynchronized, fun hk => by
    rw [(name_of_methodNamed B.named B.method).1]
    exact (hmk.2.2.2.2.2.2.2.2 hk).1⟩
  have hlocks := B.notSynchronized
  have hx := B.exec
  have hb := B.bytes
  have hr := B.returns
  subst hsz
  have hD := hD0.self (sz := s.heap.size)
  rw [lg_entry_eq]
  refine hS d a 0 (xent vals (xmi a).2.2.2.1) [] hp r hp' h (A := va_A (xw cT ad hp) s.heap.size) (ad := ad) hF hE (fun q hq => Or.inr hq) ⟨hK, hP, hD, va_S.rf⟩ (xent_LR hv hn) (Nat.le_refl _) (Nat.le_refl _) (by show 0 + _ ≤ (_ - _) + _; omega) (by show 0 + _ ≤ (_ - _) + _; omega) ?_
  intro pc' lr' H' locs' ad' cells' slots' hW hag hce hsl hrt
  have e1 : cells' = hp'.1.length - hp.1.length := by omega
  have e2 : slots' = xsz hp'.1 - xsz hp.1 := by omega
  subst e1 e2
  obtain ⟨hK1, hP1, hD1, hS1⟩ := hW
  match r, hrt, h with
  | some (.int y), hrt, h =>
    obtain ⟨hd, ty, hty, hna⟩ := hrt
    exact W.zret (ty := ty) hx hb (by rw [hr, hty]) hna (fun t ht hWm => ⟨⟨ad', hag, rfl, by rw [ht]; exact hP1, hK1.moved hWm.alike, hD1⟩, hS1.F ht⟩) hS1.2.2 hd
  | some (.long y), hrt, h =>
    obtain ⟨hd, hty⟩ := hrt
    exact W.lret hx hb (by rw [hr, hty]) (fun t ht hWm => ⟨⟨ad', hag, rfl, by rw [ht]; exact hP1, hK1.moved hWm.alike, hD1⟩, hS1.F ht⟩) hS1.2.2 hd
  | none, hrt, h =>
    obtain ⟨hd, hty⟩ := hrt
    exact W.vret hx hb (by rw [hr, hty]) (fun t ht hWm => ⟨⟨ad', hag, rfl, by rw [ht]; exact hP1, hK1.moved hWm.alike, hD1⟩, hS1.F ht⟩) hS1.2.2 hd
set_option maxHeartbeats 8000000 in
theorem xsound (X : XX) (D : va_G) (cT : Nat → ClassId) (vS : Value) (l : Launch) : ∀ n, xSound X D cT vS l n := by
  intro n
  induction n with
  | zero => intro d m pc ls st hp r hp' h; cases h
  | succ n ih =>
    intro d m pc ls st hp r hp' h p e R s mid args below meth c A ad H locs cells slots lr Q hF hE hA hW hL hRf hRl hRc hRs kk
    have hvc := hE.2.2.2.2
    have hmo := xmono _ _ _ _ _ _ _ _ _ h
    have hc := xck_all m pc
    unfold xexec at h
    split at h
    rename_i ins x a b c0 nx hop
    rw [hop] at hc
    split at h
    · rename_i ls' st' h1
      exact xs1_ok hF hvc hL (fun i hi => (hE.2.1 i hi).2.2.2.2) hc h1 (fun lr' hL' => ih d m nx ls' st' hp r hp' h hF hE hA hW hL' hRf hRl hRc hRs kk)
    · split at h
      · rename_i pc' st' h1
        exact xjmp_ok hF hc h1 (ih d m pc' ls st' hp r hp' h hF hE hA hW hL hRf hRl hRc hRs kk)
      · split at h
        · rename_i st' h' h1
          have e1 := xs2_shape h1
          refine xs2_ok hF hE hW hL.2.1 (by omega) (by omega) (by omega) (by omega) hc h1 (fun H' locs' hW' => ?_)
          refine ih d m nx ls st' h' r hp' h hF hE hA hW' hL hRf hRl (by rw [e1]; exact hRc) (by rw [e1]; exact hRs) ?_
          rw [e1]
          exact kk
        · split at h
          · rename_i r0 h1
            cases h
            obtain ⟨q1, q2⟩ := xret_ok hc h1
            subst q2
            exact kk pc lr H locs ad cells slots hW (fun _ _ => rfl) rfl rfl q1
          · split at h
            · rename_i kd h1
              split at h
              · cases h
              · rename_i dd d'
                split at h
                · rename_i hif
                  obtain ⟨⟨⟨hb0, hbl⟩, hcat⟩, hr1, hr2⟩ := hif
                  split at h
                  · rename_i v h' hcal
                    split at h
                    · rename_i hok
                      have m1 := xmono _ _ _ _ _ _ _ _ _ hcal
                      have m2 := xmono _ _ _ _ _ _ _ _ _ h
                      refine xcall_ok (nL := 0) (mc := h'.1.length - hp.1.length) (ms := xsz h'.1 - xsz hp.1) (hp1 := h') (v := v) hF hE hA hW hL.2.1 hRf hRl (by omega) (by omega) hc h1 hb0 hcat hr1 hr2 (fun hmk _ => xmet ih hcal hvc hbl hmk) (fun ad' H' locs' hW' hag => ?_)
                      have hag2 : ∀ k, k < hp.1.length ∨ 1000000 ≤ k → h'.1.length < 1000000 → ad' k = ad k := fun k hk hlt => hag k (by omega)
                      have hsame : h'.1.length = hp.1.length → ad' = ad := fun e => funext fun j => hag j (by omega)
                      have hloc : xLR ad' vS ls (xmi m).2.2.2.1 lr ∧ (st.drop b).map (xtr ad vS) = (st.drop b).map (xtr ad' vS) ∧ xEx X ad' vS A s := by
                        rcases hok with e | ⟨hk1, hk2⟩
                        · rw [hsame e]; exact ⟨hL, rfl, hE⟩
                        · obtain ⟨g1, g2⟩ := xoks_app.mp hk1
                          exact ⟨xLR_ad g1 (fun k hk => hag2 k hk hk2) hL, (xtrs_ad g2 (fun k hk => hag2 k hk hk2)).symm, xEx_ad (fun k hk => hag2 k (Or.inr hk) hk2) hE⟩
                      obtain ⟨g1, g2, g3⟩ := hloc
                      rw [g2, show (v.map (xtr ad' vS)).toList ++ (st.drop b).map (xtr ad' vS) = (v.toList ++ st.drop b).map (xtr ad' vS) by cases v <;> simp]
                      refine ih (d' + 1) m nx ls _ h' r hp' h hF g3 hA hW' g1 hRf hRl (by omega) (by omega) (fun pc2 lr2 H2 locs2 ad2 c2 s2 w1 w2 w3 w4 w5 => kk pc2 lr2 H2 locs2 ad2 c2 s2 w1 (fun j hj => ?_) (by omega) (by omega) w5)
                      rw [w2 j (by omega), hag j (by omega)]
                    · cases h
                  · cases h
                · cases h
            · split at h
              · rename_i st' h' h1
                have m1 := xs3_mono h1
                have m2 := xmono _ _ _ _ _ _ _ _ _ h
                refine xs3_ok (nL := (xmi m).2.2.2.1) hF hA hW hL (by omega) (by omega) hc h1 (fun H' locs' ad' c1 s1 hW' hag hL' hc1 hs1 => ?_)
                have hE' : xEx X ad' vS A s := by
                  rcases xs3_len h1 with z | z
                  · exact xEx_ad (fun k hk => hag k (by omega)) hE
                  · have : ad' = ad := funext fun j => hag j (by omega)
                    rw [this]; exact hE
                refine ih d m nx ls st' h' r hp' h hF hE' hA hW' hL' hRf hRl (by omega) (by omega) (fun pc2 lr2 H2 locs2 ad2 c2 s2 w1 w2 w3 w4 w5 => kk pc2 lr2 H2 locs2 ad2 c2 s2 w1 (fun j hj => ?_) (by omega) (by omega) w5)
                rw [w2 j (by omega), hag j (by omega)]
              · cases h
