/-! tell, forget; missing, sure, ask -/
def scCh (o j : Nat) : Bool := Nat.beq o 128 || Nat.beq o 129 || (Nat.beq o 127 && Nat.beq j 3)
def scCm (o j : Nat) : Bool := Nat.beq o 170 || Nat.beq o 171 || (Nat.beq o 131 && Nat.beq j 59)
def scC (o j : Nat) : Bool := scCh o j || scCm o j
theorem play_C {F : Nat} {S : Nat → Nat → Bool} {I J : XI} (h : playR F I) (hs : Same S I J) (hS : ∀ o j, scC o j = false → S o j = false) : playR F J := by
  have hs : Same scC I J := hs.mono hS
  obtain ⟨lv, V, T, x, ⟨a1, ⟨a2, a3⟩, ⟨a4, a5⟩, a6, a7, a8⟩, ⟨b1, b2, b3⟩, ⟨n, p, hst, fl, ss, ⟨p1, p2, p3⟩, p4, ⟨p5, p5'⟩, p6, p7⟩⟩ := h
  have hlo : ∀ o, 3 ≤ o → o ≤ 126 → ∀ j, scC o j = false := by
    intro o h1 h2 j
    unfold scC scCh scCm
    rw [beqf (show ¬ o = 128 by omega), beqf (show ¬ o = 129 by omega), beqf (show ¬ o = 127 by omega), beqf (show ¬ o = 170 by omega), beqf (show ¬ o = 171 by omega), beqf (show ¬ o = 131 by omega)]
    rfl
  refine ⟨lv, V, T, x, ⟨a1, ⟨tbC_same a2 hs (fun _ => rfl) (fun _ => rfl) (fun _ => rfl) (fun _ => rfl), ?_⟩, ⟨?_, ?_⟩, a6, ?_, ?_⟩, ⟨oH_same b1 hs (fun _ => rfl) (fun _ => rfl), oM_same b2 hs (fun _ => rfl), b3⟩, ⟨n, p, hst, fl, ss, ⟨uH_same p1 hs rfl rfl (fun o x y => hlo o (by omega) (by omega)), uM_same p2 hs rfl (fun _ => rfl), p3⟩, p4, ⟨?_, fun s s1 s2 => oH_same (p5' s s1 s2) hs (hlo _ (by omega) (by omega)) (hlo _ (by omega) (by omega))⟩, fun s s1 => ⟨?_, fun e => oM_same ((p6 s s1).2 e) hs (fun _ => rfl)⟩, p7⟩⟩
  · obtain ⟨⟨a1, a2⟩, ⟨b1, b2, b3⟩, c1, c2, c3⟩ := a3
    refine ⟨⟨a1, ?_⟩, ⟨?_, ?_, ?_⟩, ?_, ?_, ?_⟩
    · rw [hs 131 18 rfl]; exact a2
    · rw [hs 140 lv rfl]; exact b1
    · rw [hs 141 lv rfl]; exact b2
    · rw [hs 146 lv rfl]; exact b3
    · intro a ha hi
      rw [hs 142 _ rfl]; exact c1 a ha hi
    · intro a s ha h4
      rw [hs 143 _ rfl]; exact c2 a s ha h4
    · intro e s he h4
      rw [hs 147 _ rfl]; exact c3 e s he h4
  · rw [hs 148 lv rfl, hs 17 3 rfl]; exact a4
  · rw [hs 149 lv rfl, hs 17 4 rfl]; exact a5
  · intro k hk K e1 e2 e3
    exact a7 k hk K (e1.trans (hs 21 1 rfl)) (e2.trans (hs.row 22 (fun _ => rfl))) (e3.trans (hs.row 23 (fun _ => rfl)))
  · intro k hk K e
    refine a8 k hk K (agM_trans ⟨hs 131 18 rfl, fun k _ => ⟨hs 150 _ rfl, hs 151 _ rfl⟩, fun b _ => ⟨hs 152 _ rfl, hs 153 _ rfl, hs 154 _ rfl, hs 155 _ rfl, hs 156 _ rfl⟩, fun c _ => ⟨hs 157 _ rfl, hs 158 _ rfl⟩⟩ e)
  · rw [hs 38 4 rfl]; exact p5
  · rw [hs 173 s rfl]; exact (p6 s s1).1
theorem rest_C {I J : XI} (h : restR I) (hs : Same scC I J) (ht : toldR J) : restR J := by
  obtain ⟨-, ⟨m, m1, ⟨m2, m3⟩, m4⟩, h3⟩ := h
  refine ⟨ht, ⟨m, m1, ⟨?_, ?_⟩, fun i hi => ?_⟩, ?_⟩
  · rw [hs 1 1 rfl]; exact m2
  · rw [hs 131 2 rfl]; exact m3
  · rw [hs 2 i rfl, hs 132 i rfl]; exact m4 i hi
  · rw [hs 6 4 rfl, hs 131 17 rfl]; exact h3
theorem both_tell {F : Nat} {I : XI} (hI : Inv F I) {s k : Int32} : both F I (f_H_tell s k) (f_M_tell s k) := by
  have hI0 := hI
  obtain ⟨hpl, hr⟩ := hI
  obtain ⟨⟨n, n1, ⟨n2, n3⟩, n4⟩, -, -⟩ := id hr
  -- refused
  have mno : ∀ (b : Bool), (rng s 0 3 && (decide (-3 ≤ k) && decide (k ≤ 3))) = false ∨ n = 20 → xOk (f_M_tell s k I) (fun q => q.1 = -1 ∧ Inv F q.2) := by
    intro _ h
    unfold f_M_tell
    rw [n3]
    by_cases e : n = 20
    · exact xOk.pos (by rw [e]; rfl) (xOk.pur ⟨rfl, hI0⟩)
    · refine xOk.neg (show ¬ Int32.ofNat n = 20 by rw [nl20, nk_eq (by omega) (by omega)]; exact e) (xOk.bnde m_isSide ?_)
      cases h1 : rng s 0 3 with
      | false => exact xOk.pos rfl (xOk.pur ⟨rfl, hI0⟩)
      | true =>
        refine xOk.neg (by decide) (xOk.bnde m_in ?_)
        have h2 : (decide (-3 ≤ k) && decide (k ≤ 3)) = false := by
          rcases h with h | h
          · rw [h1, Bool.true_and] at h; exact h
          · exact absurd h e
        rw [h2]
        exact xOk.pos rfl (xOk.pur ⟨rfl, hI0⟩)
  unfold both f_H_tell
  refine xOk.bnde h_isSide ?_
  cases h1 : rng s 0 3 with
  | false => exact xOk.pos rfl (xOk.pur (mno true (Or.inl (by rw [h1]; rfl))))
  | true =>
    refine xOk.neg (by decide) ?_
    by_cases h2 : k < -3
    · refine xOk.pos h2 (xOk.pur (mno true (Or.inl ?_)))
      rw [decide_eq_false (Int32.not_le.mpr h2), Bool.false_and, Bool.and_false]
    refine xOk.neg h2 ?_
    by_cases h3 : k ≤ 3
    · refine xOk.pos h3 ?_
      by_cases h4 : n < 20
      · obtain ⟨ks, hks, rfl⟩ := side_ex h1
        refine xOk.bnd (P := fun r => r.1 = Int32.ofNat n ∧ Same scCh I r.2 ∧ r.2 127 3 = Int32.ofNat (n + 1) ∧ (∀ j, r.2 128 j = if j = n then Int32.ofNat ks else I 128 j) ∧ (∀ j, r.2 129 j = if j = n then k else I 129 j)) ?_ ?_
        · unfold f_Clues_add
          rw [n2]
          refine xOk.pos (show Int32.ofNat n < 20 from nk_lt_t h4 (by decide)) (xOk.ck (nk_in h4 (by omega)) (xOk.st ?_))
          rw [nk_N (by omega), xput_neo (show ¬ 127 = 128 by omega), n2]
          refine xOk.ck (nk_in h4 (by omega)) (xOk.st (xOk.st (xOk.pur ?_)))
          rw [nk_N (by omega), xput_neo (show ¬ 127 = 129 by omega), xput_neo (show ¬ 127 = 128 by omega), n2, nk_succ]
          refine ⟨?_, ?_, ?_, fun j => ?_, fun j => ?_⟩
          · show xput _ 127 3 _ 127 3 - 1 = _
            rw [xput_eq, nl1, nk_sub (by omega), Nat.add_sub_cancel]
          · exact ((Same.put (I := I) (o := 128) (j := n) rfl).put' rfl).put' rfl
          · exact xput_eq (I := xput (xput I 128 n (Int32.ofNat ks)) 129 n k) (o := 127) (j := 3) (v := Int32.ofNat (n + 1))
          · show xput (xput (xput I 128 n (Int32.ofNat ks)) 129 n k) 127 3 (Int32.ofNat (n + 1)) 128 j = _
            rw [xput_neo (by omega), xput_neo (by omega), xput_at]
          · show xput (xput (xput I 128 n (Int32.ofNat ks)) 129 n k) 127 3 (Int32.ofNat (n + 1)) 129 j = _
            rw [xput_neo (by omega), xput_at, xput_neo (by omega)]
        · intro r hr2
          obtain ⟨r1, r2, r3, r4, r5⟩ := hr2
          refine xOk.pur ?_
          show xOk (f_M_tell (Int32.ofNat ks) k r.2) (fun q => q.1 = r.1 ∧ Inv F q.2)
          unfold f_M_tell
          have m59 : r.2 131 59 = Int32.ofNat n := (r2 131 59 rfl).trans n3
          rw [m59]
          refine xOk.neg (show ¬ Int32.ofNat n = 20 by rw [nl20, nk_eq (by omega) (by omega)]; omega) (xOk.bnde m_isSide ?_)
          rw [h1]
          refine xOk.neg (by decide) (xOk.bnde m_in ?_)
          rw [decide_eq_true (Int32.not_lt.mp h2), decide_eq_true h3]
          refine xOk.neg (by decide) (xOk.ck (nk_in h4 (by omega)) (xOk.st ?_))
          rw [nk_N (by omega), xput_neo (show ¬ 131 = 170 by omega), m59]
          refine xOk.ck (nk_in h4 (by omega)) (xOk.st (xOk.st (xOk.pur ?_)))
          rw [nk_N (by omega), xput_neo (show ¬ 131 = 171 by omega), xput_neo (show ¬ 131 = 170 by omega), m59, nk_succ]
          have sM : Same scCm r.2 (xput (xput (xput r.2 170 n (Int32.ofNat ks)) 171 n k) 131 59 (Int32.ofNat (n + 1))) := ((Same.put rfl).put' rfl).put' rfl
          generalize hK : xput (xput (xput r.2 170 n (Int32.ofNat ks)) 171 n k) 131 59 (Int32.ofNat (n + 1)) = K at *
          have k59 : K 131 59 = Int32.ofNat (n + 1) := by rw [← hK, xput_eq]
          have k170 : ∀ j, K 170 j = if j = n then Int32.ofNat ks else r.2 170 j := fun j => by rw [← hK, xput_neo (by omega), xput_neo (by omega), xput_at]
          have k171 : ∀ j, K 171 j = if j = n then k else r.2 171 j := fun j => by rw [← hK, xput_neo (by omega), xput_at, xput_neo (by omega)]
          refine ⟨?_, play_C (play_C hpl r2 (fun o j e => (Bool.or_eq_false_iff.mp e).1)) sM (fun o j e => (Bool.or_eq_false_iff.mp e).2), ?_⟩
          · show K 131 59 - 1 = r.1
            rw [k59, r1, nl1, nk_sub (by omega), Nat.add_sub_cancel]
          · refine rest_C hr ((r2.mono (fun o j e => (Bool.or_eq_false_iff.mp e).1)).trans (sM.mono (fun o j e => (Bool.or_eq_false_iff.mp e).2))) ⟨n + 1, by omega, ⟨?_, k59⟩, fun i hi => ?_⟩
            · show K 127 3 = _
              rw [sM 127 3 rfl]; exact r3
            · show (K 128 i = K 170 i ∧ K 129 i = K 171 i) ∧ ∃ s, s < 4 ∧ K 128 i = Int32.ofNat s
              rw [sM 128 i rfl, sM 129 i rfl, k170, k171, r4, r5, r2 170 i rfl, r2 171 i rfl]
              by_cases e : i = n
              · simp only [if_pos e]
                exact ⟨⟨trivial, trivial⟩, ks, hks, rfl⟩
              · simp only [if_neg e]
                exact n4 i (by omega)
      · refine xOk.bnd (P := fun r => r = (-1, I)) ?_ ?_
        · unfold f_Clues_add
          rw [n2]
          exact xOk.neg (show ¬ Int32.ofNat n < 20 from nk_lt_f (b := 20) (by omega) (by omega)) (xOk.pur rfl)
        · intro r hr2
          rw [hr2]
          exact xOk.pur (mno true (Or.inr (by omega)))
    · refine xOk.neg h3 (xOk.pur (mno true (Or.inl ?_)))
      rw [decide_eq_false h3, Bool.and_false, Bool.and_false]
theorem both_forget {F : Nat} {I : XI} (hI : Inv F I) : both F I f_H_forget f_M_forget := by
  obtain ⟨hpl, hr⟩ := hI
  obtain ⟨⟨n, n1, ⟨n2, n3⟩, n4⟩, -, -⟩ := id hr
  unfold both f_H_forget
  refine xOk.st (xOk.pur ?_)
  show xOk (f_M_forget (xput I 127 3 0)) _
  unfold f_M_forget
  refine xOk.st (xOk.pur ?_)
  have r2 : Same scCh I (xput I 127 3 0) := Same.put rfl
  have sM : Same scCm (xput I 127 3 0) (xput (xput I 127 3 0) 131 59 0) := Same.put rfl
  refine ⟨?_, play_C (play_C hpl r2 (fun o j e => (Bool.or_eq_false_iff.mp e).1)) sM (fun o j e => (Bool.or_eq_false_iff.mp e).2), rest_C hr ((r2.mono (fun o j e => (Bool.or_eq_false_iff.mp e).1)).trans (sM.mono (fun o j e => (Bool.or_eq_false_iff.mp e).2))) ⟨0, by omega, ⟨?_, ?_⟩, fun i hi => absurd hi (by omega)⟩⟩
  · show xput I 127 3 0 131 59 = I 127 3
    rw [xput_neo (by omega), n3, n2]
  · show xput (xput I 127 3 0) 131 59 0 127 3 = _
    rw [xput_neo (by omega), xput_eq]
    rfl
  · show xput (xput I 127 3 0) 131 59 0 131 59 = _
    rw [xput_eq]
    rfl
/-! what is known -/
def sop (T : XT) (sd kb : Nat → Int32) (e t i : Nat) : Bool := decide (spk T e t (xN (sd i)) = kb i)
def so (T : XT) (sd kb : Nat → Int32) (k w : Nat) : Bool := allB (sop T sd kb (w / 4) (w % 4)) k
def kw (n : Nat) (k : Int32) : Bool := decide (0 ≤ k) && decide (k ≤ Int32.ofNat n)
theorem kw_ex {n : Nat} {k : Int32} (hn : n ≤ 20) (h : kw n k = true) : ∃ m, m ≤ n ∧ k = Int32.ofNat m := rng_ex (by omega) h
theorem c_knows {I : XI} {n : Nat} {k : Int32} (h : I 127 3 = Int32.ofNat n) : f_Clues_knows I k = some (b2 (kw n k)) := by
  unfold f_Clues_knows kw
  rw [h]
  by_cases h1 : k < 0
  · rw [if_pos h1, decide_eq_false (Int32.not_le.mpr h1)]
    rfl
  · rw [if_neg h1, b2_ifn, b2_nar, xckT, decide_eq_true (Int32.not_lt.mp h1), Bool.true_and]
    by_cases h2 : Int32.ofNat n < k
    · rw [decide_eq_true h2, decide_eq_false (Int32.not_le.mpr h2)]
      rfl
    · rw [decide_eq_false h2, decide_eq_true (Int32.not_lt.mp h2)]
      rfl
/-- told lists, on either side -/
def tolR (n : Nat) (sd kb : Nat → Int32) : Prop := n ≤ 20 ∧ ∀ i, i < n → ∃ s, s < 4 ∧ sd i = Int32.ofNat s
theorem c_isSo {F : Nat} (hF : 4000000 ≤ F) {T : XT} {I : XI} (hT : tbC 17 T I) (hO : tOk T) {n k e t : Nat} (hR : tolR n (I 128) (I 129)) (hk : k ≤ n) (he : e < tn T) (ht : t < 4) : f_Clues_isSo F I (Int32.ofNat e) (Int32.ofNat t) (Int32.ofNat k) = some (b2 (so T (I 128) (I 129) k (4 * e + t))) := by
  have hn := hR.1
  unfold f_Clues_isSo so
  rw [show (4 * e + t) / 4 = e by omega, show (4 * e + t) % 4 = t by omega]
  refine xOk.eq (xloop k (fun m (b : Bool) i => f_Clues_isSo_6 F I m (Int32.ofNat e) (Int32.ofNat t) (Int32.ofNat k) (b2 b) (Int32.ofNat i)) (fun i b => b = allB (sop T (I 128) (I 129) e t) i) ?_ ?_ F true 0 (by omega) (by omega) rfl)
  · intro m b i hi hb ih
    subst hb
    show xOk (f_Clues_isSo_6 F I (m + 1) _ _ _ _ _) _
    rw [f_Clues_isSo_6]
    refine xOk.neg (nk_nge hi (by omega)) ?_
    cases hb : allB (sop T (I 128) (I 129) e t) i with
    | false =>
      refine xOk.pos rfl (xOk.ck rfl (xOk.pur ?_))
      rw [allB_false (Nat.le_of_lt hi) hb]
    | true =>
      refine xOk.neg (by decide) (xOk.ck (nk_in (by omega) (by omega)) ?_)
      obtain ⟨s, hs, hsd⟩ := hR.2 i (by omega)
      simp only [show xN (Int32.ofNat i) = i from nk_N (by omega), hsd]
      refine xOk.bnde (c_spareKnob hT hO he ht hs) (xOk.ck (nk_in (by omega) (by omega)) ?_)
      rw [b2_if, nk_succ]
      refine ih _ ?_
      show _ = (allB _ i && sop T (I 128) (I 129) e t i)
      rw [hb, Bool.true_and]
      unfold sop
      rw [hsd, nk_N (by omega)]
  · intro m b hb
    subst hb
    show xOk (f_Clues_isSo_6 F I (m + 1) _ _ _ _ _) _
    rw [f_Clues_isSo_6]
    exact xOk.pos (Int32.le_refl _) (xOk.ck b2_nar (xOk.pur rfl))
theorem m_isSo {F : Nat} (hF : 4000000 ≤ F) {lv : Nat} {T : XT} {I : XI} {sd kb : Nat → Int32} (hM : tbM lv T I) (hO : tOk T) {n k w : Nat} (hR : tolR n sd kb) (hsd : ∀ i, i < n → I 170 i = sd i ∧ I 171 i = kb i) (hk : k ≤ n) (hw : w < 4 * tn T) : f_M_isSo F I (Int32.ofNat w) (Int32.ofNat k) = some (b2 (so T sd kb k w)) := by
  have hn := hR.1
  have o3 := hO.2.2
  unfold f_M_isSo so
  refine xOk.eq (xloop k (fun m (_ : Unit) i => f_M_isSo_2 F I m (Int32.ofNat w) (Int32.ofNat k) (Int32.ofNat i)) (fun i _ => allB (sop T sd kb (w / 4) (w % 4)) i = true) ?_ ?_ F () 0 (by omega) (by omega) rfl)
  · intro m u i hi hb ih
    show xOk (f_M_isSo_2 F I (m + 1) _ _ _) _
    rw [f_M_isSo_2]
    refine xOk.neg (nk_nge hi (by omega)) (xOk.ck (nk_in (by omega) (by omega)) ?_)
    obtain ⟨s, hs, hse⟩ := hR.2 i (by omega)
    obtain ⟨x1, x2⟩ := hsd i (by omega)
    have exi : xN (Int32.ofNat i) = i := nk_N (by omega)
    have e4 : Int32.ofNat w / 4 = Int32.ofNat (w / 4) := by rw [nl4, nk_div (by omega) (by omega)]
    have m4 : Int32.ofNat w - Int32.ofNat w / 4 * 4 = Int32.ofNat (w % 4) := by
      rw [nl4]
      simp (disch := omega) only [nk_div, nk_mul, nk_sub, nk_md]
    rw [exi, m4, e4, x1, hse]
    refine xOk.bnde (m_turned hM hO (show w / 4 < tn T by omega) (show w % 4 < 4 by omega) hs) (xOk.ck (nk_in (by omega) (by omega)) ?_)
    simp only [exi, x2]
    have es : allB (sop T sd kb (w / 4) (w % 4)) (i + 1) = sop T sd kb (w / 4) (w % 4) i := by
      show (allB _ i && sop T sd kb (w / 4) (w % 4) i) = _
      rw [hb, Bool.true_and]
    have es2 : sop T sd kb (w / 4) (w % 4) i = decide (spk T (w / 4) (w % 4) s = kb i) := by
      unfold sop
      rw [hse, nk_N (by omega)]
    by_cases e : spk T (w / 4) (w % 4) s = kb i
    · refine xOk.pos e ?_
      rw [nk_succ]
      exact ih () (by rw [es, es2, decide_eq_true e])
    · refine xOk.neg e (xOk.pur ?_)
      rw [allB_false (k := i + 1) (by omega) (by rw [es, es2, decide_eq_false e])]
      rfl
  · intro m u hb
    show xOk (f_M_isSo_2 F I (m + 1) _ _ _) _
    rw [f_M_isSo_2]
    refine xOk.pos (Int32.le_refl _) (xOk.pur ?_)
    rw [hb]
    rfl
