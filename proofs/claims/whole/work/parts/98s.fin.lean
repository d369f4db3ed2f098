/-! both readers: the end of the text -/
def pcD (I : XI) (c : Nat) : Bool := !decide (I 7 0 ≤ Int32.ofNat (c % 6)) && (!decide (I 7 1 ≤ Int32.ofNat (c / 6)) && !decide (I 8 c = 9))
theorem d_isPiece {I : XI} {c : Nat} (hc : c < 30) : f_Table_isPiece 7 I (Int32.ofNat c) = some (b2 (pcD I c)) := by
  unfold f_Table_isPiece pcD
  rw [nk_m6 hc, nk_d6 hc]
  by_cases h1 : I 7 0 ≤ Int32.ofNat (c % 6)
  · rw [if_pos h1, decide_eq_true h1]; rfl
  · rw [if_neg h1, decide_eq_false h1]
    by_cases h2 : I 7 1 ≤ Int32.ofNat (c / 6)
    · rw [if_pos h2, decide_eq_true h2]; rfl
    · rw [if_neg h2, decide_eq_false h2, xck_true (nk_in hc (by omega)), nk_N (by omega), b2_ifn, xck_true b2_nar]
      rfl
def asB (I : XI) (c : Nat) : Bool := decide (((I 6 8 >>> (Int32.ofNat c &&& 31)) &&& 1) = 1) && !pcD I c
theorem c_astray {F : Nat} (hF : 4000000 ≤ F) {I : XI} : f_Reader_knobsAstray F I = some (b2 (anyB (asB I) 30)) := by
  refine xOk.eq ?_
  unfold f_Reader_knobsAstray
  refine xloop 30 (fun m (s : Bool) c => f_Reader_knobsAstray_4 F I m (b2 s) (Int32.ofNat c)) (fun c s => s = anyB (asB I) c) ?_ ?_ F false 0 (by omega) (by omega) rfl
  · intro m s c hc hP ih
    show xOk (f_Reader_knobsAstray_4 F I (m + 1) (b2 s) (Int32.ofNat c)) _
    rw [f_Reader_knobsAstray_4, nk_succ]
    refine xOk.neg (nk_nge hc (by decide)) ?_
    cases hs : s with
    | true =>
      rw [hs] at hP
      refine xOk.neg (by decide) (xOk.ck rfl (xOk.pur ?_))
      rw [anyB_true (by omega) hP.symm]
    | false =>
      rw [hs] at hP
      refine xOk.pos rfl ?_
      have nx : ∀ s', s' = asB I c → s' = anyB (asB I) (c + 1) := fun s' h => by
        show s' = (anyB (asB I) c || asB I c)
        rw [← hP, Bool.false_or]
        exact h
      by_cases hb : ((I 6 8 >>> (Int32.ofNat c &&& 31)) &&& 1) = 1
      · refine xOk.pos hb (xOk.bnde (d_isPiece hc) ?_)
        have e : (if b2 (pcD I c) = 0 then (1 : Int32) else 0) = b2 (!pcD I c) := by cases pcD I c <;> rfl
        rw [e]
        refine ih _ (nx _ ?_)
        unfold asB
        rw [decide_eq_true hb, Bool.true_and]
      · refine xOk.neg hb (ih false (nx false ?_))
        unfold asB
        rw [decide_eq_false hb, Bool.false_and]
  · intro m s hP
    show xOk (f_Reader_knobsAstray_4 F I (m + 1) (b2 s) (Int32.ofNat 30)) _
    rw [f_Reader_knobsAstray_4]
    exact xOk.pos (by decide) (xOk.ck b2_nar (xOk.pur (by rw [hP])))
def pcR (sd : Nat) (M : XI) (c : Nat) : Bool := !decide (M 140 sd ≤ Int32.ofNat (c % 6)) && (!decide (M 141 sd ≤ Int32.ofNat (c / 6)) && !decide (M 142 (30 * sd + c) = 9))
theorem m_isTable {F : Nat} (hF : 4000000 ≤ F) {sd kn : Nat} {cs : Nat → Nat} {M : XI} (hsd : sd < 2) (h19 : M 131 19 = Int32.ofNat sd) (hkn : kn ≤ 40) (h144 : M 144 sd = Int32.ofNat kn) (hcs : ∀ k, k < kn → cs k < 30 ∧ M 145 (40 * sd + k) = Int32.ofNat (cs k)) : f_M_isTable F M = some (b2 (allB (fun k => pcR sd M (cs k)) kn)) := by
  refine xOk.eq ?_
  unfold f_M_isTable
  have hin2 : xin (M 131 19) 2 = true := by rw [h19]; exact nk_in hsd (by omega)
  have hN19 : xN (M 131 19) = sd := by rw [h19]; exact nk_N (by omega)
  refine xloop kn (fun m (_ : Unit) k => f_M_isTable_2 F M m (Int32.ofNat k)) (fun k _ => allB (fun k => pcR sd M (cs k)) k = true) ?_ ?_ F () 0 (by omega) (by omega) rfl
  · intro m _ k hk hP ih
    show xOk (f_M_isTable_2 F M (m + 1) (Int32.ofNat k)) _
    rw [f_M_isTable_2, hN19, h144, h19, show (40 : Int32) = Int32.ofNat 40 from rfl, nk_mul, nk_add, nk_N (show 40 * sd + k < 2147483648 by omega), (hcs k hk).2, nk_m6 (hcs k hk).1, nk_d6 (hcs k hk).1, nk_succ, show (30 : Int32) = Int32.ofNat 30 from rfl, nk_mul, nk_add]
    have hc := (hcs k hk).1
    rw [nk_N (show 30 * sd + cs k < 2147483648 by omega)]
    have nx : pcR sd M (cs k) = false → allB (fun k => pcR sd M (cs k)) kn = false := fun h => by
      refine allB_false (k := k + 1) (by omega) ?_
      show (allB (fun k => pcR sd M (cs k)) k && pcR sd M (cs k)) = false
      rw [h, Bool.and_false]
    have yes : pcR sd M (cs k) = true → allB (fun k => pcR sd M (cs k)) (k + 1) = true := fun h => by
      show (allB (fun k => pcR sd M (cs k)) k && pcR sd M (cs k)) = true
      rw [hP, h]; rfl
    have i2 : xin (Int32.ofNat sd) 2 = true := nk_in hsd (by omega)
    refine xOk.ck i2 (xOk.neg (nk_nge hk (by omega)) (xOk.ck (nk_in (by omega) (by omega)) (xOk.ck i2 ?_)))
    by_cases h1 : M 140 sd ≤ Int32.ofNat (cs k % 6)
    · refine xOk.pos h1 (xOk.pur ?_)
      rw [nx (by unfold pcR; rw [decide_eq_true h1]; rfl)]
      rfl
    · refine xOk.neg h1 (xOk.ck i2 ?_)
      by_cases h2 : M 141 sd ≤ Int32.ofNat (cs k / 6)
      · refine xOk.pos h2 (xOk.pur ?_)
        rw [nx (by unfold pcR; rw [decide_eq_false h1, decide_eq_true h2]; rfl)]
        rfl
      · refine xOk.neg h2 (xOk.ck (nk_in (by omega) (by omega)) ?_)
        by_cases h3 : M 142 (30 * sd + cs k) = 9
        · refine xOk.pos h3 (xOk.pur ?_)
          rw [nx (by unfold pcR; rw [decide_eq_false h1, decide_eq_false h2, decide_eq_true h3]; rfl)]
          rfl
        · exact xOk.neg h3 (ih () (yes (by unfold pcR; rw [decide_eq_false h1, decide_eq_false h2, decide_eq_false h3]; rfl)))
  · intro m _ hP
    show xOk (f_M_isTable_2 F M (m + 1) (Int32.ofNat kn)) _
    rw [f_M_isTable_2, hN19, h144]
    refine xOk.ck hin2 (xOk.pos (Int32.le_refl _) (xOk.pur ?_))
    rw [hP]
    rfl
/-- both hold the knobs' cells for pieces, or neither -/
theorem astray_eq {sd kn cm : Nat} {cs : Nat → Nat} {I M : XI} (h68 : cm < 1073741824 ∧ I 6 8 = Int32.ofNat cm) (hcs : ∀ k, k < kn → cs k < 30) (hcm : ∀ c, c < 30 → (cm.testBit c = true ↔ ∃ k, k < kn ∧ cs k = c)) (hW : dW sd I M) (h65 : I 6 5 = 0) : anyB (asB I) 30 = !allB (fun k => pcR sd M (cs k)) kn := by
  obtain ⟨w, h, ⟨d1, d2⟩, ⟨d3, d4⟩, ⟨d5, d6⟩, d7⟩ := hW
  obtain ⟨d7, d8⟩ := d7 h65
  have hpc : ∀ c, c < 30 → pcD I c = pcR sd M c := by
    intro c hc
    unfold pcD pcR
    rw [d3, d4, d5, d6]
    by_cases e1 : w ≤ c % 6
    · rw [decide_eq_true (nk_le_t e1 (by omega))]; rfl
    · by_cases e2 : h ≤ c / 6
      · rw [decide_eq_true (nk_le_t e2 (by omega))]
        rfl
      · have := (d8 (c / 6) (c % 6) (by omega) (by omega)).1
        rw [show 6 * (c / 6) + c % 6 = c by omega] at this
        rw [this]
  have hbt : ∀ c, c < 30 → decide (((I 6 8 >>> (Int32.ofNat c &&& 31)) &&& 1) = 1) = cm.testBit c := by
    intro c hc
    rw [h68.2, bit_get (by omega) (by omega)]
    cases cm.testBit c <;> rfl
  cases hall : allB (fun k => pcR sd M (cs k)) kn with
  | true =>
    cases hany : anyB (asB I) 30 with
    | false => rfl
    | true =>
      obtain ⟨c, hc, hp⟩ := anyB_ex _ hany
      unfold asB at hp
      rw [hbt c hc, hpc c hc, Bool.and_eq_true] at hp
      obtain ⟨k, hk, hk'⟩ := (hcm c hc).mp hp.1
      have := allB_iff.mp hall k hk
      rw [hk'] at this
      rw [this] at hp
      cases hp.2
  | false =>
    cases hany : anyB (asB I) 30 with
    | true => rfl
    | false =>
      exfalso
      have : allB (fun k => pcR sd M (cs k)) kn = true := by
        refine allB_iff.mpr (fun k hk => ?_)
        cases hp : pcR sd M (cs k) with
        | true => rfl
        | false =>
          have hc := hcs k hk
          have hb := (hcm (cs k) hc).mpr ⟨k, hk, rfl⟩
          have : anyB (asB I) 30 = true := anyB_true (k := cs k + 1) (by omega) (by
            show (anyB (asB I) (cs k) || asB I (cs k)) = true
            have : asB I (cs k) = true := by
              unfold asB
              rw [hbt _ hc, hb, hpc _ hc, hp]
              rfl
            rw [this, Bool.or_true])
          rw [hany] at this
          cases this
      rw [hall] at this
      cases this
def scRN (sd o j : Nat) : Bool := scRM sd o j || (Nat.beq o 131 && Nat.beq j 17)
/-- what a text with a fault leaves; one without -/
def rdF (sd : Nat) (L : XL) (I M : XI) (r : Int32 × XI) (q : Int32 × XI × XL) : Prop := (onlyL L q.2.2 ∧ Same scRd I r.2 ∧ Same (scRN sd) M q.2.1) ∧ (∃ f, 0 < f ∧ f < 7 ∧ r.1 = Int32.ofNat f) ∧ q.1 = r.1 ∧ r.2 6 4 = q.2.1 131 17
def rdG (b : Nat → Int32) (n sd : Nat) (L : XL) (I M : XI) (r : Int32 × XI) (q : Int32 × XI × XL) : Prop := ∃ t M1, ((onlyL L q.2.2 ∧ Same scRd I r.2 ∧ Same (scRN sd) M M1) ∧ (r.1 = 0 ∧ q.1 = 0) ∧ (r.2 6 4 = -1 ∧ M1 131 17 = -1)) ∧ (TD b n sd t r.2 M1 q.2.2 ∧ t ≤ 400 ∧ r.2 6 5 = 0) ∧ (q.2.1 131 18 = Int32.ofNat sd ∧ q.2.1 131 50 = M1 149 sd ∧ q.2.1 131 54 = 0 ∧ q.2.1 131 59 = 0) ∧ (∀ j, j < 33 → q.2.1 162 j = 0 ∧ q.2.1 163 j = 0) ∧ (∀ j, j < 3 → q.2.1 173 j = 0) ∧ (∀ j, ¬ (j = 18 ∨ j = 50 ∨ j = 54 ∨ j = 59) → q.2.1 131 j = M1 131 j) ∧ ∀ o, ¬ (o = 131 ∨ o = 162 ∨ o = 163 ∨ o = 173) → q.2.1 o = M1 o
def rdQ (b : Nat → Int32) (n sd : Nat) (L : XL) (I M : XI) (r : Int32 × XI) (q : Int32 × XI × XL) : Prop := rdF sd L I M r q ∨ rdG b n sd L I M r q
theorem m_begins {F : Nat} (hF : 4000000 ≤ F) {sd : Nat} {M : XI} (hsd : sd < 2) (h18 : M 131 18 = Int32.ofNat sd) : xOk (f_M_begins F M) (fun K => (∀ j, j < 33 → K 163 j = 0) ∧ K 131 50 = M 149 sd ∧ (∀ j, ¬ j = 50 → K 131 j = M 131 j) ∧ ∀ o, ¬ o = 131 → ¬ o = 163 → K o = M o) := by
  unfold f_M_begins
  refine xloop 33 (fun m (K : XI) k => f_M_begins_2 F m (Int32.ofNat k) K) (fun k K => (∀ j, j < k → K 163 j = 0) ∧ ∀ o, ¬ o = 163 → K o = M o) ?_ ?_ F M 0 (by omega) (by omega) ⟨fun j hj => absurd hj (Nat.not_lt_zero j), fun _ _ => rfl⟩
  · rintro m K k hk ⟨h1, h2⟩ ih
    show xOk (f_M_begins_2 F (m + 1) (Int32.ofNat k) K) _
    rw [f_M_begins_2, nk_succ]
    refine xOk.neg (nk_nge hk (by decide)) (xOk.ck (nk_in hk (by omega)) (xOk.st (ih _ ⟨fun j hj => ?_, fun o ho => ?_⟩)))
    · rw [nk_N (by omega), xput_at]
      by_cases e : j = k
      · rw [if_pos e]
      · rw [if_neg e]; exact h1 j (by omega)
    · rw [xput_neo ho]; exact h2 o ho
  · rintro m K ⟨h1, h2⟩
    show xOk (f_M_begins_2 F (m + 1) (Int32.ofNat 33) K) _
    rw [f_M_begins_2, h2 131 (by omega), h18]
    refine xOk.pos (by decide) (xOk.ck (nk_in hsd (by omega)) (xOk.st (xOk.pur ⟨fun j hj => ?_, ?_, fun j hj => ?_, fun o o1 o2 => ?_⟩)))
    · rw [xput_neo (by omega)]; exact h1 j hj
    · rw [xput_eq, nk_N (by omega), h2 149 (by omega)]
    · rw [xput_ne (by omega), h2 131 (by omega)]
    · rw [xput_neo o1]; exact h2 o o2
theorem m_keeps {F : Nat} (hF : 4000000 ≤ F) {M : XI} (h0 : ∀ j, j < 33 → M 163 j = 0) : xOk (f_M_keepsRow F M) (fun K => (∀ j, j < 33 → K 162 j = 0) ∧ ∀ o, ¬ o = 162 → K o = M o) := by
  unfold f_M_keepsRow
  refine xloop 33 (fun m (K : XI) k => f_M_keepsRow_2 F m (Int32.ofNat k) K) (fun k K => (∀ j, j < k → K 162 j = 0) ∧ ∀ o, ¬ o = 162 → K o = M o) ?_ ?_ F M 0 (by omega) (by omega) ⟨fun j hj => absurd hj (Nat.not_lt_zero j), fun _ _ => rfl⟩
  · rintro m K k hk ⟨h1, h2⟩ ih
    show xOk (f_M_keepsRow_2 F (m + 1) (Int32.ofNat k) K) _
    rw [f_M_keepsRow_2, nk_succ]
    refine xOk.neg (nk_nge hk (by decide)) (xOk.ck (nk_in hk (by omega)) (xOk.ck (nk_in hk (by omega)) (xOk.st (ih _ ⟨fun j hj => ?_, fun o ho => ?_⟩))))
    · rw [nk_N (by omega), xput_at]
      by_cases e : j = k
      · rw [if_pos e, h2 163 (by omega), h0 k hk]
      · rw [if_neg e]; exact h1 j (by omega)
    · rw [xput_neo ho]; exact h2 o ho
  · rintro m K ⟨h1, h2⟩
    show xOk (f_M_keepsRow_2 F (m + 1) (Int32.ofNat 33) K) _
    rw [f_M_keepsRow_2]
    exact xOk.pos (by decide) (xOk.pur ⟨h1, h2⟩)
theorem m_243 {F : Nat} (hF : 4000000 ≤ F) {M : XI} {L : XL} : xOk (f_M_read_243 F F 0 M L) (fun q => q.1 = 0 ∧ q.2.2 = L ∧ (∀ j, j < 3 → q.2.1 173 j = 0) ∧ ∀ o, ¬ o = 173 → q.2.1 o = M o) := by
  refine xloop 3 (fun m (K : XI) k => f_M_read_243 F m (Int32.ofNat k) K L) (fun k K => (∀ j, j < k → K 173 j = 0) ∧ ∀ o, ¬ o = 173 → K o = M o) ?_ ?_ F M 0 (by omega) (by omega) ⟨fun j hj => absurd hj (Nat.not_lt_zero j), fun _ _ => rfl⟩
  · rintro m K k hk ⟨h1, h2⟩ ih
    show xOk (f_M_read_243 F (m + 1) (Int32.ofNat k) K L) _
    rw [f_M_read_243, nk_succ]
    refine xOk.neg (nk_nge hk (by decide)) (xOk.ck (nk_in hk (by omega)) (xOk.st (ih _ ⟨fun j hj => ?_, fun o ho => ?_⟩)))
    · rw [nk_N (by omega), xput_at]
      by_cases e : j = k
      · rw [if_pos e]; decide
      · rw [if_neg e]; exact h1 j (by omega)
    · rw [xput_neo ho]; exact h2 o ho
  · rintro m K ⟨h1, h2⟩
    show xOk (f_M_read_243 F (m + 1) (Int32.ofNat 3) K L) _
    rw [f_M_read_243]
    exact xOk.pos (by decide) (xOk.pur ⟨rfl, rfl, h1, h2⟩)
