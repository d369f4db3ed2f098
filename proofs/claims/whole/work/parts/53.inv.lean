/-! what holds between the calls -/
def scH (o _j : Nat) : Bool := (Nat.beq o 24 || Nat.beq o 25 || Nat.beq o 28 || Nat.beq o 29 || Nat.beq o 31) || (Nat.beq o 33 || Nat.beq o 34 || Nat.beq o 35 || Nat.beq o 36 || Nat.beq o 130)
def scM (o j : Nat) : Bool := (Nat.beq o 160 || Nat.beq o 161 || Nat.beq o 163 || Nat.beq o 164 || Nat.beq o 165) || (Nat.beq o 167 || Nat.beq o 168 || Nat.beq o 169 || Nat.beq o 172 || (Nat.beq o 131 && (Nat.beq j 47 || Nat.beq j 50 || Nat.beq j 52)))
def scX (o j : Nat) : Bool := scH o j || scM o j
theorem scX_H {o j : Nat} (h : scX o j = false) : scH o j = false := by
  unfold scX at h
  exact (Bool.or_eq_false_iff.mp h).1
theorem scX_M {o j : Nat} (h : scX o j = false) : scM o j = false := by
  unfold scX at h
  exact (Bool.or_eq_false_iff.mp h).2
theorem Same.HX {I J : XI} (h : Same scH I J) : Same scX I J := h.mono (fun _ _ e => scX_H e)
theorem Same.MX {I J : XI} (h : Same scM I J) : Same scX I J := h.mono (fun _ _ e => scX_M e)
/-- an array but a few of the object 131's fields -/
def rowE (W : Nat → Int32) (o : Nat) (I : XI) : Prop := ∀ a, a < 30 → I o a = enc (W a)
def tLd (T : XT) : Prop := ∀ a, a < 30 → inT T a = true → isH T a = false → ∃ k, k < 5 ∧ tl T a = Int32.ofNat k
def kOk (v : Int32) : Prop := -3 ≤ v ∧ v ≤ 3
def tKb (T : XT) : Prop := (∀ a s, a < 30 → s < 4 → kOk (tk T (4 * a + s))) ∧ (∀ e s, e < tn T → s < 4 → kOk (ts T (4 * e + s)))
def core (lv : Nat) (T : XT) (W : Nat → Int32) (I : XI) : Prop :=
  (tOk T ∧ tLd T ∧ tKb T) ∧ (tbC 17 T I ∧ tbM lv T I) ∧ (I 27 = W ∧ wfW T W ∧ rowE W 162 I) ∧ (I 162 30 = I 26 1 ∧ I 162 31 = I 26 2 ∧ I 162 32 = I 26 3) ∧ (I 148 lv = I 17 3 ∧ I 149 lv = I 17 4)
theorem tbC_same {S : Nat → Nat → Bool} {T : XT} {I J : XI} (h : tbC 17 T I) (hs : Same S I J) (h1 : ∀ j, S 17 j = false) (h2 : ∀ j, S 18 j = false) (h3 : ∀ j, S 19 j = false) (h4 : ∀ j, S 20 j = false) : tbC 17 T J := by
  obtain ⟨a, b, c, d, e, f⟩ := h
  refine ⟨?_, ?_, ?_, ?_, ?_, ?_⟩
  · rw [hs 17 0 (h1 0)]; exact a
  · rw [hs 17 1 (h1 1)]; exact b
  · rw [hs 17 2 (h1 2)]; exact c
  · rw [hs.row (17 + 1) h2]; exact d
  · rw [hs.row (17 + 2) h3]; exact e
  · rw [hs.row (17 + 3) h4]; exact f
theorem tbC_X {T : XT} {I J : XI} (h : tbC 17 T I) (hs : Same scX I J) : tbC 17 T J := tbC_same h hs (fun _ => rfl) (fun _ => rfl) (fun _ => rfl) (fun _ => rfl)
theorem tbM_X {lv : Nat} {T : XT} {I J : XI} (h : tbM lv T I) (hs : Same scX I J) : tbM lv T J := by
  obtain ⟨⟨a1, a2⟩, ⟨b1, b2, b3⟩, c1, c2, c3⟩ := h
  refine ⟨⟨a1, ?_⟩, ⟨?_, ?_, ?_⟩, ?_, ?_, ?_⟩
  · rw [hs 131 18 rfl]; exact a2
  · rw [hs 140 lv rfl]; exact b1
  · rw [hs 141 lv rfl]; exact b2
  · rw [hs 146 lv rfl]; exact b3
  · intro a ha hi
    rw [hs 142 _ rfl]; exact c1 a ha hi
  · intro a s ha h4
    rw [hs 143 _ rfl]; exact c2 a s ha h4
  · intro e s he h4
    rw [hs 147 _ rfl]; exact c3 e s he h4
theorem core_X {lv : Nat} {T : XT} {W : Nat → Int32} {I J : XI} (h : core lv T W I) (hs : Same scX I J) : core lv T W J := by
  obtain ⟨h1, ⟨h2, h3⟩, ⟨h4, h5, h6⟩, ⟨h7, h8, h9⟩, h10, h11⟩ := h
  refine ⟨h1, ⟨tbC_X h2 hs, tbM_X h3 hs⟩, ⟨?_, h5, ?_⟩, ⟨?_, ?_, ?_⟩, ?_, ?_⟩
  · rw [hs.row 27 (fun _ => rfl)]; exact h4
  · intro a ha
    rw [hs 162 a rfl]; exact h6 a ha
  · rw [hs 162 30 rfl, hs 26 1 rfl]; exact h7
  · rw [hs 162 31 rfl, hs 26 2 rfl]; exact h8
  · rw [hs 162 32 rfl, hs 26 3 rfl]; exact h9
  · rw [hs 148 lv rfl, hs 17 3 rfl]; exact h10
  · rw [hs 149 lv rfl, hs 17 4 rfl]; exact h11
/-- the reference's row: what lies, the day, taxes, took, its seed -/
def rowS (W : Nat → Int32) (dy pd tk sd : Int32) (J : XI) : Prop := rowR W J ∧ J 163 30 = dy ∧ J 163 31 = pd ∧ J 163 32 = tk ∧ J 131 50 = sd
theorem m_copies {F : Nat} (hF : 4000000 ≤ F) {lv : Nat} {T : XT} {W : Nat → Int32} {I : XI} (hC : core lv T W I) : xOk (f_M_copies F I) (fun J => Same scM I J ∧ rowS W (I 26 1) (I 26 2) (I 26 3) (I 17 4) J) := by
  obtain ⟨h1, ⟨h2, h3⟩, ⟨h4, h5, h6⟩, ⟨h7, h8, h9⟩, h10, h11⟩ := hC
  unfold f_M_copies
  refine xloop 33 (fun n (J : XI) k => f_M_copies_2 F n (Int32.ofNat k) J) (fun k J => Same scM I J ∧ ∀ j, j < k → J 163 j = I 162 j) ?_ ?_ F I 0 (by omega) (by omega) ⟨Same.rfl, fun j hj => absurd hj (by omega)⟩
  · intro n J k hk hP ih
    obtain ⟨hs, hj⟩ := hP
    show xOk (f_M_copies_2 F (n + 1) _ _) _
    rw [f_M_copies_2]
    refine xOk.neg (nk_nge hk (by decide)) ?_
    rw [nk_in hk (by omega), nk_N (by omega), nk_succ]
    refine ih _ ⟨hs.put' rfl, ?_⟩
    intro j hj2
    rw [xput_at]
    by_cases e : j = k
    · rw [if_pos e, e]
      exact hs 162 k rfl
    · rw [if_neg e]
      exact hj j (by omega)
  · intro n J hP
    obtain ⟨hs, hj⟩ := hP
    show xOk (f_M_copies_2 F (n + 1) _ _) _
    rw [f_M_copies_2]
    refine xOk.pos (by decide) ?_
    have e18 : J 131 18 = Int32.ofNat lv := (hs 131 18 rfl).trans h3.1.2
    have hl := h3.1.1
    rw [e18, nk_in (by omega) (by omega), nk_N (by omega)]
    refine xOk.pur ⟨hs.put' rfl, ?_, ?_, ?_, ?_, ?_⟩
    · intro a ha
      rw [xput_neo (by decide)]
      rw [hj a (by omega)]
      exact h6 a ha
    · rw [xput_neo (by decide), hj 30 (by omega)]; exact h7
    · rw [xput_neo (by decide), hj 31 (by omega)]; exact h8
    · rw [xput_neo (by decide), hj 32 (by omega)]; exact h9
    · rw [xput_eq, hs 149 lv rfl]; exact h11
/-- how both sides answer a question -/
def ask2 (F : Nat) (I : XI) (h m : XI → Option (Int32 × XI)) : Prop := xOk (h I) (fun r => xOk (m r.2) (fun q => q.1 = r.1 ∧ Same scX I q.2))
theorem ask2_of {F : Nat} {I : XI} {h m : XI → Option (Int32 × XI)} {v : Int32} (h1 : xOk (h I) (fun r => r.1 = v ∧ Same scH I r.2)) (h2 : ∀ J, Same scX I J → xOk (m J) (fun q => q.1 = v ∧ Same scM J q.2)) : ask2 F I h m := by
  refine h1.mono (fun r hr => ?_)
  refine (h2 r.2 hr.2.HX).mono (fun q hq => ⟨hq.1.trans hr.1.symm, ?_⟩)
  exact hr.2.HX.trans hq.2.MX
