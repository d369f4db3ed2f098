/-! the text: the reference's cut -/
def txM (b : Nat → Int32) (n : Nat) (I : XI) : Prop := n ≤ 2000 ∧ I 131 4 = Int32.ofNat n ∧ ∀ j, j < n → I 133 j = b j ∧ bOk (b j)
def mb (b : Nat → Int32) (n a : Nat) : Int32 := if n ≤ a then 0 else b a &&& 255
theorem m_byteAt {b : Nat → Int32} {n a : Nat} {I : XI} (h : txM b n I) (ha : a < 100000) : f_M_byteAt I (Int32.ofNat a) = some (mb b n a) := by
  unfold f_M_byteAt mb
  have hn := h.1
  rw [h.2.1]
  by_cases e : n ≤ a
  · rw [if_pos (nk_le_t e (by omega)), if_pos e]
  · rw [if_neg (nk_nge (by omega) (by omega)), if_neg e, xck_true (nk_in (by omega) (by omega)), nk_N (by omega), (h.2.2 a (by omega)).1]
def byB (v : Int32) : Bool := (decide (0 ≤ v) && decide (v &&& 255 = v)) || (decide (v < 0) && decide (127 < v &&& 255))
theorem byB_all : ∀ x : BitVec 8, byB (Int8.ofBitVec x).toInt32 = true := by decide +kernel
theorem by_cas {v : Int32} (h : bOk v) : (0 ≤ v ∧ v &&& 255 = v) ∨ (v < 0 ∧ (127 : Int32) < v &&& 255) := by
  obtain ⟨x, rfl⟩ := h
  have := byB_all x.toBitVec
  rw [show Int8.ofBitVec x.toBitVec = x from rfl] at this
  unfold byB at this
  simp only [Bool.or_eq_true, Bool.and_eq_true, decide_eq_true_eq] at this
  exact this
theorem lt_of_127 {u c : Int32} (h : (127 : Int32) < u) (hc : c ≤ 127) : c < u := by
  rw [Int32.lt_iff_toInt_lt] at *
  rw [Int32.le_iff_toInt_le] at hc
  omega
theorem by_eq {v c : Int32} (h : bOk v) (h0 : 0 ≤ c) (hc : c ≤ 127) : (v &&& 255 = c) ↔ v = c := by
  rcases by_cas h with ⟨-, e⟩ | ⟨e1, e2⟩
  · rw [e]
  · constructor
    · intro e
      rw [e] at e2
      exact absurd (lt_of_127 e2 hc) Int32.lt_irrefl
    · intro e
      rw [e] at e1
      exact absurd e1 (Int32.not_lt.mpr h0)
theorem by_lt {v : Int32} (h : bOk v) : isLt (v &&& 255) = isLt v := by
  rcases by_cas h with ⟨-, e⟩ | ⟨e1, e2⟩
  · rw [e]
  · unfold isLt
    rw [decide_eq_true (lt_of_127 e2 (show (122 : Int32) ≤ 127 by decide)), decide_eq_true (show v < 97 from Int32.lt_trans e1 (by decide)), Bool.not_true, Bool.and_false, Bool.false_and]
theorem by_dg {v : Int32} (h : bOk v) : isDg (v &&& 255) = isDg v := by
  rcases by_cas h with ⟨-, e⟩ | ⟨e1, e2⟩
  · rw [e]
  · unfold isDg
    rw [decide_eq_true (lt_of_127 e2 (show (57 : Int32) ≤ 127 by decide)), decide_eq_true (show v < 48 from Int32.lt_trans e1 (by decide)), Bool.not_true, Bool.and_false, Bool.false_and]
theorem by_lv {v : Int32} (h : bOk v) (hl : isLt v = true) : v &&& 255 = v := by
  rcases by_cas h with ⟨-, e⟩ | ⟨e1, e2⟩
  · exact e
  · unfold isLt at hl
    rw [decide_eq_true (show v < 97 from Int32.lt_trans e1 (by decide))] at hl
    cases hl
theorem by_dv {v : Int32} (h : bOk v) (hl : isDg v = true) : v &&& 255 = v := by
  rcases by_cas h with ⟨-, e⟩ | ⟨e1, e2⟩
  · exact e
  · unfold isDg at hl
    rw [decide_eq_true (show v < 48 from Int32.lt_trans e1 (by decide))] at hl
    cases hl
theorem m_isLetter {v : Int32} : f_M_isLetter v = some (b2 (isLt v)) := by
  unfold f_M_isLetter isLt
  by_cases h : v < 97
  · rw [if_pos h, decide_eq_true h]; rfl
  · rw [if_neg h, decide_eq_false h, b2_ifn, xck_true b2_nar]; rfl
theorem m_isDigit {v : Int32} : f_M_isDigit v = some (b2 (isDg v)) := by
  unfold f_M_isDigit isDg
  by_cases h : v < 48
  · rw [if_pos h, decide_eq_true h]; rfl
  · rw [if_neg h, decide_eq_false h, b2_ifn, xck_true b2_nar]; rfl
/-- what the cut has written of token j -/
def repM (b : Nat → Int32) (n : Nat) (I : XI) (L : XL) (j : Nat) : Prop := (I 134 j = Int32.ofNat (mk (kd b n j)) ∧ I 135 j = Int32.ofNat (plc b n j)) ∧ (kd b n j = 3 → I 136 j = vl b n j) ∧ (kd b n j = 2 → L 137 j = Int64.ofNat (nm b n j))
def scCu (o j : Nat) : Bool := (Nat.beq o 134 || Nat.beq o 135 || Nat.beq o 136) || (Nat.beq o 131 && Nat.beq j 10)
def sameL (L L' : XL) : Prop := ∀ o, ¬ o = 137 → L' o = L o
def cI (b : Nat → Int32) (n i : Nat) (I0 : XI) (L0 : XL) (I : XI) (L : XL) : Prop := I 131 10 = Int32.ofNat i ∧ (Same scCu I0 I ∧ sameL L0 L) ∧ ∀ j, j < i → repM b n I L j
theorem txM_same {b : Nat → Int32} {n : Nat} {I J : XI} (h : txM b n I) (hs : Same scCu I J) : txM b n J := ⟨h.1, (hs 131 4 rfl).trans h.2.1, fun j hj => ⟨(hs 133 j rfl).trans (h.2.2 j hj).1, (h.2.2 j hj).2⟩⟩
theorem xputL_eq {L : XL} {o j : Nat} {v : Int64} : xputL L o j v o j = v := by simp [xputL, xrow, vp_updL]
theorem xputL_ne {L : XL} {o j o' j' : Nat} {v : Int64} (h : ¬ (o' = o ∧ j' = j)) : xputL L o j v o' j' = L o' j' := by
  unfold xputL xrow vp_updL
  by_cases h1 : o' = o
  · subst h1
    rw [if_pos rfl]
    by_cases h2 : j' = j
    · exact absurd ⟨rfl, h2⟩ h
    · rw [if_neg h2]
  · rw [if_neg h1]
theorem m_token {b : Nat → Int32} {n i : Nat} {I0 I : XI} {L0 L : XL} (h : cI b n i I0 L0 I L) (hi : i < 403) {k p v : Int32} {m : Int64} (hk : k = Int32.ofNat (mk (kd b n i))) (hp : p = Int32.ofNat (plc b n i)) (hv : kd b n i = 3 → v = vl b n i) (hm : kd b n i = 2 → m = Int64.ofNat (nm b n i)) : xOk (f_M_token k p v m I L) (fun r => cI b n (i + 1) I0 L0 r.1 r.2) := by
  obtain ⟨h1, ⟨h2, h2'⟩, h3⟩ := h
  unfold f_M_token
  rw [h1]
  refine xOk.ck (nk_in hi (by omega)) (xOk.st ?_)
  rw [nk_N (by omega), xput_neo (show ¬ 131 = 134 by omega), h1]
  refine xOk.ck (nk_in hi (by omega)) (xOk.st ?_)
  rw [nk_N (by omega), xput_neo (show ¬ 131 = 135 by omega), xput_neo (show ¬ 131 = 134 by omega), h1]
  refine xOk.ck (nk_in hi (by omega)) (xOk.st ?_)
  rw [nk_N (by omega), xput_neo (show ¬ 131 = 136 by omega), xput_neo (show ¬ 131 = 135 by omega), xput_neo (show ¬ 131 = 134 by omega), h1]
  refine xOk.ck (nk_in hi (by omega)) (xOk.st (xOk.st (xOk.pur ⟨?_, ⟨?_, ?_⟩, ?_⟩)))
  · show xput (xput (xput (xput I 134 i k) 135 i p) 136 i v) 131 10 (Int32.ofNat i + 1) 131 10 = _
    rw [xput_eq, nk_succ]
  · exact (((h2.put' rfl).put' rfl).put' rfl).put' rfl
  · intro o ho
    rw [nk_N (by omega)]
    show xputL L 137 i m o = L0 o
    rw [← h2' o ho]
    unfold xputL xrow
    rw [if_neg ho]
  · intro j hj
    rw [nk_N (by omega)]
    have e134 : ∀ x, xput (xput (xput (xput I 134 i k) 135 i p) 136 i v) 131 10 x 134 j = if j = i then k else I 134 j := fun x => by
      rw [xput_neo (by omega), xput_neo (by omega), xput_neo (by omega), xput_at]
    have e135 : ∀ x, xput (xput (xput (xput I 134 i k) 135 i p) 136 i v) 131 10 x 135 j = if j = i then p else I 135 j := fun x => by
      rw [xput_neo (by omega), xput_neo (by omega), xput_at, xput_neo (show ¬ 135 = 134 by omega)]
    have e136 : ∀ x, xput (xput (xput (xput I 134 i k) 135 i p) 136 i v) 131 10 x 136 j = if j = i then v else I 136 j := fun x => by
      rw [xput_neo (by omega), xput_at, xput_neo (show ¬ 136 = 135 by omega), xput_neo (show ¬ 136 = 134 by omega)]
    show repM b n (xput (xput (xput (xput I 134 i k) 135 i p) 136 i v) 131 10 (Int32.ofNat i + 1)) (xputL L 137 i m) j
    unfold repM
    rw [e134, e135, e136]
    by_cases e : j = i
    · rw [if_pos e, if_pos e, if_pos e, e]
      exact ⟨⟨hk, hp⟩, hv, fun h => by rw [xputL_eq]; exact hm h⟩
    · rw [if_neg e, if_neg e, if_neg e, xputL_ne (fun h => e h.2)]
      exact h3 j (by omega)
/-! signs -/
def sgk (u : Int32) : Int32 :=
  if u = 60 then 13 else if u = 47 then 15 else if u = 42 then 10 else if u = 45 then 9 else if u = 43 then 8 else if u = 59 then 4 else if u = 61 then 5 else if u = 40 then 6 else if u = 41 then 7 else 3
theorem m_sign {u p d : Int32} {I : XI} {L : XL} : f_M_sign p u d I L = (f_M_token (sgk u) p 0 ((0 : Int32).toInt64) I L).bind fun q => some (1, q.1, q.2) := by
  have h85 : ∀ k, f_M_sign_85 p u k I L = f_M_sign_95 p (if u = 60 then 13 else k) I L := fun k => by unfold f_M_sign_85; split <;> rfl
  have h75 : ∀ k, f_M_sign_75 p u k I L = f_M_sign_85 p u (if u = 47 then 15 else k) I L := fun k => by unfold f_M_sign_75; split <;> rfl
  have h65 : ∀ k, f_M_sign_65 p u k I L = f_M_sign_75 p u (if u = 42 then 10 else k) I L := fun k => by unfold f_M_sign_65; split <;> rfl
  have h55 : ∀ k, f_M_sign_55 p u k I L = f_M_sign_65 p u (if u = 45 then 9 else k) I L := fun k => by unfold f_M_sign_55; split <;> rfl
  have h43 : ∀ k, f_M_sign_43 p u k I L = f_M_sign_55 p u (if u = 43 then 8 else k) I L := fun k => by unfold f_M_sign_43; split <;> rfl
  have h0 : f_M_sign p u d I L = f_M_sign_43 p u (if u = 59 then 4 else if u = 61 then 5 else if u = 40 then 6 else if u = 41 then 7 else 3) I L := by
    unfold f_M_sign
    split
    · rfl
    · split
      · rfl
      · split <;> rfl
  rw [h0, h43, h55, h65, h75, h85]
  rfl
theorem sgk_ok {v : Int32} (h : bOk v) : sgk (v &&& 255) = Int32.ofNat (mk (if isSg v = true then xN v else 1)) := by
  cases hg : isSg v with
  | true =>
    rw [if_pos rfl]
    obtain ⟨k, hk, hp⟩ := anyB_ex _ hg
    have e := of_decide_eq_true hp
    have key : ∀ k, k < 9 → sgk (sgs.getD k 0 &&& 255) = Int32.ofNat (mk (xN (sgs.getD k 0))) := by decide
    rw [← e]
    exact key k hk
  | false =>
    have no : ∀ k, k < 9 → 0 ≤ sgs.getD k 0 ∧ sgs.getD k 0 ≤ 127 → ¬ (v &&& 255 = sgs.getD k 0) := by
      intro k hk hb e
      rw [by_eq h hb.1 hb.2] at e
      have : isSg v = true := anyB_true (k := k + 1) (by omega) (by
        show (anyB _ k || decide (sgs.getD k 0 = v)) = true
        rw [decide_eq_true e.symm, Bool.or_true])
      rw [hg] at this
      cases this
    rw [if_neg (by decide)]
    unfold sgk
    rw [if_neg (show ¬ v &&& 255 = 60 from no 6 (by omega) (by decide)), if_neg (show ¬ v &&& 255 = 47 from no 5 (by omega) (by decide)), if_neg (show ¬ v &&& 255 = 42 from no 4 (by omega) (by decide)), if_neg (show ¬ v &&& 255 = 45 from no 3 (by omega) (by decide)), if_neg (show ¬ v &&& 255 = 43 from no 2 (by omega) (by decide)), if_neg (show ¬ v &&& 255 = 59 from no 0 (by omega) (by decide)), if_neg (show ¬ v &&& 255 = 61 from no 1 (by omega) (by decide)), if_neg (show ¬ v &&& 255 = 40 from no 7 (by omega) (by decide)), if_neg (show ¬ v &&& 255 = 41 from no 8 (by omega) (by decide))]
    rfl
