/-! expressions: the class -/
def sc6 (o j : Nat) : Bool := Nat.beq o 6 && (Nat.beq j 2 || (Nat.beq j 3 || Nat.beq j 4))
def scE (o j : Nat) : Bool := sc6 o j || ((Nat.beq o 11 && Nat.beq j 1) || Nat.beq o 12)
theorem Same.E6 {I J : XI} (h : Same sc6 I J) : Same scE I J := h.mono (fun o j e => by
  unfold scE at e
  exact (Bool.or_eq_false_iff.mp e).1)
/-- the reader stands at token t, no fault yet -/
def gd (b : Nat → Int32) (n t : Nat) (J : XI) : Prop := reach b n t ∧ (J 6 2 = Int32.ofNat t ∧ J 6 3 = 0) ∧ tkC b n J
/-- a fault: which, at which token -/
def bd (b : Nat → Int32) (n : Nat) (e : Nat × Nat) (J : XI) : Prop := (e.1 = 1 ∨ e.1 = 2) ∧ (J 6 3 = Int32.ofNat e.1 ∧ J 6 4 = Int32.ofNat (plc b n e.2)) ∧ ∃ t, t ≤ 400 ∧ J 6 2 = Int32.ofNat t
theorem tkC_same {b : Nat → Int32} {n : Nat} {I J : XI} (h : tkC b n I) (e3 : J 3 = I 3) (e4 : J 4 = I 4) (e5 : J 5 = I 5) : tkC b n J := fun i hi => by rw [e3, e4, e5]; exact h i hi
theorem gd_same {S : Nat → Nat → Bool} {b : Nat → Int32} {n t : Nat} {I J : XI} (h : gd b n t I) (hs : Same S I J) (h6 : S 6 2 = false ∧ S 6 3 = false) (h3 : ∀ j, S 3 j = false ∧ S 4 j = false ∧ S 5 j = false) : gd b n t J :=
  ⟨h.1, ⟨(hs 6 2 h6.1).trans h.2.1.1, (hs 6 3 h6.2).trans h.2.1.2⟩, tkC_same h.2.2 (hs.row 3 (fun j => (h3 j).1)) (hs.row 4 (fun j => (h3 j).2.1)) (hs.row 5 (fun j => (h3 j).2.2))⟩
theorem bd_same {S : Nat → Nat → Bool} {b : Nat → Int32} {n : Nat} {e : Nat × Nat} {I J : XI} (h : bd b n e I) (hs : Same S I J) (h6 : S 6 2 = false ∧ S 6 3 = false ∧ S 6 4 = false) : bd b n e J := by
  obtain ⟨h1, ⟨h2, h3⟩, t, ht, h4⟩ := h
  exact ⟨h1, ⟨(hs 6 3 h6.2.1).trans h2, (hs 6 4 h6.2.2).trans h3⟩, t, ht, (hs 6 2 h6.1).trans h4⟩
theorem bd_ne {b : Nat → Int32} {n : Nat} {e : Nat × Nat} {J : XI} (h : bd b n e J) : ¬ J 6 3 = 0 := by
  obtain ⟨h1, ⟨h2, -⟩, -⟩ := h
  rw [h2]
  rcases h1 with h1 | h1 <;> rw [h1] <;> decide
def acR (b : Nat → Int32) (n k t : Nat) : Sum (Nat × Nat) Nat := if kd b n t = k then (if t = 400 then Sum.inl (2, 400) else Sum.inr (t + 1)) else Sum.inl (1, t)
theorem gd_kind {b : Nat → Int32} {n t : Nat} {J : XI} (h : gd b n t J) : f_Reader_kind J = some (Int32.ofNat (kd b n t)) := by
  unfold f_Reader_kind
  have ht := h.1.1
  rw [h.2.1.1, xck_true (nk_in (by omega) (by omega)), nk_N (by omega), ((h.2.2 t h.1).1).1]
theorem kd_lt (b : Nat → Int32) (n t : Nat) : kd b n t < 121 := (kdT_ok b n (plc b n t)).2
theorem gd_fail {b : Nat → Int32} {n t k : Nat} {J : XI} (h : gd b n t J) (hk : k = 1 ∨ k = 2) : xOk (f_Reader_fail (Int32.ofNat k) J) (fun K => bd b n (k, t) K ∧ Same sc6 J K) := by
  unfold f_Reader_fail
  have ht := h.1.1
  refine xOk.pos h.2.1.2 (xOk.st ?_)
  have e2 : xput J 6 3 (Int32.ofNat k) 6 2 = Int32.ofNat t := by rw [xput_ne (by omega)]; exact h.2.1.1
  rw [e2]
  refine xOk.ck (nk_in (by omega) (by omega)) (xOk.st (xOk.pur ⟨⟨hk, ⟨?_, ?_⟩, t, ht, ?_⟩, (Same.put rfl).put' rfl⟩))
  · rw [xput_ne (by omega), xput_eq]
  · rw [xput_eq, nk_N (by omega), xput_neo (by omega), ((h.2.2 t h.1).1).2]
  · rw [xput_ne (by omega), xput_ne (by omega)]; exact h.2.1.1
theorem bd_fail {b : Nat → Int32} {n : Nat} {e : Nat × Nat} {J : XI} {v : Int32} (h : bd b n e J) : f_Reader_fail v J = some J := by
  unfold f_Reader_fail
  rw [if_neg (bd_ne h)]
theorem bd_accept {b : Nat → Int32} {n : Nat} {e : Nat × Nat} {J : XI} {v : Int32} (h : bd b n e J) : f_Reader_accept v J = some (0, J) := by
  unfold f_Reader_accept
  rw [if_neg (bd_ne h)]
def acQ (b : Nat → Int32) (n : Nat) (J : XI) (a : Sum (Nat × Nat) Nat) (r : Int32 × XI) : Prop := Same sc6 J r.2 ∧ match a with
  | Sum.inl e => r.1 = 0 ∧ bd b n e r.2
  | Sum.inr t => r.1 = 1 ∧ gd b n t r.2
theorem gd_accept {b : Nat → Int32} {n t k : Nat} {J : XI} (h : gd b n t J) (hk : 1 < k) (hk' : k < 121) : xOk (f_Reader_accept (Int32.ofNat k) J) (acQ b n J (acR b n k t)) := by
  unfold f_Reader_accept
  have ht := h.1.1
  have hkd := kd_lt b n t
  refine xOk.pos h.2.1.2 (xOk.bnde (gd_kind h) ?_)
  have a53 : ∀ {K : XI} {e : Nat × Nat}, bd b n e K → f_Reader_accept_53 K = some (0, K) := by
    intro K e he
    unfold f_Reader_accept_53
    rw [if_neg (bd_ne he)]
    rfl
  unfold acR
  by_cases e : kd b n t = k
  · rw [if_pos e]
    refine xOk.pos (by rw [e]) ?_
    rw [h.2.1.1]
    by_cases e4 : t = 400
    · rw [if_pos e4, e4]
      refine xOk.neg (by decide) ?_
      refine (gd_fail (k := 2) h (Or.inr rfl)).bnd (fun K hK => ?_)
      rw [a53 hK.1, e4] at *
      exact xOk.pur ⟨hK.2, rfl, hK.1⟩
    · rw [if_neg e4]
      refine xOk.pos (nk_lt_t (b := 400) (by omega) (by omega)) (xOk.st ?_)
      have h63 : xput J 6 2 (Int32.ofNat t + 1) 6 3 = 0 := by rw [xput_ne (by omega)]; exact h.2.1.2
      have hg : gd b n (t + 1) (xput J 6 2 (Int32.ofNat t + 1)) := by
        refine ⟨reach_succ h.1 (by omega) (by omega) (by omega), ⟨?_, h63⟩, tkC_same h.2.2 ?_ ?_ ?_⟩
        · rw [xput_eq, nk_succ]
        · rw [xput_neo (by omega)]
        · rw [xput_neo (by omega)]
        · rw [xput_neo (by omega)]
      unfold f_Reader_accept_53
      rw [if_pos h63]
      exact xOk.ck rfl (xOk.pur ⟨Same.put rfl, rfl, hg⟩)
  · rw [if_neg e]
    refine xOk.neg (by rw [nk_eq (by omega) (by omega)]; exact e) ((gd_fail (k := 1) h (Or.inl rfl)).bnd (fun K hK => ?_))
    rw [a53 hK.1]
    exact xOk.pur ⟨hK.2, rfl, hK.1⟩
/-! words of the class's code -/
def cwd (q : Int32 × Int32) : Int32 := if q.1 = 0 then q.2 else if q.1 = 1 then 10000 + q.2 else if q.1 = 2 then 20043 else if q.1 = 3 then 20045 else if q.1 = 4 then 20042 else 20047
theorem c_emit {J : XI} {sz : Nat} {w : Int32} (h : J 11 1 = Int32.ofNat sz) (hs : sz < 420) : f_Laws_emit 11 w J = some (xput (xput J 12 sz w) 11 1 (Int32.ofNat (sz + 1))) := by
  unfold f_Laws_emit
  rw [h, if_neg (show ¬ (420 : Int32) ≤ Int32.ofNat sz from nk_nge (N := 420) hs (by omega)), xck_true (nk_in hs (by omega)), nk_N (by omega)]
  show some (xput (xput J 12 sz w) 11 1 (xput J 12 sz w 11 1 + 1)) = _
  rw [xput_neo (show ¬ 11 = 12 by omega), h, nk_succ]
def szO (J : XI) : Prop := ∃ sz, sz ≤ 420 ∧ J 11 1 = Int32.ofNat sz
theorem szO_same {S : Nat → Nat → Bool} {I J : XI} (h : szO I) (hs : Same S I J) (h1 : S 11 1 = false) : szO J := by
  obtain ⟨sz, h2, h3⟩ := h
  exact ⟨sz, h2, (hs 11 1 h1).trans h3⟩
theorem b_emit {J : XI} {w : Int32} (h : szO J) : xOk (f_Laws_emit 11 w J) (fun K => szO K ∧ Same scE J K ∧ K 6 = J 6) := by
  obtain ⟨sz, h1, h2⟩ := h
  by_cases e : sz < 420
  · rw [c_emit h2 e]
    refine xOk.pur ⟨⟨sz + 1, by omega, xput_eq⟩, (Same.put rfl).put' rfl, ?_⟩
    rw [xput_neo (by omega), xput_neo (by omega)]
  · unfold f_Laws_emit
    rw [h2]
    exact xOk.pos (nk_le_t (a := 420) (by omega) (by omega)) (xOk.pur ⟨⟨sz, h1, h2⟩, Same.rfl, rfl⟩)
/-- after a fault -/
def bdE (b : Nat → Int32) (n : Nat) (e : Nat × Nat) (I J : XI) : Prop := bd b n e J ∧ szO J ∧ Same scE I J
theorem bd_row6 {b : Nat → Int32} {n : Nat} {e : Nat × Nat} {I J : XI} (h : bd b n e I) (h6 : J 6 = I 6) : bd b n e J := by
  obtain ⟨h1, ⟨h2, h3⟩, t, ht, h4⟩ := h
  exact ⟨h1, ⟨by rw [h6]; exact h2, by rw [h6]; exact h3⟩, t, ht, by rw [h6]; exact h4⟩
theorem bdE_emit {b : Nat → Int32} {n : Nat} {e : Nat × Nat} {I J : XI} {w : Int32} (h : bdE b n e I J) : xOk (f_Laws_emit 11 w J) (fun K => bdE b n e I K) :=
  (b_emit h.2.1).mono (fun K hK => ⟨bd_row6 h.1 hK.2.2, hK.1, h.2.2.trans hK.2.1⟩)
theorem bdE_kind {b : Nat → Int32} {n : Nat} {e : Nat × Nat} {I J : XI} (h : bdE b n e I J) : ∃ v, f_Reader_kind J = some v := by
  obtain ⟨⟨-, -, t, ht, h4⟩, -⟩ := h
  unfold f_Reader_kind
  rw [h4, xck_true (nk_in (by omega) (by omega))]
  exact ⟨_, rfl⟩
theorem bdE_in {b : Nat → Int32} {n : Nat} {e : Nat × Nat} {I J : XI} (h : bdE b n e I J) : xin (J 6 2) 401 = true := by
  obtain ⟨⟨-, -, t, ht, h4⟩, -⟩ := h
  rw [h4]
  exact nk_in (by omega) (by omega)
theorem b_unit {F : Nat} {C : Int32 → XI → Option XI} {b : Nat → Int32} {n : Nat} {e : Nat × Nat} {I J : XI} {a : Int32} (h : bdE b n e I J) : xOk (f_Reader_readUnit F C a J) (fun K => bdE b n e I K) := by
  obtain ⟨v, hv⟩ := bdE_kind h
  unfold f_Reader_readUnit
  refine xOk.bnde hv ?_
  have h82 : xOk (f_Reader_readUnit_82 F C a v J) (fun K => bdE b n e I K) := by
    unfold f_Reader_readUnit_82
    by_cases e1 : v = 40
    · refine xOk.pos e1 ?_
      by_cases e2 : a < 6
      · exact xOk.pos e2 (xOk.bnde (bd_accept h.1) (xOk.pos rfl (xOk.pur h)))
      · exact xOk.neg e2 (xOk.bnde (bd_fail h.1) (xOk.pur h))
    · exact xOk.neg e1 (xOk.bnde (bd_fail h.1) (xOk.pur h))
  by_cases e3 : v = 3
  · refine xOk.pos e3 (xOk.bnde (bd_accept h.1) (xOk.ck (bdE_in h) ((bdE_emit h).bnd (fun K hK => xOk.pur hK))))
  · refine xOk.neg e3 ?_
    by_cases e1 : v < 112
    · exact xOk.pos e1 h82
    · refine xOk.neg e1 ?_
      by_cases e2 : 120 < v
      · exact xOk.pos e2 h82
      · exact xOk.neg e2 (xOk.bnde (bd_accept h.1) ((bdE_emit h).bnd (fun K hK => xOk.pur hK)))
theorem b_prod {F : Nat} (hF : 4000000 ≤ F) {C : Int32 → XI → Option XI} {b : Nat → Int32} {n : Nat} {e : Nat × Nat} {I J : XI} {a : Int32} (h : bdE b n e I J) : xOk (f_Reader_readProduct F C a J) (fun K => bdE b n e I K) := by
  unfold f_Reader_readProduct
  refine (b_unit h).bnd (fun K hK => ?_)
  obtain ⟨m, rfl⟩ : ∃ m, F = m + 1 := ⟨F - 1, by omega⟩
  rw [f_Reader_readProduct_7]
  exact xOk.neg (by decide) (xOk.neg (bd_ne hK.1) (xOk.pur hK))
theorem b_sum {F : Nat} (hF : 4000000 ≤ F) {m : Nat} {b : Nat → Int32} {n : Nat} {e : Nat × Nat} {I J : XI} {a : Int32} (h : bdE b n e I J) : xOk (f_Reader_readSumN F (m + 1) a J) (fun K => bdE b n e I K) := by
  show xOk (f_Reader_readSum F _ a J) _
  unfold f_Reader_readSum
  refine (b_prod hF h).bnd (fun K hK => ?_)
  obtain ⟨m, rfl⟩ : ∃ m, F = m + 1 := ⟨F - 1, by omega⟩
  rw [f_Reader_readSum_7]
  exact xOk.neg (by decide) (xOk.neg (bd_ne hK.1) (xOk.pur hK))
theorem gD_l {o p : XP} {j : Nat} {d : Int32 × Int32} (h : j < o.length) : (o ++ p).getD j d = o.getD j d := by
  rw [List.getD_eq_getElem?_getD, List.getD_eq_getElem?_getD, List.getElem?_append_left h]
theorem gD_r {o p : XP} {j : Nat} {d : Int32 × Int32} : (o ++ p).getD (o.length + j) d = p.getD j d := by
  rw [List.getD_eq_getElem?_getD, List.getD_eq_getElem?_getD, List.getElem?_append_right (Nat.le_add_right _ _), Nat.add_sub_cancel_left]
/-- the reader in an expression: o is what it has written since sz0 -/
def cE (b : Nat → Int32) (n : Nat) (I : XI) (sz0 t : Nat) (o : XP) (J : XI) : Prop := (gd b n t J ∧ sz0 + o.length ≤ 8 + t) ∧ J 11 1 = Int32.ofNat (sz0 + o.length) ∧ (Same scE I J ∧ ∀ j, j < sz0 → J 12 j = I 12 j) ∧ ∀ j, j < o.length → J 12 (sz0 + j) = cwd (o.getD j (0, 0))
theorem cE_emit {b : Nat → Int32} {n sz0 t : Nat} {I J : XI} {o : XP} {q : Int32 × Int32} {w : Int32} (h : cE b n I sz0 t o J) (hw : w = cwd q) (ht : sz0 + o.length < 8 + t) : xOk (f_Laws_emit 11 w J) (fun K => cE b n I sz0 t (o ++ [q]) K) := by
  obtain ⟨⟨h1, h2⟩, h3, ⟨h4, h5⟩, h6⟩ := h
  have := h1.1.1
  rw [c_emit h3 (by omega)]
  have hs : Same scE J (xput (xput J 12 (sz0 + o.length) w) 11 1 (Int32.ofNat (sz0 + o.length + 1))) := (Same.put rfl).put' rfl
  have hl : (o ++ [q]).length = o.length + 1 := by rw [List.length_append]; rfl
  have e12 : ∀ j, xput (xput J 12 (sz0 + o.length) w) 11 1 (Int32.ofNat (sz0 + o.length + 1)) 12 j = if j = sz0 + o.length then w else J 12 j := fun j => by
    rw [xput_neo (by omega), xput_at]
  refine xOk.pur ⟨⟨?_, by omega⟩, ?_, ⟨h4.trans hs, fun j hj => ?_⟩, fun j hj => ?_⟩
  · refine ⟨h1.1, ⟨?_, ?_⟩, tkC_same h1.2.2 (hs.row 3 (fun _ => rfl)) (hs.row 4 (fun _ => rfl)) (hs.row 5 (fun _ => rfl))⟩
    · rw [xput_neo (by omega), xput_neo (by omega)]; exact h1.2.1.1
    · rw [xput_neo (by omega), xput_neo (by omega)]; exact h1.2.1.2
  · rw [hl, xput_eq]; rfl
  · rw [e12, if_neg (by omega)]; exact h5 j hj
  · rw [e12]
    rw [hl] at hj
    by_cases e : j = o.length
    · rw [if_pos (by omega), e, hw]
      have := gD_r (o := o) (p := [q]) (j := 0) (d := (0, 0))
      rw [Nat.add_zero] at this
      rw [this]
      rfl
    · rw [if_neg (by omega), gD_l (by omega)]
      exact h6 j (by omega)
theorem cE_gd {b : Nat → Int32} {n sz0 t t' : Nat} {I J K : XI} {o : XP} (h : cE b n I sz0 t o J) (hs : Same sc6 J K) (hg : gd b n t' K) (ht : t ≤ t') : cE b n I sz0 t' o K := by
  obtain ⟨⟨h1, h2⟩, h3, ⟨h4, h5⟩, h6⟩ := h
  refine ⟨⟨hg, by omega⟩, (hs 11 1 rfl).trans h3, ⟨h4.trans hs.E6, fun j hj => (hs 12 j rfl).trans (h5 j hj)⟩, fun j hj => (hs 12 _ rfl).trans (h6 j hj)⟩
theorem cE_bd {b : Nat → Int32} {n sz0 t : Nat} {I J K : XI} {o : XP} {e : Nat × Nat} (h : cE b n I sz0 t o J) (hs : Same sc6 J K) (hb : bd b n e K) : bdE b n e I K := by
  have := h.1.1.1.1
  refine ⟨hb, ⟨sz0 + o.length, by have := h.1.2; omega, (hs 11 1 rfl).trans h.2.1⟩, h.2.2.1.1.trans hs.E6⟩
