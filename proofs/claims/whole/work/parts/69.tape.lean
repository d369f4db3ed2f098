/-! feed, back, place, tell, forget -/
def shx (k : Nat) : Int32 := match k with
  | 0 => 24
  | 1 => 16
  | 2 => 8
  | 3 => 0
  | _ => -8
theorem shx_next : ∀ k, k < 4 → shx k + (-8) = shx (k + 1) := by decide
theorem shx_nn : ∀ k, k < 4 → ¬ shx k < 0 := by decide
def byt (a : Int32) (k : Nat) : Int32 := (Int32.toInt8 ((Int32.toInt8 ((Int32.toUInt32 a >>> (Int32.toUInt32 (shx k) &&& Int32.toUInt32 31)).toInt32)).toInt32)).toInt32
theorem bv_byte (x : BitVec 32) (s : Nat) (hs : s ≤ 24) : (x >>> s).signExtend 8 = (x.sshiftRight s).signExtend 8 := by
  rw [BitVec.signExtend_eq_setWidth_of_le _ (by omega), BitVec.signExtend_eq_setWidth_of_le _ (by omega)]
  apply BitVec.eq_of_getLsbD_eq
  intro i hi
  rw [BitVec.getLsbD_setWidth, BitVec.getLsbD_setWidth, BitVec.getLsbD_ushiftRight, BitVec.getLsbD_sshiftRight]
  simp only [show decide (32 ≤ i) = false from decide_eq_false (by omega), show s + i < 32 by omega, if_true, Bool.not_false, Bool.true_and]
theorem byt_m (a : Int32) : ∀ k, k < 4 → (Int32.toInt8 ((Int32.toInt8 (a >>> (shx k &&& 31))).toInt32)).toInt32 = byt a k := by
  have key : ∀ (x y : Int32) (s : Nat), s ≤ 24 → x.toBitVec = a.toBitVec >>> s → y.toBitVec = a.toBitVec.sshiftRight s → Int32.toInt8 y = Int32.toInt8 x := by
    intro x y s hs hx hy
    apply Int8.toBitVec_inj.mp
    show y.toBitVec.signExtend 8 = x.toBitVec.signExtend 8
    rw [hx, hy, bv_byte _ _ hs]
  refine all4 ?_ ?_ ?_ ?_
  · unfold byt
    rw [key ((Int32.toUInt32 a >>> (Int32.toUInt32 (shx 0) &&& Int32.toUInt32 31)).toInt32) (a >>> (shx 0 &&& 31)) 24 (by omega) rfl rfl]
  · unfold byt
    rw [key ((Int32.toUInt32 a >>> (Int32.toUInt32 (shx 1) &&& Int32.toUInt32 31)).toInt32) (a >>> (shx 1 &&& 31)) 16 (by omega) rfl rfl]
  · unfold byt
    rw [key ((Int32.toUInt32 a >>> (Int32.toUInt32 (shx 2) &&& Int32.toUInt32 31)).toInt32) (a >>> (shx 2 &&& 31)) 8 (by omega) rfl rfl]
  · unfold byt
    rw [key ((Int32.toUInt32 a >>> (Int32.toUInt32 (shx 3) &&& Int32.toUInt32 31)).toInt32) (a >>> (shx 3 &&& 31)) 0 (by omega) rfl rfl]
def wr (f : Nat → Int32) (n : Nat) (a : Int32) : Nat → Int32 := fun j => if n ≤ j ∧ j < n + 4 then byt a (j - n) else f j
def scTh (o j : Nat) : Bool := Nat.beq o 2 || (Nat.beq o 1 && Nat.beq j 1)
def scTm (o j : Nat) : Bool := Nat.beq o 132 || (Nat.beq o 131 && Nat.beq j 2)
theorem c_addFour {F : Nat} (hF : 4000000 ≤ F) {n : Nat} {a : Int32} {I : XI} (hn : n ≤ 1996) (h : I 1 1 = Int32.ofNat n) : xOk (f_Tape_addFour F a I) (fun J => J 1 1 = Int32.ofNat (n + 4) ∧ J 2 = wr (I 2) n a ∧ Same scTh I J) := by
  unfold f_Tape_addFour
  refine xloop 4 (fun m (J : XI) k => f_Tape_addFour_3 F m a (shx k) J) (fun k J => J 1 1 = Int32.ofNat (n + k) ∧ (∀ j, J 2 j = if n ≤ j ∧ j < n + k then byt a (j - n) else I 2 j) ∧ Same scTh I J) ?_ ?_ F I 0 (by omega) (by omega) ⟨h, fun j => by rw [if_neg (by omega)], Same.rfl⟩
  · intro m J k hk hP ih
    obtain ⟨p1, p2, p3⟩ := hP
    show xOk (f_Tape_addFour_3 F (m + 1) _ _ _) _
    rw [f_Tape_addFour_3]
    refine xOk.neg (shx_nn k hk) ?_
    rw [p1]
    refine xOk.neg (show ¬ (2000 : Int32) ≤ Int32.ofNat (n + k) from nk_nge (N := 2000) (by omega) (by decide)) (xOk.ck (nk_in (by omega) (by omega)) (xOk.st (xOk.st ?_)))
    rw [nk_N (by omega), shx_next k hk, xput_neo (show ¬ 1 = 2 by omega), p1, nk_succ]
    refine ih _ ⟨xput_eq, fun j => ?_, (p3.put' rfl).put' rfl⟩
    rw [xput_neo (by omega), xput_at]
    by_cases e : j = n + k
    · rw [if_pos e, if_pos (by omega), e, Nat.add_sub_cancel_left]
      rfl
    · rw [if_neg e, p2 j]
      by_cases e2 : n ≤ j ∧ j < n + k
      · rw [if_pos e2, if_pos (by omega)]
      · rw [if_neg e2, if_neg (by omega)]
  · intro m J hP
    obtain ⟨p1, p2, p3⟩ := hP
    show xOk (f_Tape_addFour_3 F (m + 1) _ _ _) _
    rw [f_Tape_addFour_3]
    exact xOk.pos (by decide) (xOk.pur ⟨p1, funext p2, p3⟩)
theorem m_put {F : Nat} (hF : 4000000 ≤ F) {n : Nat} {a : Int32} {I : XI} (hn : n ≤ 1996) (h : I 131 2 = Int32.ofNat n) : xOk (f_M_put F a I) (fun J => J 131 2 = Int32.ofNat (n + 4) ∧ J 132 = wr (I 132) n a ∧ Same scTm I J) := by
  unfold f_M_put
  refine xloop 4 (fun m (J : XI) k => f_M_put_3 F m a (shx k) J) (fun k J => J 131 2 = Int32.ofNat (n + k) ∧ (∀ j, J 132 j = if n ≤ j ∧ j < n + k then byt a (j - n) else I 132 j) ∧ Same scTm I J) ?_ ?_ F I 0 (by omega) (by omega) ⟨h, fun j => by rw [if_neg (by omega)], Same.rfl⟩
  · intro m J k hk hP ih
    obtain ⟨p1, p2, p3⟩ := hP
    show xOk (f_M_put_3 F (m + 1) _ _ _) _
    rw [f_M_put_3]
    refine xOk.neg (shx_nn k hk) ?_
    rw [p1]
    refine xOk.ck (nk_in (by omega) (by omega)) (xOk.st (xOk.st ?_))
    rw [nk_N (by omega), shx_next k hk, xput_neo (show ¬ 131 = 132 by omega), p1, nk_succ, byt_m a k hk]
    refine ih _ ⟨xput_eq, fun j => ?_, (p3.put' rfl).put' rfl⟩
    rw [xput_neo (by omega), xput_at]
    by_cases e : j = n + k
    · rw [if_pos e, if_pos (by omega), e, Nat.add_sub_cancel_left]
    · rw [if_neg e, p2 j]
      by_cases e2 : n ≤ j ∧ j < n + k
      · rw [if_pos e2, if_pos (by omega)]
      · rw [if_neg e2, if_neg (by omega)]
  · intro m J hP
    obtain ⟨p1, p2, p3⟩ := hP
    show xOk (f_M_put_3 F (m + 1) _ _ _) _
    rw [f_M_put_3]
    exact xOk.pos (by decide) (xOk.pur ⟨p1, funext p2, p3⟩)
theorem wr_eq {f g : Nat → Int32} {n : Nat} {a : Int32} (h : ∀ j, j < n → f j = g j ∧ bOk (f j)) : ∀ j, j < n + 4 → wr f n a j = wr g n a j ∧ bOk (wr f n a j) := by
  intro j hj
  unfold wr
  by_cases e : n ≤ j ∧ j < n + 4
  · rw [if_pos e, if_pos e]
    exact ⟨rfl, _, rfl⟩
  · rw [if_neg e, if_neg e]
    exact h j (by omega)
def scT (o j : Nat) : Bool := scTh o j || scTm o j
theorem play_T {F : Nat} {S : Nat → Nat → Bool} {I J : XI} (h : playR F I) (hs : Same S I J) (hS : ∀ o j, scT o j = false → S o j = false) : playR F J := by
  have hs : Same scT I J := hs.mono hS
  obtain ⟨lv, V, T, x, ⟨a1, ⟨a2, a3⟩, ⟨a4, a5⟩, a6, a7, a8⟩, ⟨b1, b2, b3⟩, ⟨n, p, hst, fl, ss, ⟨p1, p2, p3⟩, p4, ⟨p5, p5'⟩, p6, p7⟩⟩ := h
  have hlo : ∀ o, 3 ≤ o → o ≤ 130 → ∀ j, scT o j = false := by
    intro o h1 h2 j
    unfold scT scTh scTm
    rw [beqf (show ¬ o = 2 by omega), beqf (show ¬ o = 1 by omega), beqf (show ¬ o = 132 by omega), beqf (show ¬ o = 131 by omega)]
    rfl
  refine ⟨lv, V, T, x, ⟨a1, ⟨tbC_same a2 hs (fun _ => rfl) (fun _ => rfl) (fun _ => rfl) (fun _ => rfl), ?_⟩, ⟨?_, ?_⟩, a6, ?_, ?_⟩, ⟨oH_same b1 hs (fun _ => rfl) (fun _ => rfl), oM_same b2 hs (fun _ => rfl), b3⟩, ⟨n, p, hst, fl, ss, ⟨uH_same p1 hs rfl rfl (fun o x y => hlo o (by omega) (by omega)), uM_same p2 hs rfl (fun _ => rfl), p3⟩, p4, ⟨?_, fun s s1 s2 => oH_same (p5' s s1 s2) hs (hlo _ (by omega) (by omega)) (hlo _ (by omega) (by omega))⟩, fun s s1 => ⟨?_, fun e => oM_same ((p6 s s1).2 e) hs (fun _ => rfl)⟩, p7⟩⟩
  · obtain ⟨⟨a1, a2⟩, ⟨b1, b2, b3⟩, c1, c2, c3⟩ := a3
    refine ⟨⟨a1, ?_⟩, ⟨?_, ?_, ?_⟩, ?_, ?_, ?_⟩
    · rw [hs 131 18 rfl]; exact a2
    · rw [hs 140 lv rfl]; exact b1
    · rw [hs 141 lv rfl]; exact b2
    · rw [hs 146 lv rfl]; exact b3
    · intro a ha hi
      rw [hs 142 _ rfl]; exact c1 a ha hi
    · intro a s ha h4
      rw [hs 143 _ rfl]; exact c2 a s ha h4
    · intro e s he h4
      rw [hs 147 _ rfl]; exact c3 e s he h4
  · rw [hs 148 lv rfl, hs 17 3 rfl]; exact a4
  · rw [hs 149 lv rfl, hs 17 4 rfl]; exact a5
  · intro k hk K e1 e2 e3
    exact a7 k hk K (e1.trans (hs 21 1 rfl)) (e2.trans (hs.row 22 (fun _ => rfl))) (e3.trans (hs.row 23 (fun _ => rfl)))
  · intro k hk K e
    refine a8 k hk K (agM_trans ⟨hs 131 18 rfl, fun k _ => ⟨hs 150 _ rfl, hs 151 _ rfl⟩, fun b _ => ⟨hs 152 _ rfl, hs 153 _ rfl, hs 154 _ rfl, hs 155 _ rfl, hs 156 _ rfl⟩, fun c _ => ⟨hs 157 _ rfl, hs 158 _ rfl⟩⟩ e)
  · rw [hs 38 4 rfl]; exact p5
  · rw [hs 173 s rfl]; exact (p6 s s1).1
theorem both_feed {F : Nat} (hF : 4000000 ≤ F) {I : XI} (hI : Inv F I) {a b c d e : Int32} : both F I (f_H_feed F a b c d e) (f_M_feed F a b c d e) := by
  have hI0 := hI
  obtain ⟨hpl, ht, ⟨n, n1, ⟨n2, n3⟩, n4⟩, hp⟩ := hI
  unfold both f_H_feed
  rw [n2]
  by_cases h : n ≤ 1980
  · refine xOk.pos (show Int32.ofNat n ≤ 1980 from nk_le_t h (by decide)) ?_
    refine (c_addFour hF (by omega) n2).bnd (fun J1 h1 => ?_)
    refine (c_addFour hF (by omega) h1.1).bnd (fun J2 h2 => ?_)
    refine (c_addFour hF (by omega) h2.1).bnd (fun J3 h3 => ?_)
    refine (c_addFour hF (by omega) h3.1).bnd (fun J4 h4 => ?_)
    refine (c_addFour hF (by omega) h4.1).bnd (fun J5 h5 => xOk.pur ?_)
    have hsH : Same scTh I J5 := (((h1.2.2.trans h2.2.2).trans h3.2.2).trans h4.2.2).trans h5.2.2
    show xOk (f_M_feed F a b c d e J5) (fun q => q.1 = J5 1 1 ∧ Inv F q.2)
    unfold f_M_feed
    have m0 : J5 131 2 = Int32.ofNat n := (hsH 131 2 rfl).trans n3
    rw [m0, show (20 : Int32) = Int32.ofNat 20 from rfl, nk_add]
    refine xOk.pos (show Int32.ofNat (n + 20) ≤ 2000 from nk_le_t (show n + 20 ≤ 2000 by omega) (by decide)) ?_
    refine (m_put hF (by omega) m0).bnd (fun K1 g1 => ?_)
    refine (m_put hF (by omega) g1.1).bnd (fun K2 g2 => ?_)
    refine (m_put hF (by omega) g2.1).bnd (fun K3 g3 => ?_)
    refine (m_put hF (by omega) g3.1).bnd (fun K4 g4 => ?_)
    refine (m_put hF (by omega) g4.1).bnd (fun K5 g5 => xOk.pur ?_)
    have hsM : Same scTm J5 K5 := (((g1.2.2.trans g2.2.2).trans g3.2.2).trans g4.2.2).trans g5.2.2
    have e2 : K5 2 = wr (wr (wr (wr (wr (I 2) n a) (n + 4) b) (n + 4 + 4) c) (n + 4 + 4 + 4) d) (n + 4 + 4 + 4 + 4) e := by
      rw [hsM.row 2 (fun _ => rfl), h5.2.1, h4.2.1, h3.2.1, h2.2.1, h1.2.1]
    have e132 : K5 132 = wr (wr (wr (wr (wr (I 132) n a) (n + 4) b) (n + 4 + 4) c) (n + 4 + 4 + 4) d) (n + 4 + 4 + 4 + 4) e := by
      rw [g5.2.1, g4.2.1, g3.2.1, g2.2.1, g1.2.1, hsH.row 132 (fun _ => rfl)]
    have hall := wr_eq (a := e) (wr_eq (a := d) (wr_eq (a := c) (wr_eq (a := b) (wr_eq (a := a) n4))))
    refine ⟨?_, play_T (play_T hpl hsH (fun o j e => (Bool.or_eq_false_iff.mp e).1)) hsM (fun o j e => (Bool.or_eq_false_iff.mp e).2), ?_, ⟨n + 20, by omega, ⟨?_, ?_⟩, ?_⟩, ?_⟩
    · show K5 131 2 = J5 1 1
      rw [g5.1, h5.1]
    · obtain ⟨k, k1, ⟨k2, k3⟩, k4⟩ := ht
      have both : ∀ o j, (scTh o j = false) → scTm o j = false → K5 o j = I o j := fun o j x y => (hsM o j y).trans (hsH o j x)
      refine ⟨k, k1, ⟨?_, ?_⟩, fun i hi => ?_⟩
      · show K5 127 3 = _
        rw [both 127 3 rfl rfl]; exact k2
      · show K5 131 59 = _
        rw [both 131 59 rfl rfl]; exact k3
      · show (K5 128 i = K5 170 i ∧ K5 129 i = K5 171 i) ∧ ∃ s, s < 4 ∧ K5 128 i = Int32.ofNat s
        rw [both 128 i rfl rfl, both 129 i rfl rfl, both 170 i rfl rfl, both 171 i rfl rfl]
        exact k4 i hi
    · show K5 1 1 = _
      rw [hsM 1 1 rfl]; exact h5.1
    · exact g5.1
    · intro i hi
      show K5 2 i = K5 132 i ∧ bOk (K5 2 i)
      rw [e2, e132]
      exact hall i (by omega)
    · show K5 6 4 = K5 131 17
      rw [hsM 6 4 rfl, hsH 6 4 rfl, hsM 131 17 rfl, hsH 131 17 rfl]
      exact hp
  · refine xOk.neg (show ¬ Int32.ofNat n ≤ 1980 from nk_nge (k := 1980) (by omega) (by omega)) (xOk.pur ?_)
    show xOk (f_M_feed F a b c d e I) _
    unfold f_M_feed
    rw [n3, show (20 : Int32) = Int32.ofNat 20 from rfl, nk_add]
    exact xOk.neg (show ¬ Int32.ofNat (n + 20) ≤ 2000 from nk_nge (k := 2000) (by omega) (by omega)) (xOk.pur ⟨rfl, hI0⟩)
theorem both_back {F : Nat} {I : XI} (hI : Inv F I) {k : Int32} : both F I (f_H_back k) (f_M_back k) := by
  have hI0 := hI
  obtain ⟨hpl, ht, ⟨n, n1, ⟨n2, n3⟩, n4⟩, hp⟩ := hI
  unfold both f_H_back
  by_cases h1 : k < 0
  · refine xOk.pos h1 (xOk.pur ?_)
    show xOk (f_M_back k I) _
    unfold f_M_back
    exact xOk.pos h1 (xOk.pur ⟨rfl, hI0⟩)
  refine xOk.neg h1 ?_
  have hx : k = Int32.ofNat (xN k) := (Int32.ofNat_toNatClampNeg k (Int32.not_lt.mp h1)).symm
  have lx : xN k < 2147483648 := Int32.toNatClampNeg_lt k
  generalize xN k = m at hx lx
  subst hx
  rw [n2]
  by_cases h2 : m ≤ n
  · refine xOk.pos (nk_le_t h2 (by omega)) (xOk.st (xOk.pur ?_))
    rw [nk_sub h2]
    show xOk (f_M_back (Int32.ofNat m) (xput I 1 1 (Int32.ofNat (n - m)))) _
    have hsH : Same scTh I (xput I 1 1 (Int32.ofNat (n - m))) := Same.put rfl
    unfold f_M_back
    rw [hsH 131 2 rfl, n3]
    refine xOk.neg h1 (xOk.pos (nk_le_t h2 (by omega)) (xOk.st (xOk.pur ?_)))
    rw [nk_sub h2]
    have hsM : Same scTm (xput I 1 1 (Int32.ofNat (n - m))) (xput (xput I 1 1 (Int32.ofNat (n - m))) 131 2 (Int32.ofNat (n - m))) := Same.put rfl
    generalize hK : xput (xput I 1 1 (Int32.ofNat (n - m))) 131 2 (Int32.ofNat (n - m)) = K at *
    have both : ∀ o j, (scTh o j = false) → scTm o j = false → K o j = I o j := fun o j x y => (hsM o j y).trans (hsH o j x)
    have k1 : K 1 1 = Int32.ofNat (n - m) := by rw [← hK, xput_neo (by omega), xput_eq]
    have k2 : K 131 2 = Int32.ofNat (n - m) := by rw [← hK, xput_eq]
    refine ⟨?_, play_T (play_T hpl hsH (fun o j e => (Bool.or_eq_false_iff.mp e).1)) hsM (fun o j e => (Bool.or_eq_false_iff.mp e).2), ?_, ⟨n - m, by omega, ⟨k1, k2⟩, fun i hi => ?_⟩, ?_⟩
    · show K 131 2 = xput I 1 1 (Int32.ofNat (n - m)) 1 1
      rw [k2, xput_eq]
    · obtain ⟨k, k1, ⟨k2, k3⟩, k4⟩ := ht
      refine ⟨k, k1, ⟨?_, ?_⟩, fun i hi => ?_⟩
      · show K 127 3 = _
        rw [both 127 3 rfl rfl]; exact k2
      · show K 131 59 = _
        rw [both 131 59 rfl rfl]; exact k3
      · show (K 128 i = K 170 i ∧ K 129 i = K 171 i) ∧ ∃ s, s < 4 ∧ K 128 i = Int32.ofNat s
        rw [both 128 i rfl rfl, both 129 i rfl rfl, both 170 i rfl rfl, both 171 i rfl rfl]
        exact k4 i hi
    · show K 2 i = K 132 i ∧ bOk (K 2 i)
      have e2 : K 2 i = I 2 i := by rw [← hK, xput_neo (by omega), xput_neo (by omega)]
      have e3 : K 132 i = I 132 i := by rw [← hK, xput_neo (by omega), xput_neo (by omega)]
      rw [e2, e3]
      exact n4 i (by omega)
    · show K 6 4 = K 131 17
      rw [both 6 4 rfl rfl, both 131 17 rfl rfl]
      exact hp
  · refine xOk.neg (nk_nge (by omega) (by omega)) (xOk.pur ?_)
    show xOk (f_M_back (Int32.ofNat m) I) _
    unfold f_M_back
    rw [n3]
    exact xOk.neg h1 (xOk.neg (nk_nge (by omega) (by omega)) (xOk.pur ⟨rfl, hI0⟩))
