/-! what the laws tell, on both sides -/
def sco (A o _j : Nat) : Bool := Nat.beq o A
theorem c_fill {F : Nat} (hF : 4000000 ≤ F) {A n : Nat} {v : Int32} {I : XI} (hn : n ≤ 1000) : xOk (f_Arrays_fill F A n v I) (fun J => Same (sco A) I J ∧ ∀ j, j < n → J A j = v) := by
  unfold f_Arrays_fill
  refine xloop n (fun m (J : XI) k => f_Arrays_fill_5 F A n m v (Int32.ofNat k) (Int32.ofNat n) J) (fun k J => Same (sco A) I J ∧ ∀ j, j < k → J A j = v) ?_ ?_ F I 0 (by omega) (by omega) ⟨Same.rfl, fun j hj => absurd hj (by omega)⟩
  · intro m J k hk hP ih
    obtain ⟨h1, h2⟩ := hP
    show xOk (f_Arrays_fill_5 F A n (m + 1) _ _ _ _) _
    rw [f_Arrays_fill_5]
    refine xOk.neg (nk_nge hk (by omega)) ?_
    refine xOk.ck (nk_in hk (by omega)) (xOk.st ?_)
    rw [nk_N (by omega), nk_succ]
    refine ih _ ⟨h1.put' (Nat.beq_refl A), ?_⟩
    intro j hj
    rw [xput_at]
    by_cases e : j = k
    · rw [if_pos e]
    · rw [if_neg e]
      exact h2 j (by omega)
  · intro m J hP
    show xOk (f_Arrays_fill_5 F A n (m + 1) _ _ _ _) _
    rw [f_Arrays_fill_5]
    exact xOk.pos (Int32.le_refl _) (xOk.pur hP)
def vb (d : Int32) : Nat → Int32 := fun j => if j = 4 then d else 0
def vp (i : Nat) (v : Int32) (u : Nat → Int32) : Nat → Int32 := fun j => if j = i then v else u j
def agr (u v : Nat → Int32) : Prop := ∀ j, j < 9 → u j = v j
theorem agr_put {J : XI} {A i : Nat} {v w : Int32} {u : Nat → Int32} (h : agr (J A) u) (e : v = w) : agr (xput J A i v A) (vp i w u) := by
  intro j hj
  rw [xput_at]
  unfold vp
  rw [e]
  by_cases e : j = i
  · rw [if_pos e, if_pos e]
  · rw [if_neg e, if_neg e]
    exact h j hj
theorem c_setDay {F : Nat} (hF : 4000000 ≤ F) {d : Int32} {I : XI} : xOk (f_Laws_setDayAlone F 21 d I) (fun J => Same (sco 24) I J ∧ agr (J 24) (vb d)) := by
  unfold f_Laws_setDayAlone
  refine (c_fill hF (A := 21 + 3) (n := 9) (by omega)).bnd (fun J hJ => ?_)
  refine xOk.ck rfl (xOk.st (xOk.pur ⟨hJ.1.put' rfl, ?_⟩))
  intro j hj
  show xput J 24 4 d 24 j = vb d j
  rw [xput_at]
  unfold vb
  by_cases e : j = 4
  · rw [if_pos e, if_pos e]
  · rw [if_neg e, if_neg e]
    exact hJ.2 j hj
def plain (k : Nat) (u : Nat → Int32) : Int32 := match k with
  | 0 => 1
  | 1 => u 6
  | 2 => 1
  | _ => 50
def sc161 (o j : Nat) : Bool := Nat.beq o 161 || (Nat.beq o 131 && Nat.beq j 47)
abbrev XV : Type := Nat → (Nat → Int32) → Int32
def lwC (F : Nat) (V : XV) (I : XI) : Prop := ∀ k, k < 4 → ∀ J : XI, J 21 1 = I 21 1 → J 22 = I 22 → J 23 = I 23 → xOk (f_Laws_value F 21 (Int32.ofNat k) J) (fun r => r.1 = V k (J 24) ∧ Same (sco 25) J r.2)
def agM (lv : Nat) (I J : XI) : Prop := J 131 18 = I 131 18 ∧ (∀ k, k < 4 → J 150 (4 * lv + k) = I 150 (4 * lv + k) ∧ J 151 (4 * lv + k) = I 151 (4 * lv + k)) ∧
  (∀ b, b < 130 → J 152 (130 * lv + b) = I 152 (130 * lv + b) ∧ J 153 (130 * lv + b) = I 153 (130 * lv + b) ∧ J 154 (130 * lv + b) = I 154 (130 * lv + b) ∧ J 155 (130 * lv + b) = I 155 (130 * lv + b) ∧ J 156 (130 * lv + b) = I 156 (130 * lv + b)) ∧
  (∀ c, c < 420 → J 157 (420 * lv + c) = I 157 (420 * lv + c) ∧ J 158 (420 * lv + c) = I 158 (420 * lv + c))
def lwM (F lv : Nat) (V : XV) (I : XI) : Prop := ∀ k, k < 4 → ∀ J : XI, agM lv I J → xOk (f_M_lawTells F (Int32.ofNat k) (plain k (J 160)) J) (fun r => r.1 = V k (J 160) ∧ Same sc161 J r.2)
def lawR (F lv : Nat) (V : XV) (I : XI) : Prop := (∀ k u v, agr u v → V k u = V k v) ∧ lwC F V I ∧ lwM F lv V I
theorem agM_X {lv : Nat} {I J : XI} (hs : Same scX I J) : agM lv I J :=
  ⟨hs 131 18 rfl, fun k _ => ⟨hs 150 _ rfl, hs 151 _ rfl⟩, fun b _ => ⟨hs 152 _ rfl, hs 153 _ rfl, hs 154 _ rfl, hs 155 _ rfl, hs 156 _ rfl⟩, fun c _ => ⟨hs 157 _ rfl, hs 158 _ rfl⟩⟩
theorem agM_trans {lv : Nat} {I J K : XI} (h : agM lv I J) (k : agM lv J K) : agM lv I K := by
  obtain ⟨a1, a2, a3, a4⟩ := h
  obtain ⟨b1, b2, b3, b4⟩ := k
  refine ⟨b1.trans a1, fun k hk => ⟨(b2 k hk).1.trans (a2 k hk).1, (b2 k hk).2.trans (a2 k hk).2⟩, fun b hb => ?_, fun c hc => ⟨(b4 c hc).1.trans (a4 c hc).1, (b4 c hc).2.trans (a4 c hc).2⟩⟩
  obtain ⟨x1, x2, x3, x4, x5⟩ := a3 b hb
  obtain ⟨y1, y2, y3, y4, y5⟩ := b3 b hb
  exact ⟨y1.trans x1, y2.trans x2, y3.trans x3, y4.trans x4, y5.trans x5⟩
theorem lawR_X {F lv : Nat} {V : XV} {I J : XI} (h : lawR F lv V I) (hs : Same scX I J) : lawR F lv V J := by
  obtain ⟨h1, h2, h3⟩ := h
  refine ⟨h1, ?_, ?_⟩
  · intro k hk K e1 e2 e3
    exact h2 k hk K (e1.trans (hs 21 1 rfl)) (e2.trans (hs.row 22 (fun _ => rfl))) (e3.trans (hs.row 23 (fun _ => rfl)))
  · intro k hk K e
    exact h3 k hk K (agM_trans (agM_X hs) e)
def heldx (v lo hi : Int32) : Int32 := if lo ≤ v then (if v ≤ hi then v else hi) else lo
theorem c_held {v lo hi : Int32} (h : lo ≤ hi) : f_Rules_held v lo hi = some (heldx v lo hi) := by
  unfold f_Rules_held heldx
  congr 1
  rw [Int32.le_iff_toInt_le] at h
  by_cases h1 : v < hi
  · have h1' := Int32.lt_iff_toInt_lt.mp h1
    rw [if_pos h1]
    by_cases h2 : lo < v
    · have h2' := Int32.lt_iff_toInt_lt.mp h2
      rw [if_pos h2, if_pos (Int32.le_iff_toInt_le.mpr (by omega)), if_pos (Int32.le_iff_toInt_le.mpr (by omega))]
    · have h2' : ¬ lo.toInt < v.toInt := fun h => h2 (Int32.lt_iff_toInt_lt.mpr h)
      rw [if_neg h2]
      by_cases h3 : lo ≤ v
      · have h3' := Int32.le_iff_toInt_le.mp h3
        rw [if_pos h3, if_pos (Int32.le_iff_toInt_le.mpr (by omega))]
        exact Int32.toInt_inj.mp (by omega)
      · rw [if_neg h3]
  · have h1' : ¬ v.toInt < hi.toInt := fun h => h1 (Int32.lt_iff_toInt_lt.mpr h)
    rw [if_neg h1, if_pos (c := lo ≤ v) (Int32.le_iff_toInt_le.mpr (by omega))]
    by_cases h2 : lo < hi
    · rw [if_pos h2]
      by_cases h3 : v ≤ hi
      · have h3' := Int32.le_iff_toInt_le.mp h3
        rw [if_pos h3]
        exact Int32.toInt_inj.mp (by omega)
      · rw [if_neg h3]
    · have h2' : ¬ lo.toInt < hi.toInt := fun h => h2 (Int32.lt_iff_toInt_lt.mpr h)
      rw [if_neg h2]
      by_cases h3 : v ≤ hi
      · have h3' := Int32.le_iff_toInt_le.mp h3
        rw [if_pos h3]
        exact Int32.toInt_inj.mp (by omega)
      · rw [if_neg h3]
        exact Int32.toInt_inj.mp (by omega)
theorem m_held {v lo hi : Int32} : f_M_held v lo hi = some (heldx v lo hi) := by
  unfold f_M_held heldx
  by_cases h : lo ≤ v
  · rw [if_pos h, if_pos h]
  · rw [if_neg h, if_neg h]
/-- scratch of the rules -/
def scR (o _j : Nat) : Bool := Nat.beq o 24 || Nat.beq o 25 || Nat.beq o 31
def scQ (o j : Nat) : Bool := Nat.beq o 160 || Nat.beq o 161 || Nat.beq o 164 || (Nat.beq o 131 && (Nat.beq j 47 || Nat.beq j 52))
theorem scR_24 {o j : Nat} (h : scR o j = false) : sco 24 o j = false := by
  unfold scR at h
  unfold sco
  simp only [Bool.or_eq_false_iff] at h
  exact h.1.1
theorem scR_25 {o j : Nat} (h : scR o j = false) : sco 25 o j = false := by
  unfold scR at h
  unfold sco
  simp only [Bool.or_eq_false_iff] at h
  exact h.1.2
theorem scR_31 {o j : Nat} (h : scR o j = false) : sc31 o j = false := by
  unfold scR at h
  unfold sc31
  simp only [Bool.or_eq_false_iff] at h
  exact h.2
theorem scH_R {o j : Nat} (h : scH o j = false) : scR o j = false := by
  unfold scH at h
  unfold scR
  simp only [Bool.or_eq_false_iff] at h ⊢
  exact ⟨⟨h.1.1.1.1.1, h.1.1.1.1.2⟩, h.1.2⟩
theorem scQ_161 {o j : Nat} (h : scQ o j = false) : sc161 o j = false := by
  unfold scQ at h
  unfold sc161
  cases h1 : Nat.beq o 161 <;> cases h2 : Nat.beq o 131 <;> cases h3 : Nat.beq j 47 <;> simp_all
theorem scQ_164 {o j : Nat} (h : scQ o j = false) : sc164 o j = false := by
  unfold scQ at h
  unfold sc164
  cases h1 : Nat.beq o 164 <;> cases h2 : Nat.beq o 131 <;> cases h3 : Nat.beq j 52 <;> simp_all
theorem scM_Q {o j : Nat} (h : scM o j = false) : scQ o j = false := by
  unfold scM at h
  unfold scQ
  cases h1 : Nat.beq o 160 <;> cases h2 : Nat.beq o 161 <;> cases h3 : Nat.beq o 164 <;> cases h4 : Nat.beq o 131 <;> cases h5 : Nat.beq j 47 <;> cases h6 : Nat.beq j 52 <;> simp_all
theorem Same.RX {I J : XI} (h : Same scR I J) : Same scX I J := h.mono (fun _ _ e => scH_R (scX_H e))
theorem Same.QX {I J : XI} (h : Same scQ I J) : Same scX I J := h.mono (fun _ _ e => scM_Q (scX_M e))
theorem rowS_Q {W : Nat → Int32} {dy pd tk sd : Int32} {J K : XI} (h : rowS W dy pd tk sd J) (hs : Same scQ J K) : rowS W dy pd tk sd K := by
  obtain ⟨h1, h2, h3, h4, h5⟩ := h
  refine ⟨fun a ha => ?_, ?_, ?_, ?_, ?_⟩
  · rw [hs 163 a rfl]; exact h1 a ha
  · rw [hs 163 30 rfl]; exact h2
  · rw [hs 163 31 rfl]; exact h3
  · rw [hs 163 32 rfl]; exact h4
  · rw [hs 131 50 rfl]; exact h5
/-- a value of the class's laws, on a world that differs in scratch alone -/
theorem c_value {F lv : Nat} {V : XV} {I J : XI} (hL : lawR F lv V I) (hs : Same scR I J) {k : Nat} (hk : k < 4) {u : Nat → Int32} (hu : agr (J 24) u) : xOk (f_Laws_value F 21 (Int32.ofNat k) J) (fun r => r.1 = V k u ∧ Same scR I r.2) := by
  refine (hL.2.1 k hk J (hs 21 1 rfl) (hs.row 22 (fun _ => rfl)) (hs.row 23 (fun _ => rfl))).mono (fun r hr => ⟨?_, hs.trans (hr.2.mono (fun _ _ e => scR_25 e))⟩)
  rw [hr.1]
  exact hL.1 k _ _ hu
theorem m_value {F lv : Nat} {V : XV} {I J : XI} (hL : lawR F lv V I) (hs : Same scQ I J) {k : Nat} (hk : k < 4) {u : Nat → Int32} (hu : agr (J 160) u) {p : Int32} (hp : p = plain k (J 160)) : xOk (f_M_lawTells F (Int32.ofNat k) p J) (fun r => r.1 = V k u ∧ Same scQ I r.2) := by
  rw [hp]
  refine (hL.2.2 k hk J (agM_X hs.QX)).mono (fun r hr => ⟨?_, hs.trans (hr.2.mono (fun _ _ e => scQ_161 e))⟩)
  rw [hr.1]
  exact hL.1 k _ _ hu
/-! wet -/
def sWet (V : XV) (d : Int32) : Bool := !decide (V 2 (vb d) ≤ 0)
theorem c_isWet {F : Nat} (hF : 4000000 ≤ F) {lv : Nat} {V : XV} {I : XI} (hL : lawR F lv V I) {d : Int32} : xOk (f_Rules_isWet F d I) (fun r => r.1 = b2 (sWet V d) ∧ Same scR I r.2) := by
  unfold f_Rules_isWet
  refine (c_setDay hF).bnd (fun J hJ => ?_)
  refine (c_value hL (hJ.1.mono (fun _ _ e => scR_24 e)) (k := 2) (by omega) hJ.2).bnd (fun r hr => ?_)
  rw [hr.1, b2_ifn]
  exact xOk.ck b2_nar (xOk.pur ⟨rfl, hr.2⟩)
theorem m_looks {F : Nat} (hF : 4000000 ≤ F) {I : XI} : xOk (f_M_looks F I) (fun J => Same (sco 160) I J ∧ agr (J 160) (vb (I 163 30))) := by
  unfold f_M_looks
  refine xloop 9 (fun m (J : XI) k => f_M_looks_2 F m (Int32.ofNat k) J) (fun k J => Same (sco 160) I J ∧ ∀ j, j < k → J 160 j = 0) ?_ ?_ F I 0 (by omega) (by omega) ⟨Same.rfl, fun j hj => absurd hj (by omega)⟩
  · intro m J k hk hP ih
    obtain ⟨h1, h2⟩ := hP
    show xOk (f_M_looks_2 F (m + 1) _ _) _
    rw [f_M_looks_2]
    refine xOk.neg (nk_nge hk (by decide)) ?_
    refine xOk.ck (nk_in hk (by omega)) (xOk.st ?_)
    rw [nk_N (by omega), nk_succ]
    refine ih _ ⟨h1.put' rfl, ?_⟩
    intro j hj
    rw [xput_at]
    by_cases e : j = k
    · rw [if_pos e]
    · rw [if_neg e]
      exact h2 j (by omega)
  · intro m J hP
    obtain ⟨h1, h2⟩ := hP
    show xOk (f_M_looks_2 F (m + 1) _ _) _
    rw [f_M_looks_2]
    refine xOk.pos (by decide) (xOk.ck rfl (xOk.ck rfl (xOk.st (xOk.pur ⟨h1.put' rfl, ?_⟩))))
    intro j hj
    rw [xput_at]
    unfold vb
    show (if j = 4 then J 163 30 else _) = _
    rw [h1 163 30 rfl]
    by_cases e : j = 4
    · rw [if_pos e, if_pos e]
    · rw [if_neg e, if_neg e]
      exact h2 j hj
theorem scQ_160 {o j : Nat} (h : scQ o j = false) : sco 160 o j = false := by
  unfold scQ at h
  unfold sco
  simp only [Bool.or_eq_false_iff] at h
  exact h.1.1.1
theorem m_isWet {F : Nat} (hF : 4000000 ≤ F) {lv : Nat} {V : XV} {I : XI} (hL : lawR F lv V I) : xOk (f_M_isWet F I) (fun r => r.1 = b2 (sWet V (I 163 30)) ∧ Same scQ I r.2) := by
  unfold f_M_isWet
  refine (m_looks hF).bnd (fun J hJ => ?_)
  refine (m_value hL (hJ.1.mono (fun _ _ e => scQ_160 e)) (k := 2) (by omega) hJ.2 rfl).bnd (fun r hr => ?_)
  rw [hr.1, b2_ifn]
  exact xOk.ck b2_nar (xOk.pur ⟨rfl, hr.2⟩)
/-! falls -/
def vxy (T : XT) (d : Int32) (a : Nat) : Nat → Int32 := vp 2 (tl T a) (vp 1 (Int32.ofNat (a / 6)) (vp 0 (Int32.ofNat (a % 6)) (vb d)))
def sFalls (V : XV) (T : XT) (W : Nat → Int32) (d : Int32) (a : Nat) : Int32 := heldx (V 3 (vp 3 (Int32.ofNat (cnt (lnk T W a) 4)) (vxy T d a))) 0 100
theorem nk_m6 {a : Nat} (ha : a < 30) : Int32.ofNat a - Int32.ofNat a / 6 * 6 = Int32.ofNat (a % 6) := by
  rw [nl6]
  simp (disch := omega) only [nk_div, nk_mul, nk_sub, nk_md]
theorem nk_d6 {a : Nat} (ha : a < 30) : Int32.ofNat a / 6 = Int32.ofNat (a / 6) := by
  rw [nl6, nk_div (by omega) (by omega)]
theorem c_falls {F : Nat} (hF : 4000000 ≤ F) {lv : Nat} {V : XV} {T : XT} {W : Nat → Int32} {I : XI} {S : Nat} (hL : lawR F lv V I) (hT : tbC 17 T I) (hO : tOk T) (hW : wfW T W) (hI : I (S + 1) = W) (hS : ∀ j, scR (S + 1) j = false) {a : Nat} (ha : a < 30) : xOk (f_Rules_falls F S (Int32.ofNat a) I) (fun r => r.1 = sFalls V T W (I S 1) a ∧ Same scR I r.2) := by
  unfold f_Rules_falls
  refine (c_setDay hF).bnd (fun J hJ => ?_)
  have s0 : Same scR I J := hJ.1.mono (fun _ _ e => scR_24 e)
  refine xOk.ck rfl (xOk.st (xOk.ck rfl (xOk.st (xOk.ck (nk_in ha (by omega)) (xOk.ck rfl (xOk.st ?_))))))
  rw [nk_m6 ha, nk_d6 ha, nk_N (by omega)]
  have a1 := agr_put (i := 0) hJ.2 (Eq.refl (Int32.ofNat (a % 6)))
  have a2 := agr_put (i := 1) a1 (Eq.refl (Int32.ofNat (a / 6)))
  have s2 : Same scR I (xput (xput J 24 0 (Int32.ofNat (a % 6))) 24 1 (Int32.ofNat (a / 6))) := (s0.put' rfl).put' rfl
  have e18 : xput (xput J 24 0 (Int32.ofNat (a % 6))) 24 1 (Int32.ofNat (a / 6)) 18 a = tl T a := by
    rw [s2 18 a rfl, show I 18 = tl T from hT.2.2.2.1]
  have a3 := agr_put (i := 2) a2 e18
  have s3 := s2.put' (o := 24) (j := 2) (v := xput (xput J 24 0 (Int32.ofNat (a % 6))) 24 1 (Int32.ofNat (a / 6)) 18 a) rfl
  refine xOk.bnde (c_friends hF (tbC_same hT s3 (fun _ => rfl) (fun _ => rfl) (fun _ => rfl) (fun _ => rfl)) hO hW (by rw [Same.row (S := scR) s3 (S + 1) hS]; exact hI) ha) ?_
  refine xOk.ck rfl (xOk.st ?_)
  have a4 := agr_put (i := 3) a3 (Eq.refl (Int32.ofNat (cnt (lnk T W a) 4)))
  refine (c_value hL (s3.put' rfl) (k := 3) (by omega) a4).bnd (fun r hr => ?_)
  refine xOk.bnde (c_held (by decide)) (xOk.pur ⟨?_, hr.2⟩)
  rw [hr.1]
  rfl
theorem m_looksAt {F : Nat} (hF : 4000000 ≤ F) {lv : Nat} {T : XT} {I : XI} (hM : tbM lv T I) {a : Nat} (ha : a < 30) (hi : inT T a = true) : xOk (f_M_looksAt F (Int32.ofNat a) I) (fun J => Same (sco 160) I J ∧ agr (J 160) (vxy T (I 163 30) a)) := by
  unfold f_M_looksAt
  refine (m_looks hF).bnd (fun J hJ => ?_)
  refine xOk.ck rfl (xOk.st (xOk.ck rfl (xOk.st ?_)))
  rw [nk_m6 ha, nk_d6 ha]
  have a1 := agr_put (i := 0) hJ.2 (Eq.refl (Int32.ofNat (a % 6)))
  have a2 := agr_put (i := 1) a1 (Eq.refl (Int32.ofNat (a / 6)))
  have s2 : Same (sco 160) I (xput (xput J 160 0 (Int32.ofNat (a % 6))) 160 1 (Int32.ofNat (a / 6))) := (hJ.1.put' rfl).put' rfl
  refine xOk.bnde (m_landAt (tbM_X hM (s2.mono (fun _ _ e => scQ_160 (scM_Q (scX_M e))))) ha hi) ?_
  exact xOk.ck rfl (xOk.st (xOk.pur ⟨s2.put' rfl, agr_put (i := 2) a2 rfl⟩))
theorem m_fallsAt {F : Nat} (hF : 4000000 ≤ F) {lv : Nat} {V : XV} {T : XT} {W : Nat → Int32} {I : XI} (hL : lawR F lv V I) (hM : tbM lv T I) (hO : tOk T) (hW : wfW T W) (hR : rowR W I) {a : Nat} (ha : a < 30) (hi : inT T a = true) : xOk (f_M_fallsAt F (Int32.ofNat a) I) (fun r => r.1 = sFalls V T W (I 163 30) a ∧ Same scQ I r.2) := by
  unfold f_M_fallsAt
  refine xOk.bnde (m_fitsNext hF hM hO hW hR ha hi) ?_
  refine (m_looksAt hF hM ha hi).bnd (fun J hJ => ?_)
  refine xOk.ck rfl (xOk.st ?_)
  have a4 := agr_put (i := 3) hJ.2 (Eq.refl (Int32.ofNat (cnt (lnk T W a) 4)))
  have s0 : Same scQ I J := hJ.1.mono (fun _ _ e => scQ_160 e)
  refine (m_value hL (s0.put' rfl) (k := 3) (by omega) a4 rfl).bnd (fun r hr => ?_)
  refine xOk.bnde m_held (xOk.pur ⟨?_, hr.2⟩)
  rw [hr.1]
  rfl
/-! taxes -/
noncomputable def sTax (V : XV) (T : XT) (W : Nat → Int32) (d l : Int32) : Int32 := if cnt (lo T W l) 30 = 0 then 0 else heldx (V 1 (vp 7 (Int32.ofNat (cnt (prB T W l) 30)) (vp 6 (Int32.ofNat (cnt (lo T W l) 30)) (vp 2 l (vb d))))) 0 999
theorem c_taxes {F : Nat} (hF : 4000000 ≤ F) {lv : Nat} {V : XV} {T : XT} {W : Nat → Int32} {I : XI} {S : Nat} (hL : lawR F lv V I) (hT : tbC 17 T I) (hO : tOk T) (hW : wfW T W) (hI : I (S + 1) = W) (hS : ∀ j, scR (S + 1) j = false) (hS31 : ¬ S + 1 = 31) {l : Int32} (hl : ¬ l = -1) : xOk (f_Rules_taxes F S l I) (fun r => r.1 = sTax V T W (I S 1) l ∧ Same scR I r.2) := by
  unfold f_Rules_taxes
  refine xOk.bnde (c_sizeOf hF hT hI hl) ?_
  unfold sTax
  have hle := cnt_le (lo T W l) 30
  by_cases h0 : cnt (lo T W l) 30 = 0
  · rw [if_pos h0]
    exact xOk.pos (by rw [h0]; rfl) (xOk.pur ⟨rfl, Same.rfl⟩)
  · rw [if_neg h0]
    refine xOk.neg (by rw [nk_z (by omega)]; exact h0) ?_
    refine (c_setDay hF).bnd (fun J hJ => ?_)
    have s0 : Same scR I J := hJ.1.mono (fun _ _ e => scR_24 e)
    refine xOk.ck rfl (xOk.st (xOk.ck rfl (xOk.st ?_)))
    have a1 := agr_put (i := 2) hJ.2 (Eq.refl l)
    have a2 := agr_put (i := 6) a1 (Eq.refl (Int32.ofNat (cnt (lo T W l) 30)))
    have s2 : Same scR I (xput (xput J 24 2 l) 24 6 (Int32.ofNat (cnt (lo T W l) 30))) := (s0.put' rfl).put' rfl
    refine (c_partsOf hF (tbC_same hT s2 (fun _ => rfl) (fun _ => rfl) (fun _ => rfl) (fun _ => rfl)) hO hW (by rw [s2.row (S + 1) hS]; exact hI) hS31 hl).bnd (fun q hq => ?_)
    refine xOk.ck rfl (xOk.st ?_)
    have s3 : Same scR I q.2 := s2.trans (hq.2.mono (fun _ _ e => scR_31 e))
    have a3 : agr (q.2 24) (vp 6 (Int32.ofNat (cnt (lo T W l) 30)) (vp 2 l (vb (I S 1)))) := by
      rw [Same.row hq.2 24 (fun _ => rfl)]
      exact a2
    have a4 := agr_put (i := 7) a3 hq.1
    refine (c_value hL (s3.put' rfl) (k := 1) (by omega) a4).bnd (fun r hr => ?_)
    refine xOk.bnde (c_held (by decide)) (xOk.pur ⟨?_, hr.2⟩)
    rw [hr.1]
theorem m_taxOf {F : Nat} (hF : 4000000 ≤ F) {lv : Nat} {V : XV} {T : XT} {W : Nat → Int32} {I : XI} (hL : lawR F lv V I) (hM : tbM lv T I) (hO : tOk T) (hW : wfW T W) (hR : rowR W I) {l : Int32} : xOk (f_M_taxOf F l I) (fun r => r.1 = sTax V T W (I 163 30) l ∧ Same scQ I r.2) := by
  unfold f_M_taxOf
  refine xOk.bnde (m_liesOf hF hM hO hW hR) ?_
  unfold sTax
  have hle := cnt_le (lo T W l) 30
  by_cases h0 : cnt (lo T W l) 30 = 0
  · rw [if_pos h0]
    exact xOk.pos (by rw [h0]; rfl) (xOk.pur ⟨rfl, Same.rfl⟩)
  · rw [if_neg h0]
    refine xOk.neg (by rw [nk_z (by omega)]; exact h0) ?_
    refine (m_fillsParts hF hM hO hW hR (l := l)).bnd (fun K hK => ?_)
    obtain ⟨f, k1, k2, k3, k4⟩ := hK
    have s0 : Same scQ I K := k4.mono (fun _ _ e => scQ_164 e)
    refine (m_looks hF).bnd (fun J hJ => ?_)
    have s1 : Same scQ I J := s0.trans (hJ.1.mono (fun _ _ e => scQ_160 e))
    have hday : K 163 30 = I 163 30 := s0 163 30 rfl
    have a0 := hJ.2
    rw [hday] at a0
    refine xOk.ck rfl (xOk.st (xOk.ck rfl (xOk.st (xOk.ck rfl (xOk.st ?_)))))
    have a1 := agr_put (i := 2) a0 (Eq.refl l)
    have a2 := agr_put (i := 6) a1 (Eq.refl (Int32.ofNat (cnt (lo T W l) 30)))
    have e52 : xput (xput J 160 2 l) 160 6 (Int32.ofNat (cnt (lo T W l) 30)) 131 52 = Int32.ofNat (cnt (prB T W l) 30) := by
      rw [xput_neo (by decide), xput_neo (by decide), hJ.1 131 52 rfl, k3, cnt_rep k1]
    have a3 := agr_put (i := 7) a2 e52
    refine (m_value hL (((s1.put' rfl).put' rfl).put' rfl) (k := 1) (by omega) a3 ?_).bnd (fun r hr => ?_)
    · show _ = xput _ 160 7 _ 160 6
      rw [xput_at, if_neg (by decide)]
      show _ = xput (xput J 160 2 l) 160 6 (Int32.ofNat (cnt (lo T W l) 30)) 160 6
      rw [xput_eq]
    · refine xOk.bnde m_held (xOk.pur ⟨?_, hr.2⟩)
      rw [hr.1]
/-! ways -/
def sameB (T : XT) (a b : Nat) : Bool := !isH T a && decide (tl T a = tl T b)
def sWays (V : XV) (T : XT) (d : Int32) (a b s : Nat) : Int32 := heldx (V 0 (vp 8 (Int32.ofNat s) (vp 5 (b2 (sameB T a b)) (vxy T d a)))) 1 99
theorem c_ways {F : Nat} (hF : 4000000 ≤ F) {lv : Nat} {V : XV} {T : XT} {I : XI} (hL : lawR F lv V I) (hT : tbC 17 T I) (hO : tOk T) {d : Int32} {a b s : Nat} (ha : a < 30) (hi : inT T a = true) (hb : b < 30) : xOk (f_Rules_ways F d (Int32.ofNat a) (Int32.ofNat b) (Int32.ofNat s) I) (fun r => r.1 = sWays V T d a b s ∧ Same scR I r.2) := by
  unfold f_Rules_ways
  refine (c_setDay hF).bnd (fun J hJ => ?_)
  have s0 : Same scR I J := hJ.1.mono (fun _ _ e => scR_24 e)
  refine xOk.ck rfl (xOk.st (xOk.ck rfl (xOk.st (xOk.ck (nk_in ha (by omega)) (xOk.ck rfl (xOk.st ?_))))))
  rw [nk_m6 ha, nk_d6 ha, nk_N (by omega)]
  have a1 := agr_put (i := 0) hJ.2 (Eq.refl (Int32.ofNat (a % 6)))
  have a2 := agr_put (i := 1) a1 (Eq.refl (Int32.ofNat (a / 6)))
  have s2 : Same scR I (xput (xput J 24 0 (Int32.ofNat (a % 6))) 24 1 (Int32.ofNat (a / 6))) := (s0.put' rfl).put' rfl
  have e18 : xput (xput J 24 0 (Int32.ofNat (a % 6))) 24 1 (Int32.ofNat (a / 6)) 18 a = tl T a := by
    rw [s2 18 a rfl, show I 18 = tl T from hT.2.2.2.1]
  have a3 := agr_put (i := 2) a2 e18
  have s3 := s2.put' (o := 24) (j := 2) (v := xput (xput J 24 0 (Int32.ofNat (a % 6))) 24 1 (Int32.ofNat (a / 6)) 18 a) rfl
  rw [show xN 0 = 0 from rfl, show xN 1 = 1 from rfl, show xN 2 = 2 from rfl]
  generalize xput (xput (xput J 24 0 (Int32.ofNat (a % 6))) 24 1 (Int32.ofNat (a / 6))) 24 2 (xput (xput J 24 0 (Int32.ofNat (a % 6))) 24 1 (Int32.ofNat (a / 6)) 18 a) = K at *
  have hTK : tbC 17 T K := tbC_same hT s3 (fun _ => rfl) (fun _ => rfl) (fun _ => rfl) (fun _ => rfl)
  have key : ∀ q : Int32, q = b2 (sameB T a b) → xOk (f_Rules_ways_97 F (Int32.ofNat s) 5 q K) (fun r => r.1 = sWays V T d a b s ∧ Same scR I r.2) := by
    intro q hq
    unfold f_Rules_ways_97
    refine xOk.ck rfl (xOk.st (xOk.ck rfl (xOk.st ?_)))
    have a4 := agr_put (i := 5) a3 hq
    have a5 := agr_put (i := 8) a4 (Eq.refl (Int32.ofNat s))
    refine (c_value hL ((s3.put' rfl).put' rfl) (k := 0) (by omega) a5).bnd (fun r hr => ?_)
    refine xOk.bnde (c_held (by decide)) (xOk.pur ⟨?_, hr.2⟩)
    rw [hr.1]
    rfl
  refine xOk.bnde (c_isPiece hTK hO ha) ?_
  unfold isP
  rw [hi]
  cases hh : isH T a with
  | true =>
    refine xOk.pos rfl (key 0 ?_)
    unfold sameB
    rw [hh]
    rfl
  | false =>
    refine xOk.neg (by decide) (xOk.ck (nk_in ha (by omega)) (xOk.ck (nk_in hb (by omega)) (key _ ?_)))
    unfold sameB
    simp only [show xN (Int32.ofNat a) = a from nk_N (by omega), show xN (Int32.ofNat b) = b from nk_N (by omega)]
    rw [hh, b2_if, show K 18 = tl T from hTK.2.2.2.1]
    rfl
theorem m_wayOver {F : Nat} (hF : 4000000 ≤ F) {lv : Nat} {V : XV} {T : XT} {I : XI} (hL : lawR F lv V I) (hM : tbM lv T I) (hO : tOk T) {a b s : Nat} (ha : a < 30) (hi : inT T a = true) (hs : s < 4) (hn : nb T a s = some b) : xOk (f_M_wayOver F (Int32.ofNat a) (Int32.ofNat s) I) (fun r => r.1 = sWays V T (I 163 30) a b s ∧ Same scQ I r.2) := by
  have hb := nb_lt hO ha s hs b hn
  have hib := nb_in hO ha hi s hs b hn
  unfold f_M_wayOver
  refine xOk.bnde (m_overTo hM hO ha hi s hs) ?_
  rw [hn]
  refine (m_looksAt hF hM ha hi).bnd (fun J hJ => ?_)
  have s0 : Same scQ I J := hJ.1.mono (fun _ _ e => scQ_160 e)
  have hMJ := tbM_X hM s0.QX
  have key : ∀ q : Int32, q = b2 (sameB T a b) → xOk (f_M_wayOver_43 F (Int32.ofNat s) 5 q J) (fun r => r.1 = sWays V T (I 163 30) a b s ∧ Same scQ I r.2) := by
    intro q hq
    unfold f_M_wayOver_43
    refine xOk.ck rfl (xOk.st (xOk.ck rfl (xOk.st ?_)))
    have a4 := agr_put (i := 5) hJ.2 hq
    have a5 := agr_put (i := 8) a4 (Eq.refl (Int32.ofNat s))
    refine (m_value hL ((s0.put' rfl).put' rfl) (k := 0) (by omega) a5 rfl).bnd (fun r hr => ?_)
    refine xOk.bnde m_held (xOk.pur ⟨?_, hr.2⟩)
    rw [hr.1]
    rfl
  refine xOk.bnde (m_isHole hMJ ha hi) ?_
  cases hh : isH T a with
  | true =>
    refine xOk.neg (by decide) (key 0 ?_)
    unfold sameB
    rw [hh]
    rfl
  | false =>
    refine xOk.pos rfl ?_
    refine xOk.bnde (m_landAt hMJ ha hi) (xOk.bnde (m_landAt hMJ hb hib) (key _ ?_))
    unfold sameB
    rw [hh, b2_if]
    rfl
