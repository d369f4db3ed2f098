/-! days and knocks -/
def stx (h v : Int32) : Int32 := (((h ^^^ v) * 1103515245) + 12345) ^^^ (Int32.toUInt32 (((h ^^^ v) * 1103515245) + 12345) >>> (Int32.toUInt32 15 &&& Int32.toUInt32 31)).toInt32
def lotx (s w : Int32) : Int32 := (Int32.toUInt32 (stx (stx s 123) w) >>> (Int32.toUInt32 1 &&& Int32.toUInt32 31)).toInt32 - (Int32.toUInt32 (stx (stx s 123) w) >>> (Int32.toUInt32 1 &&& Int32.toUInt32 31)).toInt32 / 100 * 100
theorem c_lot {s w : Int32} : f_Calendar_lot s w = some (lotx s w) := rfl
theorem m_lot {I : XI} {w : Int32} : f_M_lotOf I w = some (lotx (I 131 50) w) := rfl
def knk (kn sd d : Int32) : Bool := !decide (kn ≤ lotx sd (64 * d))
theorem c_isKnock {I : XI} {sd d : Int32} : f_Calendar_isKnock I sd d = some (b2 (knk (I 17 3) sd d)) := by
  unfold f_Calendar_isKnock
  rw [c_lot, Option.bind_some, b2_ifn, b2_nar, xckT]
  rfl
theorem m_isKnock {lv : Nat} {T : XT} {I : XI} (hM : tbM lv T I) : f_M_isKnock I = some (b2 (knk (I 148 lv) (I 131 50) (I 163 30))) := by
  have hl := hM.1.1
  unfold f_M_isKnock
  rw [m_lot, Option.bind_some, hM.1.2, nk_in (by omega) (by omega), nk_N (by omega), b2_ifn, b2_nar]
  rfl
/-- what a knock takes -/
def flB (V : XV) (T : XT) (kn sd : Int32) (W : Nat → Int32) (d : Int32) (a : Nat) : Bool := knk kn sd d && (lie W a && !decide (sFalls V T W d a ≤ lotx sd (((64 * d) + 1) + Int32.ofNat a)))
def dayW (W : Nat → Int32) (fl : Nat → Bool) (N : Nat) : Nat → Int32 := fun k => if k < N ∧ fl k = true then -2 else W k
theorem dayW_wf {T : XT} {W : Nat → Int32} {fl : Nat → Bool} {N : Nat} (h : wfW T W) : wfW T (dayW W fl N) := by
  intro a ha
  unfold dayW
  by_cases e : a < N ∧ fl a = true
  · rw [if_pos e]; exact Or.inl rfl
  · rw [if_neg e]; exact h a ha
theorem dayW_lie {W : Nat → Int32} {fl : Nat → Bool} {N a : Nat} (ha : a < N) : lie (dayW W fl N) a = (lie W a && !fl a) := by
  unfold lie dayW
  cases hf : fl a with
  | true => rw [if_pos ⟨ha, rfl⟩]; simp
  | false => rw [if_neg (by intro h; cases h.2)]; simp
def stH (S : Nat) (W : Nat → Int32) (d tk : Int32) (I : XI) : Prop := I (S + 1) = W ∧ I S 1 = d ∧ I S 3 = tk
def scD (S o j : Nat) : Bool := scR o j || Nat.beq o S || Nat.beq o (S + 1)
def stS (S : Nat) : Prop := S = 26 ∨ S = 28
theorem scD_lo {S o : Nat} (hS : stS S) (ho : o < 24) (j : Nat) : scD S o j = false := by
  have h1 : ∀ o, o < 24 → Nat.beq o 24 = false ∧ Nat.beq o 25 = false ∧ Nat.beq o 31 = false ∧ Nat.beq o 26 = false ∧ Nat.beq o 27 = false ∧ Nat.beq o 28 = false ∧ Nat.beq o 29 = false := by decide
  obtain ⟨x1, x2, x3, x4, x5, x6, x7⟩ := h1 o ho
  unfold scD scR
  rcases hS with rfl | rfl
  · simp [x1, x2, x3, x4, x5]
  · simp [x1, x2, x3, x6, x7]
theorem scD_R {S o j : Nat} (h : scD S o j = false) : scR o j = false := by
  unfold scD at h
  simp only [Bool.or_eq_false_iff] at h
  exact h.1.1
theorem scR_S {S : Nat} (hS : stS S) (j : Nat) : scR S j = false ∧ scR (S + 1) j = false := by
  rcases hS with rfl | rfl <;> exact ⟨rfl, rfl⟩
theorem scD_S {S j : Nat} : scD S S j = true := by
  unfold scD
  rw [Nat.beq_refl]
  simp
theorem scD_S1 {S j : Nat} : scD S (S + 1) j = true := by
  unfold scD
  rw [Nat.beq_refl]
  simp
def updW (W : Nat → Int32) (a : Nat) (v : Int32) : Nat → Int32 := fun k => if k = a then v else W k
theorem xput_row {J : XI} {o a : Nat} {v : Int32} : xput J o a v o = updW (J o) a v := by
  funext k
  rw [xput_at]
  rfl
theorem agM_D {S lv : Nat} {I J : XI} (hS : stS S) (hs : Same (scD S) I J) : Same (fun o j => scD S o j) I J := hs
theorem lawC_D {F lv S : Nat} {V : XV} {I J : XI} (hS : stS S) (h : lawR F lv V I) (hs : Same (scD S) I J) : (∀ k u v, agr u v → V k u = V k v) ∧ lwC F V J := by
  refine ⟨h.1, ?_⟩
  intro k hk K e1 e2 e3
  exact h.2.1 k hk K (e1.trans (hs 21 1 (scD_lo hS (by omega) 1))) (e2.trans (hs.row 22 (scD_lo hS (by omega)))) (e3.trans (hs.row 23 (scD_lo hS (by omega))))
theorem beqf {a b : Nat} (h : ¬ a = b) : Nat.beq a b = false := by
  cases e : Nat.beq a b with
  | false => rfl
  | true => exact absurd (Nat.eq_of_beq_eq_true e) h
theorem scD_hi {S o : Nat} (hS : stS S) (ho : 131 ≤ o) (j : Nat) : scD S o j = false := by
  unfold scD scR
  rcases hS with rfl | rfl
  · rw [beqf (show ¬ o = 24 by omega), beqf (show ¬ o = 25 by omega), beqf (show ¬ o = 31 by omega), beqf (show ¬ o = 26 by omega), beqf (show ¬ o = 26 + 1 by omega)]
    rfl
  · rw [beqf (show ¬ o = 24 by omega), beqf (show ¬ o = 25 by omega), beqf (show ¬ o = 31 by omega), beqf (show ¬ o = 28 by omega), beqf (show ¬ o = 28 + 1 by omega)]
    rfl
theorem lawR_D {F lv S : Nat} {V : XV} {I J : XI} (hS : stS S) (h : lawR F lv V I) (hs : Same (scD S) I J) : lawR F lv V J := by
  refine ⟨h.1, (lawC_D hS h hs).2, ?_⟩
  intro k hk K e
  refine h.2.2 k hk K (agM_trans ⟨hs 131 18 (scD_hi hS (by omega) _), fun k _ => ⟨hs 150 _ (scD_hi hS (by omega) _), hs 151 _ (scD_hi hS (by omega) _)⟩, fun b _ => ⟨hs 152 _ (scD_hi hS (by omega) _), hs 153 _ (scD_hi hS (by omega) _), hs 154 _ (scD_hi hS (by omega) _), hs 155 _ (scD_hi hS (by omega) _), hs 156 _ (scD_hi hS (by omega) _)⟩, fun c _ => ⟨hs 157 _ (scD_hi hS (by omega) _), hs 158 _ (scD_hi hS (by omega) _)⟩⟩ e)
theorem tbC_D {S : Nat} {T : XT} {I J : XI} (hS : stS S) (h : tbC 17 T I) (hs : Same (scD S) I J) : tbC 17 T J := tbC_same h hs (scD_lo hS (by omega)) (scD_lo hS (by omega)) (scD_lo hS (by omega)) (scD_lo hS (by omega))
theorem c_endDay {F : Nat} (hF : 4000000 ≤ F) {lv S : Nat} {V : XV} {T : XT} {W : Nat → Int32} {d tk sd : Int32} {I : XI} (hS : stS S) (hL : lawR F lv V I) (hT : tbC 17 T I) (hO : tOk T) (hW : wfW T W) (hI : stH S W d tk I) :
    xOk (f_Calendar_endDay F S sd I) (fun J => stH S (dayW W (flB V T (I 17 3) sd W d) 30) (d + 1) (tk + Int32.ofNat (cnt (flB V T (I 17 3) sd W d) 30)) J ∧ J S 2 = I S 2 ∧ Same (scD S) I J) := by
  obtain ⟨i1, i2, i3⟩ := hI
  have hSn : ¬ S + 1 = S := by omega
  have hS31 : ¬ S + 1 = 31 := by rcases hS with rfl | rfl <;> decide
  have fin : ∀ m J, m < 1073741824 → (∀ c, c < 30 → m.testBit c = flB V T (I 17 3) sd W d c) → Same scR I J → xOk (f_Calendar_endDay_78 F S F (Int32.ofNat m) 0 J) (fun J => stH S (dayW W (flB V T (I 17 3) sd W d) 30) (d + 1) (tk + Int32.ofNat (cnt (flB V T (I 17 3) sd W d) 30)) J ∧ J S 2 = I S 2 ∧ Same (scD S) I J) := by
    intro m J hm hb hs
    refine xloop 30 (fun n (J : XI) a => f_Calendar_endDay_78 F S n (Int32.ofNat m) (Int32.ofNat a) J) (fun a J => stH S (dayW W (flB V T (I 17 3) sd W d) a) d tk J ∧ J S 2 = I S 2 ∧ Same (scD S) I J) ?_ ?_ F J 0 (by omega) (by omega) ⟨⟨?_, ?_, ?_⟩, ?_, hs.mono (fun _ _ e => scD_R e)⟩
    · intro n J a ha hP ih
      obtain ⟨⟨j1, j2, j3⟩, j4, j5⟩ := hP
      show xOk (f_Calendar_endDay_78 F S (n + 1) _ _ _) _
      rw [f_Calendar_endDay_78]
      refine xOk.neg (nk_nge ha (by decide)) ?_
      rw [bit_get (by omega) (by omega), hb a ha, nk_succ]
      cases hf : flB V T (I 17 3) sd W d a with
      | false =>
        refine xOk.neg (by decide) (ih J ⟨⟨?_, j2, j3⟩, j4, j5⟩)
        rw [j1]
        funext k
        unfold dayW
        by_cases e : k = a
        · subst e
          rw [if_neg (by omega), if_neg (by rw [hf]; simp)]
        · by_cases e2 : k < a
          · simp [e2, show k < a + 1 by omega]
          · rw [if_neg (by omega), if_neg (by omega)]
      | true =>
        refine xOk.pos rfl (xOk.ck (nk_in ha (by omega)) (xOk.st (ih _ ⟨⟨?_, ?_, ?_⟩, ?_, j5.put' scD_S1⟩)))
        · rw [xput_row, nk_N (by omega), j1]
          funext k
          unfold updW dayW
          by_cases e : k = a
          · subst e
            rw [if_pos rfl, if_pos ⟨by omega, hf⟩]
          · rw [if_neg e]
            by_cases e2 : k < a
            · simp [e2, show k < a + 1 by omega]
            · rw [if_neg (by omega), if_neg (by omega)]
        · rw [xput_neo (by omega)]; exact j2
        · rw [xput_neo (by omega)]; exact j3
        · rw [xput_neo (by omega)]; exact j4
    · intro n J hP
      obtain ⟨⟨j1, j2, j3⟩, j4, j5⟩ := hP
      show xOk (f_Calendar_endDay_78 F S (n + 1) _ _ _) _
      rw [f_Calendar_endDay_78]
      refine xOk.pos (by decide) (xOk.bnde (bitCount_nat hm) (xOk.st (xOk.st (xOk.pur ⟨⟨?_, ?_, ?_⟩, ?_, ?_⟩))))
      · rw [xput_neo (by omega), xput_neo (by omega)]; exact j1
      · rw [xput_eq, xput_ne (by omega), j2]
      · rw [xput_ne (by omega), xput_eq, j3, cnt_congr hb]
      · rw [xput_ne (by omega), xput_ne (by omega)]; exact j4
      · exact (j5.put' scD_S).put' scD_S
    · rw [hs.row (S + 1) (fun j => (scR_S hS j).2), i1]
      funext k
      unfold dayW
      rw [if_neg (by omega)]
    · rw [hs S 1 (scR_S hS 1).1]; exact i2
    · rw [hs S 3 (scR_S hS 3).1]; exact i3
    · exact hs S 2 (scR_S hS 2).1
  unfold f_Calendar_endDay
  refine xOk.bnde c_isKnock ?_
  rw [i2]
  cases hk : knk (I 17 3) sd d with
  | false =>
    refine xOk.pos rfl (fin 0 I (by omega) (fun c _ => ?_) Same.rfl)
    rw [Nat.zero_testBit]
    unfold flB
    rw [hk, Bool.false_and]
  | true =>
    refine xOk.neg (by decide) ?_
    refine xloop 30 (fun n (s : Nat × XI) a => f_Calendar_endDay_17 F S (fun v3 v4 I => f_Calendar_endDay_78 F S F v3 v4 I) n sd (Int32.ofNat s.1) (Int32.ofNat a) s.2) (fun a s => s.1 < 1073741824 ∧ (∀ c, s.1.testBit c = (decide (c < a) && flB V T (I 17 3) sd W d c)) ∧ Same scR I s.2) ?_ ?_ F (0, I) 0 (by omega) (by omega) ⟨by omega, fun c => by simp, Same.rfl⟩
    · intro n s a ha hP ih
      obtain ⟨m, J⟩ := s
      obtain ⟨hm, hb, hs⟩ : m < 1073741824 ∧ (∀ c, m.testBit c = (decide (c < a) && flB V T (I 17 3) sd W d c)) ∧ Same scR I J := hP
      show xOk (f_Calendar_endDay_17 F S _ (n + 1) sd (Int32.ofNat m) (Int32.ofNat a) J) _
      rw [f_Calendar_endDay_17]
      have hJ1 : J (S + 1) = W := by rw [hs.row (S + 1) (fun j => (scR_S hS j).2)]; exact i1
      have hJd : J S 1 = d := by rw [hs S 1 (scR_S hS 1).1]; exact i2
      refine xOk.neg (nk_nge ha (by decide)) ?_
      refine xOk.bnde (c_lies ha) ?_
      rw [hJ1, nk_succ]
      cases hl : lie W a with
      | false =>
        refine xOk.pos rfl (ih (m, J) ⟨hm, fun c => ?_, hs⟩)
        show m.testBit c = _
        rw [hb c]
        by_cases e : c = a
        · subst e
          unfold flB
          rw [hl]
          simp
        · rw [decide_eq_decide.mpr (show c < a ↔ c < a + 1 by omega)]
      | true =>
        refine xOk.neg (by decide) (xOk.bnde c_lot ?_)
        refine (c_falls hF (lawR_X hL hs.RX) (tbC_X hT hs.RX) hO hW hJ1 (fun j => (scR_S hS j).2) ha).bnd (fun r hr => ?_)
        rw [hr.1, hJd]
        have ef : flB V T (I 17 3) sd W d a = !decide (sFalls V T W d a ≤ lotx sd (((64 * d) + 1) + Int32.ofNat a)) := by
          unfold flB
          rw [hk, hl, Bool.true_and, Bool.true_and]
        by_cases g : sFalls V T W d a ≤ lotx sd (((64 * d) + 1) + Int32.ofNat a)
        · rw [if_pos g]
          rw [decide_eq_true g] at ef
          refine ih (m, r.2) ⟨hm, fun c => ?_, hs.trans hr.2⟩
          show m.testBit c = _
          rw [hb c]
          by_cases e : c = a
          · subst e
            rw [ef]
            simp
          · rw [decide_eq_decide.mpr (show c < a ↔ c < a + 1 by omega)]
        · rw [if_neg g, bit_set hm ha]
          rw [decide_eq_false g] at ef
          refine ih (m ||| 2 ^ a, r.2) ⟨or_lt30 hm ha, fun c => ?_, hs.trans hr.2⟩
          show (m ||| 2 ^ a).testBit c = _
          rw [tb_set, hb c]
          by_cases e : c = a
          · subst e
            rw [ef]
            simp
          · rw [decide_eq_decide.mpr (show c < a ↔ c < a + 1 by omega), decide_eq_false (show ¬ a = c by omega), Bool.or_false]
    · intro n s hP
      obtain ⟨m, J⟩ := s
      obtain ⟨hm, hb, hs⟩ : m < 1073741824 ∧ (∀ c, m.testBit c = (decide (c < 30) && flB V T (I 17 3) sd W d c)) ∧ Same scR I J := hP
      show xOk (f_Calendar_endDay_17 F S _ (n + 1) sd (Int32.ofNat m) (Int32.ofNat 30) J) _
      rw [f_Calendar_endDay_17]
      exact xOk.pos (by decide) (fin m J hm (fun c hc => by rw [hb c, decide_eq_true hc, Bool.true_and]) hs)
/-! the reference's day -/
noncomputable def pdF (V : XV) (T : XT) (W : Nat → Int32) (d : Int32) : Nat → Int32 → Int32
  | 0, pd => pd
  | n + 1, pd => pdF V T W d n pd + sTax V T W d (Int32.ofNat n)
theorem m_dayGoes {F : Nat} (hF : 4000000 ≤ F) {lv : Nat} {V : XV} {T : XT} {W : Nat → Int32} {d pd tk sd : Int32} {I : XI} (hL : lawR F lv V I) (hM : tbM lv T I) (hO : tOk T) (hW : wfW T W) (hR : rowS W d pd tk sd I) :
    xOk (f_M_dayGoes F I) (fun J => rowS (dayW W (flB V T (I 148 lv) sd W d) 30) (d + 1) (pdF V T W d 5 pd) (tk + Int32.ofNat (cnt (flB V T (I 148 lv) sd W d) 30)) sd J ∧ (∀ a, a < 30 → J 165 a = b2 (flB V T (I 148 lv) sd W d a)) ∧ Same scM I J) := by
  unfold f_M_dayGoes
  refine xloop 5 (fun n (J : XI) l => f_M_dayGoes_2 F n (Int32.ofNat l) J) (fun l J => rowS W d (pdF V T W d l pd) tk sd J ∧ Same scM I J) ?_ ?_ F I 0 (by omega) (by omega) ⟨hR, Same.rfl⟩
  · intro n J l hl hP ih
    obtain ⟨h1, h2⟩ := hP
    show xOk (f_M_dayGoes_2 F (n + 1) _ _) _
    rw [f_M_dayGoes_2]
    refine xOk.neg (nk_nge hl (by decide)) (xOk.ck rfl ?_)
    refine (m_taxOf hF (lawR_X hL h2.MX) (tbM_X hM h2.MX) hO hW h1.1).bnd (fun r hr => ?_)
    refine xOk.ck rfl (xOk.st ?_)
    rw [nk_succ]
    obtain ⟨k1, k2, k3, k4, k5⟩ := rowS_Q h1 hr.2
    refine ih _ ⟨⟨?_, ?_, ?_, ?_, ?_⟩, (h2.trans hr.2.QM).put' rfl⟩
    · intro a ha
      rw [show xN 31 = 31 from rfl, xput_ne (by omega)]
      exact k1 a ha
    · rw [show xN 31 = 31 from rfl, xput_ne (by omega)]; exact k2
    · rw [show xN 31 = 31 from rfl, xput_eq, hr.1, h1.2.1, h1.2.2.1]
      rfl
    · rw [show xN 31 = 31 from rfl, xput_ne (by omega)]; exact k4
    · rw [xput_neo (by omega)]; exact k5
  · intro n J hP
    obtain ⟨h1, h2⟩ := hP
    have hMJ := tbM_X hM h2.MX
    show xOk (f_M_dayGoes_2 F (n + 1) _ _) _
    rw [f_M_dayGoes_2]
    refine xOk.pos (by decide) ?_
    refine xOk.bnde (m_isKnock hMJ) ?_
    rw [h1.2.1, h1.2.2.2.2, h2 148 lv rfl]
    -- what went
    refine xloop 30 (fun n (J : XI) a => f_M_dayGoes_35 F n (b2 (knk (I 148 lv) sd d)) (Int32.ofNat a) J) (fun a J => rowS W d (pdF V T W d 5 pd) tk sd J ∧ (∀ c, c < a → J 165 c = b2 (flB V T (I 148 lv) sd W d c)) ∧ Same scM I J) ?_ ?_ F J 0 (by omega) (by omega) ⟨h1, fun c hc => absurd hc (by omega), h2⟩
    · intro n J a ha hP ih
      obtain ⟨j1, j2, j3⟩ := hP
      have hMJ := tbM_X hM j3.MX
      show xOk (f_M_dayGoes_35 F (n + 1) _ _ _) _
      rw [f_M_dayGoes_35]
      refine xOk.neg (nk_nge ha (by decide)) ?_
      have put : ∀ (K : XI) (q : Int32), Same scM I K → rowS W d (pdF V T W d 5 pd) tk sd K → (∀ c, c < a → K 165 c = b2 (flB V T (I 148 lv) sd W d c)) → (q &&& 1) = b2 (flB V T (I 148 lv) sd W d a) → xOk (f_M_dayGoes_97 F (fun v1 v2 I => f_M_dayGoes_35 F n v1 v2 I) (b2 (knk (I 148 lv) sd d)) (Int32.ofNat a) (Int32.ofNat a) q K) (fun J => rowS (dayW W (flB V T (I 148 lv) sd W d) 30) (d + 1) (pdF V T W d 5 pd) (tk + Int32.ofNat (cnt (flB V T (I 148 lv) sd W d) 30)) sd J ∧ (∀ a, a < 30 → J 165 a = b2 (flB V T (I 148 lv) sd W d a)) ∧ Same scM I J) := by
        intro K q x1 x2 x3 x4
        unfold f_M_dayGoes_97
        refine xOk.ck (nk_in ha (by omega)) (xOk.st ?_)
        rw [nk_N (by omega), nk_succ]
        obtain ⟨k1, k2, k3, k4, k5⟩ := x2
        refine ih _ ⟨⟨?_, ?_, ?_, ?_, ?_⟩, ?_, x1.put' rfl⟩
        · intro c hc
          rw [xput_neo (by omega)]; exact k1 c hc
        · rw [xput_neo (by omega)]; exact k2
        · rw [xput_neo (by omega)]; exact k3
        · rw [xput_neo (by omega)]; exact k4
        · rw [xput_neo (by omega)]; exact k5
        · intro c hc
          rw [xput_at]
          by_cases e : c = a
          · rw [if_pos e, e]; exact x4
          · rw [if_neg e]; exact x3 c (by omega)
      cases hk : knk (I 148 lv) sd d with
      | false =>
        rw [hk] at put
        refine xOk.pos rfl (put J 0 j3 j1 j2 ?_)
        unfold flB
        rw [hk, Bool.false_and]
        rfl
      | true =>
        rw [hk] at put
        refine xOk.neg (by decide) (xOk.bnde (m_isThere hMJ hO ha) ?_)
        cases hi : inT T a with
        | false =>
          refine xOk.pos rfl (put J 0 j3 j1 j2 ?_)
          unfold flB
          cases hl : lie W a with
          | false => simp [b2]
          | true => rw [lie_in hW ha hl] at hi; cases hi
        | true =>
          refine xOk.neg (by decide) (xOk.bnde (m_doesLie hO hW j1.1 ha) ?_)
          cases hl : lie W a with
          | false =>
            refine xOk.pos rfl (put J 0 j3 j1 j2 ?_)
            unfold flB
            rw [hl]
            simp [b2]
          | true =>
            refine xOk.neg (by decide) (xOk.ck rfl (xOk.bnde m_lot ?_))
            refine (m_fallsAt hF (lawR_X hL j3.MX) hMJ hO hW j1.1 ha hi).bnd (fun r hr => ?_)
            have hq := rowS_Q j1 hr.2
            refine put r.2 _ (j3.trans hr.2.QM) hq (fun c hc => ?_) ?_
            · rw [hr.2 165 c rfl]; exact j2 c hc
            · rw [hr.1, j1.2.1, j1.2.2.2.2, show J 163 (xN 30) = d from j1.2.1, b2_ifn]
              unfold flB
              rw [hk, hl]
              cases decide (sFalls V T W d a ≤ lotx sd (64 * d + 1 + Int32.ofNat a)) <;> rfl
    · intro n J hP
      obtain ⟨j1, j2, j3⟩ := hP
      show xOk (f_M_dayGoes_35 F (n + 1) _ _ _) _
      rw [f_M_dayGoes_35]
      refine xOk.pos (by decide) ?_
      -- it is taken
      refine xloop 30 (fun n (J : XI) a => f_M_dayGoes_106 F n (Int32.ofNat a) J) (fun a J => rowS (dayW W (flB V T (I 148 lv) sd W d) a) d (pdF V T W d 5 pd) (tk + Int32.ofNat (cnt (flB V T (I 148 lv) sd W d) a)) sd J ∧ (∀ c, c < 30 → J 165 c = b2 (flB V T (I 148 lv) sd W d c)) ∧ Same scM I J) ?_ ?_ F J 0 (by omega) (by omega) ⟨⟨?_, j1.2.1, j1.2.2.1, ?_, j1.2.2.2.2⟩, j2, j3⟩
      · intro n J a ha hP ih
        obtain ⟨⟨k1, k2, k3, k4, k5⟩, k6, k7⟩ := hP
        show xOk (f_M_dayGoes_106 F (n + 1) _ _) _
        rw [f_M_dayGoes_106]
        refine xOk.neg (nk_nge ha (by decide)) (xOk.ck (nk_in ha (by omega)) ?_)
        rw [nk_N (by omega), k6 a ha, nk_succ]
        cases hf : flB V T (I 148 lv) sd W d a with
        | false =>
          refine xOk.pos rfl (ih J ⟨⟨?_, k2, k3, ?_, k5⟩, k6, k7⟩)
          · intro c hc
            rw [k1 c hc]
            congr 1
            unfold dayW
            by_cases e : c = a
            · subst e
              rw [if_neg (by omega), if_neg (by rw [hf]; simp)]
            · by_cases e2 : c < a
              · simp [e2, show c < a + 1 by omega]
              · rw [if_neg (by omega), if_neg (by omega)]
          · rw [k4, cnt_succ, hf]
            rfl
        | true =>
          refine xOk.neg (by decide) (xOk.ck (nk_in (by omega) (by omega)) (xOk.st (xOk.ck rfl (xOk.ck rfl (xOk.st ?_)))))
          rw [show xN 32 = 32 from rfl]
          refine ih _ ⟨⟨?_, ?_, ?_, ?_, ?_⟩, ?_, (k7.put' rfl).put' rfl⟩
          · intro c hc
            rw [xput_ne (by omega), xput_at]
            by_cases e : c = a
            · rw [if_pos e, e]
              unfold dayW
              rw [if_pos ⟨by omega, hf⟩]
              rfl
            · rw [if_neg e, k1 c hc]
              congr 1
              unfold dayW
              by_cases e2 : c < a
              · simp [e2, show c < a + 1 by omega]
              · rw [if_neg (by omega), if_neg (by omega)]
          · rw [xput_ne (by omega), xput_ne (by omega)]; exact k2
          · rw [xput_ne (by omega), xput_ne (by omega)]; exact k3
          · rw [xput_eq, xput_ne (by omega), k4, cnt_succ, hf, Int32.add_assoc, nk_succ]
            rfl
          · rw [xput_neo (by omega), xput_neo (by omega)]; exact k5
          · intro c hc
            rw [xput_neo (by omega), xput_neo (by omega)]; exact k6 c hc
      · intro n J hP
        obtain ⟨⟨k1, k2, k3, k4, k5⟩, k6, k7⟩ := hP
        show xOk (f_M_dayGoes_106 F (n + 1) _ _) _
        rw [f_M_dayGoes_106]
        refine xOk.pos (by decide) (xOk.ck rfl (xOk.ck rfl (xOk.st (xOk.pur ⟨⟨?_, ?_, ?_, ?_, ?_⟩, ?_, k7.put' rfl⟩))))
        · intro c hc
          rw [show xN 30 = 30 from rfl, xput_ne (by omega)]; exact k1 c hc
        · rw [show xN 30 = 30 from rfl, xput_eq, k2]
        · rw [show xN 30 = 30 from rfl, xput_ne (by omega)]; exact k3
        · rw [show xN 30 = 30 from rfl, xput_ne (by omega)]; exact k4
        · rw [xput_neo (by omega)]; exact k5
        · intro c hc
          rw [xput_neo (by omega)]; exact k6 c hc
      · intro c hc
        rw [j1.1 c hc]
        congr 1
      · rw [j1.2.2.2.1]
        show tk = tk + 0
        rw [Int32.add_zero]
