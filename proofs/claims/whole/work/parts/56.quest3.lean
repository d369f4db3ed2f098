/-! spares, homes, free, border, loose -/
def fk (T : XT) (a k : Nat) : Bool := fh T a (k / 4) (k % 4)
theorem fk_at {T : XT} {a e t : Nat} (ht : t < 4) : fk T a (4 * e + t) = fh T a e t := by
  unfold fk
  rw [show (4 * e + t) / 4 = e by omega, show (4 * e + t) % 4 = t by omega]
theorem cnt_succ {p : Nat → Bool} {k : Nat} : cnt p (k + 1) = cnt p k + (if p k = true then 1 else 0) := rfl
theorem c_sparesFor {F : Nat} (hF : 4000000 ≤ F) {S : Nat} {T : XT} {I : XI} (hT : tbC S T I) (hO : tOk T) {a : Nat} (ha : a < 30) (hi : inT T a = true) : f_Table_sparesFor F S I (Int32.ofNat a) = some (Int32.ofNat (cnt (fk T a) (4 * tn T))) := by
  have o3 := hO.2.2
  unfold f_Table_sparesFor
  refine xOk.eq (xloop (tn T) (fun n (c : Nat) e => f_Table_sparesFor_4 F S I n (Int32.ofNat a) (Int32.ofNat c) (Int32.ofNat e)) (fun e c => c = cnt (fk T a) (4 * e)) ?_ ?_ F 0 0 (by omega) (by omega) rfl)
  · intro n c e he hc ih
    show xOk (f_Table_sparesFor_4 F S I (n + 1) _ _ _) _
    rw [f_Table_sparesFor_4, hT.2.2.1]
    refine xOk.neg (nk_nge he (by omega)) ?_
    refine xloop 4 (fun m (c : Nat) t => f_Table_sparesFor_15 F S I (fun v1 v2 v3 => f_Table_sparesFor_4 F S I n v1 v2 v3) m (Int32.ofNat a) (Int32.ofNat c) (Int32.ofNat e) (Int32.ofNat t)) (fun t c => c = cnt (fk T a) (4 * e + t)) ?_ ?_ F c 0 (by omega) (by omega) hc
    · intro m c t ht hc ih2
      subst hc
      show xOk (f_Table_sparesFor_15 F S I _ (m + 1) _ _ _ _) _
      rw [f_Table_sparesFor_15]
      refine xOk.neg (nk_nge ht (by decide)) ?_
      refine xOk.bnde (c_fitsHole hF hT hO ha hi he ht) ?_
      rw [b2_inc, nk_succ, ← fk_at ht]
      exact ih2 _ rfl
    · intro m c hc
      show xOk (f_Table_sparesFor_15 F S I _ (m + 1) _ _ _ _) _
      rw [f_Table_sparesFor_15]
      refine xOk.pos (by decide) ?_
      rw [nk_succ]
      exact ih _ hc
  · intro n c hc
    subst hc
    show xOk (f_Table_sparesFor_4 F S I (n + 1) _ _ _) _
    rw [f_Table_sparesFor_4, hT.2.2.1]
    exact xOk.pos (Int32.le_refl _) (xOk.pur rfl)
def foi (o : Option Nat) : Int32 := match o with
  | none => -2
  | some k => Int32.ofNat (10 * (k / 4) + k % 4)
theorem frst_none_succ {p : Nat → Bool} {k : Nat} (h : frst p k = none) : frst p (k + 1) = if p k = true then some k else none := by
  show (match frst p k with
    | some k => some k
    | none => if p k = true then some k else none) = _
  rw [h]
theorem c_firstSpareFor {F : Nat} (hF : 4000000 ≤ F) {S : Nat} {T : XT} {I : XI} (hT : tbC S T I) (hO : tOk T) {a : Nat} (ha : a < 30) (hi : inT T a = true) : f_Table_firstSpareFor F S I (Int32.ofNat a) = some (foi (frst (fk T a) (4 * tn T))) := by
  have o3 := hO.2.2
  unfold f_Table_firstSpareFor
  refine xOk.eq (xloop (tn T) (fun n (_ : Unit) e => f_Table_firstSpareFor_2 F S I n (Int32.ofNat a) (Int32.ofNat e)) (fun e _ => frst (fk T a) (4 * e) = none) ?_ ?_ F () 0 (by omega) (by omega) rfl)
  · intro n c e he hc ih
    show xOk (f_Table_firstSpareFor_2 F S I (n + 1) _ _) _
    rw [f_Table_firstSpareFor_2, hT.2.2.1]
    refine xOk.neg (nk_nge he (by omega)) ?_
    refine xloop 4 (fun m (_ : Unit) t => f_Table_firstSpareFor_12 F S I (fun v1 v2 => f_Table_firstSpareFor_2 F S I n v1 v2) m (Int32.ofNat a) (Int32.ofNat e) (Int32.ofNat t)) (fun t _ => frst (fk T a) (4 * e + t) = none) ?_ ?_ F () 0 (by omega) (by omega) hc
    · intro m c t ht hc ih2
      show xOk (f_Table_firstSpareFor_12 F S I _ (m + 1) _ _ _) _
      rw [f_Table_firstSpareFor_12]
      refine xOk.neg (nk_nge ht (by decide)) ?_
      refine xOk.bnde (c_fitsHole hF hT hO ha hi he ht) ?_
      have h1 := frst_none_succ hc
      rw [fk_at ht] at h1
      cases hf : fh T a e t with
      | false =>
        rw [hf, iFT] at h1
        refine xOk.pos (by decide) ?_
        rw [nk_succ]
        exact ih2 () h1
      | true =>
        rw [hf, iTT] at h1
        refine xOk.neg (by decide) (xOk.pur ?_)
        rw [frst_some h1 (show 4 * e + t + 1 ≤ 4 * tn T by omega)]
        show 10 * Int32.ofNat e + Int32.ofNat t = Int32.ofNat (10 * ((4 * e + t) / 4) + (4 * e + t) % 4)
        rw [nl10, nk_mul, nk_add, show (4 * e + t) / 4 = e by omega, show (4 * e + t) % 4 = t by omega]
    · intro m c hc
      show xOk (f_Table_firstSpareFor_12 F S I _ (m + 1) _ _ _) _
      rw [f_Table_firstSpareFor_12]
      refine xOk.pos (by decide) ?_
      rw [nk_succ]
      exact ih () hc
  · intro n c hc
    show xOk (f_Table_firstSpareFor_2 F S I (n + 1) _ _) _
    rw [f_Table_firstSpareFor_2, hT.2.2.1]
    refine xOk.pos (Int32.le_refl _) (xOk.pur ?_)
    rw [hc]
    rfl
def qSpares (T : XT) (x y w : Int32) : Int32 := if inC T x y = true ∧ isH T (6 * xN y + xN x) = true ∧ rng w 0 1 = true then (if w = 0 then Int32.ofNat (cnt (fk T (6 * xN y + xN x)) (4 * tn T)) else foi (frst (fk T (6 * xN y + xN x)) (4 * tn T))) else -1
theorem rng_lo {a hi : Int32} (h : a < 0) : rng a 0 hi = false := by
  unfold rng
  rw [decide_eq_false (Int32.not_le.mpr h)]
  rfl
theorem rng_hi {a hi : Int32} (h : ¬ a ≤ hi) : rng a 0 hi = false := by
  unfold rng
  rw [decide_eq_false h, Bool.and_false]
theorem rng_in {a hi : Int32} (h1 : ¬ a < 0) (h2 : a ≤ hi) : rng a 0 hi = true := by
  unfold rng
  rw [decide_eq_true (Int32.not_lt.mp h1), decide_eq_true h2]
  rfl
theorem h_spares {F : Nat} (hF : 4000000 ≤ F) {lv : Nat} {T : XT} {W : Nat → Int32} {I : XI} (hC : core lv T W I) {x y w : Int32} : f_H_spares F I x y w = some (qSpares T x y w) := by
  obtain ⟨⟨hO, -, -⟩, ⟨hT, hM⟩, ⟨h4, hW, h6⟩, -, -⟩ := hC
  unfold f_H_spares qSpares
  rcases cellCases hO x y with hc | ⟨a, ha, hi, hc, rfl, rfl⟩
  · rw [c_holeAt_out hT hO hc, hc, if_neg (show ¬ (false = true ∧ _) by intro h; cases h.1)]
    rfl
  · rw [c_holeAt_in hT hO ha hi, hc, cell_N ha, Option.bind_some]
    cases hh : isH T a with
    | false =>
      rw [iFT, iM1, if_neg (show ¬ (true = true ∧ false = true ∧ _) by intro h; cases h.2.1)]
    | true =>
      rw [iTT, if_neg (oi_nm1 ha)]
      by_cases h1 : w < 0
      · rw [if_pos h1, rng_lo h1, if_neg (show ¬ (true = true ∧ true = true ∧ false = true) by decide)]
      · rw [if_neg h1]
        by_cases h2 : w ≤ 1
        · rw [if_pos h2, rng_in h1 h2, if_pos (show true = true ∧ true = true ∧ true = true from ⟨rfl, rfl, rfl⟩)]
          by_cases h3 : w = 0
          · rw [if_pos h3, if_pos h3, c_sparesFor hF hT hO ha hi]
            rfl
          · rw [if_neg h3, if_neg h3, c_firstSpareFor hF hT hO ha hi]
            rfl
        · rw [if_neg h2, rng_hi h2, if_neg (show ¬ (true = true ∧ true = true ∧ false = true) by decide)]
theorem m_spares {F : Nat} (hF : 4000000 ≤ F) {lv : Nat} {T : XT} {W : Nat → Int32} {I : XI} (hC : core lv T W I) {x y w : Int32} : f_M_spares F I x y w = some (qSpares T x y w) := by
  obtain ⟨⟨hO, -, -⟩, ⟨hT, hM⟩, ⟨h4, hW, h6⟩, -, -⟩ := hC
  have o3 := hO.2.2
  have hl := hM.1.1
  unfold f_M_spares qSpares
  rw [m_isCell hM]
  rcases cellCases hO x y with hc | ⟨a, ha, hi, hc, rfl, rfl⟩
  · rw [hc, if_neg (show ¬ (false = true ∧ _) by intro h; cases h.1)]
    rfl
  · rw [hc, cell_N ha, cell_ix, Option.bind_some, if_neg (by decide), m_isHole hM ha hi, Option.bind_some, m_in]
    cases hh : isH T a with
    | false =>
      rw [if_pos (by decide), if_neg (show ¬ (true = true ∧ false = true ∧ _) by intro h; cases h.2.1)]
    | true =>
      rw [if_neg (by decide), Option.bind_some]
      have hr : (decide (0 ≤ w) && decide (w ≤ 1)) = rng w 0 1 := rfl
      rw [hr]
      cases h1 : rng w 0 1 with
      | false =>
        rw [if_pos (by decide), if_neg (show ¬ (true = true ∧ true = true ∧ false = true) by decide)]
      | true =>
        rw [if_neg (by decide), if_pos (show true = true ∧ true = true ∧ true = true from ⟨rfl, rfl, rfl⟩)]
        refine xOk.eq (xloop (4 * tn T) (fun n (s : Nat × Option Nat) k => f_M_spares_43 F I n (Int32.ofNat (a % 6)) (Int32.ofNat (a / 6)) w (Int32.ofNat s.1) (foi s.2) (Int32.ofNat k)) (fun k s => s.1 = cnt (fk T a) k ∧ s.2 = frst (fk T a) k) ?_ ?_ F (0, none) 0 (by omega) (by omega) ⟨rfl, rfl⟩)
        · intro n s k hk hs ih
          obtain ⟨c, f⟩ := s
          obtain ⟨rfl, rfl⟩ := hs
          show xOk (f_M_spares_43 F I (n + 1) _ _ _ _ _ _) _
          rw [f_M_spares_43, hM.1.2, nk_in hM.1.1 (by omega), nk_N (show lv < 2147483648 by omega), hM.2.1.2.2, nl4, nk_mul]
          refine xOk.ck rfl (xOk.neg (nk_nge hk (by omega)) ?_)
          simp (disch := omega) only [nk_div, nk_mul, nk_sub, nk_md]
          rw [cell_ix]
          refine xOk.bnde (m_wouldFit hF hM hO ha hi (show k / 4 < tn T by omega) (show k % 4 < 4 by omega)) ?_
          have ih2 := ih (cnt (fk T a) (k + 1), frst (fk T a) (k + 1)) ⟨rfl, rfl⟩
          have ef : fh T a (k / 4) (k % 4) = fk T a k := rfl
          rw [ef]
          simp only [cnt_succ] at ih2
          rw [nk_succ]
          cases hf : frst (fk T a) k with
          | none =>
            rw [frst_none_succ hf] at ih2
            cases hk2 : fk T a k with
            | false =>
              rw [hk2] at ih2
              exact xOk.pos (by decide) ih2
            | true =>
              rw [hk2] at ih2
              refine xOk.neg (by decide) (xOk.neg (by decide) ?_)
              rw [nk_succ, nl10, nk_mul, nk_add]
              exact ih2
          | some j =>
            rw [frst_some hf (Nat.le_succ k)] at ih2
            have hj := frst_lt hf
            cases hk2 : fk T a k with
            | false =>
              rw [hk2] at ih2
              exact xOk.pos (by decide) ih2
            | true =>
              rw [hk2] at ih2
              refine xOk.neg (by decide) (xOk.pos (nk_le_t (Nat.zero_le _) (by omega)) ?_)
              rw [nk_succ]
              exact ih2
        · intro n s hs
          obtain ⟨c, f⟩ := s
          obtain ⟨rfl, rfl⟩ := hs
          show xOk (f_M_spares_43 F I (n + 1) _ _ _ _ _ _) _
          rw [f_M_spares_43, hM.1.2, nk_in hM.1.1 (by omega), nk_N (show lv < 2147483648 by omega), hM.2.1.2.2, nl4, nk_mul]
          exact xOk.ck rfl (xOk.pos (Int32.le_refl _) (xOk.pur rfl))
def anyB (p : Nat → Bool) : Nat → Bool
  | 0 => false
  | n + 1 => anyB p n || p n
theorem anyB_true {p : Nat → Bool} {N k : Nat} (hk : k ≤ N) (h : anyB p k = true) : anyB p N = true := by
  induction hk with
  | refl => exact h
  | step _ ih =>
    unfold anyB
    rw [ih]
    rfl
def hom (T : XT) (e a : Nat) : Bool := (inT T a && isH T a) && anyB (fh T a e) 4
theorem c_homesOf {F : Nat} (hF : 4000000 ≤ F) {S : Nat} {T : XT} {I : XI} (hT : tbC S T I) (hO : tOk T) {e : Nat} (he : e < tn T) : f_Table_homesOf F S I (Int32.ofNat e) = some (Int32.ofNat (cnt (hom T e) 30)) := by
  unfold f_Table_homesOf
  refine xOk.eq (xloop 30 (fun n (c : Nat) a => f_Table_homesOf_4 F S I n (Int32.ofNat e) (Int32.ofNat c) (Int32.ofNat a)) (fun a c => c = cnt (hom T e) a) ?_ ?_ F 0 0 (by omega) (by omega) rfl)
  · intro n c a ha hc ih
    subst hc
    show xOk (f_Table_homesOf_4 F S I (n + 1) _ _ _) _
    rw [f_Table_homesOf_4]
    refine xOk.neg (nk_nge ha (by decide)) ?_
    have ih2 := ih _ rfl
    rw [cnt_succ] at ih2
    have fin : ∀ b : Bool, b = hom T e a → xOk (f_Table_homesOf_59 F S I (fun v1 v2 v3 => f_Table_homesOf_4 F S I n v1 v2 v3) (Int32.ofNat e) (Int32.ofNat (cnt (hom T e) a)) (Int32.ofNat a) (b2 b)) (fun r => r = Int32.ofNat (cnt (hom T e) 30)) := by
      intro b hb
      unfold f_Table_homesOf_59
      rw [b2_add, nk_succ, hb]
      exact ih2
    refine xloop 4 (fun m (b : Bool) t => f_Table_homesOf_16 F S I (fun v1 v2 v3 => f_Table_homesOf_4 F S I n v1 v2 v3) m (Int32.ofNat e) (Int32.ofNat (cnt (hom T e) a)) (Int32.ofNat a) (b2 b) (Int32.ofNat t)) (fun t b => b = ((inT T a && isH T a) && anyB (fh T a e) t)) ?_ ?_ F false 0 (by omega) (by omega) (by simp [anyB])
    · intro m b t ht hb ih3
      show xOk (f_Table_homesOf_16 F S I _ (m + 1) _ _ _ _ _) _
      rw [f_Table_homesOf_16]
      refine xOk.neg (nk_nge ht (by decide)) ?_
      cases b with
      | true =>
        refine xOk.neg (by decide) (fin true ?_)
        have h2 := hb.symm
        rw [Bool.and_eq_true] at h2
        unfold hom
        rw [h2.1, anyB_true (Nat.le_of_lt ht) h2.2]
        rfl
      | false =>
        refine xOk.pos rfl ?_
        refine xOk.bnde (c_isHole hT hO ha) ?_
        have ih4 := ih3 _ rfl
        unfold anyB at ih4
        rw [Bool.and_or_distrib_left, ← hb, Bool.false_or] at ih4
        rw [nk_succ]
        cases hq : inT T a && isH T a with
        | false =>
          rw [hq] at ih4
          exact xOk.pos rfl ih4
        | true =>
          rw [hq] at ih4
          refine xOk.neg (by decide) ?_
          rw [Bool.and_eq_true] at hq
          refine xOk.bnde (c_fitsHole hF hT hO ha hq.1 he ht) ?_
          rw [b2_norm]
          exact ih4
    · intro m b hb
      show xOk (f_Table_homesOf_16 F S I _ (m + 1) _ _ _ _ _) _
      rw [f_Table_homesOf_16]
      exact xOk.pos (by decide) (fin b hb)
  · intro n c hc
    subst hc
    show xOk (f_Table_homesOf_4 F S I (n + 1) _ _ _) _
    rw [f_Table_homesOf_4]
    exact xOk.pos (by decide) (xOk.pur rfl)
def qHomes (T : XT) (e : Int32) : Int32 := if spB T e = true then Int32.ofNat (cnt (hom T (xN e)) 30) else -1
theorem h_homes {F : Nat} (hF : 4000000 ≤ F) {lv : Nat} {T : XT} {W : Nat → Int32} {I : XI} (hC : core lv T W I) {e : Int32} : f_H_homes F I e = some (qHomes T e) := by
  obtain ⟨⟨hO, -, -⟩, ⟨hT, hM⟩, ⟨h4, hW, h6⟩, -, -⟩ := hC
  have o3 := hO.2.2
  unfold f_H_homes qHomes
  rw [c_hasSpare hT hO, Option.bind_some]
  cases h1 : spB T e with
  | false => rfl
  | true =>
    obtain ⟨k, hk, rfl⟩ := spB_ex hO h1
    rw [if_neg (by decide), iTT, c_homesOf hF hT hO hk, nk_N (by omega)]
    rfl
theorem m_homes {F : Nat} (hF : 4000000 ≤ F) {lv : Nat} {T : XT} {W : Nat → Int32} {I : XI} (hC : core lv T W I) {e : Int32} : f_M_homes F I e = some (qHomes T e) := by
  obtain ⟨⟨hO, -, -⟩, ⟨hT, hM⟩, ⟨h4, hW, h6⟩, -, -⟩ := hC
  have o3 := hO.2.2
  unfold f_M_homes qHomes
  rw [m_isSpare hM, Option.bind_some]
  cases h1 : spB T e with
  | false => rfl
  | true =>
    obtain ⟨e, he, rfl⟩ := spB_ex hO h1
    rw [if_neg (by decide), iTT, nk_N (by omega)]
    refine xOk.eq (xloop 30 (fun n (c : Nat) a => f_M_homes_14 F I n (Int32.ofNat e) (Int32.ofNat c) (Int32.ofNat a)) (fun a c => c = cnt (hom T e) a) ?_ ?_ F 0 0 (by omega) (by omega) rfl)
    · intro n c a ha hc ih
      subst hc
      show xOk (f_M_homes_14 F I (n + 1) _ _ _) _
      rw [f_M_homes_14]
      refine xOk.neg (nk_nge ha (by decide)) ?_
      have ih2 := ih _ rfl
      rw [cnt_succ] at ih2
      unfold hom at ih2
      refine xOk.bnde (m_isThere hM hO ha) ?_
      rw [nk_succ]
      cases hi : inT T a with
      | false =>
        rw [hi] at ih2
        exact xOk.pos rfl ih2
      | true =>
        refine xOk.neg (by decide) ?_
        refine xOk.bnde (m_isHole hM ha hi) ?_
        cases hh : isH T a with
        | false =>
          rw [hi, hh] at ih2
          exact xOk.pos rfl ih2
        | true =>
          refine xOk.neg (by decide) ?_
          rw [hi, hh] at ih2
          refine xloop 4 (fun m (b : Bool) t => f_M_homes_45 F I (fun v1 v2 v3 => f_M_homes_14 F I n v1 v2 v3) m (Int32.ofNat e) (Int32.ofNat (cnt (hom T e) a)) (Int32.ofNat a) (b2 b) (Int32.ofNat t)) (fun t b => b = anyB (fh T a e) t) ?_ ?_ F false 0 (by omega) (by omega) rfl
          · intro m b t ht hb ih3
            subst hb
            show xOk (f_M_homes_45 F I _ (m + 1) _ _ _ _ _) _
            rw [f_M_homes_45]
            refine xOk.neg (nk_nge ht (by decide)) ?_
            refine xOk.bnde (m_wouldFit hF hM hO ha hi he ht) ?_
            have ih4 := ih3 _ rfl
            unfold anyB at ih4
            rw [nk_succ]
            cases hq : fh T a e t with
            | false =>
              rw [hq, Bool.or_false] at ih4
              rw [if_pos (by decide)]
              exact ih4
            | true =>
              rw [hq, Bool.or_true] at ih4
              rw [if_neg (by decide)]
              exact ih4
          · intro m b hb
            subst hb
            show xOk (f_M_homes_45 F I _ (m + 1) _ _ _ _ _) _
            rw [f_M_homes_45]
            refine xOk.pos (by decide) ?_
            rw [b2_inc, nk_succ]
            exact ih2
    · intro n c hc
      subst hc
      show xOk (f_M_homes_14 F I (n + 1) _ _ _) _
      rw [f_M_homes_14]
      exact xOk.pos (by decide) (xOk.pur rfl)
/-! free -/
def frB (T : XT) (W : Nat → Int32) (a : Nat) : Bool := isP T a && (!lie W a && decide (orF (clp T W (-1) a) 4 = 0))
theorem h_free {F : Nat} (hF : 4000000 ≤ F) {lv : Nat} {T : XT} {W : Nat → Int32} {I : XI} (hC : core lv T W I) : f_H_free F I = some (Int32.ofNat (cnt (frB T W) 30)) := by
  obtain ⟨⟨hO, -, -⟩, ⟨hT, hM⟩, ⟨h4, hW, h6⟩, -, -⟩ := hC
  unfold f_H_free
  refine xOk.eq (xloop 30 (fun n (c : Nat) a => f_H_free_4 F I n (Int32.ofNat c) (Int32.ofNat a)) (fun a c => c = cnt (frB T W) a) ?_ ?_ F 0 0 (by omega) (by omega) rfl)
  · intro n c a ha hc ih
    subst hc
    show xOk (f_H_free_4 F I (n + 1) _ _) _
    rw [f_H_free_4]
    refine xOk.neg (nk_nge ha (by decide)) ?_
    have ih2 := ih _ rfl
    rw [cnt_succ] at ih2
    unfold frB at ih2
    refine xOk.bnde (c_isPiece hT hO ha) ?_
    rw [nk_succ]
    cases hp : isP T a with
    | false =>
      rw [hp] at ih2
      exact xOk.pos rfl ih2
    | true =>
      refine xOk.neg (by decide) ?_
      refine xOk.bnde (c_lies ha) ?_
      rw [show I (26 + 1) = W from h4]
      cases hl : lie W a with
      | true =>
        rw [hp, hl] at ih2
        exact xOk.neg (by decide) ih2
      | false =>
        rw [hp, hl] at ih2
        refine xOk.pos rfl ?_
        refine xOk.bnde (c_clashes hF hT hO hW h4 (Or.inl (by decide)) ha) ?_
        by_cases h0 : orF (clp T W (-1) a) 4 = 0
        · rw [if_pos h0, nk_succ]
          rw [decide_eq_true h0] at ih2
          exact ih2
        · rw [if_neg h0]
          rw [decide_eq_false h0] at ih2
          exact ih2
  · intro n c hc
    subst hc
    show xOk (f_H_free_4 F I (n + 1) _ _) _
    rw [f_H_free_4]
    exact xOk.pos (by decide) (xOk.pur rfl)
/-- lying nowhere: its number is -2 -/
theorem lie_f {W : Nat → Int32} {a : Nat} (h : lie W a = false) : W a = -2 := by
  unfold lie at h
  by_cases e : W a = -2
  · exact e
  · rw [decide_eq_false e] at h; cases h
theorem m_canLay {F : Nat} (hF : 4000000 ≤ F) {lv : Nat} {T : XT} {W : Nat → Int32} {I : XI} (hM : tbM lv T I) (hO : tOk T) (hW : wfW T W) (hR : rowR W I) {a : Nat} (ha : a < 30) (hi : inT T a = true) : f_M_canLay F I (Int32.ofNat a) = some (b2 (frB T W a)) := by
  unfold f_M_canLay frB isP
  rw [m_isHole hM ha hi, Option.bind_some, hi]
  cases hh : isH T a with
  | true => rfl
  | false =>
    rw [if_pos (by decide), m_doesLie hO hW hR ha, Option.bind_some]
    cases hl : lie W a with
    | true => rfl
    | false =>
      rw [if_pos (by decide), m_clashBits hF hM hO hW hR ha hi (hasK_pc hO hW ha hh), Option.bind_some, b2_if, b2_nar, xckT, orF_congr (q := clp T W (-1) a) (fun k _ => clp_neg (by rw [lie_f hl]; decide) (by decide))]
      rfl
theorem m_free {F : Nat} (hF : 4000000 ≤ F) {lv : Nat} {T : XT} {W : Nat → Int32} {I : XI} (hC : core lv T W I) : xOk (f_M_free F I) (fun q => q.1 = Int32.ofNat (cnt (frB T W) 30) ∧ Same scM I q.2) := by
  have hC0 := hC
  obtain ⟨⟨hO, -, -⟩, ⟨hT, hM⟩, ⟨h4, hW, h6⟩, -, -⟩ := hC
  unfold f_M_free
  refine (m_copies hF hC0).bnd (fun J hJ => ?_)
  obtain ⟨hJ1, hJ2⟩ := hJ
  have hM' := tbM_X hM hJ1.MX
  refine xloop 30 (fun n (c : Nat) a => f_M_free_8 F n (Int32.ofNat c) (Int32.ofNat a) J) (fun a c => c = cnt (frB T W) a) ?_ ?_ F 0 0 (by omega) (by omega) rfl
  · intro n c a ha hc ih
    subst hc
    show xOk (f_M_free_8 F (n + 1) _ _ _) _
    rw [f_M_free_8]
    refine xOk.neg (nk_nge ha (by decide)) ?_
    have ih2 := ih _ rfl
    rw [cnt_succ] at ih2
    refine xOk.bnde (m_isThere hM' hO ha) ?_
    rw [nk_succ]
    cases hi : inT T a with
    | false =>
      unfold frB isP at ih2
      rw [hi] at ih2
      exact xOk.pos rfl ih2
    | true =>
      refine xOk.neg (by decide) ?_
      refine xOk.bnde (m_canLay hF hM' hO hW hJ2.1 ha hi) ?_
      rw [b2_inc]
      exact ih2
  · intro n c hc
    subst hc
    show xOk (f_M_free_8 F (n + 1) _ _ _) _
    rw [f_M_free_8]
    exact xOk.pos (by decide) (xOk.pur ⟨rfl, hJ1⟩)
/-! what lies of a land -/
theorem c_liesOf {S : Nat} {T : XT} {W : Nat → Int32} {I : XI} (hT : tbC 17 T I) (hI : I (S + 1) = W) {a : Nat} {l : Int32} (ha : a < 30) : f_Board_liesOf S I (Int32.ofNat a) l = some (b2 (lie W a && decide (tl T a = l))) := by
  unfold f_Board_liesOf
  rw [c_lies ha, hI, Option.bind_some]
  cases lie W a with
  | false => rfl
  | true =>
    rw [if_neg (by decide), nk_in ha (by omega), xckT, nk_N (by omega), b2_if, b2_nar, xckT, show I 18 = tl T from hT.2.2.2.1]
    rfl
def lo (T : XT) (W : Nat → Int32) (l : Int32) (a : Nat) : Bool := lie W a && (decide (l = -1) || decide (tl T a = l))
theorem lo_all {T : XT} {W : Nat → Int32} {a : Nat} : lo T W (-1) a = lie W a := by
  unfold lo
  rw [decide_eq_true (show (-1 : Int32) = -1 from rfl), Bool.true_or, Bool.and_true]
theorem lo_of {T : XT} {W : Nat → Int32} {l : Int32} (h : ¬ l = -1) {a : Nat} : lo T W l a = (lie W a && decide (tl T a = l)) := by
  unfold lo
  rw [decide_eq_false h, Bool.false_or]
theorem m_isOf {lv : Nat} {T : XT} {W : Nat → Int32} {I : XI} (hM : tbM lv T I) (hO : tOk T) (hW : wfW T W) (hR : rowR W I) {a : Nat} {l : Int32} (ha : a < 30) : f_M_isOf I (Int32.ofNat a) l = some (b2 (lo T W l a)) := by
  unfold f_M_isOf lo
  rw [m_isThere hM hO ha, Option.bind_some]
  cases hi : inT T a with
  | false =>
    rw [if_pos (by decide)]
    cases hl : lie W a with
    | false => rfl
    | true =>
      rw [lie_in hW ha hl] at hi
      cases hi
  | true =>
    rw [if_neg (by decide), m_doesLie hO hW hR ha, Option.bind_some]
    cases hl : lie W a with
    | false => rfl
    | true =>
      rw [if_neg (by decide), m_landAt hM ha hi, Option.bind_some, b2_if, b2_nar, xckT]
      by_cases h : l = -1
      · rw [if_pos h, decide_eq_true h]
        rfl
      · rw [if_neg h, decide_eq_false h]
        rfl
theorem c_sizeOf {F : Nat} (hF : 4000000 ≤ F) {S : Nat} {T : XT} {W : Nat → Int32} {I : XI} (hT : tbC 17 T I) (hI : I (S + 1) = W) {l : Int32} (hl : ¬ l = -1) : f_Board_sizeOf F S I l = some (Int32.ofNat (cnt (lo T W l) 30)) := by
  unfold f_Board_sizeOf
  refine xOk.eq (xloop 30 (fun n (c : Nat) a => f_Board_sizeOf_5 F S I n l (Int32.ofNat c) (Int32.ofNat a)) (fun a c => c = cnt (lo T W l) a) ?_ ?_ F 0 0 (by omega) (by omega) rfl)
  · intro n c a ha hc ih
    subst hc
    show xOk (f_Board_sizeOf_5 F S I (n + 1) _ _ _) _
    rw [f_Board_sizeOf_5]
    refine xOk.neg (nk_nge ha (by decide)) ?_
    refine xOk.bnde (c_liesOf hT hI ha) ?_
    rw [← lo_of hl, b2_add, nk_succ]
    exact ih _ rfl
  · intro n c hc
    subst hc
    show xOk (f_Board_sizeOf_5 F S I (n + 1) _ _ _) _
    rw [f_Board_sizeOf_5]
    exact xOk.pos (by decide) (xOk.pur rfl)
theorem m_liesOf {F : Nat} (hF : 4000000 ≤ F) {lv : Nat} {T : XT} {W : Nat → Int32} {I : XI} (hM : tbM lv T I) (hO : tOk T) (hW : wfW T W) (hR : rowR W I) {l : Int32} : f_M_liesOf F I l = some (Int32.ofNat (cnt (lo T W l) 30)) := by
  unfold f_M_liesOf
  refine xOk.eq (xloop 30 (fun n (c : Nat) a => f_M_liesOf_4 F I n l (Int32.ofNat c) (Int32.ofNat a)) (fun a c => c = cnt (lo T W l) a) ?_ ?_ F 0 0 (by omega) (by omega) rfl)
  · intro n c a ha hc ih
    subst hc
    show xOk (f_M_liesOf_4 F I (n + 1) _ _ _) _
    rw [f_M_liesOf_4]
    refine xOk.neg (nk_nge ha (by decide)) ?_
    refine xOk.bnde (m_isOf hM hO hW hR ha) ?_
    rw [b2_inc, nk_succ]
    exact ih _ rfl
  · intro n c hc
    subst hc
    show xOk (f_M_liesOf_4 F I (n + 1) _ _ _) _
    rw [f_M_liesOf_4]
    exact xOk.pos (by decide) (xOk.pur rfl)
theorem c_lying {F : Nat} (hF : 4000000 ≤ F) {S : Nat} {I : XI} {W : Nat → Int32} (hI : I (S + 1) = W) : f_State_lying F S I = some (Int32.ofNat (cnt (lie W) 30)) := by
  unfold f_State_lying
  refine xOk.eq (xloop 30 (fun n (c : Nat) a => f_State_lying_4 F S I n (Int32.ofNat c) (Int32.ofNat a)) (fun a c => c = cnt (lie W) a) ?_ ?_ F 0 0 (by omega) (by omega) rfl)
  · intro n c a ha hc ih
    subst hc
    show xOk (f_State_lying_4 F S I (n + 1) _ _) _
    rw [f_State_lying_4]
    refine xOk.neg (nk_nge ha (by decide)) ?_
    refine xOk.bnde (c_lies ha) ?_
    rw [hI, b2_add, nk_succ]
    exact ih _ rfl
  · intro n c hc
    subst hc
    show xOk (f_State_lying_4 F S I (n + 1) _ _) _
    rw [f_State_lying_4]
    exact xOk.pos (by decide) (xOk.pur rfl)
theorem m_lying {F : Nat} (hF : 4000000 ≤ F) {lv : Nat} {T : XT} {W : Nat → Int32} {I : XI} (hM : tbM lv T I) (hO : tOk T) (hW : wfW T W) (hR : rowR W I) : f_M_liesOf F I (-1) = some (Int32.ofNat (cnt (lie W) 30)) := by
  rw [m_liesOf hF hM hO hW hR, cnt_congr (fun k _ => lo_all)]
/-! loose -/
def loB (T : XT) (W : Nat → Int32) (a : Nat) : Bool := lie W a && decide (cnt (lnk T W a) 4 = 0)
theorem nk_z {k : Nat} (h : k < 2147483648) : (Int32.ofNat k = 0) = (k = 0) := nk_eq h (by decide)
theorem h_loose {F : Nat} (hF : 4000000 ≤ F) {lv : Nat} {T : XT} {W : Nat → Int32} {I : XI} (hC : core lv T W I) : f_H_loose F I = some (Int32.ofNat (cnt (loB T W) 30)) := by
  obtain ⟨⟨hO, -, -⟩, ⟨hT, hM⟩, ⟨h4, hW, h6⟩, -, -⟩ := hC
  unfold f_H_loose
  refine xOk.eq (xloop 30 (fun n (c : Nat) a => f_H_loose_4 F I n (Int32.ofNat c) (Int32.ofNat a)) (fun a c => c = cnt (loB T W) a) ?_ ?_ F 0 0 (by omega) (by omega) rfl)
  · intro n c a ha hc ih
    subst hc
    show xOk (f_H_loose_4 F I (n + 1) _ _) _
    rw [f_H_loose_4]
    refine xOk.neg (nk_nge ha (by decide)) ?_
    have ih2 := ih _ rfl
    rw [cnt_succ] at ih2
    unfold loB at ih2
    refine xOk.bnde (c_lies ha) ?_
    rw [show I (26 + 1) = W from h4, nk_succ]
    cases hl : lie W a with
    | false =>
      rw [hl] at ih2
      exact xOk.pos rfl ih2
    | true =>
      rw [hl] at ih2
      refine xOk.neg (by decide) ?_
      refine xOk.bnde (c_friends hF hT hO hW h4 ha) ?_
      have := cnt_le (lnk T W a) 4
      by_cases h0 : cnt (lnk T W a) 4 = 0
      · rw [h0, if_pos (by decide), nk_succ]
        rw [decide_eq_true h0] at ih2
        exact ih2
      · rw [if_neg (by rw [nk_z (by omega)]; exact h0)]
        rw [decide_eq_false h0] at ih2
        exact ih2
  · intro n c hc
    subst hc
    show xOk (f_H_loose_4 F I (n + 1) _ _) _
    rw [f_H_loose_4]
    exact xOk.pos (by decide) (xOk.pur rfl)
theorem m_loose {F : Nat} (hF : 4000000 ≤ F) {lv : Nat} {T : XT} {W : Nat → Int32} {I : XI} (hC : core lv T W I) : xOk (f_M_loose F I) (fun q => q.1 = Int32.ofNat (cnt (loB T W) 30) ∧ Same scM I q.2) := by
  have hC0 := hC
  obtain ⟨⟨hO, -, -⟩, ⟨hT, hM⟩, ⟨h4, hW, h6⟩, -, -⟩ := hC
  unfold f_M_loose
  refine (m_copies hF hC0).bnd (fun J hJ => ?_)
  obtain ⟨hJ1, hJ2⟩ := hJ
  have hM' := tbM_X hM hJ1.MX
  refine xloop 30 (fun n (c : Nat) a => f_M_loose_8 F n (Int32.ofNat c) (Int32.ofNat a) J) (fun a c => c = cnt (loB T W) a) ?_ ?_ F 0 0 (by omega) (by omega) rfl
  · intro n c a ha hc ih
    subst hc
    show xOk (f_M_loose_8 F (n + 1) _ _ _) _
    rw [f_M_loose_8]
    refine xOk.neg (nk_nge ha (by decide)) ?_
    have ih2 := ih _ rfl
    rw [cnt_succ] at ih2
    unfold loB at ih2
    refine xOk.bnde (m_isOf hM' hO hW hJ2.1 ha) ?_
    rw [lo_all, nk_succ]
    cases hl : lie W a with
    | false =>
      rw [hl] at ih2
      exact xOk.pos rfl ih2
    | true =>
      rw [hl] at ih2
      refine xOk.neg (by decide) ?_
      refine xOk.bnde (m_fitsNext hF hM' hO hW hJ2.1 ha (lie_in hW ha hl)) ?_
      have := cnt_le (lnk T W a) 4
      by_cases h0 : cnt (lnk T W a) 4 = 0
      · rw [h0, if_pos (by decide), nk_succ]
        rw [decide_eq_true h0] at ih2
        exact ih2
      · rw [if_neg (by rw [nk_z (by omega)]; exact h0)]
        rw [decide_eq_false h0] at ih2
        exact ih2
  · intro n c hc
    subst hc
    show xOk (f_M_loose_8 F (n + 1) _ _ _) _
    rw [f_M_loose_8]
    exact xOk.pos (by decide) (xOk.pur ⟨rfl, hJ1⟩)
