/-! questions of the board: clash, called, spares, homes, free, border, loose -/
theorem iTT {α : Type} {x y : α} : (if true = true then x else y) = x := if_pos rfl
theorem iFT {α : Type} {x y : α} : (if false = true then x else y) = y := if_neg (by decide)
theorem iTF {α : Type} {x y : α} : (if true = false then x else y) = y := if_neg (by decide)
theorem iFF {α : Type} {x y : α} : (if false = false then x else y) = x := if_pos rfl
theorem iM1 {α : Type} {x y : α} : (if (-1 : Int32) = -1 then x else y) = x := if_pos rfl
def orF (p : Nat → Bool) : Nat → Int32
  | 0 => 0
  | n + 1 => if p n = true then orF p n ||| (1 <<< (Int32.ofNat n &&& 31)) else orF p n
theorem orF_congr {p q : Nat → Bool} {N : Nat} (h : ∀ k, k < N → p k = q k) : orF p N = orF q N := by
  induction N with
  | zero => rfl
  | succ n ih =>
    unfold orF
    rw [ih (fun k hk => h k (by omega)), h n (by omega)]
def allB (p : Nat → Bool) : Nat → Bool
  | 0 => true
  | n + 1 => allB p n && p n
theorem allB_iff {p : Nat → Bool} {N : Nat} : allB p N = true ↔ ∀ k, k < N → p k = true := by
  induction N with
  | zero => exact ⟨fun _ k hk => absurd hk (by omega), fun _ => rfl⟩
  | succ n ih =>
    unfold allB
    rw [Bool.and_eq_true, ih]
    constructor
    · intro h k hk
      by_cases e : k = n
      · rw [e]; exact h.2
      · exact h.1 k (by omega)
    · intro h
      exact ⟨fun k hk => h k (by omega), h n (by omega)⟩
theorem allB_false {p : Nat → Bool} {N k : Nat} (hk : k ≤ N) (h : allB p k = false) : allB p N = false := by
  cases e : allB p N with
  | false => rfl
  | true =>
    have := allB_iff.mp e
    have h2 : allB p k = true := allB_iff.mpr (fun j hj => this j (by omega))
    rw [h2] at h
    cases h
def frst (p : Nat → Bool) : Nat → Option Nat
  | 0 => none
  | n + 1 => match frst p n with
    | some k => some k
    | none => if p n = true then some n else none
theorem frst_some {p : Nat → Bool} {N k j : Nat} (h : frst p k = some j) (hk : k ≤ N) : frst p N = some j := by
  induction hk with
  | refl => exact h
  | step _ ih =>
    unfold frst
    rw [ih]
theorem frst_lt {p : Nat → Bool} {N j : Nat} (h : frst p N = some j) : j < N := by
  induction N with
  | zero => cases h
  | succ n ih =>
    unfold frst at h
    split at h
    · rename_i k hk
      cases h
      have := ih hk
      omega
    · split at h
      · cases h; omega
      · cases h
/-- the sides over which what stands in a would not fit what lies there -/
def clp (T : XT) (W : Nat → Int32) (v : Int32) (a s : Nat) : Bool := match nb T a s with
  | none => false
  | some b => lie W b && !decide (knw T v a s + knw T (W b) b (opp s) = 0)
theorem c_clashes {F : Nat} (hF : 4000000 ≤ F) {T : XT} {W : Nat → Int32} {I : XI} {S : Nat} (hT : tbC 17 T I) (hO : tOk T) (hW : wfW T W) (hI : I (S + 1) = W) {v : Int32} (hv : v < 0 ∨ prs T v) {a : Nat} (ha : a < 30) : f_Board_clashes F S I (Int32.ofNat a) v = some (orF (clp T W v a) 4) := by
  unfold f_Board_clashes
  refine xOk.eq (xloop 4 (fun n (c : Int32) k => f_Board_clashes_6 F S I n (Int32.ofNat a) v c (Int32.ofNat k)) (fun k c => c = orF (clp T W v a) k) ?_ ?_ F 0 0 (by omega) (by omega) rfl)
  · intro n c k hk hc ih
    subst hc
    show xOk (f_Board_clashes_6 F S I (n + 1) _ _ _ _) _
    rw [f_Board_clashes_6]
    refine xOk.neg (nk_nge hk (by decide)) ?_
    refine xOk.bnde (c_beside hT hO ha k hk) ?_
    have ih2 := ih _ rfl
    unfold orF clp at ih2
    rw [nk_succ]
    cases hn : nb T a k with
    | none =>
      rw [hn] at ih2
      exact xOk.pos rfl ih2
    | some b =>
      rw [hn] at ih2
      have hb := nb_lt hO ha k hk b hn
      simp only [oi]
      refine xOk.neg (oi_nm1 hb) ?_
      refine xOk.bnde (c_lies hb) ?_
      rw [hI]
      cases hl : lie W b with
      | false =>
        simp only [hl, Bool.false_and] at ih2
        exact xOk.pos rfl ih2
      | true =>
        refine xOk.neg (by decide) ?_
        refine xOk.bnde (c_knobOf hT hO hv ha hk) ?_
        refine xOk.ck (nk_in hb (by omega)) ?_
        refine xOk.bnde (c_opp hk) ?_
        rw [nk_N (by omega)]
        refine xOk.bnde (c_knobOf hT hO (wf_kn hW hb) hb opp_lt) ?_
        simp only [hl, Bool.true_and] at ih2
        by_cases h0 : knw T v a k + knw T (W b) b (opp k) = 0
        · rw [if_pos h0]
          rw [decide_eq_true h0] at ih2
          exact ih2
        · rw [if_neg h0]
          rw [decide_eq_false h0] at ih2
          exact ih2
  · intro n c hc
    subst hc
    show xOk (f_Board_clashes_6 F S I (n + 1) _ _ _ _) _
    rw [f_Board_clashes_6]
    exact xOk.pos (by decide) (xOk.pur rfl)
theorem m_clashBits {F : Nat} (hF : 4000000 ≤ F) {lv : Nat} {T : XT} {W : Nat → Int32} {I : XI} (hM : tbM lv T I) (hO : tOk T) (hW : wfW T W) (hR : rowR W I) {a : Nat} (ha : a < 30) (hi : inT T a = true) (hk : hasK T W a) : f_M_clashBits F I (Int32.ofNat a) = some (orF (clp T W (W a) a) 4) := by
  unfold f_M_clashBits
  refine xOk.eq (xloop 4 (fun n (c : Int32) k => f_M_clashBits_4 F I n (Int32.ofNat a) c (Int32.ofNat k)) (fun k c => c = orF (clp T W (W a) a) k) ?_ ?_ F 0 0 (by omega) (by omega) rfl)
  · intro n c k hk4 hc ih
    subst hc
    show xOk (f_M_clashBits_4 F I (n + 1) _ _ _) _
    rw [f_M_clashBits_4]
    refine xOk.neg (nk_nge hk4 (by decide)) ?_
    refine xOk.bnde (m_overTo hM hO ha hi k hk4) ?_
    have ih2 := ih _ rfl
    unfold orF clp at ih2
    rw [nk_succ]
    cases hn : nb T a k with
    | none =>
      rw [hn] at ih2
      exact xOk.pos (by decide) ih2
    | some b =>
      rw [hn] at ih2
      have hb := nb_lt hO ha k hk4 b hn
      simp only [oi]
      refine xOk.neg (nk_nlt0 (by omega)) ?_
      refine xOk.bnde (m_doesLie hO hW hR hb) ?_
      cases hl : lie W b with
      | false =>
        simp only [hl, Bool.false_and] at ih2
        exact xOk.pos rfl ih2
      | true =>
        refine xOk.neg (by decide) ?_
        refine xOk.bnde (m_doFit hM hO hR ha hi hk (hasK_lie hO hW hb hl) hk4 hn) ?_
        simp only [hl, Bool.true_and] at ih2
        unfold fit
        by_cases h0 : knw T (W a) a k + knw T (W b) b (opp k) = 0
        · rw [decide_eq_true h0, if_neg (by decide)]
          rw [decide_eq_true h0] at ih2
          exact ih2
        · rw [decide_eq_false h0, if_pos (by decide)]
          rw [decide_eq_false h0] at ih2
          exact ih2
  · intro n c hc
    subst hc
    show xOk (f_M_clashBits_4 F I (n + 1) _ _ _) _
    rw [f_M_clashBits_4]
    exact xOk.pos (by decide) (xOk.pur rfl)
theorem knw_neg {T : XT} {v w : Int32} {a s : Nat} (hv : v < 0) (hw : w < 0) : knw T v a s = knw T w a s := by
  unfold knw
  rw [if_pos hv, if_pos hw]
theorem clp_neg {T : XT} {W : Nat → Int32} {v w : Int32} {a s : Nat} (hv : v < 0) (hw : w < 0) : clp T W v a s = clp T W w a s := by
  unfold clp
  rw [knw_neg (T := T) (a := a) (s := s) hv hw]
/-! clash -/
def qClash (T : XT) (W : Nat → Int32) (x y : Int32) : Int32 := if inC T x y = true then (if hkB T W (6 * xN y + xN x) = true then orF (clp T W (W (6 * xN y + xN x)) (6 * xN y + xN x)) 4 else -1) else -1
theorem h_clash {F : Nat} (hF : 4000000 ≤ F) {lv : Nat} {T : XT} {W : Nat → Int32} {I : XI} (hC : core lv T W I) {x y : Int32} : f_H_clash F I x y = some (qClash T W x y) := by
  obtain ⟨⟨hO, -, -⟩, ⟨hT, hM⟩, ⟨h4, hW, h6⟩, -, -⟩ := hC
  unfold f_H_clash qClash
  rcases cellCases hO x y with hc | ⟨a, ha, hi, hc, rfl, rfl⟩
  · rw [c_cellAt_out hT hO hc, hc]
    rfl
  · rw [c_cellAt_in hT hO ha hi, hc, cell_N ha]
    simp only [Option.bind_some]
    rw [if_neg (oi_nm1 ha), c_hasKnobs hT hO hW h4 ha hi, if_pos (by decide)]
    simp only [Option.bind_some, b2_z]
    cases hh : hkB T W a with
    | false => rfl
    | true =>
      rw [if_neg (by decide), if_pos (by decide), nk_in ha (by omega), xckT, nk_N (by omega), show I 27 = W from h4, c_clashes hF hT hO hW h4 (wf_kn hW ha) ha]
      rfl
theorem m_clash {F : Nat} (hF : 4000000 ≤ F) {lv : Nat} {T : XT} {W : Nat → Int32} {I : XI} (hC : core lv T W I) {x y : Int32} : xOk (f_M_clash F x y I) (fun q => q.1 = qClash T W x y ∧ Same scM I q.2) := by
  have hC0 := hC
  obtain ⟨⟨hO, -, -⟩, ⟨hT, hM⟩, ⟨h4, hW, h6⟩, -, -⟩ := hC
  unfold f_M_clash qClash
  refine xOk.bnde (m_isCell hM) ?_
  rcases cellCases hO x y with hc | ⟨a, ha, hi, hc, rfl, rfl⟩
  · rw [hc]
    exact xOk.pos rfl (xOk.pur ⟨rfl, Same.rfl⟩)
  · rw [hc, cell_N ha, cell_ix]
    refine xOk.neg (by decide) ?_
    refine (m_copies hF hC0).bnd (fun J hJ => ?_)
    obtain ⟨hJ1, hJ2⟩ := hJ
    have hM' := tbM_X hM hJ1.MX
    refine xOk.bnde (m_hasKnobs hM' hO hW hJ2.1 ha hi) ?_
    rw [iTT]
    cases hh : hkB T W a with
    | false => exact xOk.pos rfl (xOk.pur ⟨rfl, hJ1⟩)
    | true =>
      refine xOk.neg (by decide) ?_
      refine xOk.bnde (m_clashBits hF hM' hO hW hJ2.1 ha hi (hkB_K hO hW ha hh)) ?_
      exact xOk.pur ⟨rfl, hJ1⟩
/-! called -/
def cal (T : XT) (a s : Nat) : Int32 := match nb T a s with
  | none => -100
  | some b => if isH T b = true then -100 else -(tk T (4 * b + opp s))
theorem c_calledOver {S : Nat} {T : XT} {I : XI} (hT : tbC S T I) (hO : tOk T) {a s : Nat} (ha : a < 30) (hi : inT T a = true) (hs : s < 4) : f_Table_calledOver S I (Int32.ofNat a) (Int32.ofNat s) = some (cal T a s) := by
  unfold f_Table_calledOver cal
  rw [c_beside hT hO ha s hs]
  cases hn : nb T a s with
  | none => rfl
  | some b =>
    have hb := nb_lt hO ha s hs b hn
    have hib := nb_in hO ha hi s hs b hn
    simp only [Option.bind_some, oi]
    rw [if_neg (oi_nm1 hb), c_isPiece hT hO hb, c_opp hs]
    simp only [Option.bind_some, b2_z]
    unfold isP
    rw [hib]
    cases isH T b with
    | true => rfl
    | false =>
      rw [if_neg (by decide), nl4]
      have := @opp_lt s
      simp (disch := omega) only [nk_mul, nk_add, nk_N, nk_in, xckT]
      rw [hT.2.2.2.2.1, Nat.mul_comm b 4]
      rfl
theorem m_knobP {lv : Nat} {T : XT} {I : XI} (hM : tbM lv T I) {a s : Nat} (ha : a < 30) (hi : inT T a = true) (hh : isH T a = false) (hs : s < 4) : f_M_knobOf I (Int32.ofNat a) (Int32.ofNat s) = some (tk T (4 * a + s)) := by
  unfold f_M_knobOf
  rw [m_isHole hM ha hi, hh]
  rw [Option.bind_some, if_pos (by decide), hM.1.2, nl120, nl4]
  have hl := hM.1.1
  simp (disch := omega) only [nk_mul, nk_add, nk_N, nk_in, xckT]
  rw [hM.2.2.2.1 a s ha hs]
theorem m_calledAt {lv : Nat} {T : XT} {I : XI} (hM : tbM lv T I) (hO : tOk T) {a s : Nat} (ha : a < 30) (hi : inT T a = true) (hs : s < 4) : f_M_calledAt I (Int32.ofNat a) (Int32.ofNat s) = some (cal T a s) := by
  unfold f_M_calledAt cal
  rw [m_overTo hM hO ha hi s hs]
  cases hn : nb T a s with
  | none => rfl
  | some b =>
    have hb := nb_lt hO ha s hs b hn
    have hib := nb_in hO ha hi s hs b hn
    simp only [Option.bind_some, oi]
    rw [if_neg (nk_nlt0 (by omega)), m_isHole hM hb hib]
    simp only [Option.bind_some, b2_z]
    cases hh : isH T b with
    | true => rfl
    | false =>
      rw [if_pos (by decide), m_opp hs, m_knobP hM hb hib hh opp_lt]
      rfl
def qCalled (T : XT) (x y s : Int32) : Int32 := if inC T x y = true ∧ rng s 0 3 = true ∧ isH T (6 * xN y + xN x) = true then cal T (6 * xN y + xN x) (xN s) else -100
theorem h_called {lv : Nat} {T : XT} {W : Nat → Int32} {I : XI} (hC : core lv T W I) {x y s : Int32} : f_H_called I x y s = some (qCalled T x y s) := by
  obtain ⟨⟨hO, -, -⟩, ⟨hT, hM⟩, ⟨h4, hW, h6⟩, -, -⟩ := hC
  unfold f_H_called qCalled
  rcases cellCases hO x y with hc | ⟨a, ha, hi, hc, rfl, rfl⟩
  · rw [c_holeAt_out hT hO hc, hc, if_neg (by intro h; cases h.1)]
    rfl
  · rw [c_holeAt_in hT hO ha hi, hc, cell_N ha, h_isSide]
    simp only [Option.bind_some, b2_z]
    cases hh : isH T a with
    | false =>
      rw [iFT, iM1, if_neg (by intro h; cases h.2.2)]
    | true =>
      rw [iTT, if_neg (oi_nm1 ha)]
      cases hs : rng s 0 3 with
      | false => rw [if_pos (by decide), if_neg (by intro h; cases h.2.1)]
      | true =>
        obtain ⟨k, hk, rfl⟩ := side_ex hs
        rw [if_neg (by decide), if_pos (by decide), c_calledOver hT hO ha hi hk, nk_N (by omega)]
        rfl
theorem m_called {lv : Nat} {T : XT} {W : Nat → Int32} {I : XI} (hC : core lv T W I) {x y s : Int32} : f_M_called I x y s = some (qCalled T x y s) := by
  obtain ⟨⟨hO, -, -⟩, ⟨hT, hM⟩, ⟨h4, hW, h6⟩, -, -⟩ := hC
  unfold f_M_called qCalled
  rw [m_isCell hM]
  rcases cellCases hO x y with hc | ⟨a, ha, hi, hc, rfl, rfl⟩
  · rw [hc, if_neg (by intro h; cases h.1)]
    rfl
  · rw [hc, cell_N ha, cell_ix, m_isSide]
    simp only [Option.bind_some, b2_z]
    rw [if_neg (by decide)]
    cases hs : rng s 0 3 with
    | false => rw [if_pos (by decide), if_neg (by intro h; cases h.2.1)]
    | true =>
      obtain ⟨k, hk, rfl⟩ := side_ex hs
      rw [if_neg (by decide), m_isHole hM ha hi]
      simp only [Option.bind_some, b2_z]
      cases hh : isH T a with
      | false => rw [if_pos (by decide), if_neg (by intro h; cases h.2.2)]
      | true =>
        rw [if_neg (by decide), if_pos (by decide), m_calledAt hM hO ha hi hk, nk_N (by omega)]
        rfl
/-! which spare fits a hole, how turned -/
def fhp (T : XT) (a e t s : Nat) : Bool := decide (cal T a s = -100) || decide (cal T a s = spk T e t s)
def fh (T : XT) (a e t : Nat) : Bool := allB (fhp T a e t) 4
theorem c_fitsHole {F : Nat} (hF : 4000000 ≤ F) {S : Nat} {T : XT} {I : XI} (hT : tbC S T I) (hO : tOk T) {a e t : Nat} (ha : a < 30) (hi : inT T a = true) (he : e < tn T) (ht : t < 4) : f_Table_fitsHole F S I (Int32.ofNat a) (Int32.ofNat e) (Int32.ofNat t) = some (b2 (fh T a e t)) := by
  unfold f_Table_fitsHole
  refine xOk.eq (xloop 4 (fun n (c : Bool) k => f_Table_fitsHole_6 F S I n (Int32.ofNat a) (Int32.ofNat e) (Int32.ofNat t) (b2 c) (Int32.ofNat k)) (fun k c => c = allB (fhp T a e t) k) ?_ ?_ F true 0 (by omega) (by omega) rfl)
  · intro n c k hk hc ih
    subst hc
    show xOk (f_Table_fitsHole_6 F S I (n + 1) _ _ _ _ _) _
    rw [f_Table_fitsHole_6]
    refine xOk.neg (nk_nge hk (by decide)) ?_
    cases hb : allB (fhp T a e t) k with
    | false =>
      refine xOk.pos rfl (xOk.ck rfl (xOk.pur ?_))
      unfold fh
      rw [allB_false (Nat.le_of_lt hk) hb]
    | true =>
      refine xOk.neg (by decide) ?_
      refine xOk.bnde (c_calledOver hT hO ha hi hk) ?_
      rw [nk_succ]
      have ih2 := ih _ rfl
      unfold allB fhp at ih2
      have hb' : allB (fun s => decide (cal T a s = -100) || decide (cal T a s = spk T e t s)) k = true := hb
      simp only [hb', Bool.true_and] at ih2
      by_cases h1 : cal T a k = -100
      · refine xOk.pos h1 ?_
        rw [decide_eq_true h1] at ih2
        exact ih2
      · refine xOk.neg h1 ?_
        refine xOk.bnde (c_spareKnob hT hO he ht hk) ?_
        rw [b2_if]
        rw [decide_eq_false h1] at ih2
        exact ih2
  · intro n c hc
    subst hc
    show xOk (f_Table_fitsHole_6 F S I (n + 1) _ _ _ _ _) _
    rw [f_Table_fitsHole_6]
    exact xOk.pos (by decide) (xOk.ck b2_nar (xOk.pur rfl))
theorem m_wouldFit {F : Nat} (hF : 4000000 ≤ F) {lv : Nat} {T : XT} {I : XI} (hM : tbM lv T I) (hO : tOk T) {a e t : Nat} (ha : a < 30) (hi : inT T a = true) (he : e < tn T) (ht : t < 4) : f_M_wouldFit F I (Int32.ofNat e) (Int32.ofNat t) (Int32.ofNat a) = some (b2 (fh T a e t)) := by
  unfold f_M_wouldFit
  refine xOk.eq (xloop 4 (fun n (_ : Unit) k => f_M_wouldFit_3 F I n (Int32.ofNat e) (Int32.ofNat t) (Int32.ofNat a) (Int32.ofNat k)) (fun k _ => allB (fhp T a e t) k = true) ?_ ?_ F () 0 (by omega) (by omega) rfl)
  · intro n c k hk hc ih
    show xOk (f_M_wouldFit_3 F I (n + 1) _ _ _ _) _
    rw [f_M_wouldFit_3]
    refine xOk.neg (nk_nge hk (by decide)) ?_
    refine xOk.bnde (m_calledAt hM hO ha hi hk) ?_
    rw [nk_succ]
    have ih2 := ih ()
    unfold allB at ih2
    rw [hc, Bool.true_and] at ih2
    have ef : fhp T a e t k = (decide (cal T a k = -100) || decide (cal T a k = spk T e t k)) := rfl
    by_cases h1 : cal T a k = -100
    · refine xOk.pos h1 (ih2 ?_)
      rw [ef, decide_eq_true h1]
      rfl
    · refine xOk.neg h1 ?_
      refine xOk.bnde (m_calledAt hM hO ha hi hk) ?_
      refine xOk.bnde (m_turned hM hO he ht hk) ?_
      by_cases h2 : cal T a k = spk T e t k
      · refine xOk.pos h2 (ih2 ?_)
        rw [ef, decide_eq_true h2, Bool.or_true]
      · refine xOk.neg h2 (xOk.pur ?_)
        unfold fh
        have hf : allB (fhp T a e t) (k + 1) = false := by
          unfold allB
          rw [hc, ef, decide_eq_false h1, decide_eq_false h2]
          rfl
        rw [allB_false (N := 4) (by omega) hf]
        rfl
  · intro n c hc
    show xOk (f_M_wouldFit_3 F I (n + 1) _ _ _ _) _
    rw [f_M_wouldFit_3]
    refine xOk.pos (by decide) (xOk.pur ?_)
    unfold fh
    rw [hc]
    rfl
