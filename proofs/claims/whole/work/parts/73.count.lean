/-! count -/
theorem mask_eq {m m' : Nat} (h1 : m < 1073741824) (h2 : m' < 1073741824) (h : ∀ e, e < 1000 → m.testBit e = m'.testBit e) : m = m' := by
  apply Nat.eq_of_testBit_eq
  intro i
  by_cases e : i < 1000
  · exact h i e
  · have h30 : 2 ^ 30 ≤ 2 ^ i := Nat.pow_le_pow_right (by omega) (by omega)
    rw [Nat.testBit_lt_two_pow (show m < 2 ^ i by omega), Nat.testBit_lt_two_pow (show m' < 2 ^ i by omega)]
theorem anyB_iff {p : Nat → Bool} {N : Nat} : anyB p N = true ↔ ∃ k, k < N ∧ p k = true := by
  induction N with
  | zero =>
    constructor
    · intro h; cases h
    · rintro ⟨k, hk, -⟩; omega
  | succ n ih =>
    show (anyB p n || p n) = true ↔ _
    rw [Bool.or_eq_true, ih]
    constructor
    · rintro (⟨k, h1, h2⟩ | h)
      · exact ⟨k, by omega, h2⟩
      · exact ⟨n, by omega, h⟩
    · rintro ⟨k, h1, h2⟩
      by_cases e : k = n
      · rw [e] at h2; exact Or.inr h2
      · exact Or.inl ⟨k, by omega, h2⟩
theorem prsd_lt {T : XT} {W : Nat → Int32} (hO : tOk T) (hW : wfW T W) {e : Nat} (he : e < 1000) (h : prsd W e = true) : e < tn T := by
  obtain ⟨a, ha, hp⟩ := anyB_iff.mp h
  rcases wf_kn hW ha with hn | ⟨e', t, h1, h2, h3⟩
  · unfold prE at hp
    rw [decide_eq_true hn] at hp
    cases hp
  · rw [prE_at hO h1 h2 h3 he] at hp
    have := of_decide_eq_true hp
    omega
/-- which spares are pressed, which lands lie (bits) -/
noncomputable def bitsOf (p : Nat → Bool) : Nat → Nat
  | 0 => 0
  | n + 1 => if p n = true then bitsOf p n ||| 2 ^ n else bitsOf p n
theorem bitsOf_tb {p : Nat → Bool} {N e : Nat} : (bitsOf p N).testBit e = (decide (e < N) && p e) := by
  induction N with
  | zero =>
    show (0 : Nat).testBit e = _
    rw [Nat.zero_testBit]
    simp
  | succ n ih =>
    unfold bitsOf
    cases hp : p n with
    | false =>
      rw [iFT, ih]
      by_cases e1 : e = n
      · subst e1
        rw [hp]; simp
      · rw [decide_eq_decide.mpr (show e < n ↔ e < n + 1 by omega)]
    | true =>
      rw [iTT, tb_set, ih]
      by_cases e1 : e = n
      · subst e1
        rw [hp]; simp
      · rw [decide_eq_decide.mpr (show e < n ↔ e < n + 1 by omega), decide_eq_false (show ¬ n = e from fun h => e1 h.symm), Bool.or_false]
theorem bitsOf_lt {p : Nat → Bool} {N : Nat} (h : N ≤ 30) : bitsOf p N < 1073741824 := by
  induction N with
  | zero => show 0 < _; omega
  | succ n ih =>
    unfold bitsOf
    split
    · exact or_lt30 (ih (by omega)) (by omega)
    · exact ih (by omega)
def ldL (T : XT) (W : Nat → Int32) (k : Nat) : Bool := anyB (fun a => lie W a && (!isH T a && decide (tl T a = Int32.ofNat k))) 30
theorem c_lyingLands {F : Nat} (hF : 4000000 ≤ F) {S : Nat} {T : XT} {W : Nat → Int32} {I : XI} (hT : tbC 17 T I) (hO : tOk T) (hL : tLd T) (hW : wfW T W) (hI : I (S + 1) = W) : f_Board_lyingLands F S I = some (Int32.ofNat (bitsOf (ldL T W) 5)) := by
  have hkey : xOk (f_Board_lyingLands F S I) (fun r => ∃ m, r = Int32.ofNat m ∧ m < 1073741824 ∧ ∀ e, e < 1000 → m.testBit e = ldL T W e) := by
    unfold f_Board_lyingLands
    refine xloop 30 (fun n (m : Nat) a => f_Board_lyingLands_4 F S I n (Int32.ofNat m) (Int32.ofNat a)) (fun a m => m < 1073741824 ∧ ∀ e, e < 1000 → m.testBit e = anyB (fun a => lie W a && (!isH T a && decide (tl T a = Int32.ofNat e))) a) ?_ ?_ F 0 0 (by omega) (by omega) ⟨by omega, fun e _ => Nat.zero_testBit e⟩
    · intro n m a ha hP ih
      obtain ⟨hm, hb⟩ := hP
      show xOk (f_Board_lyingLands_4 F S I (n + 1) _ _) _
      rw [f_Board_lyingLands_4]
      refine xOk.neg (nk_nge ha (by decide)) (xOk.bnde (c_lies ha) ?_)
      rw [hI, nk_succ]
      have eany : ∀ e, anyB (fun a => lie W a && (!isH T a && decide (tl T a = Int32.ofNat e))) (a + 1) = (anyB (fun a => lie W a && (!isH T a && decide (tl T a = Int32.ofNat e))) a || (lie W a && (!isH T a && decide (tl T a = Int32.ofNat e)))) := fun e => rfl
      cases hl : lie W a with
      | false =>
        refine xOk.pos rfl (ih m ⟨hm, fun e he => ?_⟩)
        rw [hb e he, eany, hl, Bool.false_and, Bool.or_false]
      | true =>
        refine xOk.neg (by decide) (xOk.ck (nk_in ha (by omega)) ?_)
        have hi := lie_in hW ha hl
        simp only [show xN (Int32.ofNat a) = a from nk_N (by omega), show I 18 = tl T from hT.2.2.2.1]
        cases hh : isH T a with
        | true =>
          refine xOk.pos (of_decide_eq_true hh) (ih m ⟨hm, fun e he => ?_⟩)
          rw [hb e he, eany, hh, Bool.not_true, Bool.false_and, Bool.and_false, Bool.or_false]
        | false =>
          obtain ⟨k, hk, hkt⟩ := hL a ha hi hh
          refine xOk.neg (of_decide_eq_false hh) (xOk.ck (nk_in ha (by omega)) ?_)
          rw [hkt, bit_set hm (by omega)]
          refine ih (m ||| 2 ^ k) ⟨or_lt30 hm (by omega), fun e he => ?_⟩
          rw [tb_set, hb e he, eany, hl, hh, hkt, Bool.true_and, Bool.not_false, Bool.true_and]
          rw [show decide (Int32.ofNat k = Int32.ofNat e) = decide (k = e) from decide_eq_decide.mpr (by rw [nk_eq (by omega) (by omega)])]
    · intro n m hP
      show xOk (f_Board_lyingLands_4 F S I (n + 1) _ _) _
      rw [f_Board_lyingLands_4]
      exact xOk.pos (by decide) (xOk.pur ⟨m, rfl, hP⟩)
  obtain ⟨r, hr, m, h1, h2, h3⟩ := hkey
  rw [hr, h1]
  congr 2
  refine mask_eq h2 (bitsOf_lt (by omega)) (fun e he => ?_)
  rw [h3 e he, bitsOf_tb]
  by_cases e5 : e < 5
  · rw [decide_eq_true e5, Bool.true_and]
  · rw [decide_eq_false e5, Bool.false_and]
    cases hq : ldL T W e with
    | false => rfl
    | true =>
      exfalso
      obtain ⟨a, ha, hp⟩ := anyB_iff.mp hq
      simp only [Bool.and_eq_true, Bool.not_eq_true', decide_eq_true_eq] at hp
      obtain ⟨p1, p2, p3⟩ := hp
      obtain ⟨k, hk, hkt⟩ := hL a ha (lie_in hW ha p1) p2
      rw [p3] at hkt
      have := nk_inj (by omega) (by omega) hkt
      omega
theorem ldL_lo {T : XT} {W : Nat → Int32} {k : Nat} (hk : k < 5) : ldL T W k = !decide (cnt (lo T W (Int32.ofNat k)) 30 = 0) := by
  by_cases h : cnt (lo T W (Int32.ofNat k)) 30 = 0
  · rw [decide_eq_true h]
    cases hq : ldL T W k with
    | false => rfl
    | true =>
      exfalso
      obtain ⟨a, ha, hp⟩ := anyB_iff.mp hq
      simp only [Bool.and_eq_true, Bool.not_eq_true', decide_eq_true_eq] at hp
      have := cnt_pos.mp h a ha
      rw [lo_of (by rw [nk_m1 (by omega)]; exact id), hp.1, decide_eq_true hp.2.2] at this
      cases this
  · rw [decide_eq_false h]
    cases hq : ldL T W k with
    | true => rfl
    | false =>
      exfalso
      apply h
      apply cnt_pos.mpr
      intro a ha
      cases hl : lo T W (Int32.ofNat k) a with
      | false => rfl
      | true =>
        exfalso
        rw [lo_of (by rw [nk_m1 (by omega)]; exact id), Bool.and_eq_true] at hl
        have ht := of_decide_eq_true hl.2
        have : ldL T W k = true := anyB_iff.mpr ⟨a, ha, by
          rw [hl.1, decide_eq_true ht]
          have : isH T a = false := by
            unfold isH
            rw [ht, nl9]
            exact decide_eq_false (by rw [nk_eq (by omega) (by omega)]; omega)
          rw [this]
          rfl⟩
        rw [hq] at this
        cases this
theorem pop3 : ∀ fl, fl < 8 → cnt fl.testBit 30 = (if fl.testBit 0 = true then 1 else 0) + (if fl.testBit 1 = true then 1 else 0) + (if fl.testBit 2 = true then 1 else 0) := by decide +kernel
def hoB (T : XT) (a : Nat) : Bool := inT T a && isH T a
theorem c_holes {F : Nat} (hF : 4000000 ≤ F) {T : XT} {I : XI} (hT : tbC 17 T I) (hO : tOk T) : f_Table_holes F 17 I = some (Int32.ofNat (cnt (hoB T) 30)) := by
  unfold f_Table_holes
  refine xOk.eq (xloop 30 (fun n (c : Nat) a => f_Table_holes_4 F 17 I n (Int32.ofNat c) (Int32.ofNat a)) (fun a c => c = cnt (hoB T) a) ?_ ?_ F 0 0 (by omega) (by omega) rfl)
  · intro n c a ha hc ih
    subst hc
    show xOk (f_Table_holes_4 F 17 I (n + 1) _ _) _
    rw [f_Table_holes_4]
    refine xOk.neg (nk_nge ha (by decide)) (xOk.bnde (c_isHole hT hO ha) ?_)
    rw [b2_inc, nk_succ]
    exact ih _ rfl
  · intro n c hc
    subst hc
    show xOk (f_Table_holes_4 F 17 I (n + 1) _ _) _
    rw [f_Table_holes_4]
    exact xOk.pos (by decide) (xOk.pur rfl)
def qC (w h n d l pd : Int32) (wet kb : Bool) (ho n9 n10 n11 pf tk pr ld : Int32) (j : Nat) : Int32 := match j with
  | 0 => w
  | 1 => h
  | 2 => n
  | 3 => d
  | 4 => l
  | 5 => pd
  | 6 => b2 wet
  | 7 => b2 kb
  | 8 => ho
  | 9 => n9
  | 10 => n10
  | 11 => n11
  | 12 => pf
  | 13 => tk
  | 14 => pr
  | _ => ld
theorem qC_0 {w h n d l pd : Int32} {wet kb : Bool} {ho n9 n10 n11 pf tk pr ld : Int32} : qC w h n d l pd wet kb ho n9 n10 n11 pf tk pr ld 0 = w := rfl
theorem qC_1 {w h n d l pd : Int32} {wet kb : Bool} {ho n9 n10 n11 pf tk pr ld : Int32} : qC w h n d l pd wet kb ho n9 n10 n11 pf tk pr ld 1 = h := rfl
theorem qC_2 {w h n d l pd : Int32} {wet kb : Bool} {ho n9 n10 n11 pf tk pr ld : Int32} : qC w h n d l pd wet kb ho n9 n10 n11 pf tk pr ld 2 = n := rfl
theorem qC_3 {w h n d l pd : Int32} {wet kb : Bool} {ho n9 n10 n11 pf tk pr ld : Int32} : qC w h n d l pd wet kb ho n9 n10 n11 pf tk pr ld 3 = d := rfl
theorem qC_4 {w h n d l pd : Int32} {wet kb : Bool} {ho n9 n10 n11 pf tk pr ld : Int32} : qC w h n d l pd wet kb ho n9 n10 n11 pf tk pr ld 4 = l := rfl
theorem qC_5 {w h n d l pd : Int32} {wet kb : Bool} {ho n9 n10 n11 pf tk pr ld : Int32} : qC w h n d l pd wet kb ho n9 n10 n11 pf tk pr ld 5 = pd := rfl
theorem qC_6 {w h n d l pd : Int32} {wet kb : Bool} {ho n9 n10 n11 pf tk pr ld : Int32} : qC w h n d l pd wet kb ho n9 n10 n11 pf tk pr ld 6 = b2 wet := rfl
theorem qC_7 {w h n d l pd : Int32} {wet kb : Bool} {ho n9 n10 n11 pf tk pr ld : Int32} : qC w h n d l pd wet kb ho n9 n10 n11 pf tk pr ld 7 = b2 kb := rfl
theorem qC_8 {w h n d l pd : Int32} {wet kb : Bool} {ho n9 n10 n11 pf tk pr ld : Int32} : qC w h n d l pd wet kb ho n9 n10 n11 pf tk pr ld 8 = ho := rfl
theorem qC_9 {w h n d l pd : Int32} {wet kb : Bool} {ho n9 n10 n11 pf tk pr ld : Int32} : qC w h n d l pd wet kb ho n9 n10 n11 pf tk pr ld 9 = n9 := rfl
theorem qC_10 {w h n d l pd : Int32} {wet kb : Bool} {ho n9 n10 n11 pf tk pr ld : Int32} : qC w h n d l pd wet kb ho n9 n10 n11 pf tk pr ld 10 = n10 := rfl
theorem qC_11 {w h n d l pd : Int32} {wet kb : Bool} {ho n9 n10 n11 pf tk pr ld : Int32} : qC w h n d l pd wet kb ho n9 n10 n11 pf tk pr ld 11 = n11 := rfl
theorem qC_12 {w h n d l pd : Int32} {wet kb : Bool} {ho n9 n10 n11 pf tk pr ld : Int32} : qC w h n d l pd wet kb ho n9 n10 n11 pf tk pr ld 12 = pf := rfl
theorem qC_13 {w h n d l pd : Int32} {wet kb : Bool} {ho n9 n10 n11 pf tk pr ld : Int32} : qC w h n d l pd wet kb ho n9 n10 n11 pf tk pr ld 13 = tk := rfl
theorem qC_14 {w h n d l pd : Int32} {wet kb : Bool} {ho n9 n10 n11 pf tk pr ld : Int32} : qC w h n d l pd wet kb ho n9 n10 n11 pf tk pr ld 14 = pr := rfl
theorem qC_15 {w h n d l pd : Int32} {wet kb : Bool} {ho n9 n10 n11 pf tk pr ld : Int32} : qC w h n d l pd wet kb ho n9 n10 n11 pf tk pr ld 15 = ld := rfl
noncomputable def qCount (V : XV) (T : XT) (W : Nat → Int32) (d pd tk kn sd : Int32) (n9 n10 n11 fl : Nat) (k : Int32) : Int32 := if k < 0 ∨ 15 < k then -1 else
  qC (Int32.ofNat (tw T)) (Int32.ofNat (th T)) (Int32.ofNat (tn T)) d (Int32.ofNat (cnt (lie W) 30)) pd (sWet V d) (knk kn sd d) (Int32.ofNat (cnt (hoB T) 30)) (Int32.ofNat n9) (Int32.ofNat n10) (Int32.ofNat n11) (Int32.ofNat (cnt fl.testBit 30)) tk (Int32.ofNat (bitsOf (prsd W) (tn T))) (Int32.ofNat (bitsOf (ldL T W) 5)) (xN k)
theorem ge16 {k : Int32} (h : ¬ (k < 0 ∨ 15 < k)) : ∃ j, j < 16 ∧ k = Int32.ofNat j := by
  rw [not_or] at h
  have e : k = Int32.ofNat (xN k) := (Int32.ofNat_toNatClampNeg k (Int32.not_lt.mp h.1)).symm
  have l : xN k < 2147483648 := Int32.toNatClampNeg_lt k
  refine ⟨xN k, ?_, e⟩
  have h2 := h.2
  rw [e, show (15 : Int32) = Int32.ofNat 15 from rfl, nk_lt (by omega) l] at h2
  omega
theorem all16 {P : Nat → Prop} (h0 : P 0) (h1 : P 1) (h2 : P 2) (h3 : P 3) (h4 : P 4) (h5 : P 5) (h6 : P 6) (h7 : P 7) (h8 : P 8) (h9 : P 9) (h10 : P 10) (h11 : P 11) (h12 : P 12) (h13 : P 13) (h14 : P 14) (h15 : P 15) : ∀ s, s < 16 → P s := fun s hs => match s, hs with
  | 0, _ => h0
  | 1, _ => h1
  | 2, _ => h2
  | 3, _ => h3
  | 4, _ => h4
  | 5, _ => h5
  | 6, _ => h6
  | 7, _ => h7
  | 8, _ => h8
  | 9, _ => h9
  | 10, _ => h10
  | 11, _ => h11
  | 12, _ => h12
  | 13, _ => h13
  | 14, _ => h14
  | 15, _ => h15
  | s + 16, h => absurd h (by omega)
theorem h_count {F : Nat} (hF : 4000000 ≤ F) {lv n9 n10 n11 fl : Nat} {V : XV} {T : XT} {W : Nat → Int32} {I : XI} (hX : wfull F lv V T W I) (h9 : I 1 1 = Int32.ofNat n9) (h10 : I 38 1 = Int32.ofNat n10) (h11 : I 127 3 = Int32.ofNat n11) (hf : fl < 8) (h12 : I 38 4 = Int32.ofNat fl) {k : Int32} :
    xOk (f_H_count F k I) (fun r => r.1 = qCount V T W (I 26 1) (I 26 2) (I 26 3) (I 17 3) (I 17 4) n9 n10 n11 fl k ∧ Same scH I r.2) := by
  obtain ⟨hC, hL⟩ := hX
  obtain ⟨⟨hO, hLd, hKb⟩, ⟨hT, hM⟩, ⟨h4, hW, h6⟩, -, -⟩ := hC
  unfold f_H_count qCount
  by_cases g : k < 0 ∨ 15 < k
  · rw [if_pos g, if_pos g]
    exact xOk.pur ⟨rfl, Same.rfl⟩
  rw [if_neg g, if_neg g]
  obtain ⟨j, hj, rfl⟩ := ge16 g
  clear g
  rw [show xN (Int32.ofNat j) = j from nk_N (by omega)]
  revert hj
  revert j
  refine all16 ?_ ?_ ?_ ?_ ?_ ?_ ?_ ?_ ?_ ?_ ?_ ?_ ?_ ?_ ?_ ?_
  · rw [qC_0]
    refine xOk.pos (by decide) ?_
    exact xOk.pur ⟨hT.1, Same.rfl⟩
  · rw [qC_1]
    refine xOk.neg (by decide) ?_
    refine xOk.pos (by decide) ?_
    exact xOk.pur ⟨hT.2.1, Same.rfl⟩
  · rw [qC_2]
    refine xOk.neg (by decide) ?_
    refine xOk.neg (by decide) ?_
    refine xOk.pos (by decide) ?_
    exact xOk.pur ⟨hT.2.2.1, Same.rfl⟩
  · rw [qC_3]
    refine xOk.neg (by decide) ?_
    refine xOk.neg (by decide) ?_
    refine xOk.neg (by decide) ?_
    refine xOk.pos (by decide) ?_
    exact xOk.pur ⟨rfl, Same.rfl⟩
  · rw [qC_4]
    refine xOk.neg (by decide) ?_
    refine xOk.neg (by decide) ?_
    refine xOk.neg (by decide) ?_
    refine xOk.neg (by decide) ?_
    refine xOk.pos (by decide) ?_
    exact xOk.bnde (c_lying hF (S := 26) h4) (xOk.pur ⟨rfl, Same.rfl⟩)
  · rw [qC_5]
    refine xOk.neg (by decide) ?_
    refine xOk.neg (by decide) ?_
    refine xOk.neg (by decide) ?_
    refine xOk.neg (by decide) ?_
    refine xOk.neg (by decide) ?_
    refine xOk.pos (by decide) ?_
    exact xOk.pur ⟨rfl, Same.rfl⟩
  · rw [qC_6]
    refine xOk.neg (by decide) ?_
    refine xOk.neg (by decide) ?_
    refine xOk.neg (by decide) ?_
    refine xOk.neg (by decide) ?_
    refine xOk.neg (by decide) ?_
    refine xOk.neg (by decide) ?_
    refine xOk.pos (by decide) ?_
    refine (c_isWet hF hL).bnd (fun r hr => xOk.pur ⟨?_, hr.2.RH⟩)
    show (if r.1 = 0 then (0 : Int32) else 1) = _
    rw [hr.1, b2_norm]
  · rw [qC_7]
    refine xOk.neg (by decide) ?_
    refine xOk.neg (by decide) ?_
    refine xOk.neg (by decide) ?_
    refine xOk.neg (by decide) ?_
    refine xOk.neg (by decide) ?_
    refine xOk.neg (by decide) ?_
    refine xOk.neg (by decide) ?_
    refine xOk.pos (by decide) ?_
    refine xOk.bnde c_isKnock (xOk.pur ⟨?_, Same.rfl⟩)
    show (if b2 _ = 0 then (0 : Int32) else 1) = _
    rw [b2_norm]
  · rw [qC_8]
    refine xOk.neg (by decide) ?_
    refine xOk.neg (by decide) ?_
    refine xOk.neg (by decide) ?_
    refine xOk.neg (by decide) ?_
    refine xOk.neg (by decide) ?_
    refine xOk.neg (by decide) ?_
    refine xOk.neg (by decide) ?_
    refine xOk.neg (by decide) ?_
    refine xOk.pos (by decide) ?_
    exact xOk.bnde (c_holes hF hT hO) (xOk.pur ⟨rfl, Same.rfl⟩)
  · rw [qC_9]
    refine xOk.neg (by decide) ?_
    refine xOk.neg (by decide) ?_
    refine xOk.neg (by decide) ?_
    refine xOk.neg (by decide) ?_
    refine xOk.neg (by decide) ?_
    refine xOk.neg (by decide) ?_
    refine xOk.neg (by decide) ?_
    refine xOk.neg (by decide) ?_
    refine xOk.neg (by decide) ?_
    refine xOk.pos (by decide) ?_
    exact xOk.pur ⟨h9, Same.rfl⟩
  · rw [qC_10]
    refine xOk.neg (by decide) ?_
    refine xOk.neg (by decide) ?_
    refine xOk.neg (by decide) ?_
    refine xOk.neg (by decide) ?_
    refine xOk.neg (by decide) ?_
    refine xOk.neg (by decide) ?_
    refine xOk.neg (by decide) ?_
    refine xOk.neg (by decide) ?_
    refine xOk.neg (by decide) ?_
    refine xOk.neg (by decide) ?_
    refine xOk.pos (by decide) ?_
    exact xOk.pur ⟨h10, Same.rfl⟩
  · rw [qC_11]
    refine xOk.neg (by decide) ?_
    refine xOk.neg (by decide) ?_
    refine xOk.neg (by decide) ?_
    refine xOk.neg (by decide) ?_
    refine xOk.neg (by decide) ?_
    refine xOk.neg (by decide) ?_
    refine xOk.neg (by decide) ?_
    refine xOk.neg (by decide) ?_
    refine xOk.neg (by decide) ?_
    refine xOk.neg (by decide) ?_
    refine xOk.neg (by decide) ?_
    refine xOk.pos (by decide) ?_
    exact xOk.pur ⟨h11, Same.rfl⟩
  · rw [qC_12]
    refine xOk.neg (by decide) ?_
    refine xOk.neg (by decide) ?_
    refine xOk.neg (by decide) ?_
    refine xOk.neg (by decide) ?_
    refine xOk.neg (by decide) ?_
    refine xOk.neg (by decide) ?_
    refine xOk.neg (by decide) ?_
    refine xOk.neg (by decide) ?_
    refine xOk.neg (by decide) ?_
    refine xOk.neg (by decide) ?_
    refine xOk.neg (by decide) ?_
    refine xOk.neg (by decide) ?_
    refine xOk.pos (by decide) ?_
    exact xOk.bnde (show f_Integer_bitCount (I 38 4) = some (Int32.ofNat (cnt fl.testBit 30)) by rw [h12, bitCount_nat (by omega)]) (xOk.pur ⟨rfl, Same.rfl⟩)
  · rw [qC_13]
    refine xOk.neg (by decide) ?_
    refine xOk.neg (by decide) ?_
    refine xOk.neg (by decide) ?_
    refine xOk.neg (by decide) ?_
    refine xOk.neg (by decide) ?_
    refine xOk.neg (by decide) ?_
    refine xOk.neg (by decide) ?_
    refine xOk.neg (by decide) ?_
    refine xOk.neg (by decide) ?_
    refine xOk.neg (by decide) ?_
    refine xOk.neg (by decide) ?_
    refine xOk.neg (by decide) ?_
    refine xOk.neg (by decide) ?_
    refine xOk.pos (by decide) ?_
    exact xOk.pur ⟨rfl, Same.rfl⟩
  · rw [qC_14]
    refine xOk.neg (by decide) ?_
    refine xOk.neg (by decide) ?_
    refine xOk.neg (by decide) ?_
    refine xOk.neg (by decide) ?_
    refine xOk.neg (by decide) ?_
    refine xOk.neg (by decide) ?_
    refine xOk.neg (by decide) ?_
    refine xOk.neg (by decide) ?_
    refine xOk.neg (by decide) ?_
    refine xOk.neg (by decide) ?_
    refine xOk.neg (by decide) ?_
    refine xOk.neg (by decide) ?_
    refine xOk.neg (by decide) ?_
    refine xOk.neg (by decide) ?_
    refine xOk.pos (by decide) ?_
    refine (c_pressedSpares hF (S := 26) hO hW h4).bnd (fun r hr => xOk.pur ⟨?_, Same.rfl⟩)
    obtain ⟨m, m1, m2, m3⟩ := hr
    have o3 := hO.2.2
    show r = Int32.ofNat (bitsOf (prsd W) (tn T))
    rw [m1]
    congr 1
    refine mask_eq m2 (bitsOf_lt (by omega)) (fun e he => ?_)
    rw [m3 e he, bitsOf_tb]
    by_cases en : e < tn T
    · rw [decide_eq_true en, Bool.true_and]
    · rw [decide_eq_false en, Bool.false_and]
      cases hq : prsd W e with
      | false => rfl
      | true => exact absurd (prsd_lt hO hW he hq) en
  · rw [qC_15]
    refine xOk.neg (by decide) ?_
    refine xOk.neg (by decide) ?_
    refine xOk.neg (by decide) ?_
    refine xOk.neg (by decide) ?_
    refine xOk.neg (by decide) ?_
    refine xOk.neg (by decide) ?_
    refine xOk.neg (by decide) ?_
    refine xOk.neg (by decide) ?_
    refine xOk.neg (by decide) ?_
    refine xOk.neg (by decide) ?_
    refine xOk.neg (by decide) ?_
    refine xOk.neg (by decide) ?_
    refine xOk.neg (by decide) ?_
    refine xOk.neg (by decide) ?_
    refine xOk.neg (by decide) ?_
    refine xOk.pos (by decide) ?_
    exact xOk.bnde (c_lyingLands hF (S := 26) hT hO hLd hW h4) (xOk.pur ⟨rfl, Same.rfl⟩)
theorem m_count {F : Nat} (hF : 4000000 ≤ F) {lv n9 n10 n11 fl : Nat} {V : XV} {T : XT} {W : Nat → Int32} {d pd tk kn sd : Int32} {I : XI} (hS : stat F lv V T I) (hk : I 17 3 = kn) (hsd : I 17 4 = sd) (hW : wfW T W) (hN : oM 162 0 (W, d, pd, tk) I) (h9 : I 131 2 = Int32.ofNat n9) (h10 : I 131 54 = Int32.ofNat n10) (h11 : I 131 59 = Int32.ofNat n11) (hf : fl < 8) (h12 : ∀ s, s < 3 → I 173 s = b2 (fl.testBit s)) {k : Int32} :
    xOk (f_M_count F k I) (fun q => q.1 = qCount V T W d pd tk kn sd n9 n10 n11 fl k ∧ Same scM I q.2) := by
  obtain ⟨⟨hO, hLd, hKb⟩, ⟨hT, hM⟩, ⟨h148, h149⟩, hL⟩ := hS
  have hl := hM.1.1
  have o3 := hO.2.2
  unfold f_M_count qCount
  refine (m_copiesN hF hM (oM_nowM hN)).bnd (fun J hJ => ?_)
  obtain ⟨j1, j2⟩ := hJ
  rw [h149, hsd] at j2
  have hMJ := tbM_X hM j1.MX
  by_cases g : k < 0 ∨ 15 < k
  · rw [if_pos g, if_pos g]
    exact xOk.pur ⟨rfl, j1⟩
  rw [if_neg g, if_neg g]
  obtain ⟨j, hj, rfl⟩ := ge16 g
  clear g
  have e18 := hMJ.1.2
  have elv : xN (J 131 18) = lv := by rw [e18, nk_N (by omega)]
  have ilv : xin (J 131 18) 2 = true := by rw [e18]; exact nk_in hl (by omega)
  rw [show xN (Int32.ofNat j) = j from nk_N (by omega)]
  revert hj
  revert j
  refine all16 ?_ ?_ ?_ ?_ ?_ ?_ ?_ ?_ ?_ ?_ ?_ ?_ ?_ ?_ ?_ ?_
  · rw [qC_0]
    refine xOk.pos (by decide) ?_
    refine xOk.ck ilv (xOk.pur ⟨?_, j1⟩)
    show J 140 (xN (J 131 18)) = _
    rw [elv]; exact hMJ.2.1.1
  · rw [qC_1]
    refine xOk.neg (by decide) ?_
    refine xOk.pos (by decide) ?_
    refine xOk.ck ilv (xOk.pur ⟨?_, j1⟩)
    show J 141 (xN (J 131 18)) = _
    rw [elv]; exact hMJ.2.1.2.1
  · rw [qC_2]
    refine xOk.neg (by decide) ?_
    refine xOk.neg (by decide) ?_
    refine xOk.pos (by decide) ?_
    refine xOk.ck ilv (xOk.pur ⟨?_, j1⟩)
    show J 146 (xN (J 131 18)) = _
    rw [elv]; exact hMJ.2.1.2.2
  · rw [qC_3]
    refine xOk.neg (by decide) ?_
    refine xOk.neg (by decide) ?_
    refine xOk.neg (by decide) ?_
    refine xOk.pos (by decide) ?_
    exact xOk.ck rfl (xOk.pur ⟨j2.2.1, j1⟩)
  · rw [qC_4]
    refine xOk.neg (by decide) ?_
    refine xOk.neg (by decide) ?_
    refine xOk.neg (by decide) ?_
    refine xOk.neg (by decide) ?_
    refine xOk.pos (by decide) ?_
    exact xOk.bnde (m_lying hF hMJ hO hW j2.1) (xOk.pur ⟨rfl, j1⟩)
  · rw [qC_5]
    refine xOk.neg (by decide) ?_
    refine xOk.neg (by decide) ?_
    refine xOk.neg (by decide) ?_
    refine xOk.neg (by decide) ?_
    refine xOk.neg (by decide) ?_
    refine xOk.pos (by decide) ?_
    exact xOk.ck rfl (xOk.pur ⟨j2.2.2.1, j1⟩)
  · rw [qC_6]
    refine xOk.neg (by decide) ?_
    refine xOk.neg (by decide) ?_
    refine xOk.neg (by decide) ?_
    refine xOk.neg (by decide) ?_
    refine xOk.neg (by decide) ?_
    refine xOk.neg (by decide) ?_
    refine xOk.pos (by decide) ?_
    refine (m_isWet hF (lawR_X hL j1.MX)).bnd (fun r hr => xOk.pur ⟨?_, j1.trans hr.2.QM⟩)
    show (if r.1 = 0 then (0 : Int32) else 1) = _
    rw [hr.1, b2_norm, j2.2.1]
  · rw [qC_7]
    refine xOk.neg (by decide) ?_
    refine xOk.neg (by decide) ?_
    refine xOk.neg (by decide) ?_
    refine xOk.neg (by decide) ?_
    refine xOk.neg (by decide) ?_
    refine xOk.neg (by decide) ?_
    refine xOk.neg (by decide) ?_
    refine xOk.pos (by decide) ?_
    refine xOk.bnde (m_isKnock hMJ) (xOk.pur ⟨?_, j1⟩)
    show (if b2 _ = 0 then (0 : Int32) else 1) = _
    rw [b2_norm, j2.2.1, j2.2.2.2.2, j1 148 lv rfl, h148, hk]
  · rw [qC_8]
    refine xOk.neg (by decide) ?_
    refine xOk.neg (by decide) ?_
    refine xOk.neg (by decide) ?_
    refine xOk.neg (by decide) ?_
    refine xOk.neg (by decide) ?_
    refine xOk.neg (by decide) ?_
    refine xOk.neg (by decide) ?_
    refine xOk.neg (by decide) ?_
    refine xOk.pos (by decide) ?_
    refine xloop 30 (fun n (c : Nat) a => f_M_count_164 F n (Int32.ofNat c) (Int32.ofNat a) J) (fun a c => c = cnt (hoB T) a) ?_ ?_ F 0 0 (by omega) (by omega) rfl
    · intro n c a ha hc ih
      subst hc
      show xOk (f_M_count_164 F (n + 1) _ _ _) _
      rw [f_M_count_164]
      have ih2 := ih _ rfl
      rw [cnt_succ] at ih2
      unfold hoB at ih2
      refine xOk.neg (nk_nge ha (by decide)) (xOk.bnde (m_isThere hMJ hO ha) ?_)
      rw [nk_succ]
      cases hi : inT T a with
      | false =>
        rw [hi] at ih2
        exact xOk.pos rfl ih2
      | true =>
        rw [hi] at ih2
        refine xOk.neg (by decide) (xOk.bnde (m_isHole hMJ ha hi) ?_)
        cases hh : isH T a with
        | false =>
          rw [hh] at ih2
          exact xOk.pos rfl ih2
        | true =>
          rw [hh] at ih2
          refine xOk.neg (by decide) ?_
          rw [nk_succ]
          exact ih2
    · intro n c hc
      subst hc
      show xOk (f_M_count_164 F (n + 1) _ _ _) _
      rw [f_M_count_164]
      exact xOk.pos (by decide) (xOk.pur ⟨rfl, j1⟩)
  · rw [qC_9]
    refine xOk.neg (by decide) ?_
    refine xOk.neg (by decide) ?_
    refine xOk.neg (by decide) ?_
    refine xOk.neg (by decide) ?_
    refine xOk.neg (by decide) ?_
    refine xOk.neg (by decide) ?_
    refine xOk.neg (by decide) ?_
    refine xOk.neg (by decide) ?_
    refine xOk.neg (by decide) ?_
    refine xOk.pos (by decide) ?_
    exact xOk.pur ⟨(j1 131 2 rfl).trans h9, j1⟩
  · rw [qC_10]
    refine xOk.neg (by decide) ?_
    refine xOk.neg (by decide) ?_
    refine xOk.neg (by decide) ?_
    refine xOk.neg (by decide) ?_
    refine xOk.neg (by decide) ?_
    refine xOk.neg (by decide) ?_
    refine xOk.neg (by decide) ?_
    refine xOk.neg (by decide) ?_
    refine xOk.neg (by decide) ?_
    refine xOk.neg (by decide) ?_
    refine xOk.pos (by decide) ?_
    exact xOk.pur ⟨(j1 131 54 rfl).trans h10, j1⟩
  · rw [qC_11]
    refine xOk.neg (by decide) ?_
    refine xOk.neg (by decide) ?_
    refine xOk.neg (by decide) ?_
    refine xOk.neg (by decide) ?_
    refine xOk.neg (by decide) ?_
    refine xOk.neg (by decide) ?_
    refine xOk.neg (by decide) ?_
    refine xOk.neg (by decide) ?_
    refine xOk.neg (by decide) ?_
    refine xOk.neg (by decide) ?_
    refine xOk.neg (by decide) ?_
    refine xOk.pos (by decide) ?_
    exact xOk.pur ⟨(j1 131 59 rfl).trans h11, j1⟩
  · rw [qC_12]
    refine xOk.neg (by decide) ?_
    refine xOk.neg (by decide) ?_
    refine xOk.neg (by decide) ?_
    refine xOk.neg (by decide) ?_
    refine xOk.neg (by decide) ?_
    refine xOk.neg (by decide) ?_
    refine xOk.neg (by decide) ?_
    refine xOk.neg (by decide) ?_
    refine xOk.neg (by decide) ?_
    refine xOk.neg (by decide) ?_
    refine xOk.neg (by decide) ?_
    refine xOk.neg (by decide) ?_
    refine xOk.pos (by decide) ?_
    have e0 : J 173 0 = b2 (fl.testBit 0) := (j1 173 0 rfl).trans (h12 0 (by omega))
    have e1 : J 173 1 = b2 (fl.testBit 1) := (j1 173 1 rfl).trans (h12 1 (by omega))
    have e2 : J 173 2 = b2 (fl.testBit 2) := (j1 173 2 rfl).trans (h12 2 (by omega))
    refine xOk.ck rfl ?_
    unfold f_M_count_226 f_M_count_240
    refine xOk.ck rfl (xOk.ck rfl (xOk.pur ⟨?_, j1⟩))
    show ((if J 173 0 = 0 then (0 : Int32) else 1) + (if J 173 1 = 0 then 0 else 1)) + (if J 173 2 = 0 then 0 else 1) = Int32.ofNat (cnt fl.testBit 30)
    rw [e0, e1, e2, b2_norm, b2_norm, b2_norm, pop3 fl hf]
    cases fl.testBit 0 <;> cases fl.testBit 1 <;> cases fl.testBit 2 <;> rfl
  · rw [qC_13]
    refine xOk.neg (by decide) ?_
    refine xOk.neg (by decide) ?_
    refine xOk.neg (by decide) ?_
    refine xOk.neg (by decide) ?_
    refine xOk.neg (by decide) ?_
    refine xOk.neg (by decide) ?_
    refine xOk.neg (by decide) ?_
    refine xOk.neg (by decide) ?_
    refine xOk.neg (by decide) ?_
    refine xOk.neg (by decide) ?_
    refine xOk.neg (by decide) ?_
    refine xOk.neg (by decide) ?_
    refine xOk.neg (by decide) ?_
    refine xOk.pos (by decide) ?_
    exact xOk.ck rfl (xOk.pur ⟨j2.2.2.2.1, j1⟩)
  · rw [qC_14]
    refine xOk.neg (by decide) ?_
    refine xOk.neg (by decide) ?_
    refine xOk.neg (by decide) ?_
    refine xOk.neg (by decide) ?_
    refine xOk.neg (by decide) ?_
    refine xOk.neg (by decide) ?_
    refine xOk.neg (by decide) ?_
    refine xOk.neg (by decide) ?_
    refine xOk.neg (by decide) ?_
    refine xOk.neg (by decide) ?_
    refine xOk.neg (by decide) ?_
    refine xOk.neg (by decide) ?_
    refine xOk.neg (by decide) ?_
    refine xOk.neg (by decide) ?_
    refine xOk.pos (by decide) ?_
    refine xloop (tn T) (fun n (m : Nat) e => f_M_count_267 F n (Int32.ofNat m) (Int32.ofNat e) J) (fun e m => m = bitsOf (prsd W) e) ?_ ?_ F 0 0 (by omega) (by omega) rfl
    · intro n m e he hm ih
      subst hm
      show xOk (f_M_count_267 F (n + 1) _ _ _) _
      rw [f_M_count_267, elv, hMJ.2.1.2.2]
      refine xOk.ck ilv (xOk.neg (nk_nge he (by omega)) (xOk.bnde (m_isPressed hF hMJ hO hW j2.1 he) ?_))
      have ih2 := ih (bitsOf (prsd W) (e + 1)) rfl
      have eb : bitsOf (prsd W) (e + 1) = if prsd W e = true then bitsOf (prsd W) e ||| 2 ^ e else bitsOf (prsd W) e := rfl
      rw [eb] at ih2
      rw [nk_succ]
      cases hq : prsd W e with
      | false =>
        rw [hq, iFT] at ih2
        exact xOk.pos rfl ih2
      | true =>
        rw [hq, iTT] at ih2
        refine xOk.neg (by decide) ?_
        rw [bit_set (bitsOf_lt (by omega)) (by omega)]
        exact ih2
    · intro n m hm
      subst hm
      show xOk (f_M_count_267 F (n + 1) _ _ _) _
      rw [f_M_count_267, elv, hMJ.2.1.2.2]
      exact xOk.ck ilv (xOk.pos (Int32.le_refl _) (xOk.pur ⟨rfl, j1⟩))
  · rw [qC_15]
    refine xOk.neg (by decide) ?_
    refine xOk.neg (by decide) ?_
    refine xOk.neg (by decide) ?_
    refine xOk.neg (by decide) ?_
    refine xOk.neg (by decide) ?_
    refine xOk.neg (by decide) ?_
    refine xOk.neg (by decide) ?_
    refine xOk.neg (by decide) ?_
    refine xOk.neg (by decide) ?_
    refine xOk.neg (by decide) ?_
    refine xOk.neg (by decide) ?_
    refine xOk.neg (by decide) ?_
    refine xOk.neg (by decide) ?_
    refine xOk.neg (by decide) ?_
    refine xOk.neg (by decide) ?_
    refine xOk.pos (by decide) ?_
    refine xloop 5 (fun n (m : Nat) l => f_M_count_304 F n (Int32.ofNat m) (Int32.ofNat l) J) (fun l m => m = bitsOf (ldL T W) l) ?_ ?_ F 0 0 (by omega) (by omega) rfl
    · intro n m l hl5 hm ih
      subst hm
      show xOk (f_M_count_304 F (n + 1) _ _ _) _
      rw [f_M_count_304]
      refine xOk.neg (nk_nge hl5 (by decide)) (xOk.bnde (m_liesOf hF hMJ hO hW j2.1) ?_)
      have ih2 := ih (bitsOf (ldL T W) (l + 1)) rfl
      have eb : bitsOf (ldL T W) (l + 1) = if ldL T W l = true then bitsOf (ldL T W) l ||| 2 ^ l else bitsOf (ldL T W) l := rfl
      rw [eb, ldL_lo hl5] at ih2
      have hle := cnt_le (lo T W (Int32.ofNat l)) 30
      rw [nk_succ]
      by_cases h0 : cnt (lo T W (Int32.ofNat l)) 30 = 0
      · rw [decide_eq_true h0, Bool.not_true, iFT] at ih2
        exact xOk.pos (by rw [h0]; decide) ih2
      · rw [decide_eq_false h0, Bool.not_false, iTT] at ih2
        refine xOk.neg (show ¬ Int32.ofNat _ ≤ 0 from nk_nge (k := 0) (by omega) (by omega)) ?_
        rw [bit_set (bitsOf_lt (by omega)) (by omega)]
        exact ih2
    · intro n m hm
      subst hm
      show xOk (f_M_count_304 F (n + 1) _ _ _) _
      rw [f_M_count_304]
      exact xOk.pos (by decide) (xOk.pur ⟨rfl, j1⟩)
theorem both_count {F : Nat} (hF : 4000000 ≤ F) {I : XI} (hI : Inv F I) {k : Int32} : both F I (f_H_count F k) (f_M_count F k) := by
  have hI0 := hI
  obtain ⟨⟨lv, V, T, x0, h1, h2, ⟨n, p, hst, fl, ss, ⟨p1, p2, p3⟩, p4, p5, p6, p7⟩⟩, ⟨t, t1, ⟨t2, t3⟩, t4⟩, ⟨a, a1, ⟨a2, a3⟩, a4⟩, hp⟩ := hI
  have he := now_exact h1 h2
  obtain ⟨hX, e1, e2, e3, e4⟩ := now_full h1 h2
  rw [← e1, ← e2, ← e3] at he
  obtain ⟨y1, y2, y3⟩ := he
  refine (h_count hF hX a2 p1.2.1.1 t2 p4 p5.1 (k := k)).mono (fun r hr => ?_)
  have s := hr.2
  refine (m_count hF (stat_A h1 s.HX.XL.LA) (s 17 3 rfl) (s 17 4 rfl) y3 (oM_same y2 s (fun _ => rfl)) ((s 131 2 rfl).trans a3) ((s 131 54 rfl).trans p2.1) ((s 131 59 rfl).trans t3) p4 (fun i hi => (s 173 i rfl).trans (p6 i hi).1)).mono (fun q hq => ?_)
  exact ⟨hq.1.trans hr.1.symm, Inv_X hI0 (s.HX.trans hq.2.MX)⟩
