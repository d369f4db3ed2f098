/-! the text: the class's scan -/
def txC (b : Nat → Int32) (n : Nat) (I : XI) : Prop := n ≤ 2000 ∧ I 1 1 = Int32.ofNat n ∧ ∀ j, j < n → I 2 j = b j
theorem c_isBlank {v : Int32} : f_Tape_isBlank v = some (b2 (isBl v)) := by
  unfold f_Tape_isBlank isBl
  by_cases h1 : v = 9
  · rw [if_pos h1, decide_eq_true h1]; rfl
  · rw [if_neg h1, decide_eq_false h1]
    by_cases h2 : v = 10
    · rw [if_pos h2, decide_eq_true h2]; rfl
    · rw [if_neg h2, decide_eq_false h2]
      by_cases h3 : v = 13
      · rw [if_pos h3, decide_eq_true h3]; rfl
      · rw [if_neg h3, decide_eq_false h3, b2_if, xck_true b2_nar]
        rfl
theorem c_isLetter {v : Int32} : f_Tape_isLetter v = some (b2 (isLt v)) := by
  unfold f_Tape_isLetter isLt
  by_cases h : v < 97
  · rw [if_pos h, decide_eq_true h]; rfl
  · rw [if_neg h, decide_eq_false h, b2_ifn, xck_true b2_nar]; rfl
theorem c_isDigit {v : Int32} : f_Tape_isDigit v = some (b2 (isDg v)) := by
  unfold f_Tape_isDigit isDg
  by_cases h : v < 48
  · rw [if_pos h, decide_eq_true h]; rfl
  · rw [if_neg h, decide_eq_false h, b2_ifn, xck_true b2_nar]; rfl
theorem sg_chr : ∀ k, k < 9 → xchr 1 (Int32.ofNat k) = sgs.getD k 0 := by decide +kernel
theorem c_isSign {F : Nat} (hF : 4000000 ≤ F) {v : Int32} : f_Tape_isSign F v = some (b2 (isSg v)) := by
  refine xOk.eq ?_
  unfold f_Tape_isSign
  refine xloop 9 (fun m (s : Bool) k => f_Tape_isSign_4 F m v (b2 s) (Int32.ofNat k)) (fun k s => s = anyB (fun k => decide (sgs.getD k 0 = v)) k) ?_ ?_ F false 0 (by omega) (by omega) rfl
  · intro m s k hk hP ih
    show xOk (f_Tape_isSign_4 F (m + 1) v (b2 s) (Int32.ofNat k)) _
    rw [f_Tape_isSign_4, nk_succ, sg_chr k hk, b2_if]
    refine xOk.neg (nk_nge hk (by omega)) ?_
    cases s with
    | true =>
      refine xOk.neg (by decide) (xOk.ck rfl (xOk.pur ?_))
      rw [show isSg v = true from anyB_true (by omega) hP.symm]
    | false =>
      refine xOk.pos rfl (xOk.ck (nk_in hk (by omega)) (ih _ ?_))
      show _ = (anyB _ k || decide (sgs.getD k 0 = v))
      rw [← hP, Bool.false_or]
  · intro m s hP
    show xOk (f_Tape_isSign_4 F (m + 1) v (b2 s) (Int32.ofNat 9)) _
    rw [f_Tape_isSign_4]
    refine xOk.pos (Int32.le_refl _) (xOk.ck b2_nar (xOk.pur ?_))
    rw [hP]
    rfl
theorem c_skip {F : Nat} {b : Nat → Int32} {n : Nat} {I : XI} (h : txC b n I) : ∀ m a, n - a < m → a ≤ n → f_Tape_skipBlanks_2 F I m (Int32.ofNat a) = some (Int32.ofNat (run (bl b) n a)) := by
  obtain ⟨hn, h1, h2⟩ := h
  intro m
  induction m with
  | zero => intro a h _; omega
  | succ m ih =>
    intro a h3 h4
    rw [f_Tape_skipBlanks_2, h1]
    by_cases e : n ≤ a
    · rw [if_pos (nk_le_t e (by omega)), run_e e]
    · rw [if_neg (nk_nge (by omega) (by omega)), xck_true (nk_in (by omega) (by omega)), nk_N (by omega), h2 a (by omega), c_isBlank]
      show (if b2 (bl b a) = 0 then _ else _) = _
      cases hb : bl b a with
      | false => rw [run_f (by omega) hb]; rfl
      | true =>
        rw [run_t (by omega) hb, nk_succ, if_neg (by decide)]
        exact ih (a + 1) (by omega) (by omega)
def kwC : List Nat := [114, 111, 119, 32, 107, 110, 111, 98, 32, 115, 112, 97, 114, 101, 32, 119, 97, 121, 115, 32, 116, 97, 120, 101, 115, 32, 119, 101, 116, 32, 102, 97, 108, 108, 115, 32, 107, 110, 111, 99, 107, 115, 32, 115, 101, 101, 100, 32, 105, 102, 32, 116, 104, 101, 110, 32, 101, 108, 115, 101, 32, 97, 99, 114, 111, 115, 115, 32, 100, 111, 119, 110, 32, 108, 97, 110, 100, 32, 106, 111, 105, 110, 101, 100, 32, 100, 97, 121, 32, 115, 97, 109, 101, 32, 115, 105, 122, 101, 32, 112, 97, 114, 116, 115, 32, 115, 105, 100, 101, 32]
def kc (i : Nat) : Nat := kwC.getD i 0
theorem kw_chr : ∀ k, k < 110 → xchr 0 (Int32.ofNat k) = Int32.ofNat (kc k) ∧ kc k < 123 := by decide +kernel
def wj : Nat → Nat × Nat
  | 0 => (0, 0)
  | i + 1 => if kc i = 32 then ((wj i).1 + 1, 0) else ((wj i).1, (wj i).2 + 1)
theorem wj_le : ∀ i, (wj i).2 ≤ i ∧ (wj i).1 ≤ i := by
  intro i
  induction i with
  | zero => exact ⟨Nat.le_refl _, Nat.le_refl _⟩
  | succ i ih =>
    unfold wj
    split
    · show 0 ≤ i + 1 ∧ (wj i).1 + 1 ≤ i + 1; omega
    · show (wj i).2 + 1 ≤ i + 1 ∧ (wj i).1 ≤ i + 1; omega
theorem wj_key : ∀ i, i < 110 → kc i = 32 → (wj i).1 < 21 ∧ kwL.getD (wj i).1 0 = nvN (fun t => kc (i - (wj i).2 + t)) (wj i).2 := by decide +kernel
theorem wj_ltr : ∀ i, i < 110 → kc i = 32 → ∀ t, t < (wj i).2 → 97 ≤ kc (i - (wj i).2 + t) ∧ kc (i - (wj i).2 + t) ≤ 122 := by decide +kernel
theorem wj_end : (wj 110).1 = 21 := by decide +kernel
theorem nvN_congr {f g : Nat → Nat} : ∀ k, (∀ t, t < k → f t = g t) → nvN f k = nvN g k := by
  intro k
  induction k with
  | zero => intro _; rfl
  | succ k ih =>
    intro h
    unfold nvN
    rw [ih (fun t ht => h t (by omega)), h k (by omega)]
theorem nvN_inj {f g : Nat → Nat} : ∀ k j, (∀ t, t < k → 97 ≤ f t ∧ f t ≤ 122) → (∀ t, t < j → 97 ≤ g t ∧ g t ≤ 122) → nvN f k = nvN g j → k = j ∧ ∀ t, t < k → f t = g t := by
  intro k
  induction k with
  | zero =>
    intro j _ hg h
    cases j with
    | zero => exact ⟨rfl, fun t ht => by omega⟩
    | succ j =>
      have := hg j (by omega)
      have h : 0 = 27 * nvN g j + (g j - 96) := h
      omega
  | succ k ih =>
    intro j hf hg h
    have h1 := hf k (by omega)
    cases j with
    | zero =>
      have h : 27 * nvN f k + (f k - 96) = 0 := h
      omega
    | succ j =>
      have h2 := hg j (by omega)
      have h : 27 * nvN f k + (f k - 96) = 27 * nvN g j + (g j - 96) := h
      obtain ⟨e, h3⟩ := ih j (fun t ht => hf t (by omega)) (fun t ht => hg t (by omega)) (by omega)
      subst e
      refine ⟨rfl, fun t ht => ?_⟩
      by_cases e : t = k
      · rw [e]; omega
      · exact h3 t (by omega)
theorem frst_at {p : Nat → Bool} {k : Nat} (h0 : ∀ j, j < k → p j = false) (hk : p k = true) : ∀ N, k < N → frst p N = some k := by
  have none : ∀ N, N ≤ k → frst p N = none := by
    intro N
    induction N with
    | zero => intro _; rfl
    | succ N ih =>
      intro h
      unfold frst
      rw [ih (by omega), h0 N (by omega)]
      rfl
  intro N
  induction N with
  | zero => intro h; omega
  | succ N ih =>
    intro h
    unfold frst
    by_cases e : k < N
    · rw [ih e]
    · rw [show N = k by omega, none k (Nat.le_refl _), hk]
      rfl
theorem frst_no {p : Nat → Bool} : ∀ N, (∀ j, j < N → p j = false) → frst p N = none := by
  intro N
  induction N with
  | zero => intro _; rfl
  | succ N ih =>
    intro h
    unfold frst
    rw [ih (fun j hj => h j (by omega)), h N (by omega)]
    rfl
theorem lt_ok {v : Int32} (h : isLt v = true) : v = Int32.ofNat (xN v) ∧ 97 ≤ xN v ∧ xN v ≤ 122 := by
  unfold isLt at h
  simp only [Bool.and_eq_true, Bool.not_eq_true', decide_eq_false_iff_not] at h
  obtain ⟨h1, h2⟩ := h
  have h0 : ¬ v < 0 := fun e => h1 (Int32.lt_trans e (by decide))
  have hx : v = Int32.ofNat (xN v) := (Int32.ofNat_toNatClampNeg v (Int32.not_lt.mp h0)).symm
  have lx : xN v < 2147483648 := Int32.toNatClampNeg_lt v
  generalize xN v = m at hx lx
  subst hx
  rw [show (97 : Int32) = Int32.ofNat 97 from rfl, nk_lt (by omega) (by omega)] at h1
  rw [show (122 : Int32) = Int32.ofNat 122 from rfl, nk_lt (by omega) (by omega)] at h2
  exact ⟨rfl, by omega, by omega⟩
theorem dg_ok {v : Int32} (h : isDg v = true) : v = Int32.ofNat (xN v) ∧ 48 ≤ xN v ∧ xN v ≤ 57 := by
  unfold isDg at h
  simp only [Bool.and_eq_true, Bool.not_eq_true', decide_eq_false_iff_not] at h
  obtain ⟨h1, h2⟩ := h
  have h0 : ¬ v < 0 := fun e => h1 (Int32.lt_trans e (by decide))
  have hx : v = Int32.ofNat (xN v) := (Int32.ofNat_toNatClampNeg v (Int32.not_lt.mp h0)).symm
  have lx : xN v < 2147483648 := Int32.toNatClampNeg_lt v
  generalize xN v = m at hx lx
  subst hx
  rw [show (48 : Int32) = Int32.ofNat 48 from rfl, nk_lt (by omega) (by omega)] at h1
  rw [show (57 : Int32) = Int32.ofNat 57 from rfl, nk_lt (by omega) (by omega)] at h2
  exact ⟨rfl, by omega, by omega⟩
theorem c_kol {F : Nat} (hF : 4000000 ≤ F) {b : Nat → Int32} {n : Nat} {I : XI} (h : txC b n I) {a e : Nat} (hae : a ≤ e) (hen : e ≤ n) (hl : ∀ t, a ≤ t → t < e → isLt (b t) = true) : f_Tape_kindOfLetters F I (Int32.ofNat a) (Int32.ofNat e) = some (Int32.ofNat (wdK (nv b a (e - a)))) := by
  obtain ⟨hn, h1, h2⟩ := h
  refine xOk.eq ?_
  unfold f_Tape_kindOfLetters
  have hβ : ∀ t, t < e - a → 97 ≤ xN (b (a + t)) ∧ xN (b (a + t)) ≤ 122 := fun t ht => (lt_ok (hl (a + t) (by omega) (by omega))).2
  refine xloop 110 (fun m (s : Nat × Nat × Bool) k => f_Tape_kindOfLetters_11 F I m (Int32.ofNat a) (Int32.ofNat e) (Int32.ofNat s.1) (Int32.ofNat (a + s.2.1)) (b2 s.2.2) (Int32.ofNat k)) (fun k s => s.1 = (wj k).1 ∧ s.2.1 = (wj k).2 ∧ (s.2.2 = true ↔ ∀ t, t < s.2.1 → a + t < e ∧ xN (b (a + t)) = kc (k - s.2.1 + t)) ∧ ∀ w, w < s.1 → kwB (nv b a (e - a)) w = false) ?_ ?_ F (0, 0, true) 0 (by omega) (by omega) ⟨rfl, rfl, ⟨fun _ t ht => absurd ht (Nat.not_lt_zero t), fun _ => rfl⟩, fun w hw => absurd hw (Nat.not_lt_zero w)⟩
  · rintro m ⟨w, j, s⟩ k hk ⟨p1, p2, p3, p4⟩ ih
    have p1 : w = (wj k).1 := p1
    have p2 : j = (wj k).2 := p2
    have p3 : s = true ↔ ∀ t, t < j → a + t < e ∧ xN (b (a + t)) = kc (k - j + t) := p3
    have p4 : ∀ w', w' < w → kwB (nv b a (e - a)) w' = false := p4
    have hwj := wj_le k
    have hc := kw_chr k hk
    show xOk (f_Tape_kindOfLetters_11 F I (m + 1) (Int32.ofNat a) (Int32.ofNat e) (Int32.ofNat w) (Int32.ofNat (a + j)) (b2 s) (Int32.ofNat k)) _
    rw [f_Tape_kindOfLetters_11, hc.1]
    refine xOk.neg (nk_nge hk (by omega)) (xOk.ck (nk_in hk (by omega)) ?_)
    by_cases e32 : kc k = 32
    · refine xOk.pos (show Int32.ofNat (kc k) = 32 by rw [e32]; rfl) ?_
      obtain ⟨k1, k2⟩ := wj_key k hk e32
      have hw1 : wj (k + 1) = (w + 1, 0) := by
        unfold wj
        rw [if_pos e32, ← p1]
      rw [← p1, ← p2] at k2
      have nxt : kwB (nv b a (e - a)) w = false → xOk (f_Tape_kindOfLetters_11 F I m (Int32.ofNat a) (Int32.ofNat e) (Int32.ofNat w + 1) (Int32.ofNat a) 1 (Int32.ofNat k + 1)) (fun r => r = Int32.ofNat (wdK (nv b a (e - a)))) := by
        intro hno
        rw [nk_succ, nk_succ]
        refine ih (w + 1, 0, true) ⟨?_, ?_, ⟨fun _ t ht => absurd ht (Nat.not_lt_zero t), fun _ => rfl⟩, fun w' hw' => ?_⟩
        · rw [hw1]
        · rw [hw1]
        · have hw' : w' < w + 1 := hw'
          by_cases e' : w' = w
          · rw [e']; exact hno
          · exact p4 w' (by omega)
      cases hs : s with
      | false =>
        refine xOk.pos rfl (nxt ?_)
        refine decide_eq_false (fun e' => ?_)
        rw [k2] at e'
        have hl2 := wj_ltr k hk e32
        rw [← p2] at hl2
        obtain ⟨q1, q2⟩ := nvN_inj j (e - a) hl2 hβ e'
        have : s = true := p3.mpr (fun t ht => ⟨by omega, (q2 t ht).symm⟩)
        rw [hs] at this
        cases this
      | true =>
        refine xOk.neg (by decide) ?_
        have hm := p3.mp hs
        by_cases e' : a + j = e
        · refine xOk.pos (by rw [e']) (xOk.pur ?_)
          have hyes : kwB (nv b a (e - a)) w = true := by
            refine decide_eq_true ?_
            rw [k2, show e - a = j by omega]
            exact nvN_congr j (fun t ht => (hm t ht).2.symm)
          unfold wdK
          rw [frst_at p4 hyes 21 (by omega)]
          show (100 : Int32) + Int32.ofNat w = Int32.ofNat (100 + w)
          rw [show (100 : Int32) = Int32.ofNat 100 from rfl, nk_add]
        · refine xOk.neg (by rw [nk_eq (by omega) (by omega)]; exact e') (nxt ?_)
          refine decide_eq_false (fun e'' => ?_)
          rw [k2] at e''
          have hl2 := wj_ltr k hk e32
          rw [← p2] at hl2
          obtain ⟨q1, q2⟩ := nvN_inj j (e - a) hl2 hβ e''
          omega
    · refine xOk.neg (show ¬ Int32.ofNat (kc k) = 32 by rw [show (32 : Int32) = Int32.ofNat 32 from rfl, nk_eq (by omega) (by omega)]; exact e32) ?_
      have hw1 : wj (k + 1) = (w, j + 1) := by
        unfold wj
        rw [if_neg e32, ← p1, ← p2]
      have nxt : ∀ s', (s' = true ↔ (s = true ∧ (a + j < e ∧ xN (b (a + j)) = kc k))) → xOk (f_Tape_kindOfLetters_11 F I m (Int32.ofNat a) (Int32.ofNat e) (Int32.ofNat w) (Int32.ofNat (a + j) + 1) (b2 s') (Int32.ofNat k + 1)) (fun r => r = Int32.ofNat (wdK (nv b a (e - a)))) := by
        intro s' hs'
        rw [nk_succ, nk_succ]
        refine ih (w, j + 1, s') ⟨?_, ?_, ?_, p4⟩
        · rw [hw1]
        · rw [hw1]
        · show s' = true ↔ ∀ t, t < j + 1 → a + t < e ∧ xN (b (a + t)) = kc (k + 1 - (j + 1) + t)
          rw [hs', p3]
          constructor
          · rintro ⟨q1, q2⟩ t ht
            by_cases e' : t = j
            · rw [e', show k + 1 - (j + 1) + j = k by omega]; exact q2
            · rw [show k + 1 - (j + 1) = k - j by omega]
              exact q1 t (by omega)
          · intro q
            refine ⟨fun t ht => ?_, ?_⟩
            · have := q t (by omega)
              rwa [show k + 1 - (j + 1) = k - j by omega] at this
            · have := q j (by omega)
              rwa [show k + 1 - (j + 1) + j = k by omega] at this
      cases hs : s with
      | false => exact xOk.pos rfl (nxt false ⟨fun h => absurd h (by decide), fun h => absurd (hs.symm.trans h.1) (by decide)⟩)
      | true =>
        refine xOk.neg (by decide) ?_
        by_cases e' : e ≤ a + j
        · exact xOk.pos (nk_le_t e' (by omega)) (nxt false ⟨fun h => absurd h (by decide), fun h => absurd h.2.1 (by omega)⟩)
        · refine xOk.neg (nk_nge (by omega) (by omega)) (xOk.ck (nk_in (by omega) (by omega)) ?_)
          rw [nk_N (by omega), h2 (a + j) (by omega), b2_if]
          refine nxt _ ⟨fun h => ⟨hs, by omega, ?_⟩, fun h => decide_eq_true ?_⟩
          · rw [of_decide_eq_true h, nk_N (by omega)]
          · rw [(lt_ok (hl (a + j) (by omega) (by omega))).1, h.2.2]
  · rintro m ⟨w, j, s⟩ ⟨p1, p2, p3, p4⟩
    have p1 : w = (wj 110).1 := p1
    have p4 : ∀ w', w' < w → kwB (nv b a (e - a)) w' = false := p4
    show xOk (f_Tape_kindOfLetters_11 F I (m + 1) (Int32.ofNat a) (Int32.ofNat e) (Int32.ofNat w) (Int32.ofNat (a + j)) (b2 s) (Int32.ofNat 110)) _
    rw [f_Tape_kindOfLetters_11]
    refine xOk.pos (Int32.le_refl _) (xOk.pur ?_)
    rw [wj_end] at p1
    unfold wdK
    rw [frst_no 21 (fun w' hw' => p4 w' (by omega))]
    rfl
