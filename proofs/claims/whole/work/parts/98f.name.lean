/-! both readers: a number, names -/
def scOm (O sd o j : Nat) : Bool := scFS o j || (Nat.beq o O && scRM sd o j)
theorem pr_one {b : Nat → Int32} {n t sd w m O : Nat} {L : XL} {I M : XI} (hn : n ≤ 2000) (hsd : sd < 2) (h : Rs b n L (Sum.inr t) I M) (hk : kd b n t = w) (hw : 3 < w) (hm : m < 10000) (h19 : M 131 19 = Int32.ofNat sd) (hO : O = 148 ∨ O = 149) :
    pr (f_Reader_readOneNumber (Int32.ofNat w) (Int32.ofNat m) I) ((f_M_goesOn M).bind fun q46 => (f_M_bounded 0 (Int32.ofNat m) q46).bind fun q47 => xck (xin (q46 131 19) 2) (xst (xput q47.2 O (xN (q46 131 19)) q47.1) fun I49 => (f_M_must 4 I49).bind fun q50 => some (q50, L))) (fun r q => (q.2 = L ∧ tlQ b n L t (fun _ M' => r.1 = M' O sd) r.2 q.1) ∧ Sm I r.2 ∧ Same (scOm O sd) M q.1) := by
  have hkd := kd_lt b n t
  have incl : ∀ {X Y : XI}, Same scFS X Y → Same (scOm O sd) X Y := fun hs => hs.mono (fun o j e => by
    unfold scOm at e
    exact (Bool.or_eq_false_iff.mp e).1)
  unfold f_Reader_readOneNumber
  refine (pr_go h hk (by omega)).bnd (fun r1 q1 h1 => ?_)
  obtain ⟨⟨hR1, -⟩, s1, m1⟩ := h1
  refine (pr_num hn hR1 hm).bnd (fun r2 q2 h2 => ?_)
  have e19 : q1 131 19 = Int32.ofNat sd := (m1 131 19 rfl).trans h19
  rw [e19, nk_N (show sd < 2147483648 by omega)]
  refine pr.rck (nk_in hsd (by omega)) (pr.rst ?_)
  have hput : Same (scOm O sd) q2.2 (xput q2.2 O sd q2.1) := by
    refine Same.put ?_
    show (scFS O sd || (Nat.beq O O && scRM sd O sd)) = true
    rw [Nat.beq_refl]
    have : scRM sd O sd = true := by
      rcases hO with rfl | rfl
      · have : scRM sd 148 sd = (Nat.beq sd sd || false) := rfl
        rw [this, Nat.beq_refl]; rfl
      · have : scRM sd 149 sd = (Nat.beq sd sd || false) := rfl
        rw [this, Nat.beq_refl]; rfl
    rw [this, Bool.and_true, Bool.or_true]
  have hne : ∀ o, ¬ o = O → xput q2.2 O sd q2.1 o = q2.2 o := fun o ho => xput_neo ho
  have hR2 : Rs b n L (acX b n 3 (acR b n w t)) r2.2 (xput q2.2 O sd q2.1) := by
    obtain ⟨k1, k2⟩ := h2.1.1
    generalize acX b n 3 (acR b n w t) = a at k1 k2
    have o131 : xput q2.2 O sd q2.1 131 = q2.2 131 := hne 131 (by omega)
    cases a with
    | inl e =>
      refine ⟨⟨k1.1, bm_131 k1.2 ⟨by rw [o131], by rw [o131], by rw [o131]⟩⟩, fun t ht => by cases ht⟩
    | inr t1 =>
      refine ⟨⟨k1.1, k1.2.1, ⟨by rw [o131]; exact k1.2.2.1.1, by rw [o131]; exact k1.2.2.1.2⟩, tkM_same k1.2.2.2 (hne 134 (by omega)) (hne 135 (by omega)) (hne 136 (by omega))⟩, fun t' ht' => SLr_same (k2 t' ht') rfl rfl (by rw [o131]) (by rw [o131])⟩
  refine (pr_acc (k := 59) hR2 (by omega) (by omega) rfl).bnd (fun r3 q3 h3 => pr.pur ?_)
  obtain ⟨⟨hR3, -⟩, s3, m3⟩ := h3
  refine ⟨⟨rfl, acX b n 59 (acX b n 3 (acR b n w t)), hR3, fun t' ht' => ?_⟩, s1.Sm.trans (h2.2.1.trans s3.Sm), ((incl m1.FS).trans ((incl h2.2.2).trans hput)).trans (incl m3.FS)⟩
  obtain ⟨t2, a2, c2, -⟩ := acX_t ht'
  obtain ⟨t1, a1, c1, -⟩ := acX_t a2
  have c0 := (acR_t a1).1
  refine ⟨by omega, ?_⟩
  show r2.1 = q3 O sd
  have e3 : q3 O sd = xput q2.2 O sd q2.1 O sd := by
    rcases hO with rfl | rfl
    · exact m3 148 sd rfl
    · exact m3 149 sd rfl
  rw [e3, xput_eq]
  exact (h2.1.2 t2 a2).1
/-! names -/
theorem nm_ok {b : Nat → Int32} {n i : Nat} (h : kd b n i = 2) : (1 ≤ ln b n i ∧ ln b n i ≤ 8 ∧ plc b n i + ln b n i ≤ n) ∧ ∀ x, x < ln b n i → isLt (b (plc b n i + x)) = true := by
  have key : isLt (b (plc b n i)) = true ∧ plc b n i < n ∧ run (lt b) n (plc b n i) - plc b n i ≤ 8 := by
    unfold kd kdT at h
    by_cases e : n ≤ plc b n i
    · rw [if_pos e] at h; cases h
    · rw [if_neg e] at h
      cases hl : isLt (b (plc b n i)) with
      | true =>
        rw [hl, if_pos rfl] at h
        refine ⟨rfl, by omega, ?_⟩
        split at h
        · cases h
        · omega
      | false =>
        rw [hl, if_neg (by decide)] at h
        split at h
        · split at h <;> cases h
        · split at h
          · rename_i hg
            have := (isSg_ok hg).2.2.2.1
            omega
          · cases h
  obtain ⟨k1, k2, k3⟩ := key
  have g1 := run_ge (p := lt b) (n := n) _ (plc b n i + 1) rfl
  have g2 := run_le (p := lt b) (n := n) _ (plc b n i) rfl (by omega)
  have g3 := run_t (p := lt b) k2 k1
  unfold ln
  refine ⟨⟨by omega, k3, by omega⟩, fun x hx => run_all (p := lt b) (n := n) _ (plc b n i) rfl _ (by omega) (by omega)⟩
theorem nm_eq {b : Nat → Int32} {n i j : Nat} (hi : kd b n i = 2) (hj : kd b n j = 2) : nm b n i = nm b n j ↔ ln b n i = ln b n j ∧ ∀ x, x < ln b n i → b (plc b n i + x) = b (plc b n j + x) := by
  obtain ⟨-, i2⟩ := nm_ok hi
  obtain ⟨-, j2⟩ := nm_ok hj
  constructor
  · intro h
    obtain ⟨e, h2⟩ := nvN_inj (f := fun t => xN (b (plc b n i + t))) (g := fun t => xN (b (plc b n j + t))) (ln b n i) (ln b n j) (fun t ht => (lt_ok (i2 t ht)).2) (fun t ht => (lt_ok (j2 t ht)).2) h
    refine ⟨e, fun x hx => ?_⟩
    rw [(lt_ok (i2 x hx)).1, (lt_ok (j2 x (by omega))).1]
    congr 1
    exact h2 x hx
  · rintro ⟨e, h2⟩
    unfold nm
    rw [← e]
    exact nvN_congr _ (fun t ht => by
      show xN _ = xN _
      rw [h2 t ht])
theorem c_letter {b : Nat → Int32} {n i x : Nat} {I : XI} (h : txC b n I) (hk : tkC b n I) (hr : reach b n i) (h2 : kd b n i = 2) (hx : x < ln b n i) : f_Tape_letter I (Int32.ofNat i) (Int32.ofNat x) = some (b (plc b n i + x)) := by
  have hi := hr.1
  have hn := h.1
  have hl := (nm_ok h2).1
  unfold f_Tape_letter
  rw [xck_true (nk_in (by omega) (by omega)), nk_N (show i < 2147483648 by omega), ((hk i hr).1).2, nk_add, h.2.1, if_neg (nk_nge (by omega) (by omega)), xck_true (nk_in (by omega) (by omega)), nk_N (by omega), h.2.2 _ (by omega)]
theorem c_same {F : Nat} (hF : 4000000 ≤ F) {b : Nat → Int32} {n i j : Nat} {I : XI} (h : txC b n I) (hk : tkC b n I) (hi : reach b n i) (hj : reach b n j) (hi2 : kd b n i = 2) (hj2 : kd b n j = 2) : f_Tape_sameLetters F I (Int32.ofNat i) (Int32.ofNat j) = some (b2 (decide (nm b n i = nm b n j))) := by
  have i4 := hi.1
  have j4 := hj.1
  have il := (nm_ok hi2).1
  have jl := (nm_ok hj2).1
  have hn := h.1
  refine xOk.eq ?_
  unfold f_Tape_sameLetters
  refine xOk.ck (nk_in (by omega) (by omega)) (xOk.ck (nk_in (by omega) (by omega)) ?_)
  rw [nk_N (show i < 2147483648 by omega), nk_N (show j < 2147483648 by omega), (hk i hi).2.2 hi2, (hk j hj).2.2 hj2, b2_if]
  have heq : decide (Int32.ofNat (ln b n i) = Int32.ofNat (ln b n j)) = decide (ln b n i = ln b n j) := by
    by_cases e : ln b n i = ln b n j
    · rw [decide_eq_true e, decide_eq_true (by rw [e])]
    · rw [decide_eq_false e, decide_eq_false (by rw [nk_eq (by omega) (by omega)]; exact e)]
  rw [heq]
  refine xloop (ln b n i) (fun m (s : Bool) x => f_Tape_sameLetters_24 F I m (Int32.ofNat i) (Int32.ofNat j) (b2 s) (Int32.ofNat x)) (fun x s => s = true ↔ ln b n i = ln b n j ∧ ∀ y, y < x → b (plc b n i + y) = b (plc b n j + y)) ?_ ?_ F (decide (ln b n i = ln b n j)) 0 (by omega) (by omega) ⟨fun e => ⟨of_decide_eq_true e, fun y hy => absurd hy (Nat.not_lt_zero y)⟩, fun e => decide_eq_true e.1⟩
  · intro m s x hx hP ih
    show xOk (f_Tape_sameLetters_24 F I (m + 1) (Int32.ofNat i) (Int32.ofNat j) (b2 s) (Int32.ofNat x)) _
    rw [f_Tape_sameLetters_24, nk_succ]
    cases hs : s with
    | false =>
      refine xOk.pos rfl (xOk.ck rfl (xOk.pur ?_))
      rw [decide_eq_false]
      intro e
      rw [nm_eq hi2 hj2] at e
      have := hP.mpr ⟨e.1, fun y hy => e.2 y (by omega)⟩
      rw [hs] at this
      cases this
    | true =>
      have hP' := hP.mp hs
      refine xOk.neg (by decide) (xOk.ck (nk_in (by omega) (by omega)) ?_)
      rw [nk_N (show i < 2147483648 by omega), (hk i hi).2.2 hi2]
      refine xOk.neg (nk_nge hx (by omega)) (xOk.bnde (c_letter h hk hi hi2 hx) (xOk.bnde (c_letter h hk hj hj2 (by omega)) ?_))
      rw [b2_if]
      refine ih _ ⟨fun e => ⟨hP'.1, fun y hy => ?_⟩, fun e => decide_eq_true (e.2 x (by omega))⟩
      by_cases e' : y = x
      · rw [e']; exact of_decide_eq_true e
      · exact hP'.2 y (by omega)
  · intro m s hP
    show xOk (f_Tape_sameLetters_24 F I (m + 1) (Int32.ofNat i) (Int32.ofNat j) (b2 s) (Int32.ofNat (ln b n i))) _
    rw [f_Tape_sameLetters_24, nk_N (show i < 2147483648 by omega), (hk i hi).2.2 hi2]
    have fin : b2 s = b2 (decide (nm b n i = nm b n j)) := by
      have : decide (nm b n i = nm b n j) = s := by
        cases hs : s with
        | true => exact decide_eq_true ((nm_eq hi2 hj2).mpr (hP.mp hs))
        | false =>
          refine decide_eq_false (fun e => ?_)
          have := hP.mpr ((nm_eq hi2 hj2).mp e)
          rw [hs] at this
          cases this
      rw [this]
    cases hs : s with
    | false =>
      rw [hs] at fin
      exact xOk.pos rfl (xOk.ck rfl (xOk.pur fin))
    | true =>
      rw [hs] at fin
      exact xOk.neg (by decide) (xOk.ck (nk_in (by omega) (by omega)) (xOk.pos (Int32.le_refl _) (xOk.ck rfl (xOk.pur fin))))
/-! names as the reference's numbers -/
theorem c27 : (27 : Int32).toInt64 = Int64.ofNat 27 := by decide
theorem c00 : (0 : Int32).toInt64 = Int64.ofNat 0 := by decide
theorem i64_div {x : Nat} (hx : x < 9223372036854775808) : Int64.ofNat x / (27 : Int32).toInt64 = Int64.ofNat (x / 27) := by
  rw [c27, Int64.ofNat_div hx (by omega)]
theorem lg_pos {x : Nat} (hx : x < 9223372036854775808) : lg_cmp (Int64.ofNat x) ((0 : Int32).toInt64) ≤ 0 ↔ x = 0 := by
  rw [c00]
  have hlt : Int64.ofNat 0 < Int64.ofNat x ↔ 0 < x := by
    rw [Int64.lt_iff_toInt_lt, Int64.toInt_ofNat_of_lt hx, Int64.toInt_ofNat_of_lt (by omega)]
    omega
  unfold lg_cmp
  by_cases e : x = 0
  · subst e
    simp
  · have h1 : ¬ Int64.ofNat x = Int64.ofNat 0 := fun h => e (i64_inj hx (by omega) h)
    have h2 : Int64.ofNat 0 < Int64.ofNat x := hlt.mpr (by omega)
    simp only [h1, h2, if_true, if_false]
    constructor
    · intro h
      exact absurd h (by decide)
    · intro h
      exact absurd h e
theorem nvN_div {f : Nat → Nat} {k : Nat} (h : 97 ≤ f k ∧ f k ≤ 122) : nvN f (k + 1) / 27 = nvN f k ∧ nvN f (k + 1) % 27 = f k - 96 := by
  show (27 * nvN f k + (f k - 96)) / 27 = nvN f k ∧ (27 * nvN f k + (f k - 96)) % 27 = f k - 96
  omega
theorem nvN_pos {f : Nat → Nat} {k : Nat} (h : 97 ≤ f k ∧ f k ≤ 122) : ¬ nvN f (k + 1) = 0 := by
  show ¬ (27 * nvN f k + (f k - 96)) = 0
  omega
theorem nvN_big {f : Nat → Nat} {k : Nat} (hk : k ≤ 8) (h : ∀ t, t < k → 97 ≤ f t ∧ f t ≤ 122) : nvN f k < 9223372036854775808 := by
  have hb := nvN_lt (f := f) k (fun t ht => (h t ht).2)
  have : 27 ^ k ≤ 27 ^ 8 := Nat.pow_le_pow_right (by omega) (by omega)
  have e8 : 27 ^ 8 = 282429536481 := by decide
  omega
theorem m_lettersIn {F : Nat} (hF : 4000000 ≤ F) {f : Nat → Nat} {k : Nat} (hk : k ≤ 8) (h : ∀ t, t < k → 97 ≤ f t ∧ f t ≤ 122) : f_M_lettersIn F (Int64.ofNat (nvN f k)) = some (Int32.ofNat k) := by
  unfold f_M_lettersIn
  have loop : ∀ j m i, j ≤ k → j < m → i + j = k → f_M_lettersIn_4 F m (Int32.ofNat i) (Int64.ofNat (nvN f j)) = some (Int32.ofNat k) := by
    intro j
    induction j with
    | zero =>
      intro m i _ hm hi
      obtain ⟨m, rfl⟩ : ∃ q, m = q + 1 := ⟨m - 1, by omega⟩
      rw [f_M_lettersIn_4, if_pos ((lg_pos (nvN_big (by omega) (fun t ht => absurd ht (Nat.not_lt_zero t)))).mpr rfl), show i = k by omega]
    | succ j ih =>
      intro m i hj hm hi
      obtain ⟨m, rfl⟩ : ∃ q, m = q + 1 := ⟨m - 1, by omega⟩
      have hb := nvN_big (f := f) (k := j + 1) (by omega) (fun t ht => h t (by omega))
      rw [f_M_lettersIn_4, if_neg (fun e => nvN_pos (h j (by omega)) ((lg_pos hb).mp e)), i64_div hb, (nvN_div (h j (by omega))).1, nk_succ]
      exact ih m (i + 1) (by omega) (by omega) (by omega)
  exact loop k F 0 (Nat.le_refl _) (by omega) (by omega)
theorem m_letterIn {F : Nat} (hF : 4000000 ≤ F) {f : Nat → Nat} {k x : Nat} (hk : k ≤ 8) (hx : x < k) (h : ∀ t, t < k → 97 ≤ f t ∧ f t ≤ 122) : f_M_letterIn F (Int64.ofNat (nvN f k)) (Int32.ofNat x) = some (Int32.ofNat (f x - 97)) := by
  refine xOk.eq ?_
  unfold f_M_letterIn
  refine xOk.bnde (m_lettersIn hF hk h) ?_
  have loop : ∀ j m, x ≤ j → j < k → j < m → f_M_letterIn_10 F m (Int32.ofNat x) (Int64.ofNat (nvN f (j + 1))) (Int32.ofNat j) = some (Int32.ofNat (f x - 97)) := by
    intro j
    induction j with
    | zero =>
      intro m hxj hj hm
      obtain ⟨m, rfl⟩ : ∃ q, m = q + 1 := ⟨m - 1, by omega⟩
      have hx0 : x = 0 := by omega
      subst hx0
      have hb := nvN_big (f := f) (k := 1) (by omega) (fun t ht => h t (by omega))
      have hd := nvN_div (h 0 (by omega))
      rw [f_M_letterIn_10, if_pos (Int32.le_refl _), i64_div hb, hd.1, c27, ← Int64.ofNat_mul, ← Int64.ofNat_sub _ _ (by have := Nat.div_mul_le_self (nvN f 1) 27; rw [hd.1] at this; exact this)]
      have e : nvN f (0 + 1) - nvN f 0 * 27 = f 0 - 96 := by
        show 27 * nvN f 0 + (f 0 - 96) - nvN f 0 * 27 = _
        omega
      rw [e, Int64.toInt32_ofNat', show (1 : Int32) = Int32.ofNat 1 from rfl, nk_sub (by have := (h 0 (by omega)).1; omega), Nat.sub_sub]
    | succ j ih =>
      intro m hxj hj hm
      obtain ⟨m, rfl⟩ : ∃ q, m = q + 1 := ⟨m - 1, by omega⟩
      have hb := nvN_big (f := f) (k := j + 1 + 1) (by omega) (fun t ht => h t (by omega))
      have hd := nvN_div (h (j + 1) (by omega))
      rw [f_M_letterIn_10]
      by_cases e : x = j + 1
      · subst e
        rw [if_pos (Int32.le_refl _), i64_div hb, hd.1, c27, ← Int64.ofNat_mul, ← Int64.ofNat_sub _ _ (by have := Nat.div_mul_le_self (nvN f (j + 1 + 1)) 27; rw [hd.1] at this; exact this)]
        have e : nvN f (j + 1 + 1) - nvN f (j + 1) * 27 = f (j + 1) - 96 := by
          show 27 * nvN f (j + 1) + (f (j + 1) - 96) - nvN f (j + 1) * 27 = _
          omega
        rw [e, Int64.toInt32_ofNat', show (1 : Int32) = Int32.ofNat 1 from rfl, nk_sub (by have := (h (j + 1) (by omega)).1; omega), Nat.sub_sub]
      · rw [if_neg (nk_nge (by omega) (by omega)), i64_div hb, hd.1, ← nk_succ, show Int32.ofNat j + 1 + -1 = Int32.ofNat j from by rw [Int32.add_assoc]; simp]
        exact ih m (by omega) (by omega) (by omega)
  have hk1 : Int32.ofNat k - 1 = Int32.ofNat (k - 1) := by rw [show (1 : Int32) = Int32.ofNat 1 from rfl, nk_sub (by omega)]
  rw [hk1]
  have := loop (k - 1) F (by omega) (by omega) (by omega)
  rw [show k - 1 + 1 = k by omega] at this
  rw [this]
  exact xOk.pur rfl
