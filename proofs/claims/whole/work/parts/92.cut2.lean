/-! the text: the reference's cut, its loops -/
theorem nvN_lt {f : Nat → Nat} : ∀ k, (∀ t, t < k → f t ≤ 122) → nvN f k < 27 ^ k := by
  intro k
  induction k with
  | zero => intro _; show 0 < 1; omega
  | succ k ih =>
    intro h
    have h1 := ih (fun t ht => h t (by omega))
    have h2 := h k (by omega)
    show 27 * nvN f k + (f k - 96) < 27 ^ (k + 1)
    rw [Nat.pow_succ]
    omega
theorem nv_step {b : Nat → Int32} {a k : Nat} : nv b a (k + 1) = 27 * nv b a k + (xN (b (a + k)) - 96) := rfl
theorem key64 : ∀ k, k < 21 → xKeys.getD k 0 = Int64.ofNat (kwL.getD k 0) := by decide +kernel
theorem kwL_inj : ∀ k, k < 21 → ∀ q, q < 21 → kwL.getD k 0 = kwL.getD q 0 → k = q := by decide +kernel
theorem kwL_lt : ∀ k, k < 21 → kwL.getD k 0 < 9223372036854775808 := by decide +kernel
theorem i64_inj {x y : Nat} (hx : x < 9223372036854775808) (hy : y < 9223372036854775808) (h : Int64.ofNat x = Int64.ofNat y) : x = y := by
  have h1 : (Int64.ofNat x).toInt = (x : Int) := Int64.toInt_ofNat_of_lt hx
  have h2 : (Int64.ofNat y).toInt = (y : Int) := Int64.toInt_ofNat_of_lt hy
  rw [h, h2] at h1
  omega
theorem lg_z {x y : Int64} : lg_cmp x y = 0 ↔ x = y := by
  unfold lg_cmp
  constructor
  · intro h
    by_cases e : x = y
    · exact e
    · simp only [e, if_false] at h
      split at h <;> exact absurd h (by decide)
  · intro h
    subst h
    simp
theorem mk100 : ∀ k, k < 21 → mk (100 + k) = 20 + k := by decide
theorem wdK_step {N q : Nat} (hq : q < 21) : mk (match frst (kwB N) (q + 1) with | some k => 100 + k | none => 2) = if kwL.getD q 0 = N then 20 + q else mk (match frst (kwB N) q with | some k => 100 + k | none => 2) := by
  by_cases e : kwL.getD q 0 = N
  · rw [if_pos e]
    rw [frst_at (p := kwB N) (k := q) (fun j hj => decide_eq_false (fun h => by
      have := kwL_inj j (by omega) q hq (h.trans e.symm)
      omega)) (decide_eq_true e) (q + 1) (by omega)]
    exact mk100 q hq
  · rw [if_neg e]
    have : frst (kwB N) (q + 1) = frst (kwB N) q := by
      show (match frst (kwB N) q with | some k => some k | none => if kwB N q = true then some q else none) = _
      cases frst (kwB N) q with
      | some k => rfl
      | none =>
        show (if kwB N q = true then some q else none) = none
        rw [show kwB N q = false from decide_eq_false e]
        rfl
    rw [this]
theorem app_c : ∀ c, c < 123 → 97 ≤ c → Int32.toInt64 ((Int32.ofNat c - 97) + 1) = Int64.ofNat (c - 96) := by decide +kernel
theorem m_appends {N c : Nat} (h1 : 97 ≤ c) (h2 : c ≤ 122) : f_M_appends (Int64.ofNat N) (Int32.ofNat c) = some (Int64.ofNat (27 * N + (c - 96))) := by
  unfold f_M_appends
  rw [if_neg (by rw [show (0 : Int32) = Int32.ofNat 0 from rfl, nk_eq (by omega) (by omega)]; omega), app_c c (by omega) h1, Int64.ofNat_add, Int64.ofNat_mul]
  rfl
theorem mb_in {b : Nat → Int32} {n a : Nat} (h : a < n) : mb b n a = b a &&& 255 := by
  unfold mb
  rw [if_neg (by omega)]
theorem mb_out {b : Nat → Int32} {n a : Nat} (h : n ≤ a) : mb b n a = 0 := by
  unfold mb
  rw [if_pos h]
theorem m_cut_85 {F : Nat} (hF : 4000000 ≤ F) {b : Nat → Int32} {n i a : Nat} {I0 I : XI} {L0 L : XL} (hT : txM b n I0) (hK : keysR L0) (h : cI b n i I0 L0 I L) (hi : i < 401) (ha : a < n) (hpl : plc b n i = a) (hl : isLt (b a) = true) {k7 : Int32 → XI → XL → Option (XI × XL)} {Q : XI × XL → Prop} (hk : ∀ J L', cI b n (i + 1) I0 L0 J L' → xOk (k7 (Int32.ofNat (enT b n a)) J L') Q) : xOk (f_M_cut_85 F k7 F (Int32.ofNat a) 0 ((0 : Int32).toInt64) I L) Q := by
  have hT' := txM_same hT h.2.1.1
  have hn := hT.1
  have hend : ∀ k, a + k = run (lt b) n a → xOk (f_M_cut_135 F k7 (Int32.ofNat a) (Int32.ofNat k) (Int64.ofNat (nv b a (min k 8))) (if Int32.ofNat k ≤ 8 then 1 else 3) I L) Q := by
    intro k hm
    have g2 := run_le (p := lt b) (n := n) _ a rfl (by omega)
    have een : enT b n a = a + k := by
      unfold enT
      rw [if_neg (by omega), if_pos hl, hm]
    have ekd : kd b n i = if 8 < k then 1 else wdK (nv b a k) := by
      unfold kd kdT
      rw [hpl, if_neg (by omega), if_pos hl, ← hm, Nat.add_sub_cancel_left]
    have eln : nm b n i = nv b a k := by
      unfold nm ln
      rw [hpl, ← hm, Nat.add_sub_cancel_left]
    have h79 : ∀ v : Int32, v = Int32.ofNat (mk (kd b n i)) → xOk (f_M_cut_179 F k7 (Int32.ofNat a) (Int32.ofNat k) (Int64.ofNat (nv b a (min k 8))) v I L) Q := by
      intro v hv
      unfold f_M_cut_179
      refine (m_token h (by omega) hv (by rw [hpl]) (fun h3 => ?_) (fun h2 => ?_)).bnd (fun r hr => ?_)
      · rw [ekd] at h3
        split at h3
        · cases h3
        · rcases wdK_ok (nv b a k) with h' | ⟨j, _, h', _⟩ <;> rw [h'] at h3 <;> omega
      · rw [ekd] at h2
        split at h2
        · cases h2
        · rw [eln, Nat.min_eq_left (by omega)]
      · rw [nk_add, ← een]
        exact hk _ _ hr
    unfold f_M_cut_135
    by_cases e : 8 < k
    · refine xOk.pos (nk_lt_t e (by omega)) (h79 _ ?_)
      rw [if_neg (show ¬ Int32.ofNat k ≤ 8 from nk_nge (N := k) (k := 8) (by omega) (by omega)), ekd, if_pos e]
      rfl
    · refine xOk.neg (nk_lt_f (a := 8) (by omega) (by omega)) ?_
      rw [if_pos (show Int32.ofNat k ≤ 8 from nk_le_t (b := 8) (by omega) (by omega))]
      rw [if_neg e] at ekd
      have hN : nv b a (min k 8) < 9223372036854775808 := by
        rw [Nat.min_eq_left (by omega)]
        have hb := nvN_lt (f := fun t => xN (b (a + t))) k (fun t ht => (lt_ok (run_all (p := lt b) (n := n) _ a rfl (a + t) (by omega) (by omega))).2.2)
        have : 27 ^ k ≤ 27 ^ 8 := Nat.pow_le_pow_right (by omega) (by omega)
        have e8 : 27 ^ 8 = 282429536481 := by decide
        show nvN _ k < _
        omega
      have heq : ∀ q, q < 21 → (lg_cmp (L 138 q) (Int64.ofNat (nv b a (min k 8))) = 0 ↔ kwL.getD q 0 = nv b a k) := by
        intro q hq
        rw [lg_z, h.2.1.2 138 (by omega), hK q hq, key64 q hq]
        constructor
        · intro e'
          have := i64_inj (kwL_lt q hq) hN e'
          rw [this, Nat.min_eq_left (by omega)]
        · intro e'
          rw [e', Nat.min_eq_left (by omega)]
      refine xloop 21 (fun m (v : Int32) q => f_M_cut_146 F (fun v1 v3 v4 v6 I L => f_M_cut_179 F k7 v1 v3 v4 v6 I L) m (Int32.ofNat a) (Int32.ofNat k) (Int64.ofNat (nv b a (min k 8))) v (Int32.ofNat q) I L) (fun q v => v = Int32.ofNat (mk (match frst (kwB (nv b a k)) q with | some k => 100 + k | none => 2))) ?_ ?_ F 1 0 (by omega) (by omega) rfl
      · intro m v q hq hP ih
        show xOk (f_M_cut_146 F _ (m + 1) _ _ _ v (Int32.ofNat q) I L) Q
        rw [f_M_cut_146, nk_succ, nk_N (by omega)]
        refine xOk.neg (nk_nge hq (by decide)) (xOk.ck (nk_in hq (by omega)) ?_)
        by_cases e' : kwL.getD q 0 = nv b a k
        · refine xOk.pos ((heq q hq).mpr e') (ih _ ?_)
          rw [wdK_step hq, if_pos e', show (20 : Int32) = Int32.ofNat 20 from rfl, nk_add]
        · refine xOk.neg (fun h => e' ((heq q hq).mp h)) (ih _ ?_)
          rw [wdK_step hq, if_neg e']
          exact hP
      · intro m v hP
        show xOk (f_M_cut_146 F _ (m + 1) _ _ _ v (Int32.ofNat 21) I L) Q
        rw [f_M_cut_146]
        refine xOk.pos (Int32.le_refl _) (h79 v ?_)
        rw [hP, ekd]
        rfl
  have loop : ∀ m k, n - (a + k) < m → a + k ≤ n → run (lt b) n (a + k) = run (lt b) n a → xOk (f_M_cut_85 F k7 m (Int32.ofNat a) (Int32.ofNat k) (Int64.ofNat (nv b a (min k 8))) I L) Q := by
    intro m
    induction m with
    | zero => intro k h1 _ _; omega
    | succ m ih =>
      intro k h1 h2 h3
      rw [f_M_cut_85, nk_add]
      refine xOk.bnde (m_byteAt hT' (by omega)) (xOk.bnde m_isLetter ?_)
      by_cases e : n ≤ a + k
      · rw [mb_out e]
        refine xOk.pos rfl (hend k ?_)
        rw [← h3, run_e e]
      · have hbk := (hT.2.2 (a + k) (by omega)).2
        rw [mb_in (by omega), by_lt hbk]
        cases hb : isLt (b (a + k)) with
        | false =>
          refine xOk.pos rfl (hend k ?_)
          rw [← h3, run_f (p := lt b) (a := a + k) (by omega) hb]
        | true =>
          refine xOk.neg (by decide) ?_
          have hnext := ih (k + 1) (by omega) (by omega) (by rw [← h3, run_t (p := lt b) (a := a + k) (by omega) hb]; rfl)
          rw [nk_succ]
          by_cases e8 : 8 ≤ k
          · refine xOk.pos (nk_le_t (a := 8) e8 (by omega)) ?_
            rw [Nat.min_eq_right (by omega)] at hnext ⊢
            exact hnext
          · refine xOk.neg (nk_nge (N := 8) (by omega) (by omega)) (xOk.bnde (m_byteAt hT' (by omega)) ?_)
            have hlo := lt_ok hb
            rw [mb_in (by omega), by_lv hbk hb, hlo.1, Nat.min_eq_left (by omega)]
            refine xOk.bnde (m_appends hlo.2.1 hlo.2.2) ?_
            rw [Nat.min_eq_left (by omega), nv_step] at hnext
            exact hnext
  exact loop F 0 (by omega) (by omega) rfl
theorem m_cut_208 {F : Nat} (hF : 4000000 ≤ F) {b : Nat → Int32} {n i a : Nat} {I0 I : XI} {L0 L : XL} (hT : txM b n I0) (h : cI b n i I0 L0 I L) (hi : i < 401) (ha : a < n) (hpl : plc b n i = a) (hl : isLt (b a) = false) (hd : isDg (b a) = true) {k7 : Int32 → XI → XL → Option (XI × XL)} {Q : XI × XL → Prop} (hk : ∀ J L', cI b n (i + 1) I0 L0 J L' → xOk (k7 (Int32.ofNat (enT b n a)) J L') Q) : xOk (f_M_cut_208 F k7 F (Int32.ofNat a) 0 0 I L) Q := by
  have hT' := txM_same hT h.2.1.1
  have hn := hT.1
  have hend : ∀ k, a + k = run (dg b) n a → xOk (f_M_cut_261 F k7 (Int32.ofNat a) (Int32.ofNat k) (vlT b a (min k 4)) (if Int32.ofNat k ≤ 4 then 2 else 3) I L) Q := by
    intro k hm
    have g2 := run_le (p := dg b) (n := n) _ a rfl (by omega)
    have een : enT b n a = a + k := by
      unfold enT
      rw [if_neg (by omega), hl, if_neg (by decide), if_pos hd, hm]
    have ekd : kd b n i = if 4 < k then 1 else 3 := by
      unfold kd kdT
      rw [hpl, if_neg (by omega), hl, if_neg (by decide), if_pos hd, ← hm, Nat.add_sub_cancel_left]
    unfold f_M_cut_261
    refine (m_token h (by omega) ?_ (by rw [hpl]) (fun h3 => ?_) (fun h2 => ?_)).bnd (fun r hr => ?_)
    · rw [ekd]
      by_cases e : 4 < k
      · rw [if_pos e, if_neg (show ¬ Int32.ofNat k ≤ 4 from nk_nge (N := k) (k := 4) (by omega) (by omega))]; rfl
      · rw [if_neg e, if_pos (show Int32.ofNat k ≤ 4 from nk_le_t (b := 4) (by omega) (by omega))]; rfl
    · rw [ekd] at h3
      split at h3
      · cases h3
      · unfold vl
        rw [hpl, ← hm, Nat.add_sub_cancel_left, Nat.min_eq_left (by omega)]
    · rw [ekd] at h2
      split at h2 <;> cases h2
    · rw [nk_add, ← een]
      exact hk _ _ hr
  have loop : ∀ m k, n - (a + k) < m → a + k ≤ n → run (dg b) n (a + k) = run (dg b) n a → xOk (f_M_cut_208 F k7 m (Int32.ofNat a) (Int32.ofNat k) (vlT b a (min k 4)) I L) Q := by
    intro m
    induction m with
    | zero => intro k h1 _ _; omega
    | succ m ih =>
      intro k h1 h2 h3
      rw [f_M_cut_208, nk_add]
      refine xOk.bnde (m_byteAt hT' (by omega)) (xOk.bnde m_isDigit ?_)
      by_cases e : n ≤ a + k
      · rw [mb_out e]
        refine xOk.pos rfl (hend k ?_)
        rw [← h3, run_e e]
      · have hbk := (hT.2.2 (a + k) (by omega)).2
        rw [mb_in (by omega), by_dg hbk]
        cases hb : isDg (b (a + k)) with
        | false =>
          refine xOk.pos rfl (hend k ?_)
          rw [← h3, run_f (p := dg b) (a := a + k) (by omega) hb]
        | true =>
          refine xOk.neg (by decide) ?_
          have hnext := ih (k + 1) (by omega) (by omega) (by rw [← h3, run_t (p := dg b) (a := a + k) (by omega) hb]; rfl)
          rw [nk_succ]
          by_cases e4 : 4 ≤ k
          · refine xOk.pos (nk_le_t (a := 4) e4 (by omega)) ?_
            rw [Nat.min_eq_right (by omega)] at hnext ⊢
            exact hnext
          · refine xOk.neg (nk_nge (N := 4) (by omega) (by omega)) (xOk.bnde (m_byteAt hT' (by omega)) ?_)
            rw [mb_in (by omega), by_dv hbk hb, Nat.min_eq_left (by omega)]
            rw [Nat.min_eq_left (by omega), vlT_step] at hnext
            exact hnext
  exact loop F 0 (by omega) (by omega) rfl
theorem m_cut {F : Nat} (hF : 4000000 ≤ F) {b : Nat → Int32} {n : Nat} {I : XI} {L : XL} (hT : txM b n I) (hK : keysR L) : xOk (f_M_cut F I L) (fun r => tkM b n r.1 r.2 ∧ Same scCu I r.1 ∧ sameL L r.2) := by
  unfold f_M_cut
  refine xOk.st ?_
  have hn := hT.1
  have loop : ∀ m v i J L', n - v < m → v ≤ n → i ≤ 401 → (i ≤ 400 → run (bl b) n v = plc b n i) → (∀ j, j < i → ¬ kd b n j = 0) → cI b n i I L J L' → xOk (f_M_cut_7 F m (Int32.ofNat v) J L') (fun r => tkM b n r.1 r.2 ∧ Same scCu I r.1 ∧ sameL L r.2) := by
    intro m
    induction m with
    | zero => intro v i J L' h1 _ _ _ _ _; omega
    | succ m ih =>
      intro v i J L' h1 h2 h3 h4 h5 h6
      have hT' := txM_same hT h6.2.1.1
      rw [f_M_cut_7, h6.1]
      by_cases e401 : i = 401
      · rw [e401]
        refine xOk.pos (by decide) (xOk.pur ⟨fun j hj => h6.2.2 j ?_, h6.2.1⟩)
        have := hj.1
        omega
      · have h4 := h4 (by omega)
        refine xOk.neg (show ¬ Int32.ofNat 400 < Int32.ofNat i from nk_lt_f (by omega) (by omega)) (xOk.bnde (m_byteAt hT' (by omega)) ?_)
        rw [hT'.2.1]
        by_cases e : v < n
        · refine xOk.pos (nk_lt_t e (by omega)) ?_
          have hbk := (hT.2.2 v e).2
          rw [mb_in e, nk_succ]
          have e9 := by_eq hbk (c := 9) (by decide) (by decide)
          have e10 := by_eq hbk (c := 10) (by decide) (by decide)
          have e13 := by_eq hbk (c := 13) (by decide) (by decide)
          have e32 := by_eq hbk (c := 32) (by decide) (by decide)
          have blank : isBl (b v) = true → xOk (f_M_cut_7 F m (Int32.ofNat (v + 1)) J L') (fun r => tkM b n r.1 r.2 ∧ Same scCu I r.1 ∧ sameL L r.2) := by
            intro hb
            exact ih (v + 1) i J L' (by omega) (by omega) h3 (fun _ => by rw [← h4, run_t (p := bl b) e hb]) h5 h6
          have isB : isBl (b v) = (decide (b v = 9) || (decide (b v = 10) || (decide (b v = 13) || decide (b v = 32)))) := rfl
          by_cases c9 : b v = 9
          · exact xOk.pos (e9.mpr c9) (blank (by rw [isB, decide_eq_true c9]; rfl))
          refine xOk.neg (fun h => c9 (e9.mp h)) ?_
          by_cases c10 : b v = 10
          · exact xOk.pos (e10.mpr c10) (blank (by rw [isB, decide_eq_true c10, Bool.true_or, Bool.or_true]))
          refine xOk.neg (fun h => c10 (e10.mp h)) ?_
          by_cases c13 : b v = 13
          · exact xOk.pos (e13.mpr c13) (blank (by rw [isB, decide_eq_true c13, Bool.true_or, Bool.or_true, Bool.or_true]))
          refine xOk.neg (fun h => c13 (e13.mp h)) ?_
          by_cases c32 : b v = 32
          · exact xOk.pos (e32.mpr c32) (blank (by rw [isB, decide_eq_true c32, Bool.or_true, Bool.or_true, Bool.or_true]))
          refine xOk.neg (fun h => c32 (e32.mp h)) ?_
          have nb : isBl (b v) = false := by rw [isB, decide_eq_false c9, decide_eq_false c10, decide_eq_false c13, decide_eq_false c32]; rfl
          have hpl : plc b n i = v := by rw [← h4, run_f (p := bl b) e nb]
          have hne : ¬ kd b n i = 0 := by rw [kd_zero]; omega
          have hgt := enT_gt (b := b) e
          have next : ∀ K L'', cI b n (i + 1) I L K L'' → xOk (f_M_cut_7 F m (Int32.ofNat (enT b n v)) K L'') (fun r => tkM b n r.1 r.2 ∧ Same scCu I r.1 ∧ sameL L r.2) := by
            intro K L'' hc
            refine ih (enT b n v) (i + 1) K L'' (by omega) hgt.2 (by omega) (fun _ => ?_) (fun j hj => ?_) hc
            · rw [← hpl]; rfl
            · by_cases e' : j = i
              · rw [e']; exact hne
              · exact h5 j (by omega)
          refine xOk.bnde m_isLetter ?_
          rw [by_lt hbk]
          cases hl : isLt (b v) with
          | true => exact xOk.neg (by decide) (m_cut_85 hF hT hK h6 (by omega) e hpl hl next)
          | false =>
            refine xOk.pos rfl (xOk.bnde m_isDigit ?_)
            rw [by_dg hbk]
            cases hd : isDg (b v) with
            | true => exact xOk.neg (by decide) (m_cut_208 hF hT h6 (by omega) e hpl hl hd next)
            | false =>
              refine xOk.pos rfl (xOk.bnde (m_byteAt hT' (by omega)) ?_)
              rw [m_sign]
              have ekd : kd b n i = if isSg (b v) = true then xN (b v) else 1 := by
                unfold kd kdT
                rw [hpl, if_neg (by omega), hl, if_neg (by decide), hd, if_neg (by decide)]
              have een : enT b n v = v + 1 := by
                unfold enT
                rw [if_neg (by omega), hl, if_neg (by decide), hd, if_neg (by decide)]
              have hk3 : ¬ kd b n i = 3 ∧ ¬ kd b n i = 2 := by
                rw [ekd]
                split
                · rename_i hg
                  have := isSg_ok hg
                  omega
                · omega
              have ht := m_token h6 (by omega) (show sgk (b v &&& 255) = _ by rw [sgk_ok hbk, ekd]) (show Int32.ofNat v = _ by rw [hpl]) (v := 0) (fun h => absurd h hk3.1) (m := (0 : Int32).toInt64) (fun h => absurd h hk3.2)
              obtain ⟨q, hq, hc⟩ := ht
              rw [hq]
              refine xOk.bnde (a := ((1 : Int32), q.1, q.2)) rfl ?_
              show xOk (f_M_cut_7 F m (Int32.ofNat v + 1) q.1 q.2) _
              rw [nk_succ, ← een]
              exact next _ _ hc
        · have hv : n ≤ v := by omega
          refine xOk.neg (nk_lt_f hv (by omega)) ?_
          have hpl : plc b n i = n := by
            rw [← h4, run_e hv]
            omega
          have h0 : kd b n i = 0 := kd_zero.mpr (by omega)
          refine (m_token h6 (by omega) (k := 0) (by rw [h0]; rfl) (show Int32.ofNat n = _ by rw [hpl]) (v := 0) (fun h => by omega) (m := (0 : Int32).toInt64) (fun h => by omega)).bnd (fun q hc => xOk.pur ⟨fun j hj => hc.2.2 j ?_, hc.2.1⟩)
          by_cases e' : j ≤ i
          · omega
          · exact absurd h0 (hj.2 i (by omega)).1
  refine loop F 0 0 _ L (by omega) (Nat.zero_le _) (by omega) (fun _ => rfl) (fun j hj => absurd hj (by omega)) ⟨xput_eq, ⟨Same.put rfl, fun o _ => rfl⟩, fun j hj => absurd hj (by omega)⟩
