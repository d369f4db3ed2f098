/-! most: the class -/
theorem nk_or {a b : Nat} (ha : a < 2147483648) (hb : b < 2147483648) : Int32.ofNat a ||| Int32.ofNat b = Int32.ofNat (a ||| b) := by
  have h := Nat.or_lt_two_pow (n := 31) ha hb
  apply uN_inj
  rw [uN_or, uN_nat (by omega), uN_nat (by omega), uN_nat (by omega)]
theorem nk_and {a b : Nat} (ha : a < 2147483648) (hb : b < 2147483648) : Int32.ofNat a &&& Int32.ofNat b = Int32.ofNat (a &&& b) := by
  have h : a &&& b ≤ a := Nat.and_le_left
  apply uN_inj
  rw [uN_and, uN_nat (by omega), uN_nat (by omega), uN_nat (by omega)]
theorem clr_eq {m u : Nat} (hm : m < 1073741824) (hu : u < 30) : (Int32.ofNat m &&& (Int32.ofNat (2 ^ u) ^^^ (-1))) = Int32.ofNat (clr m u) := by
  rw [← nk_shl (by omega)]
  exact bit_clr hm hu
theorem mx_put {A : Nat → Nat → Prop} {B : Nat → Prop} {K : XI} {x : Nat} {w : Int32} (hA : ∀ m', m' < 64 → isMx (A m') (K 36 m')) (hB : isMx B w) (hx : x < 64) (hb : ∀ k, A x k ∨ B k → k ≤ 40) : ∀ m', m' < 64 → isMx (fun k => A m' k ∨ (m' = x ∧ B k)) (xput K 36 x (if K 36 x < w then w else K 36 x) 36 m') := by
  intro m' hm
  rw [xput_at]
  by_cases e : m' = x
  · rw [if_pos e, e]
    exact isMx_congr (isMx_or (hA x hx) hB hb) (fun k => ⟨fun h => h.elim Or.inl (fun h => Or.inr ⟨rfl, h⟩), fun h => h.elim Or.inl (fun h => Or.inr h.2)⟩)
  · rw [if_neg e]
    exact isMx_congr (hA m' hm) (fun k => ⟨Or.inl, fun h => h.elim id (fun h => absurd h.1 e)⟩)
theorem p6_lt {c : Nat} (hc : c < 6) : 2 ^ c < 64 := Nat.pow_lt_pow_right (a := 2) (n := 6) (by omega) hc
theorem blk_lt {p3 p0 : Bool} {c : Nat} (hc : c < 6) : blk p3 p0 c < 64 := by
  have h := p6_lt hc
  unfold blk
  refine Nat.or_lt_two_pow (n := 6) ?_ ?_
  · split <;> omega
  · split <;> omega
theorem blk_eq {p3 p0 : Bool} {c : Nat} (hc : c < 6) : ((if b2 p3 = 0 then (Int32.ofNat (2 ^ c) >>> (1 &&& 31)) else 0) ||| (if b2 p0 = 0 then Int32.ofNat (2 ^ c) else 0)) = Int32.ofNat (blk p3 p0 c) := by
  have h := p6_lt hc
  have e : (Int32.ofNat (2 ^ c) >>> (1 &&& 31)) = Int32.ofNat (2 ^ c / 2) := nk_shr (m := 2 ^ c) (k := 1) (by omega) (by omega)
  cases p3 <;> cases p0
  · show (Int32.ofNat (2 ^ c) >>> (1 &&& 31)) ||| Int32.ofNat (2 ^ c) = Int32.ofNat (2 ^ c / 2 ||| 2 ^ c)
    rw [e, nk_or (by omega) (by omega)]
  · show (Int32.ofNat (2 ^ c) >>> (1 &&& 31)) ||| Int32.ofNat 0 = Int32.ofNat (2 ^ c / 2 ||| 0)
    rw [e, nk_or (by omega) (by omega)]
  · show Int32.ofNat 0 ||| Int32.ofNat (2 ^ c) = Int32.ofNat (0 ||| 2 ^ c)
    rw [nk_or (by omega) (by omega)]
  · show Int32.ofNat 0 ||| Int32.ofNat 0 = Int32.ofNat (0 ||| 0)
    rw [nk_or (by omega) (by omega)]
theorem isMx_succ {R : Nat → Prop} {k : Nat} (h1 : R k) (h2 : ∀ j, R j → j ≤ k) : isMx (fun k' => ∃ j, R j ∧ k' = j + 1) (Int32.ofNat k + 1) := by
  rw [nk_succ]
  exact Or.inl ⟨k + 1, ⟨k, h1, rfl⟩, fun j hj => by
    obtain ⟨j', h, rfl⟩ := hj
    have := h2 j' h
    omega, rfl⟩
theorem c_goOverCell {F : Nat} (hF : 4000000 ≤ F) {T : XT} {I : XI} (hT : tbC 17 T I) (hO : tOk T) {i : Nat} (hi : i < 30) (hM : ∀ m, m < 64 → isMx (cR T i m) (I 35 m)) : xOk (f_Paths_goOverCell F (Int32.ofNat i) I) (fun J => (∀ m, m < 64 → isMx (cR T (i + 1) m) (J 35 m)) ∧ Same scH I J) := by
  have hc : i % 6 < 6 := Nat.mod_lt _ (by omega)
  have hp := p6_lt hc
  unfold f_Paths_goOverCell
  refine xOk.bnde (c_piecesFit (s := 3) hT hO hi (by omega)) ?_
  rw [nk_m6 hi, nk_shl (by omega)]
  unfold f_Paths_goOverCell_26
  refine xOk.bnde (c_piecesFit (s := 0) hT hO hi (by omega)) ?_
  unfold f_Paths_goOverCell_43
  refine (c_fill hF (A := 36) (n := 64) (v := -1) (by omega)).bnd (fun J hJ => ?_)
  rw [blk_eq hc]
  have hb6 := blk_lt (p3 := pf T i 3) (p0 := pf T i 0) hc
  have hJs : Same scH I J := hJ.1.mono (fun o j e => by
    have h1 := e
    unfold scH at h1
    unfold sco
    simp only [Bool.or_eq_false_iff] at h1
    exact h1.2.1.2)
  have hJ35 : J 35 = I 35 := hJ.1.row 35 (fun _ => rfl)
  refine xloop 64 (fun n (K : XI) q => f_Paths_goOverCell_56 F n (Int32.ofNat i) (Int32.ofNat (2 ^ (i % 6))) (Int32.ofNat (blk (pf T i 3) (pf T i 0) (i % 6))) (Int32.ofNat q) K) (fun q K => Same scH I K ∧ K 35 = I 35 ∧ ∀ m', m' < 64 → isMx (fun k => ∃ m, m < q ∧ stp (cR T i) T i m m' k) (K 36 m')) ?_ ?_ F J 0 (by omega) (by omega) ⟨hJs, hJ35, fun m' hm => Or.inr ⟨fun k hk => by
    obtain ⟨m, h, -⟩ := hk
    omega, hJ.2 m' hm⟩⟩
  · rintro n K q hq ⟨hK, hK35, hK36⟩ ih
    show xOk (f_Paths_goOverCell_56 F (n + 1) _ _ _ (Int32.ofNat q) K) _
    rw [f_Paths_goOverCell_56]
    refine xOk.neg (nk_nge hq (by decide)) (xOk.ck (nk_in hq (by omega)) ?_)
    simp only [nk_succ q, nk_N (show q < 2147483648 by omega), clr_eq (show q < 1073741824 by omega) (show i % 6 < 30 by omega), nk_or (show q < 2147483648 by omega) (show 2 ^ (i % 6) < 2147483648 by omega), nk_and (show q < 2147483648 by omega) (show blk (pf T i 3) (pf T i 0) (i % 6) < 2147483648 by omega)]
    have hx := clr_lt (u := i % 6) hq
    have hy := set_lt hq hc
    simp only [nk_N (show clr q (i % 6) < 2147483648 by omega), nk_N (show q ||| 2 ^ (i % 6) < 2147483648 by omega), hK35]
    have bd : ∀ m' k, (∃ m, m < q ∧ stp (cR T i) T i m m' k) → k ≤ 31 := by
      rintro m' k ⟨m, hm, h⟩
      rcases h with ⟨h1, -⟩ | ⟨j, h1, h2, -⟩
      · have := (cR_bd i m k h1).2; omega
      · have := (cR_bd i m j h1).2; omega
    rcases hM q hq with ⟨kk, k1, k2, k3⟩ | ⟨k1, k2⟩
    · have hkk := (cR_bd i q kk k1).2
      rw [k3]
      refine xOk.neg (show ¬ Int32.ofNat kk = -1 from by rw [nk_m1 (by omega)]; exact id) (xOk.ck (nk_in hx (by omega)) (xOk.ck (nk_in hq (by omega)) (xOk.ck (nk_in hx (by omega)) (xOk.st ?_))))
      have hB : isMx (cR T i q) (Int32.ofNat kk) := Or.inl ⟨kk, k1, k2, rfl⟩
      have h1 := mx_put hK36 hB hx (fun k hk => by
        rcases hk with hk | hk
        · have := bd _ k hk; omega
        · have := k2 k hk; omega)
      obtain ⟨K1, hK1⟩ : ∃ K1, K1 = xput K 36 (clr q (i % 6)) (if K 36 (clr q (i % 6)) < Int32.ofNat kk then Int32.ofNat kk else K 36 (clr q (i % 6))) := ⟨_, rfl⟩
      rw [← hK1] at h1 ⊢
      have hS1 : Same scH I K1 := by rw [hK1]; exact hK.put' rfl
      have h351 : K1 35 = I 35 := by rw [hK1, xput_neo (by omega)]; exact hK35
      refine xOk.bnde (c_isPiece (tbC_X hT hS1.HX) hO hi) ?_
      have nostep : (isP T i = true → fr6 (pf T i 3) (pf T i 0) (i % 6) q = true → False) → ∀ m', m' < 64 → isMx (fun k => ∃ m, m < q + 1 ∧ stp (cR T i) T i m m' k) (K1 36 m') := by
        intro hno m' hm'
        refine isMx_congr (h1 m' hm') (fun k => ⟨fun h => ?_, fun h => ?_⟩)
        · rcases h with ⟨m, hm, h⟩ | ⟨e, h⟩
          · exact ⟨m, by omega, h⟩
          · exact ⟨q, by omega, Or.inl ⟨h, e⟩⟩
        · obtain ⟨m, hm, h⟩ := h
          by_cases e : m = q
          · rw [e] at h
            rcases h with ⟨h, e'⟩ | ⟨j, -, -, p1, p2, -⟩
            · exact Or.inr ⟨e', h⟩
            · exact (hno p1 p2).elim
          · exact Or.inl ⟨m, by omega, h⟩
      cases hpi : isP T i with
      | false => exact xOk.pos rfl (ih K1 ⟨hS1, h351, nostep (fun h => by rw [hpi] at h; cases h)⟩)
      | true =>
        refine xOk.neg (by decide) ?_
        have hbf := blk_fr (pf T i 3) (pf T i 0) q hq (i % 6) hc
        cases hfr : fr6 (pf T i 3) (pf T i 0) (i % 6) q with
        | false =>
          rw [hfr] at hbf
          refine xOk.neg (show ¬ Int32.ofNat (q &&& blk (pf T i 3) (pf T i 0) (i % 6)) = Int32.ofNat 0 from ?_) (ih K1 ⟨hS1, h351, nostep (fun _ h => by rw [hfr] at h; cases h)⟩)
          have hle : q &&& blk (pf T i 3) (pf T i 0) (i % 6) ≤ q := Nat.and_le_left
          rw [nk_eq (by omega) (by omega)]
          exact of_decide_eq_false hbf
        | true =>
          rw [hfr] at hbf
          refine xOk.pos (show Int32.ofNat (q &&& blk (pf T i 3) (pf T i 0) (i % 6)) = Int32.ofNat 0 from by rw [of_decide_eq_true hbf]) (xOk.ck (nk_in hy (by omega)) (xOk.ck (nk_in hq (by omega)) (xOk.ck (nk_in hy (by omega)) (xOk.st ?_))))
          have h2 := mx_put h1 (isMx_succ k1 k2) hy (fun k hk => by
            rcases hk with (hk | hk) | ⟨j, hj, rfl⟩
            · have := bd _ k hk; omega
            · have := k2 k hk.2; omega
            · have := k2 j hj; omega)
          rw [h351, k3]
          refine ih _ ⟨hS1.put' rfl, by rw [xput_neo (by omega)]; exact h351, fun m' hm' => isMx_congr (h2 m' hm') (fun k => ⟨fun h => ?_, fun h => ?_⟩)⟩
          · rcases h with (⟨m, hm, h⟩ | ⟨e, h⟩) | ⟨e, j, hj, hk⟩
            · exact ⟨m, by omega, h⟩
            · exact ⟨q, by omega, Or.inl ⟨h, e⟩⟩
            · exact ⟨q, by omega, Or.inr ⟨j, hj, hk, hpi, hfr, e⟩⟩
          · obtain ⟨m, hm, h⟩ := h
            by_cases e : m = q
            · rw [e] at h
              rcases h with ⟨h, e'⟩ | ⟨j, hj, hk, -, -, e'⟩
              · exact Or.inl (Or.inr ⟨e', h⟩)
              · exact Or.inr ⟨e', j, hj, hk⟩
            · exact Or.inl (Or.inl ⟨m, by omega, h⟩)
    · rw [k2]
      refine xOk.pos rfl (ih K ⟨hK, hK35, fun m' hm' => isMx_congr (hK36 m' hm') (fun k => ⟨fun ⟨m, hm, h⟩ => ⟨m, by omega, h⟩, fun ⟨m, hm, h⟩ => ?_⟩)⟩)
      by_cases e : m = q
      · rw [e] at h
        rcases h with ⟨h, -⟩ | ⟨j, h, -⟩
        · exact absurd h (k1 k)
        · exact absurd h (k1 j)
      · exact ⟨m, by omega, h⟩
  · rintro n K ⟨hK, hK35, hK36⟩
    show xOk (f_Paths_goOverCell_56 F (n + 1) _ _ _ (Int32.ofNat 64) K) _
    rw [f_Paths_goOverCell_56]
    refine xOk.pos (Int32.le_refl _) (xOk.ck (by decide) (xOk.st (xOk.pur ⟨fun m hm => ?_, hK.trans (Same.roww (fun _ => rfl))⟩)))
    rw [xrow_eq, show xN 0 = 0 from rfl, show xN 64 = 64 from rfl, pk_cpy_in (Nat.zero_le m) (by omega), show 0 + (m - 0) = m by omega]
    exact hK36 m hm
