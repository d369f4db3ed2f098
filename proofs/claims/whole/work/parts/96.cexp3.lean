/-! expressions: the class's loops -/
theorem st_go {b : Nat → Int32} {n t : Nat} {W : List Nat} {o : XP} (hop : (isMul (kd b n t) || isAdd (kd b n t)) = true) (hfl : fl (isMul (kd b n t)) W o = (W, o)) : stE b n (false, t, W, o) = nxE t (true, t + 1, kd b n t :: W, o) := by
  show stB b n t W o = _
  unfold stB
  rw [if_neg (fun h => (mul_n40 hop).2.1 h.1), if_pos hop, hfl]
theorem isMul_iff {k : Nat} : isMul k = true ↔ k = 42 ∨ k = 47 := by
  unfold isMul
  rw [Bool.or_eq_true]
  exact ⟨fun h => h.elim (fun h => Or.inl (Nat.eq_of_beq_eq_true h)) (fun h => Or.inr (Nat.eq_of_beq_eq_true h)), fun h => h.elim (fun h => Or.inl (by rw [h]; rfl)) (fun h => Or.inr (by rw [h]; rfl))⟩
theorem isAdd_iff {k : Nat} : isAdd k = true ↔ k = 43 ∨ k = 45 := by
  unfold isAdd
  rw [Bool.or_eq_true]
  exact ⟨fun h => h.elim (fun h => Or.inl (Nat.eq_of_beq_eq_true h)) (fun h => Or.inr (Nat.eq_of_beq_eq_true h)), fun h => h.elim (fun h => Or.inl (by rw [h]; rfl)) (fun h => Or.inr (by rw [h]; rfl))⟩
theorem c_prod {F : Nat} (hF : 4000000 ≤ F) {C : Int32 → XI → Option XI} {b : Nat → Int32} {n : Nat} {I : XI} {sz0 d : Nat} (hd : d ≤ 6) (hC : d < 6 → ∀ t W o J, nop W = d + 1 → top2 W → cE b n I sz0 t o J → xOk (C (Int32.ofNat (d + 1)) J) (upE b n (13 - 2 * d) I sz0 t W o nOp)) {t : Nat} {W : List Nat} {o : XP} {J : XI} (hW : nop W = d) (hW1 : top1 W) (hc : cE b n I sz0 t o J) : xOk (f_Reader_readProduct F C (Int32.ofNat d) J) (upE b n (14 - 2 * d) I sz0 t W o nMu) := by
  unfold f_Reader_readProduct
  have loop : ∀ m i J, 400 - i < m → i ≤ 400 → ((∃ t1 x, (cE b n I sz0 t1 (o ++ x) J ∧ t < t1 ∧ x.length ≤ t1 - t) ∧ (rp (14 - 2 * d) x 0 1 ∧ i < t1) ∧ ∀ r, ends b n (false, t1, W, o ++ x) r → ends b n (true, t, W, o) r) ∨ (∃ e, bdE b n e I J ∧ ends b n (true, t, W, o) (Sum.inl e))) → xOk (f_Reader_readProduct_7 F C m (Int32.ofNat d) (Int32.ofNat i) J) (upE b n (14 - 2 * d) I sz0 t W o nMu) := by
    intro m
    induction m with
    | zero => intro i J h _ _; omega
    | succ m ih =>
      intro i J hi hi4 hP
      rw [f_Reader_readProduct_7]
      rcases hP with ⟨t1, x, ⟨x1, x2, x3⟩, ⟨x4, x5⟩, x6⟩ | ⟨e, x1, x2⟩
      · have ht1 := x1.1.1.1.1
        have hkd := kd_lt b n t1
        have hlen := x1.1.2
        refine xOk.neg (nk_nge (N := 400) (by omega) (by omega)) (xOk.pos x1.1.1.2.1.2 (xOk.bnde (gd_kind x1.1.1) ?_))
        have h39 : isMul (kd b n t1) = true → xOk (f_Reader_readProduct_39 F C (fun v1 v2 I => f_Reader_readProduct_7 F C m v1 v2 I) (Int32.ofNat d) (Int32.ofNat i) J) (upE b n (14 - 2 * d) I sz0 t W o nMu) := by
          intro hm
          have hop : (isMul (kd b n t1) || isAdd (kd b n t1)) = true := by rw [hm]; rfl
          unfold f_Reader_readProduct_39
          refine xOk.bnde (gd_kind x1.1.1) ?_
          have hT := c_turn (h1 := 13 - 2 * d) (h2 := 13 - 2 * d) (t := t) (G := f_Reader_readUnit F C (Int32.ofNat d)) (cond := fun _ => True) (by rw [show 13 - 2 * d + 1 = 14 - 2 * d by omega]; exact x4) rfl x1 ⟨x2, x3⟩ hop (st_go hop (by rw [hm]; exact hW1 _)) (fun K hK => c_unit hd hC (by rw [nop_op hop]; exact hW) hK) (fun e K hK => b_unit hK) (fun t2 o' _ => st_mul hm) x6
          rw [show 13 - 2 * d + 1 = 14 - 2 * d by omega] at hT
          refine hT.bnd (fun q7 h7 => h7.bnd (fun q8 h8 => h8.bnd (fun q9 h9 => ?_)))
          rw [nk_succ]
          refine ih (i + 1) q9 (by omega) (by omega) ?_
          rcases h9 with ⟨t', y, y1, ⟨y2, -⟩, y3, y4⟩ | h9
          · exact Or.inl ⟨t', y, y1, ⟨y2, by omega⟩, y4⟩
          · exact Or.inr h9
        by_cases e2 : kd b n t1 = 42
        · exact xOk.pos (by rw [e2]; rfl) (h39 (isMul_iff.mpr (Or.inl e2)))
        · refine xOk.neg (by rw [show (42 : Int32) = Int32.ofNat 42 from rfl, nk_eq (by omega) (by omega)]; exact e2) (xOk.bnde (gd_kind x1.1.1) ?_)
          by_cases e7 : kd b n t1 = 47
          · exact xOk.pos (by rw [e7]; rfl) (h39 (isMul_iff.mpr (Or.inr e7)))
          · refine xOk.neg (by rw [show (47 : Int32) = Int32.ofNat 47 from rfl, nk_eq (by omega) (by omega)]; exact e7) (xOk.pur (Or.inl ⟨t1, x, ⟨x1, x2, x3⟩, ⟨x4, ?_⟩, x6⟩))
            show isMul (kd b n t1) = false
            cases hm : isMul (kd b n t1) with
            | false => rfl
            | true =>
              rcases isMul_iff.mp hm with h | h
              · exact absurd h e2
              · exact absurd h e7
      · by_cases e4 : i = 400
        · rw [e4]
          exact xOk.pos (by decide) (xOk.pur (Or.inr ⟨e, x1, x2⟩))
        · exact xOk.neg (nk_nge (N := 400) (by omega) (by omega)) (xOk.neg (bd_ne x1.1) (xOk.pur (Or.inr ⟨e, x1, x2⟩)))
  refine (c_unit hd hC hW hc).bnd (fun K hK => loop F 0 K (by omega) (by omega) ?_)
  rcases hK with ⟨t1, x, x1, ⟨x2, -⟩, x3⟩ | h
  · exact Or.inl ⟨t1, x, x1, ⟨rp_up (by omega) _ _ x2, by omega⟩, x3⟩
  · exact Or.inr h
theorem c_sum {F : Nat} (hF : 4000000 ≤ F) {C : Int32 → XI → Option XI} {b : Nat → Int32} {n : Nat} {I : XI} {sz0 d : Nat} (hd : d ≤ 6) (hC : d < 6 → ∀ t W o J, nop W = d + 1 → top2 W → cE b n I sz0 t o J → xOk (C (Int32.ofNat (d + 1)) J) (upE b n (13 - 2 * d) I sz0 t W o nOp)) {t : Nat} {W : List Nat} {o : XP} {J : XI} (hW : nop W = d) (hW2 : top2 W) (hc : cE b n I sz0 t o J) : xOk (f_Reader_readSum F C (Int32.ofNat d) J) (upE b n (15 - 2 * d) I sz0 t W o nOp) := by
  unfold f_Reader_readSum
  have loop : ∀ m i J, 400 - i < m → i ≤ 400 → ((∃ t1 x, (cE b n I sz0 t1 (o ++ x) J ∧ t < t1 ∧ x.length ≤ t1 - t) ∧ (rp (15 - 2 * d) x 0 1 ∧ nMu (kd b n t1) ∧ i < t1) ∧ ∀ r, ends b n (false, t1, W, o ++ x) r → ends b n (true, t, W, o) r) ∨ (∃ e, bdE b n e I J ∧ ends b n (true, t, W, o) (Sum.inl e))) → xOk (f_Reader_readSum_7 F C m (Int32.ofNat d) (Int32.ofNat i) J) (upE b n (15 - 2 * d) I sz0 t W o nOp) := by
    intro m
    induction m with
    | zero => intro i J h _ _; omega
    | succ m ih =>
      intro i J hi hi4 hP
      rw [f_Reader_readSum_7]
      rcases hP with ⟨t1, x, ⟨x1, x2, x3⟩, ⟨x4, x0, x5⟩, x6⟩ | ⟨e, x1, x2⟩
      · have ht1 := x1.1.1.1.1
        have hkd := kd_lt b n t1
        have hlen := x1.1.2
        have x0 : isMul (kd b n t1) = false := x0
        refine xOk.neg (nk_nge (N := 400) (by omega) (by omega)) (xOk.pos x1.1.1.2.1.2 (xOk.bnde (gd_kind x1.1.1) ?_))
        have h39 : isAdd (kd b n t1) = true → xOk (f_Reader_readSum_39 F C (fun v1 v2 I => f_Reader_readSum_7 F C m v1 v2 I) (Int32.ofNat d) (Int32.ofNat i) J) (upE b n (15 - 2 * d) I sz0 t W o nOp) := by
          intro hm
          have hop : (isMul (kd b n t1) || isAdd (kd b n t1)) = true := by rw [hm, Bool.or_true]
          unfold f_Reader_readSum_39
          refine xOk.bnde (gd_kind x1.1.1) ?_
          have hT := c_turn (h1 := 14 - 2 * d) (h2 := 14 - 2 * d) (t := t) (G := f_Reader_readProduct F C (Int32.ofNat d)) (cond := nMu) (by rw [show 14 - 2 * d + 1 = 15 - 2 * d by omega]; exact x4) rfl x1 ⟨x2, x3⟩ hop (st_go hop (by rw [x0]; exact hW2 _)) (fun K hK => c_prod hF hd hC (by rw [nop_op hop]; exact hW) (top1_add hm) hK) (fun e K hK => b_prod hF hK) (fun t2 o' h2 => st_add hm h2) x6
          rw [show 14 - 2 * d + 1 = 15 - 2 * d by omega] at hT
          refine hT.bnd (fun q7 h7 => h7.bnd (fun q8 h8 => h8.bnd (fun q9 h9 => ?_)))
          rw [nk_succ]
          refine ih (i + 1) q9 (by omega) (by omega) ?_
          rcases h9 with ⟨t', y, y1, ⟨y2, y5⟩, y3, y4⟩ | h9
          · exact Or.inl ⟨t', y, y1, ⟨y2, y5, by omega⟩, y4⟩
          · exact Or.inr h9
        by_cases e2 : kd b n t1 = 43
        · exact xOk.pos (by rw [e2]; rfl) (h39 (isAdd_iff.mpr (Or.inl e2)))
        · refine xOk.neg (by rw [show (43 : Int32) = Int32.ofNat 43 from rfl, nk_eq (by omega) (by omega)]; exact e2) (xOk.bnde (gd_kind x1.1.1) ?_)
          by_cases e7 : kd b n t1 = 45
          · exact xOk.pos (by rw [e7]; rfl) (h39 (isAdd_iff.mpr (Or.inr e7)))
          · refine xOk.neg (by rw [show (45 : Int32) = Int32.ofNat 45 from rfl, nk_eq (by omega) (by omega)]; exact e7) (xOk.pur (Or.inl ⟨t1, x, ⟨x1, x2, x3⟩, ⟨x4, ?_⟩, x6⟩))
            show (isMul (kd b n t1) || isAdd (kd b n t1)) = false
            rw [x0]
            cases hm : isAdd (kd b n t1) with
            | false => rfl
            | true =>
              rcases isAdd_iff.mp hm with h | h
              · exact absurd h e2
              · exact absurd h e7
      · by_cases e4 : i = 400
        · rw [e4]
          exact xOk.pos (by decide) (xOk.pur (Or.inr ⟨e, x1, x2⟩))
        · exact xOk.neg (nk_nge (N := 400) (by omega) (by omega)) (xOk.neg (bd_ne x1.1) (xOk.pur (Or.inr ⟨e, x1, x2⟩)))
  refine (c_prod hF hd hC hW (top1_2 hW2) hc).bnd (fun K hK => loop F 0 K (by omega) (by omega) ?_)
  rcases hK with ⟨t1, x, x1, ⟨x2, x4⟩, x3⟩ | h
  · exact Or.inl ⟨t1, x, x1, ⟨rp_up (by omega) _ _ x2, x4, by omega⟩, x3⟩
  · exact Or.inr h
theorem c_sumN {F : Nat} (hF : 4000000 ≤ F) {b : Nat → Int32} {n : Nat} {I : XI} {sz0 : Nat} : ∀ N d, d ≤ 6 → 7 - d ≤ N → ∀ t W o J, nop W = d → top2 W → cE b n I sz0 t o J → xOk (f_Reader_readSumN F N (Int32.ofNat d) J) (upE b n (15 - 2 * d) I sz0 t W o nOp) := by
  intro N
  induction N with
  | zero => intro d h1 h2; omega
  | succ N ih =>
    intro d h1 h2 t W o J hW hW2 hc
    show xOk (f_Reader_readSum F (f_Reader_readSumN F N) (Int32.ofNat d) J) _
    refine c_sum hF h1 (fun hd t W o J q1 q2 q3 => ?_) hW hW2 hc
    have := ih (d + 1) (by omega) (by omega) t W o J q1 q2 q3
    rwa [show 15 - 2 * (d + 1) = 13 - 2 * d by omega] at this
def exQ (b : Nat → Int32) (n : Nat) (I : XI) (sz t : Nat) (K : XI) : Prop := match exprR b n t with
  | Sum.inl e => bdE b n e I K
  | Sum.inr p => cE b n I sz p.1 p.2 K ∧ (t < p.1 ∧ p.2.length ≤ p.1 - t) ∧ rp 15 p.2 0 1
theorem c_expr {F : Nat} (hF : 4000000 ≤ F) {b : Nat → Int32} {n t sz : Nat} {I : XI} (hg : gd b n t I) (h1 : I 11 1 = Int32.ofNat sz) (h2 : sz ≤ 8 + t) : xOk (f_Reader_readSumN F 8 0 I) (exQ b n I sz t) := by
  refine (c_sumN (sz0 := sz) hF 8 0 (by omega) (by omega) t [] [] I rfl top2_nil ⟨⟨hg, h2⟩, h1, ⟨Same.rfl, fun _ _ => rfl⟩, fun j hj => absurd hj (Nat.not_lt_zero j)⟩).mono (fun K hK => ?_)
  unfold exQ
  rcases hK with ⟨t', x, ⟨x1, x2, x3⟩, ⟨x4, x5⟩, x6⟩ | ⟨e, x1, x2⟩
  · rw [exprR_eq (r := Sum.inr (t', x)) (x6 _ (ends_done ?_))]
    · exact ⟨x1, ⟨x2, x3⟩, x4⟩
    · show stB b n t' [] ([] ++ x) = _
      unfold stB
      rw [if_neg (fun h => absurd h.2 (Nat.lt_irrefl 0)), x5, if_neg (by decide), if_neg (show ¬ 0 < nop [] from Nat.lt_irrefl 0)]
      rfl
  · rw [exprR_eq x2]
    exact x1
