/-! what laws tell: the reference -/
theorem m_104 {F : Nat} {q : Int32 × Int32} {x y to : Int32} {k5 : Int32 → Int32 → Int32 → XI → Option (Int32 × XI)} {v3 v4 : Int32} {K : XI} {Q : Int32 × XI → Prop} (h : opO q) (hz : ¬ (q.1 = 5 ∧ y = 0)) (hk : xOk (f_M_termOf_158 F k5 to v3 v4 (v3 - 1) (opv q.1 x y) K) Q) : xOk (f_M_termOf_104 F k5 to v3 v4 q.1 x y K) Q := by
  obtain ⟨-, -, -, h⟩ := opO_ok h
  unfold f_M_termOf_104
  unfold opv at hk
  rcases h with ⟨h1, -⟩ | ⟨h1, -⟩ | ⟨h1, -⟩ | ⟨h1, -⟩
  · rw [h1] at hk ⊢
    rw [if_pos rfl] at hk
    exact xOk.pos rfl hk
  · rw [h1] at hk ⊢
    rw [if_neg (by decide), if_pos rfl] at hk
    exact xOk.neg (by decide) (xOk.pos rfl hk)
  · rw [h1] at hk ⊢
    rw [if_neg (by decide), if_neg (by decide), if_pos rfl] at hk
    exact xOk.neg (by decide) (xOk.neg (by decide) (xOk.pos rfl hk))
  · have hy : ¬ y = 0 := fun e => hz ⟨h1, e⟩
    rw [h1] at hk ⊢
    rw [if_neg (by decide), if_neg (by decide), if_neg (by decide)] at hk
    exact xOk.neg (by decide) (xOk.neg (by decide) (xOk.neg (by decide) (xOk.ck (by rw [decide_eq_false hy]; rfl) hk)))
theorem m_run2 {F : Nat} {J : XI} {to h f : Nat} {Q : Int32 × XI → Prop} (hto : to ≤ 840) (hh : h ≤ 300) : ∀ (p : XP) (c : Nat) (s : List Int32) (m : Nat) (K : XI), segM J c p → rp h p s.length f → s.length ≤ 300 → c + p.length ≤ to → to - c < m → Same sc161 J K → stk 161 s K →
    (evP (J 160) p s = none → ∀ K', Same sc161 J K' → K' 131 47 = 1 → Q (0, K')) → (∀ s', evP (J 160) p s = some s' → ∀ K' m', to - (c + p.length) < m' → Same sc161 J K' → K' 131 47 = K 131 47 → stk 161 s' K' → xOk (f_M_termOf_5 F m' (Int32.ofNat to) (Int32.ofNat s'.length) (Int32.ofNat (c + p.length)) K') Q) →
    xOk (f_M_termOf_5 F m (Int32.ofNat to) (Int32.ofNat s.length) (Int32.ofNat c) K) Q := by
  intro p
  induction p with
  | nil =>
    intro c s m K h1 h2 h3 h4 h5 h6 h7 hn hs
    exact hs s rfl K m h5 h6 rfl h7
  | cons q p ih =>
    intro c s m K h1 h2 hs3 h3 h5 h6 h7 hn hs
    have hl : (q :: p).length = p.length + 1 := rfl
    rw [hl] at h3
    obtain ⟨m, rfl⟩ : ∃ z, m = z + 1 := ⟨m - 1, by omega⟩
    have hw := h1 0 (by rw [hl]; omega)
    have w1 : K 157 c = q.1 := (h6 157 c rfl).trans hw.1
    have w2 : K 158 c = q.2 := (h6 158 c rfl).trans hw.2
    have hseg : segM J (c + 1) p := fun j hj => by
      have := h1 (j + 1) (by rw [hl]; omega)
      rw [show c + (j + 1) = c + 1 + j by omega] at this
      exact this
    rw [f_M_termOf_5, nk_N (show c < 2147483648 by omega), w1, w2]
    refine xOk.neg (nk_nge (by omega) (by omega)) (xOk.ck (nk_in (by omega) (by omega)) ?_)
    have nx : ∀ (s2 : List Int32) (K2 : XI), Same sc161 J K2 → K2 131 47 = K 131 47 → stk 161 s2 K2 → rp h p s2.length f → s2.length ≤ 300 → evP (J 160) (q :: p) s = evP (J 160) p s2 → xOk (f_M_termOf_5 F m (Int32.ofNat to) (Int32.ofNat s2.length) (Int32.ofNat c + 1) K2) Q := by
      intro s2 K2 k1 k47 k2 k3 k32 k4
      rw [nk_succ]
      refine ih (c + 1) s2 m K2 hseg k3 k32 (by omega) (by omega) k1 k2 (fun e K' hK' h47 => hn (k4.trans e) K' hK' h47) (fun s' e K' m' hm' x1 x47 x2 => ?_)
      have := hs s' (k4.trans e) K' m' (by rw [hl]; omega) x1 (x47.trans k47) x2
      rw [hl, show c + (p.length + 1) = c + 1 + p.length by omega] at this
      exact this
    rcases h2 with ⟨hq, g2, g3⟩ | ⟨hq, g2, g3⟩
    · have push : ∀ v, (evP (J 160) (q :: p) s = evP (J 160) p (v :: s)) → xOk (f_M_termOf_58 F (fun v2 v3 v4 I => f_M_termOf_5 F m v2 v3 v4 I) (Int32.ofNat to) (Int32.ofNat s.length) (Int32.ofNat c) (Int32.ofNat s.length) v K) Q := by
        intro v hv
        unfold f_M_termOf_58
        refine xOk.ck (nk_in (by omega) (by omega)) (xOk.st ?_)
        rw [nk_N (show s.length < 2147483648 by omega), nk_succ s.length]
        exact nx (v :: s) (xput K 161 s.length v) (h6.put' rfl) (by rw [xput_neo (by omega)]) (stk_push h7) g3 (show s.length + 1 ≤ 300 by omega) hv
      rcases hq with ⟨e0, j, hj, hj'⟩ | ⟨e1, j, hj, hj'⟩
      · refine xOk.neg (by rw [e0]; decide) (xOk.pos e0 (xOk.ck (nk_in (by omega) (by omega)) (push _ ?_)))
        show (if q.1 = 0 then evP (J 160) p (q.2 :: s) else _) = _
        rw [if_pos e0]
      · have n0 : ¬ q.1 = 0 := by rw [e1]; decide
        refine xOk.neg (by rw [e1]; decide) (xOk.neg n0 (xOk.ck (nk_in (by omega) (by omega)) (xOk.ck (by rw [hj']; exact nk_in hj (by omega)) (push _ ?_))))
        show (if q.1 = 0 then _ else if q.1 = 1 then evP (J 160) p (J 160 (xN q.2) :: s) else _) = _
        rw [if_neg n0, if_pos e1, show K 160 = J 160 from h6.row 160 (fun _ => rfl)]
    · match s, g2, g3, h7, nx, hn, hs3 with
      | [], g2, _, _, _, _, _ => exact absurd g2 (show ¬ 2 ≤ 0 by omega)
      | [y], g2, _, _, _, _, _ => exact absurd g2 (show ¬ 2 ≤ 1 by omega)
      | y :: x :: s, g2, g3, h7, nx, hn, hs3 =>
        have hlen : (y :: x :: s).length = s.length + 2 := rfl
        have hs3 : s.length + 2 ≤ 300 := hs3
        obtain ⟨-, ky, kx⟩ := stk_op (v := 0) h7
        obtain ⟨-, -, -, hwv⟩ := opO_ok hq
        have hbig : (2 : Int32) ≤ q.1 := by
          rcases hwv with ⟨h1, -⟩ | ⟨h1, -⟩ | ⟨h1, -⟩ | ⟨h1, -⟩ <;> rw [h1] <;> decide
        rw [hlen]
        have e3 : Int32.ofNat (s.length + 2) + (-1) = Int32.ofNat (s.length + 1) := by
          rw [show Int32.ofNat (s.length + 2) + (-1) = Int32.ofNat (s.length + 2) - 1 from (Int32.sub_eq_add_neg ..).symm, show (1 : Int32) = Int32.ofNat 1 from rfl, nk_sub (by omega)]
          rfl
        have e4 : Int32.ofNat (s.length + 1) - 1 = Int32.ofNat s.length := by rw [show (1 : Int32) = Int32.ofNat 1 from rfl, nk_sub (by omega), Nat.add_sub_cancel]
        rw [e3, e4, nk_N (show s.length + 1 < 2147483648 by omega), nk_N (show s.length < 2147483648 by omega), ky, kx]
        have h104 : ¬ (q.1 = 5 ∧ y = 0) → xOk (f_M_termOf_104 F (fun v2 v3 v4 I => f_M_termOf_5 F m v2 v3 v4 I) (Int32.ofNat to) (Int32.ofNat (s.length + 1)) (Int32.ofNat c) q.1 x y K) Q := by
          intro hz
          refine m_104 hq hz ?_
          unfold f_M_termOf_158
          rw [e4]
          refine xOk.ck (nk_in (by omega) (by omega)) (xOk.st ?_)
          rw [nk_N (show s.length < 2147483648 by omega)]
          exact nx (opv q.1 x y :: s) (xput K 161 s.length (opv q.1 x y)) (h6.put' rfl) (by rw [xput_neo (by omega)]) (stk_op h7).1 g3 (show s.length + 1 ≤ 300 by omega) (by rw [evP_op hq, if_neg hz])
        refine xOk.pos hbig (xOk.ck (nk_in (by omega) (by omega)) (xOk.ck (nk_in (by omega) (by omega)) ?_))
        by_cases h5' : q.1 = 5
        · refine xOk.pos h5' ?_
          by_cases hy : y = 0
          · refine xOk.pos hy (xOk.st (xOk.pur (hn ?_ _ (h6.put' rfl) xput_eq)))
            rw [evP_op hq, if_pos ⟨h5', hy⟩]
          · exact xOk.neg hy (h104 (fun e => hy e.2))
        · exact xOk.neg h5' (h104 (fun e => h5' e.1))
def tmQ (J : XI) (p : XP) (K : XI) (r : Int32 × XI) : Prop := Same sc161 J r.2 ∧ match evE (J 160) p with
  | none => r.2 131 47 = 1
  | some v => r.1 = v ∧ r.2 131 47 = K 131 47
theorem m_termOf {F : Nat} (hF : 4000000 ≤ F) {J K : XI} {c : Nat} {p : XP} (h1 : segM J c p) (h2 : rp 15 p 0 1) (h3 : c + p.length ≤ 840) (h4 : Same sc161 J K) : xOk (f_M_termOf F (Int32.ofNat c) (Int32.ofNat (c + p.length)) K) (tmQ J p K) := by
  unfold f_M_termOf
  refine m_run2 (h := 15) (f := 1) h3 (by omega) p c [] F K h1 h2 (by show 0 ≤ 300; omega) (Nat.le_refl _) (by omega) h4 (fun i hi => absurd hi (Nat.not_lt_zero i)) (fun hn K' hK' h47 => ⟨hK', ?_⟩) (fun s' he K' m' hm' hK' h47 hs' => ?_)
  · rw [(evE_none h2).mpr hn]
    exact h47
  · have hl := evP_len p [] s' h2 he
    match s', hl, he, hs' with
    | [], hl, _, _ => exact absurd hl (show ¬ 0 = 1 by omega)
    | [v], _, he, hs' =>
      obtain ⟨m', rfl⟩ : ∃ q, m' = q + 1 := ⟨m' - 1, by omega⟩
      rw [f_M_termOf_5]
      refine xOk.pos (Int32.le_refl _) (xOk.ck (by decide) (xOk.pur ⟨hK', ?_⟩))
      rw [(evE_some h2).mpr he]
      exact ⟨hs' 0 (show 0 < 1 by omega), h47⟩
theorem m_119 {F : Nat} (hF : 4000000 ≤ F) {J K : XI} {c f : Nat} {p : XP} (h1 : segM J c p) (h2 : rp 15 p 0 1) (h3 : c + p.length ≤ 840) (h4 : Same sc161 J K) (hf : f < 260) (h155 : J 155 f = Int32.ofNat c) (h156 : J 156 f = Int32.ofNat (c + p.length)) (h47 : K 131 47 = 0) : xOk (f_M_lawTells_119 F (Int32.ofNat f) K) (fun r => r.1 = (evE (J 160) p).getD 0 ∧ Same sc161 J r.2) := by
  unfold f_M_lawTells_119
  rw [nk_N (show f < 2147483648 by omega), h4 155 f rfl, h4 156 f rfl, h155, h156]
  refine xOk.ck (nk_in hf (by omega)) (xOk.ck (nk_in hf (by omega)) ((m_termOf hF h1 h2 h3 h4).bnd (fun r hr => xOk.pur ?_)))
  obtain ⟨r1, r2⟩ := hr
  refine ⟨?_, r1⟩
  cases he : evE (J 160) p with
  | none =>
    rw [he] at r2
    show (if r.2 131 47 = 0 then r.1 else 0) = 0
    rw [r2, if_neg (by decide)]
  | some v =>
    rw [he] at r2
    show (if r.2 131 47 = 0 then r.1 else 0) = v
    rw [r2.2, h47, if_pos rfl]
    exact r2.1
theorem m_law {F : Nat} (hF : 4000000 ≤ F) {J : XI} {w last z : Nat} (hw : w < 8) (h151 : J 151 w = Int32.ofNat last) (hlast : last ≤ 260) (hz : z ≤ 840) : ∀ cs e f c m K, encM J cs e f c z → okLw cs e → f + List.length cs + 1 = last → List.length cs < m → Same sc161 J K → K 131 47 = 0 → xOk (f_M_lawTells_39 F m (Int32.ofNat w) (Int32.ofNat f) K) (fun r => r.1 = evL (J 160) cs e ∧ Same sc161 J r.2) := by
  intro cs
  induction cs with
  | nil =>
    rintro e f c m K ⟨⟨h1, h2, h3⟩, h4, h5⟩ hok hf hm hs h47
    have hf : f + 0 + 1 = last := hf
    obtain ⟨m, rfl⟩ : ∃ q, m = q + 1 := ⟨m - 1, by omega⟩
    rw [f_M_lawTells_39, nk_N (show w < 2147483648 by omega), nk_N (show f < 2147483648 by omega), hs 151 w rfl, h151, hs 152 f rfl, h1]
    exact xOk.ck (nk_in hw (by omega)) (xOk.neg (nk_nge (by omega) (by omega)) (xOk.ck (nk_in (by omega) (by omega)) (xOk.pos rfl (m_119 hF h4 hok (by omega) hs (by omega) h2 h3 h47))))
  | cons q cs ih =>
    rintro e f c m K ⟨⟨h1, ⟨h2, h3⟩, h4, h5⟩, ⟨h6, h7, h8⟩, h9⟩ ⟨⟨k1, k2, k3⟩, k4⟩ hf hm hs h47
    have hl : List.length (q :: cs) = List.length cs + 1 := rfl
    rw [hl] at hf hm
    have hz2 := encM_le cs _ _ h9
    obtain ⟨m, rfl⟩ : ∃ q, m = q + 1 := ⟨m - 1, by omega⟩
    rw [f_M_lawTells_39, nk_N (show w < 2147483648 by omega), nk_N (show f < 2147483648 by omega), hs 151 w rfl, h151, hs 152 f rfl, h1, hs 153 f rfl, h2, hs 154 f rfl, h3]
    have i260 : xin (Int32.ofNat f) 260 = true := nk_in (by omega) (by omega)
    refine xOk.ck (nk_in hw (by omega)) (xOk.neg (nk_nge (by omega) (by omega)) (xOk.ck i260 (xOk.neg (by decide) (xOk.ck i260 (xOk.ck i260 ?_)))))
    refine (m_termOf hF h6 k1 (by omega) hs).bnd (fun r hr => xOk.ck i260 (xOk.ck i260 ?_))
    obtain ⟨r1, r2⟩ := hr
    rw [r1 154 f rfl, h3, r1 155 f rfl, h4]
    refine (m_termOf hF h7 k2 (by omega) r1).bnd (fun r' hr' => ?_)
    obtain ⟨r1', r2'⟩ := hr'
    have hL : evL (J 160) (q :: cs) e = match evE (J 160) q.1 with
      | none => 0
      | some x => match evE (J 160) q.2.1 with
        | none => 0
        | some y => if x < y then (evE (J 160) q.2.2).getD 0 else evL (J 160) cs e := rfl
    cases ex : evE (J 160) q.1 with
    | none =>
      rw [ex] at r2 hL
      have r47 : r'.2 131 47 = 1 := by
        cases ey : evE (J 160) q.2.1 with
        | none => rw [ey] at r2'; exact r2'
        | some y => rw [ey] at r2'; exact r2'.2.trans r2
      refine xOk.neg (by rw [r47]; decide) (xOk.pur ⟨?_, r1'⟩)
      rw [hL]
    | some x =>
      rw [ex] at r2 hL
      cases ey : evE (J 160) q.2.1 with
      | none =>
        rw [ey] at r2' hL
        refine xOk.neg (by rw [r2']; decide) (xOk.pur ⟨?_, r1'⟩)
        rw [hL]
      | some y =>
        rw [ey] at r2' hL
        have r47 : r'.2 131 47 = 0 := r2'.2.trans (r2.2.trans h47)
        refine xOk.pos r47 ?_
        rw [r2.1, r2'.1]
        by_cases hxy : x < y
        · refine xOk.pos hxy ((m_119 hF h8 k3 (by omega) r1' (by omega) h4 h5 r47).mono (fun r hr => ⟨?_, hr.2⟩))
          rw [hr.1, hL]
          show _ = if x < y then _ else _
          rw [if_pos hxy]
        · refine xOk.neg hxy ?_
          rw [nk_succ]
          refine (ih e (f + 1) _ m r'.2 h9 k4 (by omega) (by omega) r1' r47).mono (fun r hr => ⟨?_, hr.2⟩)
          rw [hr.1, hL]
          show _ = if x < y then _ else _
          rw [if_neg hxy]
/-! the laws that have been told, on both sides -/
noncomputable def VL (lw : Nat → Option XLw) : XV := fun k u => if k < 4 then (match lw k with
  | none => plain k u
  | some l => evL u l.1 l.2) else 0
theorem dfl_ev {u : Nat → Int32} {k : Nat} : evL u [] (dfl k) = plain k u := by
  match k with
  | 0 => rfl
  | 1 => rfl
  | 2 => rfl
  | k + 3 => rfl
theorem VL_of {lw : Nat → Option XLw} {k : Nat} {u : Nat → Int32} (hk : k < 4) : VL lw k u = evL u (lwOf k (lw k)).1 (lwOf k (lw k)).2 := by
  unfold VL
  rw [if_pos hk]
  cases lw k with
  | none => exact dfl_ev.symm
  | some l => rfl
theorem law_dL {F : Nat} (hF : 4000000 ≤ F) {sd t : Nat} {I M K : XI} (hsd : sd < 2) (ht : t ≤ 400) (h : dL sd t I M) (hC : K 21 1 = I 11 1 ∧ (∀ j, (∀ sz, I 11 1 = Int32.ofNat sz → sz ≤ 420 → j < sz) → K 22 j = I 12 j) ∧ ∀ k, k < 4 → K 23 k = I 13 k) (h18 : K 131 18 = Int32.ofNat sd) (hM : ∀ o, 150 ≤ o → o ≤ 158 → K o = M o) : ∃ V, lawR F sd V K := by
  obtain ⟨lw, sz, nb, nc, ⟨a1, a2⟩, ⟨a3, a4⟩, ⟨a5, a6⟩, a7, a8⟩ := h
  obtain ⟨c1, c2, c3⟩ := hC
  have c22 : ∀ j, j < sz → K 22 j = I 12 j := fun j hj => c2 j (fun sz' e hs => by
    rw [a1, nk_eq (by omega) (by omega)] at e
    omega)
  refine ⟨VL lw, fun k u v huv => ?_, fun k hk J e1 e2 e3 => ?_, fun k hk J hag => ?_⟩
  · by_cases hk : k < 4
    · rw [VL_of hk, VL_of hk]
      exact evL_congr huv _ _ (a8 k hk).1.1
    · unfold VL
      rw [if_neg hk, if_neg hk]
  · obtain ⟨⟨w1, a, z, w2, w3, w4⟩, -⟩ := a8 k hk
    have hlt := encC_lt _ _ w4
    rw [VL_of hk]
    unfold f_Laws_value
    have e13 : J (21 + 2) (xN (Int32.ofNat k)) = Int32.ofNat a := by
      rw [nk_N (by omega)]
      show J 23 k = _
      rw [e3, c3 k hk]; exact w2
    rw [e13]
    refine xOk.ck (nk_in hk (by omega)) (c_law (sz := sz) (z := z) (by omega) (e1.trans (c1.trans a1)) _ _ a F 0 J ?_ w1 w3 (by omega) (by omega) Same.rfl)
    refine encC_same _ _ w4 (fun j _ hj => ?_)
    rw [e2]
    exact c22 j (by omega)
  · obtain ⟨⟨w1, -⟩, w5⟩ := a8 k hk
    obtain ⟨g1, g2, g3, g4⟩ := hag
    have j18 : J 131 18 = Int32.ofNat sd := g1.trans h18
    have j150 : J 150 (4 * sd + k) = M 150 (4 * sd + k) := (g2 k hk).1.trans (by rw [hM 150 (by omega) (by omega)])
    have j151 : J 151 (4 * sd + k) = M 151 (4 * sd + k) := (g2 k hk).2.trans (by rw [hM 151 (by omega) (by omega)])
    unfold f_M_lawTells
    rw [j18, show (4 : Int32) = Int32.ofNat 4 from rfl, nk_mul, nk_add, nk_N (show 4 * sd + k < 2147483648 by omega), j150, j151]
    have i8 : xin (Int32.ofNat (4 * sd + k)) 8 = true := nk_in (by omega) (by omega)
    refine xOk.ck i8 (xOk.ck i8 ?_)
    have hV : VL lw k (J 160) = match lw k with | none => plain k (J 160) | some l => evL (J 160) l.1 l.2 := by
      unfold VL
      rw [if_pos hk]
    rw [hV]
    unfold lwM1 at w5
    cases el : lw k with
    | none =>
      rw [el] at w5
      exact xOk.pos w5 (xOk.pur ⟨rfl, Same.rfl⟩)
    | some l =>
      rw [el] at w5
      rw [show lwOf k (lw k) = l by rw [el]; rfl] at w1
      obtain ⟨f, c, z, ⟨x1, x2⟩, ⟨x3, x4, x5⟩, x6⟩ := w5
      have hc := encM_le _ _ _ x6
      rw [x1, x2]
      have ne : ¬ Int32.ofNat (130 * sd + f) = Int32.ofNat (130 * sd + f + List.length l.1 + 1) := by rw [nk_eq (by omega) (by omega)]; omega
      refine xOk.neg ne (xOk.st (xOk.ck i8 ?_))
      have e150 : xput J 131 47 0 150 (4 * sd + k) = Int32.ofNat (130 * sd + f) := by
        rw [xput_neo (by omega), j150]; exact x1
      rw [e150]
      -- the rows of this half are as they were written
      have hb : ∀ j, 130 * sd + f ≤ j → j ≤ 130 * sd + f + List.length l.1 → J 152 j = M 152 j ∧ J 153 j = M 153 j ∧ J 154 j = M 154 j ∧ J 155 j = M 155 j ∧ J 156 j = M 156 j := fun j h1 h2 => by
        have := g3 (j - 130 * sd) (by omega)
        rw [show 130 * sd + (j - 130 * sd) = j by omega, hM 152 (by omega) (by omega), hM 153 (by omega) (by omega), hM 154 (by omega) (by omega), hM 155 (by omega) (by omega), hM 156 (by omega) (by omega)] at this
        exact this
      have hcd : ∀ j, c ≤ j → j < z → J 157 j = M 157 j ∧ J 158 j = M 158 j := fun j h1 h2 => by
        have := g4 (j - 420 * sd) (by omega)
        rw [show 420 * sd + (j - 420 * sd) = j by omega, hM 157 (by omega) (by omega), hM 158 (by omega) (by omega)] at this
        exact this
      have henc : encM J l.1 l.2 (130 * sd + f) c z := by
        have gen : ∀ cs e f c, encM M cs e f c z → (∀ j, f ≤ j → j ≤ f + List.length cs → J 152 j = M 152 j ∧ J 153 j = M 153 j ∧ J 154 j = M 154 j ∧ J 155 j = M 155 j ∧ J 156 j = M 156 j) → (∀ j, c ≤ j → j < z → J 157 j = M 157 j ∧ J 158 j = M 158 j) → encM J cs e f c z := by
          intro cs
          induction cs with
          | nil =>
            rintro e f c ⟨⟨h1, h2, h3⟩, h4, h5⟩ hb hs
            obtain ⟨b1, -, -, b4, b5⟩ := hb f (Nat.le_refl _) (Nat.le_add_right _ _)
            exact ⟨⟨b1.trans h1, b4.trans h2, b5.trans h3⟩, fun j hj => ⟨(hs _ (by omega) (by omega)).1.trans (h4 j hj).1, (hs _ (by omega) (by omega)).2.trans (h4 j hj).2⟩, h5⟩
          | cons q cs ih =>
            rintro e f c ⟨⟨h1, ⟨h2, h3⟩, h4, h5⟩, ⟨h6, h7, h8⟩, h9⟩ hb hs
            have hl : List.length (q :: cs) = List.length cs + 1 := rfl
            obtain ⟨b1, b2, b3, b4, b5⟩ := hb f (Nat.le_refl _) (Nat.le_add_right _ _)
            have hz := encM_le cs _ _ h9
            exact ⟨⟨b1.trans h1, ⟨b2.trans h2, b3.trans h3⟩, b4.trans h4, b5.trans h5⟩, ⟨fun j hj => ⟨(hs _ (by omega) (by omega)).1.trans (h6 j hj).1, (hs _ (by omega) (by omega)).2.trans (h6 j hj).2⟩, fun j hj => ⟨(hs _ (by omega) (by omega)).1.trans (h7 j hj).1, (hs _ (by omega) (by omega)).2.trans (h7 j hj).2⟩, fun j hj => ⟨(hs _ (by omega) (by omega)).1.trans (h8 j hj).1, (hs _ (by omega) (by omega)).2.trans (h8 j hj).2⟩⟩, ih _ _ _ h9 (fun j h1 h2 => hb j (by omega) (by omega)) (fun j h1 h2 => hs j (by omega) h2)⟩
        exact gen _ _ _ _ x6 hb hcd
      exact m_law hF (w := 4 * sd + k) (last := 130 * sd + f + List.length l.1 + 1) (z := z) (by omega) (j151.trans x2) (by omega) (by omega) l.1 l.2 (130 * sd + f) c F (xput J 131 47 0) henc w1 rfl (by omega) (Same.put rfl) xput_eq
