/-! more: the reference -/
theorem m_isPiece {lv : Nat} {T : XT} {I : XI} (hM : tbM lv T I) (hO : tOk T) (x y : Int32) : f_M_isPiece I x y = some (b2 (pcB T x y)) := by
  refine xOk.eq ?_
  unfold f_M_isPiece pcB
  refine xOk.bnde (m_isCell hM) ?_
  rcases cellCases hO x y with hc | ⟨a, ha, hi, hc, rfl, rfl⟩
  · rw [hc]
    exact xOk.pos rfl (xOk.pur rfl)
  · rw [hc, cell_N ha, cell_ix]
    refine xOk.neg (by decide) (xOk.bnde (m_isHole hM ha hi) ?_)
    cases isH T a <;> exact xOk.ck rfl (xOk.pur rfl)
theorem pcs_neg {T : XT} {W : Nat → Int32} (hW : wfW T W) {a : Nat} (ha : a < 30) (hh : isH T a = false) : W a < 0 := by
  rcases hW a ha with h | ⟨-, -, h⟩ | ⟨-, h, -⟩
  · rw [h]; decide
  · rw [h]; decide
  · rw [hh] at h; cases h
theorem pcs_hasK {T : XT} {W : Nat → Int32} (hW : wfW T W) {a : Nat} (ha : a < 30) (hh : isH T a = false) : hasK T W a := ⟨fun h => (by rw [hh] at h; cases h), fun _ => pcs_neg hW ha hh⟩
theorem isP_iff {T : XT} {a : Nat} : isP T a = true ↔ inT T a = true ∧ isH T a = false := by
  unfold isP
  cases inT T a <;> cases isH T a <;> decide
theorem pf_fit {T : XT} {W : Nat → Int32} (hW : wfW T W) {a s b : Nat} (ha : a < 30) (hb : b < 30) (hpa : isP T a = true) (hpb : isP T b = true) (hn : nb T a s = some b) : pf T a s = fit T W a s b := by
  unfold pf fit knw
  rw [hn, if_pos (pcs_neg hW ha (isP_iff.mp hpa).2), if_pos (pcs_neg hW hb (isP_iff.mp hpb).2)]
  show (isP T a && (isP T b && decide _)) = _
  rw [hpa, hpb, Bool.true_and, Bool.true_and]
theorem pf_isP {T : XT} {a s b : Nat} (hn : nb T a s = some b) (h : pf T a s = true) : isP T a = true ∧ isP T b = true := by
  unfold pf at h
  rw [hn] at h
  have h : (isP T a && (isP T b && decide (tk T (4 * a + s) + tk T (4 * b + opp s) = 0))) = true := h
  simp only [Bool.and_eq_true] at h
  exact ⟨h.1, h.2.1⟩
theorem pS_isP {T : XT} {wt : Nat → Nat → Nat} {st z : Nat} (hp : isP T st = true) : ∀ n b d, pS T (pf T) wt st z n b d → isP T b = true := by
  intro n
  cases n with
  | zero => rintro b d ⟨rfl, -⟩; exact hp
  | succ n =>
    rintro b d ⟨a, s, d', p, e, -⟩
    exact (pf_isP e.2.2.1 e.2.2.2).2
theorem m_more_92 {F : Nat} (hF : 4000000 ≤ F) {lv : Nat} {T : XT} {W : Nat → Int32} {d pd tk sd : Int32} {I0 : XI} (hM : tbM lv T I0) (hO : tOk T) (hW : wfW T W) (hR : rowS W d pd tk sd I0) {st t z : Nat} (hz : z ≤ 1) (hst : st < 30) (hp : isP T st = true) (ht : t < 30) :
    ∀ n g J c, mI T (pf T) (wtM T W) st z g J → Same scF I0 J → (c = false → ∀ a s, a < 30 → satA T (pf T) (wtM T W) g a s) → sumv g 30 + (if c = true then 1 else 0) < n → xOk (f_M_more_92 F n (Int32.ofNat t) (b2 c) J) (fun r => r.1 = qD T (pf T) (wtM T W) st z t ∧ Same scF I0 r.2) := by
  have hi := (isP_iff.mp hp).1
  intro n
  induction n with
  | zero => intro g J c _ _ _ h; exact absurd h (Nat.not_lt_zero _)
  | succ n ihn =>
    intro g J c hg hs hsat hn
    rw [f_M_more_92]
    cases c with
    | false =>
      refine xOk.pos rfl (xOk.ck (nk_in ht (by omega)) ?_)
      rw [show xN (Int32.ofNat t) = t from nk_N (by omega), hg.1 t ht]
      have hres := fix_res (T := T) (ok := pf T) (wt := wtM T W) (st := st) (z := z) (f := g) hg.2.1 hg.2.2.1 (fun a s b d' he hga => hsat rfl a s he.1 b d' he hga) ht
      cases hgt : g t with
      | none =>
        rw [hgt] at hres
        exact xOk.neg (show ¬ Int32.ofNat 99999 < Int32.ofNat 99999 from nk_lt_f (Nat.le_refl _) (by omega)) (xOk.pur ⟨qD_eq hres, hs⟩)
      | some v =>
        rw [hgt] at hres
        have hv := mI_bd hg hz ht hgt
        exact xOk.pos (show Int32.ofNat v < Int32.ofNat 99999 from nk_lt_t (by omega) (by omega)) (xOk.ck (nk_in ht (by omega)) (xOk.pur ⟨qD_eq hres, hs⟩))
    | true =>
      refine xOk.neg (by decide) ?_
      rw [if_pos rfl] at hn
      refine xloop 30 (fun m (s : Bool × XI) a => f_M_more_103 F (fun v6 v7 I => f_M_more_92 F n v6 v7 I) m (Int32.ofNat t) (b2 s.1) (Int32.ofNat a) s.2) (fun a s => swpF T (pf T) (wtM T W) st z g I0 a 0 s.1 s.2) ?_ ?_ F (false, J) 0 (by omega) (by omega) ⟨g, hg, fun _ => ⟨rfl, fun a' s' h => absurd h (by omega), fun s' h => absurd h (by omega)⟩, fun h => by (cases h), hs⟩
      · rintro m ⟨c, K⟩ a ha hP ih
        have hP : swpF T (pf T) (wtM T W) st z g I0 a 0 c K := hP
        show xOk (f_M_more_103 F _ (m + 1) (Int32.ofNat t) (b2 c) (Int32.ofNat a) K) _
        rw [f_M_more_103]
        refine xOk.neg (nk_nge ha (by decide)) ?_
        refine xloop 4 (fun l (s : Bool × XI) k => f_M_more_113 F (fun v6 v7 v8 I => f_M_more_103 F (fun v6 v7 I => f_M_more_92 F n v6 v7 I) m v6 v7 v8 I) l (Int32.ofNat t) (b2 s.1) (Int32.ofNat a) (Int32.ofNat k) s.2) (fun k s => swpF T (pf T) (wtM T W) st z g I0 a k s.1 s.2) ?_ ?_ F (c, K) 0 (by omega) (by omega) hP
        · rintro l ⟨c, K⟩ s hs4 hP ih2
          have hP : swpF T (pf T) (wtM T W) st z g I0 a s c K := hP
          have hsK : Same scF I0 K := hP.choose_spec.2.2.2
          show xOk (f_M_more_113 F _ (l + 1) (Int32.ofNat t) (b2 c) (Int32.ofNat a) (Int32.ofNat s) K) _
          rw [f_M_more_113, nk_succ a, nk_succ s]
          refine xOk.neg (nk_nge hs4 (by decide)) (xOk.ck (nk_in ha (by omega)) ?_)
          simp only [show xN (Int32.ofNat a) = a from nk_N (by omega)]
          by_cases h9 : (99999 : Int32) ≤ K 167 a
          · exact xOk.pos h9 (ih (c, K) (swp_none hP hz ha h9))
          · obtain ⟨hia, v, -, -, nn, hpv⟩ := swp_some hP hO hst hi hz ha h9
            have hpa := pS_isP hp nn a v hpv
            have hMK := tbM_X hM hsK.FM.MX
            have hRK := rowS_F hR hsK
            refine xOk.neg h9 (xOk.bnde (m_overTo hMK hO ha hia s hs4) ?_)
            cases hnb : nb T a s with
            | none =>
              exact xOk.pos (by decide) (ih2 (c, K) (swp_skip hP (fun b he => by have := he.2.2.1; rw [hnb] at this; cases this)))
            | some b =>
              have hb := nb_lt hO ha s hs4 b hnb
              have hib := nb_in hO ha hia s hs4 b hnb
              simp only [oi]
              refine xOk.neg (nk_nlt0 (by omega)) (xOk.bnde (m_isHole hMK hb hib) ?_)
              cases hhb : isH T b with
              | true =>
                refine xOk.neg (by decide) (ih2 (c, K) (swp_skip hP (fun b' he => ?_)))
                have h1 := he.2.2.1
                rw [hnb] at h1
                cases h1
                have h2 := (isP_iff.mp (pf_isP hnb he.2.2.2).2).2
                rw [hhb] at h2; cases h2
              | false =>
                have hpb : isP T b = true := isP_iff.mpr ⟨hib, hhb⟩
                refine xOk.pos rfl (xOk.bnde (m_doFit hMK hO hRK.1 ha hia (pcs_hasK hW ha (isP_iff.mp hpa).2) (pcs_hasK hW hb hhb) hs4 hnb) ?_)
                rw [← pf_fit hW ha hb hpa hpb hnb]
                cases hl : pf T a s with
                | false =>
                  exact xOk.pos rfl (ih2 (c, K) (swp_skip hP (fun b he => by have := he.2.2.2; rw [hl] at this; cases this)))
                | true =>
                  refine xOk.neg (by decide) (xOk.ck (nk_in ha (by omega)) (xOk.bnde (m_doesLie hO hW hRK.1 hb) ?_))
                  rw [zM_eq, ← wtM_eq hnb]
                  unfold f_M_more_191
                  simp only [show xN (Int32.ofNat b) = b from nk_N (by omega), nk_succ]
                  refine xOk.ck (nk_in hb (by omega)) ?_
                  by_cases hlt : K 167 a + Int32.ofNat (wtM T W a s) < K 167 b
                  · exact xOk.pos hlt (xOk.ck (nk_in hb (by omega)) (xOk.st (ih2 (true, _) (swp_put hP hO hz ha h9 ⟨ha, hs4, hnb, hl⟩ wtM_le Same.rfl (fun _ => rfl) hlt))))
                  · exact xOk.neg hlt (ih2 (c, K) (swp_keep hP hO hz ha h9 ⟨ha, hs4, hnb, hl⟩ wtM_le Same.rfl (fun _ => rfl) hlt))
        · rintro l ⟨c, K⟩ hP
          have hP : swpF T (pf T) (wtM T W) st z g I0 a 4 c K := hP
          show xOk (f_M_more_113 F _ (l + 1) (Int32.ofNat t) (b2 c) (Int32.ofNat a) (Int32.ofNat 4) K) _
          rw [f_M_more_113, nk_succ a]
          exact xOk.pos (Int32.le_refl _) (ih (c, K) (swp_end hP))
      · rintro m ⟨c, K⟩ hP
        have hP : swpF T (pf T) (wtM T W) st z g I0 30 0 c K := hP
        show xOk (f_M_more_103 F _ (m + 1) (Int32.ofNat t) (b2 c) (Int32.ofNat 30) K) _
        rw [f_M_more_103]
        refine xOk.pos (Int32.le_refl _) ?_
        obtain ⟨g', h1, h2, h3, h4⟩ := hP
        refine ihn g' K c h1 h4 (fun hc a s ha => ?_) ?_
        · obtain ⟨k1, k2, k3⟩ := h2 hc
          rw [k1]
          exact k2 a s ha
        · cases c with
          | false =>
            rw [(h2 rfl).1, if_neg (by decide)]
            omega
          | true =>
            have := h3 rfl
            rw [if_pos rfl]
            omega
theorem m_more_45 {F : Nat} (hF : 4000000 ≤ F) {lv : Nat} {T : XT} {W : Nat → Int32} {d pd tk sd : Int32} {I : XI} (hM : tbM lv T I) (hO : tOk T) (hW : wfW T W) (hR : rowS W d pd tk sd I) {st t : Nat} (hst : st < 30) (hp : isP T st = true) (ht : t < 30) :
    xOk (f_M_more_45 F F (Int32.ofNat st) (Int32.ofNat t) 0 I) (fun r => r.1 = qD T (pf T) (wtM T W) st (zM W st) t ∧ Same scM I r.2) := by
  refine xloop 30 (fun n (K : XI) k => f_M_more_45 F n (Int32.ofNat st) (Int32.ofNat t) (Int32.ofNat k) K) (fun k K => Same scF I K ∧ ∀ a, a < k → K 167 a = 99999) ?_ ?_ F I 0 (by omega) (by omega) ⟨Same.rfl, fun a h => absurd h (by omega)⟩
  · intro n K k hk hP ih
    show xOk (f_M_more_45 F (n + 1) _ _ (Int32.ofNat k) K) _
    rw [f_M_more_45]
    refine xOk.neg (nk_nge hk (by decide)) (xOk.ck (nk_in hk (by omega)) (xOk.st ?_))
    simp only [nk_succ, show xN (Int32.ofNat k) = k from nk_N (by omega)]
    refine ih _ ⟨hP.1.put' rfl, fun a ha => ?_⟩
    rw [xput_at]
    by_cases e : a = k
    · rw [if_pos e]
    · rw [if_neg e]; exact hP.2 a (by omega)
  · intro n K hP
    show xOk (f_M_more_45 F (n + 1) _ _ (Int32.ofNat 30) K) _
    rw [f_M_more_45]
    have hRK := rowS_F hR hP.1
    refine xOk.pos (Int32.le_refl _) (xOk.bnde (m_doesLie hO hW hRK.1 hst) ?_)
    rw [zM_eq]
    unfold f_M_more_88
    refine xOk.ck (nk_in hst (by omega)) (xOk.st ?_)
    have hs1 : Same scF I (xput K 167 st (Int32.ofNat (zM W st))) := hP.1.put' rfl
    simp only [show xN (Int32.ofNat st) = st from nk_N (by omega)]
    have h0 : mI T (pf T) (wtM T W) st (zM W st) (updO (fun _ => none) st (some (zM W st))) (xput K 167 st (Int32.ofNat (zM W st))) := by
      refine mI_start hst (fun a ha => ?_)
      rw [xput_at]
      by_cases e : a = st
      · rw [if_pos e, if_pos e]
      · rw [if_neg e, if_neg e]; exact hP.2 a ha
    refine (m_more_92 hF (tbM_X hM hs1.FM.MX) hO hW (rowS_F hR hs1) zM_le hst hp ht F _ _ true h0 Same.rfl (fun h => by (cases h)) ?_).mono (fun r hr => ⟨hr.1, (hs1.trans hr.2).FM⟩)
    have := mI_sum h0 zM_le
    rw [if_pos rfl]
    omega
theorem pcB_ex {T : XT} (hO : tOk T) {x y : Int32} (h : pcB T x y = true) : ∃ a, a < 30 ∧ isP T a = true ∧ 6 * xN y + xN x = a ∧ 6 * y + x = Int32.ofNat a := by
  unfold pcB at h
  rcases cellCases hO x y with hc | ⟨a, ha, hi, hc, rfl, rfl⟩
  · rw [hc] at h; cases h
  · rw [hc, cell_N ha, Bool.true_and] at h
    refine ⟨a, ha, isP_iff.mpr ⟨hi, ?_⟩, cell_N ha, cell_ix⟩
    cases hh : isH T a with
    | false => rfl
    | true => rw [hh] at h; cases h
theorem m_more {F : Nat} (hF : 4000000 ≤ F) {lv : Nat} {T : XT} {W : Nat → Int32} {I : XI} (hC : core lv T W I) {x y p q : Int32} : xOk (f_M_more F x y p q I) (fun r => r.1 = qMore T W x y p q ∧ Same scM I r.2) := by
  have hC0 := hC
  obtain ⟨⟨hO, -, -⟩, ⟨hT, hM⟩, ⟨h4, hW, h6⟩, -, -⟩ := hC
  unfold f_M_more qMore
  refine xOk.bnde (m_isPiece hM hO x y) ?_
  cases e : pcB T x y with
  | false =>
    refine xOk.pos rfl (xOk.pur ⟨?_, Same.rfl⟩)
    rw [if_neg (show ¬ (false = true ∧ _) by intro h; cases h.1)]
  | true =>
    refine xOk.neg (by decide) (xOk.bnde (m_isPiece hM hO p q) ?_)
    cases e' : pcB T p q with
    | false =>
      refine xOk.pos rfl (xOk.pur ⟨?_, Same.rfl⟩)
      rw [if_neg (show ¬ (true = true ∧ false = true) by decide)]
    | true =>
      obtain ⟨a, ha, hpa, ea, ea'⟩ := pcB_ex hO e
      obtain ⟨b, hb, hpb, eb, eb'⟩ := pcB_ex hO e'
      rw [ea, eb, ea', eb', if_pos (show true = true ∧ true = true from ⟨rfl, rfl⟩)]
      refine xOk.neg (by decide) ((m_copies hF hC0).bnd (fun J hJ => ?_))
      exact (m_more_45 hF (tbM_X hM hJ.1.MX) hO hW hJ.2 ha hpa hb).mono (fun r hr => ⟨hr.1, hJ.1.trans hr.2⟩)
