/-! far: the reference's loops -/
theorem lnk_some {T : XT} {W : Nat → Int32} {a s : Nat} (h : lnk T W a s = true) : ∃ b, nb T a s = some b := by
  unfold lnk at h
  cases hn : nb T a s with
  | none => rw [hn] at h; cases h
  | some b => exact ⟨b, rfl⟩
theorem m_far_103 {F : Nat} (hF : 4000000 ≤ F) {lv : Nat} {V : XV} {T : XT} {W : Nat → Int32} {d pd tk sd : Int32} {I0 : XI} (hL : lawR F lv V I0) (hM : tbM lv T I0) (hO : tOk T) (hW : wfW T W) (hR : rowS W d pd tk sd I0) {st t : Nat} (hst : st < 30) (hi : inT T st = true) (ht : t < 30) :
    ∀ n g J c, mI T (lnk T W) (wtF V T d) st 0 g J → Same scF I0 J → (c = false → ∀ a s, a < 30 → satA T (lnk T W) (wtF V T d) g a s) → sumv g 30 + (if c = true then 1 else 0) < n → xOk (f_M_far_103 F n (Int32.ofNat t) (b2 c) J) (fun r => r.1 = qD T (lnk T W) (wtF V T d) st 0 t ∧ Same scF I0 r.2) := by
  intro n
  induction n with
  | zero => intro g J c _ _ _ h; exact absurd h (Nat.not_lt_zero _)
  | succ n ihn =>
    intro g J c hg hs hsat hn
    rw [f_M_far_103]
    cases c with
    | false =>
      refine xOk.pos rfl (xOk.ck (nk_in ht (by omega)) ?_)
      rw [show xN (Int32.ofNat t) = t from nk_N (by omega), hg.1 t ht]
      have hres := fix_res (T := T) (ok := lnk T W) (wt := wtF V T d) (st := st) (z := 0) (f := g) hg.2.1 hg.2.2.1 (fun a s b d' he hga => hsat rfl a s he.1 b d' he hga) ht
      cases hgt : g t with
      | none =>
        rw [hgt] at hres
        exact xOk.neg (show ¬ Int32.ofNat 99999 < Int32.ofNat 99999 from nk_lt_f (Nat.le_refl _) (by omega)) (xOk.pur ⟨qD_eq hres, hs⟩)
      | some v =>
        rw [hgt] at hres
        have hv := mI_bd hg (by omega) ht hgt
        exact xOk.pos (show Int32.ofNat v < Int32.ofNat 99999 from nk_lt_t (by omega) (by omega)) (xOk.ck (nk_in ht (by omega)) (xOk.pur ⟨qD_eq hres, hs⟩))
    | true =>
      refine xOk.neg (by decide) ?_
      rw [if_pos rfl] at hn
      refine xloop 30 (fun m (s : Bool × XI) a => f_M_far_114 F (fun v6 v7 I => f_M_far_103 F n v6 v7 I) m (Int32.ofNat t) (b2 s.1) (Int32.ofNat a) s.2) (fun a s => swpF T (lnk T W) (wtF V T d) st 0 g I0 a 0 s.1 s.2) ?_ ?_ F (false, J) 0 (by omega) (by omega) ⟨g, hg, fun _ => ⟨rfl, fun a' s' h => absurd h (by omega), fun s' h => absurd h (by omega)⟩, fun h => by (cases h), hs⟩
      · rintro m ⟨c, K⟩ a ha hP ih
        have hP : swpF T (lnk T W) (wtF V T d) st 0 g I0 a 0 c K := hP
        show xOk (f_M_far_114 F _ (m + 1) (Int32.ofNat t) (b2 c) (Int32.ofNat a) K) _
        rw [f_M_far_114]
        refine xOk.neg (nk_nge ha (by decide)) ?_
        refine xloop 4 (fun l (s : Bool × XI) k => f_M_far_124 F (fun v6 v7 v8 I => f_M_far_114 F (fun v6 v7 I => f_M_far_103 F n v6 v7 I) m v6 v7 v8 I) l (Int32.ofNat t) (b2 s.1) (Int32.ofNat a) (Int32.ofNat k) s.2) (fun k s => swpF T (lnk T W) (wtF V T d) st 0 g I0 a k s.1 s.2) ?_ ?_ F (c, K) 0 (by omega) (by omega) hP
        · rintro l ⟨c, K⟩ s hs4 hP ih2
          have hP : swpF T (lnk T W) (wtF V T d) st 0 g I0 a s c K := hP
          have hsK : Same scF I0 K := hP.choose_spec.2.2.2
          show xOk (f_M_far_124 F _ (l + 1) (Int32.ofNat t) (b2 c) (Int32.ofNat a) (Int32.ofNat s) K) _
          rw [f_M_far_124, nk_succ a, nk_succ s]
          refine xOk.neg (nk_nge hs4 (by decide)) (xOk.ck (nk_in ha (by omega)) ?_)
          simp only [show xN (Int32.ofNat a) = a from nk_N (by omega)]
          by_cases h9 : (99999 : Int32) ≤ K 167 a
          · exact xOk.pos h9 (ih (c, K) (swp_none hP (by omega) ha h9))
          · obtain ⟨hia, -⟩ := swp_some hP hO hst hi (by omega) ha h9
            have hMK := tbM_X hM hsK.FM.MX
            have hRK := rowS_F hR hsK
            refine xOk.neg h9 (xOk.bnde (m_joinedOver hMK hO hW hRK.1 ha hia hs4) ?_)
            cases hl : lnk T W a s with
            | false =>
              exact xOk.pos rfl (ih2 (c, K) (swp_skip hP (fun b he => by have := he.2.2.2; rw [hl] at this; cases this)))
            | true =>
              obtain ⟨b, hnb⟩ := lnk_some hl
              have hb := nb_lt hO ha s hs4 b hnb
              refine xOk.neg (by decide) (xOk.ck (nk_in ha (by omega)) ?_)
              refine (m_wayOver hF (lawR_X hL hsK.FM.MX) hMK hO ha hia hs4 hnb).bnd (fun r hr => ?_)
              have hMr := tbM_X hMK hr.2.QX
              have hov := m_overTo hMr hO ha hia s hs4
              rw [hnb] at hov
              obtain ⟨w1, w2⟩ := wtF_eq (V := V) (d := d) hnb
              have e1 : r.1 = Int32.ofNat (wtF V T d a s) := by rw [hr.1, hRK.2.1, w1]
              have hs7 : ∀ a, r.2 167 a = K 167 a := fun a => hr.2 167 a rfl
              refine xOk.bnde hov ?_
              simp only [oi, show xN (Int32.ofNat b) = b from nk_N (by omega), e1]
              refine xOk.ck (nk_in hb (by omega)) ?_
              by_cases hlt : K 167 a + Int32.ofNat (wtF V T d a s) < r.2 167 b
              · refine xOk.pos hlt (xOk.bnde hov ?_)
                simp only [oi, show xN (Int32.ofNat b) = b from nk_N (by omega)]
                exact xOk.ck (nk_in hb (by omega)) (xOk.st (ih2 (true, _) (swp_put hP hO (by omega) ha h9 ⟨ha, hs4, hnb, hl⟩ w2 hr.2.QF hs7 hlt)))
              · exact xOk.neg hlt (ih2 (c, r.2) (swp_keep hP hO (by omega) ha h9 ⟨ha, hs4, hnb, hl⟩ w2 hr.2.QF hs7 hlt))
        · rintro l ⟨c, K⟩ hP
          have hP : swpF T (lnk T W) (wtF V T d) st 0 g I0 a 4 c K := hP
          show xOk (f_M_far_124 F _ (l + 1) (Int32.ofNat t) (b2 c) (Int32.ofNat a) (Int32.ofNat 4) K) _
          rw [f_M_far_124, nk_succ a]
          exact xOk.pos (Int32.le_refl _) (ih (c, K) (swp_end hP))
      · rintro m ⟨c, K⟩ hP
        have hP : swpF T (lnk T W) (wtF V T d) st 0 g I0 30 0 c K := hP
        show xOk (f_M_far_114 F _ (m + 1) (Int32.ofNat t) (b2 c) (Int32.ofNat 30) K) _
        rw [f_M_far_114]
        refine xOk.pos (Int32.le_refl _) ?_
        obtain ⟨g', h1, h2, h3, h4⟩ := hP
        refine ihn g' K c h1 h4 (fun hc a s ha => ?_) ?_
        · obtain ⟨k1, k2, k3⟩ := h2 hc
          rw [k1]
          exact k2 a s ha
        · cases c with
          | false =>
            rw [(h2 rfl).1, if_neg (by decide)]
            omega
          | true =>
            have := h3 rfl
            rw [if_pos rfl]
            omega
theorem mI_sum {T : XT} {ok : Nat → Nat → Bool} {wt : Nat → Nat → Nat} {st z : Nat} {g : Nat → Option Nat} {J : XI} (h : mI T ok wt st z g J) (hz : z ≤ 1) : sumv g 30 ≤ 2999970 := by
  have := sumv_le (g := g) (B := 99999) (Nat.le_refl _) (fun a d ha hg => by have := mI_bd h hz ha hg; omega) 30 (Nat.le_refl _)
  omega
theorem m_far_66 {F : Nat} (hF : 4000000 ≤ F) {lv : Nat} {V : XV} {T : XT} {W : Nat → Int32} {d pd tk sd : Int32} {I : XI} (hL : lawR F lv V I) (hM : tbM lv T I) (hO : tOk T) (hW : wfW T W) (hR : rowS W d pd tk sd I) {st t : Nat} (hst : st < 30) (hi : inT T st = true) (ht : t < 30) :
    xOk (f_M_far_66 F F (Int32.ofNat st) (Int32.ofNat t) 0 I) (fun r => r.1 = qD T (lnk T W) (wtF V T d) st 0 t ∧ Same scM I r.2) := by
  refine xloop 30 (fun n (K : XI) k => f_M_far_66 F n (Int32.ofNat st) (Int32.ofNat t) (Int32.ofNat k) K) (fun k K => Same scF I K ∧ ∀ a, a < k → K 167 a = if a = st then Int32.ofNat 0 else 99999) ?_ ?_ F I 0 (by omega) (by omega) ⟨Same.rfl, fun a h => absurd h (by omega)⟩
  · intro n K k hk hP ih
    show xOk (f_M_far_66 F (n + 1) _ _ (Int32.ofNat k) K) _
    rw [f_M_far_66, f_M_far_93]
    refine xOk.neg (nk_nge hk (by decide)) (xOk.ck (nk_in hk (by omega)) (xOk.st ?_))
    simp only [nk_succ, show xN (Int32.ofNat k) = k from nk_N (by omega)]
    refine ih _ ⟨hP.1.put' rfl, fun a ha => ?_⟩
    rw [xput_at]
    by_cases e : a = k
    · rw [if_pos e, e]
      by_cases e2 : k = st
      · rw [if_pos (show Int32.ofNat k = Int32.ofNat st by rw [e2]), if_pos e2]; rfl
      · rw [if_neg (show ¬ Int32.ofNat k = Int32.ofNat st by rw [nk_eq (by omega) (by omega)]; exact e2), if_neg e2]
    · rw [if_neg e]; exact hP.2 a (by omega)
  · intro n K hP
    show xOk (f_M_far_66 F (n + 1) _ _ (Int32.ofNat 30) K) _
    rw [f_M_far_66]
    refine xOk.pos (Int32.le_refl _) ?_
    have hsX := hP.1.FM.MX
    have h0 : mI T (lnk T W) (wtF V T d) st 0 (updO (fun _ => none) st (some 0)) K := mI_start hst hP.2
    refine (m_far_103 hF (lawR_X hL hsX) (tbM_X hM hsX) hO hW (rowS_F hR hP.1) hst hi ht F _ K true h0 Same.rfl (fun h => by (cases h)) ?_).mono (fun r hr => ⟨hr.1, (hP.1.trans hr.2).FM⟩)
    have := mI_sum h0 (by omega)
    rw [if_pos rfl]
    omega
theorem m_far {F : Nat} (hF : 4000000 ≤ F) {lv : Nat} {V : XV} {T : XT} {W : Nat → Int32} {I : XI} (hX : wfull F lv V T W I) {x y p q : Int32} : xOk (f_M_far F x y p q I) (fun r => r.1 = qFar V T W (I 26 1) x y p q ∧ Same scM I r.2) := by
  obtain ⟨hC, hL⟩ := hX
  have hC0 := hC
  obtain ⟨⟨hO, -, -⟩, ⟨hT, hM⟩, ⟨h4, hW, h6⟩, -, -⟩ := hC
  unfold f_M_far qFar
  refine xOk.bnde (m_isCell hM) ?_
  rcases cellCases hO x y with hc | ⟨a, ha, hi, hc, rfl, rfl⟩
  · rw [hc]
    refine xOk.pos rfl (xOk.pur ⟨?_, Same.rfl⟩)
    rw [if_neg (show ¬ (false = true ∧ _) by intro h; cases h.1)]
  · rw [hc, cell_N ha, cell_ix]
    refine xOk.neg (by decide) (xOk.bnde (m_isCell hM) ?_)
    rcases cellCases hO p q with hc' | ⟨b, hb, hib, hc', rfl, rfl⟩
    · rw [hc']
      refine xOk.pos rfl (xOk.pur ⟨?_, Same.rfl⟩)
      rw [if_neg (show ¬ (true = true ∧ false = true) by decide)]
    · rw [hc', cell_N hb, cell_ix, if_pos (show true = true ∧ true = true from ⟨rfl, rfl⟩)]
      refine xOk.neg (by decide) ((m_copies hF hC0).bnd (fun J hJ => ?_))
      obtain ⟨hJ1, hJ2⟩ := hJ
      refine xOk.bnde (m_doesLie hO hW hJ2.1 ha) ?_
      cases hl : lie W a with
      | false =>
        refine xOk.pos rfl (xOk.pur ⟨?_, hJ1⟩)
        rw [if_neg (show ¬ (false = true ∧ _) by intro h; cases h.1)]
      | true =>
        refine xOk.neg (by decide) (xOk.bnde (m_doesLie hO hW hJ2.1 hb) ?_)
        cases hl' : lie W b with
        | false =>
          refine xOk.pos rfl (xOk.pur ⟨?_, hJ1⟩)
          rw [if_neg (show ¬ (true = true ∧ false = true) by decide)]
        | true =>
          rw [if_pos (show true = true ∧ true = true from ⟨rfl, rfl⟩)]
          refine xOk.neg (by decide) ((m_far_66 hF (lawR_X hL hJ1.MX) (tbM_X hM hJ1.MX) hO hW hJ2 ha hi hb).mono (fun r hr => ⟨hr.1, hJ1.trans hr.2⟩))
