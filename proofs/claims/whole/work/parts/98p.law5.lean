/-! both readers: a law, all of it -/
theorem bdl_137 {F : Nat} (hF : 4000000 ≤ F) {b : Nat → Int32} {n k : Nat} {e : Nat × Nat} {st : Int32} {I J : XI} (hk : k < 4) (h : bdE b n e I J) : xOk (f_Reader_readLaw_137 F (Int32.ofNat (103 + k)) st J) (fun K => (bd b n e K ∧ szO K) ∧ Same scLc I K) := by
  unfold f_Reader_readLaw_137
  refine (b_sum hF (m := 7) h).bnd (fun K1 h1 => xOk.bnde (bd_accept h1.1) ((bdE_emit h1).bnd (fun K2 h2 => ?_)))
  rw [show Int32.ofNat (103 + k) - 103 = Int32.ofNat k from by rw [show (103 : Int32) = Int32.ofNat 103 from rfl, nk_sub (by omega), Nat.add_sub_cancel_left]]
  refine xOk.ck (nk_in hk (by omega)) (xOk.st (xOk.pur ⟨⟨bd_row6 h2.1 (xput_neo (by omega)), ?_⟩, h2.2.2.EL.trans (Same.put rfl)⟩))
  obtain ⟨sz, z1, z2⟩ := h2.2.1
  exact ⟨sz, z1, by rw [xput_neo (by omega)]; exact z2⟩
theorem bdl_29 {F m : Nat} (hF : 4000000 ≤ F) {b : Nat → Int32} {n k : Nat} {e : Nat × Nat} {st v4 : Int32} {I J : XI} (hk : k < 4) (h : bdE b n e I J) : xOk (f_Reader_readLaw_29 F (m + 1) (Int32.ofNat (103 + k)) st v4 J) (fun K => (bd b n e K ∧ szO K) ∧ Same scLc I K) := by
  rw [f_Reader_readLaw_29]
  exact xOk.ite (fun _ => bdl_137 hF hk h) (fun _ => xOk.neg (bd_ne h.1) (bdl_137 hF hk h))
theorem bdl_62 {F m : Nat} (hF : 4000000 ≤ F) {b : Nat → Int32} {n k : Nat} {e : Nat × Nat} {st v4 : Int32} {I J : XI} (hk : k < 4) (h : bdE b n e I J) : xOk (f_Reader_readLaw_62 F (fun v1 v3 v4 I => f_Reader_readLaw_29 F (m + 1) v1 v3 v4 I) (Int32.ofNat (103 + k)) st v4 J) (fun K => (bd b n e K ∧ szO K) ∧ Same scLc I K) := by
  unfold f_Reader_readLaw_62
  refine xOk.bnde (bd_accept h.1) ((b_sum hF (m := 7) h).bnd (fun K1 h1 => xOk.bnde (bd_accept h1.1) ((b_sum hF (m := 7) h1).bnd (fun K2 h2 => xOk.bnde (bd_accept h2.1) ((bdE_emit h2).bnd (fun K3 h3 => (b_sum hF (m := 7) h3).bnd (fun K4 h4 => xOk.bnde (bd_accept h4.1) ((bdE_emit h4).bnd (fun K5 h5 => ?_)))))))))
  obtain ⟨s, hs, hs'⟩ := h2.2.1
  show xOk ((f_Laws_aim 11 (K2 11 1) K5).bind _) _
  rw [hs']
  unfold f_Laws_aim
  by_cases e4 : 420 ≤ s
  · rw [if_pos (show (420 : Int32) ≤ Int32.ofNat s from nk_le_t (a := 420) e4 (by omega))]
    exact bdl_29 hF hk h5
  · rw [if_neg (show ¬ (420 : Int32) ≤ Int32.ofNat s from nk_nge (N := 420) (by omega) (by omega)), xck_true (nk_in (by omega) (by omega))]
    refine bdl_29 hF hk ⟨bd_row6 h5.1 (xput_neo (by omega)), ?_, h5.2.2.trans (Same.put rfl)⟩
    obtain ⟨sz, z1, z2⟩ := h5.2.1
    exact ⟨sz, z1, by rw [xput_neo (by omega)]; exact z2⟩
theorem encC_lt {r : Nat → Int32} {e : XP} {z : Nat} : ∀ cs a, encC r cs e a z → a < z := by
  intro cs
  induction cs with
  | nil => rintro a ⟨-, -, h⟩; omega
  | cons q cs ih =>
    rintro a ⟨-, -, -, h⟩
    have := ih _ h
    omega
theorem encC_same {r r' : Nat → Int32} {e : XP} {z : Nat} : ∀ cs a, encC r cs e a z → (∀ j, a ≤ j → j < z → r' j = r j) → encC r' cs e a z := by
  intro cs
  induction cs with
  | nil =>
    rintro a ⟨h1, h2, h3⟩ hs
    exact ⟨fun j hj => by rw [hs _ (by omega) (by omega)]; exact h1 j hj, by rw [hs _ (by omega) (by omega)]; exact h2, h3⟩
  | cons q cs ih =>
    rintro a ⟨⟨h1, h2⟩, h3, ⟨h4, h5⟩, h6⟩ hs
    have hz := encC_lt cs _ h6
    exact ⟨⟨fun j hj => by rw [hs _ (by omega) (by omega)]; exact h1 j hj, fun j hj => by rw [hs _ (by omega) (by omega)]; exact h2 j hj⟩, by rw [hs _ (by omega) (by omega)]; exact h3, ⟨fun j hj => by rw [hs _ (by omega) (by omega)]; exact h4 j hj, by rw [hs _ (by omega) (by omega)]; exact h5⟩, ih _ h6 (fun j h1 h2 => hs j (by omega) h2)⟩
theorem encM_le {M : XI} {e : XP} {z : Nat} : ∀ cs f c, encM M cs e f c z → c ≤ z := by
  intro cs
  induction cs with
  | nil => rintro f c ⟨-, -, h⟩; omega
  | cons q cs ih =>
    rintro f c ⟨-, -, h⟩
    have := ih _ _ h
    omega
theorem encM_same {M M' : XI} {e : XP} {z : Nat} : ∀ cs f c, encM M cs e f c z → (∀ j, f ≤ j → j ≤ f + List.length cs → M' 152 j = M 152 j ∧ M' 153 j = M 153 j ∧ M' 154 j = M 154 j ∧ M' 155 j = M 155 j ∧ M' 156 j = M 156 j) → (∀ j, j < z → M' 157 j = M 157 j ∧ M' 158 j = M 158 j) → encM M' cs e f c z := by
  intro cs
  induction cs with
  | nil =>
    rintro f c ⟨⟨h1, h2, h3⟩, h4, h5⟩ hb hs
    obtain ⟨b1, -, -, b4, b5⟩ := hb f (Nat.le_refl _) (Nat.le_add_right _ _)
    exact ⟨⟨b1.trans h1, b4.trans h2, b5.trans h3⟩, fun j hj => ⟨(hs _ (by omega)).1.trans (h4 j hj).1, (hs _ (by omega)).2.trans (h4 j hj).2⟩, h5⟩
  | cons q cs ih =>
    rintro f c ⟨⟨h1, ⟨h2, h3⟩, h4, h5⟩, ⟨h6, h7, h8⟩, h9⟩ hb hs
    have hl : List.length (q :: cs) = List.length cs + 1 := rfl
    obtain ⟨b1, b2, b3, b4, b5⟩ := hb f (Nat.le_refl _) (Nat.le_add_right _ _)
    have hz := encM_le cs _ _ h9
    exact ⟨⟨b1.trans h1, ⟨b2.trans h2, b3.trans h3⟩, b4.trans h4, b5.trans h5⟩, ⟨fun j hj => ⟨(hs _ (by omega)).1.trans (h6 j hj).1, (hs _ (by omega)).2.trans (h6 j hj).2⟩, fun j hj => ⟨(hs _ (by omega)).1.trans (h7 j hj).1, (hs _ (by omega)).2.trans (h7 j hj).2⟩, fun j hj => ⟨(hs _ (by omega)).1.trans (h8 j hj).1, (hs _ (by omega)).2.trans (h8 j hj).2⟩⟩, ih _ _ h9 (fun j h1 h2 => hb j (by omega) (by omega)) hs⟩
theorem pr_loop {F : Nat} (hF : 4000000 ≤ F) {b : Nat → Int32} {n sd k : Nat} {start first : Int32} {L : XL} (hsd : sd < 2) (hk : k < 4) : ∀ j v4 m m' t sz nc nb I M, v4 + j = 4 → j + 1 < m → j + 1 < m' → LX b n L sd 100 (Sum.inr (t, sz, nc, nb)) I M → 4 * nb + 2 ≤ t →
    pr (f_Reader_readLaw_29 F m (Int32.ofNat (103 + k)) start (Int32.ofNat v4) I) (f_M_tellLaw_12 F m' (Int32.ofNat k) first (Int32.ofNat v4) M) (lwQ b n L sd 102 k start first t sz nc nb I M) := by
  intro j
  induction j with
  | zero =>
    intro v4 m m' t sz nc nb I M hv hm hm' h hnb
    obtain ⟨m, rfl⟩ : ∃ q, m = q + 2 := ⟨m - 2, by omega⟩
    obtain ⟨m', rfl⟩ : ∃ q, m' = q + 1 := ⟨m' - 1, by omega⟩
    have hgd : gd b n t I := h.1.1.1
    have hgm : gm b n L t M := h.1.1.2
    have hkd := kd_lt b n t
    have ht : t ≤ 400 := hgd.1.1
    rw [f_Reader_readLaw_29, f_M_tellLaw_12]
    have e4 : v4 = 4 := by omega
    subst e4
    refine pr.lneg (by decide) (pr.lpos hgd.2.1.2 (pr.rpos hgm.2.1.2 (pr.lbe (gd_kind hgd) (pr.rbe (gm_is (k := 109) hgm (by omega) rfl) ?_))))
    have tail : pr (f_Reader_readLaw_137 F (Int32.ofNat (103 + k)) start I) (f_M_tellLaw_129 F (Int32.ofNat k) first M) (lwQ b n L sd 102 k start first t sz nc nb I M) := by
      refine (pr_end (B := 101) (start := start) (first := first) hF (by omega) (by omega) hsd hk (LX_up h (by omega)) (fun g e => by cases e; exact hnb)).mono (fun r q hq => ?_)
      obtain ⟨hs, hq⟩ := hq
      rcases hq with ⟨e, he⟩ | ⟨t2, sz2, nc2, nb2, ea, hq⟩
      · exact ⟨hs, Or.inl ⟨e, he⟩⟩
      · cases ea
        exact hq
    by_cases e109 : kd b n t = 109
    · rw [decide_eq_true e109]
      refine pr.lpos (by rw [e109]; rfl) (pr.lpos rfl (pr.rneg (by decide) (pr.rpos rfl ?_)))
      refine pr.lb (gd_fail (k := 2) hgd (Or.inr rfl)) (fun K hK => pr.rb (gm_fail (k := 2) hgm (Or.inr rfl)) (fun K' hK' => ?_))
      unfold f_M_tellLaw_38
      obtain ⟨sz', hsz1, hsz2⟩ := LX_sz h
      have h34 : M 131 34 = Int32.ofNat (130 * sd + nb) := h.2.2.2.1.1
      have hnb2 : nb ≤ 100 := h.2.2.2.1.2
      have h19 := LX_19 h
      refine pr.xx (bdl_62 (m := m) (b := b) (n := n) (e := (2, t)) (I := I) hF hk ⟨hK.1, ⟨sz', hsz1, (hK.2 11 1 rfl).trans hsz2⟩, hK.2.E6⟩) (B := fun q => q = K') (xOk.neg (bm_v hK'.1).2.1 (xOk.pur rfl)) (fun r q hr hq => ?_)
      rw [hq]
      exact ⟨⟨hr.2, hK'.2.L3⟩, Or.inl ⟨(2, t), hr.1, hK'.1, (hK'.2 131 19 rfl).trans h19, nb, by omega, (hK'.2 131 34 rfl).trans h34⟩⟩
    · rw [decide_eq_false e109]
      exact pr.lneg (by rw [show (109 : Int32) = Int32.ofNat 109 from rfl, nk_eq (by omega) (by omega)]; exact e109) (pr.rpos rfl tail)
  | succ j ih =>
    intro v4 m m' t sz nc nb I M hv hm hm' h hnb
    obtain ⟨m, rfl⟩ : ∃ q, m = q + 2 := ⟨m - 2, by omega⟩
    obtain ⟨m', rfl⟩ : ∃ q, m' = q + 2 := ⟨m' - 2, by omega⟩
    have hgd : gd b n t I := h.1.1.1
    have hgm : gm b n L t M := h.1.1.2
    have hkd := kd_lt b n t
    have ht : t ≤ 400 := hgd.1.1
    rw [f_Reader_readLaw_29, f_M_tellLaw_12]
    refine pr.lneg (nk_lt_f (a := 4) (by omega) (by omega)) (pr.lpos hgd.2.1.2 (pr.rpos hgm.2.1.2 (pr.lbe (gd_kind hgd) (pr.rbe (gm_is (k := 109) hgm (by omega) rfl) ?_))))
    by_cases e109 : kd b n t = 109
    · rw [decide_eq_true e109]
      have n4 : ¬ Int32.ofNat v4 = 4 := by rw [show (4 : Int32) = Int32.ofNat 4 from rfl, nk_eq (by omega) (by omega)]; omega
      refine pr.lpos (by rw [e109]; rfl) (pr.lneg n4 (pr.rneg (by decide) (pr.rneg n4 ?_)))
      refine pr_case hF (by omega) (by omega) hsd h e109 (by omega) (fun r q hq => ?_)
      rw [nk_succ]
      obtain ⟨⟨sI, sM⟩, hq⟩ := hq
      rcases hq with ⟨e, he⟩ | ⟨t', u, v, w, ⟨hL, htt⟩, ⟨ru, rv, rw'⟩, ⟨⟨c1, c2⟩, c3, ⟨c4, c5⟩, c6, c7⟩, ⟨⟨d1, ⟨d2, d3⟩, d4, d5⟩, ⟨d6, d7, d8⟩, d9, d10, d11⟩⟩
      · -- a fault on the way
        show pr (f_Reader_readLaw_29 F (m + 1) (Int32.ofNat (103 + k)) start (Int32.ofNat (v4 + 1)) r) (f_M_tellLaw_12 F (m' + 1) (Int32.ofNat k) first (Int32.ofNat (v4 + 1)) q) _
        rw [f_Reader_readLaw_29, f_M_tellLaw_12]
        refine pr.lneg (nk_lt_f (a := 4) (by omega) (by omega)) (pr.lneg (bd_ne he.1.1) (pr.rneg (bm_v he.2.1).1 ?_))
        refine (pr_end (B := 101) (start := start) (first := first) hF (by omega) (by omega) hsd hk he (fun g e => by cases e)).mono (fun r2 q2 hq2 => ?_)
        obtain ⟨⟨s1, s2⟩, hq2⟩ := hq2
        rcases hq2 with ⟨e2, he2⟩ | ⟨t2, sz2, nc2, nb2, ea, -⟩
        · exact ⟨⟨sI.trans s1, sM.trans s2⟩, Or.inl ⟨e2, he2⟩⟩
        · cases ea
      · refine (ih (v4 + 1) (m + 1) (m' + 1) t' _ _ (nb + 1) r q (by omega) (by omega) (by omega) hL (by omega)).mono (fun r2 q2 hq2 => ?_)
        obtain ⟨⟨s1, s2⟩, hq2⟩ := hq2
        refine ⟨⟨sI.trans s1, sM.trans s2⟩, ?_⟩
        rcases hq2 with ⟨e2, he2⟩ | ⟨t2, cs, e, sz2, nc2, nb2, ⟨g1, g2, g3⟩, ⟨g4, g5, g6, g7⟩, ⟨g8, g9, g10⟩, ⟨g11, g12⟩, g13, g14, g15⟩
        · exact Or.inl ⟨e2, he2⟩
        · have hz := encC_lt cs _ g5
          have hz2 := encM_le cs _ _ g6
          have lift157 : ∀ j, j < 420 * sd + (nc + List.length u + List.length v + List.length w) → q2 157 j = q 157 j ∧ q2 158 j = q 158 j := g13
          have hb : q2 152 (130 * sd + nb) = q 152 (130 * sd + nb) ∧ q2 153 (130 * sd + nb) = q 153 (130 * sd + nb) ∧ q2 154 (130 * sd + nb) = q 154 (130 * sd + nb) ∧ q2 155 (130 * sd + nb) = q 155 (130 * sd + nb) ∧ q2 156 (130 * sd + nb) = q 156 (130 * sd + nb) := g14 _ (by omega)
          obtain ⟨b1, b2', b3, b4, b5⟩ := hb
          refine Or.inr ⟨t2, (u, v, w) :: cs, e, sz2, nc2, nb2, ⟨g1, by omega, g3⟩, ⟨⟨⟨ru, rv, rw'⟩, g4⟩, ⟨⟨fun j hj => ?_, fun j hj => ?_⟩, ?_, ⟨fun j hj => ?_, ?_⟩, g5⟩, ⟨⟨b1.trans d1, ⟨b2'.trans d2, b3.trans d3⟩, b4.trans d4, b5.trans d5⟩, ⟨fun j hj => ?_, fun j hj => ?_, fun j hj => ?_⟩, ?_⟩, ?_⟩, ⟨g8, g9, g10⟩, ⟨fun j hj => ?_, fun j hj => ?_⟩, fun j hj => ?_, fun j hj => ?_, fun j hj => ?_⟩
          · have hj : j < List.length u := hj
            exact (g11 _ (by omega)).trans (c1 j hj)
          · have hj : j < List.length v := hj
            exact (g11 (sz + List.length u + j) (by omega)).trans (c2 j hj)
          · exact (g11 (sz + List.length u + List.length v) (by omega)).trans c3
          · have hj : j < List.length w := hj
            exact (g11 (sz + List.length u + List.length v + 1 + j) (by omega)).trans (c4 j hj)
          · exact (g11 (sz + List.length u + List.length v + 1 + List.length w) (by omega)).trans c5
          · have hj : j < List.length u := hj
            obtain ⟨x1, x2⟩ := lift157 (420 * sd + nc + j) (by omega)
            exact ⟨x1.trans (d6 j hj).1, x2.trans (d6 j hj).2⟩
          · have hj : j < List.length v := hj
            obtain ⟨x1, x2⟩ := lift157 (420 * sd + nc + List.length u + j) (by omega)
            exact ⟨x1.trans (d7 j hj).1, x2.trans (d7 j hj).2⟩
          · have hj : j < List.length w := hj
            obtain ⟨x1, x2⟩ := lift157 (420 * sd + nc + List.length u + List.length v + j) (by omega)
            exact ⟨x1.trans (d8 j hj).1, x2.trans (d8 j hj).2⟩
          · have := g6
            simp only [← Nat.add_assoc] at this
            exact this
          · show nb2 = nb + (List.length cs + 1) + 1
            omega
          · exact (g11 j (by omega)).trans (c6 j hj)
          · exact (g12 j hj).trans (c7 j)
          · obtain ⟨x1, x2⟩ := lift157 j (by omega)
            exact ⟨x1.trans (d9 j hj).1, x2.trans (d9 j hj).2⟩
          · obtain ⟨x1, x2, x3, x4, x5⟩ := g14 j (by omega)
            obtain ⟨y1, y2, y3, y4, y5⟩ := d10 j hj
            exact ⟨x1.trans y1, x2.trans y2, x3.trans y3, x4.trans y4, x5.trans y5⟩
          · exact ⟨(g15 j hj).1.trans (d11 j).1, (g15 j hj).2.trans (d11 j).2⟩
    · rw [decide_eq_false e109]
      refine pr.lneg (by rw [show (109 : Int32) = Int32.ofNat 109 from rfl, nk_eq (by omega) (by omega)]; exact e109) (pr.rpos rfl ?_)
      refine (pr_end (B := 101) (start := start) (first := first) hF (by omega) (by omega) hsd hk (LX_up h (by omega)) (fun g e => by cases e; exact hnb)).mono (fun r q hq => ?_)
      obtain ⟨hs, hq⟩ := hq
      rcases hq with ⟨e, he⟩ | ⟨t2, sz2, nc2, nb2, ea, hq⟩
      · exact ⟨hs, Or.inl ⟨e, he⟩⟩
      · cases ea
        exact hq
/-! all four laws -/
abbrev XLw : Type := List (XP × XP × XP) × XP
def dfl (k : Nat) : XP := match k with
  | 0 => [(0, 1)]
  | 1 => [(1, 6)]
  | 2 => [(0, 1)]
  | _ => [(0, 50)]
def lwOf (k : Nat) (l : Option XLw) : XLw := match l with
  | none => ([], dfl k)
  | some l => l
def lwM1 (sd k nb nc : Nat) (l : Option XLw) (M : XI) : Prop := match l with
  | none => M 150 (4 * sd + k) = M 151 (4 * sd + k)
  | some l => ∃ f c z, (M 150 (4 * sd + k) = Int32.ofNat (130 * sd + f) ∧ M 151 (4 * sd + k) = Int32.ofNat (130 * sd + f + List.length l.1 + 1)) ∧ (f + List.length l.1 + 1 ≤ nb ∧ 420 * sd ≤ c ∧ z ≤ 420 * sd + nc) ∧ encM M l.1 l.2 (130 * sd + f) c z
def dL (sd t : Nat) (I M : XI) : Prop := ∃ (lw : Nat → Option XLw) (sz nb nc : Nat), (I 11 1 = Int32.ofNat sz ∧ sz ≤ 8 + t) ∧ (M 131 40 = Int32.ofNat (420 * sd + nc) ∧ nc ≤ t) ∧ (M 131 34 = Int32.ofNat (130 * sd + nb) ∧ 4 * nb ≤ t) ∧ M 131 12 = 0 ∧ ∀ k, k < 4 → (okLw (lwOf k (lw k)).1 (lwOf k (lw k)).2 ∧ ∃ a z, I 13 k = Int32.ofNat a ∧ z ≤ sz ∧ encC (I 12) (lwOf k (lw k)).1 (lwOf k (lw k)).2 a z) ∧ lwM1 sd k nb nc (lw k) M
theorem dL_same {sd t t' : Nat} {I M I' M' : XI} (h : dL sd t I M) (ht : t ≤ t') (h11 : I' 11 1 = I 11 1) (h12 : I' 12 = I 12) (h13 : I' 13 = I 13) (m40 : M' 131 40 = M 131 40) (m34 : M' 131 34 = M 131 34) (m12 : M' 131 12 = M 131 12) (mo : ∀ o, 150 ≤ o → o ≤ 158 → M' o = M o) : dL sd t' I' M' := by
  obtain ⟨lw, sz, nb, nc, ⟨a1, a2⟩, ⟨a3, a4⟩, ⟨a5, a6⟩, a7, a8⟩ := h
  refine ⟨lw, sz, nb, nc, ⟨h11.trans a1, by omega⟩, ⟨m40.trans a3, by omega⟩, ⟨m34.trans a5, by omega⟩, m12.trans a7, fun k hk => ?_⟩
  obtain ⟨⟨b1, a, z, b2, b3, b4⟩, b5⟩ := a8 k hk
  refine ⟨⟨b1, a, z, by rw [h13]; exact b2, b3, by rw [h12]; exact b4⟩, ?_⟩
  unfold lwM1 at b5 ⊢
  rw [mo 150 (by omega) (by omega), mo 151 (by omega) (by omega)]
  split
  · rename_i e
    rw [e] at b5
    exact b5
  · rename_i l e
    rw [e] at b5
    obtain ⟨f, c, z', c1, c2, c3⟩ := b5
    exact ⟨f, c, z', c1, c2, encM_same _ _ _ c3 (fun j _ _ => by rw [mo 152 (by omega) (by omega), mo 153 (by omega) (by omega), mo 154 (by omega) (by omega), mo 155 (by omega) (by omega), mo 156 (by omega) (by omega)]; exact ⟨rfl, rfl, rfl, rfl, rfl⟩) (fun j _ => by rw [mo 157 (by omega) (by omega), mo 158 (by omega) (by omega)]; exact ⟨rfl, rfl⟩)⟩
