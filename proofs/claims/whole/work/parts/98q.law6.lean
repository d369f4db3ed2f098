/-! both readers: a law told -/
theorem pr_law {F : Nat} (hF : 4000000 ≤ F) {b : Nat → Int32} {n t sd k : Nat} {L : XL} {I M : XI} (hsd : sd < 2) (hk : k < 4) (h : Rs b n L (Sum.inr t) I M) (hkd : kd b n t = 103 + k) (h19 : M 131 19 = Int32.ofNat sd) (hD : dL sd t I M) :
    pr (f_Reader_readLaw F (Int32.ofNat (103 + k)) I) (f_M_tellOne_238 F (Int32.ofNat k) M L) (fun r q => (q.2 = L ∧ ∃ a, Rs b n L a r q.1 ∧ ∀ t', a = Sum.inr t' → t < t' ∧ dL sd t' r q.1) ∧ Same scLc I r ∧ Same (scLm sd) M q.1) := by
  obtain ⟨lw, sz, nb, nc, ⟨a1, a2⟩, ⟨a3, a4⟩, ⟨a5, a6⟩, a7, a8⟩ := hD
  have ht : t ≤ 400 := h.1.1.1.1
  have hLX : LX b n L sd 100 (Sum.inr (t, sz, nc, nb)) I M := ⟨h, ⟨a1, a2⟩, ⟨a3, a4⟩, ⟨a5, by show nb ≤ 100; omega⟩, a7, h19⟩
  unfold f_Reader_readLaw f_M_tellOne_238
  refine pr.rpos (by rw [h.1.2.2.1.2]; exact Int32.le_refl _) ?_
  refine (L_go (k := 103 + k) (by omega) hLX hkd (by omega)).bnd (fun r1 q6 h1 => ?_)
  obtain ⟨b1, ⟨hL1, -⟩, hg1, s1, m1⟩ := h1
  unfold f_M_tellLaw
  have flat : ∀ {α β γ : Type} (x : Option α) (f : α → Option β) (g : β → Option γ), ((x.bind f).bind g) = x.bind (fun a => (f a).bind g) := fun x f g => by cases x <;> rfl
  rw [flat]
  refine (L_acc (k := 61) (by omega) hL1 (by omega) (by omega) rfl).bnd (fun r2 q7 h2 => ?_)
  obtain ⟨b2', ⟨hL2, -⟩, hg2, s2, m2⟩ := h2
  have bindsome : ∀ (x : Option XI) (P : XI → XI × XL → Prop) (y : Option XI), pr y x (fun r q => P r (q, L)) → pr y (x.bind fun q14 => some (q14, L)) P := by
    intro x P y hx
    obtain ⟨r, q, ⟨e1, e2⟩, hp⟩ := hx
    exact ⟨r, (q, L), ⟨e1, by rw [e2]; rfl⟩, hp⟩
  refine bindsome _ _ _ ?_
  have S0 : Same scLc I r2.2 := s1.L6.trans s2.L6
  have M0 : Same (scLm sd) M q7 := m1.L3.trans m2.L3
  cases b2' with
  | inl e =>
    have hh : ∀ m m', m = F → m' = F → pr (f_Reader_readLaw_29 F m (Int32.ofNat (103 + k)) (I 11 1) 0 r2.2) (f_M_tellLaw_12 F m' (Int32.ofNat k) (q7 131 34) 0 q7) (fun r q => ((q, L).2 = L ∧ ∃ a, Rs b n L a r (q, L).1 ∧ ∀ t', a = Sum.inr t' → t < t' ∧ dL sd t' r (q, L).1) ∧ Same scLc I r ∧ Same (scLm sd) M (q, L).1) := by
      intro m m' hm hm'
      obtain ⟨m, rfl⟩ : ∃ q, m = q + 1 := ⟨m - 1, by omega⟩
      obtain ⟨m', rfl⟩ : ∃ q, m' = q + 1 := ⟨m' - 1, by omega⟩
      rw [f_Reader_readLaw_29, f_M_tellLaw_12]
      refine pr.lneg (by decide) (pr.lneg (bd_ne hL2.1.1) (pr.rneg (bm_v hL2.2.1).1 ?_))
      refine (pr_end (B := 100) (start := I 11 1) (first := q7 131 34) hF (by omega) (by omega) hsd hk hL2 (fun g e => by cases e)).mono (fun r q hq => ?_)
      obtain ⟨⟨z1, z2⟩, hq⟩ := hq
      rcases hq with ⟨e2, he2⟩ | ⟨t2, sz2, nc2, nb2, ea, -⟩
      · exact ⟨⟨rfl, Sum.inl e2, ⟨⟨he2.1.1, he2.2.1⟩, fun t' ht' => by cases ht'⟩, fun t' ht' => by cases ht'⟩, S0.trans z1, M0.trans z2⟩
      · cases ea
    exact hh F F rfl rfl
  | inr g2 =>
    obtain ⟨t1, sz1, nc1, nb1, e1, e2, -⟩ := hg2 g2 rfl
    have e3 := hg1 _ e1
    cases e3
    subst e2
    have hq34 : q7 131 34 = Int32.ofNat (130 * sd + nb) := hL2.2.2.2.1.1
    refine (pr_loop (start := I 11 1) (first := q7 131 34) hF hsd hk 4 0 F F (t + 1 + 1) sz nc nb r2.2 q7 (by omega) (by omega) (by omega) hL2 (by omega)).mono (fun r q hq => ?_)
    obtain ⟨⟨z1, z2⟩, hq⟩ := hq
    rcases hq with ⟨e2, he2⟩ | ⟨t', cs, e, sz', nc', nb', ⟨g1, g2, g3⟩, ⟨g4, g5, g6, g7⟩, ⟨g8, g9, g10⟩, ⟨g11, g12⟩, g13, g14, g15⟩
    · exact ⟨⟨rfl, Sum.inl e2, ⟨⟨he2.1.1, he2.2.1⟩, fun t' ht' => by cases ht'⟩, fun t' ht' => by cases ht'⟩, S0.trans z1, M0.trans z2⟩
    · refine ⟨⟨rfl, Sum.inr t', g1.1, fun t2 ht2 => ?_⟩, S0.trans z1, M0.trans z2⟩
      have et := Sum.inr.inj ht2
      subst et
      refine ⟨by omega, ?_⟩
      have r12 : r2.2 12 = I 12 := (s2.row 12 (fun _ => rfl)).trans (s1.row 12 (fun _ => rfl))
      have r13 : r2.2 13 = I 13 := (s2.row 13 (fun _ => rfl)).trans (s1.row 13 (fun _ => rfl))
      have q7o : ∀ o, 150 ≤ o → q7 o = M o := fun o ho => by
        have x : ∀ j, scF3 o j = false := fun j => by
          unfold scF3
          rw [beqf (show ¬ o = 131 by omega)]
          rfl
        rw [m2.row o x, m1.row o x]
      have hz := encC_lt cs _ g5
      have hz2 := encM_le cs _ _ g6
      obtain ⟨lw2, hlw2⟩ : ∃ f : Nat → Option XLw, ∀ j, f j = if j = k then some (cs, e) else lw j := ⟨fun j => if j = k then some (cs, e) else lw j, fun _ => rfl⟩
      refine ⟨lw2, sz', nb', nc', ⟨g1.2.1.1, g1.2.1.2⟩, ⟨g1.2.2.1.1, g1.2.2.1.2⟩, ⟨g1.2.2.2.1.1, g3⟩, g1.2.2.2.2.1, fun j hj => ?_⟩
      rw [hlw2 j]
      by_cases ej : j = k
      · rw [if_pos ej, ej]
        refine ⟨⟨g4, sz, sz', ?_, Nat.le_refl _, g5⟩, ⟨nb, 420 * sd + nc, 420 * sd + nc', ⟨?_, ?_⟩, ⟨?_, by omega, Nat.le_refl _⟩, g6⟩⟩
        · show r 13 k = _
          rw [g8]; exact a1
        · show q 150 (4 * sd + k) = _
          rw [g9]; exact hq34
        · show q 151 (4 * sd + k) = _
          rw [g10, g7]
          show Int32.ofNat (130 * sd + (nb + List.length cs + 1)) = Int32.ofNat (130 * sd + nb + List.length cs + 1)
          simp only [← Nat.add_assoc]
        · show nb + List.length cs + 1 ≤ nb'
          omega
      · rw [if_neg ej]
        obtain ⟨⟨w1, a, z, w2, w3, w4⟩, w5⟩ := a8 j hj
        refine ⟨⟨w1, a, z, ?_, by omega, ?_⟩, ?_⟩
        · show r 13 j = _
          rw [g12 j ej, r13]; exact w2
        · refine encC_same _ _ w4 (fun i _ hi => ?_)
          show r 12 i = _
          rw [g11 i (by omega), r12]
        · unfold lwM1 at w5 ⊢
          have x150 : q 150 (4 * sd + j) = M 150 (4 * sd + j) := ((g15 (4 * sd + j) (by omega)).1).trans (by rw [q7o 150 (by omega)])
          have x151 : q 151 (4 * sd + j) = M 151 (4 * sd + j) := ((g15 (4 * sd + j) (by omega)).2).trans (by rw [q7o 151 (by omega)])
          show (match lw j with | none => q 150 (4 * sd + j) = q 151 (4 * sd + j) | some l => _)
          split
          · rename_i el
            rw [el] at w5
            rw [x150, x151]; exact w5
          · rename_i l el
            rw [el] at w5
            obtain ⟨f, c, z', ⟨v1, v1'⟩, ⟨v2, v3, v4⟩, v5⟩ := w5
            refine ⟨f, c, z', ⟨x150.trans v1, x151.trans v1'⟩, ⟨by omega, v3, by omega⟩, encM_same _ _ _ v5 (fun i _ hi => ?_) (fun i hi => ?_)⟩
            · have := g14 i (by omega)
              rw [q7o 152 (by omega), q7o 153 (by omega), q7o 154 (by omega), q7o 155 (by omega), q7o 156 (by omega)] at this
              exact this
            · have := g13 i (by omega)
              rw [q7o 157 (by omega), q7o 158 (by omega)] at this
              exact this
