/-! both readers: a law with its ifs -/
theorem L_exg {F : Nat} (hF : 4000000 ≤ F) {b : Nat → Int32} {n sd B : Nat} {L : XL} {a : XB} {I M : XI} (hB : 100 ≤ B) (hsd : sd < 2) (h : LX b n L sd B a I M) : pr (f_Reader_readSumN F 8 0 I) (if M 131 13 = 0 then f_M_expression F M else some M) (exL b n L sd B a I M) := by
  cases a with
  | inl e =>
    obtain ⟨⟨h1, h1'⟩, h2, h3, nb, h4, h5⟩ := h
    refine pr.rneg (bm_v h2).1 (pr.xx (A := fun K => bdE b n e I K) (B := fun q => q = M) ?_ (xOk.of rfl rfl) (fun K q hK hq => ?_))
    · exact b_sum hF (m := 7) (I := I) ⟨h1, h1', Same.rfl⟩
    · rw [hq]
      exact ⟨Sum.inl e, ⟨⟨hK.1, hK.2.1⟩, h2, h3, nb, h4, h5⟩, fun g' hg => (by cases hg), hK.2.2, Same.rfl, fun o o1 o2 => rfl⟩
  | inr g =>
    have h13 : M 131 13 = 0 := h.1.1.2.2.1.2
    exact pr.rpos h13 (L_exp hF hB hsd h)
/-- one 'if', as both sides have written it -/
def caQ (b : Nat → Int32) (n : Nat) (L : XL) (sd B t sz nc nb : Nat) (I M r q : XI) : Prop := (Same scLc I r ∧ Same (scLm sd) M q) ∧ ((∃ e, LX b n L sd B (Sum.inl e) r q) ∨ ∃ t' u v w, (LX b n L sd B (Sum.inr (t', sz + List.length u + List.length v + 1 + List.length w + 1, nc + List.length u + List.length v + List.length w, nb + 1)) r q ∧ t + 7 ≤ t') ∧ (rp 15 u 0 1 ∧ rp 15 v 0 1 ∧ rp 15 w 0 1) ∧
  ((segR (r 12) sz u ∧ segR (r 12) (sz + List.length u) v) ∧ r 12 (sz + List.length u + List.length v) = Int32.ofNat (30000 + (sz + List.length u + List.length v + 1 + List.length w + 1)) ∧ (segR (r 12) (sz + List.length u + List.length v + 1) w ∧ r 12 (sz + List.length u + List.length v + 1 + List.length w) = 20000) ∧ (∀ j, j < sz → r 12 j = I 12 j) ∧ ∀ j, r 13 j = I 13 j) ∧
  ((q 152 (130 * sd + nb) = 1 ∧ (q 153 (130 * sd + nb) = Int32.ofNat (420 * sd + nc) ∧ q 154 (130 * sd + nb) = Int32.ofNat (420 * sd + nc + List.length u)) ∧ q 155 (130 * sd + nb) = Int32.ofNat (420 * sd + nc + List.length u + List.length v) ∧ q 156 (130 * sd + nb) = Int32.ofNat (420 * sd + nc + List.length u + List.length v + List.length w)) ∧ (segM q (420 * sd + nc) u ∧ segM q (420 * sd + nc + List.length u) v ∧ segM q (420 * sd + nc + List.length u + List.length v) w) ∧ (∀ j, j < 420 * sd + nc → q 157 j = M 157 j ∧ q 158 j = M 158 j) ∧ (∀ j, j < 130 * sd + nb → q 152 j = M 152 j ∧ q 153 j = M 153 j ∧ q 154 j = M 154 j ∧ q 155 j = M 155 j ∧ q 156 j = M 156 j) ∧ ∀ j, q 150 j = M 150 j ∧ q 151 j = M 151 j))
theorem pr_case {F : Nat} (hF : 4000000 ≤ F) {b : Nat → Int32} {n sd B t sz nc nb : Nat} {L : XL} {I M : XI} {k29 : Int32 → Int32 → Int32 → XI → Option XI} {k12 : Int32 → Int32 → Int32 → XI → Option XI} {w1 w3 w4 v1 v2 v3 : Int32} {Q : XI → XI → Prop} (hB : 100 ≤ B) (hB' : B ≤ 119) (hsd : sd < 2) (h : LX b n L sd B (Sum.inr (t, sz, nc, nb)) I M) (hkd : kd b n t = 109) (hnb : nb < 100)
    (hk : ∀ r q, caQ b n L sd (B + 1) t sz nc nb I M r q → pr (k29 w1 w3 (w4 + 1) r) (k12 v1 v2 (v3 + 1) q) Q) : pr (f_Reader_readLaw_62 F k29 w1 w3 w4 I) (f_M_tellLaw_38 F k12 v1 v2 v3 M) Q := by
  have h13 : M 131 13 = 0 := h.1.1.2.2.1.2
  have m34 : M 131 34 = Int32.ofNat (130 * sd + nb) := h.2.2.2.1.1
  have m40 : M 131 40 = Int32.ofNat (420 * sd + nc) := h.2.2.1.1
  unfold f_Reader_readLaw_62 f_M_tellLaw_38
  refine pr.rpos (by rw [h13]; exact Int32.le_refl _) ?_
  refine (L_go (k := 109) hB h hkd (by omega)).bnd (fun r14 q17 h14 => ?_)
  obtain ⟨a1, ⟨hL1, -⟩, hg1, s1, m1⟩ := h14
  have q34 : q17 131 34 = Int32.ofNat (130 * sd + nb) := (m1 131 34 rfl).trans m34
  have q40 : q17 131 40 = Int32.ofNat (420 * sd + nc) := (m1 131 40 rfl).trans m40
  rw [q34, nk_N (show 130 * sd + nb < 2147483648 by omega)]
  refine pr.rck (nk_in (by omega) (by omega)) (pr.rst ?_)
  rw [show ((1 : Int32) &&& 1) = 1 by decide, xput_neo (show ¬ 131 = 152 by omega), q34, nk_N (show 130 * sd + nb < 2147483648 by omega), q40]
  refine pr.rck (nk_in (by omega) (by omega)) (pr.rst ?_)
  have hL2 := LX_put (o := 153) (j := 130 * sd + nb) (v := Int32.ofNat (420 * sd + nc)) (LX_put (o := 152) (j := 130 * sd + nb) (v := 1) hL1 (by omega)) (by omega)
  have pA : Same (scLm sd) q17 (xput (xput q17 152 (130 * sd + nb) 1) 153 (130 * sd + nb) (Int32.ofNat (420 * sd + nc))) := (Same.put (lm155 (by omega) (by omega))).put' (lm155 (by omega) (by omega))
  have A152 : ∀ j, xput (xput q17 152 (130 * sd + nb) 1) 153 (130 * sd + nb) (Int32.ofNat (420 * sd + nc)) 152 j = if j = 130 * sd + nb then 1 else q17 152 j := fun j => by rw [xput_neo (by omega), xput_at]
  have A153 : ∀ j, xput (xput q17 152 (130 * sd + nb) 1) 153 (130 * sd + nb) (Int32.ofNat (420 * sd + nc)) 153 j = if j = 130 * sd + nb then Int32.ofNat (420 * sd + nc) else q17 153 j := fun j => by rw [xput_at, xput_neo (show ¬ 153 = 152 by omega)]
  have Ao : ∀ o, ¬ o = 152 → ¬ o = 153 → xput (xput q17 152 (130 * sd + nb) 1) 153 (130 * sd + nb) (Int32.ofNat (420 * sd + nc)) o = q17 o := fun o x1 x2 => by rw [xput_neo x2, xput_neo x1]
  generalize xput (xput q17 152 (130 * sd + nb) 1) 153 (130 * sd + nb) (Int32.ofNat (420 * sd + nc)) = MA at hL2 pA A152 A153 Ao ⊢
  refine (L_exp hF hB hsd hL2).bnd (fun r15 q22 h15 => ?_)
  obtain ⟨a2, hL3, hg3, s3, m3, o3⟩ := h15
  refine (L_acc (k := 60) hB hL3 (by omega) (by omega) rfl).bnd (fun r16 q23 h16 => ?_)
  obtain ⟨a3, ⟨hL4, -⟩, hg4, s4, m4⟩ := h16
  obtain ⟨nb2, hnb2, h234⟩ := LX_br hB hL4
  rw [h234, nk_N (show 130 * sd + nb2 < 2147483648 by omega)]
  refine pr.rck (nk_in (by omega) (by omega)) (pr.rst ?_)
  have hL5 := LX_put (o := 154) (j := 130 * sd + nb2) (v := q23 131 40) hL4 (by omega)
  have pB : Same (scLm sd) q23 (xput q23 154 (130 * sd + nb2) (q23 131 40)) := Same.put (lm155 (by omega) (by omega))
  have B154 : ∀ j, xput q23 154 (130 * sd + nb2) (q23 131 40) 154 j = if j = 130 * sd + nb2 then q23 131 40 else q23 154 j := fun j => xput_at
  have Bo : ∀ o, ¬ o = 154 → xput q23 154 (130 * sd + nb2) (q23 131 40) o = q23 o := fun o x1 => xput_neo x1
  generalize xput q23 154 (130 * sd + nb2) (q23 131 40) = MB at hL5 pB B154 Bo ⊢
  have hguard : (if MB 131 13 = 0 then (f_M_expression F MB).bind fun q27 => f_M_tellLaw_110 F k12 v1 v2 (v3 + 1) q27 else f_M_tellLaw_110 F k12 v1 v2 (v3 + 1) MB) = (if MB 131 13 = 0 then f_M_expression F MB else some MB).bind fun q27 => f_M_tellLaw_110 F k12 v1 v2 (v3 + 1) q27 := by
    split <;> rfl
  rw [hguard]
  refine (L_exg hF hB hsd hL5).bnd (fun r17 q27 h17 => ?_)
  obtain ⟨a4, hL6, hg6, s6, m6, o6⟩ := h17
  unfold f_M_tellLaw_110
  refine (L_acc (k := 110) hB hL6 (by omega) (by omega) rfl).bnd (fun r18 q28 h18 => ?_)
  obtain ⟨a5, ⟨hL7, -⟩, hg7, s7, m7⟩ := h18
  obtain ⟨sj, hsj, hsj'⟩ := LX_sz hL7
  refine pr.lb (L_emit (w := 30000) hL7 (fun g e => ?_)) (fun r19 h19 => ?_)
  · obtain ⟨t5, sz5, nc5, nb5, e1, e2, -⟩ := hg7 g e
    rw [e1] at hL6
    have : sz5 ≤ 8 + t5 := hL6.2.1.2
    rw [e2]
    show sz5 < 8 + (t5 + 1)
    omega
  obtain ⟨a6, hL8, hg8, s8⟩ := h19
  refine (L_term hF hB (by omega) hsd hL8 (fun g e => ?_)).bnd (fun r20 q29 h20 => ?_)
  · obtain ⟨t6, sz6, nc6, nb6, e1, e2, -⟩ := hg8 g e
    obtain ⟨t5, sz5, nc5, nb5, e3, e4, -⟩ := hg7 _ e1
    obtain ⟨t4, sz4, nc4, nb4, x4, t4', ⟨e5, e6, -⟩, -⟩ := hg6 _ e3
    obtain ⟨t3, sz3, nc3, nb3, e7, e8, -⟩ := hg4 _ e5
    obtain ⟨t2, sz2, nc2, nb2', x2, t2', ⟨e9, e10, -⟩, -⟩ := hg3 _ e7
    have e11 := hg1 _ e9
    cases e11
    cases e10
    cases e8
    cases e6
    cases e4
    rw [e2]
    exact hnb
  obtain ⟨a7, hL9, hg9, s9, m9, o9⟩ := h20
  refine (L_acc (k := 111) (by omega) hL9 (by omega) (by omega) rfl).bnd (fun r21 q30 h21 => ?_)
  obtain ⟨a8, ⟨hL10, -⟩, hg10, s10, m10⟩ := h21
  refine pr.lb (L_emit (w := 20000) hL10 (fun g e => ?_)) (fun r22 h22 => ?_)
  · obtain ⟨t5, sz5, nc5, nb5, e1, e2, -⟩ := hg10 g e
    rw [e1] at hL9
    have : sz5 ≤ 8 + t5 := hL9.2.1.2
    rw [e2]
    show sz5 < 8 + (t5 + 1)
    omega
  obtain ⟨a9, hL11, hg11, s11⟩ := h22
  rw [hsj']
  refine pr.lb (L_aim hL11 hsj) (fun r23 h23 => ?_)
  obtain ⟨hL12, aim1, aim2, s12⟩ := h23
  refine hk r23 q30 ?_
  have hi : ∀ {X Y : XI}, Same scF3 X Y → ∀ o, 150 ≤ o → Y o = X o := fun hs o ho => hs.row o (fun j => by
    unfold scF3
    rw [beqf (show ¬ o = 131 by omega)]
    rfl)
  have SI : Same scLc I r23 := ((((((((s1.L6.trans s3.EL).trans s4.L6).trans s6.EL).trans s7.L6).trans s8.EL).trans s9.EL).trans s10.L6).trans s11.EL).trans s12.EL
  have SM : Same (scLm sd) M q30 := (((((((m1.L3.trans pA).trans m3).trans m4.L3).trans pB).trans m6).trans m7.L3).trans m9).trans m10.L3
  refine ⟨⟨SI, SM⟩, ?_⟩
  cases a9 with
  | inl e => exact Or.inl ⟨e, hL12⟩
  | inr g9 =>
    refine Or.inr ?_
    obtain ⟨t9, sz9, nc9, nb9, ea8, eg9, z20, zo⟩ := hg11 g9 rfl
    obtain ⟨t8, sz8, nc8, nb8, ea7, eg8, -⟩ := hg10 _ ea8
    obtain ⟨t7, sz7, nc7, nb7, w, t7', ⟨ea6, eg7, lt7⟩, hrpw, ⟨wseg, wsegM⟩, wpre, wpreM, ⟨w155, w156⟩, wo⟩ := hg9 _ ea7
    obtain ⟨t6, sz6, nc6, nb6, ea5, eg6, z30, zo3⟩ := hg8 _ ea6
    obtain ⟨t5, sz5, nc5, nb5, ea4, eg5, -⟩ := hg7 _ ea5
    obtain ⟨t4, sz4, nc4, nb4, v, t4', ⟨ea3, eg4, lt4⟩, hrpv, ⟨vseg, vsegM⟩, vpre, vpreM⟩ := hg6 _ ea4
    obtain ⟨t3, sz3, nc3, nb3, ea2, eg3, -⟩ := hg4 _ ea3
    obtain ⟨t2, sz2, nc2, nb2', u, t2', ⟨ea1, eg2, lt2⟩, hrpu, ⟨useg, usegM⟩, upre, upreM⟩ := hg3 _ ea2
    have eg1 := hg1 _ ea1
    cases eg1
    cases eg2
    cases eg3
    cases eg4
    cases eg5
    cases eg6
    cases eg7
    cases eg8
    cases eg9
    rw [ea3] at hL4
    rw [ea5] at hL7
    have hnbe : nb2 = nb := by
      have hq : q23 131 34 = Int32.ofNat (130 * sd + nb) := hL4.2.2.2.1.1
      rw [h234, nk_eq (by omega) (by omega)] at hq
      omega
    subst hnbe
    have q23_40 : q23 131 40 = Int32.ofNat (420 * sd + (nc + List.length u)) := hL4.2.2.1.1
    have hsjv : sj = sz + List.length u + List.length v := by
      have hq : r18.2 11 1 = Int32.ofNat (sz + List.length u + List.length v) := hL7.2.1.1
      have hb : sz + List.length u + List.length v ≤ 8 + _ := hL7.2.1.2
      have ht := hL7.1.1.1.1.1
      rw [hsj', nk_eq (by omega) (by omega)] at hq
      exact hq
    subst hsjv
    have hb11 : sz + List.length u + List.length v + 1 + List.length w + 1 ≤ 8 + _ := hL12.2.1.2
    have hb11t := hL12.1.1.1.1.1
    have r22_11 : r22 11 1 = Int32.ofNat (sz + List.length u + List.length v + 1 + List.length w + 1) := hL11.2.1.1
    -- rows of the class
    have c16 : r16.2 12 = r15 12 := s4.row 12 (fun _ => rfl)
    have c18 : r18.2 12 = r17 12 := s7.row 12 (fun _ => rfl)
    have c21 : r21.2 12 = r20 12 := s10.row 12 (fun _ => rfl)
    have c14 : r14.2 12 = I 12 := s1.row 12 (fun _ => rfl)
    have up1 : ∀ j, j < sz + List.length u + List.length v → r23 12 j = r17 12 j := fun j hj => by
      rw [aim2 j (by omega), zo j (by omega), c21, wpre j (by omega), zo3 j (by omega), c18]
    have up2 : ∀ j, sz + List.length u + List.length v < j → j < sz + List.length u + List.length v + 1 + List.length w → r23 12 j = r20 12 j := fun j h1 h2 => by
      rw [aim2 j (by omega), zo j (by omega), c21]
    have vpre' : ∀ j, j < sz + List.length u → r17 12 j = r15 12 j := fun j hj => by rw [vpre j hj, c16]
    -- rows of the reference
    have d30 : ∀ o, 150 ≤ o → q30 o = q29 o := hi m10
    have d28 : ∀ o, 150 ≤ o → q28 o = q27 o := hi m7
    have d23 : ∀ o, 150 ≤ o → q23 o = q22 o := hi m4
    have d17 : ∀ o, 150 ≤ o → q17 o = M o := hi m1
    have codes : ∀ j, j < 420 * sd + (nc + List.length u) → q27 157 j = q22 157 j ∧ q27 158 j = q22 158 j := fun j hj => by
      have := vpreM j hj
      rw [Bo 157 (by omega), Bo 158 (by omega), d23 157 (by omega), d23 158 (by omega)] at this
      exact this
    have codesw : ∀ j, j < 420 * sd + (nc + List.length u + List.length v) → q30 157 j = q27 157 j ∧ q30 158 j = q27 158 j := fun j hj => by
      have := wpreM j hj
      rw [d28 157 (by omega), d28 158 (by omega)] at this
      rw [d30 157 (by omega), d30 158 (by omega)]
      exact this
    have codesA : ∀ j, j < 420 * sd + nc → q22 157 j = M 157 j ∧ q22 158 j = M 158 j := fun j hj => by
      have := upreM j hj
      rw [Ao 157 (by omega) (by omega), Ao 158 (by omega) (by omega), d17 157 (by omega), d17 158 (by omega)] at this
      exact this
    have e154 : ∀ j, q30 154 j = if j = 130 * sd + nb2 then q23 131 40 else M 154 j := fun j => by
      rw [d30 154 (by omega), o9 154 (by omega) (by omega), d28 154 (by omega), o6 154 (by omega) (by omega), B154, d23 154 (by omega), o3 154 (by omega) (by omega), Ao 154 (by omega) (by omega), d17 154 (by omega)]
    have e15x : ∀ o, 150 ≤ o → o ≤ 153 → q30 o = MA o := fun o h1 h2 => by
      rw [d30 o h1, o9 o h1 (by omega), d28 o h1, o6 o h1 (by omega), Bo o (by omega), d23 o h1, o3 o h1 (by omega)]
    have e55 : ∀ o, 155 ≤ o → o ≤ 156 → q28 o = M o := fun o h1 h2 => by
      rw [d28 o (by omega), o6 o (by omega) (by omega), Bo o (by omega), d23 o (by omega), o3 o (by omega) (by omega), Ao o (by omega) (by omega), d17 o (by omega)]
    refine ⟨_, u, v, w, ⟨hL12, by omega⟩, ⟨hrpu, hrpv, hrpw⟩, ⟨⟨fun j hj => ?_, fun j hj => ?_⟩, ?_, ⟨fun j hj => ?_, ?_⟩, fun j hj => ?_, fun j => ?_⟩, ⟨?_, ⟨?_, ?_⟩, ?_, ?_⟩, ⟨fun j hj => ?_, fun j hj => ?_, fun j hj => ?_⟩, fun j hj => ?_, fun j hj => ?_, fun j => ?_⟩
    · rw [up1 _ (by omega), vpre' _ (by omega)]; exact useg j hj
    · rw [up1 _ (by omega)]; exact vseg j hj
    · rw [aim1 (by omega), r22_11, show (30000 : Int32) = Int32.ofNat 30000 from rfl, nk_add]
    · rw [up2 _ (by omega) (by omega)]; exact wseg j hj
    · rw [aim2 _ (by omega)]; exact z20
    · rw [up1 j (by omega), vpre' j (by omega), upre j hj, c14]
    · rw [s12 13 j rfl, s11 13 j rfl, s10 13 j rfl, s9 13 j rfl, s8 13 j rfl, s7 13 j rfl, s6 13 j rfl, s4 13 j rfl, s3 13 j rfl, s1 13 j rfl]
    · rw [e15x 152 (by omega) (by omega), A152, if_pos rfl]
    · rw [e15x 153 (by omega) (by omega), A153, if_pos rfl]
    · rw [e154, if_pos rfl, q23_40, Nat.add_assoc]
    · rw [d30 155 (by omega), w155]
      simp only [Nat.add_assoc]
    · rw [d30 156 (by omega), w156]
      simp only [Nat.add_assoc]
    · obtain ⟨x1, x2⟩ := usegM j hj
      obtain ⟨y1, y2⟩ := codes (420 * sd + nc + j) (by omega)
      obtain ⟨y3, y4⟩ := codesw (420 * sd + nc + j) (by omega)
      exact ⟨(y3.trans y1).trans x1, (y4.trans y2).trans x2⟩
    · obtain ⟨x1, x2⟩ := vsegM j hj
      obtain ⟨y3, y4⟩ := codesw (420 * sd + (nc + List.length u) + j) (by omega)
      rw [Nat.add_assoc (420 * sd)]
      exact ⟨y3.trans x1, y4.trans x2⟩
    · obtain ⟨x1, x2⟩ := wsegM j hj
      rw [d30 157 (by omega), d30 158 (by omega), Nat.add_assoc (420 * sd), Nat.add_assoc (420 * sd)]
      exact ⟨x1, x2⟩
    · obtain ⟨x1, x2⟩ := codesA j hj
      obtain ⟨y1, y2⟩ := codes j (by omega)
      obtain ⟨y3, y4⟩ := codesw j (by omega)
      exact ⟨(y3.trans y1).trans x1, (y4.trans y2).trans x2⟩
    · rw [e15x 152 (by omega) (by omega), e15x 153 (by omega) (by omega), e154, A152, A153, if_neg (by omega), if_neg (by omega), if_neg (by omega), d17 152 (by omega), d17 153 (by omega), d30 155 (by omega), d30 156 (by omega), (wo j (by omega)).1, (wo j (by omega)).2, e55 155 (by omega) (by omega), e55 156 (by omega) (by omega)]
      exact ⟨rfl, rfl, rfl, rfl, rfl⟩
    · rw [e15x 150 (by omega) (by omega), e15x 151 (by omega) (by omega), Ao 150 (by omega) (by omega), Ao 151 (by omega) (by omega), d17 150 (by omega), d17 151 (by omega)]
      exact ⟨rfl, rfl⟩
