/-! both readers: a law -/
def encC (r : Nat → Int32) : List (XP × XP × XP) → XP → Nat → Nat → Prop
  | [], e, a, z => segR r a e ∧ r (a + List.length e) = 20000 ∧ z = a + List.length e + 1
  | q :: cs, e, a, z => (segR r a q.1 ∧ segR r (a + List.length q.1) q.2.1) ∧ r (a + List.length q.1 + List.length q.2.1) = Int32.ofNat (30000 + (a + List.length q.1 + List.length q.2.1 + 1 + List.length q.2.2 + 1)) ∧ (segR r (a + List.length q.1 + List.length q.2.1 + 1) q.2.2 ∧ r (a + List.length q.1 + List.length q.2.1 + 1 + List.length q.2.2) = 20000) ∧ encC r cs e (a + List.length q.1 + List.length q.2.1 + 1 + List.length q.2.2 + 1) z
def encM (M : XI) : List (XP × XP × XP) → XP → Nat → Nat → Nat → Prop
  | [], e, f, c, z => (M 152 f = 0 ∧ M 155 f = Int32.ofNat c ∧ M 156 f = Int32.ofNat (c + List.length e)) ∧ segM M c e ∧ z = c + List.length e
  | q :: cs, e, f, c, z => (M 152 f = 1 ∧ (M 153 f = Int32.ofNat c ∧ M 154 f = Int32.ofNat (c + List.length q.1)) ∧ M 155 f = Int32.ofNat (c + List.length q.1 + List.length q.2.1) ∧ M 156 f = Int32.ofNat (c + List.length q.1 + List.length q.2.1 + List.length q.2.2)) ∧ (segM M c q.1 ∧ segM M (c + List.length q.1) q.2.1 ∧ segM M (c + List.length q.1 + List.length q.2.1) q.2.2) ∧ encM M cs e (f + 1) (c + List.length q.1 + List.length q.2.1 + List.length q.2.2) z
def okLw : List (XP × XP × XP) → XP → Prop
  | [], e => rp 15 e 0 1
  | q :: cs, e => (rp 15 q.1 0 1 ∧ rp 15 q.2.1 0 1 ∧ rp 15 q.2.2 0 1) ∧ okLw cs e
/-- a law's end, as both sides have written it -/
def lwQ (b : Nat → Int32) (n : Nat) (L : XL) (sd B k : Nat) (start first : Int32) (t sz nc nb : Nat) (I M r q : XI) : Prop := (Same scLc I r ∧ Same (scLm sd) M q) ∧ ((∃ e, LX b n L sd B (Sum.inl e) r q) ∨ ∃ t' cs e sz' nc' nb', (LX b n L sd B (Sum.inr (t', sz', nc', nb')) r q ∧ t < t' ∧ 4 * nb' ≤ t') ∧ (okLw cs e ∧ encC (r 12) cs e sz sz' ∧ encM q cs e (130 * sd + nb) (420 * sd + nc) (420 * sd + nc') ∧ nb' = nb + List.length cs + 1) ∧ (r 13 k = start ∧ q 150 (4 * sd + k) = first ∧ q 151 (4 * sd + k) = Int32.ofNat (130 * sd + nb')) ∧ ((∀ j, j < sz → r 12 j = I 12 j) ∧ (∀ j, ¬ j = k → r 13 j = I 13 j)) ∧ (∀ j, j < 420 * sd + nc → q 157 j = M 157 j ∧ q 158 j = M 158 j) ∧ (∀ j, j < 130 * sd + nb → q 152 j = M 152 j ∧ q 153 j = M 153 j ∧ q 154 j = M 154 j ∧ q 155 j = M 155 j ∧ q 156 j = M 156 j) ∧ ∀ j, ¬ j = 4 * sd + k → q 150 j = M 150 j ∧ q 151 j = M 151 j)
theorem lm150 {sd k o : Nat} (h : k < 4) (ho : o = 150 ∨ o = 151) : scLm sd o (4 * sd + k) = true := by
  have e3 := rg_in (lo := 4 * sd) (len := 4) (k := k) h
  rcases ho with rfl | rfl
  · have e1 : scLm sd 150 (4 * sd + k) = (scRM sd 150 (4 * sd + k) || false) := rfl
    have e2 : scRM sd 150 (4 * sd + k) = (rg (4 * sd) 4 (4 * sd + k) || false) := rfl
    rw [e1, e2, e3]; rfl
  · have e1 : scLm sd 151 (4 * sd + k) = (scRM sd 151 (4 * sd + k) || false) := rfl
    have e2 : scRM sd 151 (4 * sd + k) = (rg (4 * sd) 4 (4 * sd + k) || false) := rfl
    rw [e1, e2, e3]; rfl
theorem fgB_ok {a : XB} (h : fgB a = 1) : ∃ g, a = Sum.inr g := by
  cases a with
  | inl e => exact absurd h (show ¬ (0 : Int32) = 1 by decide)
  | inr g => exact ⟨g, rfl⟩
/-- the last term -/
theorem pr_end {F : Nat} (hF : 4000000 ≤ F) {b : Nat → Int32} {n sd B k : Nat} {start first : Int32} {L : XL} {a : XB} {I M : XI} (hB : 100 ≤ B) (hB' : B ≤ 119) (hsd : sd < 2) (hk : k < 4) (h : LX b n L sd B a I M) (hg : ∀ g, a = Sum.inr g → 4 * g.2.2.2 + 2 ≤ g.1) :
    pr (f_Reader_readLaw_137 F (Int32.ofNat (103 + k)) start I) (f_M_tellLaw_129 F (Int32.ofNat k) first M) (fun r q => (Same scLc I r ∧ Same (scLm sd) M q) ∧ ((∃ e, LX b n L sd (B + 1) (Sum.inl e) r q) ∨ ∃ t sz nc nb, a = Sum.inr (t, sz, nc, nb) ∧ lwQ b n L sd (B + 1) k start first t sz nc nb I M r q)) := by
  obtain ⟨nb0, hnb0, h34⟩ := LX_br hB h
  unfold f_Reader_readLaw_137 f_M_tellLaw_129
  rw [h34, nk_N (show 130 * sd + nb0 < 2147483648 by omega)]
  refine pr.rck (nk_in (by omega) (by omega)) (pr.rst ?_)
  have e00 : ((0 : Int32) &&& 1) = 0 := by decide
  rw [e00]
  have hp := LX_put (o := 152) (j := 130 * sd + nb0) (v := 0) h (by omega)
  have pM : Same (scLm sd) M (xput M 152 (130 * sd + nb0) 0) := Same.put (lm155 (by omega) (by omega))
  have eM : ∀ o, ¬ o = 152 → xput M 152 (130 * sd + nb0) 0 o = M o := fun o ho => xput_neo ho
  have eM2 : ∀ j, xput M 152 (130 * sd + nb0) 0 152 j = if j = 130 * sd + nb0 then 0 else M 152 j := fun j => xput_at
  generalize xput M 152 (130 * sd + nb0) 0 = M1 at hp pM eM eM2 ⊢
  refine (L_term hF hB (by omega) hsd hp (fun g e => by have := hg g e; have h4 := (e ▸ h : LX b n L sd B (Sum.inr g) I M).1.1.1.1.1; omega)).bnd (fun r4 q7 ht => ?_)
  obtain ⟨a1, hL1, hg1, s1, m1, o1⟩ := ht
  refine (L_acc (k := 59) (by omega) hL1 (by omega) (by omega) rfl).bnd (fun r5 q8 h5 => ?_)
  obtain ⟨a2, ⟨hL2, hf2⟩, hg2, s2, m2⟩ := h5
  refine pr.lb (L_emit (w := 20000) hL2 (fun g e => ?_)) (fun r6 h6 => ?_)
  · obtain ⟨t, sz, nc, nb, e1, e2, -⟩ := hg2 g e
    rw [e1] at hL1
    have := hL1.2.1.2
    rw [e2]
    show sz < 8 + (t + 1)
    have : sz ≤ 8 + t := this
    omega
  · obtain ⟨a3, hL3, hg3, s3⟩ := h6
    have ek : Int32.ofNat (103 + k) - 103 = Int32.ofNat k := by
      rw [show (103 : Int32) = Int32.ofNat 103 from rfl, nk_sub (by omega), Nat.add_sub_cancel_left]
    rw [ek]
    refine pr.lck (nk_in hk (by omega)) (pr.lst ?_)
    rw [nk_N (show k < 2147483648 by omega)]
    have hL4 : LX b n L sd (B + 1) a3 (xput r6 13 k start) q8 := LX_cls hL3 (fun o _ o2 => xput_neo o2)
    have sI : Same scLc I (xput r6 13 k start) := (((s1.EL).trans s2.L6).trans s3.EL).trans (Same.put rfl)
    have mM : Same (scLm sd) M q8 := (pM.trans m1).trans m2.L3
    cases a3 with
    | inl e =>
      refine pr.rneg (bm_v hL4.2.1).2.1 (pr.pur ⟨⟨sI, mM⟩, Or.inl ⟨e, hL4⟩⟩)
    | inr g3 =>
      obtain ⟨t2, sz2, nc2, nb2, ea2, eg3, z20, zo⟩ := hg3 g3 rfl
      obtain ⟨t1, sz1, nc1, nb1, ea1, eg2, kd2⟩ := hg2 _ ea2
      obtain ⟨t, sz, nc, nb, x, t', ⟨ea, eg1, htt⟩, hrp, ⟨seg1, seg2⟩, pre1, pre2, ⟨b155, b156⟩, bo⟩ := hg1 _ ea1
      cases eg1
      cases eg2
      cases eg3
      subst ea
      have hnb : nb0 = nb := by
        have hq : M 131 34 = Int32.ofNat (130 * sd + nb) := h.2.2.2.1.1
        have hb : nb ≤ 100 := h.2.2.2.1.2
        rw [h34, nk_eq (by omega) (by omega)] at hq
        omega
      subst hnb
      have hgood : 4 * nb0 + 2 ≤ t := hg _ rfl
      have hnb100 : nb0 ≤ 100 := h.2.2.2.1.2
      refine pr.rpos (by rw [hL4.1.1.2.2.1.2]; exact Int32.le_refl _) ?_
      have q19 := LX_19 hL4
      have q34 : q8 131 34 = Int32.ofNat (130 * sd + (nb0 + 1)) := hL4.2.2.2.1.1
      rw [q19, show (4 : Int32) = Int32.ofNat 4 from rfl, nk_mul, nk_add]
      refine pr.rck (nk_in (by omega) (by omega)) (pr.rst ?_)
      rw [nk_N (show 4 * sd + k < 2147483648 by omega), xput_neo (show ¬ 131 = 150 by omega), q19, nk_mul, nk_add]
      refine pr.rck (nk_in (by omega) (by omega)) (pr.rst (pr.pur ?_))
      rw [nk_N (show 4 * sd + k < 2147483648 by omega), q34]
      have hL5 := LX_put (o := 151) (j := 4 * sd + k) (v := Int32.ofNat (130 * sd + (nb0 + 1))) (LX_put (o := 150) (j := 4 * sd + k) (v := first) hL4 (by omega)) (by omega)
      have pq : Same (scLm sd) q8 (xput (xput q8 150 (4 * sd + k) first) 151 (4 * sd + k) (Int32.ofNat (130 * sd + (nb0 + 1)))) := (Same.put (lm150 hk (Or.inl rfl))).put' (lm150 hk (Or.inr rfl))
      have qo : ∀ o, ¬ o = 150 → ¬ o = 151 → xput (xput q8 150 (4 * sd + k) first) 151 (4 * sd + k) (Int32.ofNat (130 * sd + (nb0 + 1))) o = q8 o := fun o h1 h2 => by rw [xput_neo h2, xput_neo h1]
      have q150 : ∀ j, xput (xput q8 150 (4 * sd + k) first) 151 (4 * sd + k) (Int32.ofNat (130 * sd + (nb0 + 1))) 150 j = if j = 4 * sd + k then first else q8 150 j := fun j => by rw [xput_neo (by omega), xput_at]
      have q151 : ∀ j, xput (xput q8 150 (4 * sd + k) first) 151 (4 * sd + k) (Int32.ofNat (130 * sd + (nb0 + 1))) 151 j = if j = 4 * sd + k then Int32.ofNat (130 * sd + (nb0 + 1)) else q8 151 j := fun j => by rw [xput_at, xput_neo (show ¬ 151 = 150 by omega)]
      generalize xput (xput q8 150 (4 * sd + k) first) 151 (4 * sd + k) (Int32.ofNat (130 * sd + (nb0 + 1))) = Q at hL5 pq qo q150 q151 ⊢
      have m2r : ∀ o, 150 ≤ o → q8 o = q7 o := fun o ho => m2.row o (fun j => by
        unfold scF3
        rw [beqf (show ¬ o = 131 by omega)]
        rfl)
      have r5_12 : r5.2 12 = r4 12 := s2.row 12 (fun _ => rfl)
      have r12 : ∀ j, xput r6 13 k start 12 j = r6 12 j := fun j => by rw [xput_neo (by omega)]
      refine ⟨⟨sI, mM.trans pq⟩, Or.inr ⟨t, sz, nc, nb0, rfl, ⟨sI, mM.trans pq⟩, Or.inr ⟨t1 + 1, [], x, sz + List.length x + 1, nc + List.length x, nb0 + 1, ⟨hL5, by omega, by omega⟩, ⟨hrp, ⟨fun j hj => ?_, ?_, rfl⟩, ⟨⟨?_, ?_, ?_⟩, fun j hj => ?_, by rw [Nat.add_assoc]⟩, rfl⟩, ⟨xput_eq, by rw [q150, if_pos rfl], by rw [q151, if_pos rfl]⟩, ⟨fun j hj => ?_, fun j hj => ?_⟩, fun j hj => ?_, fun j hj => ?_, fun j hj => ?_⟩⟩⟩
      · rw [r12, zo _ (by omega), r5_12]; exact seg1 j hj
      · rw [r12]; exact z20
      · rw [qo 152 (by omega) (by omega), m2r 152 (by omega), o1 152 (by omega) (by omega), eM2, if_pos rfl]
      · rw [qo 155 (by omega) (by omega), m2r 155 (by omega)]; exact b155
      · rw [qo 156 (by omega) (by omega), m2r 156 (by omega), b156, Nat.add_assoc]
      · rw [qo 157 (by omega) (by omega), qo 158 (by omega) (by omega), m2r 157 (by omega), m2r 158 (by omega)]; exact seg2 j hj
      · rw [r12, zo _ (by omega), r5_12]; exact pre1 j hj
      · rw [xput_at, if_neg hj]
        exact ((s3 13 j rfl).trans (s2 13 j rfl)).trans (s1 13 j rfl)
      · rw [qo 157 (by omega) (by omega), qo 158 (by omega) (by omega), m2r 157 (by omega), m2r 158 (by omega)]
        have := pre2 j hj
        rw [eM 157 (by omega), eM 158 (by omega)] at this
        exact this
      · rw [qo 152 (by omega) (by omega), qo 153 (by omega) (by omega), qo 154 (by omega) (by omega), qo 155 (by omega) (by omega), qo 156 (by omega) (by omega), m2r 152 (by omega), m2r 153 (by omega), m2r 154 (by omega), m2r 155 (by omega), m2r 156 (by omega), o1 152 (by omega) (by omega), o1 153 (by omega) (by omega), o1 154 (by omega) (by omega), eM2, if_neg (by omega), eM 153 (by omega), eM 154 (by omega)]
        have := bo j (by omega)
        rw [eM 155 (by omega), eM 156 (by omega)] at this
        exact ⟨rfl, rfl, rfl, this.1, this.2⟩
      · rw [q150, q151, if_neg hj, if_neg hj, m2r 150 (by omega), m2r 151 (by omega), o1 150 (by omega) (by omega), o1 151 (by omega) (by omega), eM 150 (by omega), eM 151 (by omega)]
        exact ⟨rfl, rfl⟩
