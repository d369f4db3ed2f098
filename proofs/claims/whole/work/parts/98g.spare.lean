/-! both readers: a spare -/
def SLn (b : Nat → Int32) (n i : Nat) (I M : XI) : Prop := ∃ s, s < 7 ∧ (I 6 5 = Int32.ofNat s ∧ M 131 15 = Int32.ofNat s) ∧ (s = 0 → I 6 6 = -1) ∧ (¬ s = 0 → ∃ j, ((j < i ∨ (j = i ∧ s = 3)) ∧ reach b n j) ∧ I 6 6 = Int32.ofNat (plc b n j) ∧ M 131 16 = Int32.ofNat (plc b n j))
theorem SLn_r {b : Nat → Int32} {n i : Nat} {I M : XI} (h : SLr b n i I M) : SLn b n i I M := by
  obtain ⟨s, h1, h2, h3, h4⟩ := h
  refine ⟨s, h1, h2, h3, fun hs => ?_⟩
  obtain ⟨j, ⟨j1, j2⟩, j3⟩ := h4 hs
  exact ⟨j, ⟨Or.inl j1, j2⟩, j3⟩
theorem SLr_n {b : Nat → Int32} {n i : Nat} {I M : XI} (h : SLn b n i I M) : SLr b n (i + 1) I M := by
  obtain ⟨s, h1, h2, h3, h4⟩ := h
  refine ⟨s, h1, h2, h3, fun hs => ?_⟩
  obtain ⟨j, ⟨j1, j2⟩, j3⟩ := h4 hs
  exact ⟨j, ⟨by omega, j2⟩, j3⟩
theorem SLn_same {b : Nat → Int32} {n j : Nat} {I M I' M' : XI} (h : SLn b n j I M) (h5 : I' 6 5 = I 6 5) (h6 : I' 6 6 = I 6 6) (m5 : M' 131 15 = M 131 15) (m6 : M' 131 16 = M 131 16) : SLn b n j I' M' := by
  obtain ⟨s, h1, ⟨h2, h2'⟩, h3, h4⟩ := h
  refine ⟨s, h1, ⟨h5.trans h2, m5.trans h2'⟩, fun hs => h6.trans (h3 hs), fun hs => ?_⟩
  obtain ⟨i, i1, i2, i3⟩ := h4 hs
  exact ⟨i, i1, h6.trans i2, m6.trans i3⟩
theorem pr_mark3 {b : Nat → Int32} {n i : Nat} {I M : XI} (hn : n ≤ 2000) (hs : SLn b n i I M) (hi : reach b n i) (hM : M 135 i = Int32.ofNat (plc b n i)) (h13 : M 131 13 = 0) : pr (f_Reader_mark 3 (Int32.ofNat (plc b n i)) I) (f_M_wrong 3 (Int32.ofNat i) M) (fun r q => SLn b n i r q ∧ (Sm I r ∧ ∀ j, ¬ (j = 5 ∨ j = 6) → r 6 j = I 6 j) ∧ Same scFS M q ∧ (∀ j, ¬ (j = 15 ∨ j = 16) → q 131 j = M 131 j)) := by
  obtain ⟨s, h1, ⟨h2, h2'⟩, h3, h4⟩ := id hs
  have hi4 := hi.1
  have hpl := plc_le b n i
  unfold f_Reader_mark f_M_wrong
  rw [h2, h2', h13, nk_N (show i < 2147483648 by omega), hM]
  refine pr.rck (nk_in (by omega) (by omega)) (pr.rneg (by decide) ?_)
  by_cases e : s = 0
  · rw [e]
    refine pr.lpos rfl (pr.rpos rfl ?_)
    unfold f_M_wrong_46
    refine pr.lst (pr.lst (pr.rst (pr.rst (pr.pur ⟨⟨3, by omega, ⟨?_, ?_⟩, fun h => absurd h (by decide), fun _ => ⟨i, ⟨Or.inr ⟨rfl, rfl⟩, hi⟩, ?_, ?_⟩⟩, ⟨⟨(Same.put rfl).put' rfl, fun h => ?_⟩, fun j hj => ?_⟩, (Same.put rfl).put' rfl, fun j hj => ?_⟩))))
    · rw [xput_ne (by omega), xput_eq]; rfl
    · rw [xput_ne (by omega), xput_eq]; rfl
    · rw [xput_eq]
    · rw [xput_eq]
    · rw [xput_ne (by omega), xput_eq] at h
      exact absurd h (by decide)
    · rw [xput_ne (by omega), xput_ne (by omega)]
    · rw [xput_ne (by omega), xput_ne (by omega)]
  · obtain ⟨j, ⟨j1, j2⟩, j3, j4⟩ := h4 e
    have hn0 : ¬ Int32.ofNat s = 0 := by rw [show (0 : Int32) = Int32.ofNat 0 from rfl, nk_eq (by omega) (by omega)]; exact e
    refine pr.lneg hn0 (pr.rneg hn0 ?_)
    rw [j4]
    rcases j1 with j1 | ⟨j1, hs3⟩
    · have hlt : plc b n j < plc b n i := plc_mono hi j j1
      exact pr.rpos (nk_lt_t hlt (by omega)) (pr.pur ⟨hs, ⟨Sm.rfl, fun _ _ => rfl⟩, Same.rfl, fun _ _ => rfl⟩)
    · rw [j1, hs3]
      exact pr.rneg (Int32.lt_irrefl) (pr.rpos rfl (pr.rneg (by decide) (pr.pur ⟨hs, ⟨Sm.rfl, fun _ _ => rfl⟩, Same.rfl, fun _ _ => rfl⟩)))
def dP (b : Nat → Int32) (n sd : Nat) (I M : XI) (L : XL) : Prop := ∃ m, (m ≤ 5 ∧ I 7 2 = Int32.ofNat m) ∧ (M 146 sd = Int32.ofNat m ∧ M 131 20 = Int32.ofNat m) ∧ (∀ e s, e < m → s < 4 → I 10 (4 * e + s) = M 147 (4 * (5 * sd + e) + s) ∧ kOk (I 10 (4 * e + s))) ∧ ∀ e, e < m → ∃ i, (reach b n i ∧ kd b n i = 2) ∧ I 16 e = Int32.ofNat i ∧ L 139 e = Int64.ofNat (nm b n i)
theorem dP_same {b : Nat → Int32} {n sd : Nat} {I M I' M' : XI} {L : XL} (h : dP b n sd I M L) (h2 : I' 7 2 = I 7 2) (h10 : I' 10 = I 10) (h16 : I' 16 = I 16) (m6 : M' 146 sd = M 146 sd) (m20 : M' 131 20 = M 131 20) (m7 : M' 147 = M 147) : dP b n sd I' M' L := by
  obtain ⟨m, ⟨a1, a2⟩, ⟨a3, a4⟩, a5, a6⟩ := h
  exact ⟨m, ⟨a1, h2.trans a2⟩, ⟨m6.trans a3, m20.trans a4⟩, fun e s he hs => by rw [h10, m7]; exact a5 e s he hs, fun e he => by rw [h16]; exact a6 e he⟩
def scSn (o j : Nat) : Bool := sc6S o j || ((Nat.beq o 7 && Nat.beq j 2) || (Nat.beq o 10 || Nat.beq o 16))
def scSm (sd o j : Nat) : Bool := scFS o j || (((Nat.beq o 131 && Nat.beq j 20) || (Nat.beq o 146 || Nat.beq o 147)) && scRM sd o j)
theorem Same.Sn {I J : XI} (h : Same sc6S I J) : Same scSn I J := h.mono (fun o j e => by
  unfold scSn at e
  exact (Bool.or_eq_false_iff.mp e).1)
theorem Same.Sq {sd : Nat} {I J : XI} (h : Same scFS I J) : Same (scSm sd) I J := h.mono (fun o j e => by
  unfold scSm at e
  exact (Bool.or_eq_false_iff.mp e).1)
theorem sm147 {sd k : Nat} (hk : k < 20) : scSm sd 147 (20 * sd + k) = true := by
  show (scFS 147 _ || (true && scRM sd 147 (20 * sd + k))) = true
  have : scRM sd 147 (20 * sd + k) = (rg (20 * sd) 20 (20 * sd + k) || _) := rfl
  rw [this, rg_in hk]
  rfl
def onlyL (L L' : XL) : Prop := ∀ o, ¬ o = 139 → L' o = L o
theorem Rs_L {b : Nat → Int32} {n : Nat} {L L' : XL} {a : XA} {I M : XI} (h : Rs b n L a I M) (hL : onlyL L L') : Rs b n L' a I M := by
  refine ⟨?_, h.2⟩
  have h1 := h.1
  cases a with
  | inl e => exact h1
  | inr t => exact ⟨h1.1, h1.2.1, h1.2.2.1, fun i hi => by rw [hL 137 (by omega)]; exact h1.2.2.2 i hi⟩
def spQ (b : Nat → Int32) (n sd : Nat) (L : XL) (t : Nat) (I M : XI) (r : XI) (q : XI × XL) : Prop := (onlyL L q.2 ∧ ∃ a, Rs b n q.2 a r q.1 ∧ ∀ t', a = Sum.inr t' → t < t' ∧ dP b n sd r q.1 q.2) ∧ (Same scSn I r ∧ (r 6 5 = 0 → I 6 5 = 0)) ∧ Same (scSm sd) M q.1
theorem bm_74 {F : Nat} {b : Nat → Int32} {n sd m : Nat} {L : XL} {e : Nat × Nat} {tok : Int32} (hsd : sd < 2) (hm : m < 5) : ∀ j s k M, s + j = 4 → j < k → bm b n e M → xOk (f_M_tellSpare_74 F k (Int32.ofNat (5 * sd + m)) tok (Int32.ofNat s) M L) (fun q => bm b n e q.1 ∧ q.2 = L ∧ Same (scSm sd) M q.1) := by
  intro j
  induction j with
  | zero =>
    intro s k M hs hk hb
    obtain ⟨k, rfl⟩ : ∃ q, k = q + 1 := ⟨k - 1, by omega⟩
    rw [f_M_tellSpare_74, show s = 4 by omega]
    exact xOk.pos (by decide) (xOk.bnde (bm_must hb) (xOk.neg (bm_v hb).2.1 (xOk.pur ⟨hb, rfl, Same.rfl⟩)))
  | succ j ih =>
    intro s k M hs hk hb
    obtain ⟨k, rfl⟩ : ∃ q, k = q + 1 := ⟨k - 1, by omega⟩
    rw [f_M_tellSpare_74]
    refine xOk.neg (nk_nge (N := 4) (by omega) (by omega)) (xOk.bnde (bm_tk hb) ?_)
    rw [show (4 : Int32) = Int32.ofNat 4 from rfl, nk_mul, nk_add, nk_succ]
    refine xOk.ck (nk_in (by omega) (by omega)) (xOk.st ?_)
    rw [nk_N (by omega), show 4 * (5 * sd + m) + s = 20 * sd + (4 * m + s) by omega]
    have hput : Same (scSm sd) M (xput M 147 (20 * sd + (4 * m + s)) 0) := Same.put (sm147 (by omega))
    refine (ih (s + 1) k _ (by omega) (by omega) (bm_131 hb ⟨by rw [xput_neo (by omega)], by rw [xput_neo (by omega)], by rw [xput_neo (by omega)]⟩)).mono (fun q hq => ⟨hq.1, hq.2.1, hput.trans hq.2.2⟩)
theorem bm_29 {F : Nat} (hF : 4000000 ≤ F) {b : Nat → Int32} {n sd m : Nat} {L : XL} {e : Nat × Nat} {tok : Int32} {M : XI} (hsd : sd < 2) (hm : m < 5) (hb : bm b n e M) : xOk (f_M_tellSpare_29 F F (Int32.ofNat (5 * sd + m)) tok 0 M L) (fun q => bm b n e q.1 ∧ q.2 = L ∧ Same (scSm sd) M q.1) := by
  have h74 := bm_74 (F := F) (L := L) (tok := tok) hsd hm 4 0 F M (by omega) (by omega) hb
  have hh : ∀ k, k = F → xOk (f_M_tellSpare_29 F k (Int32.ofNat (5 * sd + m)) tok 0 M L) (fun q => bm b n e q.1 ∧ q.2 = L ∧ Same (scSm sd) M q.1) := by
    intro k hk
    obtain ⟨k, rfl⟩ : ∃ q, k = q + 1 := ⟨k - 1, by omega⟩
    rw [f_M_tellSpare_29]
    exact xOk.ite (fun _ => h74) (fun _ => xOk.neg (bm_v hb).1 h74)
  exact hh F rfl
/-- the four knobs, the sign behind -/
theorem pr_44 {F : Nat} (hF : 4000000 ≤ F) {b : Nat → Int32} {n sd m t tk : Nat} {L : XL} {I0 M0 : XI} (hn : n ≤ 2000) (hsd : sd < 2) (hm : m < 5) (htk : reach b n tk ∧ kd b n tk = 2) (hD : dP b n sd I0 M0 L) (h72 : I0 7 2 = Int32.ofNat m) (h19 : M0 131 19 = Int32.ofNat sd) (htkM : tkM b n M0 L) :
    ∀ j s k k' I M a, s + j = 4 → j < k → j < k' → Rs b n L a I M → (Same scSn I0 I ∧ I 16 = (fun e => if e = m then Int32.ofNat tk else I0 16 e) ∧ (I 7 2 = Int32.ofNat m ∧ ∀ i, ¬ (4 * m ≤ i ∧ i < 4 * m + 4) → I 10 i = I0 10 i) ∧ (I 6 5 = 0 → I0 6 5 = 0)) → (Same (scSm sd) M0 M ∧ (M 131 20 = Int32.ofNat m ∧ M 146 sd = Int32.ofNat m) ∧ ∀ i, ¬ (4 * (5 * sd + m) ≤ i ∧ i < 4 * (5 * sd + m) + 4) → M 147 i = M0 147 i) → (∀ t', a = Sum.inr t' → t < t' ∧ ∀ s', s' < s → I 10 (4 * m + s') = M 147 (4 * (5 * sd + m) + s') ∧ kOk (I 10 (4 * m + s'))) →
    pr (f_Reader_readSpare_44 F (fun I => f_Reader_readSpare_91 F I) k (Int32.ofNat s) I) (f_M_tellSpare_74 F k' (Int32.ofNat (5 * sd + m)) (Int32.ofNat tk) (Int32.ofNat s) M L) (fun r q => spQ b n sd L t I0 M0 r q) := by
  have htk4 := htk.1.1
  intro j
  induction j with
  | zero =>
    rintro s k k' I M a hs hk hk' hR ⟨i1, i2, ⟨i3, i4⟩, i5⟩ ⟨m1, ⟨m2, m3⟩, m4⟩ ha
    obtain ⟨k, rfl⟩ : ∃ q, k = q + 1 := ⟨k - 1, by omega⟩
    obtain ⟨k', rfl⟩ : ∃ q, k' = q + 1 := ⟨k' - 1, by omega⟩
    rw [f_Reader_readSpare_44, f_M_tellSpare_74, show s = 4 by omega]
    refine pr.lpos (by decide) (pr.rpos (by decide) (pr.lst ?_))
    rw [i3, nk_succ]
    unfold f_Reader_readSpare_91
    have hI' : Same scSn I (xput I 7 2 (Int32.ofNat (m + 1))) := Same.put rfl
    have hR' : Rs b n L a (xput I 7 2 (Int32.ofNat (m + 1))) M := by
      have e6 : xput I 7 2 (Int32.ofNat (m + 1)) 6 = I 6 := xput_neo (by omega)
      obtain ⟨k1, k2⟩ := hR
      cases a with
      | inl e => exact ⟨⟨bd_row6 k1.1 e6, k1.2⟩, fun t ht => by cases ht⟩
      | inr t1 => exact ⟨⟨⟨k1.1.1, ⟨by rw [e6]; exact k1.1.2.1.1, by rw [e6]; exact k1.1.2.1.2⟩, tkC_same k1.1.2.2 (xput_neo (by omega)) (xput_neo (by omega)) (xput_neo (by omega))⟩, k1.2⟩, fun t' ht' => SLr_same (k2 t' ht') (by rw [e6]) (by rw [e6]) rfl rfl⟩
    refine (pr_acc (k := 59) hR' (by omega) (by omega) rfl).bnd (fun r q hq => ?_)
    obtain ⟨⟨hR2, hf2⟩, s2, q2⟩ := hq
    have hS : Same scSn I0 r.2 := (i1.trans hI').trans s2.S6.Sn
    have hmon : r.2 6 5 = 0 → I0 6 5 = 0 := fun e => i5 (by
      have : r.2 6 5 = I 6 5 := (s2 6 5 rfl).trans (by rw [xput_neo (by omega)])
      rw [← this]; exact e)
    have hM : Same (scSm sd) M0 q := m1.trans q2.FS.Sq
    cases ha2 : acX b n 59 a with
    | inl e =>
      rw [ha2] at hR2
      exact pr.rneg (bm_v hR2.1.2).2.1 (pr.pur ⟨⟨fun _ _ => rfl, Sum.inl e, hR2, fun t' ht' => by cases ht'⟩, ⟨hS, hmon⟩, hM⟩)
    | inr t2 =>
      rw [ha2] at hR2
      obtain ⟨t1, ea, c1, -⟩ := acX_t ha2
      obtain ⟨ht1, hw⟩ := ha t1 ea
      refine pr.rpos (by rw [hR2.1.2.2.1.2]; exact Int32.le_refl _) (pr.rck (nk_in (by omega) (by omega)) ?_)
      have q20 : q 131 20 = Int32.ofNat m := (q2 131 20 rfl).trans m2
      have q19 : q 131 19 = Int32.ofNat sd := (hM 131 19 rfl).trans h19
      have q146 : q 146 sd = Int32.ofNat m := (q2 146 sd rfl).trans m3
      rw [q20, nk_N (show m < 2147483648 by omega), nk_N (show tk < 2147483648 by omega)]
      refine pr.rck (nk_in (by omega) (by omega)) (pr.rst (pr.rst ?_))
      rw [xput_ne (show ¬ (131 = 131 ∧ 19 = 20) by omega), q19]
      refine pr.rck (nk_in hsd (by omega)) ?_
      rw [nk_N (show sd < 2147483648 by omega), xput_neo (show ¬ 146 = 131 by omega), q146, nk_succ]
      refine pr.rck (nk_in hsd (by omega)) (pr.rst (pr.pur ?_))
      have hL : onlyL L (xputL L 139 m (L 137 tk)) := fun o ho => by
        unfold xputL xrow
        rw [if_neg ho]
      have hM2 : Same (scSm sd) q (xput (xput q 131 20 (Int32.ofNat (m + 1))) 146 sd (Int32.ofNat (m + 1))) := by
        refine (Same.put (by rfl)).put' ?_
        show (scFS 146 sd || (true && scRM sd 146 sd)) = true
        have : scRM sd 146 sd = (Nat.beq sd sd || false) := rfl
        rw [this, Nat.beq_refl]
        rfl
      have hRs : Rs b n L (Sum.inr t2) r.2 (xput (xput q 131 20 (Int32.ofNat (m + 1))) 146 sd (Int32.ofNat (m + 1))) := by
        refine ⟨⟨hR2.1.1, hR2.1.2.1, ⟨?_, ?_⟩, tkM_same hR2.1.2.2.2 ?_ ?_ ?_⟩, fun t' ht' => SLr_same (hR2.2 t' ht') rfl rfl ?_ ?_⟩
        · rw [xput_neo (by omega), xput_ne (by omega)]; exact hR2.1.2.2.1.1
        · rw [xput_neo (by omega), xput_ne (by omega)]; exact hR2.1.2.2.1.2
        · rw [xput_neo (by omega), xput_neo (by omega)]
        · rw [xput_neo (by omega), xput_neo (by omega)]
        · rw [xput_neo (by omega), xput_neo (by omega)]
        · rw [xput_neo (by omega), xput_ne (by omega)]
        · rw [xput_neo (by omega), xput_ne (by omega)]
      show spQ b n sd L t I0 M0 r.2 (xput (xput q 131 20 (Int32.ofNat (m + 1))) 146 sd (Int32.ofNat (m + 1)), xputL L 139 m (L 137 tk))
      refine ⟨⟨hL, Sum.inr t2, ?_, fun t' ht' => ⟨?_, ?_⟩⟩, ⟨hS, hmon⟩, hM.trans hM2⟩
      · exact Rs_L hRs hL
      · have := Sum.inr.inj ht'
        omega
      · obtain ⟨m', ⟨a1, a2⟩, ⟨a3, a4⟩, a5, a6⟩ := hD
        have hmm : m' = m := by
          rw [h72, nk_eq (by omega) (by omega)] at a2
          omega
        subst hmm
        have r10 : r.2 10 = I 10 := ((s2.row 10 (fun _ => rfl))).trans (xput_neo (by omega))
        have r16 : r.2 16 = I 16 := ((s2.row 16 (fun _ => rfl))).trans (xput_neo (by omega))
        have q147 : q 147 = M 147 := q2.row 147 (fun _ => rfl)
        show dP b n sd r.2 (xput (xput q 131 20 (Int32.ofNat (m' + 1))) 146 sd (Int32.ofNat (m' + 1))) (xputL L 139 m' (L 137 tk))
        refine ⟨m' + 1, ⟨by omega, ?_⟩, ⟨xput_eq, by rw [xput_neo (by omega), xput_eq]⟩, fun e s' he hs' => ?_, fun e he => ?_⟩
        · rw [s2 7 2 rfl, xput_eq]
        · rw [r10, xput_neo (show ¬ 147 = 146 by omega), xput_neo (show ¬ 147 = 131 by omega), q147]
          by_cases ee : e = m'
          · rw [ee]; exact hw s' (by omega)
          · rw [i4 _ (by omega), m4 _ (by omega)]
            exact a5 e s' (by omega) hs'
        · rw [r16, i2]
          by_cases ee : e = m'
          · rw [ee]
            refine ⟨tk, htk, if_pos rfl, ?_⟩
            rw [xputL_eq]
            exact (htkM tk htk.1).2.2 htk.2
          · obtain ⟨i, i1, i2, i3⟩ := a6 e (by omega)
            refine ⟨i, i1, (if_neg ee).trans i2, ?_⟩
            rw [xputL_ne (by omega)]
            exact i3
  | succ j ih =>
    rintro s k k' I M a hs hk hk' hR ⟨i1, i2, ⟨i3, i4⟩, i5⟩ ⟨m1, ⟨m2, m3⟩, m4⟩ ha
    obtain ⟨k, rfl⟩ : ∃ q, k = q + 1 := ⟨k - 1, by omega⟩
    obtain ⟨k', rfl⟩ : ∃ q, k' = q + 1 := ⟨k' - 1, by omega⟩
    rw [f_Reader_readSpare_44, f_M_tellSpare_74]
    refine pr.lneg (nk_nge (N := 4) (by omega) (by omega)) (pr.rneg (nk_nge (N := 4) (by omega) (by omega)) ?_)
    refine (pr_sgn hn hR).bnd (fun r q hq => ?_)
    obtain ⟨⟨h1, h2⟩, h3, h4⟩ := hq
    rw [i3, show (4 : Int32) = Int32.ofNat 4 from rfl, nk_mul, nk_add, nk_mul, nk_add, nk_succ]
    refine pr.lck (nk_in (by omega) (by omega)) (pr.lst (pr.rck (nk_in (by omega) (by omega)) (pr.rst ?_)))
    rw [nk_N (by omega), nk_N (by omega)]
    have pI : Same scSn r.2 (xput r.2 10 (m * 4 + s) r.1) := Same.put rfl
    have pM : Same (scSm sd) q.2 (xput q.2 147 (4 * (5 * sd + m) + s) q.1) := by
      refine Same.put ?_
      rw [show 4 * (5 * sd + m) + s = 20 * sd + (4 * m + s) by omega]
      exact sm147 (by omega)
    have hR' : Rs b n L (sgX b n a) (xput r.2 10 (m * 4 + s) r.1) (xput q.2 147 (4 * (5 * sd + m) + s) q.1) := by
      have e6 : xput r.2 10 (m * 4 + s) r.1 6 = r.2 6 := xput_neo (by omega)
      have e131 : xput q.2 147 (4 * (5 * sd + m) + s) q.1 131 = q.2 131 := xput_neo (by omega)
      obtain ⟨k1, k2⟩ := h1
      generalize sgX b n a = a' at k1 k2
      cases a' with
      | inl e => exact ⟨⟨bd_row6 k1.1 e6, bm_131 k1.2 ⟨by rw [e131], by rw [e131], by rw [e131]⟩⟩, fun t ht => by cases ht⟩
      | inr t1 => exact ⟨⟨⟨k1.1.1, ⟨by rw [e6]; exact k1.1.2.1.1, by rw [e6]; exact k1.1.2.1.2⟩, tkC_same k1.1.2.2 (xput_neo (by omega)) (xput_neo (by omega)) (xput_neo (by omega))⟩, k1.2.1, ⟨by rw [e131]; exact k1.2.2.1.1, by rw [e131]; exact k1.2.2.1.2⟩, tkM_same k1.2.2.2 (xput_neo (by omega)) (xput_neo (by omega)) (xput_neo (by omega))⟩, fun t' ht' => SLr_same (k2 t' ht') (by rw [e6]) (by rw [e6]) (by rw [e131]) (by rw [e131])⟩
    have r10 : r.2 10 = I 10 := h3.1.row 10 (fun _ => rfl)
    have q147 : q.2 147 = M 147 := h4.row 147 (fun _ => rfl)
    refine ih (s + 1) k k' _ _ (sgX b n a) (by omega) (by omega) (by omega) hR' ⟨(i1.trans h3.1.Sn).trans pI, ?_, ⟨?_, fun i hi => ?_⟩, fun e => i5 (h3.2 ?_)⟩ ⟨(m1.trans h4.Sq).trans pM, ⟨?_, ?_⟩, fun i hi => ?_⟩ (fun t' ht' => ?_)
    · rw [xput_neo (by omega), h3.1.row 16 (fun _ => rfl)]; exact i2
    · rw [xput_neo (by omega), h3.1 7 2 rfl]; exact i3
    · rw [xput_at, if_neg (by omega), r10]; exact i4 i hi
    · rw [xput_neo (by omega)] at e; exact e
    · rw [xput_neo (by omega), h4 131 20 rfl]; exact m2
    · rw [xput_neo (by omega), h4 146 sd rfl]; exact m3
    · rw [xput_at, if_neg (by omega), q147]; exact m4 i hi
    · -- good: where it stood before
      have hpre : ∃ t1, a = Sum.inr t1 ∧ t1 < t' := by
        cases a with
        | inl e => cases ht'
        | inr t1 =>
          refine ⟨t1, rfl, ?_⟩
          have ht' : (if kd b n t1 = 45 then acX b n 3 (acR b n 45 t1) else acR b n 3 t1) = Sum.inr t' := ht'
          split at ht'
          · obtain ⟨t65, c1, c2, -⟩ := acX_t ht'
            have := (acR_t c1).1
            omega
          · have := (acR_t ht').1
            omega
      obtain ⟨t1, ea, hlt⟩ := hpre
      obtain ⟨w1, w2⟩ := ha t1 ea
      obtain ⟨v1, v2⟩ := h2 t' ht'
      refine ⟨by omega, fun s' hs' => ?_⟩
      rw [xput_at, xput_at, r10, q147]
      by_cases e : s' = s
      · rw [if_pos (by omega), if_pos (by omega)]
        exact ⟨v1, v2⟩
      · rw [if_neg (by omega), if_neg (by omega)]
        exact w2 s' (by omega)
