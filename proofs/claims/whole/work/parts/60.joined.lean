/-! parts, sizes of groups -/
def lst (T : XT) (W : Nat → Int32) (l : Int32) (a : Nat) : Prop := lo T W l a = true ∧ ∀ b, b < a → ¬ con T W l a b
noncomputable def pB (p : Prop) : Bool := @decide p (Classical.propDecidable p)
theorem pB_t {p : Prop} (h : p) : pB p = true := by
  unfold pB
  exact @decide_eq_true p (Classical.propDecidable p) h
theorem pB_f {p : Prop} (h : ¬ p) : pB p = false := by
  unfold pB
  exact @decide_eq_false p (Classical.propDecidable p) h
theorem pB_iff {p : Prop} : pB p = true ↔ p := by
  constructor
  · intro h
    by_cases hp : p
    · exact hp
    · rw [pB_f hp] at h; cases h
  · exact pB_t
noncomputable def prB (T : XT) (W : Nat → Int32) (l : Int32) (a : Nat) : Bool := pB (lst T W l a)
noncomputable def cB (T : XT) (W : Nat → Int32) (l : Int32) (a b : Nat) : Bool := pB (con T W l a b)
theorem con_symm {T : XT} {W : Nat → Int32} {l : Int32} (hO : tOk T) (hW : wfW T W) {a b : Nat} (h : con T W l a b) : con T W l b a := rS.symm (jn_symm hO hW) h
theorem rep_eq {T : XT} {W : Nat → Int32} {l : Int32} {f : Nat → Option Nat} (hm : mini T W l f) {a : Nat} (ha : a < 30) : repB f a = prB T W l a := by
  unfold repB prB
  by_cases h : lst T W l a
  · rw [pB_t h]
    obtain ⟨c, h1, h2, h3⟩ := (hm.1 a ha).2 h.1
    have : c = a := by
      by_cases e : c < a
      · exact absurd h3 (h.2 c e)
      · omega
    rw [h1, this]
    simp
  · rw [pB_f h]
    apply decide_eq_false
    intro e
    have hl := lbOk_lt hm.1 ha e
    apply h
    refine ⟨hl.2.1, ?_⟩
    intro b hb hc
    have h2 := hm.2 a b ha (by omega) hl.2.1 hc
    rw [e] at h2
    have := (lbOk_lt hm.1 (show b < 30 by omega) h2.symm).1
    omega
theorem cnt_rep {T : XT} {W : Nat → Int32} {l : Int32} {f : Nat → Option Nat} (hm : mini T W l f) : cnt (repB f) 30 = cnt (prB T W l) 30 := cnt_congr (fun _ hk => rep_eq hm hk)
theorem sc31_H {o j : Nat} (h : scH o j = false) : sc31 o j = false := by
  unfold scH at h
  unfold sc31
  cases h1 : Nat.beq o 31
  · rfl
  · simp_all
theorem c_partsOf {F : Nat} (hF : 4000000 ≤ F) {T : XT} {W : Nat → Int32} {I : XI} {S : Nat} (hT : tbC 17 T I) (hO : tOk T) (hW : wfW T W) (hI : I (S + 1) = W) (hS : ¬ S + 1 = 31) {l : Int32} (hl : ¬ l = -1) :
    xOk (f_Board_partsOf F S l I) (fun r => r.1 = Int32.ofNat (cnt (prB T W l) 30) ∧ Same sc31 I r.2) := by
  have hS' : ∀ j, sc31 (S + 1) j = false := by
    intro j
    unfold sc31
    cases hb : Nat.beq (S + 1) 31 with
    | false => rfl
    | true => exact absurd (Nat.eq_of_beq_eq_true hb) hS
  unfold f_Board_partsOf
  refine xloop 30 (fun n (s : Nat × Nat × XI) a => f_Board_partsOf_8 F S n l (Int32.ofNat s.1) (Int32.ofNat s.2.1) (Int32.ofNat a) s.2.2) (fun a s => (s.1 < 1073741824 ∧ s.2.1 = cnt (prB T W l) a) ∧ Same sc31 I s.2.2 ∧ ∀ c, c < 30 → (s.1.testBit c = true ↔ ∃ b, b < a ∧ lo T W l b = true ∧ con T W l b c)) ?_ ?_ F (0, 0, I) 0 (by omega) (by omega) ⟨⟨by omega, rfl⟩, Same.rfl, fun c _ => by simp⟩
  · intro n s a ha hP ih
    obtain ⟨m, p, J⟩ := s
    obtain ⟨⟨hm, hp⟩, hs, hb⟩ : (m < 1073741824 ∧ p = cnt (prB T W l) a) ∧ Same sc31 I J ∧ ∀ c, c < 30 → (m.testBit c = true ↔ ∃ b, b < a ∧ lo T W l b = true ∧ con T W l b c) := hP
    have hTJ : tbC 17 T J := tbC_same hT hs (fun _ => rfl) (fun _ => rfl) (fun _ => rfl) (fun _ => rfl)
    have hIJ : J (S + 1) = W := by rw [hs.row (S + 1) hS']; exact hI
    show xOk (f_Board_partsOf_8 F S (n + 1) l (Int32.ofNat m) (Int32.ofNat p) (Int32.ofNat a) J) _
    rw [f_Board_partsOf_8]
    refine xOk.neg (nk_nge ha (by decide)) ?_
    refine xOk.bnde (c_liesOf hTJ hIJ ha) ?_
    rw [← lo_of hl, nk_succ]
    cases hlo : lo T W l a with
    | false =>
      refine xOk.pos rfl (ih (m, p, J) ⟨⟨hm, ?_⟩, hs, ?_⟩)
      · show p = cnt (prB T W l) (a + 1)
        rw [cnt_succ, ← hp, show prB T W l a = false from pB_f (fun h => by rw [h.1] at hlo; cases hlo)]
        rfl
      · intro c hc
        show m.testBit c = true ↔ _
        rw [hb c hc]
        constructor
        · rintro ⟨b, x1, x2, x3⟩
          exact ⟨b, by omega, x2, x3⟩
        · rintro ⟨b, x1, x2, x3⟩
          by_cases e : b = a
          · subst e
            rw [hlo] at x2; cases x2
          · exact ⟨b, by omega, x2, x3⟩
    | true =>
      refine xOk.neg (by decide) ?_
      rw [bit_get (by omega) (by omega)]
      cases htb : m.testBit a with
      | true =>
        refine xOk.neg (by decide) (ih (m, p, J) ⟨⟨hm, ?_⟩, hs, ?_⟩)
        · show p = cnt (prB T W l) (a + 1)
          obtain ⟨b, x1, x2, x3⟩ := (hb a ha).mp htb
          rw [cnt_succ, ← hp, show prB T W l a = false from pB_f (fun h => h.2 b x1 (con_symm hO hW x3))]
          rfl
        · intro c hc
          show m.testBit c = true ↔ _
          rw [hb c hc]
          constructor
          · rintro ⟨b, x1, x2, x3⟩
            exact ⟨b, by omega, x2, x3⟩
          · rintro ⟨b, x1, x2, x3⟩
            by_cases e : b = a
            · subst e
              obtain ⟨b', y1, y2, y3⟩ := (hb b ha).mp htb
              exact ⟨b', y1, y2, y3.trans x3⟩
            · exact ⟨b, by omega, x2, x3⟩
      | false =>
        refine xOk.pos rfl ?_
        refine (c_group hF hTJ hO hW hIJ hS ha hlo).bnd (fun r hr => ?_)
        obtain ⟨g, hg1, hg2, hg3, hg4⟩ := hr
        rw [hg1, bit_or hm hg2, nk_succ]
        refine ih (m ||| g, p + 1, r.2) ⟨⟨or_lt30' hm hg2, ?_⟩, hs.trans hg4, ?_⟩
        · show p + 1 = cnt (prB T W l) (a + 1)
          have : prB T W l a = true := pB_t ⟨hlo, fun b hb' hc => by
            have h2 : m.testBit a = true := (hb a ha).mpr ⟨b, hb', (con_lt hc ⟨ha, hlo⟩).2, con_symm hO hW hc⟩
            rw [htb] at h2
            cases h2⟩
          rw [cnt_succ, ← hp, this]
          rfl
        · intro c hc
          show (m ||| g).testBit c = true ↔ _
          rw [Nat.testBit_or, Bool.or_eq_true, hb c hc, hg3 c hc]
          constructor
          · rintro (⟨b, x1, x2, x3⟩ | h)
            · exact ⟨b, by omega, x2, x3⟩
            · exact ⟨a, by omega, hlo, h⟩
          · rintro ⟨b, x1, x2, x3⟩
            by_cases e : b = a
            · subst e
              exact Or.inr x3
            · exact Or.inl ⟨b, by omega, x2, x3⟩
  · intro n s hP
    obtain ⟨m, p, J⟩ := s
    obtain ⟨⟨hm, hp⟩, hs, hb⟩ : (m < 1073741824 ∧ p = cnt (prB T W l) 30) ∧ Same sc31 I J ∧ _ := hP
    show xOk (f_Board_partsOf_8 F S (n + 1) l (Int32.ofNat m) (Int32.ofNat p) (Int32.ofNat 30) J) _
    rw [f_Board_partsOf_8]
    exact xOk.pos (by decide) (xOk.pur ⟨by rw [hp], hs⟩)
/-! joined, empire -/
noncomputable def sz (T : XT) (W : Nat → Int32) (a : Nat) : Nat := cnt (cB T W (-1) a) 30
theorem c_size {F : Nat} (hF : 4000000 ≤ F) {T : XT} {W : Nat → Int32} {I : XI} {S : Nat} (hT : tbC 17 T I) (hO : tOk T) (hW : wfW T W) (hI : I (S + 1) = W) (hS : ¬ S + 1 = 31) {a : Nat} (ha : a < 30) (hl : lie W a = true) :
    xOk (f_Board_group F S (Int32.ofNat a) (-1) I) (fun r => f_Integer_bitCount r.1 = some (Int32.ofNat (sz T W a)) ∧ Same sc31 I r.2) := by
  refine (c_group hF hT hO hW hI hS (l := -1) ha (by rw [lo_all]; exact hl)).mono (fun r hr => ?_)
  obtain ⟨m, h1, h2, h3, h4⟩ := hr
  refine ⟨?_, h4⟩
  rw [h1, bitCount_nat h2]
  unfold sz
  rw [cnt_congr (q := cB T W (-1) a)]
  intro c hc
  have := h3 c hc
  unfold cB
  by_cases e : con T W (-1) a c
  · rw [pB_t e]; exact this.mpr e
  · rw [pB_f e]
    cases hb : m.testBit c with
    | false => rfl
    | true => exact absurd (this.mp hb) e
noncomputable def qJoined (T : XT) (W : Nat → Int32) (x y : Int32) : Int32 := if inC T x y = true then (if lie W (6 * xN y + xN x) = true then Int32.ofNat (sz T W (6 * xN y + xN x)) else -2) else -1
theorem h_joined {F : Nat} (hF : 4000000 ≤ F) {lv : Nat} {T : XT} {W : Nat → Int32} {I : XI} (hC : core lv T W I) {x y : Int32} : xOk (f_H_joined F x y I) (fun r => r.1 = qJoined T W x y ∧ Same scH I r.2) := by
  obtain ⟨⟨hO, -, -⟩, ⟨hT, hM⟩, ⟨h4, hW, h6⟩, -, -⟩ := hC
  unfold f_H_joined qJoined
  rcases cellCases hO x y with hc | ⟨a, ha, hi, hc, rfl, rfl⟩
  · refine xOk.bnde (c_cellAt_out hT hO hc) (xOk.pos rfl (xOk.pur ⟨?_, Same.rfl⟩))
    rw [hc, iFT]
  · refine xOk.bnde (c_cellAt_in hT hO ha hi) (xOk.neg (oi_nm1 ha) ?_)
    rw [hc, cell_N ha, iTT]
    refine xOk.bnde (c_lies ha) ?_
    rw [show I (26 + 1) = W from h4]
    cases hl : lie W a with
    | false => exact xOk.pos rfl (xOk.pur ⟨by rw [iFT], Same.rfl⟩)
    | true =>
      refine xOk.neg (by decide) ?_
      refine (c_size hF hT hO hW h4 (by decide) ha hl).bnd (fun r hr => ?_)
      refine xOk.bnde hr.1 (xOk.pur ⟨by rw [iTT], hr.2.mono (fun _ _ e => sc31_H e)⟩)
theorem m_sizeOfPart {F : Nat} (hF : 4000000 ≤ F) {J : XI} {f : Nat → Option Nat} (hl : lab f J) {v : Int32} : f_M_sizeOfPart F J v = some (Int32.ofNat (cnt (fun k => decide (oi (f k) = v)) 30)) := by
  unfold f_M_sizeOfPart
  refine xOk.eq (xloop 30 (fun n (c : Nat) a => f_M_sizeOfPart_4 F J n v (Int32.ofNat c) (Int32.ofNat a)) (fun a c => c = cnt (fun k => decide (oi (f k) = v)) a) ?_ ?_ F 0 0 (by omega) (by omega) rfl)
  · intro n c a ha hc ih
    subst hc
    show xOk (f_M_sizeOfPart_4 F J (n + 1) _ _ _) _
    rw [f_M_sizeOfPart_4]
    refine xOk.neg (nk_nge ha (by decide)) ?_
    refine xOk.ck (nk_in ha (by omega)) ?_
    rw [nk_N (by omega), hl a ha, nk_succ]
    have ih2 := ih _ rfl
    rw [cnt_succ] at ih2
    by_cases h : oi (f a) = v
    · rw [if_pos h, nk_succ]
      rw [if_pos (decide_eq_true h)] at ih2
      exact ih2
    · rw [if_neg h, nk_succ]
      rw [if_neg (by rw [decide_eq_false h]; decide)] at ih2
      exact ih2
  · intro n c hc
    subst hc
    show xOk (f_M_sizeOfPart_4 F J (n + 1) _ _ _) _
    rw [f_M_sizeOfPart_4]
    exact xOk.pos (by decide) (xOk.pur rfl)
theorem lab_con {T : XT} {W : Nat → Int32} {l : Int32} {f : Nat → Option Nat} (hO : tOk T) (hW : wfW T W) (hm : mini T W l f) {a b : Nat} (ha : a < 30) (hb : b < 30) (hl : lo T W l a = true) : decide (oi (f b) = oi (f a)) = cB T W l a b := by
  obtain ⟨c, h1, h2, h3⟩ := (hm.1 a ha).2 hl
  unfold cB
  by_cases hc : con T W l a b
  · rw [pB_t hc, hm.2 a b ha hb hl hc]
    simp
  · rw [pB_f hc]
    apply decide_eq_false
    intro e
    cases hf : f b with
    | none =>
      rw [hf, h1] at e
      have e' : Int32.ofNat c = -1 := e.symm
      exact oi_nm1 (by omega) e'
    | some d =>
      have hd := lbOk_lt hm.1 hb hf
      rw [hf, h1] at e
      have : d = c := nk_inj (by omega) (by omega) e
      subst this
      exact hc (h3.trans (con_symm hO hW hd.2.2))
theorem sc164_X {o j : Nat} (h : scX o j = false) : sc164 o j = false := sc164_M (scX_M h)
theorem m_joined {F : Nat} (hF : 4000000 ≤ F) {lv : Nat} {T : XT} {W : Nat → Int32} {I : XI} (hC : core lv T W I) {x y : Int32} : xOk (f_M_joined F x y I) (fun q => q.1 = qJoined T W x y ∧ Same scM I q.2) := by
  have hC0 := hC
  obtain ⟨⟨hO, -, -⟩, ⟨hT, hM⟩, ⟨h4, hW, h6⟩, -, -⟩ := hC
  unfold f_M_joined qJoined
  refine xOk.bnde (m_isCell hM) ?_
  rcases cellCases hO x y with hc | ⟨a, ha, hi, hc, rfl, rfl⟩
  · rw [hc]
    exact xOk.pos rfl (xOk.pur ⟨rfl, Same.rfl⟩)
  · rw [hc, cell_N ha, cell_ix, iTT]
    refine xOk.neg (by decide) ?_
    refine (m_copies hF hC0).bnd (fun J hJ => ?_)
    obtain ⟨hJ1, hJ2⟩ := hJ
    have hM' := tbM_X hM hJ1.MX
    refine xOk.bnde (m_doesLie hO hW hJ2.1 ha) ?_
    cases hl : lie W a with
    | false => exact xOk.pos rfl (xOk.pur ⟨by rw [iFT], hJ1⟩)
    | true =>
      refine xOk.neg (by decide) ?_
      refine (m_fillsParts hF hM' hO hW hJ2.1 (l := -1)).bnd (fun K hK => ?_)
      obtain ⟨f, k1, k2, k3, k4⟩ := hK
      refine xOk.ck (nk_in ha (by omega)) ?_
      rw [nk_N (by omega), k2 a ha]
      refine xOk.bnde (m_sizeOfPart hF k2) (xOk.pur ⟨?_, hJ1.trans (k4.mono (fun _ _ e => sc164_M e))⟩)
      rw [iTT]
      unfold sz
      rw [cnt_congr (fun b hb => lab_con hO hW k1 ha hb (by rw [lo_all]; exact hl))]
def mx (g : Nat → Nat) : Nat → Nat
  | 0 => 0
  | n + 1 => if mx g n < g n then g n else mx g n
theorem mx_le {g : Nat → Nat} {N v : Nat} (h : ∀ k, k < N → g k ≤ v) : mx g N ≤ v := by
  induction N with
  | zero => exact Nat.zero_le _
  | succ n ih =>
    unfold mx
    have := ih (fun k hk => h k (by omega))
    have := h n (by omega)
    split <;> omega
theorem mx_ge {g : Nat → Nat} {N k : Nat} (hk : k < N) : g k ≤ mx g N := by
  induction N with
  | zero => omega
  | succ n ih =>
    unfold mx
    by_cases e : k = n
    · subst e
      split <;> omega
    · have := ih (by omega)
      split <;> omega
noncomputable def szL (T : XT) (W : Nat → Int32) (a : Nat) : Nat := if lie W a = true then sz T W a else 0
theorem sz_le {T : XT} {W : Nat → Int32} {a : Nat} : sz T W a ≤ 30 := cnt_le _ _
theorem szL_le {T : XT} {W : Nat → Int32} {a : Nat} : szL T W a ≤ 30 := by
  unfold szL
  have := @sz_le T W a
  split <;> omega
theorem h_empire {F : Nat} (hF : 4000000 ≤ F) {lv : Nat} {T : XT} {W : Nat → Int32} {I : XI} (hC : core lv T W I) : xOk (f_H_empire F I) (fun r => r.1 = Int32.ofNat (mx (szL T W) 30) ∧ Same scH I r.2) := by
  obtain ⟨⟨hO, -, -⟩, ⟨hT, hM⟩, ⟨h4, hW, h6⟩, -, -⟩ := hC
  unfold f_H_empire
  refine xloop 30 (fun n (s : Nat × XI) a => f_H_empire_4 F n (Int32.ofNat s.1) (Int32.ofNat a) s.2) (fun a s => s.1 = mx (szL T W) a ∧ Same sc31 I s.2) ?_ ?_ F (0, I) 0 (by omega) (by omega) ⟨rfl, Same.rfl⟩
  · intro n s a ha hP ih
    obtain ⟨v, J⟩ := s
    obtain ⟨hv, hs⟩ : v = mx (szL T W) a ∧ Same sc31 I J := hP
    have hTJ : tbC 17 T J := tbC_same hT hs (fun _ => rfl) (fun _ => rfl) (fun _ => rfl) (fun _ => rfl)
    have hIJ : J (26 + 1) = W := by rw [hs.row (26 + 1) (fun _ => rfl)]; exact h4
    have hv30 : v ≤ 30 := by rw [hv]; exact mx_le (fun k _ => szL_le)
    show xOk (f_H_empire_4 F (n + 1) (Int32.ofNat v) (Int32.ofNat a) J) _
    rw [f_H_empire_4]
    refine xOk.neg (nk_nge ha (by decide)) ?_
    refine xOk.bnde (c_lies ha) ?_
    rw [hIJ, nk_succ]
    cases hl : lie W a with
    | false =>
      refine xOk.pos rfl (ih (v, J) ⟨?_, hs⟩)
      show v = if mx (szL T W) a < szL T W a then szL T W a else mx (szL T W) a
      rw [show szL T W a = 0 from by unfold szL; rw [hl, iFT], if_neg (by omega)]
      exact hv
    | true =>
      refine xOk.neg (by decide) ?_
      refine (c_size hF hTJ hO hW hIJ (by decide) ha hl).bnd (fun r hr => ?_)
      refine xOk.bnde hr.1 ?_
      have hsz := @sz_le T W a
      have hmx : mx (szL T W) (a + 1) = if v < sz T W a then sz T W a else v := by
        show (if mx (szL T W) a < szL T W a then szL T W a else mx (szL T W) a) = _
        rw [show szL T W a = sz T W a from by unfold szL; rw [hl, iTT], hv]
      by_cases h : v < sz T W a
      · rw [if_pos (nk_lt_t h (by omega))]
        refine ih (sz T W a, r.2) ⟨?_, hs.trans hr.2⟩
        rw [hmx, if_pos h]
      · rw [if_neg (nk_lt_f (by omega) (by omega))]
        refine ih (v, r.2) ⟨?_, hs.trans hr.2⟩
        rw [hmx, if_neg h]
  · intro n s hP
    obtain ⟨v, J⟩ := s
    obtain ⟨hv, hs⟩ : v = mx (szL T W) 30 ∧ Same sc31 I J := hP
    show xOk (f_H_empire_4 F (n + 1) (Int32.ofNat v) (Int32.ofNat 30) J) _
    rw [f_H_empire_4]
    exact xOk.pos (by decide) (xOk.pur ⟨by rw [hv], hs.mono (fun _ _ e => sc31_H e)⟩)
theorem con_sz {T : XT} {W : Nat → Int32} (hO : tOk T) (hW : wfW T W) {a b : Nat} (h : con T W (-1) a b) : sz T W a = sz T W b := by
  unfold sz
  apply cnt_congr
  intro c _
  unfold cB
  by_cases e : con T W (-1) a c
  · rw [pB_t e, pB_t (show con T W (-1) b c from (con_symm hO hW h).trans e)]
  · rw [pB_f e, pB_f (show ¬ con T W (-1) b c from fun e2 => e (h.trans e2))]
noncomputable def szR (T : XT) (W : Nat → Int32) (f : Nat → Option Nat) (a : Nat) : Nat := if repB f a = true then sz T W a else 0
theorem mx_rep {T : XT} {W : Nat → Int32} {f : Nat → Option Nat} (hO : tOk T) (hW : wfW T W) (hm : mini T W (-1) f) : mx (szR T W f) 30 = mx (szL T W) 30 := by
  apply Nat.le_antisymm
  · apply mx_le
    intro k hk
    refine Nat.le_trans ?_ (mx_ge hk)
    unfold szR szL
    cases hr : repB f k with
    | false => rw [iFT]; exact Nat.zero_le _
    | true =>
      have h1 := (lbOk_lt hm.1 hk (of_decide_eq_true hr)).2.1
      rw [lo_all] at h1
      rw [h1]
      exact Nat.le_refl _
  · apply mx_le
    intro k hk
    unfold szL
    cases hl : lie W k with
    | false => rw [iFT]; exact Nat.zero_le _
    | true =>
      rw [iTT]
      have hlo : lo T W (-1) k = true := by rw [lo_all]; exact hl
      obtain ⟨c, h1, h2, h3⟩ := (hm.1 k hk).2 hlo
      have h4 := hm.2 k c hk (by omega) hlo h3
      refine Nat.le_trans ?_ (mx_ge (k := c) (show c < 30 by omega))
      unfold szR
      rw [show repB f c = true from decide_eq_true (by rw [← h4]; exact h1), iTT, con_sz hO hW h3]
      exact Nat.le_refl _
theorem m_empire {F : Nat} (hF : 4000000 ≤ F) {lv : Nat} {T : XT} {W : Nat → Int32} {I : XI} (hC : core lv T W I) : xOk (f_M_empire F I) (fun q => q.1 = Int32.ofNat (mx (szL T W) 30) ∧ Same scM I q.2) := by
  have hC0 := hC
  obtain ⟨⟨hO, -, -⟩, ⟨hT, hM⟩, ⟨h4, hW, h6⟩, -, -⟩ := hC
  unfold f_M_empire
  refine (m_copies hF hC0).bnd (fun J hJ => ?_)
  obtain ⟨hJ1, hJ2⟩ := hJ
  have hM' := tbM_X hM hJ1.MX
  refine (m_fillsParts hF hM' hO hW hJ2.1 (l := -1)).bnd (fun K hK => ?_)
  obtain ⟨f, k1, k2, k3, k4⟩ := hK
  rw [← mx_rep hO hW k1]
  have hSz : ∀ a, szR T W f a ≤ 30 := fun a => by
    unfold szR
    have := @sz_le T W a
    split <;> omega
  refine xloop 30 (fun n (v : Nat) a => f_M_empire_13 F n (Int32.ofNat v) (Int32.ofNat a) K) (fun a v => v = mx (szR T W f) a) ?_ ?_ F 0 0 (by omega) (by omega) rfl
  · intro n v a ha hv ih
    have hv30 : v ≤ 30 := by rw [hv]; exact mx_le (fun k _ => hSz k)
    show xOk (f_M_empire_13 F (n + 1) (Int32.ofNat v) (Int32.ofNat a) K) _
    rw [f_M_empire_13]
    refine xOk.neg (nk_nge ha (by decide)) ?_
    refine xOk.ck (nk_in ha (by omega)) ?_
    have hmx : mx (szR T W f) (a + 1) = if v < szR T W f a then szR T W f a else v := by
      show (if mx (szR T W f) a < szR T W f a then szR T W f a else mx (szR T W f) a) = _
      rw [hv]
    rw [nk_N (by omega), k2 a ha, nk_succ]
    refine xOk.ite (fun h => ?_) (fun h => ?_)
    · have hfa : f a = some a := by
        cases hf : f a with
        | none =>
          rw [hf] at h
          have h' : Int32.ofNat a = -1 := h.symm
          exact absurd h' (oi_nm1 ha)
        | some c =>
          rw [hf] at h
          have := (lbOk_lt k1.1 ha hf).1
          rw [show c = a from nk_inj (by omega) (by omega) h]
      have hlo := (lbOk_lt k1.1 ha hfa).2.1
      have hq : f_M_sizeOfPart F K (Int32.ofNat a) = some (Int32.ofNat (sz T W a)) := by
        rw [show Int32.ofNat a = oi (f a) by rw [hfa]; rfl, m_sizeOfPart hF k2]
        unfold sz
        rw [cnt_congr (fun b hb => lab_con hO hW k1 ha hb hlo)]
      have hr : szR T W f a = sz T W a := by
        unfold szR repB
        rw [decide_eq_true hfa, iTT]
      have hsz := @sz_le T W a
      refine xOk.bnde hq ?_
      by_cases h2 : sz T W a ≤ v
      · refine xOk.pos (nk_le_t h2 (by omega)) (ih v ?_)
        rw [hmx, if_neg (by omega)]
      · refine xOk.neg (nk_nge (by omega) (by omega)) ?_
        refine xOk.bnde hq (ih _ ?_)
        rw [hmx, hr, if_pos (by omega)]
    · refine ih v ?_
      have : szR T W f a = 0 := by
        unfold szR repB
        rw [decide_eq_false (fun e => h (by rw [e]; rfl)), iFT]
      rw [hmx, this, if_neg (by omega)]
  · intro n v hv
    show xOk (f_M_empire_13 F (n + 1) (Int32.ofNat v) (Int32.ofNat 30) K) _
    rw [f_M_empire_13]
    exact xOk.pos (by decide) (xOk.pur ⟨by rw [hv], hJ1.trans (k4.mono (fun _ _ e => sc164_M e))⟩)
