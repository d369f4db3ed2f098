/-! what is joined: steps, and the class's group -/
def rN (R : Nat → Nat → Prop) : Nat → Nat → Nat → Prop
  | 0, a, b => a = b
  | n + 1, a, b => ∃ c, rN R n a c ∧ R c b
def rS (R : Nat → Nat → Prop) (a b : Nat) : Prop := ∃ n, rN R n a b
theorem rS.refl {R : Nat → Nat → Prop} {a : Nat} : rS R a a := ⟨0, rfl⟩
theorem rS.step {R : Nat → Nat → Prop} {a c b : Nat} (h : rS R a c) (k : R c b) : rS R a b := by
  obtain ⟨n, h⟩ := h
  exact ⟨n + 1, c, h, k⟩
theorem rS.closed {R : Nat → Nat → Prop} {C : Nat → Prop} (hc : ∀ x y, C x → R x y → C y) {a b : Nat} (ha : C a) (h : rS R a b) : C b := by
  obtain ⟨n, h⟩ := h
  induction n generalizing b with
  | zero =>
    have : a = b := h
    rw [← this]; exact ha
  | succ n ih =>
    obtain ⟨c, h1, h2⟩ := h
    exact hc c b (ih h1) h2
theorem rS.trans {R : Nat → Nat → Prop} {a b c : Nat} (h : rS R a b) (k : rS R b c) : rS R a c := rS.closed (C := fun x => rS R a x) (fun _ _ hx hr => hx.step hr) h k
theorem rS.symm {R : Nat → Nat → Prop} (hs : ∀ x y, R x y → R y x) {a b : Nat} (h : rS R a b) : rS R b a :=
  rS.closed (C := fun x => rS R x a) (fun _ _ hx hr => (rS.refl.step (hs _ _ hr)).trans hx) rS.refl h
theorem opp_opp : ∀ s, s < 4 → opp (opp s) = s := by decide
theorem lnk_symm {T : XT} {W : Nat → Int32} (hO : tOk T) {a b s : Nat} (ha : a < 30) (hi : inT T a = true) (hs : s < 4) (hn : nb T a s = some b) : lnk T W b (opp s) = lnk T W a s := by
  have h2 := nb_opp hO ha hi s hs b hn
  unfold lnk
  rw [hn, h2]
  unfold fit
  simp only
  rw [opp_opp s hs, Int32.add_comm]
  cases lie W a <;> cases lie W b <;> simp
def jn (T : XT) (W : Nat → Int32) (l : Int32) (a b : Nat) : Prop := (a < 30 ∧ b < 30) ∧ (lo T W l a = true ∧ lo T W l b = true) ∧ ∃ s, s < 4 ∧ nb T a s = some b ∧ lnk T W a s = true
theorem lo_lie {T : XT} {W : Nat → Int32} {l : Int32} {a : Nat} (h : lo T W l a = true) : lie W a = true := by
  unfold lo at h
  rw [Bool.and_eq_true] at h
  exact h.1
theorem jn_symm {T : XT} {W : Nat → Int32} {l : Int32} (hO : tOk T) (hW : wfW T W) (a b : Nat) (h : jn T W l a b) : jn T W l b a := by
  obtain ⟨⟨h1, h2⟩, ⟨h3, h4⟩, s, hs, hn, hl⟩ := h
  have hi := lie_in hW h1 (lo_lie h3)
  exact ⟨⟨h2, h1⟩, ⟨h4, h3⟩, opp s, opp_lt, nb_opp hO h1 hi s hs b hn, by rw [lnk_symm hO h1 hi hs hn]; exact hl⟩
def con (T : XT) (W : Nat → Int32) (l : Int32) (a b : Nat) : Prop := rS (jn T W l) a b
theorem con_lt {T : XT} {W : Nat → Int32} {l : Int32} {a b : Nat} (h : con T W l a b) (ha : a < 30 ∧ lo T W l a = true) : b < 30 ∧ lo T W l b = true :=
  rS.closed (C := fun x => x < 30 ∧ lo T W l x = true) (fun _ _ _ hr => ⟨hr.1.2, hr.2.1.2⟩) ha h
theorem lnk_lies {T : XT} {W : Nat → Int32} {a s b : Nat} (h : lnk T W a s = true) (hn : nb T a s = some b) : lie W a = true ∧ lie W b = true := by
  unfold lnk at h
  rw [hn] at h
  simp only [Bool.and_eq_true] at h
  exact ⟨h.1, h.2.1⟩
theorem cnt_lt {p : Nat → Bool} {N b : Nat} (hb : b < N) (h : p b = false) : cnt p N < N := by
  induction N with
  | zero => omega
  | succ n ih =>
    rw [cnt_succ]
    by_cases e : b = n
    · subst e
      rw [h]
      have := cnt_le p b
      simp
      omega
    · have := ih (by omega)
      split <;> omega
theorem cnt_add1 {p q : Nat → Bool} {N b : Nat} (hb : b < N) (h : p b = false) (hq : ∀ j, q j = (p j || decide (b = j))) : cnt q N = cnt p N + 1 := by
  induction N with
  | zero => omega
  | succ n ih =>
    rw [cnt_succ, cnt_succ, hq n]
    by_cases e : b = n
    · subst e
      rw [h, decide_eq_true rfl]
      rw [cnt_congr (q := p) (fun k hk => by rw [hq k, decide_eq_false (by omega), Bool.or_false])]
      simp
    · rw [ih (by omega), decide_eq_false e, Bool.or_false]
      omega
def sc31 (o _j : Nat) : Bool := Nat.beq o 31
/-- the class's queue while a group is found -/
def gOk (T : XT) (W : Nat → Int32) (l : Int32) (st : Nat) (I J : XI) (m e : Nat) : Prop :=
  (m < 1073741824 ∧ e = cnt m.testBit 30 ∧ Same sc31 I J) ∧ (∀ j, j < e → ∃ c, c < 30 ∧ J 31 j = Int32.ofNat c ∧ m.testBit c = true) ∧
  (∀ c, c < 30 → m.testBit c = true → con T W l st c) ∧ (∀ c, c < 30 → m.testBit c = true → ∃ j, j < e ∧ J 31 j = Int32.ofNat c) ∧ m.testBit st = true
def gDone (T : XT) (W : Nat → Int32) (l : Int32) (J : XI) (m i : Nat) : Prop := ∀ j, j < i → ∀ c, c < 30 → J 31 j = Int32.ofNat c → ∀ b, jn T W l c b → m.testBit b = true
def gPart (T : XT) (W : Nat → Int32) (l : Int32) (m c s : Nat) : Prop := ∀ s', s' < s → ∀ b, nb T c s' = some b → lnk T W c s' = true → lo T W l b = true → m.testBit b = true
theorem nk_inj {a b : Nat} (ha : a < 2147483648) (hb : b < 2147483648) (h : Int32.ofNat a = Int32.ofNat b) : a = b := by
  rw [nk_eq ha hb] at h
  exact h
theorem c_group {F : Nat} (hF : 4000000 ≤ F) {T : XT} {W : Nat → Int32} {I : XI} {S : Nat} (hT : tbC 17 T I) (hO : tOk T) (hW : wfW T W) (hI : I (S + 1) = W) (hS : ¬ S + 1 = 31) {l : Int32} {st : Nat} (hst : st < 30) (hlo : lo T W l st = true) :
    xOk (f_Board_group F S (Int32.ofNat st) l I) (fun r => ∃ m, r.1 = Int32.ofNat m ∧ m < 1073741824 ∧ (∀ c, c < 30 → (m.testBit c = true ↔ con T W l st c)) ∧ Same sc31 I r.2) := by
  unfold f_Board_group
  refine xOk.ck rfl (xOk.st ?_)
  rw [nk_shl (by omega), show xN 0 = 0 from rfl]
  have h2 : 2 ^ st < 2 ^ 30 := Nat.pow_lt_pow_right (by omega) hst
  have hS' : ∀ j, sc31 (S + 1) j = false := by
    intro j
    unfold sc31
    cases hb : Nat.beq (S + 1) 31 with
    | false => rfl
    | true => exact absurd (Nat.eq_of_beq_eq_true hb) hS
  have hlie := lo_lie hlo
  have tb1 : ∀ c, (2 ^ st).testBit c = decide (st = c) := fun c => Nat.testBit_two_pow
  have hg0 : gOk T W l st I (xput I 31 0 (Int32.ofNat st)) (2 ^ st) 1 := by
    refine ⟨⟨h2, ?_, Same.put rfl⟩, ?_, ?_, ?_, ?_⟩
    · have e0 : cnt (fun _ => false) 30 = 0 := cnt_pos.mpr (fun _ _ => rfl)
      rw [cnt_add1 (p := fun _ => false) (b := st) hst rfl (fun j => by rw [tb1, Bool.false_or]), e0]
    · intro j hj
      have : j = 0 := by omega
      subst this
      exact ⟨st, hst, xput_eq, by rw [tb1]; simp⟩
    · intro c _ hc
      rw [tb1] at hc
      have : st = c := of_decide_eq_true hc
      rw [← this]
      exact rS.refl
    · intro c _ hc
      rw [tb1] at hc
      have : st = c := of_decide_eq_true hc
      exact ⟨0, by omega, by rw [xput_eq, this]⟩
    · rw [tb1]; simp
  refine xloop 30 (fun n (s : Nat × Nat × XI) i => f_Board_group_18 F S n l (Int32.ofNat s.1) (Int32.ofNat s.2.1) (Int32.ofNat i) s.2.2) (fun i s => gOk T W l st I s.2.2 s.1 s.2.1 ∧ i ≤ s.2.1 ∧ gDone T W l s.2.2 s.1 i) ?_ ?_ F (2 ^ st, 1, xput I 31 0 (Int32.ofNat st)) 0 (by omega) (by omega) ⟨hg0, by omega, fun j hj => absurd hj (by omega)⟩
  · intro n s i hi hP ih
    obtain ⟨m, e, J⟩ := s
    obtain ⟨hg, hie, hd⟩ : gOk T W l st I J m e ∧ i ≤ e ∧ gDone T W l J m i := hP
    have hg' := hg
    obtain ⟨⟨hm, he, hs⟩, hq, hc, hb, hbs⟩ := hg'
    have he30 : e ≤ 30 := by rw [he]; exact cnt_le _ _
    show xOk (f_Board_group_18 F S (n + 1) l (Int32.ofNat m) (Int32.ofNat e) (Int32.ofNat i) J) _
    rw [f_Board_group_18]
    refine xOk.ite (fun h => ?_) (fun h => ?_)
    · have hei : e ≤ i := by
        rw [nk_le (by omega) (by omega)] at h
        exact h
      refine xOk.pur ⟨m, rfl, hm, ?_, hs⟩
      intro c hc30
      refine ⟨hc c hc30, fun hcon => ?_⟩
      refine (rS.closed (C := fun x => x < 30 ∧ m.testBit x = true) ?_ ⟨hst, hbs⟩ hcon).2
      intro x y hx hr
      obtain ⟨j, hj, hjx⟩ := hb x hx.1 hx.2
      exact ⟨hr.1.2, hd j (by omega) x hx.1 hjx y hr⟩
    · have hei : i < e := by
        rw [nk_le (by omega) (by omega)] at h
        omega
      refine xOk.neg (nk_nge hi (by decide)) ?_
      obtain ⟨c0, hc0, hqi, hcb⟩ := hq i hei
      have hcon0 := hc c0 hc0 hcb
      have hlo0 := (con_lt hcon0 ⟨hst, hlo⟩).2
      refine xloop 4 (fun k (s : Nat × Nat × XI) t => f_Board_group_35 F S (fun v3 v4 v5 v6 I => f_Board_group_18 F S n v3 v4 v5 v6 I) k l (Int32.ofNat s.1) (Int32.ofNat s.2.1) (Int32.ofNat i) (Int32.ofNat t) s.2.2) (fun t s => gOk T W l st I s.2.2 s.1 s.2.1 ∧ i < s.2.1 ∧ gDone T W l s.2.2 s.1 i ∧ s.2.2 31 i = Int32.ofNat c0 ∧ gPart T W l s.1 c0 t) ?_ ?_ F (m, e, J) 0 (by omega) (by omega) ⟨hg, hei, hd, hqi, fun s' hs' => absurd hs' (by omega)⟩
      · intro k s t ht hP ih2
        obtain ⟨m1, e1, J1⟩ := s
        obtain ⟨hg1, hi1, hd1, hq1, hp1⟩ : gOk T W l st I J1 m1 e1 ∧ i < e1 ∧ gDone T W l J1 m1 i ∧ J1 31 i = Int32.ofNat c0 ∧ gPart T W l m1 c0 t := hP
        have hg1' := hg1
        obtain ⟨⟨hm1, he1, hs1⟩, hqq1, hc1, hb1, hbs1⟩ := hg1'
        have he130 : e1 ≤ 30 := by rw [he1]; exact cnt_le _ _
        have hT1 : tbC 17 T J1 := tbC_same hT hs1 (fun _ => rfl) (fun _ => rfl) (fun _ => rfl) (fun _ => rfl)
        have hI1 : J1 (S + 1) = W := by rw [hs1.row (S + 1) hS']; exact hI
        show xOk (f_Board_group_35 F S _ (k + 1) l (Int32.ofNat m1) (Int32.ofNat e1) (Int32.ofNat i) (Int32.ofNat t) J1) _
        rw [f_Board_group_35]
        refine xOk.neg (nk_nge ht (by decide)) ?_
        refine xOk.ck (nk_in hi (by omega)) ?_
        rw [nk_N (by omega), hq1]
        refine xOk.bnde (c_linked hT1 hO hW hI1 hc0 ht) ?_
        have stay : gPart T W l m1 c0 (t + 1) → xOk (f_Board_group_35 F S (fun v3 v4 v5 v6 I => f_Board_group_18 F S n v3 v4 v5 v6 I) k l (Int32.ofNat m1) (Int32.ofNat e1) (Int32.ofNat i) (Int32.ofNat t + 1) J1) (fun r => ∃ m, r.1 = Int32.ofNat m ∧ m < 1073741824 ∧ (∀ c, c < 30 → (m.testBit c = true ↔ con T W l st c)) ∧ Same sc31 I r.2) := by
          intro hp
          rw [nk_succ]
          exact ih2 (m1, e1, J1) ⟨hg1, hi1, hd1, hq1, hp⟩
        cases hl : lnk T W c0 t with
        | false =>
          refine xOk.pos rfl ?_
          unfold f_Board_group_78
          refine xOk.pos rfl (stay ?_)
          intro s' hs' b hnb hlk hlb
          by_cases e : s' = t
          · subst e
            rw [hl] at hlk; cases hlk
          · exact hp1 s' (by omega) b hnb hlk hlb
        | true =>
          refine xOk.neg (by decide) ?_
          refine xOk.ck (nk_in hi (by omega)) ?_
          refine xOk.bnde (c_beside hT1 hO hc0 t ht) ?_
          cases hn : nb T c0 t with
          | none =>
            unfold lnk at hl
            rw [hn] at hl
            cases hl
          | some b =>
            have hb30 := nb_lt hO hc0 t ht b hn
            have hlb2 := (lnk_lies hl hn).2
            simp only [oi]
            unfold f_Board_group_78
            refine xOk.neg (oi_nm1 hb30) ?_
            rw [bit_get (by omega) (by omega)]
            cases htb : m1.testBit b with
            | true =>
              refine xOk.neg (by decide) (stay ?_)
              intro s' hs' b' hnb hlk hlb
              by_cases e : s' = t
              · subst e
                rw [hn] at hnb
                cases hnb
                exact htb
              · exact hp1 s' (by omega) b' hnb hlk hlb
            | false =>
              refine xOk.pos rfl ?_
              have hlt : e1 < 30 := by rw [he1]; exact cnt_lt hb30 htb
              refine xOk.neg (nk_nge hlt (by decide)) ?_
              have add : lo T W l b = true → xOk (f_Board_group_122 F S (fun v3 v4 v5 v6 v7 I => f_Board_group_35 F S (fun v3 v4 v5 v6 I => f_Board_group_18 F S n v3 v4 v5 v6 I) k v3 v4 v5 v6 v7 I) l (Int32.ofNat m1) (Int32.ofNat e1) (Int32.ofNat i) (Int32.ofNat t) (Int32.ofNat b) J1) (fun r => ∃ m, r.1 = Int32.ofNat m ∧ m < 1073741824 ∧ (∀ c, c < 30 → (m.testBit c = true ↔ con T W l st c)) ∧ Same sc31 I r.2) := by
                intro hlob
                unfold f_Board_group_122
                refine xOk.ck (nk_in hlt (by omega)) (xOk.st ?_)
                rw [nk_N (by omega), bit_set hm1 hb30, nk_succ, nk_succ]
                have tbm : ∀ c, (m1 ||| 2 ^ b).testBit c = (m1.testBit c || decide (b = c)) := fun c => tb_set
                have hjn : jn T W l c0 b := ⟨⟨hc0, hb30⟩, ⟨hlo0, hlob⟩, t, ht, hn, hl⟩
                refine ih2 (m1 ||| 2 ^ b, e1 + 1, xput J1 31 e1 (Int32.ofNat b)) ⟨⟨⟨or_lt30 hm1 hb30, ?_, hs1.put' rfl⟩, ?_, ?_, ?_, ?_⟩, by simp only; omega, ?_, ?_, ?_⟩
                · rw [cnt_add1 hb30 htb tbm, ← he1]
                · intro j hj
                  simp only at hj ⊢
                  rw [xput_at]
                  by_cases e : j = e1
                  · rw [if_pos e]
                    exact ⟨b, hb30, rfl, by rw [tbm]; simp⟩
                  · rw [if_neg e]
                    obtain ⟨c, x1, x2, x3⟩ := hqq1 j (by omega)
                    exact ⟨c, x1, x2, by rw [tbm, x3]; rfl⟩
                · intro c x1 x2
                  rw [tbm] at x2
                  rcases Bool.or_eq_true_iff.mp x2 with x3 | x3
                  · exact hc1 c x1 x3
                  · have : b = c := of_decide_eq_true x3
                    rw [← this]
                    exact hcon0.step hjn
                · intro c x1 x2
                  simp only at x2 ⊢
                  rw [tbm] at x2
                  by_cases e : b = c
                  · exact ⟨e1, by omega, by rw [xput_eq, e]⟩
                  · rw [decide_eq_false e, Bool.or_false] at x2
                    obtain ⟨j, y1, y2⟩ := hb1 c x1 x2
                    exact ⟨j, by omega, by rw [xput_at, if_neg (by omega)]; exact y2⟩
                · rw [tbm, hbs1]; rfl
                · intro j hj c x1 x2 b' hjb
                  simp only at x2 ⊢
                  rw [xput_at, if_neg (by omega)] at x2
                  rw [tbm, hd1 j hj c x1 x2 b' hjb]
                  rfl
                · simp only
                  rw [xput_at, if_neg (by omega)]
                  exact hq1
                · intro s' hs' b' hnb hlk hlb
                  simp only
                  rw [tbm]
                  by_cases e : s' = t
                  · subst e
                    rw [hn] at hnb
                    cases hnb
                    simp
                  · rw [hp1 s' (by omega) b' hnb hlk hlb]
                    rfl
              refine xOk.ite (fun hm1' => add ?_) (fun hm1' => ?_)
              · rw [hm1', lo_all]
                exact hlb2
              · refine xOk.ck (nk_in hb30 (by omega)) ?_
                rw [nk_N (by omega), show J1 18 = tl T from hT1.2.2.2.1]
                refine xOk.ite (fun heq => add ?_) (fun hne => stay ?_)
                · rw [lo_of hm1', hlb2, decide_eq_true heq]
                  rfl
                · intro s' hs' b' hnb hlk hlb
                  by_cases e : s' = t
                  · subst e
                    rw [hn] at hnb
                    cases hnb
                    rw [lo_of hm1', decide_eq_false hne, Bool.and_false] at hlb
                    cases hlb
                  · exact hp1 s' (by omega) b' hnb hlk hlb
      · intro k s hP
        obtain ⟨m1, e1, J1⟩ := s
        obtain ⟨hg1, hi1, hd1, hq1, hp1⟩ : gOk T W l st I J1 m1 e1 ∧ i < e1 ∧ gDone T W l J1 m1 i ∧ J1 31 i = Int32.ofNat c0 ∧ gPart T W l m1 c0 4 := hP
        show xOk (f_Board_group_35 F S _ (k + 1) l (Int32.ofNat m1) (Int32.ofNat e1) (Int32.ofNat i) (Int32.ofNat 4) J1) _
        rw [f_Board_group_35]
        refine xOk.pos (by decide) ?_
        rw [nk_succ]
        refine ih (m1, e1, J1) ⟨hg1, by simp only; omega, ?_⟩
        intro j hj c x1 x2 b hjb
        simp only at x2 ⊢
        by_cases e : j = i
        · subst e
          rw [hq1] at x2
          have : c0 = c := nk_inj (by omega) (by omega) x2
          subst this
          obtain ⟨y1, y2, s, y3, y4, y5⟩ := hjb
          exact hp1 s y3 b y4 y5 y2.2
        · exact hd1 j (by omega) c x1 x2 b hjb
  · intro n s hP
    obtain ⟨m, e, J⟩ := s
    obtain ⟨hg, hie, hd⟩ : gOk T W l st I J m e ∧ 30 ≤ e ∧ gDone T W l J m 30 := hP
    obtain ⟨⟨hm, he, hs⟩, hq, hc, hb, hbs⟩ := hg
    have he30 : e ≤ 30 := by rw [he]; exact cnt_le _ _
    show xOk (f_Board_group_18 F S (n + 1) l (Int32.ofNat m) (Int32.ofNat e) (Int32.ofNat 30) J) _
    rw [f_Board_group_18]
    refine xOk.pos (nk_le_t he30 (by omega)) (xOk.pur ⟨m, rfl, hm, ?_, hs⟩)
    intro c hc30
    refine ⟨hc c hc30, fun hcon => ?_⟩
    refine (rS.closed (C := fun x => x < 30 ∧ m.testBit x = true) ?_ ⟨hst, hbs⟩ hcon).2
    intro x y hx hr
    obtain ⟨j, hj, hjx⟩ := hb x hx.1 hx.2
    exact ⟨hr.1.2, hd j (by omega) x hx.1 hjx y hr⟩
