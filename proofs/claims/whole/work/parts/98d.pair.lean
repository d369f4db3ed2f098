/-! both readers side by side -/
def pr {α β : Type} (x : Option α) (y : Option β) (P : α → β → Prop) : Prop := ∃ r q, (x = some r ∧ y = some q) ∧ P r q
theorem pr.mk' {α β : Type} {x : Option α} {y : Option β} {P : α → β → Prop} {r : α} {q : β} (h1 : x = some r) (h2 : y = some q) (h : P r q) : pr x y P := ⟨r, q, ⟨h1, h2⟩, h⟩
theorem pr.xx {α β : Type} {x : Option α} {y : Option β} {A : α → Prop} {B : β → Prop} {P : α → β → Prop} (hx : xOk x A) (hy : xOk y B) (h : ∀ r q, A r → B q → P r q) : pr x y P := by
  obtain ⟨r, e1, h1⟩ := hx
  obtain ⟨q, e2, h2⟩ := hy
  exact ⟨r, q, ⟨e1, e2⟩, h r q h1 h2⟩
theorem pr.bnd {α β γ δ : Type} {x : Option α} {y : Option β} {f : α → Option γ} {g : β → Option δ} {P : α → β → Prop} {Q : γ → δ → Prop} (h : pr x y P) (k : ∀ r q, P r q → pr (f r) (g q) Q) : pr (x.bind f) (y.bind g) Q := by
  obtain ⟨r, q, ⟨rfl, rfl⟩, h⟩ := h
  exact k r q h
theorem pr.mono {α β : Type} {x : Option α} {y : Option β} {P Q : α → β → Prop} (h : pr x y P) (k : ∀ r q, P r q → Q r q) : pr x y Q := by
  obtain ⟨r, q, e, h⟩ := h
  exact ⟨r, q, e, k r q h⟩
theorem pr.lb {α β γ : Type} {x : Option α} {y : Option β} {f : α → Option γ} {A : α → Prop} {Q : γ → β → Prop} (h : xOk x A) (k : ∀ r, A r → pr (f r) y Q) : pr (x.bind f) y Q := by
  obtain ⟨r, rfl, h⟩ := h
  exact k r h
theorem pr.rb {α β δ : Type} {x : Option α} {y : Option β} {g : β → Option δ} {B : β → Prop} {Q : α → δ → Prop} (h : xOk y B) (k : ∀ q, B q → pr x (g q) Q) : pr x (y.bind g) Q := by
  obtain ⟨q, rfl, h⟩ := h
  exact k q h
theorem pr.lbe {α β γ : Type} {x : Option α} {y : Option β} {f : α → Option γ} {a : α} {Q : γ → β → Prop} (h : x = some a) (k : pr (f a) y Q) : pr (x.bind f) y Q := by
  subst h
  exact k
theorem pr.rbe {α β δ : Type} {x : Option α} {y : Option β} {g : β → Option δ} {q : β} {Q : α → δ → Prop} (h : y = some q) (k : pr x (g q) Q) : pr x (y.bind g) Q := by
  subst h
  exact k
theorem pr.lck {α β : Type} {b : Bool} {x : Option α} {y : Option β} {P : α → β → Prop} (hb : b = true) (h : pr x y P) : pr (xck b x) y P := by
  subst hb
  exact h
theorem pr.rck {α β : Type} {b : Bool} {x : Option α} {y : Option β} {P : α → β → Prop} (hb : b = true) (h : pr x y P) : pr x (xck b y) P := by
  subst hb
  exact h
theorem pr.lst {α β γ : Type} {a : α} {f : α → Option β} {y : Option γ} {P : β → γ → Prop} (h : pr (f a) y P) : pr (xst a f) y P := h
theorem pr.rst {α β γ : Type} {a : α} {f : α → Option β} {x : Option γ} {P : γ → β → Prop} (h : pr x (f a) P) : pr x (xst a f) P := h
theorem pr.lpos {α β : Type} {c : Prop} [Decidable c] {x x' : Option α} {y : Option β} {P : α → β → Prop} (hc : c) (h : pr x y P) : pr (if c then x else x') y P := by
  rw [if_pos hc]; exact h
theorem pr.lneg {α β : Type} {c : Prop} [Decidable c] {x x' : Option α} {y : Option β} {P : α → β → Prop} (hc : ¬ c) (h : pr x' y P) : pr (if c then x else x') y P := by
  rw [if_neg hc]; exact h
theorem pr.rpos {α β : Type} {c : Prop} [Decidable c] {x : Option α} {y y' : Option β} {P : α → β → Prop} (hc : c) (h : pr x y P) : pr x (if c then y else y') P := by
  rw [if_pos hc]; exact h
theorem pr.rneg {α β : Type} {c : Prop} [Decidable c] {x : Option α} {y y' : Option β} {P : α → β → Prop} (hc : ¬ c) (h : pr x y' P) : pr x (if c then y else y') P := by
  rw [if_neg hc]; exact h
theorem pr.pur {α β : Type} {r : α} {q : β} {P : α → β → Prop} (h : P r q) : pr (some r) (some q) P := ⟨r, q, ⟨rfl, rfl⟩, h⟩
/-- where both stand: at a fault, or at a token -/
abbrev XA : Type := Sum (Nat × Nat) Nat
def Rx (b : Nat → Int32) (n : Nat) (L : XL) (a : XA) (I M : XI) : Prop := match a with
  | Sum.inl e => bd b n e I ∧ bm b n e M
  | Sum.inr t => gd b n t I ∧ gm b n L t M
def acX (b : Nat → Int32) (n k : Nat) (a : XA) : XA := match a with
  | Sum.inl e => Sum.inl e
  | Sum.inr t => acR b n k t
def fg (a : XA) : Int32 := match a with
  | Sum.inl _ => 0
  | Sum.inr _ => 1
/-- the slight faults, those told before token j -/
def SLr (b : Nat → Int32) (n j : Nat) (I M : XI) : Prop := ∃ s, s < 7 ∧ (I 6 5 = Int32.ofNat s ∧ M 131 15 = Int32.ofNat s) ∧ (s = 0 → I 6 6 = -1) ∧ (¬ s = 0 → ∃ i, (i < j ∧ reach b n i) ∧ I 6 6 = Int32.ofNat (plc b n i) ∧ M 131 16 = Int32.ofNat (plc b n i))
theorem SLr_up {b : Nat → Int32} {n j j' : Nat} {I M : XI} (h : SLr b n j I M) (hj : j ≤ j') : SLr b n j' I M := by
  obtain ⟨s, h1, h2, h3, h4⟩ := h
  refine ⟨s, h1, h2, h3, fun hs => ?_⟩
  obtain ⟨i, ⟨i1, i2⟩, i3⟩ := h4 hs
  exact ⟨i, ⟨by omega, i2⟩, i3⟩
theorem SLr_same {b : Nat → Int32} {n j : Nat} {I M I' M' : XI} (h : SLr b n j I M) (h5 : I' 6 5 = I 6 5) (h6 : I' 6 6 = I 6 6) (m5 : M' 131 15 = M 131 15) (m6 : M' 131 16 = M 131 16) : SLr b n j I' M' := by
  obtain ⟨s, h1, ⟨h2, h2'⟩, h3, h4⟩ := h
  refine ⟨s, h1, ⟨h5.trans h2, m5.trans h2'⟩, fun hs => h6.trans (h3 hs), fun hs => ?_⟩
  obtain ⟨i, i1, i2, i3⟩ := h4 hs
  exact ⟨i, i1, h6.trans i2, m6.trans i3⟩
def Rs (b : Nat → Int32) (n : Nat) (L : XL) (a : XA) (I M : XI) : Prop := Rx b n L a I M ∧ ∀ t, a = Sum.inr t → SLr b n t I M
def sc6S (o j : Nat) : Bool := Nat.beq o 6 && (Nat.beq j 2 || (Nat.beq j 3 || (Nat.beq j 4 || (Nat.beq j 5 || Nat.beq j 6))))
def scFS (o j : Nat) : Bool := Nat.beq o 131 && (Nat.beq j 11 || (Nat.beq j 13 || (Nat.beq j 14 || (Nat.beq j 15 || Nat.beq j 16))))
theorem Same.S6 {I J : XI} (h : Same sc6 I J) : Same sc6S I J := h.mono (fun o j e => by
  unfold sc6S at e
  unfold sc6
  cases h1 : Nat.beq o 6 with
  | false => rfl
  | true =>
    rw [h1] at e
    simp only [Bool.or_eq_false_iff, Bool.true_and] at e ⊢
    exact ⟨e.1, e.2.1, e.2.2.1⟩)
theorem Same.FS {I J : XI} (h : Same scF3 I J) : Same scFS I J := h.mono (fun o j e => by
  unfold scFS at e
  unfold scF3
  cases h1 : Nat.beq o 131 with
  | false => rfl
  | true =>
    rw [h1] at e
    simp only [Bool.or_eq_false_iff, Bool.true_and] at e ⊢
    exact ⟨⟨e.1, e.2.1⟩, e.2.2.1⟩)
theorem acR_inr {b : Nat → Int32} {n k t t' : Nat} (h : acR b n k t = Sum.inr t') : kd b n t = k ∧ t < 400 ∨ 400 < t ∧ kd b n t = k := by
  unfold acR at h
  split at h
  · rename_i hk
    split at h
    · cases h
    · by_cases e : t < 400
      · exact Or.inl ⟨hk, e⟩
      · exact Or.inr ⟨by omega, hk⟩
  · cases h
theorem acR_t {b : Nat → Int32} {n k t t' : Nat} (h : acR b n k t = Sum.inr t') : t' = t + 1 ∧ kd b n t = k := by
  unfold acR at h
  split at h
  · rename_i hk
    split at h
    · cases h
    · exact ⟨(Sum.inr.inj h).symm, hk⟩
  · cases h
theorem acX_t {b : Nat → Int32} {n k t' : Nat} {a : XA} (h : acX b n k a = Sum.inr t') : ∃ t, a = Sum.inr t ∧ t' = t + 1 ∧ kd b n t = k := by
  cases a with
  | inl e => cases h
  | inr t => exact ⟨t, rfl, acR_t h⟩
theorem pr_acc {b : Nat → Int32} {n k : Nat} {L : XL} {a : XA} {I M : XI} (h : Rs b n L a I M) (hk : 1 < k) (hk' : k < 121) (hk2 : okk k = true) : pr (f_Reader_accept (Int32.ofNat k) I) (f_M_must (Int32.ofNat (mk k)) M) (fun r q => (Rs b n L (acX b n k a) r.2 q ∧ r.1 = fg (acX b n k a)) ∧ Same sc6 I r.2 ∧ Same scF3 M q) := by
  obtain ⟨hx, hs⟩ := h
  cases a with
  | inl e => exact pr.mk' (bd_accept hx.1) (bm_must hx.2) ⟨⟨⟨hx, fun t ht => by cases ht⟩, rfl⟩, Same.rfl, Same.rfl⟩
  | inr t =>
    refine pr.xx (gd_accept hx.1 hk hk') (gm_must hx.2 hk hk' hk2) (fun r q hr hq => ?_)
    obtain ⟨r1, r2⟩ := hr
    obtain ⟨q1, q2⟩ := hq
    show (Rs b n L (acR b n k t) r.2 q ∧ r.1 = fg (acR b n k t)) ∧ _
    cases ha : acR b n k t with
    | inl e =>
      rw [ha] at r2 q2
      exact ⟨⟨⟨⟨r2.2, q2⟩, fun t ht => by cases ht⟩, r2.1⟩, r1, q1⟩
    | inr t' =>
      rw [ha] at r2 q2
      refine ⟨⟨⟨⟨r2.2, q2⟩, fun t2 ht => ?_⟩, r2.1⟩, r1, q1⟩
      have e := Sum.inr.inj ht
      have := (acR_t ha).1
      exact SLr_same (SLr_up (hs t rfl) (by omega)) (r1 6 5 rfl) (r1 6 6 rfl) (q1 131 15 rfl) (q1 131 16 rfl)
/-- a slight fault at token i, told now -/
theorem pr_mark {b : Nat → Int32} {n i k : Nat} {I M : XI} (hn : n ≤ 2000) (hs : SLr b n i I M) (hi : reach b n i) (hk : 0 < k ∧ k < 7) (hM : M 135 i = Int32.ofNat (plc b n i)) (h13 : M 131 13 = 0) : pr (f_Reader_mark (Int32.ofNat k) (Int32.ofNat (plc b n i)) I) (f_M_wrong (Int32.ofNat k) (Int32.ofNat i) M) (fun r q => (∃ s, s < 7 ∧ ¬ s = 0 ∧ (r 6 5 = Int32.ofNat s ∧ q 131 15 = Int32.ofNat s) ∧ ∃ j, ((j = i ∧ s = k) ∨ j < i) ∧ reach b n j ∧ r 6 6 = Int32.ofNat (plc b n j) ∧ q 131 16 = Int32.ofNat (plc b n j)) ∧ Same sc6S I r ∧ (∀ j, ¬ (j = 5 ∨ j = 6) → r 6 j = I 6 j) ∧ Same scFS M q ∧ (∀ j, ¬ (j = 15 ∨ j = 16) → q 131 j = M 131 j)) := by
  obtain ⟨s, h1, ⟨h2, h2'⟩, h3, h4⟩ := hs
  have hi4 := hi.1
  have hpl := plc_le b n i
  unfold f_Reader_mark f_M_wrong
  rw [h2, h2', h13, nk_N (show i < 2147483648 by omega), hM]
  refine pr.rck (nk_in (by omega) (by omega)) (pr.rneg (by decide) ?_)
  by_cases e : s = 0
  · rw [e]
    refine pr.lpos rfl (pr.rpos rfl ?_)
    unfold f_M_wrong_46
    refine pr.lst (pr.lst (pr.rst (pr.rst (pr.pur ⟨⟨k, hk.2, by omega, ⟨?_, ?_⟩, i, Or.inl ⟨rfl, rfl⟩, hi, ?_, ?_⟩, (Same.put rfl).put' rfl, fun j hj => ?_, (Same.put rfl).put' rfl, fun j hj => ?_⟩))))
    · rw [xput_ne (by omega), xput_eq]
    · rw [xput_ne (by omega), xput_eq]
    · rw [xput_eq]
    · rw [xput_eq]
    · rw [xput_ne (by omega), xput_ne (by omega)]
    · rw [xput_ne (by omega), xput_ne (by omega)]
  · obtain ⟨j, ⟨j1, j2⟩, j3, j4⟩ := h4 e
    have hlt : plc b n j < plc b n i := plc_mono hi j j1
    have hn0 : ¬ Int32.ofNat s = 0 := by rw [show (0 : Int32) = Int32.ofNat 0 from rfl, nk_eq (by omega) (by omega)]; exact e
    refine pr.lneg hn0 (pr.rneg hn0 ?_)
    rw [j4]
    exact pr.rpos (nk_lt_t hlt (by omega)) (pr.pur ⟨⟨s, h1, e, ⟨h2, h2'⟩, j, Or.inr j1, j2, j3, j4⟩, Same.rfl, fun _ _ => rfl, Same.rfl, fun _ _ => rfl⟩)
theorem gm_fields {b : Nat → Int32} {n t : Nat} {L : XL} {I J : XI} (h : gm b n L t I) (hs : Same scFS I J) (h11 : J 131 11 = I 131 11) (h13 : J 131 13 = I 131 13) : gm b n L t J :=
  ⟨h.1, ⟨h11.trans h.2.1.1, h13.trans h.2.1.2⟩, tkM_same h.2.2 (hs.row 134 (fun _ => rfl)) (hs.row 135 (fun _ => rfl)) (hs.row 136 (fun _ => rfl))⟩
theorem gd_fields {b : Nat → Int32} {n t : Nat} {I J : XI} (h : gd b n t I) (hs : Same sc6S I J) (h2 : J 6 2 = I 6 2) (h3 : J 6 3 = I 6 3) : gd b n t J :=
  ⟨h.1, ⟨h2.trans h.2.1.1, h3.trans h.2.1.2⟩, tkC_same h.2.2 (hs.row 3 (fun _ => rfl)) (hs.row 4 (fun _ => rfl)) (hs.row 5 (fun _ => rfl))⟩
/-- what the small steps change; a slight fault stays -/
def Sm (I J : XI) : Prop := Same sc6S I J ∧ (J 6 5 = 0 → I 6 5 = 0)
theorem Sm.rfl {I : XI} : Sm I I := ⟨Same.rfl, id⟩
theorem Sm.trans {I J K : XI} (h : Sm I J) (k : Sm J K) : Sm I K := ⟨h.1.trans k.1, fun e => h.2 (k.2 e)⟩
theorem Same.Sm {I J : XI} (h : Same sc6 I J) : Sm I J := ⟨h.S6, fun e => (h 6 5 (Eq.refl _)).symm.trans e⟩
def nuQ (b : Nat → Int32) (n : Nat) (L : XL) (m : Nat) (a : XA) (I M : XI) (r q : Int32 × XI) : Prop := (Rs b n L a r.2 q.2 ∧ ∀ t, a = Sum.inr t → r.1 = q.1 ∧ ∃ v, v ≤ m ∧ r.1 = Int32.ofNat v) ∧ Sm I r.2 ∧ Same scFS M q.2
theorem pr_num {b : Nat → Int32} {n m : Nat} {L : XL} {a : XA} {I M : XI} (hn : n ≤ 2000) (h : Rs b n L a I M) (hm : m < 10000) : pr (f_Reader_number (Int32.ofNat m) I) (f_M_bounded 0 (Int32.ofNat m) M) (nuQ b n L m (acX b n 3 a) I M) := by
  obtain ⟨hx, hs⟩ := h
  cases a with
  | inl e =>
    obtain ⟨h1, h2⟩ := hx
    unfold f_Reader_number f_M_bounded
    refine pr.lbe (bd_accept h1) (pr.lpos rfl (pr.rpos (bm_v h2).2.2 ?_))
    unfold f_M_bounded_15
    exact pr.rbe (bm_fail h2) (pr.pur ⟨⟨⟨⟨h1, h2⟩, fun t ht => by cases ht⟩, fun t ht => by cases ht⟩, Sm.rfl, Same.rfl⟩)
  | inr t =>
    obtain ⟨h1, h2⟩ := hx
    have hs := hs t rfl
    have ht := h1.1.1
    have hkd := kd_lt b n t
    unfold f_Reader_number f_M_bounded
    refine pr.lb (gd_accept (k := 3) h1 (by omega) (by omega)) (fun r hr => ?_)
    refine pr.rneg (by rw [h2.2.1.2]; decide) (pr.rbe (gm_is (k := 3) h2 (by omega) rfl) ?_)
    show pr _ _ (nuQ b n L m (acR b n 3 t) I M)
    unfold acR at hr ⊢
    by_cases e3 : kd b n t = 3
    · rw [if_pos e3] at hr ⊢
      rw [decide_eq_true e3]
      refine pr.rneg (by decide) (pr.rck (by rw [h2.2.1.1]; exact nk_in (by omega) (by omega)) ?_)
      obtain ⟨v, hv, hv'⟩ := vl_ok e3
      have hM : M 136 (xN (M 131 11)) = Int32.ofNat v := by
        rw [h2.2.1.1, nk_N (by omega), (h2.2.2 t h2.1).2.1 e3, hv']
      have hM135 : M 135 t = Int32.ofNat (plc b n t) := ((h2.2.2 t h2.1).1).2
      rw [hM, h1.2.1.1, nk_N (show t < 2147483648 by omega)]
      refine pr.rneg (nk_nlt0 (by omega)) ?_
      by_cases e4 : t = 400
      · -- no room
        rw [if_pos e4] at hr ⊢
        obtain ⟨r1, r2, r3⟩ := hr
        refine pr.lpos r2 ?_
        have fin : ∀ (K : XI), gm b n L t K → Same scFS M K → pr (some ((0 : Int32), r.2)) (f_M_bounded_51 0 (Int32.ofNat m) (Int32.ofNat v) K) (nuQ b n L m (Sum.inl (2, 400)) I M) := by
          intro K hK hsK
          unfold f_M_bounded_51
          refine pr.rb (gm_goes hK (by omega)) (fun G hG => ?_)
          obtain ⟨g1, g2⟩ := hG
          rw [if_pos e4] at g2
          exact pr.rneg (nk_nlt0 (by omega)) (pr.pur ⟨⟨⟨⟨r3, g2⟩, fun t ht => by cases ht⟩, fun t ht => by cases ht⟩, r1.Sm, hsK.trans g1.FS⟩)
        by_cases hle : v ≤ m
        · exact pr.rpos (nk_le_t hle (by omega)) (fin M h2 Same.rfl)
        · refine pr.rneg (nk_nge (by omega) (by omega)) ?_
          unfold f_M_bounded_42
          have hmk := pr_mark (k := 5) (I := I) hn hs h2.1 (by omega) hM135 h2.2.1.2
          obtain ⟨r', q', ⟨-, e2⟩, -, -, -, k4, k5⟩ := hmk
          rw [h2.2.1.1]
          refine pr.rbe e2 (fin q' ?_ k4)
          exact gm_fields h2 k4 (k5 11 (by omega)) (k5 13 (by omega))
      · rw [if_neg e4] at hr ⊢
        obtain ⟨r1, r2, r3⟩ := hr
        have h5 : r.2 5 t = Int32.ofNat v := by rw [(r3.2.2 t h1.1).2.1 e3, hv']
        have h4' : r.2 4 t = Int32.ofNat (plc b n t) := ((r3.2.2 t h1.1).1).2
        have hin : xin (Int32.ofNat t) 401 = true := nk_in (by omega) (by omega)
        refine pr.lneg (by rw [r2]; decide) (pr.lck hin ?_)
        rw [h5, h4']
        by_cases hle : v ≤ m
        · refine pr.lpos (nk_le_t hle (by omega)) (pr.lck hin (pr.rpos (nk_le_t hle (by omega)) ?_))
          unfold f_M_bounded_51
          refine pr.rb (gm_goes h2 (by omega)) (fun G hG => ?_)
          obtain ⟨g1, g2⟩ := hG
          rw [if_neg e4] at g2
          refine pr.rneg (nk_nlt0 (by omega)) ?_
          rw [if_pos (nk_le_t hle (by omega))]
          refine pr.pur ⟨⟨⟨⟨r3, g2⟩, fun t' ht' => ?_⟩, fun t' ht' => ⟨rfl, v, hle, rfl⟩⟩, r1.Sm, g1.FS⟩
          rw [← Sum.inr.inj ht']
          exact SLr_same (SLr_up hs (by omega)) (r1 6 5 rfl) (r1 6 6 rfl) (g1 131 15 rfl) (g1 131 16 rfl)
        · refine pr.lneg (nk_nge (by omega) (by omega)) (pr.lck hin (pr.rneg (nk_nge (by omega) (by omega)) ?_))
          unfold f_M_bounded_42
          rw [h2.2.1.1]
          have hs' : SLr b n t r.2 M := SLr_same hs (r1 6 5 rfl) (r1 6 6 rfl) rfl rfl
          refine (pr_mark (k := 5) hn hs' h2.1 (by omega) hM135 h2.2.1.2).bnd (fun r' q' hq' => ?_)
          obtain ⟨⟨s, s1, s0, s2, j, j1, j2, j3, j4⟩, k2, k3, k4, k5⟩ := hq'
          unfold f_M_bounded_51
          refine pr.rb (gm_goes (gm_fields h2 k4 (k5 11 (by omega)) (k5 13 (by omega))) (by omega)) (fun G hG => ?_)
          obtain ⟨g1, g2⟩ := hG
          rw [if_neg e4] at g2
          refine pr.rneg (nk_nlt0 (by omega)) ?_
          rw [if_neg (nk_nge (by omega) (by omega))]
          refine pr.pur ⟨⟨⟨⟨gd_fields r3 k2 (k3 2 (by omega)) (k3 3 (by omega)), g2⟩, fun t' ht' => ?_⟩, fun t' ht' => ⟨rfl, 0, Nat.zero_le _, rfl⟩⟩, r1.Sm.trans ⟨k2, fun e => absurd (s2.1.symm.trans e) (by rw [show (0 : Int32) = Int32.ofNat 0 from rfl, nk_eq (by omega) (by omega)]; exact s0)⟩, k4.trans g1.FS⟩
          rw [← Sum.inr.inj ht']
          refine ⟨s, s1, ⟨s2.1, (g1 131 15 rfl).trans s2.2⟩, fun h => absurd h s0, fun _ => ⟨j, ⟨by omega, j2⟩, j3, (g1 131 16 rfl).trans j4⟩⟩
    · rw [if_neg e3] at hr ⊢
      obtain ⟨r1, r2, r3⟩ := hr
      rw [decide_eq_false e3]
      refine pr.lpos r2 (pr.rpos rfl ?_)
      unfold f_M_bounded_15
      refine pr.rb (gm_fail (k := 1) h2 (Or.inl rfl)) (fun K hK => pr.pur ⟨⟨⟨⟨r3, hK.1⟩, fun t ht => by cases ht⟩, fun t ht => by cases ht⟩, r1.Sm, hK.2.FS⟩)
def sgX (b : Nat → Int32) (n : Nat) (a : XA) : XA := match a with
  | Sum.inl e => Sum.inl e
  | Sum.inr t => if kd b n t = 45 then acX b n 3 (acR b n 45 t) else acR b n 3 t
def sgQ (b : Nat → Int32) (n : Nat) (L : XL) (a : XA) (I M : XI) (r q : Int32 × XI) : Prop := (Rs b n L a r.2 q.2 ∧ ∀ t, a = Sum.inr t → r.1 = q.1 ∧ kOk r.1) ∧ Sm I r.2 ∧ Same scFS M q.2
theorem kOk_nat : ∀ v, v ≤ 3 → kOk (Int32.ofNat v) ∧ kOk (-(Int32.ofNat v)) := by
  unfold kOk
  decide
theorem nu_sg {b : Nat → Int32} {n : Nat} {L : XL} {a : XA} {I M : XI} {r q : Int32 × XI} (h : nuQ b n L 3 a I M r q) : sgQ b n L a I M r q := by
  obtain ⟨⟨h1, h2⟩, h3, h4⟩ := h
  refine ⟨⟨h1, fun t ht => ?_⟩, h3, h4⟩
  obtain ⟨e, v, hv, hv'⟩ := h2 t ht
  exact ⟨e, by rw [hv']; exact (kOk_nat v hv).1⟩
theorem bd_kind {b : Nat → Int32} {n : Nat} {e : Nat × Nat} {J : XI} (h : bd b n e J) : ∃ v, f_Reader_kind J = some v := by
  obtain ⟨-, -, t, ht, h4⟩ := h
  unfold f_Reader_kind
  rw [h4, xck_true (nk_in (by omega) (by omega))]
  exact ⟨_, rfl⟩
theorem bd_number {b : Nat → Int32} {n : Nat} {e : Nat × Nat} {J : XI} {v : Int32} (h : bd b n e J) : f_Reader_number v J = some (0, J) := by
  refine xOk.eq ?_
  unfold f_Reader_number
  exact xOk.bnde (bd_accept h) (xOk.pos rfl (xOk.pur rfl))
theorem pr_sgn {b : Nat → Int32} {n : Nat} {L : XL} {a : XA} {I M : XI} (hn : n ≤ 2000) (h : Rs b n L a I M) : pr (f_Reader_signedNumber I) (f_M_toldKnob M) (sgQ b n L (sgX b n a) I M) := by
  cases a with
  | inl e =>
    obtain ⟨⟨h1, h2⟩, -⟩ := id h
    obtain ⟨v, hv⟩ := bd_kind h1
    unfold f_Reader_signedNumber f_M_toldKnob
    refine pr.lbe hv (pr.rneg (bm_v h2).1 ?_)
    unfold f_M_toldKnob_21
    refine pr.rpos rfl ?_
    unfold f_M_toldKnob_30
    have hnum := pr_num (m := 3) hn h (by omega)
    obtain ⟨r, q, ⟨e1, e2⟩, hq⟩ := hnum
    have hr : r = (0, I) := Option.some.inj (e1.symm.trans (bd_number h1))
    have hq' := hq.1.1.1
    have key : ∀ x y : Int32, sgQ b n L (Sum.inl e) I M (x, I) (y, q.2) := fun x y => by
      rw [hr] at hq
      exact ⟨⟨hq.1.1, fun t ht => by cases ht⟩, Sm.rfl, hq.2.2⟩
    by_cases e45 : v = 45
    · refine pr.lpos e45 (pr.lbe (bd_accept h1) (pr.lbe (bd_number h1) (pr.rbe e2 (pr.pur (key _ _)))))
    · refine pr.lneg e45 (pr.lbe (bd_number h1) (pr.rbe e2 (pr.pur (key _ _))))
  | inr t =>
    obtain ⟨⟨h1, h2⟩, hs⟩ := id h
    have hkd := kd_lt b n t
    unfold f_Reader_signedNumber f_M_toldKnob
    refine pr.lbe (gd_kind h1) (pr.rpos h2.2.1.2 (pr.rbe (gm_is (k := 45) h2 (by omega) rfl) ?_))
    show pr _ _ (sgQ b n L (if kd b n t = 45 then acX b n 3 (acR b n 45 t) else acR b n 3 t) I M)
    unfold f_M_toldKnob_21
    by_cases e45 : kd b n t = 45
    · rw [if_pos e45, decide_eq_true e45, b2_norm]
      refine pr.lpos (by rw [e45]; rfl) (pr.rneg (by decide) ?_)
      refine pr.lb (gd_accept (k := 45) h1 (by omega) (by omega)) (fun r hr => pr.rb (gm_goes h2 (by omega)) (fun G hG => ?_))
      unfold f_M_toldKnob_30
      obtain ⟨r1, r2⟩ := hr
      obtain ⟨g1, g2⟩ := hG
      have hRs : Rs b n L (acR b n 45 t) r.2 G := by
        unfold acR at r2 ⊢
        rw [if_pos e45] at r2 ⊢
        by_cases e4 : t = 400
        · rw [if_pos e4] at r2 g2 ⊢
          exact ⟨⟨r2.2, g2⟩, fun t ht => by cases ht⟩
        · rw [if_neg e4] at r2 g2 ⊢
          refine ⟨⟨r2.2, g2⟩, fun t' ht' => ?_⟩
          rw [← Sum.inr.inj ht']
          exact SLr_same (SLr_up (hs t rfl) (by omega)) (r1 6 5 rfl) (r1 6 6 rfl) (g1 131 15 rfl) (g1 131 16 rfl)
      refine (pr_num (m := 3) hn hRs (by omega)).bnd (fun r' q' hq' => pr.pur ?_)
      obtain ⟨⟨k1, k2⟩, k3, k4⟩ := hq'
      refine ⟨⟨k1, fun t' ht' => ?_⟩, r1.Sm.trans k3, g1.FS.trans k4⟩
      obtain ⟨e, v, hv, hv'⟩ := k2 t' ht'
      show -r'.1 = (if b2 true = 0 then q'.1 else -q'.1) ∧ kOk (-r'.1)
      rw [if_neg (by decide), ← e, hv']
      exact ⟨rfl, (kOk_nat v hv).2⟩
    · rw [if_neg e45, decide_eq_false e45, b2_norm]
      refine pr.lneg (by rw [show (45 : Int32) = Int32.ofNat 45 from rfl, nk_eq (by omega) (by omega)]; exact e45) (pr.rpos rfl ?_)
      unfold f_M_toldKnob_30
      refine (pr_num (m := 3) hn h (by omega)).bnd (fun r' q' hq' => pr.pur ?_)
      have := nu_sg hq'
      exact this
theorem pr_go {b : Nat → Int32} {n t k : Nat} {L : XL} {I M : XI} (h : Rs b n L (Sum.inr t) I M) (hk : kd b n t = k) (hk1 : 1 < k) : pr (f_Reader_accept (Int32.ofNat k) I) (f_M_goesOn M) (fun r q => (Rs b n L (acR b n k t) r.2 q ∧ r.1 = fg (acR b n k t)) ∧ Same sc6 I r.2 ∧ Same scF3 M q) := by
  obtain ⟨⟨h1, h2⟩, hs⟩ := h
  have hkd := kd_lt b n t
  refine pr.xx (gd_accept h1 hk1 (by omega)) (gm_goes h2 (by omega)) (fun r q hr hq => ?_)
  obtain ⟨r1, r2⟩ := hr
  obtain ⟨g1, g2⟩ := hq
  unfold acR at r2 ⊢
  rw [if_pos hk] at r2 ⊢
  by_cases e4 : t = 400
  · rw [if_pos e4] at r2 g2 ⊢
    exact ⟨⟨⟨⟨r2.2, g2⟩, fun t ht => by cases ht⟩, r2.1⟩, r1, g1⟩
  · rw [if_neg e4] at r2 g2 ⊢
    refine ⟨⟨⟨⟨r2.2, g2⟩, fun t' ht' => ?_⟩, r2.1⟩, r1, g1⟩
    rw [← Sum.inr.inj ht']
    exact SLr_same (SLr_up (hs t rfl) (by omega)) (r1 6 5 rfl) (r1 6 6 rfl) (g1 131 15 rfl) (g1 131 16 rfl)
