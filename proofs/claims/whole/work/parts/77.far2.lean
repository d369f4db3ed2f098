/-! the reference: sums fall until none does -/
def sMv (o : Option Nat) : Nat := match o with
  | some d => d
  | none => 99999
def sumv (g : Nat → Option Nat) : Nat → Nat
  | 0 => 0
  | n + 1 => sumv g n + sMv (g n)
theorem sumv_upd {g : Nat → Option Nat} {b e : Nat} (h : e < sMv (g b)) : ∀ n, sumv (updO g b (some e)) n + (if b < n then sMv (g b) - e else 0) = sumv g n := by
  intro n
  induction n with
  | zero => rfl
  | succ n ih =>
    show sumv (updO g b (some e)) n + sMv (updO g b (some e) n) + _ = sumv g n + sMv (g n)
    rw [← ih]
    by_cases e1 : n = b
    · have h1 : sMv (updO g b (some e) n) = e := by unfold updO; rw [if_pos e1]; rfl
      rw [h1, e1, if_neg (show ¬ b < b by omega), if_pos (show b < b + 1 by omega)]
      omega
    · have h1 : sMv (updO g b (some e) n) = sMv (g n) := by unfold updO; rw [if_neg e1]
      rw [h1]
      by_cases e2 : b < n
      · rw [if_pos e2, if_pos (show b < n + 1 by omega)]; omega
      · rw [if_neg e2, if_neg (show ¬ b < n + 1 by omega)]; omega
theorem sumv_le {g : Nat → Option Nat} {B : Nat} (hB : 99999 ≤ B) (h : ∀ a d, a < 30 → g a = some d → d ≤ B) : ∀ n, n ≤ 30 → sumv g n ≤ n * B := by
  intro n
  induction n with
  | zero => intro _; exact Nat.zero_le _
  | succ n ih =>
    intro hn
    have := ih (by omega)
    show sumv g n + sMv (g n) ≤ (n + 1) * B
    have h2 : sMv (g n) ≤ B := by
      cases hg : g n with
      | none => exact hB
      | some d => exact h n d (by omega) hg
    rw [Nat.succ_mul]
    omega
/-- scratch of the two -/
def scF (o j : Nat) : Bool := scQ o j || Nat.beq o 167
theorem scF_Q {o j : Nat} (h : scF o j = false) : scQ o j = false := by
  unfold scF at h
  exact (Bool.or_eq_false_iff.mp h).1
theorem scM_F {o j : Nat} (h : scM o j = false) : scF o j = false := by
  have h1 := scM_Q h
  unfold scM at h
  unfold scF
  rw [h1]
  cases h2 : Nat.beq o 167 <;> simp_all
theorem Same.QF {I J : XI} (h : Same scQ I J) : Same scF I J := h.mono (fun _ _ e => scF_Q e)
theorem Same.FM {I J : XI} (h : Same scF I J) : Same scM I J := h.mono (fun _ _ e => scM_F e)
theorem rowS_F {W : Nat → Int32} {dy pd tk sd : Int32} {J K : XI} (h : rowS W dy pd tk sd J) (hs : Same scF J K) : rowS W dy pd tk sd K := by
  obtain ⟨h1, h2, h3, h4, h5⟩ := h
  refine ⟨fun a ha => ?_, ?_, ?_, ?_, ?_⟩
  · rw [hs 163 a rfl]; exact h1 a ha
  · rw [hs 163 30 rfl]; exact h2
  · rw [hs 163 31 rfl]; exact h3
  · rw [hs 163 32 rfl]; exact h4
  · rw [hs 131 50 rfl]; exact h5
def fin30 (g : Nat → Option Nat) : Nat := cnt (fun a => (g a).isSome) 30
/-- what the reference knows -/
def mI (T : XT) (ok : Nat → Nat → Bool) (wt : Nat → Nat → Nat) (st z : Nat) (g : Nat → Option Nat) (J : XI) : Prop := (∀ a, a < 30 → J 167 a = Int32.ofNat (sMv (g a))) ∧ (∀ a d, a < 30 → g a = some d → pP T ok wt st z a d) ∧ (∃ d, g st = some d ∧ d ≤ z) ∧ (∀ a d, a < 30 → g a = some d → d + 99 ≤ z + 99 * fin30 g)
theorem fin30_le {g : Nat → Option Nat} : fin30 g ≤ 30 := cnt_le _ 30
theorem mI_bd {T : XT} {ok : Nat → Nat → Bool} {wt : Nat → Nat → Nat} {st z : Nat} {g : Nat → Option Nat} {J : XI} (h : mI T ok wt st z g J) (hz : z ≤ 1) {a d : Nat} (ha : a < 30) (hg : g a = some d) : d ≤ 2872 := by
  have h1 := h.2.2.2 a d ha hg
  have h2 := fin30_le (g := g)
  omega
def satA (T : XT) (ok : Nat → Nat → Bool) (wt : Nat → Nat → Nat) (g : Nat → Option Nat) (a s : Nat) : Prop := ∀ b d, eg T ok a s b → g a = some d → ∃ e, g b = some e ∧ e ≤ d + wt a s
theorem mI_same {T : XT} {ok : Nat → Nat → Bool} {wt : Nat → Nat → Nat} {st z : Nat} {g : Nat → Option Nat} {J K : XI} (h : mI T ok wt st z g J) (hs : ∀ a, K 167 a = J 167 a) : mI T ok wt st z g K := ⟨fun a ha => (hs a).trans (h.1 a ha), h.2⟩
theorem mI_step {T : XT} {ok : Nat → Nat → Bool} {wt : Nat → Nat → Nat} {st z : Nat} {g : Nat → Option Nat} {J : XI} (hO : tOk T) (h : mI T ok wt st z g J) {a s b da : Nat} (hg : g a = some da) (he : eg T ok a s b) (hw : wt a s ≤ 99) (hlt : da + wt a s < sMv (g b)) :
    mI T ok wt st z (updO g b (some (da + wt a s))) (xput J 167 b (Int32.ofNat (da + wt a s))) ∧ sumv (updO g b (some (da + wt a s))) 30 < sumv g 30 := by
  have hb := nb_lt hO he.1 s he.2.1 b he.2.2.1
  obtain ⟨h1, h2, ⟨d0, h3, h3'⟩, h4⟩ := h
  have hfin : fin30 (updO g b (some (da + wt a s))) = fin30 g + if g b = none then 1 else 0 := by
    unfold fin30
    cases hgb : g b with
    | none =>
      have hq := cnt_one (p := fun a => (g a).isSome) (q := fun c => (updO g b (some (da + wt a s)) c).isSome) (u := b) (fun c => by
        unfold updO
        by_cases e : c = b
        · rw [if_pos e, decide_eq_true e, Bool.or_true]; rfl
        · rw [if_neg e, decide_eq_false e, Bool.or_false]) (by show (g b).isSome = false; rw [hgb]; rfl) 30
      rw [if_pos hb] at hq
      rw [if_pos (show (none : Option Nat) = none from rfl)]
      exact hq
    | some x =>
      rw [if_neg (show ¬ some x = none by intro h; cases h), Nat.add_zero]
      refine cnt_congr (fun c hc => ?_)
      unfold updO
      by_cases e : c = b
      · rw [if_pos e, e, hgb]; rfl
      · rw [if_neg e]
  refine ⟨⟨fun c hc => ?_, fun c d hc hgc => ?_, ?_, fun c d hc hgc => ?_⟩, ?_⟩
  · rw [xput_at]
    unfold updO
    by_cases e : c = b
    · rw [if_pos e, if_pos e]; rfl
    · rw [if_neg e, if_neg e]; exact h1 c hc
  · unfold updO at hgc
    by_cases e : c = b
    · rw [if_pos e] at hgc
      cases hgc
      obtain ⟨n, hn⟩ := h2 a da he.1 hg
      rw [e]
      exact ⟨n + 1, a, s, da, hn, he, rfl⟩
    · rw [if_neg e] at hgc
      exact h2 c d hc hgc
  · unfold updO
    by_cases e : st = b
    · rw [if_pos e]
      refine ⟨_, rfl, ?_⟩
      rw [← e, h3] at hlt
      have : da + wt a s < d0 := hlt
      omega
    · rw [if_neg e]; exact ⟨d0, h3, h3'⟩
  · rw [hfin]
    have ha4 := h4 a da he.1 hg
    unfold updO at hgc
    by_cases e : c = b
    · rw [if_pos e] at hgc
      cases hgc
      cases hgb : g b with
      | none => rw [if_pos (show (none : Option Nat) = none from rfl)]; omega
      | some x =>
        have := h4 b x hb hgb
        rw [hgb] at hlt
        have hlt : da + wt a s < x := hlt
        omega
    · rw [if_neg e] at hgc
      have := h4 c d hc hgc
      omega
  · have := sumv_upd hlt 30
    rw [if_pos hb] at this
    omega
theorem mI_sat {T : XT} {ok : Nat → Nat → Bool} {wt : Nat → Nat → Nat} {st z : Nat} {g : Nat → Option Nat} {J : XI} (h : mI T ok wt st z g J) (hz : z ≤ 1) {a s b da : Nat} (ha : a < 30) (hg : g a = some da) (he : eg T ok a s b) (hw : wt a s ≤ 99) (hlt : ¬ da + wt a s < sMv (g b)) : satA T ok wt g a s := by
  intro b' d he' hg'
  have h1 := he.2.2.1
  rw [he'.2.2.1] at h1
  have eb : b' = b := Option.some.inj h1
  rw [hg] at hg'
  cases hg'
  have hd := mI_bd h hz ha hg
  rw [eb]
  cases hgb : g b with
  | none =>
    rw [hgb] at hlt
    have hlt : ¬ da + wt a s < 99999 := hlt
    omega
  | some e =>
    rw [hgb] at hlt
    have hlt : ¬ da + wt a s < e := hlt
    exact ⟨e, rfl, by omega⟩
theorem mI_start {T : XT} {ok : Nat → Nat → Bool} {wt : Nat → Nat → Nat} {st z : Nat} (hst : st < 30) {J : XI} (h : ∀ a, a < 30 → J 167 a = if a = st then Int32.ofNat z else 99999) : mI T ok wt st z (updO (fun _ => none) st (some z)) J := by
  refine ⟨fun a ha => ?_, fun a d ha hg => ?_, ⟨z, by simp [updO], Nat.le_refl z⟩, fun a d ha hg => ?_⟩
  · rw [h a ha]
    unfold updO
    by_cases e : a = st
    · rw [if_pos e, if_pos e]; rfl
    · rw [if_neg e, if_neg e]; rfl
  · unfold updO at hg
    by_cases e : a = st
    · rw [if_pos e] at hg
      cases hg
      exact ⟨0, e, rfl⟩
    · rw [if_neg e] at hg; cases hg
  · have hq := cnt_one (p := fun _ => false) (q := fun c => (updO (fun _ => none) st (some z) c).isSome) (u := st) (fun c => by
      unfold updO
      by_cases e : c = st
      · rw [if_pos e, decide_eq_true e]; rfl
      · rw [if_neg e, decide_eq_false e]; rfl) rfl 30
    rw [if_pos hst] at hq
    have hq : fin30 (updO (fun _ => none) st (some z)) = cnt (fun _ => false) 30 + 1 := hq
    rw [hq]
    unfold updO at hg
    by_cases e : a = st
    · rw [if_pos e] at hg
      cases hg
      omega
    · rw [if_neg e] at hg; cases hg
/-- while a sweep goes on, from g0: nothing changed and all is met so far, or the sum fell -/
def swpF (T : XT) (ok : Nat → Nat → Bool) (wt : Nat → Nat → Nat) (st z : Nat) (g0 : Nat → Option Nat) (I0 : XI) (a s : Nat) (c : Bool) (J : XI) : Prop := ∃ g, mI T ok wt st z g J ∧ (c = false → g = g0 ∧ (∀ a' s', a' < a → satA T ok wt g0 a' s') ∧ ∀ s', s' < s → satA T ok wt g0 a s') ∧ (c = true → sumv g 30 < sumv g0 30) ∧ Same scF I0 J
theorem swp_end {T : XT} {ok : Nat → Nat → Bool} {wt : Nat → Nat → Nat} {st z : Nat} {g0 : Nat → Option Nat} {I0 : XI} {a : Nat} {c : Bool} {J : XI} (h : swpF T ok wt st z g0 I0 a 4 c J) : swpF T ok wt st z g0 I0 (a + 1) 0 c J := by
  obtain ⟨g, h1, h2, h3, h4⟩ := h
  refine ⟨g, h1, fun hc => ?_, h3, h4⟩
  obtain ⟨k1, k2, k3⟩ := h2 hc
  refine ⟨k1, fun a' s' ha => ?_, fun s' hs => absurd hs (by omega)⟩
  by_cases e : a' = a
  · subst e
    by_cases hs : s' < 4
    · exact k3 s' hs
    · intro b d he hg; exact absurd he.2.1 hs
  · exact k2 a' s' (by omega)
theorem swp_skip {T : XT} {ok : Nat → Nat → Bool} {wt : Nat → Nat → Nat} {st z : Nat} {g0 : Nat → Option Nat} {I0 : XI} {a s : Nat} {c : Bool} {J : XI} (h : swpF T ok wt st z g0 I0 a s c J) (hn : ∀ b, ¬ eg T ok a s b) : swpF T ok wt st z g0 I0 a (s + 1) c J := by
  obtain ⟨g, h1, h2, h3, h4⟩ := h
  refine ⟨g, h1, fun hc => ?_, h3, h4⟩
  obtain ⟨k1, k2, k3⟩ := h2 hc
  refine ⟨k1, k2, fun s' hs => ?_⟩
  by_cases e : s' = s
  · subst e; intro b d he hg; exact absurd he (hn b)
  · exact k3 s' (by omega)
/-- a cell out of reach -/
theorem swp_none {T : XT} {ok : Nat → Nat → Bool} {wt : Nat → Nat → Nat} {st z : Nat} {g0 : Nat → Option Nat} {I0 : XI} {a s : Nat} {c : Bool} {J : XI} (h : swpF T ok wt st z g0 I0 a s c J) (hz : z ≤ 1) (ha : a < 30) (hn : (99999 : Int32) ≤ J 167 a) : swpF T ok wt st z g0 I0 (a + 1) 0 c J := by
  obtain ⟨g, h1, h2, h3, h4⟩ := h
  have hg : g a = none := by
    cases hg : g a with
    | none => rfl
    | some d =>
      have hd := mI_bd h1 hz ha hg
      rw [h1.1 a ha, hg] at hn
      exact absurd hn (nk_nge (N := 99999) (k := d) (by omega) (by omega))
  refine ⟨g, h1, fun hc => ?_, h3, h4⟩
  obtain ⟨k1, k2, k3⟩ := h2 hc
  refine ⟨k1, fun a' s' ha' => ?_, fun s' hs => absurd hs (by omega)⟩
  by_cases e : a' = a
  · subst e; intro b d he hg'; rw [← k1, hg] at hg'; cases hg'
  · exact k2 a' s' (by omega)
/-- a cell in reach -/
theorem swp_some {T : XT} {ok : Nat → Nat → Bool} {wt : Nat → Nat → Nat} {st z : Nat} {g0 : Nat → Option Nat} {I0 : XI} {a s : Nat} {c : Bool} {J : XI} (h : swpF T ok wt st z g0 I0 a s c J) (hO : tOk T) (hst : st < 30) (hi : inT T st = true) (hz : z ≤ 1) (ha : a < 30) (hn : ¬ (99999 : Int32) ≤ J 167 a) : inT T a = true ∧ ∃ d, d ≤ 2872 ∧ J 167 a = Int32.ofNat d ∧ pP T ok wt st z a d := by
  obtain ⟨g, h1, h2, h3, h4⟩ := h
  cases hg : g a with
  | none =>
    rw [h1.1 a ha, hg] at hn
    exact absurd (Int32.le_refl (Int32.ofNat 99999)) hn
  | some d =>
    obtain ⟨n, hp⟩ := h1.2.1 a d ha hg
    refine ⟨(pS_in hO hst hi n a d hp).2, d, mI_bd h1 hz ha hg, ?_, n, hp⟩
    rw [h1.1 a ha, hg]; rfl
/-- the step is taken -/
theorem swp_put {T : XT} {ok : Nat → Nat → Bool} {wt : Nat → Nat → Nat} {st z : Nat} {g0 : Nat → Option Nat} {I0 : XI} {a s b : Nat} {c : Bool} {J K : XI} (h : swpF T ok wt st z g0 I0 a s c J) (hO : tOk T) (hz : z ≤ 1) (ha : a < 30) (hn : ¬ (99999 : Int32) ≤ J 167 a) (he : eg T ok a s b) (hw : wt a s ≤ 99) (hs : Same scF J K) (hs7 : ∀ a, K 167 a = J 167 a) (hlt : J 167 a + Int32.ofNat (wt a s) < K 167 b) :
    swpF T ok wt st z g0 I0 a (s + 1) true (xput K 167 b (J 167 a + Int32.ofNat (wt a s))) := by
  obtain ⟨g, h1, h2, h3, h4⟩ := h
  have hb := nb_lt hO he.1 s he.2.1 b he.2.2.1
  have hK := mI_same h1 hs7
  cases hg : g a with
  | none =>
    rw [h1.1 a ha, hg] at hn
    exact absurd (Int32.le_refl (Int32.ofNat 99999)) hn
  | some d =>
    have hd := mI_bd h1 hz ha hg
    have e1 : J 167 a = Int32.ofNat d := by rw [h1.1 a ha, hg]; rfl
    have hvb : sMv (g b) < 2147483648 := by
      cases hgb : g b with
      | none => show 99999 < _; omega
      | some x => have := mI_bd h1 hz hb hgb; show x < _; omega
    rw [e1, nk_add, hs7, h1.1 b hb, nk_lt (by omega) hvb] at hlt
    obtain ⟨q1, q2⟩ := mI_step hO hK hg he hw hlt
    rw [e1, nk_add]
    refine ⟨_, q1, fun hc => by (cases hc), fun _ => ?_, (h4.trans hs).put' rfl⟩
    cases c with
    | false => rw [(h2 rfl).1] at q2; rw [(h2 rfl).1]; exact q2
    | true => exact Nat.lt_trans q2 (h3 rfl)
theorem swp_keep {T : XT} {ok : Nat → Nat → Bool} {wt : Nat → Nat → Nat} {st z : Nat} {g0 : Nat → Option Nat} {I0 : XI} {a s b : Nat} {c : Bool} {J K : XI} (h : swpF T ok wt st z g0 I0 a s c J) (hO : tOk T) (hz : z ≤ 1) (ha : a < 30) (hn : ¬ (99999 : Int32) ≤ J 167 a) (he : eg T ok a s b) (hw : wt a s ≤ 99) (hs : Same scF J K) (hs7 : ∀ a, K 167 a = J 167 a) (hlt : ¬ J 167 a + Int32.ofNat (wt a s) < K 167 b) :
    swpF T ok wt st z g0 I0 a (s + 1) c K := by
  obtain ⟨g, h1, h2, h3, h4⟩ := h
  have hb := nb_lt hO he.1 s he.2.1 b he.2.2.1
  cases hg : g a with
  | none =>
    rw [h1.1 a ha, hg] at hn
    exact absurd (Int32.le_refl (Int32.ofNat 99999)) hn
  | some d =>
    have hd := mI_bd h1 hz ha hg
    have e1 : J 167 a = Int32.ofNat d := by rw [h1.1 a ha, hg]; rfl
    have hvb : sMv (g b) < 2147483648 := by
      cases hgb : g b with
      | none => show 99999 < _; omega
      | some x => have := mI_bd h1 hz hb hgb; show x < _; omega
    rw [e1, nk_add, hs7, h1.1 b hb, nk_lt (by omega) hvb] at hlt
    refine ⟨g, mI_same h1 hs7, fun hc => ?_, h3, h4.trans hs⟩
    obtain ⟨k1, k2, k3⟩ := h2 hc
    refine ⟨k1, k2, fun s' hs' => ?_⟩
    by_cases e : s' = s
    · subst e; rw [← k1]; exact mI_sat h1 hz ha hg he hw hlt
    · exact k3 s' (by omega)
