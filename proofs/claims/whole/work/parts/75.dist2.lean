/-! the class's rounds -/
theorem scH_34 {o j : Nat} (h : scH o j = false) : sc34 o j = false := by
  unfold scH at h
  unfold sc34
  cases h1 : Nat.beq o 33 <;> cases h2 : Nat.beq o 34 <;> simp_all
theorem Same.H34 {I J : XI} (h : Same sc34 I J) : Same scH I J := h.mono (fun _ _ e => scH_34 e)
theorem c_start {F : Nat} (hF : 4000000 ≤ F) {st z : Nat} {I : XI} (hst : st < 30) : xOk (f_Paths_start F (Int32.ofNat st) (Int32.ofNat z) I) (fun J => djR (updO (fun _ => none) st (some z)) (fun _ => true) J ∧ Same scH I J) := by
  unfold f_Paths_start
  refine (c_fill hF (A := 34) (n := 30) (v := 1000000) (by omega)).bnd (fun J hJ => ?_)
  refine xOk.ck (nk_in hst (by omega)) (xOk.st (xOk.st (xOk.pur ⟨⟨fun a ha => ?_, 1073741823, ?_, by decide, fun c hc => ?_⟩, ?_⟩)))
  · rw [xput_neo (by omega), xput_at, nk_N (by omega)]
    unfold updO
    by_cases e : a = st
    · rw [if_pos e, if_pos e]; rfl
    · rw [if_neg e, if_neg e]; exact hJ.2 a ha
  · rw [xput_eq]; rfl
  · rw [show 1073741823 = 2 ^ 30 - 1 from rfl, Nat.testBit_two_pow_sub_one, decide_eq_true hc]
  · refine Same.put' (Same.put' (hJ.1.mono (fun o j e => ?_)) rfl) rfl
    have := scH_34 e
    unfold sc34 at this
    unfold sco
    exact (Bool.or_eq_false_iff.mp this).1
theorem cnt_one {p q : Nat → Bool} {u : Nat} (h : ∀ c, q c = (p c || decide (c = u))) (hu : p u = false) : ∀ N, cnt q N = cnt p N + if u < N then 1 else 0 := by
  intro N
  induction N with
  | zero => rfl
  | succ n ih =>
    show cnt q n + (if q n = true then 1 else 0) = cnt p n + (if p n = true then 1 else 0) + _
    rw [ih, h n]
    by_cases e : n = u
    · rw [decide_eq_true e, Bool.or_true, if_pos rfl, e, hu, if_neg (show ¬ u < u by omega), if_pos (show u < u + 1 by omega), if_neg (show ¬ false = true by decide)]
    · rw [decide_eq_false e, Bool.or_false]
      by_cases e2 : u < n
      · rw [if_pos e2, if_pos (show u < n + 1 by omega)]; omega
      · rw [if_neg e2, if_neg (show ¬ u < n + 1 by omega)]; omega
/-- between two rounds -/
def dI (T : XT) (ok : Nat → Nat → Bool) (wt : Nat → Nat → Nat) (st z : Nat) (I0 : XI) (at_ : Option Nat) (k : Nat) (J : XI) : Prop := ∃ g op, djk T ok wt st z g op at_ ∧ djR g op J ∧ gB g (z + 99 * k) ∧ cnt (fun c => !op c) 30 = k + (if at_.isSome = true then 1 else 0) ∧ (∀ u, at_ = some u → u < 30 ∧ op u = false) ∧
  (at_ = none → ∀ c, c < 30 → op c = true → g c = none) ∧ Same scH I0 J
theorem gB_mono {g : Nat → Option Nat} {A B : Nat} (h : gB g A) (hAB : A ≤ B) : gB g B := fun a d ha hg => Nat.le_trans (h a d ha hg) hAB
theorem dI_close {F : Nat} (hF : 4000000 ≤ F) {T : XT} {ok : Nat → Nat → Bool} {wt : Nat → Nat → Nat} {st z : Nat} {I0 : XI} {k : Nat} {J : XI} {g : Nat → Option Nat} {op : Nat → Bool} (hO : tOk T) (hst : st < 30) (hz : z ≤ 1) (hk : k ≤ 30) (h : djk T ok wt st z g op none) (hR : djR g op J) (hB : gB g (z + 99 * k)) (hc : cnt (fun c => !op c) 30 = k) (hs : Same scH I0 J) :
    xOk (f_Paths_closeNearest F J) (fun r => ∃ at_, r.1 = oi at_ ∧ dI T ok wt st z I0 at_ k r.2) := by
  refine (c_closeNearest hF hR hB (by omega)).mono (fun r hr => ?_)
  rcases hr with ⟨rfl, h2⟩ | ⟨u, du, h1, h2, h3, h4, h5, h6, h7⟩
  · exact ⟨none, rfl, g, op, h, hR, hB, hc, fun u hu => by (cases hu), fun _ => h2, hs⟩
  · refine ⟨some u, h5, g, _, djk_close hO hst h h1 h2 h3 h4 (fun c => rfl), h6, hB, ?_, fun v hv => ?_, fun hn => by (cases hn), hs.trans h7.H34⟩
    · have hq : ∀ c, (!(op c && !decide (c = u))) = ((!op c) || decide (c = u)) := by
        intro c
        cases op c <;> cases decide (c = u) <;> rfl
      have h1' := cnt_one (p := fun c => !op c) (q := fun c => !(op c && !decide (c = u))) (u := u) hq (by show (!op u) = false; rw [h2]; rfl) 30
      rw [hc, if_pos h1] at h1'
      exact h1'
    · cases hv
      refine ⟨h1, ?_⟩
      show (op u && !decide (u = u)) = false
      rw [decide_eq_true rfl, h2]; rfl
/-- what the target holds at the end -/
theorem dI_end {T : XT} {ok : Nat → Nat → Bool} {wt : Nat → Nat → Nat} {st z : Nat} {I0 : XI} {at_ : Option Nat} {k : Nat} {J : XI} (h : dI T ok wt st z I0 at_ k J) {t : Nat} (ht : t < 30) (ha : at_ = none ∨ at_ = some t) :
    ∃ o : Option Nat, J 34 t = sE o ∧ (∀ d, o = some d → d ≤ z + 99 * k) ∧ resD T ok wt st z t (match o with
      | some d => Int32.ofNat d
      | none => -2) := by
  obtain ⟨g, op, h1, h2, h3, h4, h5, h6, h7⟩ := h
  refine ⟨g t, h2.1 t ht, fun d hd => h3 t d ht hd, ?_⟩
  rcases ha with rfl | rfl
  · exact djk_end h1 (h6 rfl) ht
  · obtain ⟨d, d1, d2⟩ := h1.2.2.1 t ht (h5 t rfl).2
    rw [d1]
    exact Or.inl ⟨d, d2, rfl⟩
/-- while the steps of one cell are looked at -/
def dS (T : XT) (ok : Nat → Nat → Bool) (wt : Nat → Nat → Nat) (st z : Nat) (I0 : XI) (u k : Nat) (s : Nat) (J : XI) : Prop := ∃ g op du, djk T ok wt st z g op (some u) ∧ djR g op J ∧ gB g (z + 99 * (k + 1)) ∧ (u < 30 ∧ op u = false ∧ g u = some du ∧ du ≤ z + 99 * k) ∧ cnt (fun c => !op c) 30 = k + 1 ∧
  (∀ s' b, s' < s → eg T ok u s' b → ∃ e, g b = some e ∧ e ≤ du + wt u s') ∧ Same scH I0 J
theorem dS_start {T : XT} {ok : Nat → Nat → Bool} {wt : Nat → Nat → Nat} {st z : Nat} {I0 : XI} {u k : Nat} {J : XI} (h : dI T ok wt st z I0 (some u) k J) : dS T ok wt st z I0 u k 0 J := by
  obtain ⟨g, op, h1, h2, h3, h4, h5, h6, h7⟩ := h
  obtain ⟨u1, u2⟩ := h5 u rfl
  obtain ⟨d, d1, d2⟩ := h1.2.2.1 u u1 u2
  exact ⟨g, op, d, h1, h2, gB_mono h3 (by omega), ⟨u1, u2, d1, h3 u d u1 d1⟩, h4, fun s' b hs' => absurd hs' (by omega), h7⟩
theorem dS_done {F : Nat} (hF : 4000000 ≤ F) {T : XT} {ok : Nat → Nat → Bool} {wt : Nat → Nat → Nat} {st z : Nat} {I0 : XI} {u k : Nat} {J : XI} (hO : tOk T) (hst : st < 30) (hz : z ≤ 1) (hk : k < 30) (h : dS T ok wt st z I0 u k 4 J) : xOk (f_Paths_closeNearest F J) (fun r => ∃ at_, r.1 = oi at_ ∧ dI T ok wt st z I0 at_ (k + 1) r.2) := by
  obtain ⟨g, op, du, h1, h2, h3, ⟨h4, h5, h6, h7⟩, h8, h9, h10⟩ := h
  refine dI_close hF hO hst hz (by omega) (djk_done h1 (fun s b d he hg => ?_)) h2 h3 h8 h10
  rw [h6] at hg
  cases hg
  exact h9 s b he.2.1 he
theorem dS_skip {T : XT} {ok : Nat → Nat → Bool} {wt : Nat → Nat → Nat} {st z : Nat} {I0 : XI} {u k s : Nat} {J : XI} (h : dS T ok wt st z I0 u k s J) (hn : ∀ b, ¬ eg T ok u s b) : dS T ok wt st z I0 u k (s + 1) J := by
  obtain ⟨g, op, du, h1, h2, h3, h4, h5, h6, h7⟩ := h
  refine ⟨g, op, du, h1, h2, h3, h4, h5, fun s' b hs' he => ?_, h7⟩
  by_cases e : s' = s
  · subst e; exact absurd he (hn b)
  · exact h6 s' b (by omega) he
theorem dS_step {T : XT} {ok : Nat → Nat → Bool} {wt : Nat → Nat → Nat} {st z : Nat} {I0 : XI} {u k s b : Nat} {J K : XI} (hz : z ≤ 1) (hk : k < 30) (hO : tOk T) (h : dS T ok wt st z I0 u k s J) (he : eg T ok u s b) (hw : wt u s ≤ 99) (hs : Same scR J K) : dS T ok wt st z I0 u k (s + 1) (xput K 34 b (if J 34 u + Int32.ofNat (wt u s) < J 34 b then J 34 u + Int32.ofNat (wt u s) else J 34 b)) := by
  obtain ⟨g, op, du, h1, ⟨h2, h2'⟩, h3, ⟨h4a, h4b, h4c, h4d⟩, h5, h6, h7⟩ := h
  have hb := nb_lt hO he.1 s he.2.1 b he.2.2.1
  obtain ⟨e, hmin⟩ : ∃ e, e = (match g b with
      | some x => if du + wt u s < x then du + wt u s else x
      | none => du + wt u s) := ⟨_, rfl⟩
  have hv : (if J 34 u + Int32.ofNat (wt u s) < J 34 b then J 34 u + Int32.ofNat (wt u s) else J 34 b) = sE (some e) := by
    rw [h2 u h4a, h2 b hb, h4c]
    show (if Int32.ofNat du + Int32.ofNat (wt u s) < sE (g b) then Int32.ofNat du + Int32.ofNat (wt u s) else sE (g b)) = Int32.ofNat e
    rw [nk_add]
    cases hg : g b with
    | none =>
      rw [hg] at hmin
      rw [if_pos (show Int32.ofNat (du + wt u s) < sE none from nk_lt_t (b := 1000000) (by omega) (by omega)), hmin]
    | some x =>
      rw [hg] at hmin
      have hx := h3 b x hb hg
      have hmin : e = if du + wt u s < x then du + wt u s else x := hmin
      by_cases hlt : du + wt u s < x
      · rw [if_pos (show Int32.ofNat (du + wt u s) < sE (some x) from nk_lt_t hlt (by omega)), hmin, if_pos hlt]
      · rw [if_neg (show ¬ Int32.ofNat (du + wt u s) < sE (some x) from nk_lt_f (by omega) (by omega)), hmin, if_neg hlt]; rfl
  rw [hv]
  have hle : e ≤ du + wt u s ∧ (∀ x, g b = some x → e ≤ x) ∧ (g b = none → e = du + wt u s) := by
    cases hg : g b with
    | none =>
      rw [hg] at hmin
      have hmin : e = du + wt u s := hmin
      exact ⟨by omega, fun x hx => by (cases hx), fun _ => hmin⟩
    | some x =>
      rw [hg] at hmin
      have hmin : e = if du + wt u s < x then du + wt u s else x := hmin
      refine ⟨by split at hmin <;> omega, fun y hy => ?_, fun hy => by (cases hy)⟩
      cases hy
      split at hmin <;> omega
  have hk34 : ∀ o j, Nat.beq o 34 = true ∨ Nat.beq o 33 = true → K o j = J o j := by
    intro o j ho
    refine hs o j ?_
    rcases ho with h | h
    · rw [Nat.eq_of_beq_eq_true h]; rfl
    · rw [Nat.eq_of_beq_eq_true h]; rfl
  refine ⟨updO g b (some e), op, du, djk_relax h1 h4a h4b h4c he e hmin, ⟨fun a ha => ?_, ?_⟩, fun a d ha hg => ?_, ⟨h4a, h4b, ?_, h4d⟩, h5, fun s' b' hs' he' => ?_, ?_⟩
  · rw [xput_at]
    unfold updO
    by_cases e' : a = b
    · rw [if_pos e', if_pos e']
    · rw [if_neg e', if_neg e', hk34 34 a (Or.inl rfl)]
      exact h2 a ha
  · obtain ⟨m, m1, m2, m3⟩ := h2'
    refine ⟨m, ?_, m2, m3⟩
    rw [xput_neo (by omega), hk34 33 4 (Or.inr rfl)]
    exact m1
  · unfold updO at hg
    by_cases e' : a = b
    · rw [if_pos e'] at hg
      cases hg
      omega
    · rw [if_neg e'] at hg
      exact h3 a d ha hg
  · unfold updO
    by_cases e' : u = b
    · rw [if_pos e']
      rw [← e', h4c] at hmin
      have hmin : e = if du + wt u s < du then du + wt u s else du := hmin
      rw [if_neg (by omega)] at hmin
      rw [hmin]
    · rw [if_neg e']; exact h4c
  · unfold updO
    by_cases e' : b' = b
    · rw [if_pos e']
      refine ⟨e, rfl, ?_⟩
      by_cases es : s' = s
      · rw [es]; exact hle.1
      · obtain ⟨x, x1, x2⟩ := h6 s' b' (by omega) he'
        rw [e'] at x1
        have := hle.2.1 x x1
        omega
    · rw [if_neg e']
      by_cases es : s' = s
      · subst es
        have := he'.2.2.1
        rw [he.2.2.1] at this
        cases this
        exact absurd rfl e'
      · exact h6 s' b' (by omega) he'
  · refine Same.put' (h7.trans hs.RH) rfl
/-- steps stay in the table -/
theorem pS_in {T : XT} {ok : Nat → Nat → Bool} {wt : Nat → Nat → Nat} {st z : Nat} (hO : tOk T) (hst : st < 30) (hi : inT T st = true) : ∀ n b d, pS T ok wt st z n b d → b < 30 ∧ inT T b = true := by
  intro n
  induction n with
  | zero => rintro b d ⟨rfl, -⟩; exact ⟨hst, hi⟩
  | succ n ih =>
    rintro b d ⟨a, s, d', p, e, -⟩
    obtain ⟨a1, a2⟩ := ih a d' p
    exact ⟨nb_lt hO a1 s e.2.1 b e.2.2.1, nb_in hO a1 a2 s e.2.1 b e.2.2.1⟩
theorem dS_in {T : XT} {ok : Nat → Nat → Bool} {wt : Nat → Nat → Nat} {st z : Nat} {I0 : XI} {u k s : Nat} {J : XI} (hO : tOk T) (hst : st < 30) (hi : inT T st = true) (h : dS T ok wt st z I0 u k s J) : u < 30 ∧ inT T u = true := by
  obtain ⟨g, op, du, h1, h2, h3, ⟨h4a, h4b, h4c, h4d⟩, -⟩ := h
  obtain ⟨n, hn⟩ := h1.1 u du h4a h4c
  exact pS_in hO hst hi n u du hn
