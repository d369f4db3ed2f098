/-! least sums over steps -/
def eg (T : XT) (ok : Nat → Nat → Bool) (a s b : Nat) : Prop := a < 30 ∧ s < 4 ∧ nb T a s = some b ∧ ok a s = true
def pS (T : XT) (ok : Nat → Nat → Bool) (wt : Nat → Nat → Nat) (st z : Nat) : Nat → Nat → Nat → Prop
  | 0, b, d => b = st ∧ d = z
  | n + 1, b, d => ∃ a s d', pS T ok wt st z n a d' ∧ eg T ok a s b ∧ d = d' + wt a s
def pP (T : XT) (ok : Nat → Nat → Bool) (wt : Nat → Nat → Nat) (st z b d : Nat) : Prop := ∃ n, pS T ok wt st z n b d
def isD (T : XT) (ok : Nat → Nat → Bool) (wt : Nat → Nat → Nat) (st z b d : Nat) : Prop := pP T ok wt st z b d ∧ ∀ d', pP T ok wt st z b d' → d ≤ d'
def resD (T : XT) (ok : Nat → Nat → Bool) (wt : Nat → Nat → Nat) (st z b : Nat) (v : Int32) : Prop := (∃ d, isD T ok wt st z b d ∧ v = Int32.ofNat d) ∨ ((¬ ∃ d, pP T ok wt st z b d) ∧ v = -2)
noncomputable def qD (T : XT) (ok : Nat → Nat → Bool) (wt : Nat → Nat → Nat) (st z b : Nat) : Int32 := @Classical.epsilon Int32 ⟨0⟩ (fun v => resD T ok wt st z b v)
theorem resD_eq {T : XT} {ok : Nat → Nat → Bool} {wt : Nat → Nat → Nat} {st z b : Nat} {v w : Int32} (h : resD T ok wt st z b v) (k : resD T ok wt st z b w) : v = w := by
  rcases h with ⟨d, h1, h2⟩ | ⟨h1, h2⟩
  · rcases k with ⟨e, k1, k2⟩ | ⟨k1, k2⟩
    · have a := h1.2 e k1.1
      have b := k1.2 d h1.1
      rw [h2, k2, show d = e by omega]
    · exact absurd ⟨d, h1.1⟩ k1
  · rcases k with ⟨e, k1, k2⟩ | ⟨k1, k2⟩
    · exact absurd ⟨e, k1.1⟩ h1
    · rw [h2, k2]
theorem qD_eq {T : XT} {ok : Nat → Nat → Bool} {wt : Nat → Nat → Nat} {st z b : Nat} {v : Int32} (h : resD T ok wt st z b v) : v = qD T ok wt st z b :=
  resD_eq h (@Classical.epsilon_spec_aux Int32 ⟨0⟩ (fun v => resD T ok wt st z b v) ⟨v, h⟩)
/-- a fixed point of all steps holds the least sums -/
theorem fix_res {T : XT} {ok : Nat → Nat → Bool} {wt : Nat → Nat → Nat} {st z : Nat} {f : Nat → Option Nat} (h1 : ∀ a d, a < 30 → f a = some d → pP T ok wt st z a d) (h0 : ∃ d, f st = some d ∧ d ≤ z) (h2 : ∀ a s b d, eg T ok a s b → f a = some d → ∃ e, f b = some e ∧ e ≤ d + wt a s) {b : Nat} (hb : b < 30) :
    resD T ok wt st z b (match f b with
      | some d => Int32.ofNat d
      | none => -2) := by
  have key : ∀ n b d, pS T ok wt st z n b d → ∃ e, f b = some e ∧ e ≤ d := by
    intro n
    induction n with
    | zero =>
      rintro b d ⟨rfl, rfl⟩
      exact h0
    | succ n ih =>
      rintro b d ⟨a, s, d', p, e, rfl⟩
      obtain ⟨x, x1, x2⟩ := ih a d' p
      obtain ⟨y, y1, y2⟩ := h2 a s b x e x1
      exact ⟨y, y1, by omega⟩
  cases hf : f b with
  | some d =>
    refine Or.inl ⟨d, ⟨h1 b d hb hf, fun d' hd' => ?_⟩, rfl⟩
    obtain ⟨n, hn⟩ := hd'
    obtain ⟨e, e1, e2⟩ := key n b d' hn
    rw [hf] at e1
    cases e1
    exact e2
  | none =>
    refine Or.inr ⟨fun ⟨d, n, hn⟩ => ?_, rfl⟩
    obtain ⟨e, e1, -⟩ := key n b d hn
    rw [hf] at e1
    cases e1
/-! the class: the nearest is closed -/
/-- what the class knows: sums g, open ones -/
def djk (T : XT) (ok : Nat → Nat → Bool) (wt : Nat → Nat → Nat) (st z : Nat) (g : Nat → Option Nat) (op : Nat → Bool) (at_ : Option Nat) : Prop :=
  (∀ a d, a < 30 → g a = some d → pP T ok wt st z a d) ∧ (∃ d, g st = some d ∧ d ≤ z) ∧ (∀ c, c < 30 → op c = false → ∃ d, g c = some d ∧ isD T ok wt st z c d) ∧
  (∀ c s b d, op c = false → ¬ at_ = some c → eg T ok c s b → g c = some d → ∃ e, g b = some e ∧ e ≤ d + wt c s)
theorem djk_path {T : XT} {ok : Nat → Nat → Bool} {wt : Nat → Nat → Nat} {st z : Nat} {g : Nat → Option Nat} {op : Nat → Bool} (hO : tOk T) (hst : st < 30) (h : djk T ok wt st z g op none) :
    ∀ n b d, pS T ok wt st z n b d → (∃ v e, v < 30 ∧ op v = true ∧ g v = some e ∧ e ≤ d) ∨ (b < 30 ∧ op b = false ∧ ∃ e, g b = some e ∧ e ≤ d) := by
  obtain ⟨h1, ⟨d0, h2, h2'⟩, h3, h4⟩ := h
  intro n
  induction n with
  | zero =>
    rintro b d ⟨rfl, rfl⟩
    cases ho : op b with
    | true => exact Or.inl ⟨b, d0, hst, ho, h2, h2'⟩
    | false => exact Or.inr ⟨hst, rfl, d0, h2, h2'⟩
  | succ n ih =>
    rintro b d ⟨a, s, d', p, e, rfl⟩
    rcases ih a d' p with ⟨v, x, v1, v2, v3, v4⟩ | ⟨a1, a2, x, x1, x2⟩
    · exact Or.inl ⟨v, x, v1, v2, v3, by omega⟩
    · obtain ⟨y, y1, y2⟩ := h4 a s b x a2 (by intro h; cases h) e x1
      have hb := nb_lt hO e.1 s e.2.1 b e.2.2.1
      cases ho : op b with
      | true => exact Or.inl ⟨b, y, hb, ho, y1, by omega⟩
      | false => exact Or.inr ⟨hb, rfl, y, y1, by omega⟩
/-- the nearest open one may be closed -/
theorem djk_close {T : XT} {ok : Nat → Nat → Bool} {wt : Nat → Nat → Nat} {st z u : Nat} {g : Nat → Option Nat} {op op' : Nat → Bool} {du : Nat} (hO : tOk T) (hst : st < 30) (h : djk T ok wt st z g op none) (hu : u < 30) (hou : op u = true) (hgu : g u = some du)
    (hmin : ∀ c d, c < 30 → op c = true → g c = some d → du ≤ d) (hop : ∀ c, op' c = (op c && !decide (c = u))) : djk T ok wt st z g op' (some u) := by
  have hp := djk_path hO hst h
  obtain ⟨h1, h2, h3, h4⟩ := h
  refine ⟨h1, h2, fun c hc ho => ?_, fun c s b d ho hne he hg => ?_⟩
  · by_cases e : c = u
    · subst e
      refine ⟨du, hgu, h1 c du hc hgu, fun d' hd' => ?_⟩
      obtain ⟨n, hn⟩ := hd'
      rcases hp n c d' hn with ⟨v, x, v1, v2, v3, v4⟩ | ⟨a1, a2, -⟩
      · have := hmin v x v1 v2 v3
        omega
      · rw [hou] at a2; cases a2
    · rw [hop c, decide_eq_false e, Bool.not_false, Bool.and_true] at ho
      exact h3 c hc ho
  · have e : ¬ c = u := fun e => hne (by rw [e])
    rw [hop c, decide_eq_false e, Bool.not_false, Bool.and_true] at ho
    exact h4 c s b d ho (by intro h; cases h) he hg
/-- nothing open is in reach: all is known -/
theorem djk_end {T : XT} {ok : Nat → Nat → Bool} {wt : Nat → Nat → Nat} {st z : Nat} {g : Nat → Option Nat} {op : Nat → Bool} (h : djk T ok wt st z g op none) (hno : ∀ c, c < 30 → op c = true → g c = none) {b : Nat} (hb : b < 30) :
    resD T ok wt st z b (match g b with
      | some d => Int32.ofNat d
      | none => -2) := by
  obtain ⟨h1, h2, h3, h4⟩ := h
  refine fix_res h1 h2 (fun a s b d he hg => ?_) hb
  refine h4 a s b d ?_ (by intro h; cases h) he hg
  cases ho : op a with
  | false => rfl
  | true => rw [hno a he.1 ho] at hg; cases hg
/-- a step from the one that was closed -/
theorem djk_relax {T : XT} {ok : Nat → Nat → Bool} {wt : Nat → Nat → Nat} {st z u : Nat} {g : Nat → Option Nat} {op : Nat → Bool} (h : djk T ok wt st z g op (some u)) {s b du : Nat} (hu : u < 30) (hou : op u = false) (hgu : g u = some du) (he : eg T ok u s b) (e : Nat)
    (hmin : e = match g b with
      | some x => if du + wt u s < x then du + wt u s else x
      | none => du + wt u s) : djk T ok wt st z (updO g b (some e)) op (some u) := by
  obtain ⟨h1, ⟨d0, h2, h2'⟩, h3, h4⟩ := h
  have hpb : pP T ok wt st z b (du + wt u s) := by
    obtain ⟨n, hn⟩ := h1 u du hu hgu
    exact ⟨n + 1, u, s, du, hn, he, rfl⟩
  have hle : ∀ x, g b = some x → e ≤ x ∧ (e = x ∨ e = du + wt u s) := by
    intro x hx
    rw [hx] at hmin
    have hmin : e = if du + wt u s < x then du + wt u s else x := hmin
    split at hmin <;> omega
  have hpe : pP T ok wt st z b e ∨ b ≥ 30 := by
    by_cases hb30 : b < 30
    · left
      cases hg : g b with
      | none =>
        rw [hg] at hmin
        have : e = du + wt u s := hmin
        rw [this]; exact hpb
      | some x =>
        rcases (hle x hg).2 with k | k
        · rw [k]; exact h1 b x hb30 hg
        · rw [k]; exact hpb
    · right; omega
  have hup : ∀ a d, g a = some d → ∃ e', updO g b (some e) a = some e' ∧ e' ≤ d := by
    intro a d hg
    unfold updO
    by_cases hab : a = b
    · rw [if_pos hab]
      rw [hab] at hg
      exact ⟨e, rfl, (hle d hg).1⟩
    · rw [if_neg hab]
      exact ⟨d, hg, Nat.le_refl d⟩
  refine ⟨fun a d ha hg => ?_, ?_, fun c hc ho => ?_, fun c s' b' d ho hne he' hg => ?_⟩
  · unfold updO at hg
    by_cases hab : a = b
    · rw [if_pos hab] at hg
      cases hg
      rw [hab]
      rcases hpe with k | k
      · exact k
      · omega
    · rw [if_neg hab] at hg
      exact h1 a d ha hg
  · obtain ⟨e', x1, x2⟩ := hup st d0 h2
    exact ⟨e', x1, by omega⟩
  · obtain ⟨d, x1, x2⟩ := h3 c hc ho
    obtain ⟨e', y1, y2⟩ := hup c d x1
    refine ⟨e', y1, ?_⟩
    have hge : d ≤ e' := by
      unfold updO at y1
      by_cases hcb : c = b
      · rw [if_pos hcb] at y1
        cases y1
        rcases hpe with k | k
        · rw [hcb] at x2; exact x2.2 _ k
        · omega
      · rw [if_neg hcb, x1] at y1
        cases y1
        exact Nat.le_refl _
    rw [show e' = d by omega]
    exact x2
  · have hcu : ¬ c = u := fun e => hne (by rw [e])
    -- c is closed and was relaxed; its sum is the least, so it did not fall
    have hc30 := he'.1
    obtain ⟨d1, x1, x2⟩ := h3 c hc30 ho
    have hd : d = d1 := by
      obtain ⟨e', y1, y2⟩ := hup c d1 x1
      rw [hg] at y1
      cases y1
      have : d1 ≤ d := by
        unfold updO at hg
        by_cases hcb : c = b
        · rw [if_pos hcb] at hg
          cases hg
          rcases hpe with k | k
          · rw [hcb] at x2; exact x2.2 _ k
          · omega
        · rw [if_neg hcb, x1] at hg
          cases hg
          exact Nat.le_refl _
      omega
    subst hd
    obtain ⟨x, z1, z2⟩ := h4 c s' b' d ho hne he' x1
    obtain ⟨e', y1, y2⟩ := hup b' x z1
    exact ⟨e', y1, by omega⟩
theorem djk_done {T : XT} {ok : Nat → Nat → Bool} {wt : Nat → Nat → Nat} {st z u : Nat} {g : Nat → Option Nat} {op : Nat → Bool} (h : djk T ok wt st z g op (some u)) (hr : ∀ s b d, eg T ok u s b → g u = some d → ∃ e, g b = some e ∧ e ≤ d + wt u s) : djk T ok wt st z g op none := by
  obtain ⟨h1, h2, h3, h4⟩ := h
  refine ⟨h1, h2, h3, fun c s b d ho _ he hg => ?_⟩
  by_cases e : c = u
  · subst e
    exact hr s b d he hg
  · exact h4 c s b d ho (fun h => e (by cases h; rfl)) he hg
theorem djk_start {T : XT} {ok : Nat → Nat → Bool} {wt : Nat → Nat → Nat} {st z : Nat} (hst : st < 30) : djk T ok wt st z (updO (fun _ => none) st (some z)) (fun _ => true) none := by
  refine ⟨fun a d ha hg => ?_, ⟨z, by simp [updO], Nat.le_refl z⟩, fun c _ ho => absurd (show true = false from ho) (by decide), fun c s b d ho => absurd (show true = false from ho) (by decide)⟩
  unfold updO at hg
  by_cases e : a = st
  · rw [if_pos e] at hg
    cases hg
    exact ⟨0, e, rfl⟩
  · rw [if_neg e] at hg
    cases hg
/-! the class's rows -/
def sE (o : Option Nat) : Int32 := match o with
  | some d => Int32.ofNat d
  | none => 1000000
theorem uN_xor {x y : Int32} : uN (x ^^^ y) = uN x ^^^ uN y := BitVec.toNat_xor x.toBitVec y.toBitVec
theorem bit_clr {m u : Nat} (hm : m < 1073741824) (hu : u < 30) : (Int32.ofNat m &&& ((1 <<< (Int32.ofNat u &&& 31)) ^^^ (-1))) = Int32.ofNat (m &&& (2 ^ u ^^^ 4294967295)) := by
  rw [nk_shl (by omega)]
  have h2 : 2 ^ u < 2 ^ 30 := Nat.pow_lt_pow_right (by omega) hu
  have h3 : m &&& (2 ^ u ^^^ 4294967295) ≤ m := Nat.and_le_left
  apply uN_inj
  rw [uN_and, uN_xor, uN_nat (by omega), uN_nat (by omega), uN_nat (by omega)]
  rfl
theorem clr_tb {m u c : Nat} (hc : c < 30) : (m &&& (2 ^ u ^^^ 4294967295)).testBit c = (m.testBit c && !decide (c = u)) := by
  rw [Nat.testBit_and, Nat.testBit_xor, Nat.testBit_two_pow, show 4294967295 = 2 ^ 32 - 1 from rfl, Nat.testBit_two_pow_sub_one, decide_eq_true (show c < 32 by omega)]
  by_cases e : c = u
  · rw [decide_eq_true e, decide_eq_true e.symm]; rfl
  · rw [decide_eq_false e, decide_eq_false (fun h => e h.symm)]; rfl
def sc34 (o j : Nat) : Bool := Nat.beq o 34 || (Nat.beq o 33 && Nat.beq j 4)
/-- rows of the class: sums below a bound, open ones -/
def djR (g : Nat → Option Nat) (op : Nat → Bool) (I : XI) : Prop := (∀ a, a < 30 → I 34 a = sE (g a)) ∧ ∃ m, I 33 4 = Int32.ofNat m ∧ m < 1073741824 ∧ ∀ c, c < 30 → m.testBit c = op c
def gB (g : Nat → Option Nat) (B : Nat) : Prop := ∀ a d, a < 30 → g a = some d → d ≤ B
theorem c_closeNearest {F : Nat} (hF : 4000000 ≤ F) {g : Nat → Option Nat} {op : Nat → Bool} {B : Nat} {I : XI} (hR : djR g op I) (hB : gB g B) (hB2 : B < 500000) : xOk (f_Paths_closeNearest F I) (fun r => (r = (-1, I) ∧ ∀ c, c < 30 → op c = true → g c = none) ∨
    (∃ u du, u < 30 ∧ op u = true ∧ g u = some du ∧ (∀ c d, c < 30 → op c = true → g c = some d → du ≤ d) ∧ r.1 = Int32.ofNat u ∧ djR g (fun c => op c && !decide (c = u)) r.2 ∧ Same sc34 I r.2)) := by
  obtain ⟨h1, m, h2, h3, h4⟩ := hR
  unfold f_Paths_closeNearest
  refine xloop 30 (fun n (o : Option Nat) k => f_Paths_closeNearest_4 F n (oi o) (Int32.ofNat k) I) (fun k o => (o = none ∧ ∀ c, c < k → op c = true → g c = none) ∨ ∃ u du, o = some u ∧ u < k ∧ op u = true ∧ g u = some du ∧ ∀ c d, c < k → op c = true → g c = some d → du ≤ d) ?_ ?_ F none 0 (by omega) (by omega) (Or.inl ⟨rfl, fun c hc => absurd hc (by omega)⟩)
  · intro n o k hk hP ih
    show xOk (f_Paths_closeNearest_4 F (n + 1) _ _ _) _
    rw [f_Paths_closeNearest_4]
    refine xOk.neg (nk_nge hk (by decide)) ?_
    rw [h2, bit_get (by omega) (by omega), h4 k hk, nk_succ]
    have skip : (op k = true → g k = none) → xOk (f_Paths_closeNearest_4 F n (oi o) (Int32.ofNat (k + 1)) I) (fun r => (r = (-1, I) ∧ ∀ c, c < 30 → op c = true → g c = none) ∨ (∃ u du, u < 30 ∧ op u = true ∧ g u = some du ∧ (∀ c d, c < 30 → op c = true → g c = some d → du ≤ d) ∧ r.1 = Int32.ofNat u ∧ djR g (fun c => op c && !decide (c = u)) r.2 ∧ Same sc34 I r.2)) := by
      intro hsk
      refine ih o ?_
      rcases hP with ⟨p1, p2⟩ | ⟨u, du, p1, p2, p3, p4, p5⟩
      · refine Or.inl ⟨p1, fun c hc ho => ?_⟩
        by_cases e : c = k
        · rw [e]; exact hsk (by rw [← e]; exact ho)
        · exact p2 c (by omega) ho
      · refine Or.inr ⟨u, du, p1, by omega, p3, p4, fun c d hc ho hg => ?_⟩
        by_cases e : c = k
        · rw [e] at ho hg; rw [hsk ho] at hg; cases hg
        · exact p5 c d (by omega) ho hg
    cases ho : op k with
    | false => exact xOk.neg (by decide) (skip (fun h => by rw [ho] at h; cases h))
    | true =>
      refine xOk.pos rfl (xOk.ck (nk_in hk (by omega)) ?_)
      simp only [show xN (Int32.ofNat k) = k from nk_N (by omega), h1 k hk]
      cases hg : g k with
      | none => exact xOk.pos rfl (skip (fun _ => hg))
      | some d =>
        have hd := hB k d hk hg
        refine xOk.neg (show ¬ Int32.ofNat d = 1000000 from by rw [show (1000000 : Int32) = Int32.ofNat 1000000 from rfl, nk_eq (by omega) (by omega)]; omega) ?_
        rcases hP with ⟨p1, p2⟩ | ⟨u, du, p1, p2, p3, p4, p5⟩
        · rw [p1]
          refine xOk.pos rfl (ih (some k) (Or.inr ⟨k, d, rfl, by omega, ho, hg, fun c d' hc ho' hg' => ?_⟩))
          by_cases e : c = k
          · rw [e, hg] at hg'
            cases hg'
            exact Nat.le_refl _
          · rw [p2 c (by omega) ho'] at hg'; cases hg'
        · rw [p1]
          have hu30 : u < 30 := by omega
          have hdu := hB u du hu30 p4
          refine xOk.neg (oi_nm1 hu30) (xOk.ck (nk_in hk (by omega)) (xOk.ck (nk_in hu30 (by omega)) ?_))
          simp only [oi, show xN (Int32.ofNat u) = u from nk_N (by omega), h1 u hu30, p4]
          by_cases hlt : du ≤ d
          · rw [if_pos (show sE (some du) ≤ sE (some d) from nk_le_t hlt (by omega))]
            refine ih (some u) (Or.inr ⟨u, du, rfl, by omega, p3, p4, fun c d' hc ho' hg' => ?_⟩)
            by_cases e : c = k
            · rw [e, hg] at hg'
              cases hg'
              exact hlt
            · exact p5 c d' (by omega) ho' hg'
          · rw [if_neg (show ¬ sE (some du) ≤ sE (some d) from nk_nge (by omega) (by omega))]
            refine ih (some k) (Or.inr ⟨k, d, rfl, by omega, ho, hg, fun c d' hc ho' hg' => ?_⟩)
            by_cases e : c = k
            · rw [e, hg] at hg'
              cases hg'
              exact Nat.le_refl _
            · have := p5 c d' (by omega) ho' hg'
              omega
  · intro n o hP
    show xOk (f_Paths_closeNearest_4 F (n + 1) _ _ _) _
    rw [f_Paths_closeNearest_4]
    refine xOk.pos (by decide) ?_
    rcases hP with ⟨p1, p2⟩ | ⟨u, du, p1, p2, p3, p4, p5⟩
    · rw [p1]
      exact xOk.pos rfl (xOk.pur (Or.inl ⟨rfl, p2⟩))
    · rw [p1]
      refine xOk.neg (oi_nm1 p2) (xOk.st (xOk.pur (Or.inr ⟨u, du, p2, p3, p4, p5, rfl, ⟨fun a ha => ?_, m &&& (2 ^ u ^^^ 4294967295), ?_, ?_, fun c hc => ?_⟩, Same.put rfl⟩)))
      · show xput I 33 4 (I 33 4 &&& ((1 <<< (Int32.ofNat u &&& 31)) ^^^ (-1))) 34 a = _
        rw [xput_neo (by omega)]; exact h1 a ha
      · show xput I 33 4 (I 33 4 &&& ((1 <<< (Int32.ofNat u &&& 31)) ^^^ (-1))) 33 4 = _
        rw [xput_eq, h2, bit_clr h3 p2]
      · exact Nat.lt_of_le_of_lt Nat.and_le_left h3
      · rw [clr_tb hc, h4 c hc]
