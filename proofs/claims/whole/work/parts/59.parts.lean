/-! the reference's labels, against the class's groups -/
def sm (g : Nat → Nat) : Nat → Nat
  | 0 => 0
  | n + 1 => sm g n + g n
theorem sm_congr {g h : Nat → Nat} {N : Nat} (e : ∀ k, k < N → g k = h k) : sm g N = sm h N := by
  induction N with
  | zero => rfl
  | succ n ih =>
    unfold sm
    rw [ih (fun k hk => e k (by omega)), e n (by omega)]
theorem sm_bound {g : Nat → Nat} {N b : Nat} (h : ∀ k, k < N → g k ≤ b) : sm g N ≤ N * b := by
  induction N with
  | zero => simp [sm]
  | succ n ih =>
    unfold sm
    have := ih (fun k hk => h k (by omega))
    have := h n (by omega)
    rw [Nat.succ_mul]
    omega
theorem sm_dec {g h : Nat → Nat} {N a : Nat} (ha : a < N) (hlt : h a < g a) (he : ∀ k, k < N → k ≠ a → h k = g k) : sm h N + 1 ≤ sm g N := by
  induction N with
  | zero => omega
  | succ n ih =>
    unfold sm
    by_cases e : a = n
    · subst e
      rw [sm_congr (h := g) (fun k hk => he k (by omega) (by omega))]
      omega
    · have := ih (by omega) (fun k hk => he k (by omega))
      rw [he n (by omega) (by omega)]
      omega
def ov (o : Option Nat) : Nat := match o with
  | some c => c
  | none => 0
/-- labels: of what lies, one of its own group, not above it -/
def lbOk (T : XT) (W : Nat → Int32) (l : Int32) (f : Nat → Option Nat) : Prop := ∀ a, a < 30 → (lo T W l a = false → f a = none) ∧ (lo T W l a = true → ∃ c, f a = some c ∧ c ≤ a ∧ con T W l a c)
def lab (f : Nat → Option Nat) (J : XI) : Prop := ∀ a, a < 30 → J 164 a = oi (f a)
def stab (T : XT) (W : Nat → Int32) (f : Nat → Option Nat) (a s : Nat) : Prop := ∀ b c d, nb T a s = some b → lnk T W a s = true → f a = some c → f b = some d → c ≤ d
def sc164 (o j : Nat) : Bool := Nat.beq o 164 || (Nat.beq o 131 && Nat.beq j 52)
theorem sc164_M {o j : Nat} (h : scM o j = false) : sc164 o j = false := by
  unfold scM at h
  unfold sc164
  cases h1 : Nat.beq o 164 <;> cases h2 : Nat.beq o 131 <;> cases h3 : Nat.beq j 52 <;> simp_all
theorem lbOk_lt {T : XT} {W : Nat → Int32} {l : Int32} {f : Nat → Option Nat} (h : lbOk T W l f) {a c : Nat} (ha : a < 30) (hc : f a = some c) : c ≤ a ∧ lo T W l a = true ∧ con T W l a c := by
  have h1 := h a ha
  cases hl : lo T W l a with
  | false => rw [h1.1 hl] at hc; cases hc
  | true =>
    obtain ⟨d, x1, x2, x3⟩ := h1.2 hl
    rw [x1] at hc
    cases hc
    exact ⟨x2, rfl, x3⟩
theorem oi_neg {o : Option Nat} (h : ∀ c, o = some c → c < 30) : (oi o < 0) = (o = none) := by
  cases o with
  | none => simp [oi]
  | some c =>
    have := h c rfl
    unfold oi
    rw [nk_neg (by omega)]
    simp
theorem oi_lt {c d : Nat} (hc : c < 30) (hd : d < 30) : (oi (some c) < oi (some d)) = (c < d) := nk_lt (by omega) (by omega)
/-- a new label -/
def updO (f : Nat → Option Nat) (a : Nat) (o : Option Nat) : Nat → Option Nat := fun k => if k = a then o else f k
def swp (T : XT) (W : Nat → Int32) (l : Int32) (f0 f : Nat → Option Nat) (ch : Bool) (J0 J : XI) : Prop := lbOk T W l f ∧ lab f J ∧ Same sc164 J0 J ∧ sm (fun a => ov (f a)) 30 + (if ch = true then 1 else 0) ≤ sm (fun a => ov (f0 a)) 30 ∧ (ch = false → f = f0)
def mini (T : XT) (W : Nat → Int32) (l : Int32) (f : Nat → Option Nat) : Prop := lbOk T W l f ∧ ∀ a b, a < 30 → b < 30 → lo T W l a = true → con T W l a b → f a = f b
theorem mini_of {T : XT} {W : Nat → Int32} {l : Int32} {f : Nat → Option Nat} (hO : tOk T) (hW : wfW T W) (h : lbOk T W l f) (hs : ∀ a, a < 30 → ∀ s, s < 4 → stab T W f a s) : mini T W l f := by
  refine ⟨h, ?_⟩
  have one : ∀ a b, jn T W l a b → ∀ c d, f a = some c → f b = some d → c ≤ d := by
    intro a b hj c d hc hd
    obtain ⟨⟨h1, h2⟩, ⟨h3, h4⟩, s, h5, h6, h7⟩ := hj
    exact hs a h1 s h5 b c d h6 h7 hc hd
  intro a b ha hb hl hc
  refine (rS.closed (C := fun x => x < 30 ∧ lo T W l x = true ∧ f a = f x) ?_ ⟨ha, hl, rfl⟩ hc).2.2
  intro x y hx hr
  have hr' := jn_symm hO hW x y hr
  refine ⟨hr.1.2, hr.2.1.2, ?_⟩
  rw [hx.2.2]
  obtain ⟨c, c1, c2, c3⟩ := (h x hr.1.1).2 hr.2.1.1
  obtain ⟨d, d1, d2, d3⟩ := (h y hr.1.2).2 hr.2.1.2
  have e1 := one x y hr c d c1 d1
  have e2 := one y x hr' d c d1 c1
  rw [c1, d1, show c = d by omega]
def repB (f : Nat → Option Nat) (a : Nat) : Bool := decide (f a = some a)
theorem m_fillsParts {F : Nat} (hF : 4000000 ≤ F) {lv : Nat} {T : XT} {W : Nat → Int32} {I : XI} (hM : tbM lv T I) (hO : tOk T) (hW : wfW T W) (hR : rowR W I) {l : Int32} :
    xOk (f_M_fillsParts F l I) (fun J => ∃ f, mini T W l f ∧ lab f J ∧ J 131 52 = Int32.ofNat (cnt (repB f) 30) ∧ Same sc164 I J) := by
  have keepM : ∀ J, Same sc164 I J → tbM lv T J := fun J hJ => tbM_X hM (hJ.mono (fun _ _ e => sc164_M (scX_M e)))
  have keepR : ∀ J, Same sc164 I J → rowR W J := fun J hJ a ha => by rw [hJ 163 a rfl]; exact hR a ha
  -- the end: how many
  have fin : ∀ f J, mini T W l f → lab f J → Same sc164 I J → ∀ n, 40 ≤ n → xOk (f_M_fillsParts_156 F n (Int32.ofNat 0) (xput J 131 52 0)) (fun J => ∃ f, mini T W l f ∧ lab f J ∧ J 131 52 = Int32.ofNat (cnt (repB f) 30) ∧ Same sc164 I J) := by
    intro f J hm hl hs n hn
    refine xloop 30 (fun n (J : XI) a => f_M_fillsParts_156 F n (Int32.ofNat a) J) (fun a J => lab f J ∧ J 131 52 = Int32.ofNat (cnt (repB f) a) ∧ Same sc164 I J) ?_ ?_ n _ 0 (by omega) (by omega) ⟨?_, ?_, ?_⟩
    · intro n J a ha hP ih
      obtain ⟨h1, h2, h3⟩ := hP
      show xOk (f_M_fillsParts_156 F (n + 1) _ _) _
      rw [f_M_fillsParts_156]
      refine xOk.neg (nk_nge ha (by decide)) ?_
      refine xOk.ck (nk_in ha (by omega)) ?_
      rw [nk_N (by omega), h1 a ha, nk_succ]
      refine xOk.ite (fun h => ?_) (fun h => ?_)
      · refine xOk.st (ih _ ⟨?_, ?_, h3.put' rfl⟩)
        · intro b hb
          rw [xput_neo (by decide)]
          exact h1 b hb
        · rw [xput_eq, h2, nk_succ, cnt_succ]
          have : repB f a = true := by
            unfold repB
            cases hf : f a with
            | none =>
              rw [hf] at h
              have h' : Int32.ofNat a = -1 := h.symm
              exact absurd h' (oi_nm1 ha)
            | some c =>
              rw [hf] at h
              have := (lbOk_lt hm.1 ha hf).1
              have : c = a := nk_inj (by omega) (by omega) h
              rw [this]
              simp
          rw [this]
          rfl
      · refine ih _ ⟨h1, ?_, h3⟩
        rw [h2, cnt_succ]
        have : repB f a = false := by
          unfold repB
          rw [decide_eq_false]
          intro e
          rw [e] at h
          exact h rfl
        rw [this]
        rfl
    · intro n J hP
      show xOk (f_M_fillsParts_156 F (n + 1) _ _) _
      rw [f_M_fillsParts_156]
      exact xOk.pos (by decide) (xOk.pur ⟨f, hm, hP⟩)
    · intro b hb
      rw [xput_neo (by decide)]
      exact hl b hb
    · rw [xput_eq]
      rfl
    · exact hs.put' rfl
  -- the sweeps
  have again : ∀ n f J ch, lbOk T W l f → lab f J → Same sc164 I J → sm (fun a => ov (f a)) 30 + (if ch = true then 1 else 0) < n → (ch = false → ∀ a, a < 30 → ∀ s, s < 4 → stab T W f a s) →
      xOk (f_M_fillsParts_36 F n (b2 ch) J) (fun J => ∃ f, mini T W l f ∧ lab f J ∧ J 131 52 = Int32.ofNat (cnt (repB f) 30) ∧ Same sc164 I J) := by
    intro n
    induction n with
    | zero => intro f J ch _ _ _ h; omega
    | succ n ihn =>
      intro f0 J0 ch0 hok0 hlab0 hs0 hn0 hst0
      rw [f_M_fillsParts_36]
      cases ch0 with
      | false => exact xOk.pos rfl (xOk.st (fin f0 J0 (mini_of hO hW hok0 (hst0 rfl)) hlab0 hs0 F (by omega)))
      | true =>
        refine xOk.neg (by decide) ?_
        refine xloop 30 (fun k (s : Bool × (Nat → Option Nat) × XI) a => f_M_fillsParts_44 F (fun v2 I => f_M_fillsParts_36 F n v2 I) k (b2 s.1) (Int32.ofNat a) s.2.2) (fun a s => swp T W l f0 s.2.1 s.1 J0 s.2.2 ∧ (s.1 = false → ∀ a', a' < a → ∀ s, s < 4 → stab T W f0 a' s)) ?_ ?_ F (false, f0, J0) 0 (by omega) (by omega) ⟨⟨hok0, hlab0, Same.rfl, by simp, fun _ => rfl⟩, fun _ a' ha' => absurd ha' (by omega)⟩
        · intro k s a ha hP ih
          obtain ⟨ch, f, J⟩ := s
          obtain ⟨hsw, hst⟩ : swp T W l f0 f ch J0 J ∧ (ch = false → ∀ a', a' < a → ∀ s, s < 4 → stab T W f0 a' s) := hP
          show xOk (f_M_fillsParts_44 F _ (k + 1) (b2 ch) (Int32.ofNat a) J) _
          rw [f_M_fillsParts_44]
          refine xOk.neg (nk_nge ha (by decide)) ?_
          refine xloop 4 (fun j (s : Bool × (Nat → Option Nat) × XI) t => f_M_fillsParts_53 F (fun v2 v3 I => f_M_fillsParts_44 F (fun v2 I => f_M_fillsParts_36 F n v2 I) k v2 v3 I) j (b2 s.1) (Int32.ofNat a) (Int32.ofNat t) s.2.2) (fun t s => swp T W l f0 s.2.1 s.1 J0 s.2.2 ∧ (s.1 = false → (∀ a', a' < a → ∀ s, s < 4 → stab T W f0 a' s) ∧ ∀ t', t' < t → stab T W f0 a t')) ?_ ?_ F (ch, f, J) 0 (by omega) (by omega) ⟨hsw, fun h => ⟨hst h, fun t' ht' => absurd ht' (by omega)⟩⟩
          · intro j s t ht hP ih2
            obtain ⟨ch, f, J⟩ := s
            obtain ⟨hsw, hst⟩ : swp T W l f0 f ch J0 J ∧ (ch = false → (∀ a', a' < a → ∀ s, s < 4 → stab T W f0 a' s) ∧ ∀ t', t' < t → stab T W f0 a t') := hP
            have hsw' := hsw
            obtain ⟨hok, hlab, hs, hsm, hff⟩ := hsw'
            have hsI := hs0.trans hs
            have hMJ := keepM J hsI
            have hRJ := keepR J hsI
            show xOk (f_M_fillsParts_53 F _ (j + 1) (b2 ch) (Int32.ofNat a) (Int32.ofNat t) J) _
            rw [f_M_fillsParts_53]
            refine xOk.neg (nk_nge ht (by decide)) ?_
            refine xOk.ck (nk_in ha (by omega)) ?_
            rw [nk_N (by omega), hlab a ha]
            have hfa : ∀ c, f a = some c → c < 30 := fun c hc => by have := (lbOk_lt hok ha hc).1; omega
            refine xOk.ite (fun h => ?_) (fun h => ?_)
            · rw [oi_neg hfa] at h
              rw [nk_succ]
              refine ih (ch, f, J) ⟨hsw, fun hc a' ha' s hs4 => ?_⟩
              by_cases e : a' = a
              · subst e
                intro b c d _ _ hc' _
                rw [← hff hc, h] at hc'
                cases hc'
              · exact (hst hc).1 a' (by omega) s hs4
            · rw [oi_neg hfa] at h
              cases hfe : f a with
              | none => exact absurd hfe h
              | some c =>
                have hlo := (lbOk_lt hok ha hfe)
                have hc30 := hfa c hfe
                have hi := lie_in hW ha (lo_lie hlo.2.1)
                refine xOk.bnde (m_joinedOver hMJ hO hW hRJ ha hi ht) ?_
                have go : (∀ b c d, nb T a t = some b → lnk T W a t = true → f a = some c → f b = some d → c ≤ d) → xOk (f_M_fillsParts_53 F (fun v2 v3 I => f_M_fillsParts_44 F (fun v2 I => f_M_fillsParts_36 F n v2 I) k v2 v3 I) j (b2 ch) (Int32.ofNat a) (Int32.ofNat t + 1) J) (fun J => ∃ f, mini T W l f ∧ lab f J ∧ J 131 52 = Int32.ofNat (cnt (repB f) 30) ∧ Same sc164 I J) := by
                  intro hgo
                  rw [nk_succ]
                  refine ih2 (ch, f, J) ⟨hsw, fun hc => ⟨(hst hc).1, fun t' ht' => ?_⟩⟩
                  by_cases e : t' = t
                  · subst e
                    rw [← hff hc]
                    exact hgo
                  · exact (hst hc).2 t' (by omega)
                cases hlk : lnk T W a t with
                | false => exact xOk.pos rfl (go (fun b c d _ h2 => by rw [hlk] at h2; cases h2))
                | true =>
                  refine xOk.neg (by decide) ?_
                  refine xOk.bnde (m_overTo hMJ hO ha hi t ht) ?_
                  cases hn : nb T a t with
                  | none =>
                    unfold lnk at hlk
                    rw [hn] at hlk
                    cases hlk
                  | some b =>
                    have hb := nb_lt hO ha t ht b hn
                    have hfb : ∀ c, f b = some c → c < 30 := fun c hc => by have := (lbOk_lt hok hb hc).1; omega
                    simp only [oi]
                    refine xOk.ck (nk_in hb (by omega)) ?_
                    simp only [show xN (Int32.ofNat b) = b from nk_N (by omega), hlab b hb]
                    refine xOk.ite (fun h1 => ?_) (fun h1 => ?_)
                    · rw [oi_neg hfb] at h1
                      refine go (fun b' c d hn' _ _ hd => ?_)
                      rw [hn] at hn'
                      cases hn'
                      rw [h1] at hd
                      cases hd
                    · rw [oi_neg hfb] at h1
                      cases hfe2 : f b with
                      | none => exact absurd hfe2 h1
                      | some d =>
                        have hd30 := hfb d hfe2
                        have hlob := (lbOk_lt hok hb hfe2)
                        refine xOk.ck (nk_in hb (by omega)) (xOk.ck (nk_in ha (by omega)) ?_)
                        refine xOk.ite (fun h2 => ?_) (fun h2 => ?_)
                        · have h2 : oi (some d) < oi (some c) := h2
                          rw [oi_lt hd30 hc30] at h2
                          refine xOk.ck (nk_in hb (by omega)) (xOk.ck (nk_in ha (by omega)) (xOk.st ?_))
                          rw [nk_succ]
                          have hjn : jn T W l a b := ⟨⟨ha, hb⟩, ⟨hlo.2.1, hlob.2.1⟩, t, ht, hn, hlk⟩
                          refine ih2 (true, updO f a (some d), xput J 164 a (oi (some d))) ⟨⟨?_, ?_, hs.put' rfl, ?_, fun h => by cases h⟩, fun h => by cases h⟩
                          · intro x hx
                            by_cases e : x = a
                            · subst e
                              refine ⟨fun h => (by rw [hlo.2.1] at h; cases h), fun _ => ⟨d, by simp [updO], by omega, ?_⟩⟩
                              exact (rS.refl.step hjn).trans hlob.2.2
                            · have : updO f a (some d) x = f x := by simp [updO, e]
                              show (lo T W l x = false → updO f a (some d) x = none) ∧ (lo T W l x = true → ∃ c, updO f a (some d) x = some c ∧ c ≤ x ∧ con T W l x c)
                              rw [this]
                              exact hok x hx
                          · intro x hx
                            simp only
                            rw [xput_at]
                            by_cases e : x = a
                            · rw [if_pos e]
                              simp [updO, e]
                            · rw [if_neg e, hlab x hx]
                              simp [updO, e]
                          · have hdec := sm_dec (g := fun a => ov (f a)) (h := fun x => ov (updO f a (some d) x)) (N := 30) ha (by simp [updO, hfe, ov]; exact h2) (fun x _ hx => by simp [updO, hx])
                            simp only [if_true]
                            split at hsm <;> omega
                        · have h2 : ¬ oi (some d) < oi (some c) := h2
                          rw [oi_lt hd30 hc30] at h2
                          refine go (fun b' c' d' hn' _ hc' hd' => ?_)
                          rw [hn] at hn'
                          cases hn'
                          rw [hfe] at hc'
                          rw [hfe2] at hd'
                          cases hc'
                          cases hd'
                          omega
          · intro j s hP
            obtain ⟨ch, f, J⟩ := s
            obtain ⟨hsw, hst⟩ : swp T W l f0 f ch J0 J ∧ (ch = false → (∀ a', a' < a → ∀ s, s < 4 → stab T W f0 a' s) ∧ ∀ t', t' < 4 → stab T W f0 a t') := hP
            show xOk (f_M_fillsParts_53 F _ (j + 1) (b2 ch) (Int32.ofNat a) (Int32.ofNat 4) J) _
            rw [f_M_fillsParts_53]
            refine xOk.pos (by decide) ?_
            rw [nk_succ]
            refine ih (ch, f, J) ⟨hsw, fun hc a' ha' s hs4 => ?_⟩
            by_cases e : a' = a
            · subst e
              exact (hst hc).2 s hs4
            · exact (hst hc).1 a' (by omega) s hs4
        · intro k s hP
          obtain ⟨ch, f, J⟩ := s
          obtain ⟨⟨hok, hlab, hs, hsm, hff⟩, hst⟩ : swp T W l f0 f ch J0 J ∧ (ch = false → ∀ a', a' < 30 → ∀ s, s < 4 → stab T W f0 a' s) := hP
          show xOk (f_M_fillsParts_44 F _ (k + 1) (b2 ch) (Int32.ofNat 30) J) _
          rw [f_M_fillsParts_44]
          refine xOk.pos (by decide) ?_
          refine ihn f J ch hok hlab (hs0.trans hs) ?_ (fun hc => by rw [hff hc]; exact hst hc)
          simp only [if_true] at hn0
          omega
  unfold f_M_fillsParts
  refine xloop 30 (fun n (J : XI) a => f_M_fillsParts_2 F n l (Int32.ofNat a) J) (fun a J => (∀ b, b < a → J 164 b = oi (if lo T W l b = true then some b else none)) ∧ Same sc164 I J) ?_ ?_ F I 0 (by omega) (by omega) ⟨fun b hb => absurd hb (by omega), Same.rfl⟩
  · intro n J a ha hP ih
    obtain ⟨h1, h2⟩ := hP
    show xOk (f_M_fillsParts_2 F (n + 1) _ _ _) _
    rw [f_M_fillsParts_2]
    refine xOk.neg (nk_nge ha (by decide)) ?_
    refine xOk.bnde (m_isOf (keepM J h2) hO hW (keepR J h2) ha) ?_
    unfold f_M_fillsParts_27
    refine xOk.ck (nk_in ha (by omega)) (xOk.st ?_)
    rw [nk_N (by omega), nk_succ]
    refine ih _ ⟨?_, h2.put' rfl⟩
    intro b hb
    rw [xput_at]
    by_cases e : b = a
    · rw [if_pos e, e]
      cases lo T W l a <;> rfl
    · rw [if_neg e]
      exact h1 b (by omega)
  · intro n J hP
    obtain ⟨h1, h2⟩ := hP
    show xOk (f_M_fillsParts_2 F (n + 1) _ _ _) _
    rw [f_M_fillsParts_2]
    refine xOk.pos (by decide) ?_
    refine again F (fun b => if lo T W l b = true then some b else none) J true ?_ h1 h2 ?_ (fun h => by cases h)
    · intro a ha
      refine ⟨fun h => by simp [h], fun h => ⟨a, by simp [h], by omega, rS.refl⟩⟩
    · have := sm_bound (g := fun a => ov (if lo T W l a = true then some a else none)) (N := 30) (b := 30) (fun k hk => by
        show ov (if lo T W l k = true then some k else none) ≤ 30
        split
        · show k ≤ 30
          omega
        · show 0 ≤ 30
          omega)
      simp only [if_true]
      omega
