/-! far: the class -/
theorem heldx_nat {v : Int32} : ∃ w, w ≤ 99 ∧ heldx v 1 99 = Int32.ofNat w := by
  unfold heldx
  by_cases h1 : (1 : Int32) ≤ v
  · by_cases h2 : v ≤ 99
    · rw [if_pos h1, if_pos h2]
      refine rng_ex (n := 99) (by omega) ?_
      unfold rng
      rw [decide_eq_true (Int32.le_trans (show (0 : Int32) ≤ 1 by decide) h1), decide_eq_true (show v ≤ Int32.ofNat 99 from h2)]
      rfl
    · rw [if_pos h1, if_neg h2]
      exact ⟨99, by omega, rfl⟩
  · rw [if_neg h1]
    exact ⟨1, by omega, rfl⟩
def wtF (V : XV) (T : XT) (d : Int32) (a s : Nat) : Nat := match nb T a s with
  | some b => xN (sWays V T d a b s)
  | none => 0
theorem wtF_eq {V : XV} {T : XT} {d : Int32} {a b s : Nat} (hn : nb T a s = some b) : sWays V T d a b s = Int32.ofNat (wtF V T d a s) ∧ wtF V T d a s ≤ 99 := by
  obtain ⟨w, h1, h2⟩ := heldx_nat (v := V 0 (vp 8 (Int32.ofNat s) (vp 5 (b2 (sameB T a b)) (vxy T d a))))
  have e : sWays V T d a b s = Int32.ofNat w := h2
  unfold wtF
  rw [hn]
  show sWays V T d a b s = Int32.ofNat (xN (sWays V T d a b s)) ∧ xN (sWays V T d a b s) ≤ 99
  rw [e, nk_N (by omega)]
  exact ⟨rfl, h1⟩
theorem c_far_end {F : Nat} {T : XT} {ok : Nat → Nat → Bool} {wt : Nat → Nat → Nat} {st z : Nat} {I0 : XI} {at_ : Option Nat} {k : Nat} {J : XI} (h : dI T ok wt st z I0 at_ k J) (hz : z ≤ 1) (hk : k ≤ 30) {t : Nat} (ht : t < 30) (ha : at_ = none ∨ at_ = some t) : xOk (f_Paths_leastWays_137 F 26 (Int32.ofNat t) J) (fun r => r.1 = qD T ok wt st z t ∧ Same scH I0 r.2) := by
  obtain ⟨o, o1, o2, o3⟩ := dI_end h ht ha
  have hs : Same scH I0 J := h.choose_spec.choose_spec.2.2.2.2.2.2
  unfold f_Paths_leastWays_137
  refine xOk.ck (nk_in ht (by omega)) ?_
  rw [nk_N (by omega), o1]
  cases o with
  | none => exact xOk.pos rfl (xOk.pur ⟨qD_eq o3, hs⟩)
  | some d =>
    have hd := o2 d rfl
    refine xOk.neg (show ¬ Int32.ofNat d = Int32.ofNat 1000000 from by rw [nk_eq (by omega) (by omega)]; omega) (xOk.ck (nk_in ht (by omega)) (xOk.pur ⟨qD_eq o3, hs⟩))
theorem dI_first {T : XT} {ok : Nat → Nat → Bool} {wt : Nat → Nat → Nat} {st z : Nat} (hst : st < 30) {F : Nat} (hF : 4000000 ≤ F) (hO : tOk T) (hz : z ≤ 1) {I : XI} : xOk ((f_Paths_start F (Int32.ofNat st) (Int32.ofNat z) I).bind fun q3 => f_Paths_closeNearest F q3) (fun r => ∃ at_, r.1 = oi at_ ∧ dI T ok wt st z I at_ 0 r.2) := by
  refine (c_start hF hst).bnd (fun J hJ => ?_)
  refine dI_close hF hO hst hz (by omega) (djk_start hst) hJ.1 (fun a d ha hg => ?_) (cnt_pos.mpr (fun c hc => rfl)) hJ.2
  unfold updO at hg
  by_cases e : a = st
  · rw [if_pos e] at hg; cases hg; omega
  · rw [if_neg e] at hg; cases hg
theorem dI_30 {T : XT} {ok : Nat → Nat → Bool} {wt : Nat → Nat → Nat} {st z : Nat} {I0 : XI} {at_ : Option Nat} {J : XI} (h : dI T ok wt st z I0 at_ 30 J) : at_ = none := by
  obtain ⟨g, op, h1, h2, h3, h4, -⟩ := h
  have := cnt_le (fun c => !op c) 30
  cases at_ with
  | none => rfl
  | some u =>
    have h4 : cnt (fun c => !op c) 30 = 30 + 1 := h4
    omega
theorem dI_lt {T : XT} {ok : Nat → Nat → Bool} {wt : Nat → Nat → Nat} {st z : Nat} {I0 : XI} {u k : Nat} {J : XI} (h : dI T ok wt st z I0 (some u) k J) : u < 30 := by
  obtain ⟨g, op, h1, h2, h3, h4, h5, -⟩ := h
  exact (h5 u rfl).1
theorem dS_same {T : XT} {ok : Nat → Nat → Bool} {wt : Nat → Nat → Nat} {st z : Nat} {I0 : XI} {u k s : Nat} {J : XI} (h : dS T ok wt st z I0 u k s J) : Same scH I0 J := by
  obtain ⟨g, op, du, h1, h2, h3, h4, h5, h6, h7⟩ := h
  exact h7
theorem c_leastWays {F : Nat} (hF : 4000000 ≤ F) {lv : Nat} {V : XV} {T : XT} {W : Nat → Int32} {I : XI} (hL : lawR F lv V I) (hT : tbC 17 T I) (hO : tOk T) (hW : wfW T W) (hI : I 27 = W) {a t : Nat} (ha : a < 30) (hia : inT T a = true) (ht : t < 30) : xOk (f_Paths_leastWays F 26 (Int32.ofNat a) (Int32.ofNat t) I) (fun r => r.1 = qD T (lnk T W) (wtF V T (I 26 1)) a 0 t ∧ Same scH I r.2) := by
  unfold f_Paths_leastWays
  have h0 := dI_first (T := T) (ok := lnk T W) (wt := wtF V T (I 26 1)) (z := 0) ha hF hO (by omega) (I := I)
  obtain ⟨q, hq, hP⟩ := h0
  have key : ∀ r : Int32 × XI, (∃ at_, r.1 = oi at_ ∧ dI T (lnk T W) (wtF V T (I 26 1)) a 0 I at_ 0 r.2) → xOk (f_Paths_leastWays_15 F 26 F (Int32.ofNat t) r.1 0 r.2) (fun r => r.1 = qD T (lnk T W) (wtF V T (I 26 1)) a 0 t ∧ Same scH I r.2) := by
    rintro r ⟨at_, e, hd⟩
    rw [e]
    refine xloop 30 (fun n (s : Option Nat × XI) k => f_Paths_leastWays_15 F 26 n (Int32.ofNat t) (oi s.1) (Int32.ofNat k) s.2) (fun k s => dI T (lnk T W) (wtF V T (I 26 1)) a 0 I s.1 k s.2) ?_ ?_ F (at_, r.2) 0 (by omega) (by omega) hd
    · rintro n ⟨at_, J⟩ k hk hP ih
      have hP : dI T (lnk T W) (wtF V T (I 26 1)) a 0 I at_ k J := hP
      show xOk (f_Paths_leastWays_15 F 26 (n + 1) (Int32.ofNat t) (oi at_) (Int32.ofNat k) J) _
      rw [f_Paths_leastWays_15]
      refine xOk.neg (nk_nge hk (by decide)) ?_
      cases at_ with
      | none => exact xOk.pos rfl (c_far_end hP (by omega) (by omega) ht (Or.inl rfl))
      | some u =>
        have hu := dI_lt hP
        refine xOk.neg (oi_nm1 hu) ?_
        by_cases hut : u = t
        · subst hut
          exact xOk.pos rfl (c_far_end hP (by omega) (by omega) ht (Or.inr rfl))
        · refine xOk.neg (show ¬ Int32.ofNat u = Int32.ofNat t from by rw [nk_eq (by omega) (by omega)]; exact hut) ?_
          refine xloop 4 (fun m (K : XI) s => f_Paths_leastWays_37 F 26 (fun v3 v4 v5 I => f_Paths_leastWays_15 F 26 n v3 v4 v5 I) m (Int32.ofNat t) (Int32.ofNat u) (Int32.ofNat k) (Int32.ofNat s) K) (fun s K => dS T (lnk T W) (wtF V T (I 26 1)) a 0 I u k s K) ?_ ?_ F J 0 (by omega) (by omega) (dS_start hP)
          · intro m K s hs hd ih2
            have hd : dS T (lnk T W) (wtF V T (I 26 1)) a 0 I u k s K := hd
            have hK := dS_same hd
            have hiu := (dS_in hO ha hia hd).2
            have hTK := tbC_X hT hK.HX
            show xOk (f_Paths_leastWays_37 F 26 _ (m + 1) (Int32.ofNat t) (Int32.ofNat u) (Int32.ofNat k) (Int32.ofNat s) K) _
            rw [f_Paths_leastWays_37, nk_succ k, nk_succ s]
            refine xOk.neg (nk_nge hs (by decide)) (xOk.bnde (c_beside hTK hO hu s hs) ?_)
            cases hn : nb T u s with
            | none =>
              exact xOk.pos rfl (ih2 K (dS_skip hd (fun b he => by have := he.2.2.1; rw [hn] at this; cases this)))
            | some b =>
              have hb := nb_lt hO hu s hs b hn
              have hIK : K 27 = W := by rw [hK.row 27 (fun _ => rfl)]; exact hI
              simp only [oi]
              refine xOk.neg (oi_nm1 hb) (xOk.bnde (c_linked hTK hO hW hIK hu hs) ?_)
              cases hl : lnk T W u s with
              | false =>
                exact xOk.pos rfl (ih2 K (dS_skip hd (fun b he => by have := he.2.2.2; rw [hl] at this; cases this)))
              | true =>
                refine xOk.neg (by decide) (xOk.ck (nk_in hb (by omega)) (xOk.ck (nk_in hu (by omega)) ?_))
                refine (c_ways hF (lawR_X hL hK.HX) hTK hO hu hiu hb (d := K 26 1)).bnd (fun r hr => xOk.ck (nk_in hb (by omega)) (xOk.st (ih2 _ ?_)))
                obtain ⟨w1, w2⟩ := wtF_eq (V := V) (d := I 26 1) hn
                have e1 : r.1 = Int32.ofNat (wtF V T (I 26 1) u s) := by rw [hr.1, hK 26 1 rfl, w1]
                rw [e1]
                simp only [show xN (Int32.ofNat b) = b from nk_N (by omega), show xN (Int32.ofNat u) = u from nk_N (by omega)]
                exact dS_step (by omega) hk hO hd ⟨hu, hs, hn, hl⟩ w2 hr.2
          · intro m K hd
            show xOk (f_Paths_leastWays_37 F 26 _ (m + 1) (Int32.ofNat t) (Int32.ofNat u) (Int32.ofNat k) (Int32.ofNat 4) K) _
            rw [f_Paths_leastWays_37, nk_succ k]
            refine xOk.pos (Int32.le_refl _) ((dS_done hF hO ha (by omega) hk hd).bnd (fun r hr => ?_))
            obtain ⟨at', e', hd'⟩ := hr
            rw [e']
            exact ih (at', r.2) hd'
    · rintro n ⟨at_, J⟩ hP
      have hP : dI T (lnk T W) (wtF V T (I 26 1)) a 0 I at_ 30 J := hP
      show xOk (f_Paths_leastWays_15 F 26 (n + 1) (Int32.ofNat t) (oi at_) (Int32.ofNat 30) J) _
      rw [f_Paths_leastWays_15]
      exact xOk.pos (Int32.le_refl _) (c_far_end hP (by omega) (by omega) ht (Or.inl (dI_30 hP)))
  cases hs : f_Paths_start F (Int32.ofNat a) 0 I with
  | none =>
    rw [show (Int32.ofNat 0) = 0 from rfl, hs] at hq
    cases hq
  | some J =>
    rw [show (Int32.ofNat 0) = 0 from rfl, hs] at hq
    have hq : f_Paths_closeNearest F J = some q := hq
    show xOk ((f_Paths_closeNearest F J).bind fun q2 => f_Paths_leastWays_15 F 26 F (Int32.ofNat t) q2.1 0 q2.2) _
    rw [hq]
    exact key q hP
noncomputable def qFar (V : XV) (T : XT) (W : Nat → Int32) (d x y p q : Int32) : Int32 := if inC T x y = true ∧ inC T p q = true then (if lie W (6 * xN y + xN x) = true ∧ lie W (6 * xN q + xN p) = true then qD T (lnk T W) (wtF V T d) (6 * xN y + xN x) 0 (6 * xN q + xN p) else -2) else -1
theorem h_far {F : Nat} (hF : 4000000 ≤ F) {lv : Nat} {V : XV} {T : XT} {W : Nat → Int32} {I : XI} (hX : wfull F lv V T W I) {x y p q : Int32} : xOk (f_H_far F x y p q I) (fun r => r.1 = qFar V T W (I 26 1) x y p q ∧ Same scH I r.2) := by
  obtain ⟨hC, hL⟩ := hX
  obtain ⟨⟨hO, -, -⟩, ⟨hT, hM⟩, ⟨h4, hW, h6⟩, -, -⟩ := hC
  unfold f_H_far qFar
  rcases cellCases hO x y with hc | ⟨a, ha, hi, hc, rfl, rfl⟩
  · refine xOk.bnde (c_cellAt_out hT hO hc) ?_
    have : xOk (f_Table_cellAt 17 I p q) (fun _ => True) := by
      rcases cellCases hO p q with hc' | ⟨b, hb, hib, hc', rfl, rfl⟩
      · exact xOk.of (c_cellAt_out hT hO hc') trivial
      · exact xOk.of (c_cellAt_in hT hO hb hib) trivial
    refine this.bnd (fun v _ => xOk.pos rfl (xOk.pur ⟨?_, Same.rfl⟩))
    rw [hc, if_neg (show ¬ (false = true ∧ _) by intro h; cases h.1)]
  · refine xOk.bnde (c_cellAt_in hT hO ha hi) ?_
    rw [hc, cell_N ha]
    rcases cellCases hO p q with hc' | ⟨b, hb, hib, hc', rfl, rfl⟩
    · refine xOk.bnde (c_cellAt_out hT hO hc') (xOk.neg (oi_nm1 ha) (xOk.pos rfl (xOk.pur ⟨?_, Same.rfl⟩)))
      rw [hc', if_neg (show ¬ (true = true ∧ false = true) by decide)]
    · refine xOk.bnde (c_cellAt_in hT hO hb hib) (xOk.neg (oi_nm1 ha) (xOk.neg (oi_nm1 hb) ?_))
      rw [hc', cell_N hb, if_pos (show true = true ∧ true = true from ⟨rfl, rfl⟩)]
      refine xOk.bnde (c_lies ha) ?_
      rw [show I (26 + 1) = W from h4]
      cases hl : lie W a with
      | false =>
        refine xOk.pos rfl (xOk.pur ⟨?_, Same.rfl⟩)
        rw [if_neg (show ¬ (false = true ∧ _) by intro h; cases h.1)]
      | true =>
        refine xOk.neg (by decide) (xOk.bnde (c_lies hb) ?_)
        rw [show I (26 + 1) = W from h4]
        cases hl' : lie W b with
        | false =>
          refine xOk.pos rfl (xOk.pur ⟨?_, Same.rfl⟩)
          rw [if_neg (show ¬ (true = true ∧ false = true) by decide)]
        | true =>
          rw [if_pos (show true = true ∧ true = true from ⟨rfl, rfl⟩)]
          refine xOk.neg (by decide) ((c_leastWays hF hL hT hO hW h4 ha hi hb).bnd (fun r hr => xOk.pur hr))
