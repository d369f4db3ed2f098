/-! more: the class -/
def pf (T : XT) (a s : Nat) : Bool := match nb T a s with
  | none => false
  | some b => isP T a && (isP T b && decide (tk T (4 * a + s) + tk T (4 * b + opp s) = 0))
theorem c_piecesFit {T : XT} {I : XI} (hT : tbC 17 T I) (hO : tOk T) {a s : Nat} (ha : a < 30) (hs : s < 4) : f_Table_piecesFit 17 I (Int32.ofNat a) (Int32.ofNat s) = some (b2 (pf T a s)) := by
  refine xOk.eq ?_
  unfold f_Table_piecesFit pf
  refine xOk.bnde (c_beside hT hO ha s hs) ?_
  cases hn : nb T a s with
  | none => exact xOk.pos rfl (xOk.pur rfl)
  | some b =>
    have hb := nb_lt hO ha s hs b hn
    have ho := opp_lt (s := s)
    simp only [oi]
    refine xOk.neg (oi_nm1 hb) (xOk.bnde (c_isPiece hT hO ha) ?_)
    cases h1 : isP T a with
    | false => exact xOk.pos rfl (xOk.pur rfl)
    | true =>
      refine xOk.neg (by decide) (xOk.bnde (c_isPiece hT hO hb) ?_)
      cases h2 : isP T b with
      | false => exact xOk.pos rfl (xOk.pur rfl)
      | true =>
        refine xOk.neg (by decide) ?_
        simp only [nl4, nk_mul, nk_add]
        refine xOk.ck (nk_in (show a * 4 + s < 120 by omega) (by omega)) (xOk.bnde (c_opp hs) ?_)
        simp only [nk_add]
        refine xOk.ck (nk_in (show b * 4 + opp s < 120 by omega) (by omega)) ?_
        simp only [nk_N (show a * 4 + s < 2147483648 by omega), nk_N (show b * 4 + opp s < 2147483648 by omega), show I (17 + 2) = tk T from hT.2.2.2.2.1, b2_if, b2_nar, xckT, show a * 4 + s = 4 * a + s by omega, show b * 4 + opp s = 4 * b + opp s by omega, nk_N (show 4 * a + s < 2147483648 by omega), nk_N (show 4 * b + opp s < 2147483648 by omega), Bool.true_and]
        exact xOk.pur rfl
def wtM (T : XT) (W : Nat → Int32) (a s : Nat) : Nat := match nb T a s with
  | some b => if lie W b = true then 0 else 1
  | none => 0
theorem wtM_le {T : XT} {W : Nat → Int32} {a s : Nat} : wtM T W a s ≤ 99 := by
  unfold wtM
  split
  · split <;> omega
  · omega
def zM (W : Nat → Int32) (a : Nat) : Nat := if lie W a = true then 0 else 1
theorem zM_le {W : Nat → Int32} {a : Nat} : zM W a ≤ 1 := by
  unfold zM
  split <;> omega
theorem zM_eq {W : Nat → Int32} {a : Nat} : (if b2 (lie W a) = 0 then (1 : Int32) else 0) = Int32.ofNat (zM W a) := by
  unfold zM
  cases lie W a <;> rfl
theorem wtM_eq {T : XT} {W : Nat → Int32} {a s b : Nat} (hn : nb T a s = some b) : wtM T W a s = zM W b := by
  unfold wtM zM
  rw [hn]
theorem c_fewestMore {F : Nat} (hF : 4000000 ≤ F) {T : XT} {W : Nat → Int32} {I : XI} (hT : tbC 17 T I) (hO : tOk T) (hI : I 27 = W) {a t : Nat} (ha : a < 30) (hia : inT T a = true) (ht : t < 30) : xOk (f_Paths_fewestMore F 26 (Int32.ofNat a) (Int32.ofNat t) I) (fun r => r.1 = qD T (pf T) (wtM T W) a (zM W a) t ∧ Same scH I r.2) := by
  unfold f_Paths_fewestMore
  refine xOk.bnde (c_lies ha) ?_
  rw [show I (26 + 1) = W from hI, zM_eq]
  unfold f_Paths_fewestMore_15
  have hz := zM_le (W := W) (a := a)
  have h0 := dI_first (T := T) (ok := pf T) (wt := wtM T W) (z := zM W a) ha hF hO hz (I := I)
  obtain ⟨q, hq, hP⟩ := h0
  have key : ∀ r : Int32 × XI, (∃ at_, r.1 = oi at_ ∧ dI T (pf T) (wtM T W) a (zM W a) I at_ 0 r.2) → xOk (f_Paths_fewestMore_27 F 26 F (Int32.ofNat t) r.1 0 r.2) (fun r => r.1 = qD T (pf T) (wtM T W) a (zM W a) t ∧ Same scH I r.2) := by
    rintro r ⟨at_, e, hd⟩
    rw [e]
    refine xloop 30 (fun n (s : Option Nat × XI) k => f_Paths_fewestMore_27 F 26 n (Int32.ofNat t) (oi s.1) (Int32.ofNat k) s.2) (fun k s => dI T (pf T) (wtM T W) a (zM W a) I s.1 k s.2) ?_ ?_ F (at_, r.2) 0 (by omega) (by omega) hd
    · rintro n ⟨at_, J⟩ k hk hP ih
      have hP : dI T (pf T) (wtM T W) a (zM W a) I at_ k J := hP
      show xOk (f_Paths_fewestMore_27 F 26 (n + 1) (Int32.ofNat t) (oi at_) (Int32.ofNat k) J) _
      rw [f_Paths_fewestMore_27]
      refine xOk.neg (nk_nge hk (by decide)) ?_
      cases at_ with
      | none => exact xOk.pos rfl (c_far_end (F := F) hP hz (by omega) ht (Or.inl rfl))
      | some u =>
        have hu := dI_lt hP
        refine xOk.neg (oi_nm1 hu) ?_
        by_cases hut : u = t
        · subst hut
          exact xOk.pos rfl (c_far_end (F := F) hP hz (by omega) ht (Or.inr rfl))
        · refine xOk.neg (show ¬ Int32.ofNat u = Int32.ofNat t from by rw [nk_eq (by omega) (by omega)]; exact hut) ?_
          refine xloop 4 (fun m (K : XI) s => f_Paths_fewestMore_49 F 26 (fun v3 v4 v5 I => f_Paths_fewestMore_27 F 26 n v3 v4 v5 I) m (Int32.ofNat t) (Int32.ofNat u) (Int32.ofNat k) (Int32.ofNat s) K) (fun s K => dS T (pf T) (wtM T W) a (zM W a) I u k s K) ?_ ?_ F J 0 (by omega) (by omega) (dS_start hP)
          · intro m K s hs hd ih2
            have hd : dS T (pf T) (wtM T W) a (zM W a) I u k s K := hd
            have hK := dS_same hd
            have hTK := tbC_X hT hK.HX
            show xOk (f_Paths_fewestMore_49 F 26 _ (m + 1) (Int32.ofNat t) (Int32.ofNat u) (Int32.ofNat k) (Int32.ofNat s) K) _
            rw [f_Paths_fewestMore_49, nk_succ k, nk_succ s]
            refine xOk.neg (nk_nge hs (by decide)) (xOk.bnde (c_beside hTK hO hu s hs) ?_)
            cases hn : nb T u s with
            | none =>
              exact xOk.pos rfl (ih2 K (dS_skip hd (fun b he => by have := he.2.2.1; rw [hn] at this; cases this)))
            | some b =>
              have hb := nb_lt hO hu s hs b hn
              have hIK : K 27 = W := by rw [hK.row 27 (fun _ => rfl)]; exact hI
              simp only [oi]
              refine xOk.neg (oi_nm1 hb) (xOk.bnde (c_piecesFit hTK hO hu hs) ?_)
              cases hl : pf T u s with
              | false =>
                exact xOk.pos rfl (ih2 K (dS_skip hd (fun b he => by have := he.2.2.2; rw [hl] at this; cases this)))
              | true =>
                refine xOk.neg (by decide) (xOk.ck (nk_in hb (by omega)) (xOk.ck (nk_in hu (by omega)) (xOk.bnde (c_lies hb) ?_)))
                rw [show K (26 + 1) = W from hIK, zM_eq, ← wtM_eq hn]
                unfold f_Paths_fewestMore_122
                refine xOk.ck (nk_in hb (by omega)) (xOk.st ?_)
                simp only [show xN (Int32.ofNat b) = b from nk_N (by omega), show xN (Int32.ofNat u) = u from nk_N (by omega), nk_succ]
                exact ih2 _ (dS_step hz hk hO hd ⟨hu, hs, hn, hl⟩ wtM_le Same.rfl)
          · intro m K hd
            show xOk (f_Paths_fewestMore_49 F 26 _ (m + 1) (Int32.ofNat t) (Int32.ofNat u) (Int32.ofNat k) (Int32.ofNat 4) K) _
            rw [f_Paths_fewestMore_49, nk_succ k]
            refine xOk.pos (Int32.le_refl _) ((dS_done hF hO ha hz hk hd).bnd (fun r hr => ?_))
            obtain ⟨at', e', hd'⟩ := hr
            rw [e']
            exact ih (at', r.2) hd'
    · rintro n ⟨at_, J⟩ hP
      have hP : dI T (pf T) (wtM T W) a (zM W a) I at_ 30 J := hP
      show xOk (f_Paths_fewestMore_27 F 26 (n + 1) (Int32.ofNat t) (oi at_) (Int32.ofNat 30) J) _
      rw [f_Paths_fewestMore_27]
      exact xOk.pos (Int32.le_refl _) (c_far_end (F := F) hP hz (by omega) ht (Or.inl (dI_30 hP)))
  cases hs : f_Paths_start F (Int32.ofNat a) (Int32.ofNat (zM W a)) I with
  | none =>
    rw [hs] at hq
    cases hq
  | some J =>
    rw [hs] at hq
    have hq : f_Paths_closeNearest F J = some q := hq
    show xOk ((f_Paths_closeNearest F J).bind fun q2 => f_Paths_fewestMore_27 F 26 F (Int32.ofNat t) q2.1 0 q2.2) _
    rw [hq]
    exact key q hP
def pcB (T : XT) (x y : Int32) : Bool := inC T x y && !isH T (6 * xN y + xN x)
noncomputable def qMore (T : XT) (W : Nat → Int32) (x y p q : Int32) : Int32 := if pcB T x y = true ∧ pcB T p q = true then qD T (pf T) (wtM T W) (6 * xN y + xN x) (zM W (6 * xN y + xN x)) (6 * xN q + xN p) else -1
theorem c_pieceAt {S : Nat} {T : XT} {I : XI} (hT : tbC S T I) (hO : tOk T) (x y : Int32) : (pcB T x y = false ∧ f_Table_pieceAt S I x y = some (-1)) ∨ ∃ a, a < 30 ∧ inT T a = true ∧ isH T a = false ∧ pcB T x y = true ∧ 6 * xN y + xN x = a ∧ f_Table_pieceAt S I x y = some (Int32.ofNat a) := by
  unfold pcB
  rcases cellCases hO x y with hc | ⟨a, ha, hi, hc, rfl, rfl⟩
  · left
    rw [hc]
    exact ⟨rfl, c_pieceAt_out hT hO hc⟩
  · rw [hc, cell_N ha, c_pieceAt_in hT hO ha hi]
    cases hh : isH T a with
    | true => exact Or.inl ⟨rfl, rfl⟩
    | false => exact Or.inr ⟨a, ha, hi, hh, rfl, rfl, rfl⟩
theorem h_more {F : Nat} (hF : 4000000 ≤ F) {lv : Nat} {T : XT} {W : Nat → Int32} {I : XI} (hC : core lv T W I) {x y p q : Int32} : xOk (f_H_more F x y p q I) (fun r => r.1 = qMore T W x y p q ∧ Same scH I r.2) := by
  obtain ⟨⟨hO, -, -⟩, ⟨hT, hM⟩, ⟨h4, hW, h6⟩, -, -⟩ := hC
  unfold f_H_more qMore
  rcases c_pieceAt hT hO x y with ⟨e, h1⟩ | ⟨a, ha, hia, hha, e, ea, h1⟩
  · refine xOk.bnde h1 ?_
    rcases c_pieceAt hT hO p q with ⟨e', h2⟩ | ⟨b, hb, hib, hhb, e', eb, h2⟩
    · refine xOk.bnde h2 (xOk.pos rfl (xOk.pur ⟨?_, Same.rfl⟩))
      rw [e, if_neg (show ¬ (false = true ∧ _) by intro h; cases h.1)]
    · refine xOk.bnde h2 (xOk.pos rfl (xOk.pur ⟨?_, Same.rfl⟩))
      rw [e, if_neg (show ¬ (false = true ∧ _) by intro h; cases h.1)]
  · refine xOk.bnde h1 ?_
    rcases c_pieceAt hT hO p q with ⟨e', h2⟩ | ⟨b, hb, hib, hhb, e', eb, h2⟩
    · refine xOk.bnde h2 (xOk.neg (oi_nm1 ha) (xOk.pos rfl (xOk.pur ⟨?_, Same.rfl⟩)))
      rw [e, e', if_neg (show ¬ (true = true ∧ false = true) by decide)]
    · rw [e, e', ea, eb, if_pos (show true = true ∧ true = true from ⟨rfl, rfl⟩)]
      refine xOk.bnde h2 (xOk.neg (oi_nm1 ha) (xOk.neg (oi_nm1 hb) ((c_fewestMore hF hT hO h4 ha hia hb).bnd (fun r hr => xOk.pur hr))))
