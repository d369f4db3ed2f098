/-! what lies and fits -/
def spk (T : XT) (e t s : Nat) : Int32 := ts T (4 * e + (s + 4 - t) % 4)
def knw (T : XT) (v : Int32) (a s : Nat) : Int32 := if v < 0 then tk T (4 * a + s) else spk T (xN v / 10) (xN v % 10) s
def lie (W : Nat → Int32) (a : Nat) : Bool := !decide (W a = -2)
def prs (T : XT) (v : Int32) : Prop := ∃ e t, e < tn T ∧ t < 4 ∧ v = Int32.ofNat (10 * e + t)
def wfW (T : XT) (W : Nat → Int32) : Prop := ∀ a, a < 30 → W a = -2 ∨ (inT T a = true ∧ isH T a = false ∧ W a = -1) ∨ (inT T a = true ∧ isH T a = true ∧ prs T (W a))
def enc (v : Int32) : Int32 := if v = -2 then 0 else if v = -1 then 1 else v + 1
def rowR (W : Nat → Int32) (I : XI) : Prop := ∀ a, a < 30 → I 163 a = enc (W a)
def hasK (T : XT) (W : Nat → Int32) (a : Nat) : Prop := (isH T a = true → prs T (W a)) ∧ (isH T a = false → W a < 0)
theorem prs_nn {T : XT} {v : Int32} (hO : tOk T) (h : prs T v) : ¬ v < 0 := by
  obtain ⟨e, t, h1, h2, rfl⟩ := h
  obtain ⟨o1, o2, o3⟩ := hO
  exact nk_nlt0 (by omega)
theorem prs_m2 {T : XT} {v : Int32} (hO : tOk T) (h : prs T v) : ¬ v = -2 := fun e => prs_nn hO h (by rw [e]; decide)
theorem prs_m1 {T : XT} {v : Int32} (hO : tOk T) (h : prs T v) : ¬ v = -1 := fun e => prs_nn hO h (by rw [e]; decide)
theorem lie_in {T : XT} {W : Nat → Int32} (hW : wfW T W) {a : Nat} (ha : a < 30) (h : lie W a = true) : inT T a = true := by
  unfold lie at h
  rcases hW a ha with e | e | e
  · rw [e] at h; simp at h
  · exact e.1
  · exact e.1
theorem hasK_lie {T : XT} {W : Nat → Int32} (hO : tOk T) (hW : wfW T W) {a : Nat} (ha : a < 30) (h : lie W a = true) : hasK T W a := by
  unfold lie at h
  rcases hW a ha with e | e | e
  · rw [e] at h; simp at h
  · exact ⟨fun h => (by rw [e.2.1] at h; cases h), fun _ => by rw [e.2.2]; decide⟩
  · exact ⟨fun _ => e.2.2, fun h => (by rw [e.2.1] at h; cases h)⟩
theorem hasK_pc {T : XT} {W : Nat → Int32} (hO : tOk T) (hW : wfW T W) {a : Nat} (ha : a < 30) (h : isH T a = false) : hasK T W a := by
  refine ⟨fun h' => by rw [h] at h'; (cases h'), fun _ => ?_⟩
  rcases hW a ha with e | e | e
  · rw [e]; decide
  · rw [e.2.2]; decide
  · rw [e.2.1] at h; cases h
theorem enc_pos {T : XT} {W : Nat → Int32} (hO : tOk T) (hW : wfW T W) {a : Nat} (ha : a < 30) : (enc (W a) ≤ 0) = (lie W a = false) := by
  unfold enc lie
  rcases hW a ha with e | e | e
  · rw [e]; decide
  · rw [e.2.2]; decide
  · obtain ⟨e', t, h1, h2, h3⟩ := e.2.2
    rw [if_neg (prs_m2 hO e.2.2), if_neg (prs_m1 hO e.2.2), decide_eq_false (prs_m2 hO e.2.2), h3, nk_succ, nl0]
    obtain ⟨o1, o2, o3⟩ := hO
    rw [nk_le (by omega) (by omega)]
    simp
theorem c_lies {S : Nat} {I : XI} {a : Nat} (ha : a < 30) : f_State_lies S I (Int32.ofNat a) = some (b2 (lie (I (S + 1)) a)) := by
  unfold f_State_lies
  simp (disch := omega) only [nk_N, nk_in, xckT, b2_ifn, b2_nar]
  rfl
theorem m_doesLie {T : XT} {W : Nat → Int32} {I : XI} (hO : tOk T) (hW : wfW T W) (hR : rowR W I) {a : Nat} (ha : a < 30) : f_M_doesLie I (Int32.ofNat a) = some (b2 (lie W a)) := by
  unfold f_M_doesLie
  simp (disch := omega) only [nk_N, nk_in, xckT, b2_ifn, b2_nar]
  rw [hR a ha]
  congr 2
  have h := enc_pos hO hW ha
  cases hl : lie W a with
  | false => rw [decide_eq_true (by rw [h, hl])]; rfl
  | true => rw [decide_eq_false (by rw [h, hl]; decide)]; rfl
theorem c_spareKnob {S : Nat} {T : XT} {I : XI} (hT : tbC S T I) (hO : tOk T) {e t s : Nat} (he : e < tn T) (ht : t < 4) (hs : s < 4) : f_Table_spareKnob S I (Int32.ofNat e) (Int32.ofNat t) (Int32.ofNat s) = some (spk T e t s) := by
  obtain ⟨h0, h1, h2, h3, h4, h5⟩ := hT
  obtain ⟨o1, o2, o3⟩ := hO
  unfold f_Table_spareKnob
  rw [nl4]
  simp (disch := omega) only [nk_mul, nk_add, nk_sub, nk_div, nk_md, nk_N, nk_in, xckT]
  rw [h5, Nat.mul_comm e 4]
  rfl
theorem m_turned {lv : Nat} {T : XT} {I : XI} (hM : tbM lv T I) (hO : tOk T) {e t s : Nat} (he : e < tn T) (ht : t < 4) (hs : s < 4) : f_M_turned I (Int32.ofNat e) (Int32.ofNat t) (Int32.ofNat s) = some (spk T e t s) := by
  obtain ⟨⟨a1, a2⟩, ⟨b1, b2', b3⟩, c1, c2, c3⟩ := hM
  obtain ⟨o1, o2, o3⟩ := hO
  unfold f_M_turned
  rw [a2, nl4, nl5]
  simp (disch := omega) only [nk_mul, nk_add, nk_sub, nk_div, nk_md, nk_N, nk_in, xckT]
  rw [c3 e _ he (by omega)]
  rfl
theorem c_knobOf {T : XT} {I : XI} (hT : tbC 17 T I) (hO : tOk T) {v : Int32} {a s : Nat} (hv : v < 0 ∨ prs T v) (ha : a < 30) (hs : s < 4) : f_Board_knobOf I v (Int32.ofNat a) (Int32.ofNat s) = some (knw T v a s) := by
  unfold f_Board_knobOf knw
  by_cases h : v < 0
  · rw [if_pos h, if_pos h, nl4]
    simp (disch := omega) only [nk_mul, nk_add, nk_N, nk_in, xckT]
    rw [Nat.mul_comm a 4, ← hT.2.2.2.2.1]
  · rw [if_neg h, if_neg h]
    rcases hv with hv | hv
    · exact absurd hv h
    · obtain ⟨e, t, h1, h2, rfl⟩ := hv
      have o3 := hO.2.2
      rw [nl10]
      simp (disch := omega) only [nk_mul, nk_sub, nk_div, nk_md, nk_N]
      rw [show (10 * e + t) / 10 = e by omega, show (10 * e + t) % 10 = t by omega, c_spareKnob hT hO h1 h2 hs]
      rfl
theorem m_knobOf {lv : Nat} {T : XT} {W : Nat → Int32} {I : XI} (hM : tbM lv T I) (hO : tOk T) (hR : rowR W I) {a s : Nat} (ha : a < 30) (hi : inT T a = true) (hk : hasK T W a) (hs : s < 4) : f_M_knobOf I (Int32.ofNat a) (Int32.ofNat s) = some (knw T (W a) a s) := by
  unfold f_M_knobOf knw
  rw [m_isHole hM ha hi]
  cases hh : isH T a with
  | false =>
    rw [if_pos (hk.2 hh)]
    rw [Option.bind_some, if_pos (by decide), hM.1.2, nl120, nl4]
    have hl := hM.1.1
    simp (disch := omega) only [nk_mul, nk_add, nk_N, nk_in, xckT]
    rw [hM.2.2.2.1 a s ha hs]
  | true =>
    have hp := hk.1 hh
    rw [if_neg (prs_nn hO hp)]
    rw [Option.bind_some, if_neg (by decide), nk_N (by omega), nk_in (show a < 33 by omega) (by omega), xckT, xckT, hR a ha]
    unfold enc
    rw [if_neg (prs_m2 hO hp), if_neg (prs_m1 hO hp)]
    obtain ⟨e, t, h1, h2, h3⟩ := hp
    have o3 := hO.2.2
    rw [h3, nl10, nl1]
    simp (disch := omega) only [nk_mul, nk_add, nk_sub, nk_div, nk_md, nk_N]
    rw [show (10 * e + t + 1 - 1) = 10 * e + t by omega, show (10 * e + t) / 10 = e by omega, show (10 * e + t) % 10 = t by omega, m_turned hM hO h1 h2 hs]
    rfl
theorem opp_lt {s : Nat} : opp s < 4 := Nat.mod_lt _ (by omega)
theorem c_opp {s : Nat} (hs : s < 4) : f_H_opposite (Int32.ofNat s) = some (Int32.ofNat (opp s)) := by
  unfold f_H_opposite
  rw [nl4, nl2]
  simp (disch := omega) only [nk_mul, nk_add, nk_sub, nk_div, nk_md]
  rfl
theorem m_opp {s : Nat} (hs : s < 4) : (Int32.ofNat s + 2) - (Int32.ofNat s + 2) / 4 * 4 = Int32.ofNat (opp s) := by
  rw [nl4, nl2]
  simp (disch := omega) only [nk_mul, nk_add, nk_sub, nk_div, nk_md]
  rfl
/-- whether both lie and fit -/
def fit (T : XT) (W : Nat → Int32) (a s b : Nat) : Bool := decide (knw T (W a) a s + knw T (W b) b (opp s) = 0)
def lnk (T : XT) (W : Nat → Int32) (a s : Nat) : Bool := match nb T a s with
  | none => false
  | some b => lie W a && (lie W b && fit T W a s b)
theorem oi_nm1 {b : Nat} (hb : b < 30) : ¬ Int32.ofNat b = -1 := by
  rw [nk_m1 (by omega)]
  exact id
theorem wf_kn {T : XT} {W : Nat → Int32} (hW : wfW T W) {a : Nat} (ha : a < 30) : W a < 0 ∨ prs T (W a) := by
  rcases hW a ha with e | e | e
  · rw [e]; exact Or.inl (by decide)
  · rw [e.2.2]; exact Or.inl (by decide)
  · exact Or.inr e.2.2
theorem c_linked {T : XT} {W : Nat → Int32} {I : XI} {S : Nat} (hT : tbC 17 T I) (hO : tOk T) (hW : wfW T W) (hI : I (S + 1) = W) {a s : Nat} (ha : a < 30) (hs : s < 4) : f_Board_linked S I (Int32.ofNat a) (Int32.ofNat s) = some (b2 (lnk T W a s)) := by
  unfold f_Board_linked
  rw [c_beside hT hO ha s hs]
  unfold lnk
  cases hn : nb T a s with
  | none =>
    simp only [Option.bind_some]
    rw [if_pos (by decide)]
    rfl
  | some b =>
    have hb := nb_lt hO ha s hs b hn
    simp only [Option.bind_some, oi]
    rw [if_neg (oi_nm1 hb), c_lies ha, c_lies hb, hI]
    simp only [Option.bind_some, b2_z]
    cases h1 : lie W a with
    | false => rfl
    | true =>
      cases h2 : lie W b with
      | false => rfl
      | true =>
        rw [if_neg (by decide), if_neg (by decide)]
        simp (disch := omega) only [nk_N, nk_in, xckT]
        rw [c_knobOf hT hO (wf_kn hW ha) ha hs, c_opp hs]
        simp only [Option.bind_some]
        rw [c_knobOf hT hO (wf_kn hW hb) hb opp_lt]
        simp only [Option.bind_some, b2_if, b2_nar, xckT]
        rfl
theorem m_doFit {lv : Nat} {T : XT} {W : Nat → Int32} {I : XI} (hM : tbM lv T I) (hO : tOk T) (hR : rowR W I) {a b s : Nat} (ha : a < 30) (hi : inT T a = true) (hka : hasK T W a) (hkb : hasK T W b) (hs : s < 4) (hn : nb T a s = some b) : f_M_doFit I (Int32.ofNat a) (Int32.ofNat s) = some (b2 (fit T W a s b)) := by
  have hb := nb_lt hO ha s hs b hn
  have hib := nb_in hO ha hi s hs b hn
  unfold f_M_doFit
  rw [m_knobOf hM hO hR ha hi hka hs, m_overTo hM hO ha hi s hs, hn, m_opp hs]
  simp only [Option.bind_some, oi]
  rw [m_knobOf hM hO hR hb hib hkb opp_lt]
  simp only [Option.bind_some, b2_if, b2_nar, xckT]
  rfl
theorem m_joinedOver {lv : Nat} {T : XT} {W : Nat → Int32} {I : XI} (hM : tbM lv T I) (hO : tOk T) (hW : wfW T W) (hR : rowR W I) {a s : Nat} (ha : a < 30) (hi : inT T a = true) (hs : s < 4) : f_M_areJoinedOver I (Int32.ofNat a) (Int32.ofNat s) = some (b2 (lnk T W a s)) := by
  unfold f_M_areJoinedOver
  rw [m_overTo hM hO ha hi s hs]
  unfold lnk
  cases hn : nb T a s with
  | none =>
    simp only [Option.bind_some, oi]
    rw [if_pos (by decide)]
    rfl
  | some b =>
    have hb := nb_lt hO ha s hs b hn
    simp only [Option.bind_some, oi]
    rw [if_neg (nk_nlt0 (by omega)), m_doesLie hO hW hR ha, m_doesLie hO hW hR hb]
    simp only [Option.bind_some, b2_z]
    cases h1 : lie W a with
    | false => rfl
    | true =>
      cases h2 : lie W b with
      | false => rfl
      | true =>
        rw [if_neg (by decide), if_neg (by decide), m_doFit hM hO hR ha hi (hasK_lie hO hW ha h1) (hasK_lie hO hW hb h2) hs hn]
        simp only [Option.bind_some, b2_norm, b2_ifn, b2_nar, xckT, b2_z]
        cases fit T W a s b <;> rfl
theorem c_friends {F : Nat} (hF : 4000000 ≤ F) {T : XT} {W : Nat → Int32} {I : XI} {S : Nat} (hT : tbC 17 T I) (hO : tOk T) (hW : wfW T W) (hI : I (S + 1) = W) {a : Nat} (ha : a < 30) : f_Board_friends F S I (Int32.ofNat a) = some (Int32.ofNat (cnt (lnk T W a) 4)) := by
  unfold f_Board_friends
  refine xOk.eq (xloop 4 (fun n (c : Nat) k => f_Board_friends_5 F S I n (Int32.ofNat a) (Int32.ofNat c) (Int32.ofNat k)) (fun k c => c = cnt (lnk T W a) k) ?_ ?_ F 0 0 (by omega) (by omega) rfl)
  · intro n c k hk hc ih
    subst hc
    show xOk (f_Board_friends_5 F S I (n + 1) _ _ _) _
    rw [f_Board_friends_5]
    refine xOk.neg (nk_nge hk (by decide)) ?_
    refine xOk.bnde (c_linked hT hO hW hI ha hk) ?_
    rw [b2_add, nk_succ]
    exact ih _ rfl
  · intro n c hc
    subst hc
    show xOk (f_Board_friends_5 F S I (n + 1) _ _ _) _
    rw [f_Board_friends_5]
    exact xOk.pos (by decide) (xOk.pur rfl)
theorem m_fitsNext {F : Nat} (hF : 4000000 ≤ F) {lv : Nat} {T : XT} {W : Nat → Int32} {I : XI} (hM : tbM lv T I) (hO : tOk T) (hW : wfW T W) (hR : rowR W I) {a : Nat} (ha : a < 30) (hi : inT T a = true) : f_M_fitsNext F I (Int32.ofNat a) = some (Int32.ofNat (cnt (lnk T W a) 4)) := by
  unfold f_M_fitsNext
  refine xOk.eq (xloop 4 (fun n (c : Nat) k => f_M_fitsNext_4 F I n (Int32.ofNat a) (Int32.ofNat c) (Int32.ofNat k)) (fun k c => c = cnt (lnk T W a) k) ?_ ?_ F 0 0 (by omega) (by omega) rfl)
  · intro n c k hk hc ih
    subst hc
    show xOk (f_M_fitsNext_4 F I (n + 1) _ _ _) _
    rw [f_M_fitsNext_4]
    refine xOk.neg (nk_nge hk (by decide)) ?_
    refine xOk.bnde (m_joinedOver hM hO hW hR ha hi hk) ?_
    rw [b2_inc, nk_succ]
    exact ih _ rfl
  · intro n c hc
    subst hc
    show xOk (f_M_fitsNext_4 F I (n + 1) _ _ _) _
    rw [f_M_fitsNext_4]
    exact xOk.pos (by decide) (xOk.pur rfl)
