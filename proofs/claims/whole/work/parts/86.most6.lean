/-! most: the reference -/
theorem inC_n6 {T : XT} (hO : tOk T) {x y : Nat} (hx : x < 6) (hy : y < 5) : inC T (Int32.ofNat x) (Int32.ofNat y) = inT T (6 * y + x) := by
  rw [inC_nat hO (by omega) (by omega)]
  unfold inT
  rw [show (6 * y + x) % 6 = x by omega, show (6 * y + x) / 6 = y by omega]
theorem pcB_nat {T : XT} (hO : tOk T) {x y : Nat} (hx : x < 6) (hy : y < 5) : pcB T (Int32.ofNat x) (Int32.ofNat y) = isP T (6 * y + x) := by
  unfold pcB isP
  rw [inC_n6 hO hx hy, nk_N (by omega), nk_N (by omega)]
def W2 (T : XT) (W : Nat → Int32) : Nat → Int32 := fun a => if inT T a = true ∧ isH T a = true then -2 else W a
theorem W2_wf {T : XT} {W : Nat → Int32} (h : wfW T W) : wfW T (W2 T W) := by
  intro a ha
  unfold W2
  by_cases e : inT T a = true ∧ isH T a = true
  · rw [if_pos e]; exact Or.inl rfl
  · rw [if_neg e]; exact h a ha
theorem m_most_6 {F : Nat} {lv : Nat} {T : XT} {W : Nat → Int32} {I0 : XI} (hF : 4000000 ≤ F) (hM : tbM lv T I0) (hO : tOk T) {Q : Int32 × XI → Prop} (hk : ∀ K, Same scM I0 K → rowR (W2 T W) K → xOk (f_M_most_43 F F 0 K) Q) (hR : rowR W I0) : xOk (f_M_most_6 F F 0 I0) Q := by
  refine xloop 30 (fun n (J : XI) k => f_M_most_6 F n (Int32.ofNat k) J) (fun k J => Same scM I0 J ∧ ∀ a, a < 30 → J 163 a = if a < k then enc (W2 T W a) else enc (W a)) ?_ ?_ F I0 0 (by omega) (by omega) ⟨Same.rfl, fun a ha => by rw [if_neg (by omega)]; exact hR a ha⟩
  · rintro n J k hk' ⟨hs, hr⟩ ih
    show xOk (f_M_most_6 F (n + 1) (Int32.ofNat k) J) Q
    rw [f_M_most_6, nk_succ]
    have same : W2 T W k = W k → ∀ a, a < 30 → J 163 a = if a < k + 1 then enc (W2 T W a) else enc (W a) := by
      intro e a ha
      rw [hr a ha]
      by_cases h : a < k
      · rw [if_pos h, if_pos (by omega)]
      · rw [if_neg h]
        by_cases h' : a < k + 1
        · rw [if_pos h', show a = k by omega, e]
        · rw [if_neg h']
    have hMJ := tbM_X hM hs.MX
    refine xOk.neg (nk_nge hk' (by decide)) (xOk.bnde (m_isThere hMJ hO hk') ?_)
    cases hi : inT T k with
    | false => exact xOk.pos rfl (ih J ⟨hs, same (by unfold W2; rw [if_neg (by rw [hi]; rintro ⟨h, -⟩; cases h)])⟩)
    | true =>
      refine xOk.neg (by decide) (xOk.bnde (m_isHole hMJ hk' hi) ?_)
      cases hh : isH T k with
      | false => exact xOk.pos rfl (ih J ⟨hs, same (by unfold W2; rw [if_neg (by rw [hh]; rintro ⟨-, h⟩; cases h)])⟩)
      | true =>
        refine xOk.neg (by decide) (xOk.ck (nk_in (by omega) (by omega)) (xOk.st (ih _ ⟨hs.put' rfl, fun a ha => ?_⟩)))
        rw [nk_N (by omega), xput_at]
        by_cases e : a = k
        · rw [if_pos e, if_pos (by omega), e]
          unfold W2
          rw [if_pos ⟨hi, hh⟩]
          rfl
        · rw [if_neg e, hr a ha]
          by_cases h : a < k
          · rw [if_pos h, if_pos (by omega)]
          · rw [if_neg h, if_neg (by omega)]
  · rintro n J ⟨hs, hr⟩
    show xOk (f_M_most_6 F (n + 1) (Int32.ofNat 30) J) Q
    rw [f_M_most_6]
    refine xOk.pos (by decide) (hk J hs (fun a ha => ?_))
    rw [hr a ha, if_pos ha]
theorem m_fitP {lv : Nat} {T : XT} {W : Nat → Int32} {I : XI} (hM : tbM lv T I) (hO : tOk T) (hW : wfW T W) (hR : rowR W I) {a b s : Nat} (ha : a < 30) (hs : s < 4) (hpa : isP T a = true) (hpb : isP T b = true) (hn : nb T a s = some b) : f_M_doFit I (Int32.ofNat a) (Int32.ofNat s) = some (b2 (pf T a s)) := by
  have hia := isP_iff.mp hpa
  have hib := isP_iff.mp hpb
  have hb := nb_lt hO ha s hs b hn
  rw [m_doFit hM hO hR ha hia.1 (pcs_hasK hW ha hia.2) (pcs_hasK hW hb hib.2) hs hn, pf_fit hW ha hb hpa hpb hn]
theorem m_isRowSet {F : Nat} (hF : 4000000 ≤ F) {lv : Nat} {T : XT} {W : Nat → Int32} {I : XI} (hM : tbM lv T I) (hO : tOk T) (hW : wfW T W) (hR : rowR W I) {r m : Nat} (hr : r < 5) (hm : m < 64) : xOk (f_M_isRowSet F I (Int32.ofNat r) (Int32.ofNat m)) (fun v => (v = 0 ∧ ¬ rowK T r m) ∨ (v = 1 ∧ rowK T r m)) := by
  unfold f_M_isRowSet
  refine xloop 6 (fun n (_ : Unit) k => f_M_isRowSet_2 F I n (Int32.ofNat r) (Int32.ofNat m) (Int32.ofNat k)) (fun k _ => ∀ c, c < k → m.testBit c = true → isP T (6 * r + c) = true ∧ (c < 5 → m.testBit (c + 1) = true → isP T (6 * r + c + 1) = true → pf T (6 * r + c) 1 = true)) ?_ ?_ F () 0 (by omega) (by omega) (fun c hc => absurd hc (by omega))
  · intro n _ k hk hP ih
    show xOk (f_M_isRowSet_2 F I (n + 1) (Int32.ofNat r) (Int32.ofNat m) (Int32.ofNat k)) _
    rw [f_M_isRowSet_2, bit_get (by omega) (by omega), nk_succ, bit_get (by omega) (by omega)]
    have ih := ih ()
    refine xOk.neg (nk_nge hk (by decide)) ?_
    cases hb : m.testBit k with
    | false =>
      refine xOk.pos rfl (ih (fun c hc hx => ?_))
      by_cases e : c = k
      · rw [e, hb] at hx; cases hx
      · exact hP c (by omega) hx
    | true =>
      refine xOk.neg (by decide) (xOk.bnde (m_isPiece hM hO _ _) ?_)
      rw [pcB_nat hO hk hr]
      cases hp : isP T (6 * r + k) with
      | false =>
        refine xOk.pos rfl (xOk.pur (Or.inl ⟨rfl, fun h => ?_⟩))
        have := (h k hk hb).1
        rw [hp] at this; cases this
      | true =>
        refine xOk.neg (by decide) ?_
        have nxt : (k < 5 → m.testBit (k + 1) = true → isP T (6 * r + k + 1) = true → pf T (6 * r + k) 1 = true) → ∀ c, c < k + 1 → m.testBit c = true → isP T (6 * r + c) = true ∧ (c < 5 → m.testBit (c + 1) = true → isP T (6 * r + c + 1) = true → pf T (6 * r + c) 1 = true) := by
          intro h c hc hx
          by_cases e : c = k
          · rw [e]; exact ⟨hp, h⟩
          · exact hP c (by omega) hx
        cases hb' : m.testBit (k + 1) with
        | false => exact xOk.neg (by decide) (ih (nxt (fun _ h => by rw [hb'] at h; cases h)))
        | true =>
          have hk5 : k < 5 := by
            by_cases e : k = 5
            · rw [e, Nat.testBit_lt_two_pow (show m < 2 ^ (5 + 1) from hm)] at hb'; cases hb'
            · omega
          refine xOk.pos rfl (xOk.bnde (m_isPiece hM hO _ _) ?_)
          rw [pcB_nat hO (by omega) hr]
          cases hp' : isP T (6 * r + (k + 1)) with
          | false => exact xOk.pos rfl (ih (nxt (fun _ _ h => by rw [show 6 * r + k + 1 = 6 * r + (k + 1) by omega, hp'] at h; cases h)))
          | true =>
            have hin := inT_iff.mp (isP_iff.mp hp').1
            have hn : nb T (6 * r + k) 1 = some (6 * r + (k + 1)) := by
              show (if (6 * r + k) % 6 + 1 < tw T then some (6 * r + k + 1) else none) = _
              rw [if_pos (by omega)]
              rfl
            refine xOk.neg (by decide) ?_
            rw [show (6 : Int32) = Int32.ofNat 6 from rfl, nk_mul, nk_add, show (1 : Int32) = Int32.ofNat 1 from rfl]
            refine xOk.bnde (m_fitP hM hO hW hR (by omega) (by omega) hp hp' hn) ?_
            cases hf : pf T (6 * r + k) 1 with
            | false =>
              refine xOk.pos rfl (xOk.pur (Or.inl ⟨rfl, fun h => ?_⟩))
              have := (h k hk hb).2 hk5 hb'
              rw [hf] at this; cases this
            | true => exact xOk.neg (by decide) (ih (nxt (fun _ _ _ => hf)))
  · intro n _ hP
    show xOk (f_M_isRowSet_2 F I (n + 1) (Int32.ofNat r) (Int32.ofNat m) (Int32.ofNat 6)) _
    rw [f_M_isRowSet_2]
    refine xOk.pos (by decide) (xOk.pur (Or.inr ⟨rfl, fun c hc hx => ⟨(hP c hc hx).1, fun h5 hx' => (hP c hc hx).2 h5 hx' ?_⟩⟩))
    exact (hP (c + 1) (by omega) hx').1
theorem m_bits6 {F : Nat} (hF : 4000000 ≤ F) {m : Nat} (hm : m < 64) : f_M_bits F (Int32.ofNat m) = some (Int32.ofNat (cnt m.testBit 6)) := by
  refine xOk.eq ?_
  unfold f_M_bits
  refine xloop 6 (fun n (v : Int32) k => f_M_bits_4 F n (Int32.ofNat m) v (Int32.ofNat k)) (fun k v => v = Int32.ofNat (cnt m.testBit k)) ?_ ?_ F 0 0 (by omega) (by omega) rfl
  · intro n v k hk hP ih
    show xOk (f_M_bits_4 F (n + 1) (Int32.ofNat m) v (Int32.ofNat k)) _
    rw [f_M_bits_4, bit_get (by omega) (by omega), nk_succ, hP]
    refine xOk.neg (nk_nge hk (by decide)) (ih _ ?_)
    show _ = Int32.ofNat (cnt m.testBit k + if m.testBit k = true then 1 else 0)
    cases m.testBit k
    · show Int32.ofNat _ + Int32.ofNat 0 = _
      rw [nk_add]; rfl
    · exact nk_succ _
  · intro n v hP
    show xOk (f_M_bits_4 F (n + 1) (Int32.ofNat m) v (Int32.ofNat 6)) _
    rw [f_M_bits_4]
    exact xOk.pos (by decide) (xOk.pur hP)
theorem m_areRowSets {F : Nat} (hF : 4000000 ≤ F) {lv : Nat} {T : XT} {W : Nat → Int32} {I : XI} (hM : tbM lv T I) (hO : tOk T) (hW : wfW T W) (hR : rowR W I) {r m m' : Nat} (hr : r < 5) (hm : m < 64) (hm' : m' < 64) (hpm : ∀ c, c < 6 → m.testBit c = true → 1 ≤ r ∧ isP T (6 * (r - 1) + c) = true) (hpm' : ∀ c, c < 6 → m'.testBit c = true → isP T (6 * r + c) = true) : xOk (f_M_areRowSets F I (Int32.ofNat r) (Int32.ofNat m) (Int32.ofNat m')) (fun v => (v = 0 ∧ ¬ colK T r m m') ∨ (v = 1 ∧ colK T r m m')) := by
  unfold f_M_areRowSets
  refine xloop 6 (fun n (_ : Unit) k => f_M_areRowSets_3 F I n (Int32.ofNat r) (Int32.ofNat m) (Int32.ofNat m') (Int32.ofNat k)) (fun k _ => ∀ c, c < k → m.testBit c = true → m'.testBit c = true → pf T (6 * r + c) 0 = true) ?_ ?_ F () 0 (by omega) (by omega) (fun c hc => absurd hc (by omega))
  · intro n _ k hk hP ih
    show xOk (f_M_areRowSets_3 F I (n + 1) (Int32.ofNat r) (Int32.ofNat m) (Int32.ofNat m') (Int32.ofNat k)) _
    have hle : m &&& m' ≤ m := Nat.and_le_left
    rw [f_M_areRowSets_3, nk_and (by omega) (by omega), bit_get (by omega) (by omega), nk_succ, Nat.testBit_and]
    have ih := ih ()
    refine xOk.neg (nk_nge hk (by decide)) ?_
    have nxt : (m.testBit k = true → m'.testBit k = true → pf T (6 * r + k) 0 = true) → ∀ c, c < k + 1 → m.testBit c = true → m'.testBit c = true → pf T (6 * r + c) 0 = true := by
      intro h c hc h1 h2
      by_cases e : c = k
      · rw [e] at h1 h2 ⊢; exact h h1 h2
      · exact hP c (by omega) h1 h2
    cases hb : m.testBit k with
    | false =>
      rw [Bool.false_and]
      exact xOk.neg (by decide) (ih (nxt (fun h => by rw [hb] at h; cases h)))
    | true =>
      rw [Bool.true_and]
      cases hb' : m'.testBit k with
      | false => exact xOk.neg (by decide) (ih (nxt (fun _ h => by rw [hb'] at h; cases h)))
      | true =>
        refine xOk.pos rfl ?_
        obtain ⟨h1, hpu⟩ := hpm k hk hb
        have hp := hpm' k hk hb'
        have hn : nb T (6 * r + k) 0 = some (6 * (r - 1) + k) := by
          show (if 6 ≤ 6 * r + k then some (6 * r + k - 6) else none) = _
          rw [if_pos (by omega), show 6 * r + k - 6 = 6 * (r - 1) + k by omega]
        rw [show (6 : Int32) = Int32.ofNat 6 from rfl, nk_mul, nk_add, show (0 : Int32) = Int32.ofNat 0 from rfl]
        refine xOk.bnde (m_fitP hM hO hW hR (by omega) (by omega) hp hpu hn) ?_
        cases hf : pf T (6 * r + k) 0 with
        | false =>
          refine xOk.pos rfl (xOk.pur (Or.inl ⟨rfl, fun h => ?_⟩))
          have := h k hk hb hb'
          rw [hf] at this; cases this
        | true => exact xOk.neg (by decide) (ih (nxt (fun _ _ => hf)))
  · intro n _ hP
    show xOk (f_M_areRowSets_3 F I (n + 1) (Int32.ofNat r) (Int32.ofNat m) (Int32.ofNat m') (Int32.ofNat 6)) _
    rw [f_M_areRowSets_3]
    exact xOk.pos (by decide) (xOk.pur (Or.inr ⟨rfl, hP⟩))
