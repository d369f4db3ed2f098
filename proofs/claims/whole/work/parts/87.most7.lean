/-! most: the reference's rows -/
def sc89 (o _j : Nat) : Bool := Nat.beq o 168 || Nat.beq o 169
theorem Same.M89 {I J : XI} (h : Same sc89 I J) : Same scM I J := h.mono (fun o j e => by
  unfold scM at e
  unfold sc89
  simp only [Bool.or_eq_false_iff] at e ⊢
  exact ⟨e.2.1.1.1.2, e.2.1.1.2⟩)
theorem rowR_89 {W : Nat → Int32} {I J : XI} (h : rowR W I) (hs : Same sc89 I J) : rowR W J := fun a ha => (hs 163 a rfl).trans (h a ha)
def inn (T : XT) (r m' q k : Nat) : Prop := ∃ m j, m < q ∧ rRow T r m j ∧ colK T r m m' ∧ k = j + cnt m'.testBit 6
theorem inn_bd {T : XT} {r m' q k : Nat} (hr : r < 5) (h : inn T r m' q k) : k ≤ 36 := by
  obtain ⟨m, j, -, h1, -, rfl⟩ := h
  have := rRow_bd r m j h1
  have := cnt_le6 (p := m'.testBit)
  omega
theorem m_most_114 {F : Nat} (hF : 4000000 ≤ F) {lv : Nat} {T : XT} {W : Nat → Int32} {I0 J : XI} (hM : tbM lv T I0) (hO : tOk T) (hW : wfW T W) (hR : rowR W I0) (hs : Same sc89 I0 J) {r m' : Nat} (hr : r < 5) (hm' : m' < 64) (hrow : rowK T r m') (h168 : ∀ m, m < 64 → isMx (rRow T r m) (J 168 m)) (h169 : J 169 m' = -1) {k87 : Int32 → Int32 → XI → Option (Int32 × XI)} {Q : Int32 × XI → Prop}
    (hk : ∀ K, Same sc89 I0 K → K 168 = J 168 → (∀ x, ¬ x = m' → K 169 x = J 169 x) → isMx (rRow T (r + 1) m') (K 169 m') → xOk (k87 (Int32.ofNat r) (Int32.ofNat (m' + 1)) K) Q) : xOk (f_M_most_114 F k87 F (Int32.ofNat r) (Int32.ofNat m') 0 J) Q := by
  refine xloop 64 (fun n (K : XI) q => f_M_most_114 F k87 n (Int32.ofNat r) (Int32.ofNat m') (Int32.ofNat q) K) (fun q K => Same sc89 I0 K ∧ K 168 = J 168 ∧ (∀ x, ¬ x = m' → K 169 x = J 169 x) ∧ isMx (inn T r m' q) (K 169 m')) ?_ ?_ F J 0 (by omega) (by omega) ⟨hs, rfl, fun _ _ => rfl, Or.inr ⟨fun k h => by
    obtain ⟨m, j, h, -⟩ := h
    omega, h169⟩⟩
  · rintro n K q hq ⟨s1, s2, s3, s4⟩ ih
    show xOk (f_M_most_114 F k87 (n + 1) (Int32.ofNat r) (Int32.ofNat m') (Int32.ofNat q) K) Q
    have hMK := tbM_X hM s1.M89.MX
    have hRK := rowR_89 hR s1
    rw [f_M_most_114, nk_succ q, nk_succ m']
    have skip : (∀ j, rRow T r q j → colK T r q m' → ∃ k, inn T r m' q k ∧ j + cnt m'.testBit 6 ≤ k) → isMx (inn T r m' (q + 1)) (K 169 m') := by
      intro hno
      rcases s4 with ⟨k, k1, k2, k3⟩ | ⟨k1, k2⟩
      · refine Or.inl ⟨k, ?_, fun i hi => ?_, k3⟩
        · obtain ⟨m, j, h1, h2⟩ := k1
          exact ⟨m, j, by omega, h2⟩
        · obtain ⟨m, j, h1, h2, h3, rfl⟩ := hi
          by_cases e : m = q
          · rw [e] at h2 h3
            obtain ⟨k', h4, h5⟩ := hno j h2 h3
            have := k2 k' h4
            omega
          · exact k2 _ ⟨m, j, by omega, h2, h3, rfl⟩
      · refine Or.inr ⟨fun i hi => ?_, k2⟩
        obtain ⟨m, j, h1, h2, h3, rfl⟩ := hi
        by_cases e : m = q
        · rw [e] at h2 h3
          obtain ⟨k', h4, h5⟩ := hno j h2 h3
          exact k1 k' h4
        · exact k1 _ ⟨m, j, by omega, h2, h3, rfl⟩
    have go : isMx (inn T r m' (q + 1)) (K 169 m') → xOk (f_M_most_114 F k87 n (Int32.ofNat r) (Int32.ofNat m') (Int32.ofNat (q + 1)) K) Q := fun h => ih K ⟨s1, s2, s3, h⟩
    have eq168 : K 168 q = J 168 q := by rw [s2]
    refine xOk.neg (nk_nge hq (by decide)) (xOk.ck (nk_in hq (by omega)) ?_)
    rw [nk_N (by omega), nk_N (by omega), eq168]
    rcases h168 q hq with ⟨kk, k1, k2, k3⟩ | ⟨k1, k2⟩
    · have hkk := rRow_bd r q kk k1
      rw [k3]
      refine xOk.neg (nk_nlt0 (by omega)) (xOk.ck (nk_in hq (by omega)) (xOk.bnde (m_bits6 hF hm') (xOk.ck (nk_in hm' (by omega)) ?_)))
      have hcn := cnt_le6 (p := m'.testBit)
      rw [nk_add]
      have bd : ∀ k, inn T r m' q k → k ≤ 36 := fun k h => inn_bd hr h
      by_cases hle : Int32.ofNat (kk + cnt m'.testBit 6) ≤ K 169 m'
      · refine xOk.pos hle (go (skip (fun j h1 h2 => ?_)))
        rcases s4 with ⟨k, g1, g2, g3⟩ | ⟨g1, g2⟩
        · rw [g3, nk_le (by omega) (by have := bd k g1; omega)] at hle
          exact ⟨k, g1, by have := k2 j h1; omega⟩
        · rw [g2] at hle
          have : (0 : Int32) ≤ -1 := Int32.le_trans (nk_le_t (a := 0) (by omega) (by omega)) hle
          exact absurd this (by decide)
      · refine xOk.neg hle ?_
        refine (m_areRowSets hF hMK hO hW hRK hr hq hm' (fun c hc hx => rRow_pc k1 hc hx) (fun c hc hx => (hrow c hc hx).1)).bnd (fun v hv => ?_)
        rcases hv with ⟨rfl, hcol⟩ | ⟨rfl, hcol⟩
        · exact xOk.pos rfl (go (skip (fun j _ h2 => absurd h2 hcol)))
        · refine xOk.neg (by decide) (xOk.ck (nk_in hq (by omega)) (xOk.bnde (m_bits6 hF hm') (xOk.ck (nk_in hm' (by omega)) (xOk.st ?_))))
          rw [nk_add]
          refine ih _ ⟨s1.put' rfl, by rw [xput_neo (by omega)]; exact s2, fun x hx => by rw [xput_at, if_neg hx]; exact s3 x hx, ?_⟩
          rw [xput_eq]
          refine Or.inl ⟨kk + cnt m'.testBit 6, ⟨q, kk, by omega, k1, hcol, rfl⟩, fun i hi => ?_, rfl⟩
          obtain ⟨m, j, h1, h2, h3, rfl⟩ := hi
          by_cases e : m = q
          · rw [e] at h2
            have := k2 j h2
            omega
          · have hin : inn T r m' q (j + cnt m'.testBit 6) := ⟨m, j, by omega, h2, h3, rfl⟩
            rcases s4 with ⟨k, g1, g2, g3⟩ | ⟨g1, g2⟩
            · have hb := bd k g1
              have := g2 _ hin
              rw [g3, nk_le (by omega) (by omega)] at hle
              omega
            · exact absurd hin (g1 _)
    · rw [k2]
      exact xOk.pos (by decide) (go (skip (fun j h1 _ => absurd h1 (k1 j))))
  · rintro n K ⟨s1, s2, s3, s4⟩
    show xOk (f_M_most_114 F k87 (n + 1) (Int32.ofNat r) (Int32.ofNat m') (Int32.ofNat 64) K) Q
    rw [f_M_most_114, nk_succ m']
    refine xOk.pos (by decide) (hk K s1 s2 s3 (isMx_congr s4 (fun k => ⟨?_, ?_⟩)))
    · rintro ⟨m, j, h1, h2, h3, h4⟩
      exact ⟨hm', hrow, m, j, h1, h2, h3, h4⟩
    · rintro ⟨-, -, m, j, h1, h2, h3, h4⟩
      exact ⟨m, j, h1, h2, h3, h4⟩
theorem m_most_87 {F : Nat} (hF : 4000000 ≤ F) {lv : Nat} {T : XT} {W : Nat → Int32} {I0 J : XI} (hM : tbM lv T I0) (hO : tOk T) (hW : wfW T W) (hR : rowR W I0) (hs : Same sc89 I0 J) {r : Nat} (hr : r < 5) (h168 : ∀ m, m < 64 → isMx (rRow T r m) (J 168 m)) {k72 : Int32 → XI → Option (Int32 × XI)} {Q : Int32 × XI → Prop}
    (hk : ∀ K, Same sc89 I0 K → (∀ m, m < 64 → isMx (rRow T (r + 1) m) (K 168 m)) → xOk (k72 (Int32.ofNat (r + 1)) K) Q) : xOk (f_M_most_87 F k72 F (Int32.ofNat r) 0 J) Q := by
  refine xloop 64 (fun n (K : XI) q => f_M_most_87 F k72 n (Int32.ofNat r) (Int32.ofNat q) K) (fun q K => Same sc89 I0 K ∧ K 168 = J 168 ∧ ∀ x, x < q → isMx (rRow T (r + 1) x) (K 169 x)) ?_ ?_ F J 0 (by omega) (by omega) ⟨hs, rfl, fun x hx => absurd hx (by omega)⟩
  · rintro n K q hq ⟨s1, s2, s3⟩ ih
    show xOk (f_M_most_87 F k72 (n + 1) (Int32.ofNat r) (Int32.ofNat q) K) Q
    rw [f_M_most_87, nk_succ q]
    refine xOk.neg (nk_nge hq (by decide)) (xOk.ck (nk_in hq (by omega)) (xOk.st ?_))
    rw [nk_N (by omega)]
    have t1 : Same sc89 I0 (xput K 169 q (-1)) := s1.put' rfl
    have t2 : xput K 169 q (-1) 168 = J 168 := by rw [xput_neo (by omega)]; exact s2
    have t3 : ∀ x, x < q → isMx (rRow T (r + 1) x) (xput K 169 q (-1) 169 x) := fun x hx => by
      rw [xput_at, if_neg (by omega)]; exact s3 x hx
    have t4 : xput K 169 q (-1) 169 q = -1 := xput_eq
    generalize xput K 169 q (-1) = K1 at t1 t2 t3 t4 ⊢
    refine (m_isRowSet hF (tbM_X hM t1.M89.MX) hO hW (rowR_89 hR t1) hr hq).bnd (fun v hv => ?_)
    rcases hv with ⟨rfl, hrow⟩ | ⟨rfl, hrow⟩
    · refine xOk.pos rfl (ih K1 ⟨t1, t2, fun x hx => ?_⟩)
      by_cases e : x = q
      · rw [e]
        exact Or.inr ⟨fun k h => hrow h.2.1, t4⟩
      · exact t3 x (by omega)
    · refine xOk.neg (by decide) (m_most_114 hF hM hO hW hR t1 hr hq hrow (fun m hm => by rw [t2]; exact h168 m hm) t4 (fun L s1' s2' s3' s4' => ih L ⟨s1', s2'.trans t2, fun x hx => ?_⟩))
      by_cases e : x = q
      · rw [e]; exact s4'
      · rw [s3' x e]; exact t3 x (by omega)
  · rintro n K ⟨s1, s2, s3⟩
    show xOk (f_M_most_87 F k72 (n + 1) (Int32.ofNat r) (Int32.ofNat 64) K) Q
    rw [f_M_most_87]
    refine xOk.pos (by decide) ?_
    refine xloop 64 (fun n (L : XI) q => f_M_most_190 F k72 n (Int32.ofNat r) (Int32.ofNat q) L) (fun q L => Same sc89 I0 L ∧ L 169 = K 169 ∧ ∀ x, x < q → L 168 x = K 169 x) ?_ ?_ F K 0 (by omega) (by omega) ⟨s1, rfl, fun x hx => absurd hx (by omega)⟩
    · rintro n L q hq ⟨g1, g2, g3⟩ ih
      show xOk (f_M_most_190 F k72 (n + 1) (Int32.ofNat r) (Int32.ofNat q) L) Q
      rw [f_M_most_190, nk_succ, nk_succ]
      refine xOk.neg (nk_nge hq (by decide)) (xOk.ck (nk_in hq (by omega)) (xOk.ck (nk_in hq (by omega)) (xOk.st (ih _ ⟨g1.put' rfl, by rw [xput_neo (by omega)]; exact g2, fun x hx => ?_⟩))))
      rw [nk_N (by omega), xput_at]
      by_cases e : x = q
      · rw [if_pos e, e, g2]
      · rw [if_neg e]; exact g3 x (by omega)
    · rintro n L ⟨g1, g2, g3⟩
      show xOk (f_M_most_190 F k72 (n + 1) (Int32.ofNat r) (Int32.ofNat 64) L) Q
      rw [f_M_most_190, nk_succ]
      refine xOk.pos (by decide) (hk L g1 (fun m hm => ?_))
      rw [g3 m hm]
      exact s3 m hm
theorem m_most {F : Nat} (hF : 4000000 ≤ F) {lv : Nat} {T : XT} {W : Nat → Int32} {I : XI} (hC : core lv T W I) : xOk (f_M_most F I) (fun r => r.1 = qMost T ∧ Same scM I r.2) := by
  have hC0 := hC
  obtain ⟨⟨hO, -, -⟩, ⟨hT, hM⟩, ⟨h4, hW, h6⟩, -, -⟩ := hC
  unfold f_M_most
  refine (m_copies hF hC0).bnd (fun J0 hJ0 => ?_)
  have hM0 := tbM_X hM hJ0.1.MX
  refine m_most_6 hF hM0 hO (fun K hK hRK => ?_) hJ0.2.1
  have hMK := tbM_X hM0 hK.MX
  have hW2 := W2_wf (T := T) hW
  have s0 : Same scM I K := hJ0.1.trans hK
  refine xloop 64 (fun n (L : XI) q => f_M_most_43 F n (Int32.ofNat q) L) (fun q L => Same sc89 K L ∧ ∀ x, x < q → L 168 x = if x = 0 then 0 else -1) ?_ ?_ F K 0 (by omega) (by omega) ⟨Same.rfl, fun x hx => absurd hx (by omega)⟩
  · rintro n L q hq ⟨g1, g2⟩ ih
    show xOk (f_M_most_43 F (n + 1) (Int32.ofNat q) L) _
    rw [f_M_most_43]
    refine xOk.neg (nk_nge hq (by decide)) ?_
    unfold f_M_most_63
    refine xOk.ck (nk_in hq (by omega)) (xOk.st ?_)
    rw [nk_succ]
    refine ih _ ⟨g1.put' rfl, fun x hx => ?_⟩
    rw [nk_N (by omega), xput_at]
    by_cases e : x = q
    · rw [if_pos e, e, show (0 : Int32) = Int32.ofNat 0 from rfl]
      by_cases e0 : q = 0
      · rw [if_pos e0, if_pos (by rw [e0])]
      · rw [if_neg e0, if_neg (by rw [nk_eq (by omega) (by omega)]; exact e0)]
    · rw [if_neg e]; exact g2 x (by omega)
  · rintro n L ⟨g1, g2⟩
    show xOk (f_M_most_43 F (n + 1) (Int32.ofNat 64) L) _
    rw [f_M_most_43]
    refine xOk.pos (by decide) ?_
    have hlv := hMK.1
    have h0 : ∀ m, m < 64 → isMx (rRow T 0 m) (L 168 m) := by
      intro m hm
      rw [g2 m hm]
      by_cases e : m = 0
      · rw [if_pos e, e]
        exact Or.inl ⟨0, ⟨rfl, rfl⟩, fun j hj => by rw [hj.2]; exact Nat.le_refl 0, rfl⟩
      · rw [if_neg e]
        exact Or.inr ⟨fun k h => e h.1, rfl⟩
    have hth := hO.2.1
    refine xloop (th T) (fun n (L : XI) r => f_M_most_72 F n (Int32.ofNat r) L) (fun r L => Same sc89 K L ∧ ∀ m, m < 64 → isMx (rRow T r m) (L 168 m)) ?_ ?_ F L 0 (by omega) (by omega) ⟨g1, h0⟩
    · rintro n L r hr ⟨q1, q2⟩ ih
      show xOk (f_M_most_72 F (n + 1) (Int32.ofNat r) L) _
      rw [f_M_most_72, q1 131 18 rfl, hlv.2, nk_N (by omega), q1 141 lv rfl, hMK.2.1.2.1]
      refine xOk.ck (nk_in hlv.1 (by omega)) (xOk.neg (by rw [nk_le (by omega) (by omega)]; omega) ?_)
      exact m_most_87 hF hMK hO hW2 hRK q1 (by omega) q2 (fun K' hK' hm => ih K' ⟨hK', hm⟩)
    · rintro n L ⟨q1, q2⟩
      show xOk (f_M_most_72 F (n + 1) (Int32.ofNat (th T)) L) _
      rw [f_M_most_72, q1 131 18 rfl, hlv.2, nk_N (by omega), q1 141 lv rfl, hMK.2.1.2.1]
      refine xOk.ck (nk_in hlv.1 (by omega)) (xOk.pos (Int32.le_refl _) ?_)
      refine xloop 64 (fun n (v : Int32) q => f_M_most_224 F n v (Int32.ofNat q) L) (fun q v => isMx (fun k => k = 0 ∨ ∃ m, m < q ∧ rRow T (th T) m k) v) ?_ ?_ F 0 0 (by omega) (by omega) ?_
      · intro n v q hq hP ih
        show xOk (f_M_most_224 F (n + 1) v (Int32.ofNat q) L) _
        rw [f_M_most_224, nk_succ]
        refine xOk.neg (nk_nge hq (by decide)) (xOk.ck (nk_in hq (by omega)) ?_)
        simp only [nk_N (show q < 2147483648 by omega)]
        have hh := isMx_congr (B := fun k => k = 0 ∨ ∃ m, m < q + 1 ∧ rRow T (th T) m k) (isMx_or hP (q2 q hq) (by
          rintro k ((h | ⟨m, hm, h⟩) | h)
          · omega
          · have := rRow_bd _ m k h; omega
          · have := rRow_bd _ q k h; omega)) (fun k => ⟨fun h => by
            rcases h with (h | ⟨m, hm, h⟩) | h
            · exact Or.inl h
            · exact Or.inr ⟨m, by omega, h⟩
            · exact Or.inr ⟨q, by omega, h⟩, fun h => by
            rcases h with h | ⟨m, hm, h⟩
            · exact Or.inl (Or.inl h)
            · by_cases e : m = q
              · rw [e] at h; exact Or.inr h
              · exact Or.inl (Or.inr ⟨m, by omega, h⟩)⟩)
        by_cases hle : L 168 q ≤ v
        · refine xOk.pos hle (ih v ?_)
          rwa [if_neg (Int32.not_lt.mpr hle)] at hh
        · refine xOk.neg hle (xOk.ck (nk_in hq (by omega)) (ih _ ?_))
          rwa [if_pos (Int32.not_le.mp hle)] at hh
      · intro n v hP
        show xOk (f_M_most_224 F (n + 1) v (Int32.ofNat 64) L) _
        rw [f_M_most_224]
        refine xOk.pos (Int32.le_refl _) (xOk.pur ⟨qMost_eq (isMx_congr hP (fun k => ?_)), s0.trans q1.M89⟩)
        rw [most_rows hO]
        refine ⟨fun h => ?_, fun h => Or.inr h⟩
        rcases h with h | h
        · rw [h]
          exact (most_rows hO 0).mp ⟨0, by omega, cR_zero 30⟩
        · exact h
      · exact Or.inl ⟨0, Or.inl rfl, fun j hj => by
          rcases hj with h | ⟨m, hm, h⟩
          · omega
          · omega, rfl⟩
