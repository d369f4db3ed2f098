/-! expressions: the reference runs as the machine -/
/-- what waits and what came out, fault or not -/
def wO (I : XI) (nc0 : Nat) (W : List Nat) (o : XP) (J : XI) : Prop := (okW W ∧ nop W ≤ 7) ∧ ((J 131 44 = Int32.ofNat W.length ∧ J 131 12 = Int32.ofNat (nop W)) ∧ ∀ j, j < W.length → J 159 (W.length - 1 - j) = Int32.ofNat (mk (W.getD j 0))) ∧ (J 131 40 = Int32.ofNat (nc0 + o.length) ∧ nc0 + o.length + W.length ≤ 830) ∧ (Same scN I J ∧ (∀ j, ¬ (nc0 ≤ j ∧ j < nc0 + o.length) → J 157 j = I 157 j ∧ J 158 j = I 158 j) ∧ ∀ j, j < o.length → J 157 (nc0 + j) = (o.getD j (0, 0)).1 ∧ J 158 (nc0 + j) = (o.getD j (0, 0)).2)
theorem wO_F3 {I : XI} {nc0 : Nat} {W : List Nat} {o : XP} {J K : XI} (h : wO I nc0 W o J) (hs : Same scF3 J K) : wO I nc0 W o K := by
  obtain ⟨h1, ⟨⟨h2, h3⟩, h4⟩, ⟨h5, h6⟩, h7, h8, h9⟩ := h
  refine ⟨h1, ⟨⟨(hs 131 44 rfl).trans h2, (hs 131 12 rfl).trans h3⟩, fun j hj => (hs 159 _ rfl).trans (h4 j hj)⟩, ⟨(hs 131 40 rfl).trans h5, h6⟩, h7.trans hs.F3, fun j hj => ?_, fun j hj => ?_⟩
  · rw [hs 157 j rfl, hs 158 j rfl]; exact h8 j hj
  · rw [hs 157 _ rfl, hs 158 _ rfl]; exact h9 j hj
theorem wO_emit {I : XI} {nc0 : Nat} {W : List Nat} {o : XP} {J : XI} {q : Int32 × Int32} (h : wO I nc0 W o J) (hb : nc0 + o.length + W.length < 830) : xOk (f_M_emit q.1 q.2 J) (fun K => wO I nc0 W (o ++ [q]) K ∧ (K 131 11 = J 131 11 ∧ K 131 13 = J 131 13 ∧ K 131 14 = J 131 14)) := by
  obtain ⟨h1, ⟨⟨h2, h3⟩, h4⟩, ⟨h5, h6⟩, h7, h8, h9⟩ := h
  have hl : (o ++ [q]).length = o.length + 1 := by rw [List.length_append]; rfl
  unfold f_M_emit
  rw [h5]
  refine xOk.ck (nk_in (by omega) (by omega)) (xOk.st ?_)
  rw [nk_N (by omega), xput_neo (show ¬ 131 = 157 by omega), h5]
  refine xOk.ck (nk_in (by omega) (by omega)) (xOk.st (xOk.st (xOk.pur ?_)))
  rw [nk_N (by omega), xput_neo (show ¬ 131 = 158 by omega), xput_neo (show ¬ 131 = 157 by omega), h5, nk_succ]
  have hs : Same scN J (xput (xput (xput J 157 (nc0 + o.length) q.1) 158 (nc0 + o.length) q.2) 131 40 (Int32.ofNat (nc0 + o.length + 1))) := ((Same.put rfl).put' rfl).put' rfl
  have e157 : ∀ j, xput (xput (xput J 157 (nc0 + o.length) q.1) 158 (nc0 + o.length) q.2) 131 40 (Int32.ofNat (nc0 + o.length + 1)) 157 j = if j = nc0 + o.length then q.1 else J 157 j := fun j => by
    rw [xput_neo (by omega), xput_neo (by omega), xput_at]
  have e158 : ∀ j, xput (xput (xput J 157 (nc0 + o.length) q.1) 158 (nc0 + o.length) q.2) 131 40 (Int32.ofNat (nc0 + o.length + 1)) 158 j = if j = nc0 + o.length then q.2 else J 158 j := fun j => by
    rw [xput_neo (by omega), xput_at, xput_neo (show ¬ 158 = 157 by omega)]
  have e131 : ∀ j, ¬ j = 40 → xput (xput (xput J 157 (nc0 + o.length) q.1) 158 (nc0 + o.length) q.2) 131 40 (Int32.ofNat (nc0 + o.length + 1)) 131 j = J 131 j := fun j hj => by
    rw [xput_at, if_neg hj, xput_neo (by omega), xput_neo (by omega)]
  have e159 : xput (xput (xput J 157 (nc0 + o.length) q.1) 158 (nc0 + o.length) q.2) 131 40 (Int32.ofNat (nc0 + o.length + 1)) 159 = J 159 := by
    rw [xput_neo (by omega), xput_neo (by omega), xput_neo (by omega)]
  refine ⟨⟨h1, ⟨⟨(e131 44 (by omega)).trans h2, (e131 12 (by omega)).trans h3⟩, fun j hj => ?_⟩, ⟨by rw [xput_eq, hl]; rfl, by omega⟩, h7.trans hs, fun j hj => ?_, fun j hj => ?_⟩, e131 11 (by omega), e131 13 (by omega), e131 14 (by omega)⟩
  · rw [e159]; exact h4 j hj
  · rw [hl] at hj
    rw [e157, e158, if_neg (by omega), if_neg (by omega)]
    exact h8 j (by omega)
  · rw [hl] at hj
    rw [e157, e158]
    by_cases e : j = o.length
    · rw [if_pos (by omega), if_pos (by omega), e]
      have := gD_r (o := o) (p := [q]) (j := 0) (d := (0, 0))
      rw [Nat.add_zero] at this
      rw [this]
      exact ⟨rfl, rfl⟩
    · rw [if_neg (by omega), if_neg (by omega), gD_l (by omega)]
      exact h9 j (by omega)
theorem wO_pop {I : XI} {nc0 w : Nat} {W : List Nat} {o : XP} {J : XI} (h : wO I nc0 (w :: W) o J) (hw : ¬ w = 40) : wO I nc0 W o (xput J 131 44 (Int32.ofNat W.length)) := by
  obtain ⟨⟨h1, h1'⟩, ⟨⟨h2, h3⟩, h4⟩, ⟨h5, h6⟩, h7, h8, h9⟩ := h
  have en : nop (w :: W) = nop W := by
    show nop W + (if w = 40 then 1 else 0) = nop W
    rw [if_neg hw]; rfl
  rw [en] at h1' h3
  have hs : Same scN J (xput J 131 44 (Int32.ofNat W.length)) := Same.put rfl
  refine ⟨⟨h1.1, h1'⟩, ⟨⟨xput_eq, by rw [xput_ne (by omega)]; exact h3⟩, fun j hj => ?_⟩, ⟨by rw [xput_ne (by omega)]; exact h5, ?_⟩, h7.trans hs, fun j hj => ?_, fun j hj => ?_⟩
  · rw [xput_neo (by omega)]
    have := h4 (j + 1) (by show j + 1 < W.length + 1; omega)
    rw [show (w :: W).length - 1 - (j + 1) = W.length - 1 - j by show W.length + 1 - 1 - (j + 1) = _; omega] at this
    exact this
  · have h6 : nc0 + o.length + (W.length + 1) ≤ 830 := h6
    omega
  · rw [xput_neo (by omega), xput_neo (by omega)]; exact h8 j hj
  · rw [xput_neo (by omega), xput_neo (by omega)]; exact h9 j hj
theorem m_comes {F : Nat} {I : XI} {nc0 : Nat} {s : Bool} : ∀ (W : List Nat) (m : Nat) (o : XP) (J : XI), W.length < m → nc0 + o.length + W.length < 830 → wO I nc0 W o J → xOk (f_M_comesOut_0 F m (b2 s) J) (fun K => wO I nc0 (fl s W o).1 (fl s W o).2 K ∧ (K 131 11 = J 131 11 ∧ K 131 13 = J 131 13 ∧ K 131 14 = J 131 14)) := by
  intro W
  induction W with
  | nil =>
    intro m o J hm hb h
    obtain ⟨m, rfl⟩ : ∃ k, m = k + 1 := ⟨m - 1, by have : 0 < m := hm; omega⟩
    rw [f_M_comesOut_0]
    exact xOk.pos (by rw [h.2.1.1.1]; exact Int32.le_refl _) (xOk.pur ⟨h, rfl, rfl, rfl⟩)
  | cons w W ih =>
    intro m o J hm hb h
    have hm : W.length + 1 < m := hm
    have hb : nc0 + o.length + (W.length + 1) < 830 := hb
    obtain ⟨m, rfl⟩ : ∃ k, m = k + 1 := ⟨m - 1, by omega⟩
    have hok := h.1.1
    have hlen : (w :: W).length = W.length + 1 := rfl
    have h44 : J 131 44 = Int32.ofNat (W.length + 1) := h.2.1.1.1
    have hll := (okW_len (w :: W) h.1.1).1
    have hnop := h.1.2
    rw [hlen] at hll
    have hw : J 159 W.length = Int32.ofNat (mk w) := by
      have := h.2.1.2 0 (by rw [hlen]; omega)
      rw [hlen] at this
      exact this
    rw [f_M_comesOut_0, h44]
    have hsub : Int32.ofNat (W.length + 1) - 1 = Int32.ofNat W.length := by
      rw [show (1 : Int32) = Int32.ofNat 1 from rfl, nk_sub (by omega), Nat.add_sub_cancel]
    rw [hsub, nk_N (by omega), hw]
    refine xOk.neg (show ¬ Int32.ofNat (W.length + 1) ≤ Int32.ofNat 0 from nk_nge (by omega) (by omega)) (xOk.ck (nk_in (by omega) (by omega)) ?_)
    have h42 : (Nat.beq w 40 || (s && isAdd w)) = false → (isMul w || isAdd w) = true → xOk (f_M_comesOut_42 F (fun v1 I => f_M_comesOut_0 F m v1 I) (b2 s) (Int32.ofNat (mk w)) J) (fun K => wO I nc0 (fl s (w :: W) o).1 (fl s (w :: W) o).2 K ∧ (K 131 11 = J 131 11 ∧ K 131 13 = J 131 13 ∧ K 131 14 = J 131 14)) := by
      intro hgo hop
      rw [fl_go hgo]
      have hp := wO_pop h (mul_n40 hop).1
      have h84 : ∀ k : Int32, k = (opt w).1 → xOk (f_M_comesOut_84 F (fun v1 I => f_M_comesOut_0 F m v1 I) (b2 s) k (xput J 131 44 (Int32.ofNat W.length))) (fun K => wO I nc0 (fl s W (o ++ [opt w])).1 (fl s W (o ++ [opt w])).2 K ∧ (K 131 11 = J 131 11 ∧ K 131 13 = J 131 13 ∧ K 131 14 = J 131 14)) := by
        intro k hk
        unfold f_M_comesOut_84
        rw [hk]
        refine (wO_emit (q := opt w) hp (by omega)).bnd (fun K hK => ?_)
        obtain ⟨k1, k2, k3, k4⟩ := hK
        rw [xput_ne (by omega)] at k2 k3 k4
        refine (ih m (o ++ [opt w]) K (by omega) (by rw [List.length_append]; show nc0 + (o.length + 1) + W.length < 830; omega) k1).mono (fun K' hK' => ⟨hK'.1, ?_⟩)
        rw [hK'.2.1, hK'.2.2.1, hK'.2.2.2]
        exact ⟨k2, k3, k4⟩
      unfold f_M_comesOut_42
      refine xOk.st ?_
      rw [h44, hsub]
      have : w = 42 ∨ w = 47 ∨ w = 43 ∨ w = 45 := by
        rcases Bool.or_eq_true_iff.mp hop with h | h
        · rcases isMul_iff.mp h with h | h
          · exact Or.inl h
          · exact Or.inr (Or.inl h)
        · rcases isAdd_iff.mp h with h | h
          · exact Or.inr (Or.inr (Or.inl h))
          · exact Or.inr (Or.inr (Or.inr h))
      rcases this with rfl | rfl | rfl | rfl
      · exact xOk.neg (by decide) (xOk.neg (by decide) (h84 _ (by decide)))
      · exact xOk.neg (by decide) (xOk.neg (by decide) (h84 _ (by decide)))
      · exact xOk.pos rfl (h84 _ (by decide))
      · exact xOk.neg (by decide) (xOk.pos rfl (h84 _ (by decide)))
    rcases hok.2 with rfl | ⟨hmu, -⟩ | ⟨had, -⟩
    · refine xOk.pos rfl (xOk.pur ?_)
      rw [fl_stop (show (Nat.beq 40 40 || (s && isAdd 40)) = true from rfl)]
      exact ⟨h, rfl, rfl, rfl⟩
    · have hop : (isMul w || isAdd w) = true := by rw [hmu]; rfl
      have hgo : (Nat.beq w 40 || (s && isAdd w)) = false := by
        rcases isMul_iff.mp hmu with rfl | rfl <;> cases s <;> rfl
      have n689 : ¬ Int32.ofNat (mk w) = 6 ∧ ¬ Int32.ofNat (mk w) = 8 ∧ ¬ Int32.ofNat (mk w) = 9 := by
        rcases isMul_iff.mp hmu with rfl | rfl <;> decide
      refine xOk.neg n689.1 ?_
      cases s with
      | false => exact xOk.pos rfl (h42 hgo hop)
      | true => exact xOk.neg (by decide) (xOk.neg n689.2.1 (xOk.neg n689.2.2 (h42 hgo hop)))
    · have hop : (isMul w || isAdd w) = true := by rw [had, Bool.or_true]
      cases s with
      | false =>
        have hgo : (Nat.beq w 40 || (false && isAdd w)) = false := by
          rcases isAdd_iff.mp had with rfl | rfl <;> rfl
        have n6 : ¬ Int32.ofNat (mk w) = 6 := by
          rcases isAdd_iff.mp had with rfl | rfl <;> decide
        exact xOk.neg n6 (xOk.pos rfl (h42 hgo hop))
      | true =>
        have hst : (Nat.beq w 40 || (true && isAdd w)) = true := by
          rcases isAdd_iff.mp had with rfl | rfl <;> rfl
        have fin : wO I nc0 (fl true (w :: W) o).1 (fl true (w :: W) o).2 J ∧ (J 131 11 = J 131 11 ∧ J 131 13 = J 131 13 ∧ J 131 14 = J 131 14) := by
          rw [fl_stop hst]
          exact ⟨h, rfl, rfl, rfl⟩
        rcases isAdd_iff.mp had with rfl | rfl
        · exact xOk.neg (by decide) (xOk.neg (by decide) (xOk.pos rfl (xOk.pur fin)))
        · exact xOk.neg (by decide) (xOk.neg (by decide) (xOk.neg (by decide) (xOk.pos rfl (xOk.pur fin))))
