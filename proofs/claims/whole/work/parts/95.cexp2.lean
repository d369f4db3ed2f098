/-! expressions: the class runs as the machine -/
def nOp (k : Nat) : Prop := (isMul k || isAdd k) = false
def nMu (k : Nat) : Prop := isMul k = false
def upE (b : Nat → Int32) (n h : Nat) (I : XI) (sz0 t : Nat) (W : List Nat) (o : XP) (cond : Nat → Prop) (J : XI) : Prop :=
  (∃ t' x, (cE b n I sz0 t' (o ++ x) J ∧ t < t' ∧ x.length ≤ t' - t) ∧ (rp h x 0 1 ∧ cond (kd b n t')) ∧ ∀ r, ends b n (false, t', W, o ++ x) r → ends b n (true, t, W, o) r) ∨ (∃ e, bdE b n e I J ∧ ends b n (true, t, W, o) (Sum.inl e))
theorem upE_bad {b : Nat → Int32} {n h : Nat} {I J : XI} {sz0 t : Nat} {W : List Nat} {o : XP} {cond : Nat → Prop} {e : Nat × Nat} (h1 : bdE b n e I J) (h2 : ends b n (true, t, W, o) (Sum.inl e)) : upE b n h I sz0 t W o cond J := Or.inr ⟨e, h1, h2⟩
theorem c_atom {b : Nat → Int32} {n h : Nat} {I : XI} {sz0 t : Nat} {W : List Nat} {o : XP} {J : XI} {q : Int32 × Int32} (hh : 1 ≤ h) (hc : cE b n I sz0 t o J) (hA : stA b n t W o = nxE t (false, t + 1, W, o ++ [q])) (hq : atO q) {w : XI → Int32} {k : Nat} (hk : kd b n t = k) (h2 : 1 < k) (hw : ∀ K, gd b n (t + 1) K → w K = cwd q) : xOk (f_Reader_accept (Int32.ofNat k) J) (fun r => xOk (f_Laws_emit 11 (w r.2) r.2) (upE b n h I sz0 t W o (fun _ => True))) := by
  have hkd := kd_lt b n t
  refine (gd_accept hc.1.1 h2 (by omega)).mono (fun r hr => ?_)
  unfold acR at hr
  rw [if_pos hk] at hr
  by_cases e : t = 400
  · rw [if_pos e] at hr
    obtain ⟨r1, r2, r3⟩ := hr
    refine (bdE_emit (cE_bd hc r1 r3)).mono (fun K hK => upE_bad hK (ends_done ?_))
    show stA b n t W o = _
    rw [hA]
    unfold nxE
    rw [if_pos e]
  · rw [if_neg e] at hr
    obtain ⟨r1, r2, r3⟩ := hr
    refine (cE_emit (cE_gd hc r1 r3 (by omega)) (hw _ r3) (by have := hc.1.2; omega)).mono (fun K hK => Or.inl ⟨t + 1, [q], ⟨hK, by omega, ?_⟩, ⟨Or.inl ⟨hq, hh, rfl⟩, trivial⟩, fun r hr => ends_step ?_ hr⟩)
    · show 1 ≤ t + 1 - t
      omega
    · show stA b n t W o = _
      rw [hA]
      unfold nxE
      rw [if_neg e]
theorem c_unit {F : Nat} {C : Int32 → XI → Option XI} {b : Nat → Int32} {n : Nat} {I : XI} {sz0 d : Nat} (hd : d ≤ 6) (hC : d < 6 → ∀ t W o J, nop W = d + 1 → top2 W → cE b n I sz0 t o J → xOk (C (Int32.ofNat (d + 1)) J) (upE b n (13 - 2 * d) I sz0 t W o nOp)) {t : Nat} {W : List Nat} {o : XP} {J : XI} (hW : nop W = d) (hc : cE b n I sz0 t o J) : xOk (f_Reader_readUnit F C (Int32.ofNat d) J) (upE b n (13 - 2 * d) I sz0 t W o (fun _ => True)) := by
  have hkd := kd_lt b n t
  have ht := hc.1.1.1.1
  unfold f_Reader_readUnit
  refine xOk.bnde (gd_kind hc.1.1) ?_
  have key : ∀ v : Nat, v < 121 → (Int32.ofNat (kd b n t) = Int32.ofNat v) = (kd b n t = v) := fun v hv => nk_eq (by omega) (by omega)
  have h82 : ¬ kd b n t = 3 → ¬ (112 ≤ kd b n t ∧ kd b n t ≤ 120) → xOk (f_Reader_readUnit_82 F C (Int32.ofNat d) (Int32.ofNat (kd b n t)) J) (upE b n (13 - 2 * d) I sz0 t W o (fun _ => True)) := by
    intro n3 nv
    unfold f_Reader_readUnit_82
    by_cases e40 : kd b n t = 40
    · refine xOk.pos (by rw [e40]; rfl) ?_
      by_cases e6 : d < 6
      · refine xOk.pos (nk_lt_t (b := 6) e6 (by omega)) ?_
        have hA : stA b n t W o = nxE t (true, t + 1, 40 :: W, o) := by
          unfold stA
          rw [if_pos e40, if_neg (by omega)]
        refine (gd_accept (k := 40) hc.1.1 (by omega) (by omega)).bnd (fun r hr => ?_)
        unfold acR at hr
        rw [if_pos e40] at hr
        by_cases e : t = 400
        · rw [if_pos e] at hr
          obtain ⟨r1, r2, r3⟩ := hr
          refine xOk.pos r2 (xOk.pur (upE_bad (cE_bd hc r1 r3) (ends_done ?_)))
          show stA b n t W o = _
          rw [hA]
          unfold nxE
          rw [if_pos e]
        · rw [if_neg e] at hr
          obtain ⟨r1, r2, r3⟩ := hr
          have hstep : ∀ x, ends b n (true, t + 1, 40 :: W, o) x → ends b n (true, t, W, o) x := by
            intro x hx
            refine ends_step ?_ hx
            show stA b n t W o = _
            rw [hA]
            unfold nxE
            rw [if_neg e]
          refine xOk.neg (by rw [r2]; decide) ?_
          rw [nk_succ]
          refine (hC e6 (t + 1) (40 :: W) o r.2 (by show nop W + 1 = d + 1; rw [hW]) top2_par (cE_gd hc r1 r3 (by omega))).bnd (fun K hK => ?_)
          rcases hK with ⟨t', x, ⟨x1, x2, x3⟩, ⟨x4, x5⟩, x6⟩ | ⟨e', x1, x2⟩
          · have hB : stE b n (false, t', 40 :: W, o ++ x) = if kd b n t' = 41 then nxE t' (false, t' + 1, W, o ++ x) else Sum.inl (Sum.inl (1, t')) := by
              show stB b n t' (40 :: W) (o ++ x) = _
              unfold stB
              have h0 : 0 < nop (40 :: W) := by show 0 < nop W + 1; omega
              by_cases e41 : kd b n t' = 41
              · rw [if_pos ⟨e41, h0⟩, if_pos e41]
                rfl
              · rw [if_neg (fun h => e41 h.1), if_neg e41, x5, if_neg (by decide), if_pos h0]
            refine (gd_accept (k := 41) x1.1.1 (by omega) (by omega)).bnd (fun q hq => xOk.pur ?_)
            unfold acR at hq
            by_cases e41 : kd b n t' = 41
            · rw [if_pos e41] at hq hB
              by_cases e4 : t' = 400
              · rw [if_pos e4] at hq
                obtain ⟨q1, q2, q3⟩ := hq
                refine upE_bad (cE_bd x1 q1 q3) (hstep _ (x6 _ (ends_done ?_)))
                rw [hB]
                unfold nxE
                rw [if_pos e4]
              · rw [if_neg e4] at hq
                obtain ⟨q1, q2, q3⟩ := hq
                refine Or.inl ⟨t' + 1, x, ⟨cE_gd x1 q1 q3 (by omega), by omega, by omega⟩, ⟨x4, trivial⟩, fun y hy => hstep _ (x6 _ (ends_step ?_ hy))⟩
                rw [hB]
                unfold nxE
                rw [if_neg e4]
            · rw [if_neg e41] at hq hB
              obtain ⟨q1, q2, q3⟩ := hq
              exact upE_bad (cE_bd x1 q1 q3) (hstep _ (x6 _ (ends_done hB)))
          · exact xOk.bnde (bd_accept x1.1) (xOk.pur (upE_bad x1 (hstep _ x2)))
      · refine xOk.neg (nk_lt_f (b := 6) (by omega) (by omega)) ((gd_fail (k := 2) hc.1.1 (Or.inr rfl)).bnd (fun K hK => xOk.pur (upE_bad (cE_bd hc hK.2 hK.1) (ends_done ?_))))
        show stA b n t W o = _
        unfold stA
        rw [if_pos e40, if_pos (by omega)]
    · refine xOk.neg (by rw [show (40 : Int32) = Int32.ofNat 40 from rfl, key 40 (by omega)]; exact e40) ((gd_fail (k := 1) hc.1.1 (Or.inl rfl)).bnd (fun K hK => xOk.pur (upE_bad (cE_bd hc hK.2 hK.1) (ends_done ?_))))
      show stA b n t W o = _
      unfold stA
      rw [if_neg e40, if_neg n3, if_neg nv]
  have hh : 1 ≤ 13 - 2 * d := by omega
  by_cases e3 : kd b n t = 3
  · refine xOk.pos (by rw [e3]; rfl) ?_
    have hA : stA b n t W o = nxE t (false, t + 1, W, o ++ [(0, vl b n t)]) := by
      unfold stA
      rw [if_neg (by omega), if_pos e3]
    refine (c_atom hh hc hA (Or.inl ⟨rfl, vl_ok e3⟩) (w := fun K => K 5 (xN (J 6 2))) (k := 3) e3 (by omega) (fun K hK => ?_)).bnd (fun r hr => ?_)
    · show K 5 (xN (J 6 2)) = vl b n t
      rw [hc.1.1.2.1.1, nk_N (by omega)]
      exact (hK.2.2 t hc.1.1.1).2.1 e3
    · refine xOk.ck (by rw [hc.1.1.2.1.1]; exact nk_in (by omega) (by omega)) (hr.bnd (fun K hK => xOk.pur hK))
  · refine xOk.neg (by rw [show (3 : Int32) = Int32.ofNat 3 from rfl, key 3 (by omega)]; exact e3) ?_
    by_cases e1 : kd b n t < 112
    · exact xOk.pos (nk_lt_t (b := 112) e1 (by omega)) (h82 e3 (by omega))
    · refine xOk.neg (nk_lt_f (b := 112) (by omega) (by omega)) (xOk.neg (nk_lt_f (a := 120) (by omega) (by omega)) ?_)
      have hA : stA b n t W o = nxE t (false, t + 1, W, o ++ [(1, Int32.ofNat (kd b n t - 112))]) := by
        unfold stA
        rw [if_neg (by omega), if_neg e3, if_pos (by omega)]
      refine (c_atom hh hc hA (Or.inr ⟨rfl, kd b n t - 112, by omega, rfl⟩) (w := fun _ => 10000 + Int32.ofNat (kd b n t) - 112) (k := kd b n t) rfl (by omega) (fun K hK => ?_)).bnd (fun r hr => hr.bnd (fun K hK => xOk.pur hK))
      show (10000 : Int32) + Int32.ofNat (kd b n t) - 112 = 10000 + Int32.ofNat (kd b n t - 112)
      rw [show (10000 : Int32) = Int32.ofNat 10000 from rfl, nk_add, nk_add, show (112 : Int32) = Int32.ofNat 112 from rfl, nk_sub (by omega), show 10000 + kd b n t - 112 = 10000 + (kd b n t - 112) by omega]
theorem cw_op {w : Nat} (h : (isMul w || isAdd w) = true) : (20000 : Int32) + Int32.ofNat w = cwd (opt w) := by
  unfold isMul isAdd at h
  simp only [Bool.or_eq_true] at h
  have : w = 42 ∨ w = 47 ∨ w = 43 ∨ w = 45 := by
    rcases h with (h | h) | (h | h)
    · exact Or.inl (Nat.eq_of_beq_eq_true h)
    · exact Or.inr (Or.inl (Nat.eq_of_beq_eq_true h))
    · exact Or.inr (Or.inr (Or.inl (Nat.eq_of_beq_eq_true h)))
    · exact Or.inr (Or.inr (Or.inr (Nat.eq_of_beq_eq_true h)))
  rcases this with rfl | rfl | rfl | rfl <;> decide
/-- one turn of a loop: a sign, what follows, the sign's word -/
theorem c_turn {b : Nat → Int32} {n h1 h2 : Nat} {I : XI} {sz0 t t1 : Nat} {W : List Nat} {o x : XP} {J : XI} {G : XI → Option XI} {cond : Nat → Prop} (hx : rp (h1 + 1) x 0 1) (h12 : h2 = h1) (hc : cE b n I sz0 t1 (o ++ x) J) (htt : t < t1 ∧ x.length ≤ t1 - t) (hop : (isMul (kd b n t1) || isAdd (kd b n t1)) = true)
    (hst : stE b n (false, t1, W, o ++ x) = nxE t1 (true, t1 + 1, kd b n t1 :: W, o ++ x))
    (hG : ∀ K, cE b n I sz0 (t1 + 1) (o ++ x) K → xOk (G K) (upE b n h2 I sz0 (t1 + 1) (kd b n t1 :: W) (o ++ x) cond))
    (hGb : ∀ e K, bdE b n e I K → xOk (G K) (fun K' => bdE b n e I K'))
    (hcomm : ∀ t2 o', cond (kd b n t2) → stE b n (false, t2, kd b n t1 :: W, o') = stE b n (false, t2, W, o' ++ [opt (kd b n t1)]))
    (hends : ∀ r, ends b n (false, t1, W, o ++ x) r → ends b n (true, t, W, o) r) :
    xOk (f_Reader_accept (Int32.ofNat (kd b n t1)) J) (fun q7 => xOk (G q7.2) (fun q8 => xOk (f_Laws_emit 11 (20000 + Int32.ofNat (kd b n t1)) q8) (fun K => (∃ t' y, (cE b n I sz0 t' (o ++ y) K ∧ t < t' ∧ y.length ≤ t' - t) ∧ (rp (h1 + 1) y 0 1 ∧ cond (kd b n t')) ∧ (t1 < t' ∧ ∀ r, ends b n (false, t', W, o ++ y) r → ends b n (true, t, W, o) r)) ∨ (∃ e, bdE b n e I K ∧ ends b n (true, t, W, o) (Sum.inl e))))) := by
  have hn := mul_n40 hop
  refine (gd_accept (k := kd b n t1) hc.1.1 (by omega) hn.2.2.2.2.1).mono (fun q7 hq => ?_)
  unfold acR at hq
  rw [if_pos rfl] at hq
  by_cases e : t1 = 400
  · rw [if_pos e] at hq
    obtain ⟨r1, r2, r3⟩ := hq
    refine (hGb _ _ (cE_bd hc r1 r3)).mono (fun q8 h8 => (bdE_emit h8).mono (fun K hK => Or.inr ⟨_, hK, hends _ (ends_done ?_)⟩))
    rw [hst]
    unfold nxE
    rw [if_pos e]
  · rw [if_neg e] at hq
    obtain ⟨r1, r2, r3⟩ := hq
    have hstep : ∀ r, ends b n (true, t1 + 1, kd b n t1 :: W, o ++ x) r → ends b n (true, t, W, o) r := by
      intro r hr
      refine hends _ (ends_step ?_ hr)
      rw [hst]
      unfold nxE
      rw [if_neg e]
    refine (hG _ (cE_gd hc r1 r3 (by omega))).mono (fun q8 h8 => ?_)
    rcases h8 with ⟨t2, y, ⟨y1, y2, y3⟩, ⟨y4, y5⟩, y6⟩ | ⟨e', y1, y2⟩
    · have hlen : (o ++ x ++ y).length = (o ++ x).length + y.length := List.length_append
      have := hc.1.2
      refine (cE_emit y1 (cw_op hop) (by omega)).mono (fun K hK => Or.inl ⟨t2, x ++ y ++ [opt (kd b n t1)], ⟨?_, by omega, ?_⟩, ⟨rp_op hx (by rw [h12] at y4; exact y4) hop, y5⟩, by omega, fun r hr => hstep _ (y6 _ (ends_congr (hcomm t2 _ y5) ?_))⟩)
      · rw [← List.append_assoc, ← List.append_assoc]; exact hK
      · rw [List.length_append, List.length_append]
        show x.length + y.length + 1 ≤ t2 - t
        omega
      · rw [← List.append_assoc, ← List.append_assoc] at hr; exact hr
    · exact (bdE_emit y1).mono (fun K hK => Or.inr ⟨e', hK, hstep _ y2⟩)
