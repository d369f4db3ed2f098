/-! the law's loop -/
theorem lw_end {L k : Nat} (hL : L ≤ 3584) (hk : k ≤ 4000) (h : ¬ (Int32.ofNat L - 7 < Int32.ofNat k)) : k + 7 ≤ L := by
  by_cases h7 : 7 ≤ L
  · rw [nl7, nk_sub h7, nk_lt (by omega) (by omega)] at h
    omega
  · exfalso
    apply h
    have : L = 0 ∨ L = 1 ∨ L = 2 ∨ L = 3 ∨ L = 4 ∨ L = 5 ∨ L = 6 := by omega
    have hn : Int32.ofNat L - 7 < 0 := by
      rcases this with rfl | rfl | rfl | rfl | rfl | rfl | rfl <;> decide
    have hp : (0 : Int32) ≤ Int32.ofNat k := by rw [nl0, nk_le (by omega) (by omega)]; omega
    rw [Int32.lt_iff_toInt_lt] at hn ⊢
    rw [Int32.le_iff_toInt_le] at hp
    omega
theorem lw_word {w : Int32} (h : ¬ (w < 0 ∨ 39 < w)) : ∃ k, k ≤ 39 ∧ w = Int32.ofNat k := by
  have h0 : rng w 0 (Int32.ofNat 39) = true := by
    unfold rng
    rw [Bool.and_eq_true, decide_eq_true_eq, decide_eq_true_eq]
    constructor
    · rw [Int32.le_iff_toInt_le]
      have : ¬ w < 0 := fun e => h (Or.inl e)
      rw [Int32.lt_iff_toInt_lt] at this
      omega
    · rw [Int32.le_iff_toInt_le]
      have : ¬ (39 : Int32) < w := fun e => h (Or.inr e)
      rw [Int32.lt_iff_toInt_lt] at this
      have e : (Int32.ofNat 39) = (39 : Int32) := rfl
      rw [e]
      omega
  exact rng_ex (by omega) h0
theorem law_loop {X : XX} {F : Nat} (hF : 4000000 ≤ F) (hL : X.1 ≤ 3584) : ∀ n i, 7 * i ≤ 3591 → 3591 < 7 * (i + n) → lwG F (f_law_18 X F n (Int32.ofNat (7 * i))) := by
  intro n
  induction n with
  | zero => intro i h1 h2; omega
  | succ n ih =>
    intro i h1 h2 I L hI hK
    rw [f_law_18]
    refine xOk.ite (fun _ => xOk.pur (Eq.refl _)) (fun hc => ?_)
    have hend := lw_end hL (by omega) hc
    have b0 : xin (Int32.ofNat (7 * i)) X.1 = true := nk_in (by omega) (by omega)
    have bs : ∀ j, j < 7 → xin (Int32.ofNat (7 * i) + Int32.ofNat j) X.1 = true := fun j hj => by
      rw [nk_add]; exact nk_in (by omega) (by omega)
    have hnext : ∀ I L, Inv F I → keysR L → xOk (f_law_18 X F n (Int32.ofNat (7 * i) + 7) I L) (fun r => r.1 = 1) := fun I L hI hK => by
      rw [nl7, nk_add, show 7 * i + 7 = 7 * (i + 1) by omega]
      exact ih (i + 1) (by omega) (by omega) I L hI hK
    have hP : lwP X F (fun v3 I L => f_law_18 X F n v3 I L) (Int32.ofNat (7 * i)) := ⟨⟨bs 1 (by omega), bs 2 (by omega), bs 3 (by omega), bs 4 (by omega), bs 5 (by omega), bs 6 (by omega)⟩, hnext⟩
    refine xOk.ck b0 (xOk.ite (fun _ => hnext I L hI hK) (fun hw => ?_))
    obtain ⟨k, hk, hwk⟩ := lw_word hw
    generalize X.2 (xN (Int32.ofNat (7 * i))) &&& 63 = w at hwk ⊢
    subst hwk
    refine xOk.ite (fun _ => lw_208 hF hP I L hI hK) (fun n0 => ?_)
    refine xOk.ite (fun _ => lw_271 hF hP I L hI hK) (fun n1 => ?_)
    refine xOk.ite (fun _ => lw_294 hF hP I L hI hK) (fun n2 => ?_)
    refine xOk.ite (fun _ => lw_307 hF hP I L hI hK) (fun n3 => ?_)
    refine xOk.ite (fun _ => lw_320 hF hP I L hI hK) (fun n4 => ?_)
    refine xOk.ite (fun _ => lw_363 hF hP I L hI hK) (fun n5 => ?_)
    refine xOk.ite (fun _ => lw_406 hF hP I L hI hK) (fun n6 => ?_)
    refine xOk.ite (fun _ => lw_449 hF hP I L hI hK) (fun n7 => ?_)
    refine xOk.ite (fun _ => lw_482 hF hP I L hI hK) (fun n8 => ?_)
    refine xOk.ite (fun _ => lw_515 hF hP I L hI hK) (fun n9 => ?_)
    refine xOk.ite (fun _ => lw_548 hF hP I L hI hK) (fun n10 => ?_)
    refine xOk.ite (fun _ => lw_601 hF hP I L hI hK) (fun n11 => ?_)
    refine xOk.ite (fun _ => lw_624 hF hP I L hI hK) (fun n12 => ?_)
    refine xOk.ite (fun _ => lw_637 hF hP I L hI hK) (fun n13 => ?_)
    refine xOk.ite (fun _ => lw_670 hF hP I L hI hK) (fun n14 => ?_)
    refine xOk.ite (fun _ => lw_713 hF hP I L hI hK) (fun n15 => ?_)
    refine xOk.ite (fun _ => lw_756 hF hP I L hI hK) (fun n16 => ?_)
    refine xOk.ite (fun _ => lw_779 hF hP I L hI hK) (fun n17 => ?_)
    refine xOk.ite (fun _ => lw_792 hF hP I L hI hK) (fun n18 => ?_)
    refine xOk.ite (fun _ => lw_825 hF hP I L hI hK) (fun n19 => ?_)
    refine xOk.ite (fun _ => lw_848 hF hP I L hI hK) (fun n20 => ?_)
    refine xOk.ite (fun _ => lw_891 hF hP I L hI hK) (fun n21 => ?_)
    refine xOk.ite (fun _ => lw_944 hF hP I L hI hK) (fun n22 => ?_)
    refine xOk.ite (fun _ => lw_997 hF hP I L hI hK) (fun n23 => ?_)
    refine xOk.ite (fun _ => lw_1010 hF hP I L hI hK) (fun n24 => ?_)
    refine xOk.ite (fun _ => lw_1043 hF hP I L hI hK) (fun n25 => ?_)
    refine xOk.ite (fun _ => lw_1056 hF hP I L hI hK) (fun n26 => ?_)
    refine xOk.ite (fun _ => lw_1069 hF hP I L hI hK) (fun n27 => ?_)
    refine xOk.ite (fun _ => lw_1092 hF hP I L hI hK) (fun n28 => ?_)
    refine xOk.ite (fun _ => lw_1115 hF hP I L hI hK) (fun n29 => ?_)
    refine xOk.ite (fun _ => lw_1148 hF hP I L hI hK) (fun n30 => ?_)
    refine xOk.ite (fun _ => lw_1161 hF hP I L hI hK) (fun n31 => ?_)
    refine xOk.ite (fun _ => lw_1236 hF hP I L hI hK) (fun n32 => ?_)
    refine xOk.ite (fun _ => lw_1269 hF hP I L hI hK) (fun n33 => ?_)
    refine xOk.ite (fun _ => lw_1282 hF hP I L hI hK) (fun n34 => ?_)
    refine xOk.ite (fun _ => lw_1305 hF hP I L hI hK) (fun n35 => ?_)
    refine xOk.ite (fun _ => lw_1328 hF hP I L hI hK) (fun n36 => ?_)
    refine xOk.ite (fun _ => lw_1351 hF hP I L hI hK) (fun n37 => ?_)
    refine xOk.ite (fun _ => lw_1374 hF hP I L hI hK) (fun n38 => ?_)
    refine xOk.ite (fun _ => lw_1397 hF hP I L hI hK) (fun n39 => ?_)
    exfalso
    have ne : ∀ j, j ≤ 39 → ¬ (Int32.ofNat k = Int32.ofNat j) → ¬ k = j := fun j _ h e => h (by rw [e])
    have m0 := ne 0 (by omega) n0
    have m1 := ne 1 (by omega) n1
    have m2 := ne 2 (by omega) n2
    have m3 := ne 3 (by omega) n3
    have m4 := ne 4 (by omega) n4
    have m5 := ne 5 (by omega) n5
    have m6 := ne 6 (by omega) n6
    have m7 := ne 7 (by omega) n7
    have m8 := ne 8 (by omega) n8
    have m9 := ne 9 (by omega) n9
    have m10 := ne 10 (by omega) n10
    have m11 := ne 11 (by omega) n11
    have m12 := ne 12 (by omega) n12
    have m13 := ne 13 (by omega) n13
    have m14 := ne 14 (by omega) n14
    have m15 := ne 15 (by omega) n15
    have m16 := ne 16 (by omega) n16
    have m17 := ne 17 (by omega) n17
    have m18 := ne 18 (by omega) n18
    have m19 := ne 19 (by omega) n19
    have m20 := ne 20 (by omega) n20
    have m21 := ne 21 (by omega) n21
    have m22 := ne 22 (by omega) n22
    have m23 := ne 23 (by omega) n23
    have m24 := ne 24 (by omega) n24
    have m25 := ne 25 (by omega) n25
    have m26 := ne 26 (by omega) n26
    have m27 := ne 27 (by omega) n27
    have m28 := ne 28 (by omega) n28
    have m29 := ne 29 (by omega) n29
    have m30 := ne 30 (by omega) n30
    have m31 := ne 31 (by omega) n31
    have m32 := ne 32 (by omega) n32
    have m33 := ne 33 (by omega) n33
    have m34 := ne 34 (by omega) n34
    have m35 := ne 35 (by omega) n35
    have m36 := ne 36 (by omega) n36
    have m37 := ne 37 (by omega) n37
    have m38 := ne 38 (by omega) n38
    have m39 := ne 39 (by omega) n39
    omega
/-- the numbers that the start leaves, beyond the lists -/
def xZs (I : XI) : Bool := (List.range 120).all (fun j => decide (I 19 j = 0) && decide (I 143 j = 0))
theorem xI_of {I : XI} {l : List (Nat × Nat × Int32)} (h : xIat I l = true) : ∀ q, q ∈ l → I q.1 q.2.1 = q.2.2 := fun q hq => of_decide_eq_true (List.all_eq_true.mp h q hq)
theorem start_inv {F : Nat} (hF : 4000000 ≤ F) {I : XI} (hC : xIat I xN_C = true) (hR : xIat I xN_R = true) (hZ : xZs I = true) : Inv F I := by
  have c : ∀ o j v, (o, j, v) ∈ xN_C → I o j = v := fun o j v h => xI_of hC (o, j, v) h
  have r : ∀ o j v, (o, j, v) ∈ xN_R → I o j = v := fun o j v h => xI_of hR (o, j, v) h
  have z : ∀ j, j < 120 → I 19 j = 0 ∧ I 143 j = 0 := fun j hj => by
    have := List.all_eq_true.mp hZ j (List.mem_range.mpr hj)
    rw [Bool.and_eq_true, decide_eq_true_eq, decide_eq_true_eq] at this
    exact this
  have c27 : ∀ a, a < 30 → I 27 a = -2 := fun a ha => c 27 a _ (by
    have : ∀ a, a < 30 → (27, a, (-2 : Int32)) ∈ xN_C := by unfold xN_C; decide
    exact this a ha)
  have r162 : ∀ a, a < 33 → I 162 a = 0 := fun a ha => r 162 a _ (by
    have : ∀ a, a < 33 → (162, a, (0 : Int32)) ∈ xN_R := by unfold xN_R; decide
    exact this a ha)
  have k0 : kOk 0 := by unfold kOk; decide
  have hin : ∀ a, inT (0, 0, 0, I 18, I 19, I 20) a = false := fun a => by
    cases e : inT (0, 0, 0, I 18, I 19, I 20) a with
    | false => rfl
    | true => exact absurd (inT_iff.mp e).1 (Nat.not_lt_zero _)
  obtain ⟨J, hJ⟩ : ∃ J : XI, J = xrow (xrow (xrow (xput (xput (xput I 131 40 0) 131 34 0) 131 12 0) 11 (I 21)) 12 (I 22)) 13 (I 23) := ⟨_, rfl⟩
  have j11 : J 11 = I 21 := by rw [hJ, xrow_ne (by omega), xrow_ne (by omega), xrow_eq]
  have j12 : J 12 = I 22 := by rw [hJ, xrow_ne (by omega), xrow_eq]
  have j13 : J 13 = I 23 := by rw [hJ, xrow_eq]
  have j131 : J 131 = xput (xput (xput I 131 40 0) 131 34 0) 131 12 0 131 := by rw [hJ, xrow_ne (by omega), xrow_ne (by omega), xrow_ne (by omega)]
  have jo : ∀ o, 150 ≤ o → J o = I o := fun o ho => by rw [hJ, xrow_ne (by omega), xrow_ne (by omega), xrow_ne (by omega), xput_neo (by omega), xput_neo (by omega), xput_neo (by omega)]
  have i12 : ∀ j, j < 8 → J 12 j = lw0 j := fun j hj => by
    rw [j12]
    have : j = 0 ∨ j = 1 ∨ j = 2 ∨ j = 3 ∨ j = 4 ∨ j = 5 ∨ j = 6 ∨ j = 7 := by omega
    rcases this with rfl | rfl | rfl | rfl | rfl | rfl | rfl | rfl
    · exact c 22 0 _ (by unfold xN_C; decide)
    · exact c 22 1 _ (by unfold xN_C; decide)
    · exact c 22 2 _ (by unfold xN_C; decide)
    · exact c 22 3 _ (by unfold xN_C; decide)
    · exact c 22 4 _ (by unfold xN_C; decide)
    · exact c 22 5 _ (by unfold xN_C; decide)
    · exact c 22 6 _ (by unfold xN_C; decide)
    · exact c 22 7 _ (by unfold xN_C; decide)
  have i13 : ∀ k, k < 4 → J 13 k = Int32.ofNat (2 * k) := fun k hk => by
    rw [j13]
    have : k = 0 ∨ k = 1 ∨ k = 2 ∨ k = 3 := by omega
    rcases this with rfl | rfl | rfl | rfl
    · exact c 23 0 _ (by unfold xN_C; decide)
    · exact c 23 1 _ (by unfold xN_C; decide)
    · exact c 23 2 _ (by unfold xN_C; decide)
    · exact c 23 3 _ (by unfold xN_C; decide)
  have i150 : ∀ k, k < 4 → I 150 (4 * 0 + k) = I 151 (4 * 0 + k) := fun k hk => by
    have : k = 0 ∨ k = 1 ∨ k = 2 ∨ k = 3 := by omega
    rcases this with rfl | rfl | rfl | rfl
    · rw [show 4 * 0 + 0 = 0 from rfl, r 150 0 0 (by unfold xN_R; decide), r 151 0 0 (by unfold xN_R; decide)]
    · rw [show 4 * 0 + 1 = 1 from rfl, r 150 1 0 (by unfold xN_R; decide), r 151 1 0 (by unfold xN_R; decide)]
    · rw [show 4 * 0 + 2 = 2 from rfl, r 150 2 0 (by unfold xN_R; decide), r 151 2 0 (by unfold xN_R; decide)]
    · rw [show 4 * 0 + 3 = 3 from rfl, r 150 3 0 (by unfold xN_R; decide), r 151 3 0 (by unfold xN_R; decide)]
  have hdL : dL 0 0 J J := by
    refine ⟨fun _ => none, 8, 0, 0, ⟨?_, by omega⟩, ⟨?_, by omega⟩, ⟨?_, by omega⟩, ?_, fun k hk => ⟨⟨rp_dfl k hk, 2 * k, 2 * k + 2, i13 k hk, by omega, ⟨fun j hj => ?_, ?_, ?_⟩⟩, ?_⟩⟩
    · rw [j11]; exact c 21 1 _ (by unfold xN_C; decide)
    · rw [j131, xput_ne (by omega), xput_ne (by omega), xput_eq]; rfl
    · rw [j131, xput_ne (by omega), xput_eq]; rfl
    · rw [j131, xput_eq]
    · have hj : j < List.length (dfl k) := hj
      rw [dfl_len] at hj
      have hj0 : j = 0 := by omega
      subst hj0
      show J 12 (2 * k + 0) = cwd ((dfl k).getD 0 (0, 0))
      rw [i12 _ (by omega)]
      have : k = 0 ∨ k = 1 ∨ k = 2 ∨ k = 3 := by omega
      rcases this with rfl | rfl | rfl | rfl <;> decide
    · show J 12 (2 * k + List.length (dfl k)) = 20000
      rw [dfl_len, i12 _ (by omega)]
      have : k = 0 ∨ k = 1 ∨ k = 2 ∨ k = 3 := by omega
      rcases this with rfl | rfl | rfl | rfl <;> rfl
    · show 2 * k + 2 = 2 * k + List.length (dfl k) + 1
      rw [dfl_len]
    · show J 150 (4 * 0 + k) = J 151 (4 * 0 + k)
      rw [jo 150 (by omega), jo 151 (by omega)]
      exact i150 k hk
  have i18 : I 131 18 = Int32.ofNat 0 := r 131 18 _ (by unfold xN_R; decide)
  obtain ⟨V, hV⟩ := law_dL hF (K := I) (sd := 0) (by omega) (by omega : 0 ≤ 400) hdL ⟨by rw [j11], fun j _ => by rw [j12], fun k _ => by rw [j13]⟩ i18 (fun o o1 _ => (jo o o1).symm)
  have zr : ∀ o j, (o, j, (0 : Int32)) ∈ xN_C → I o j = 0 := fun o j h => c o j 0 h
  have n0 : ∀ p : Nat, ¬ p < 0 := fun p => Nat.not_lt_zero p
  have tb : ∀ s, (0 : Nat).testBit s = false := Nat.zero_testBit
  refine ⟨⟨0, V, (0, 0, 0, I 18, I 19, I 20), ((fun _ => -2), 0, 0, 0), ⟨⟨⟨by show (0 : Nat) ≤ 6; omega, by show (0 : Nat) ≤ 5; omega, by show (0 : Nat) ≤ 5; omega⟩, fun a _ hi => ?_, ⟨fun a s ha hs => ?_, fun e s he => absurd he (n0 e)⟩⟩, ⟨⟨zr 17 0 (by unfold xN_C; decide), zr 17 1 (by unfold xN_C; decide), zr 17 2 (by unfold xN_C; decide), rfl, rfl, rfl⟩, ⟨⟨by omega, i18⟩, ⟨r 140 0 0 (by unfold xN_R; decide), r 141 0 0 (by unfold xN_R; decide), r 146 0 0 (by unfold xN_R; decide)⟩, fun a _ hi => ?_, fun a s ha hs => ?_, fun e s he => absurd he (n0 e)⟩⟩, ⟨?_, ?_⟩, hV⟩, ⟨⟨c27, zr 26 1 (by unfold xN_C; decide), zr 26 2 (by unfold xN_C; decide), zr 26 3 (by unfold xN_C; decide)⟩, ⟨fun a ha => ?_, r162 30 (by omega), r162 31 (by omega), r162 32 (by omega)⟩, fun a _ => Or.inl rfl⟩, ⟨0, 0, fun _ => ((fun _ => -2), 0, 0, 0), 0, fun _ => ((fun _ => -2), 0, 0, 0), ⟨⟨⟨by omega, by omega⟩, ⟨zr 38 1 (by unfold xN_C; decide), zr 38 2 (by unfold xN_C; decide)⟩, fun j hj => absurd hj (n0 j)⟩, ⟨r 131 54 0 (by unfold xN_R; decide), fun j hj => absurd hj (n0 j)⟩, fun j hj => absurd hj (n0 j)⟩, by omega, ⟨zr 38 4 (by unfold xN_C; decide), fun s _ e => ?_⟩, fun s hs => ⟨?_, fun e => ?_⟩, fun s _ e => ?_⟩⟩, ⟨0, by omega, ⟨zr 127 3 (by unfold xN_C; decide), r 131 59 0 (by unfold xN_R; decide)⟩, fun i hi => absurd hi (n0 i)⟩, ⟨0, by omega, ⟨zr 1 1 (by unfold xN_C; decide), r 131 2 0 (by unfold xN_R; decide)⟩, fun i hi => absurd hi (n0 i)⟩, ?_⟩
  · rw [hin a] at hi; cases hi
  · show kOk (I 19 (4 * a + s))
    rw [(z _ (by omega)).1]; exact k0
  · rw [hin a] at hi; cases hi
  · show I 143 (120 * 0 + 4 * a + s) = I 19 (4 * a + s)
    rw [(z (4 * a + s) (by omega)).1, show 120 * 0 + 4 * a + s = 4 * a + s by omega, (z (4 * a + s) (by omega)).2]
  · rw [r 148 0 0 (by unfold xN_R; decide), zr 17 3 (by unfold xN_C; decide)]
  · rw [r 149 0 0 (by unfold xN_R; decide), zr 17 4 (by unfold xN_C; decide)]
  · rw [Nat.zero_add, r162 a (by omega)]; rfl
  · rw [tb s] at e; cases e
  · rw [tb s]
    have : s = 0 ∨ s = 1 ∨ s = 2 := by omega
    rcases this with rfl | rfl | rfl
    · exact r 173 0 0 (by unfold xN_R; decide)
    · exact r 173 1 0 (by unfold xN_R; decide)
    · exact r 173 2 0 (by unfold xN_R; decide)
  · rw [tb s] at e; cases e
  · rw [tb s] at e; cases e
  · rw [c 6 4 (-1) (by unfold xN_C; decide), r 131 17 (-1) (by unfold xN_R; decide)]

