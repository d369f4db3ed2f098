/-! bits of an int -/
def uN (x : Int32) : Nat := x.toBitVec.toNat
theorem uN_inj {x y : Int32} (h : uN x = uN y) : x = y := Int32.toBitVec_inj.mp (BitVec.eq_of_toNat_eq h)
theorem uN_lt (x : Int32) : uN x < 4294967296 := x.toBitVec.isLt
theorem uN_nat {m : Nat} (h : m < 4294967296) : uN (Int32.ofNat m) = m := by
  show (BitVec.ofNat 32 m).toNat = m
  rw [BitVec.toNat_ofNat]
  exact Nat.mod_eq_of_lt h
theorem uN_and {x y : Int32} : uN (x &&& y) = uN x &&& uN y := BitVec.toNat_and x.toBitVec y.toBitVec
theorem uN_or {x y : Int32} : uN (x ||| y) = uN x ||| uN y := BitVec.toNat_or x.toBitVec y.toBitVec
theorem uN_add {x y : Int32} : uN (x + y) = (uN x + uN y) % 4294967296 := BitVec.toNat_add x.toBitVec y.toBitVec
theorem uN_sub {x y : Int32} (h : uN y ≤ uN x) : uN (x - y) = uN x - uN y := by
  have h1 : uN (x - y) = (4294967296 - uN y + uN x) % 4294967296 := BitVec.toNat_sub x.toBitVec y.toBitVec
  have := uN_lt x
  rw [h1]
  omega
theorem uN_shr {x k : Int32} {j : Nat} (hk : (Int32.toUInt32 k &&& Int32.toUInt32 31).toNat % 32 = j) : uN (Int32.toUInt32 x >>> (Int32.toUInt32 k &&& Int32.toUInt32 31)).toInt32 = uN x / 2 ^ j := by
  show (Int32.toUInt32 x >>> (Int32.toUInt32 k &&& Int32.toUInt32 31)).toNat = _
  rw [UInt32.toNat_shiftRight, hk, Nat.shiftRight_eq_div_pow]
  rfl
theorem nk_shn : ∀ k, k < 32 → ((Int32.ofNat k &&& 31).toBitVec.smod 32).toNat = k := by decide +kernel
theorem nk_shr {m k : Nat} (hm : m < 2147483648) (hk : k < 32) : (Int32.ofNat m >>> (Int32.ofNat k &&& 31)) = Int32.ofNat (m / 2 ^ k) := by
  apply uN_inj
  have h1 : m / 2 ^ k ≤ m := Nat.div_le_self m (2 ^ k)
  rw [uN_nat (by omega)]
  show (BitVec.sshiftRight' (BitVec.ofNat 32 m) ((Int32.ofNat k &&& 31).toBitVec.smod 32)).toNat = _
  rw [BitVec.sshiftRight_eq', nk_shn k hk, BitVec.sshiftRight_eq_of_msb_false, BitVec.toNat_ushiftRight, BitVec.toNat_ofNat, Nat.shiftRight_eq_div_pow, Nat.mod_eq_of_lt (by omega)]
  rw [BitVec.msb_eq_false_iff_two_mul_lt, BitVec.toNat_ofNat, Nat.mod_eq_of_lt (by omega)]
  omega
theorem nk_shl {k : Nat} (hk : k < 31) : ((1 : Int32) <<< (Int32.ofNat k &&& 31)) = Int32.ofNat (2 ^ k) := by
  have h : ∀ k, k < 31 → ((1 : Int32) <<< (Int32.ofNat k &&& 31)) = Int32.ofNat (2 ^ k) := by decide +kernel
  exact h k hk
theorem tb_b2 {m i : Nat} : b2 (m.testBit i) = Int32.ofNat (m / 2 ^ i % 2) := by
  rw [Nat.testBit_eq_decide_div_mod_eq]
  have : m / 2 ^ i % 2 < 2 := Nat.mod_lt _ (by omega)
  by_cases h : m / 2 ^ i % 2 = 1
  · rw [decide_eq_true h, h]
    rfl
  · rw [decide_eq_false h, show m / 2 ^ i % 2 = 0 by omega]
    rfl
/-- a bit looked up -/
theorem bit_get {m k : Nat} (hm : m < 2147483648) (hk : k < 32) : ((Int32.ofNat m >>> (Int32.ofNat k &&& 31)) &&& 1) = b2 (m.testBit k) := by
  rw [nk_shr hm hk, tb_b2]
  apply uN_inj
  have h1 : m / 2 ^ k ≤ m := Nat.div_le_self m (2 ^ k)
  rw [uN_and, uN_nat (by omega), uN_nat (by omega), show uN 1 = 1 from rfl, Nat.and_one_is_mod]
/-- a bit set -/
theorem bit_set {m k : Nat} (hm : m < 1073741824) (hk : k < 30) : (Int32.ofNat m ||| (1 <<< (Int32.ofNat k &&& 31))) = Int32.ofNat (m ||| 2 ^ k) := by
  rw [nk_shl (by omega)]
  have h2 : 2 ^ k < 2 ^ 30 := Nat.pow_lt_pow_right (by omega) hk
  have h3 : m ||| 2 ^ k < 2 ^ 30 := Nat.or_lt_two_pow (by omega) h2
  apply uN_inj
  rw [uN_or, uN_nat (by omega), uN_nat (by omega), uN_nat (by omega)]
theorem or_lt30 {m k : Nat} (hm : m < 1073741824) (hk : k < 30) : m ||| 2 ^ k < 1073741824 := by
  have h2 : 2 ^ k < 2 ^ 30 := Nat.pow_lt_pow_right (by omega) hk
  exact Nat.or_lt_two_pow (n := 30) hm h2
theorem or_lt30' {m j : Nat} (hm : m < 1073741824) (hj : j < 1073741824) : m ||| j < 1073741824 := Nat.or_lt_two_pow (n := 30) hm hj
theorem bit_or {m j : Nat} (hm : m < 1073741824) (hj : j < 1073741824) : (Int32.ofNat m ||| Int32.ofNat j) = Int32.ofNat (m ||| j) := by
  have := or_lt30' hm hj
  apply uN_inj
  rw [uN_or, uN_nat (by omega), uN_nat (by omega), uN_nat (by omega)]
theorem tb_set {m k j : Nat} : (m ||| 2 ^ k).testBit j = (m.testBit j || decide (k = j)) := by
  rw [Nat.testBit_or, Nat.testBit_two_pow]
/-! how many bits -/
theorem and16 (a b : Nat) : a &&& b = 16 * ((a / 16) &&& (b / 16)) + ((a % 16) &&& (b % 16)) := by
  have h1 : (a &&& b) / 16 = a / 16 &&& b / 16 := Nat.and_div_two_pow (n := 4)
  have h2 : (a &&& b) % 16 = a % 16 &&& b % 16 := Nat.and_mod_two_pow (n := 4)
  rw [← h1, ← h2]
  omega
theorem and256 (a b : Nat) : a &&& b = 256 * ((a / 256) &&& (b / 256)) + ((a % 256) &&& (b % 256)) := by
  have h1 : (a &&& b) / 256 = a / 256 &&& b / 256 := Nat.and_div_two_pow (n := 8)
  have h2 : (a &&& b) % 256 = a % 256 &&& b % 256 := Nat.and_mod_two_pow (n := 8)
  rw [← h1, ← h2]
  omega
def pnA (d : Nat) : Nat := d - ((d / 2) &&& 5)
def pnB (d : Nat) : Nat := (pnA d &&& 3) + ((pnA d / 4) &&& 3)
theorem pn1 : ∀ d, d < 16 → ∀ t, t < 2 → ((d / 2 + 8 * t) &&& 5) = ((d / 2) &&& 5) := by decide
theorem pn2 : ∀ d, d < 16 → ((d / 2) &&& 5) ≤ d := by decide
theorem pn3 : ∀ d, d < 16 → ∀ t, t < 4 → ((d / 4 + 4 * t) &&& 3) = ((d / 4) &&& 3) := by decide
theorem pn4 : ∀ d, d < 16 → pnB d = d % 2 + d / 2 % 2 + d / 4 % 2 + d / 8 % 2 := by decide
theorem pn5 : ∀ d, d < 16 → pnB d ≤ 4 := by decide
theorem pn6 : ∀ d, d < 16 → pnA d < 16 := by decide
theorem pnAx {d t M : Nat} (hd : d < 16) : (((d + 16 * t) / 2) &&& (5 + 16 * M)) = ((d / 2) &&& 5) + 16 * ((t / 2) &&& M) := by
  rw [and16, show (d + 16 * t) / 2 / 16 = t / 2 by omega, show (d + 16 * t) / 2 % 16 = d / 2 + 8 * (t % 2) by omega, show (5 + 16 * M) / 16 = M by omega, show (5 + 16 * M) % 16 = 5 by omega, pn1 d hd _ (by omega)]
  omega
theorem pnBx {d t M : Nat} (hd : d < 16) : ((d + 16 * t) &&& (3 + 16 * M)) + (((d + 16 * t) / 4) &&& (3 + 16 * M)) = ((d &&& 3) + ((d / 4) &&& 3)) + 16 * ((t &&& M) + ((t / 4) &&& M)) := by
  rw [and16 (d + 16 * t), and16 ((d + 16 * t) / 4), show (d + 16 * t) / 4 / 16 = t / 4 by omega, show (d + 16 * t) / 4 % 16 = d / 4 + 4 * (t % 4) by omega, show (3 + 16 * M) / 16 = M by omega, show (3 + 16 * M) % 16 = 3 by omega, pn3 d hd _ (by omega), show (d + 16 * t) / 16 = t by omega, show (d + 16 * t) % 16 = d by omega]
  omega
theorem pnAs {d t M : Nat} (hd : d < 16) (ht : ((t / 2) &&& M) ≤ t) : (d + 16 * t) - (((d + 16 * t) / 2) &&& (5 + 16 * M)) = pnA d + 16 * (t - ((t / 2) &&& M)) ∧ (((d + 16 * t) / 2) &&& (5 + 16 * M)) ≤ d + 16 * t := by
  rw [pnAx hd]
  have := pn2 d hd
  unfold pnA
  omega
theorem pn_all {d0 d1 d2 d3 d4 d5 d6 d7 : Nat} (h0 : d0 < 16) (h1 : d1 < 16) (h2 : d2 < 16) (h3 : d3 < 16) (h4 : d4 < 16) (h5 : d5 < 16) (h6 : d6 < 16) (h7 : d7 < 16) :
    ∃ y, y = (d0 + 16 * (d1 + 16 * (d2 + 16 * (d3 + 16 * (d4 + 16 * (d5 + 16 * (d6 + 16 * d7))))))) - (((d0 + 16 * (d1 + 16 * (d2 + 16 * (d3 + 16 * (d4 + 16 * (d5 + 16 * (d6 + 16 * d7))))))) / 2) &&& 1431655765) ∧
      (((d0 + 16 * (d1 + 16 * (d2 + 16 * (d3 + 16 * (d4 + 16 * (d5 + 16 * (d6 + 16 * d7))))))) / 2) &&& 1431655765) ≤ (d0 + 16 * (d1 + 16 * (d2 + 16 * (d3 + 16 * (d4 + 16 * (d5 + 16 * (d6 + 16 * d7))))))) ∧ y < 4294967296 ∧
      (y &&& 858993459) + ((y / 4) &&& 858993459) = pnB d0 + 16 * (pnB d1 + 16 * (pnB d2 + 16 * (pnB d3 + 16 * (pnB d4 + 16 * (pnB d5 + 16 * (pnB d6 + 16 * pnB d7)))))) := by
  have a7 := pnAs (d := d7) (t := 0) (M := 0) h7 (by decide)
  have a6 := pnAs (d := d6) h6 a7.2
  have a5 := pnAs (d := d5) h5 a6.2
  have a4 := pnAs (d := d4) h4 a5.2
  have a3 := pnAs (d := d3) h3 a4.2
  have a2 := pnAs (d := d2) h2 a3.2
  have a1 := pnAs (d := d1) h1 a2.2
  have a0 := pnAs (d := d0) h0 a1.2
  simp only [show (5 + 16 * 0) = 5 from rfl, show (5 + 16 * 5) = 85 from rfl, show (5 + 16 * 85) = 1365 from rfl, show (5 + 16 * 1365) = 21845 from rfl, show (5 + 16 * 21845) = 349525 from rfl, show (5 + 16 * 349525) = 5592405 from rfl, show (5 + 16 * 5592405) = 89478485 from rfl, show (5 + 16 * 89478485) = 1431655765 from rfl, Nat.mul_zero, Nat.add_zero] at a0 a1 a2 a3 a4 a5 a6 a7
  have e7 : d7 - ((d7 / 2) &&& 5) = pnA d7 := rfl
  rw [e7] at a6
  rw [a6.1] at a5
  rw [a5.1] at a4
  rw [a4.1] at a3
  rw [a3.1] at a2
  rw [a2.1] at a1
  rw [a1.1] at a0
  refine ⟨_, rfl, a0.2, ?_, ?_⟩
  · omega
  · rw [a0.1]
    have b7 := pnBx (d := pnA d7) (t := 0) (M := 0) (pn6 d7 h7)
    have b6 := pnBx (d := pnA d6) (t := pnA d7) (M := 3) (pn6 d6 h6)
    have b5 := pnBx (d := pnA d5) (t := pnA d6 + 16 * pnA d7) (M := 51) (pn6 d5 h5)
    have b4 := pnBx (d := pnA d4) (t := pnA d5 + 16 * (pnA d6 + 16 * pnA d7)) (M := 819) (pn6 d4 h4)
    have b3 := pnBx (d := pnA d3) (t := pnA d4 + 16 * (pnA d5 + 16 * (pnA d6 + 16 * pnA d7))) (M := 13107) (pn6 d3 h3)
    have b2' := pnBx (d := pnA d2) (t := pnA d3 + 16 * (pnA d4 + 16 * (pnA d5 + 16 * (pnA d6 + 16 * pnA d7)))) (M := 209715) (pn6 d2 h2)
    have b1 := pnBx (d := pnA d1) (t := pnA d2 + 16 * (pnA d3 + 16 * (pnA d4 + 16 * (pnA d5 + 16 * (pnA d6 + 16 * pnA d7))))) (M := 3355443) (pn6 d1 h1)
    have b0 := pnBx (d := pnA d0) (t := pnA d1 + 16 * (pnA d2 + 16 * (pnA d3 + 16 * (pnA d4 + 16 * (pnA d5 + 16 * (pnA d6 + 16 * pnA d7)))))) (M := 53687091) (pn6 d0 h0)
    simp only [show (3 + 16 * 0) = 3 from rfl, show (3 + 16 * 3) = 51 from rfl, show (3 + 16 * 51) = 819 from rfl, show (3 + 16 * 819) = 13107 from rfl, show (3 + 16 * 13107) = 209715 from rfl, show (3 + 16 * 209715) = 3355443 from rfl, show (3 + 16 * 3355443) = 53687091 from rfl, show (3 + 16 * 53687091) = 858993459 from rfl] at b0 b1 b2' b3 b4 b5 b6 b7
    rw [b0, b1, b2', b3, b4, b5, b6]
    rfl
theorem pn_end {p0 p1 p2 p3 q0 q1 q2 q3 z : Nat} (h0 : p0 ≤ 8) (h1 : p1 ≤ 8) (h2 : p2 ≤ 8) (h3 : p3 ≤ 8) (g0 : q0 ≤ 8) (g1 : q1 ≤ 8) (g2 : q2 ≤ 8) (g3 : q3 ≤ 8) (hz : z = (p0 + 16 * q0) + 256 * ((p1 + 16 * q1) + 256 * ((p2 + 16 * q2) + 256 * (p3 + 16 * q3)))) :
    (z &&& 252645135) = p0 + 256 * (p1 + 256 * (p2 + 256 * p3)) := by
  have h15 : ∀ x : Nat, x &&& 15 = x % 16 := fun x => Nat.and_two_pow_sub_one_eq_mod x 4
  rw [hz, and256, and256 (_ / 256), and256 (_ / 256 / 256)]
  rw [show ((p0 + 16 * q0) + 256 * ((p1 + 16 * q1) + 256 * ((p2 + 16 * q2) + 256 * (p3 + 16 * q3)))) % 256 = p0 + 16 * q0 by omega,
    show ((p0 + 16 * q0) + 256 * ((p1 + 16 * q1) + 256 * ((p2 + 16 * q2) + 256 * (p3 + 16 * q3)))) / 256 = (p1 + 16 * q1) + 256 * ((p2 + 16 * q2) + 256 * (p3 + 16 * q3)) by omega,
    show ((p1 + 16 * q1) + 256 * ((p2 + 16 * q2) + 256 * (p3 + 16 * q3))) % 256 = p1 + 16 * q1 by omega,
    show ((p1 + 16 * q1) + 256 * ((p2 + 16 * q2) + 256 * (p3 + 16 * q3))) / 256 = (p2 + 16 * q2) + 256 * (p3 + 16 * q3) by omega,
    show ((p2 + 16 * q2) + 256 * (p3 + 16 * q3)) % 256 = p2 + 16 * q2 by omega,
    show ((p2 + 16 * q2) + 256 * (p3 + 16 * q3)) / 256 = p3 + 16 * q3 by omega]
  rw [show 252645135 % 256 = 15 from rfl, show 252645135 / 256 = 986895 from rfl, show 986895 / 256 / 256 = 15 from rfl, h15, h15, h15, h15]
  omega
theorem tb_if {m i : Nat} : (if m.testBit i = true then 1 else 0) = m / 2 ^ i % 2 := by
  rw [Nat.testBit_eq_decide_div_mod_eq]
  have : m / 2 ^ i % 2 < 2 := Nat.mod_lt _ (by omega)
  by_cases h : m / 2 ^ i % 2 = 1
  · rw [decide_eq_true h, h]
    rfl
  · rw [decide_eq_false h]
    show 0 = _
    omega
theorem pn_nib (t : Nat) : t % 2 + t / 2 % 2 + t / 4 % 2 + t / 8 % 2 = pnB (t % 16) := by
  rw [pn4 (t % 16) (by omega)]
  omega
theorem pn_cnt {m : Nat} (hm : m < 1073741824) : cnt m.testBit 30 = pnB (m % 16) + pnB (m / 16 % 16) + pnB (m / 256 % 16) + pnB (m / 4096 % 16) + pnB (m / 65536 % 16) + pnB (m / 1048576 % 16) + pnB (m / 16777216 % 16) + pnB (m / 268435456 % 16) := by
  simp only [cnt, tb_if]
  rw [← pn_nib m, ← pn_nib (m / 16), ← pn_nib (m / 256), ← pn_nib (m / 4096), ← pn_nib (m / 65536), ← pn_nib (m / 1048576), ← pn_nib (m / 16777216), ← pn_nib (m / 268435456)]
  simp only [Nat.div_div_eq_div_mul, Nat.reducePow, Nat.reduceMul, Nat.div_one]
  have e1 : m / 1073741824 % 2 = 0 := by omega
  have e2 : m / 2147483648 % 2 = 0 := by omega
  rw [e1, e2]
  omega
theorem pn_fin1 {A B : Nat} (hA : A ≤ 4112) (hB : B ≤ 2064) : (A + 65536 * B + (A + 65536 * B) / 65536) % 4294967296 = A + 65536 * B + B := by
  have e2 : (A + 65536 * B) / 65536 = B := by omega
  rw [e2]
  exact Nat.mod_eq_of_lt (by omega)
theorem pn_fin {A0 A1 A2 A3 : Nat} (b0 : A0 ≤ 16) (b1 : A1 ≤ 16) (b2 : A2 ≤ 16) (b3 : A3 ≤ 8) : (A0 + 256 * A1 + 65536 * (A2 + 256 * A3) + (A0 + 256 * A1 + 65536 * (A2 + 256 * A3)) / 65536) % 4294967296 % 64 = A0 + A2 := by
  rw [pn_fin1 (by omega) (by omega), show A0 + 256 * A1 + 65536 * (A2 + 256 * A3) + (A2 + 256 * A3) = (A0 + A2) + 64 * (4 * A1 + 1024 * (A2 + 256 * A3) + 4 * A3) by omega, Nat.add_mul_mod_self_left]
  exact Nat.mod_eq_of_lt (by omega)
theorem bitCount_nat {m : Nat} (hm : m < 1073741824) : f_Integer_bitCount (Int32.ofNat m) = some (Int32.ofNat (cnt m.testBit 30)) := by
  have hx : m = m % 16 + 16 * (m / 16 % 16 + 16 * (m / 256 % 16 + 16 * (m / 4096 % 16 + 16 * (m / 65536 % 16 + 16 * (m / 1048576 % 16 + 16 * (m / 16777216 % 16 + 16 * (m / 268435456 % 16))))))) := by omega
  obtain ⟨y, hy, hle, hyl, hz⟩ := pn_all (d0 := m % 16) (d1 := m / 16 % 16) (d2 := m / 256 % 16) (d3 := m / 4096 % 16) (d4 := m / 65536 % 16) (d5 := m / 1048576 % 16) (d6 := m / 16777216 % 16) (d7 := m / 268435456 % 16) (by omega) (by omega) (by omega) (by omega) (by omega) (by omega) (by omega) (by omega)
  rw [← hx] at hy hle
  have c0 := pn5 (m % 16) (by omega)
  have c1 := pn5 (m / 16 % 16) (by omega)
  have c2 := pn5 (m / 256 % 16) (by omega)
  have c3 := pn5 (m / 4096 % 16) (by omega)
  have c4 := pn5 (m / 65536 % 16) (by omega)
  have c5 := pn5 (m / 1048576 % 16) (by omega)
  have c6 := pn5 (m / 16777216 % 16) (by omega)
  have c7 := pn5 (m / 268435456 % 16) (by omega)
  rw [pn_cnt hm]
  generalize pnB (m % 16) = z0 at *
  generalize pnB (m / 16 % 16) = z1 at *
  generalize pnB (m / 256 % 16) = z2 at *
  generalize pnB (m / 4096 % 16) = z3 at *
  generalize pnB (m / 65536 % 16) = z4 at *
  generalize pnB (m / 1048576 % 16) = z5 at *
  generalize pnB (m / 16777216 % 16) = z6 at *
  generalize pnB (m / 268435456 % 16) = z7 at *
  unfold f_Integer_bitCount
  congr 1
  apply uN_inj
  rw [uN_nat (by omega)]
  have s1 : uN (Int32.ofNat m - ((Int32.toUInt32 (Int32.ofNat m) >>> (Int32.toUInt32 1 &&& Int32.toUInt32 31)).toInt32 &&& 1431655765)) = y := by
    have e : uN ((Int32.toUInt32 (Int32.ofNat m) >>> (Int32.toUInt32 1 &&& Int32.toUInt32 31)).toInt32 &&& 1431655765) = (m / 2) &&& 1431655765 := by
      rw [uN_and, uN_shr (j := 1) (by decide), uN_nat (by omega)]
      rfl
    rw [uN_sub (by rw [e, uN_nat (by omega)]; exact hle), e, uN_nat (by omega), hy]
  generalize (Int32.ofNat m - ((Int32.toUInt32 (Int32.ofNat m) >>> (Int32.toUInt32 1 &&& Int32.toUInt32 31)).toInt32 &&& 1431655765)) = Y at *
  have s2 : uN ((Y &&& 858993459) + ((Int32.toUInt32 Y >>> (Int32.toUInt32 2 &&& Int32.toUInt32 31)).toInt32 &&& 858993459)) = z0 + 16 * (z1 + 16 * (z2 + 16 * (z3 + 16 * (z4 + 16 * (z5 + 16 * (z6 + 16 * z7)))))) := by
    rw [uN_add, uN_and, uN_and, uN_shr (j := 2) (by decide), s1, show uN 858993459 = 858993459 from rfl, show (2 : Nat) ^ 2 = 4 from rfl, hz]
    omega
  generalize ((Y &&& 858993459) + ((Int32.toUInt32 Y >>> (Int32.toUInt32 2 &&& Int32.toUInt32 31)).toInt32 &&& 858993459)) = Z at *
  have s3 : uN ((Z + (Int32.toUInt32 Z >>> (Int32.toUInt32 4 &&& Int32.toUInt32 31)).toInt32) &&& 252645135) = (z0 + z1) + 256 * ((z2 + z3) + 256 * ((z4 + z5) + 256 * (z6 + z7))) := by
    rw [uN_and, uN_add, uN_shr (j := 4) (by decide), s2, show uN 252645135 = 252645135 from rfl, show (2 : Nat) ^ 4 = 16 from rfl]
    exact pn_end (q0 := z1 + z2) (q1 := z3 + z4) (q2 := z5 + z6) (q3 := z7) (by omega) (by omega) (by omega) (by omega) (by omega) (by omega) (by omega) (by omega) (by omega)
  generalize ((Z + (Int32.toUInt32 Z >>> (Int32.toUInt32 4 &&& Int32.toUInt32 31)).toInt32) &&& 252645135) = V at *
  have s4 : uN (V + (Int32.toUInt32 V >>> (Int32.toUInt32 8 &&& Int32.toUInt32 31)).toInt32) = (z0 + z1) + 256 * ((z2 + z3) + 256 * ((z4 + z5) + 256 * (z6 + z7))) + ((z2 + z3) + 256 * ((z4 + z5) + 256 * (z6 + z7))) := by
    rw [uN_add, uN_shr (j := 8) (by decide), s3, show (2 : Nat) ^ 8 = 256 from rfl]
    omega
  generalize (V + (Int32.toUInt32 V >>> (Int32.toUInt32 8 &&& Int32.toUInt32 31)).toInt32) = U at *
  rw [uN_and, uN_add, uN_shr (j := 16) (by decide), s4, show uN 63 = 63 from rfl, show (2 : Nat) ^ 16 = 65536 from rfl, show (63 : Nat) = 2 ^ 6 - 1 from rfl, Nat.and_two_pow_sub_one_eq_mod, show (2 : Nat) ^ 6 = 64 from rfl]
  have e1 : (z0 + z1) + 256 * ((z2 + z3) + 256 * ((z4 + z5) + 256 * (z6 + z7))) + ((z2 + z3) + 256 * ((z4 + z5) + 256 * (z6 + z7))) = (z0 + z1 + z2 + z3) + 256 * (z2 + z3 + z4 + z5) + 65536 * ((z4 + z5 + z6 + z7) + 256 * (z6 + z7)) := by omega
  rw [e1]
  rw [pn_fin (by omega) (by omega) (by omega) (by omega)]
  omega
