/-! THE PURE SIDE: answers, loops, frames, small numbers -/
def xOk {α : Type} (x : Option α) (Q : α → Prop) : Prop := ∃ r, x = some r ∧ Q r
theorem xOk.bnd {α β : Type} {x : Option α} {f : α → Option β} {P : α → Prop} {Q : β → Prop} (h : xOk x P) (k : ∀ a, P a → xOk (f a) Q) : xOk (x.bind f) Q := by
  obtain ⟨a, rfl, ha⟩ := h
  exact k a ha
theorem xOk.bnde {α β : Type} {x : Option α} {f : α → Option β} {a : α} {Q : β → Prop} (h : x = some a) (k : xOk (f a) Q) : xOk (x.bind f) Q := by
  subst h
  exact k
theorem xOk.pur {α : Type} {r : α} {Q : α → Prop} (h : Q r) : xOk (some r) Q := ⟨r, rfl, h⟩
theorem xOk.ck {α : Type} {b : Bool} {x : Option α} {Q : α → Prop} (hb : b = true) (h : xOk x Q) : xOk (xck b x) Q := by
  subst hb
  exact h
theorem xOk.st {α β : Type} {a : α} {f : α → Option β} {Q : β → Prop} (h : xOk (f a) Q) : xOk (xst a f) Q := h
theorem xOk.ite {α : Type} {c : Prop} [Decidable c] {x y : Option α} {Q : α → Prop} (h1 : c → xOk x Q) (h2 : ¬ c → xOk y Q) : xOk (if c then x else y) Q := by
  by_cases h : c
  · rw [if_pos h]; exact h1 h
  · rw [if_neg h]; exact h2 h
theorem xOk.pos {α : Type} {c : Prop} [Decidable c] {x y : Option α} {Q : α → Prop} (hc : c) (h1 : xOk x Q) : xOk (if c then x else y) Q := by
  rw [if_pos hc]; exact h1
theorem xOk.neg {α : Type} {c : Prop} [Decidable c] {x y : Option α} {Q : α → Prop} (hc : ¬ c) (h1 : xOk y Q) : xOk (if c then x else y) Q := by
  rw [if_neg hc]; exact h1
theorem xOk.mono {α : Type} {x : Option α} {P Q : α → Prop} (h : xOk x P) (k : ∀ a, P a → Q a) : xOk x Q := by
  obtain ⟨a, e, ha⟩ := h
  exact ⟨a, e, k a ha⟩
theorem xOk.eq {α : Type} {x : Option α} {v : α} (h : xOk x (fun r => r = v)) : x = some v := by
  obtain ⟨a, e, ha⟩ := h
  rw [e, ha]
theorem xOk.of {α : Type} {x : Option α} {v : α} {Q : α → Prop} (h : x = some v) (hq : Q v) : xOk x Q := ⟨v, h, hq⟩
theorem xck_true {α : Type} {b : Bool} {x : Option α} (hb : b = true) : xck b x = x := by subst hb; rfl
theorem xst_eq {α β : Type} {a : α} {f : α → β} : xst a f = f a := rfl
/-- a loop with a counter -/
theorem xloop {σ ρ : Type} {Q : ρ → Prop} (N : Nat) (g : Nat → σ → Nat → Option ρ) (P : Nat → σ → Prop)
    (hs : ∀ n s k, k < N → P k s → (∀ s', P (k + 1) s' → xOk (g n s' (k + 1)) Q) → xOk (g (n + 1) s k) Q)
    (hf : ∀ n s, P N s → xOk (g (n + 1) s N) Q) : ∀ n s k, k ≤ N → N < n + k → P k s → xOk (g n s k) Q := by
  intro n
  induction n with
  | zero => intro s k h1 h2; omega
  | succ n ih =>
    intro s k h1 h2 hp
    by_cases h : k = N
    · subst h; exact hf n s hp
    · exact hs n s k (by omega) hp (fun s' hp' => ih s' (k + 1) (by omega) (by omega) hp')
/-- frames: what is the same but in some cells -/
def Same (S : Nat → Nat → Bool) (I J : XI) : Prop := ∀ o j, S o j = false → J o j = I o j
theorem Same.rfl {S : Nat → Nat → Bool} {I : XI} : Same S I I := fun _ _ _ => Eq.refl _
theorem Same.trans {S : Nat → Nat → Bool} {I J K : XI} (h : Same S I J) (k : Same S J K) : Same S I K := fun o j e => (k o j e).trans (h o j e)
theorem Same.symm {S : Nat → Nat → Bool} {I J : XI} (h : Same S I J) : Same S J I := fun o j e => (h o j e).symm
theorem Same.mono {S S' : Nat → Nat → Bool} {I J : XI} (h : Same S I J) (hs : ∀ o j, S' o j = false → S o j = false) : Same S' I J := fun o j e => h o j (hs o j e)
theorem Same.put {S : Nat → Nat → Bool} {I : XI} {o j : Nat} {v : Int32} (hs : S o j = true) : Same S I (xput I o j v) := by
  intro o' j' e
  unfold xput xrow upd
  by_cases h : o' = o
  · subst h
    rw [if_pos (Eq.refl _)]
    by_cases h2 : j' = j
    · subst h2; rw [hs] at e; cases e
    · rw [if_neg h2]
  · rw [if_neg h]
theorem Same.put' {S : Nat → Nat → Bool} {I J : XI} {o j : Nat} {v : Int32} (h : Same S I J) (hs : S o j = true) : Same S I (xput J o j v) := h.trans (Same.put hs)
theorem Same.roww {S : Nat → Nat → Bool} {I : XI} {o : Nat} {f : Nat → Int32} (hs : ∀ j, S o j = true) : Same S I (xrow I o f) := by
  intro o' j' e
  unfold xrow
  by_cases h : o' = o
  · subst h; rw [hs] at e; cases e
  · rw [if_neg h]
theorem Same.row {S : Nat → Nat → Bool} {I J : XI} (h : Same S I J) (o : Nat) (hs : ∀ j, S o j = false) : J o = I o := funext fun j => h o j (hs j)
theorem xput_eq {I : XI} {o j : Nat} {v : Int32} : xput I o j v o j = v := by simp [xput, xrow, upd]
theorem xput_ne {I : XI} {o j o' j' : Nat} {v : Int32} (h : ¬ (o' = o ∧ j' = j)) : xput I o j v o' j' = I o' j' := by
  unfold xput xrow upd
  by_cases h1 : o' = o
  · subst h1
    rw [if_pos (Eq.refl _)]
    by_cases h2 : j' = j
    · exact absurd ⟨Eq.refl _, h2⟩ h
    · rw [if_neg h2]
  · rw [if_neg h1]
theorem xput_neo {I : XI} {o j o' : Nat} {v : Int32} (h : ¬ o' = o) : xput I o j v o' = I o' := by
  unfold xput xrow
  rw [if_neg h]
theorem xput_at {I : XI} {o j j' : Nat} {v : Int32} : xput I o j v o j' = if j' = j then v else I o j' := by
  simp only [xput, xrow, upd, if_true]
theorem xrow_eq {I : XI} {o : Nat} {f : Nat → Int32} : xrow I o f o = f := by simp [xrow]
theorem xrow_ne {I : XI} {o o' : Nat} {f : Nat → Int32} (h : ¬ o' = o) : xrow I o f o' = I o' := by simp [xrow, h]
/-- small numbers -/
theorem nk_succ (k : Nat) : Int32.ofNat k + 1 = Int32.ofNat (k + 1) := by rw [Int32.ofNat_add]; rfl
theorem nk_add (a b : Nat) : Int32.ofNat a + Int32.ofNat b = Int32.ofNat (a + b) := (Int32.ofNat_add a b).symm
theorem nk_mul (a b : Nat) : Int32.ofNat a * Int32.ofNat b = Int32.ofNat (a * b) := (Int32.ofNat_mul a b).symm
theorem nk_sub {a b : Nat} (h : b ≤ a) : Int32.ofNat a - Int32.ofNat b = Int32.ofNat (a - b) := (Int32.ofNat_sub a b h).symm
theorem nk_div {a b : Nat} (ha : a < 2147483648) (hb : b < 2147483648) : Int32.ofNat a / Int32.ofNat b = Int32.ofNat (a / b) := (Int32.ofNat_div ha hb).symm
theorem nk_N {k : Nat} (h : k < 2147483648) : xN (Int32.ofNat k) = k := Int32.toNatClampNeg_ofNat_of_lt h
theorem nk_le {a b : Nat} (ha : a < 2147483648) (hb : b < 2147483648) : (Int32.ofNat a ≤ Int32.ofNat b) = (a ≤ b) := propext (Int32.ofNat_le_iff_le ha hb)
theorem nk_lt {a b : Nat} (ha : a < 2147483648) (hb : b < 2147483648) : (Int32.ofNat a < Int32.ofNat b) = (a < b) := propext (Int32.ofNat_lt_iff_lt ha hb)
theorem nk_eq {a b : Nat} (ha : a < 2147483648) (hb : b < 2147483648) : (Int32.ofNat a = Int32.ofNat b) = (a = b) := by
  apply propext
  constructor
  · intro h
    have := congrArg xN h
    rwa [nk_N ha, nk_N hb] at this
  · intro h; rw [h]
theorem nk_neg {k : Nat} (h : k < 2147483648) : (Int32.ofNat k < 0) = False := by
  rw [show (0 : Int32) = Int32.ofNat 0 from rfl, nk_lt h (by omega)]
  simp
theorem nk_m1 {k : Nat} (h : k < 2147483648) : (Int32.ofNat k = -1) = False := by
  apply propext
  constructor
  · intro e
    have h1 := nk_neg h
    rw [e] at h1
    exact h1 ▸ (by decide : (-1 : Int32) < 0)
  · intro e; cases e
theorem nk_m2 {k : Nat} (h : k < 2147483648) : (Int32.ofNat k = -2) = False := by
  apply propext
  constructor
  · intro e
    have h1 := nk_neg h
    rw [e] at h1
    exact h1 ▸ (by decide : (-2 : Int32) < 0)
  · intro e; cases e
theorem nk_in {k n : Nat} (h : k < n) (hk : k < 2147483648) : xin (Int32.ofNat k) n = true := by
  have h1 := nk_neg hk
  unfold xin
  rw [show (Int32.ofNat k).toNatClampNeg = k from nk_N hk, decide_eq_false (by rw [h1]; exact id), decide_eq_false (by omega)]
  rfl
theorem nk_pred {w k : Nat} (hw : w < 2147483648) (hk : k < 2147483648) : (Int32.ofNat w - 1 ≤ Int32.ofNat k) = (w ≤ k + 1) := by
  cases w with
  | zero =>
    apply propext
    constructor
    · intro _; omega
    · intro _
      show (-1 : Int32) ≤ Int32.ofNat k
      rw [Int32.le_iff_toInt_le, Int32.toInt_ofNat_of_lt hk]
      have : (-1 : Int32).toInt = -1 := by decide
      omega
  | succ w =>
    rw [← nk_succ, show Int32.ofNat w + 1 - 1 = Int32.ofNat w from by rw [nk_succ, show (1 : Int32) = Int32.ofNat 1 from rfl, nk_sub (by omega), Nat.add_sub_cancel], nk_le (by omega) hk]
    apply propext
    omega
theorem nl0 : (0 : Int32) = Int32.ofNat 0 := rfl
theorem nl1 : (1 : Int32) = Int32.ofNat 1 := rfl
theorem nl2 : (2 : Int32) = Int32.ofNat 2 := rfl
theorem nl3 : (3 : Int32) = Int32.ofNat 3 := rfl
theorem nl4 : (4 : Int32) = Int32.ofNat 4 := rfl
theorem nl5 : (5 : Int32) = Int32.ofNat 5 := rfl
theorem nl6 : (6 : Int32) = Int32.ofNat 6 := rfl
theorem nl7 : (7 : Int32) = Int32.ofNat 7 := rfl
theorem nl9 : (9 : Int32) = Int32.ofNat 9 := rfl
theorem nl10 : (10 : Int32) = Int32.ofNat 10 := rfl
theorem nl20 : (20 : Int32) = Int32.ofNat 20 := rfl
theorem nl28 : (28 : Int32) = Int32.ofNat 28 := rfl
theorem nl30 : (30 : Int32) = Int32.ofNat 30 := rfl
theorem nl31 : (31 : Int32) = Int32.ofNat 31 := rfl
theorem nl32 : (32 : Int32) = Int32.ofNat 32 := rfl
theorem nl33 : (33 : Int32) = Int32.ofNat 33 := rfl
theorem nl40 : (40 : Int32) = Int32.ofNat 40 := rfl
theorem nl60 : (60 : Int32) = Int32.ofNat 60 := rfl
theorem nl64 : (64 : Int32) = Int32.ofNat 64 := rfl
theorem nl120 : (120 : Int32) = Int32.ofNat 120 := rfl
theorem nl200 : (200 : Int32) = Int32.ofNat 200 := rfl
theorem nl400 : (400 : Int32) = Int32.ofNat 400 := rfl
theorem nl420 : (420 : Int32) = Int32.ofNat 420 := rfl
theorem nl1287 : (1287 : Int32) = Int32.ofNat 1287 := rfl
theorem nk_md (a b : Nat) : a - a / b * b = a % b := by
  have := Nat.div_add_mod a b
  rw [Nat.mul_comm] at this
  omega
def b2 (b : Bool) : Int32 := if b = true then 1 else 0
theorem b2_if {c : Prop} [Decidable c] : (if c then (1 : Int32) else 0) = b2 (decide c) := by
  unfold b2
  by_cases h : c <;> simp [h]
theorem b2_ifn {c : Prop} [Decidable c] : (if c then (0 : Int32) else 1) = b2 (!decide c) := by
  unfold b2
  by_cases h : c <;> simp [h]
theorem b2_z {b : Bool} : (b2 b = 0) = (b = false) := by cases b <;> simp [b2]
theorem b2_nar {b : Bool} : xnarz (b2 b) = true := by cases b <;> rfl
theorem b2_t : b2 true = 1 := rfl
theorem b2_f : b2 false = 0 := rfl
theorem all4 {P : Nat → Prop} (h0 : P 0) (h1 : P 1) (h2 : P 2) (h3 : P 3) : ∀ s, s < 4 → P s := fun s hs => match s, hs with
  | 0, _ => h0
  | 1, _ => h1
  | 2, _ => h2
  | 3, _ => h3
  | s + 4, h => absurd h (by omega)
/-- how many k below N -/
def cnt (p : Nat → Bool) : Nat → Nat
  | 0 => 0
  | n + 1 => cnt p n + (if p n = true then 1 else 0)
theorem cnt_le (p : Nat → Bool) (N : Nat) : cnt p N ≤ N := by
  induction N with
  | zero => exact Nat.le_refl _
  | succ n ih =>
    unfold cnt
    split <;> omega
theorem cnt_congr {p q : Nat → Bool} {N : Nat} (h : ∀ k, k < N → p k = q k) : cnt p N = cnt q N := by
  induction N with
  | zero => rfl
  | succ n ih =>
    unfold cnt
    rw [ih (fun k hk => h k (by omega)), h n (by omega)]
theorem cnt_pos {p : Nat → Bool} {N : Nat} : (cnt p N = 0) ↔ ∀ k, k < N → p k = false := by
  induction N with
  | zero => simp [cnt]
  | succ n ih =>
    unfold cnt
    constructor
    · intro h k hk
      by_cases e : k = n
      · subst e
        cases hp : p k with
        | false => rfl
        | true => rw [hp] at h; simp at h
      · exact ih.mp (by omega) k (by omega)
    · intro h
      rw [ih.mpr (fun k hk => h k (by omega)), h n (by omega)]
      rfl
def oi (x : Option Nat) : Int32 := match x with
  | some k => Int32.ofNat k
  | none => -1
