theorem xcw_all : ∀ a, a < 13 → ∀ w ∈ u_ws (xcl a).1 (xcl a).2.1 (xcl a).2.2, w ∈ xTBL := fun a h => match a, h with
  | 0, _ => xcw0
  | 1, _ => xcw1
  | 2, _ => xcw2
  | 3, _ => xcw3
  | 4, _ => xcw4
  | 5, _ => xcw5
  | 6, _ => xcw6
  | 7, _ => xcw7
  | 8, _ => xcw8
  | 9, _ => xcw9
  | 10, _ => xcw10
  | 11, _ => xcw11
  | 12, _ => xcw12
  | k + 13, h => absurd h (by omega)
theorem xty_all : ∀ a, a < 13 → ∀ k, k < (xcl a).2.2 → parseFieldDescriptor ((xcl a).2.1 k).2.2.1 = some (xcty a k) := fun a h => match a, h with
  | 0, _ => tyX0_ok
  | 1, _ => tyX1_ok
  | 2, _ => tyX2_ok
  | 3, _ => tyX3_ok
  | 4, _ => tyX4_ok
  | 5, _ => tyX5_ok
  | 6, _ => tyX6_ok
  | 7, _ => tyX7_ok
  | 8, _ => tyX8_ok
  | 9, _ => tyX9_ok
  | 10, _ => tyX10_ok
  | 11, _ => tyX11_ok
  | 12, _ => tyX12_ok
  | k + 13, h => absurd h (by omega)
theorem xnm_all : ∀ a, a < 13 → ∀ j, j < (xcl a).2.2 → ∀ k, k < (xcl a).2.2 → j ≠ k → ((xcl a).2.1 j).2.1 ≠ ((xcl a).2.1 k).2.1 := fun a h => match a, h with
  | 0, _ => nmX0
  | 1, _ => nmX1
  | 2, _ => nmX2
  | 3, _ => nmX3
  | 4, _ => nmX4
  | 5, _ => nmX5
  | 6, _ => nmX6
  | 7, _ => nmX7
  | 8, _ => nmX8
  | 9, _ => nmX9
  | 10, _ => nmX10
  | 11, _ => nmX11
  | 12, _ => nmX12
  | k + 13, h => absurd h (by omega)
theorem xcl_at : ∀ a, a < 13 → vwCl[a]? = some ((xcl a).1, (xcl a).2.1, (xcl a).2.2) := fun a h => match a, h with
  | 0, _ => rfl
  | 1, _ => rfl
  | 2, _ => rfl
  | 3, _ => rfl
  | 4, _ => rfl
  | 5, _ => rfl
  | 6, _ => rfl
  | 7, _ => rfl
  | 8, _ => rfl
  | 9, _ => rfl
  | 10, _ => rfl
  | 11, _ => rfl
  | 12, _ => rfl
  | k + 13, h => absurd h (by omega)
theorem xty_kind : ∀ a, a < 13 → ∀ k, k < (xcl a).2.2 → (xcty a k = .int ∨ xcty a k = .boolean ∨ xrefT (xcty a k) = true) := by decide +kernel
theorem xdecl_all : ∀ a, a < 13 → ∀ k, k < (xcl a).2.2 → ((xcl a).2.1 k).1 = xcn a := by decide +kernel
theorem xcl_nm : ∀ a, a < 13 → (xcl a).1 = xcn a := fun a h => match a, h with
  | 0, _ => rfl
  | 1, _ => rfl
  | 2, _ => rfl
  | 3, _ => rfl
  | 4, _ => rfl
  | 5, _ => rfl
  | 6, _ => rfl
  | 7, _ => rfl
  | 8, _ => rfl
  | 9, _ => rfl
  | 10, _ => rfl
  | 11, _ => rfl
  | 12, _ => rfl
  | k + 13, h => absurd h (by omega)
theorem xmax_lt : ∀ m, m < 295 → (xmi m).2.2.2.1 ≤ 45 := by decide +kernel
