/-! ===== how things lie: a number of h digits by 4, heir 0 the highest ===== -/
def dg (h x i : Nat) : Nat := x / 4 ^ (h - 1 - i) % 4
def pl (h x i t : Nat) : Nat := x - dg h x i * 4 ^ (h - 1 - i) + t * 4 ^ (h - 1 - i)
def swp (h x a b : Nat) : Nat := pl h (pl h x a (dg h x b)) b (dg h x a)
theorem dg_lt (h x i : Nat) : dg h x i < 4 := Nat.mod_lt _ (by decide)
set_option maxRecDepth 20000 in
theorem thing_tab : ∀ h, h < 5 → ∀ i, i < 4 → i < h → ∀ x, x < 256 → f_X1_thingIn (nI h) (nI x) (nI i) = some (nI (dg h x i)) := by decide +kernel
set_option maxRecDepth 20000 in
theorem placed_tab0 : ∀ k, k < 80 → ∀ x, x < 256 → k / 4 % 4 < k / 16 → f_X1_placed (nI (k / 16)) (nI x) (nI (k / 4 % 4)) (nI (k % 4)) = some (nI (pl (k / 16) x (k / 4 % 4) (k % 4))) := by decide +kernel
theorem placed_tab : ∀ h, h < 5 → ∀ i, i < 4 → i < h → ∀ t, t < 4 → ∀ x, x < 256 → f_X1_placed (nI h) (nI x) (nI i) (nI t) = some (nI (pl h x i t)) := by
  intro h hh i hi hih t ht x hx
  have := placed_tab0 (16 * h + 4 * i + t) (by omega) x hx (by omega)
  rwa [show (16 * h + 4 * i + t) / 16 = h by omega, show (16 * h + 4 * i + t) / 4 % 4 = i by omega, show (16 * h + 4 * i + t) % 4 = t by omega] at this
set_option maxRecDepth 20000 in
theorem pl_tab0 : ∀ k, k < 80 → ∀ x, x < 256 → k / 4 % 4 < k / 16 → x < 4 ^ (k / 16) → pl (k / 16) x (k / 4 % 4) (k % 4) < 4 ^ (k / 16) ∧ dg (k / 16) (pl (k / 16) x (k / 4 % 4) (k % 4)) (k / 4 % 4) = k % 4 := by decide +kernel
set_option maxRecDepth 20000 in
theorem pl_tab1 : ∀ k, k < 320 → ∀ x, x < 256 → k / 16 % 4 < k / 64 ∧ k % 4 < k / 64 ∧ k % 4 ≠ k / 16 % 4 → x < 4 ^ (k / 64) → dg (k / 64) (pl (k / 64) x (k / 16 % 4) (k / 4 % 4)) (k % 4) = dg (k / 64) x (k % 4) := by decide +kernel
theorem pl_tab : ∀ h, h < 5 → ∀ i, i < 4 → i < h → ∀ t, t < 4 → ∀ x, x < 256 → x < 4 ^ h → pl h x i t < 4 ^ h ∧ dg h (pl h x i t) i = t ∧ ∀ j, j < 4 → j < h → j ≠ i → dg h (pl h x i t) j = dg h x j := by
  intro h hh i hi hih t ht x hx hx4
  have := pl_tab0 (16 * h + 4 * i + t) (by omega) x hx (by omega)
  rw [show (16 * h + 4 * i + t) / 16 = h by omega, show (16 * h + 4 * i + t) / 4 % 4 = i by omega, show (16 * h + 4 * i + t) % 4 = t by omega] at this
  obtain ⟨a, b⟩ := this hx4
  refine ⟨a, b, fun j hj hjh hji => ?_⟩
  have := pl_tab1 (64 * h + 16 * i + 4 * t + j) (by omega) x hx
  rw [show (64 * h + 16 * i + 4 * t + j) / 64 = h by omega, show (64 * h + 16 * i + 4 * t + j) / 16 % 4 = i by omega, show (64 * h + 16 * i + 4 * t + j) / 4 % 4 = t by omega, show (64 * h + 16 * i + 4 * t + j) % 4 = j by omega] at this
  exact this ⟨hih, hjh, hji⟩ hx4
