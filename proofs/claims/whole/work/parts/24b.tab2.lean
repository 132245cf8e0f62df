/-! tables of bits, up to ten of them -/
def pc (b : Nat) : Nat → Nat
  | 0 => 0
  | v + 1 => pc b v + (if b.testBit v = true then 1 else 0)
def mr (b w : Nat) : Nat → Nat
  | 0 => 0
  | v + 1 => mr b w v + (if b.testBit v = true ∧ w < v then 1 else 0)
def nt (b w : Nat) : Nat → Nat
  | 0 => 0
  | v + 1 => nt b w v + (if b.testBit v = true ∧ ¬ w < v then 1 else 0)
set_option maxRecDepth 20000 in
theorem bit2_tab : ∀ t, t < 10 → ∀ g, g < 1024 → ((nI g >>> (nI t &&& 31)) &&& 1) = (if g.testBit t = true then 1 else 0) := by decide +kernel
theorem shl_tab : ∀ v, v < 10 → ((1 : Int32) <<< (nI v &&& 31)) = nI (2 ^ v) := by decide +kernel
set_option maxRecDepth 20000 in
theorem bc_tab : ∀ b, b < 1024 → f_J6_bitCount_0f7a4 (nI b) = some (nI (pc b 10)) := by decide +kernel
set_option maxRecDepth 20000 in
theorem shr_tab : ∀ w, w < 10 → ∀ b, b < 1024 → nI b >>> ((nI w + 1) &&& 31) = nI (b / 2 ^ (w + 1)) := by decide +kernel
set_option maxRecDepth 20000 in
theorem cnt_tab : ∀ w, w < 10 → ∀ b, b < 1024 → pc (b / 2 ^ (w + 1)) 10 = mr b w 10 ∧ mr b w 10 + nt b w 10 = pc b 10 := by decide +kernel
theorem fa_or (a b : Nat) : nI a ||| nI b = nI (a ||| b) := by
  apply Int32.toBitVec_inj.1
  show BitVec.ofNat 32 a ||| BitVec.ofNat 32 b = BitVec.ofNat 32 (a ||| b)
  apply BitVec.eq_of_getLsbD_eq
  intro i hi
  simp [hi]
