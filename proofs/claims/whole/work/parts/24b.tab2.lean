/-! tables of bits, up to ten of them -/
def pc (b : Nat) : Nat → Nat
  | 0 => 0
  | v + 1 => pc b v + (if b.testBit v = true then 1 else 0)
def mr (b w : Nat) : Nat → Nat
  | 0 => 0
  | v + 1 => mr b w v + (if b.testBit v = true ∧ w < v then 1 else 0)
def nt (b w : Nat) : Nat → Nat
  | 0 => 0
  | v + 1 => nt b w v + (if b.testBit v = true ∧ ¬ w < v then 1 else 0)
set_option maxRecDepth 20000 in
theorem bit2_tab_0 : ∀ g, g < 1024 → ((nI g >>> (nI 0 &&& 31)) &&& 1) = (if g.testBit 0 = true then 1 else 0) := by decide +kernel
set_option maxRecDepth 20000 in
theorem bit2_tab_1 : ∀ g, g < 1024 → ((nI g >>> (nI 1 &&& 31)) &&& 1) = (if g.testBit 1 = true then 1 else 0) := by decide +kernel
set_option maxRecDepth 20000 in
theorem bit2_tab_2 : ∀ g, g < 1024 → ((nI g >>> (nI 2 &&& 31)) &&& 1) = (if g.testBit 2 = true then 1 else 0) := by decide +kernel
set_option maxRecDepth 20000 in
theorem bit2_tab_3 : ∀ g, g < 1024 → ((nI g >>> (nI 3 &&& 31)) &&& 1) = (if g.testBit 3 = true then 1 else 0) := by decide +kernel
set_option maxRecDepth 20000 in
theorem bit2_tab_4 : ∀ g, g < 1024 → ((nI g >>> (nI 4 &&& 31)) &&& 1) = (if g.testBit 4 = true then 1 else 0) := by decide +kernel
set_option maxRecDepth 20000 in
theorem bit2_tab_5 : ∀ g, g < 1024 → ((nI g >>> (nI 5 &&& 31)) &&& 1) = (if g.testBit 5 = true then 1 else 0) := by decide +kernel
set_option maxRecDepth 20000 in
theorem bit2_tab_6 : ∀ g, g < 1024 → ((nI g >>> (nI 6 &&& 31)) &&& 1) = (if g.testBit 6 = true then 1 else 0) := by decide +kernel
set_option maxRecDepth 20000 in
theorem bit2_tab_7 : ∀ g, g < 1024 → ((nI g >>> (nI 7 &&& 31)) &&& 1) = (if g.testBit 7 = true then 1 else 0) := by decide +kernel
set_option maxRecDepth 20000 in
theorem bit2_tab_8 : ∀ g, g < 1024 → ((nI g >>> (nI 8 &&& 31)) &&& 1) = (if g.testBit 8 = true then 1 else 0) := by decide +kernel
set_option maxRecDepth 20000 in
theorem bit2_tab_9 : ∀ g, g < 1024 → ((nI g >>> (nI 9 &&& 31)) &&& 1) = (if g.testBit 9 = true then 1 else 0) := by decide +kernel
theorem bit2_tab : ∀ t, t < 10 → ∀ g, g < 1024 → ((nI g >>> (nI t &&& 31)) &&& 1) = (if g.testBit t = true then 1 else 0) := fun t ht => match t, ht with
  | 0, _ => bit2_tab_0
  | 1, _ => bit2_tab_1
  | 2, _ => bit2_tab_2
  | 3, _ => bit2_tab_3
  | 4, _ => bit2_tab_4
  | 5, _ => bit2_tab_5
  | 6, _ => bit2_tab_6
  | 7, _ => bit2_tab_7
  | 8, _ => bit2_tab_8
  | 9, _ => bit2_tab_9
  | q + 10, h => absurd h (by omega)
theorem shl_tab : ∀ v, v < 10 → ((1 : Int32) <<< (nI v &&& 31)) = nI (2 ^ v) := by decide +kernel
set_option maxRecDepth 20000 in
theorem bc_tab : ∀ b, b < 1024 → f_J6_bitCount_0f7a4 (nI b) = some (nI (pc b 10)) := by decide +kernel
set_option maxRecDepth 20000 in
theorem shr_tab_0 : ∀ b, b < 1024 → nI b >>> ((nI 0 + 1) &&& 31) = nI (b / 2 ^ (0 + 1)) := by decide +kernel
set_option maxRecDepth 20000 in
theorem shr_tab_1 : ∀ b, b < 1024 → nI b >>> ((nI 1 + 1) &&& 31) = nI (b / 2 ^ (1 + 1)) := by decide +kernel
set_option maxRecDepth 20000 in
theorem shr_tab_2 : ∀ b, b < 1024 → nI b >>> ((nI 2 + 1) &&& 31) = nI (b / 2 ^ (2 + 1)) := by decide +kernel
set_option maxRecDepth 20000 in
theorem shr_tab_3 : ∀ b, b < 1024 → nI b >>> ((nI 3 + 1) &&& 31) = nI (b / 2 ^ (3 + 1)) := by decide +kernel
set_option maxRecDepth 20000 in
theorem shr_tab_4 : ∀ b, b < 1024 → nI b >>> ((nI 4 + 1) &&& 31) = nI (b / 2 ^ (4 + 1)) := by decide +kernel
set_option maxRecDepth 20000 in
theorem shr_tab_5 : ∀ b, b < 1024 → nI b >>> ((nI 5 + 1) &&& 31) = nI (b / 2 ^ (5 + 1)) := by decide +kernel
set_option maxRecDepth 20000 in
theorem shr_tab_6 : ∀ b, b < 1024 → nI b >>> ((nI 6 + 1) &&& 31) = nI (b / 2 ^ (6 + 1)) := by decide +kernel
set_option maxRecDepth 20000 in
theorem shr_tab_7 : ∀ b, b < 1024 → nI b >>> ((nI 7 + 1) &&& 31) = nI (b / 2 ^ (7 + 1)) := by decide +kernel
set_option maxRecDepth 20000 in
theorem shr_tab_8 : ∀ b, b < 1024 → nI b >>> ((nI 8 + 1) &&& 31) = nI (b / 2 ^ (8 + 1)) := by decide +kernel
set_option maxRecDepth 20000 in
theorem shr_tab_9 : ∀ b, b < 1024 → nI b >>> ((nI 9 + 1) &&& 31) = nI (b / 2 ^ (9 + 1)) := by decide +kernel
theorem shr_tab : ∀ w, w < 10 → ∀ b, b < 1024 → nI b >>> ((nI w + 1) &&& 31) = nI (b / 2 ^ (w + 1)) := fun w hw => match w, hw with
  | 0, _ => shr_tab_0
  | 1, _ => shr_tab_1
  | 2, _ => shr_tab_2
  | 3, _ => shr_tab_3
  | 4, _ => shr_tab_4
  | 5, _ => shr_tab_5
  | 6, _ => shr_tab_6
  | 7, _ => shr_tab_7
  | 8, _ => shr_tab_8
  | 9, _ => shr_tab_9
  | q + 10, h => absurd h (by omega)
set_option maxRecDepth 20000 in
theorem cnt_tab_0 : ∀ b, b < 1024 → pc (b / 2 ^ (0 + 1)) 10 = mr b 0 10 ∧ mr b 0 10 + nt b 0 10 = pc b 10 := by decide +kernel
set_option maxRecDepth 20000 in
theorem cnt_tab_1 : ∀ b, b < 1024 → pc (b / 2 ^ (1 + 1)) 10 = mr b 1 10 ∧ mr b 1 10 + nt b 1 10 = pc b 10 := by decide +kernel
set_option maxRecDepth 20000 in
theorem cnt_tab_2 : ∀ b, b < 1024 → pc (b / 2 ^ (2 + 1)) 10 = mr b 2 10 ∧ mr b 2 10 + nt b 2 10 = pc b 10 := by decide +kernel
set_option maxRecDepth 20000 in
theorem cnt_tab_3 : ∀ b, b < 1024 → pc (b / 2 ^ (3 + 1)) 10 = mr b 3 10 ∧ mr b 3 10 + nt b 3 10 = pc b 10 := by decide +kernel
set_option maxRecDepth 20000 in
theorem cnt_tab_4 : ∀ b, b < 1024 → pc (b / 2 ^ (4 + 1)) 10 = mr b 4 10 ∧ mr b 4 10 + nt b 4 10 = pc b 10 := by decide +kernel
set_option maxRecDepth 20000 in
theorem cnt_tab_5 : ∀ b, b < 1024 → pc (b / 2 ^ (5 + 1)) 10 = mr b 5 10 ∧ mr b 5 10 + nt b 5 10 = pc b 10 := by decide +kernel
set_option maxRecDepth 20000 in
theorem cnt_tab_6 : ∀ b, b < 1024 → pc (b / 2 ^ (6 + 1)) 10 = mr b 6 10 ∧ mr b 6 10 + nt b 6 10 = pc b 10 := by decide +kernel
set_option maxRecDepth 20000 in
theorem cnt_tab_7 : ∀ b, b < 1024 → pc (b / 2 ^ (7 + 1)) 10 = mr b 7 10 ∧ mr b 7 10 + nt b 7 10 = pc b 10 := by decide +kernel
set_option maxRecDepth 20000 in
theorem cnt_tab_8 : ∀ b, b < 1024 → pc (b / 2 ^ (8 + 1)) 10 = mr b 8 10 ∧ mr b 8 10 + nt b 8 10 = pc b 10 := by decide +kernel
set_option maxRecDepth 20000 in
theorem cnt_tab_9 : ∀ b, b < 1024 → pc (b / 2 ^ (9 + 1)) 10 = mr b 9 10 ∧ mr b 9 10 + nt b 9 10 = pc b 10 := by decide +kernel
theorem cnt_tab : ∀ w, w < 10 → ∀ b, b < 1024 → pc (b / 2 ^ (w + 1)) 10 = mr b w 10 ∧ mr b w 10 + nt b w 10 = pc b 10 := fun w hw => match w, hw with
  | 0, _ => cnt_tab_0
  | 1, _ => cnt_tab_1
  | 2, _ => cnt_tab_2
  | 3, _ => cnt_tab_3
  | 4, _ => cnt_tab_4
  | 5, _ => cnt_tab_5
  | 6, _ => cnt_tab_6
  | 7, _ => cnt_tab_7
  | 8, _ => cnt_tab_8
  | 9, _ => cnt_tab_9
  | q + 10, h => absurd h (by omega)
theorem fa_or (a b : Nat) : nI a ||| nI b = nI (a ||| b) := by
  apply Int32.toBitVec_inj.1
  show BitVec.ofNat 32 a ||| BitVec.ofNat 32 b = BitVec.ofNat 32 (a ||| b)
  apply BitVec.eq_of_getLsbD_eq
  intro i hi
  simp [hi]
