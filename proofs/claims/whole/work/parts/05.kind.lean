/-- the place of a letter in "hspla", as the JDK's indexOf finds it -/
def kplace (c : Int32) : Int32 := if c = 104 then 0 else if c = 115 then 1 else if c = 112 then 2 else if c = 108 then 3 else if c = 97 then 4 else -1
def f_X2_kindCalled (x0 : Int32) : Option Int32 := some (kplace ((x0.toUInt32 % 65536).toInt32))
def rm_X2_kindCalled : Room := { frames := 4, cells := 0, slots := 0, locals := 91 }
theorem nd_X2_kindCalled : yX2_kindCalled.cls ≠ "java/lang/invoke/MethodHandle" ∧ yX2_kindCalled.cls ≠ "java/lang/invoke/VarHandle" ∧ (parseMethodDescriptor yX2_kindCalled.desc).map (fun d => d.parameters.length) = some 1 := by decide +kernel
theorem k_X2_kindCalled (l : Launch) {D : va_G} {cI cB : ClassId} {kK kV : Nat → Nat} (x0 : Int32) {rr : Int32} (hf : f_X2_kindCalled x0 = some rr) : Ct l yX2_kindCalled wsX2_kindCalled rm_X2_kindCalled D cI cB kK kV [.int x0] ([] : va_W) ([] : va_W) (some (.int rr)) := by
  sorry
