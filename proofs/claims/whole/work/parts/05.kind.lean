/-! J0_coder_7d493 -/
def rm_J0_coder_7d493 : Room := { frames := 0, cells := 0, slots := 0, locals := 0 }
theorem nd_J0_coder_7d493 : yJ0_coder_7d493.cls = RJ0 ∧ yJ0_coder_7d493.cls ≠ "java/lang/invoke/MethodHandle" ∧ yJ0_coder_7d493.cls ≠ "java/lang/invoke/VarHandle" ∧ (parseMethodDescriptor yJ0_coder_7d493.desc).map (fun d => d.parameters.length) = some 0 := by decide +kernel
def f_J0_coder_7d493   : Option (Int32) := some 0
set_option maxHeartbeats 4000000 in
set_option maxRecDepth 100000 in
theorem k_J0_coder_7d493 (l : Launch) {D : va_G} {cI cB : ClassId} {kK kV : Nat → Nat}    {rr : Int32}  (hf : f_J0_coder_7d493  = some rr) : Ct l yJ0_coder_7d493 wsJ0_coder_7d493 rm_J0_coder_7d493 D cI cB kK kV [.ref (kK 0)] ([] : va_W) ([] : va_W) (some (.int rr)) := by
  refine Ct.of (cc := cJ0_coder_7d493) (maxL := 1) (ret := (some .byte)) (by decide) rfl (Nat.le_of_ble_eq_true rfl) rfl ?_
  intro p e s m below meth c A ls F hP hD hS hl
  have hl : lv_has ls 1 [(0, .ref (kK 0))] := hl
  obtain ⟨hx, hb, hml, hown, hts, hrt, hlocks, hK, hA, hZ⟩ := id F
  obtain ⟨H, hH⟩ : ∃ H, H = s.heap := ⟨_, rfl⟩
  obtain ⟨locs, hLo⟩ : ∃ q : List Loc, q = [] := ⟨_, rfl⟩
  refine (?_ : W p l e rm_J0_coder_7d493 s m _ below meth c s.heap [] 0 0 _ _)
  rw [← hH, ← hLo]
  rw [← hH] at hP
  have hS : va_S A s.heap H locs := by rw [hH, hLo]; exact hS
  refine va_gets hx hb hZ.2.2.1 hS hown (hts _ (List.mem_of_getElem? (i := 1) rfl)) (fun _ h9 => h9) dJ0_coder_7d493_0 ?_
  refine lv_if_eq (tgt := 13) hx hb dJ0_coder_7d493_3 (by decide) (fun c => absurd c (by decide)) (fun _ => ?_)
  refine lv_aload_n hx hb dJ0_coder_7d493_6 rfl (lv_at hl 0 rfl) ?_
  refine vk_getf hx hb (hZ.2.1.1 0 (by decide)).2.1 hS hown (hts _ (List.mem_of_getElem? (i := 2) rfl)) (fun _ h9 => h9) dJ0_coder_7d493_7 ?_
  refine lv_goto (tgt := 14) hx hb dJ0_coder_7d493_10 (by decide) ?_
  replace hf : (some 0 : Option (Int32)) = some rr := hf
  cases hf
  exact ret_z F rfl hP hS dJ0_coder_7d493_14

/-! J0_isLatin1_aae02 -/
def rm_J0_isLatin1_aae02 : Room := { frames := 0, cells := 0, slots := 0, locals := 0 }
theorem nd_J0_isLatin1_aae02 : yJ0_isLatin1_aae02.cls = RJ0 ∧ yJ0_isLatin1_aae02.cls ≠ "java/lang/invoke/MethodHandle" ∧ yJ0_isLatin1_aae02.cls ≠ "java/lang/invoke/VarHandle" ∧ (parseMethodDescriptor yJ0_isLatin1_aae02.desc).map (fun d => d.parameters.length) = some 0 := by decide +kernel
def f_J0_isLatin1_aae02   : Option (Int32) := some 1
set_option maxHeartbeats 4000000 in
set_option maxRecDepth 100000 in
theorem k_J0_isLatin1_aae02 (l : Launch) {D : va_G} {cI cB : ClassId} {kK kV : Nat → Nat}    {rr : Int32}  (hf : f_J0_isLatin1_aae02  = some rr) : Ct l yJ0_isLatin1_aae02 wsJ0_isLatin1_aae02 rm_J0_isLatin1_aae02 D cI cB kK kV [.ref (kK 0)] ([] : va_W) ([] : va_W) (some (.int rr)) := by
  refine Ct.of (cc := cJ0_isLatin1_aae02) (maxL := 1) (ret := (some .boolean)) (by decide) rfl (Nat.le_of_ble_eq_true rfl) rfl ?_
  intro p e s m below meth c A ls F hP hD hS hl
  have hl : lv_has ls 1 [(0, .ref (kK 0))] := hl
  obtain ⟨hx, hb, hml, hown, hts, hrt, hlocks, hK, hA, hZ⟩ := id F
  obtain ⟨H, hH⟩ : ∃ H, H = s.heap := ⟨_, rfl⟩
  obtain ⟨locs, hLo⟩ : ∃ q : List Loc, q = [] := ⟨_, rfl⟩
  refine (?_ : W p l e rm_J0_isLatin1_aae02 s m _ below meth c s.heap [] 0 0 _ _)
  rw [← hH, ← hLo]
  rw [← hH] at hP
  have hS : va_S A s.heap H locs := by rw [hH, hLo]; exact hS
  refine va_gets hx hb hZ.2.2.1 hS hown (hts _ (List.mem_of_getElem? (i := 1) rfl)) (fun _ h9 => h9) dJ0_isLatin1_aae02_0 ?_
  refine lv_if_eq (tgt := 17) hx hb dJ0_isLatin1_aae02_3 (by decide) (fun c => absurd c (by decide)) (fun _ => ?_)
  refine lv_aload_n hx hb dJ0_isLatin1_aae02_6 rfl (lv_at hl 0 rfl) ?_
  refine vk_getf hx hb (hZ.2.1.1 0 (by decide)).2.1 hS hown (hts _ (List.mem_of_getElem? (i := 2) rfl)) (fun _ h9 => h9) dJ0_isLatin1_aae02_7 ?_
  refine lv_if_ne (tgt := 17) hx hb dJ0_isLatin1_aae02_10 (by decide) (fun c => absurd c (by decide)) (fun _ => ?_)
  refine lv_iconst (v := 1) hx hb dJ0_isLatin1_aae02_13 (by decide) ?_
  refine lv_goto (tgt := 18) hx hb dJ0_isLatin1_aae02_14 (by decide) ?_
  replace hf : (some 1 : Option (Int32)) = some rr := hf
  cases hf
  exact ret_z F rfl hP hS dJ0_isLatin1_aae02_18

/-! J0_length_8abf5 -/
def rm_J0_length_8abf5 : Room := { frames := 1, cells := 0, slots := 0, locals := 20 }
theorem nd_J0_length_8abf5 : yJ0_length_8abf5.cls = RJ0 ∧ yJ0_length_8abf5.cls ≠ "java/lang/invoke/MethodHandle" ∧ yJ0_length_8abf5.cls ≠ "java/lang/invoke/VarHandle" ∧ (parseMethodDescriptor yJ0_length_8abf5.desc).map (fun d => d.parameters.length) = some 0 := by decide +kernel
def f_J0_length_8abf5   : Option (Int32) := some ((5 : Int32) >>> (0 &&& 31))
set_option maxHeartbeats 4000000 in
set_option maxRecDepth 100000 in
theorem k_J0_length_8abf5 (l : Launch) {D : va_G} {cI cB : ClassId} {kK kV : Nat → Nat}    {rr : Int32}  (hf : f_J0_length_8abf5  = some rr) : Ct l yJ0_length_8abf5 wsJ0_length_8abf5 rm_J0_length_8abf5 D cI cB kK kV [.ref (kK 0)] ([] : va_W) ([] : va_W) (some (.int rr)) := by
  refine Ct.of (cc := cJ0_length_8abf5) (maxL := 1) (ret := (some .int)) (by decide) rfl (Nat.le_of_ble_eq_true rfl) rfl ?_
  intro p e s m below meth c A ls F hP hD hS hl
  have hl : lv_has ls 1 [(0, .ref (kK 0))] := hl
  obtain ⟨hx, hb, hml, hown, hts, hrt, hlocks, hK, hA, hZ⟩ := id F
  obtain ⟨H, hH⟩ : ∃ H, H = s.heap := ⟨_, rfl⟩
  obtain ⟨locs, hLo⟩ : ∃ q : List Loc, q = [] := ⟨_, rfl⟩
  refine (?_ : W p l e rm_J0_length_8abf5 s m _ below meth c s.heap [] 0 0 _ _)
  rw [← hH, ← hLo]
  rw [← hH] at hP
  have hS : va_S A s.heap H locs := by rw [hH, hLo]; exact hS
  refine lv_aload_n hx hb dJ0_length_8abf5_0 rfl (lv_at hl 0 rfl) ?_
  refine vk_getf hx hb (hZ.2.1.1 0 (by decide)).2.2.1 hS hown (hts _ (List.mem_of_getElem? (i := 1) rfl)) (fun _ h9 => h9) dJ0_length_8abf5_1 ?_
  refine kln F hS dJ0_length_8abf5_4 ?_
  refine lv_aload_n hx hb dJ0_length_8abf5_5 rfl (lv_at hl 0 rfl) ?_
  refine cR F hP hD hS (k_J0_coder_7d493 l   (by decide : f_J0_coder_7d493 = some 0)) gJ0_length_8abf5_J0_coder_7d493 rfl ⟨rfl, rfl⟩ nd_J0_coder_7d493 ⟨Nat.le_of_ble_eq_true rfl, Nat.le_of_ble_eq_true rfl⟩ (vk_recv hZ.2.1 (by decide) hS) rfl hl.1 rfl (Nat.le_of_ble_eq_true rfl) dJ0_length_8abf5_6 (pmE ([] : va_W)) (pmE ([] : va_W)) (fun H locs hP hD hS => ?_)
  refine lv_ishr hx hb dJ0_length_8abf5_9 ?_
  replace hf : (some ((5 : Int32) >>> (0 &&& 31)) : Option (Int32)) = some rr := hf
  cases hf
  exact ret_i F hP hS dJ0_length_8abf5_10

/-! J1_canEncode_9a6ad -/
def rm_J1_canEncode_9a6ad : Room := { frames := 0, cells := 0, slots := 0, locals := 0 }
theorem nd_J1_canEncode_9a6ad : yJ1_canEncode_9a6ad.cls ≠ "java/lang/invoke/MethodHandle" ∧ yJ1_canEncode_9a6ad.cls ≠ "java/lang/invoke/VarHandle" ∧ (parseMethodDescriptor yJ1_canEncode_9a6ad.desc).map (fun d => d.parameters.length) = some 1 := by decide +kernel
def f_J1_canEncode_9a6ad  (x0 : Int32) : Option (Int32) := (if x0 < 0 then some 0 else (if 255 < x0 then some 0 else some 1))
set_option maxHeartbeats 4000000 in
set_option maxRecDepth 100000 in
theorem k_J1_canEncode_9a6ad (l : Launch) {D : va_G} {cI cB : ClassId} {kK kV : Nat → Nat}   (x0 : Int32) {rr : Int32}  (hf : f_J1_canEncode_9a6ad x0 = some rr) : Ct l yJ1_canEncode_9a6ad wsJ1_canEncode_9a6ad rm_J1_canEncode_9a6ad D cI cB kK kV [.int x0] ([] : va_W) ([] : va_W) (some (.int rr)) := by
  refine Ct.of (cc := cJ1_canEncode_9a6ad) (maxL := 1) (ret := (some .boolean)) (by decide) rfl (Nat.le_of_ble_eq_true rfl) rfl ?_
  intro p e s m below meth c A ls F hP hD hS hl
  have hl : lv_has ls 1 [(0, .int x0)] := hl
  obtain ⟨hx, hb, hml, hown, hts, hrt, hlocks, hK, hA, hZ⟩ := id F
  obtain ⟨H, hH⟩ : ∃ H, H = s.heap := ⟨_, rfl⟩
  obtain ⟨locs, hLo⟩ : ∃ q : List Loc, q = [] := ⟨_, rfl⟩
  refine (?_ : W p l e rm_J1_canEncode_9a6ad s m _ below meth c s.heap [] 0 0 _ _)
  rw [← hH, ← hLo]
  rw [← hH] at hP
  have hS : va_S A s.heap H locs := by rw [hH, hLo]; exact hS
  refine lv_iload_n hx hb dJ1_canEncode_9a6ad_0 rfl (lv_at hl 0 rfl) ?_
  refine lv_if_lt (tgt := 15) hx hb dJ1_canEncode_9a6ad_1 (by decide) (fun c1 => ?_) (fun c1 => ?_)
  · replace hf := (if_pos c1).symm.trans hf
    refine lv_iconst (v := 0) hx hb dJ1_canEncode_9a6ad_15 (by decide) ?_
    replace hf : (some 0 : Option (Int32)) = some rr := hf
    cases hf
    exact ret_z F rfl hP hS dJ1_canEncode_9a6ad_16
  · replace hf := (if_neg c1).symm.trans hf
    refine lv_iload_n hx hb dJ1_canEncode_9a6ad_4 rfl (lv_at hl 0 rfl) ?_
    refine lv_sipush (v := 255) hx hb dJ1_canEncode_9a6ad_5 (by decide) ?_
    refine lv_icmp_gt (tgt := 15) hx hb dJ1_canEncode_9a6ad_8 (by decide) (fun c2 => ?_) (fun c2 => ?_)
    · replace hf := (if_pos c2).symm.trans hf
      refine lv_iconst (v := 0) hx hb dJ1_canEncode_9a6ad_15 (by decide) ?_
      replace hf : (some 0 : Option (Int32)) = some rr := hf
      cases hf
      exact ret_z F rfl hP hS dJ1_canEncode_9a6ad_16
    · replace hf := (if_neg c2).symm.trans hf
      refine lv_iconst (v := 1) hx hb dJ1_canEncode_9a6ad_11 (by decide) ?_
      refine lv_goto (tgt := 16) hx hb dJ1_canEncode_9a6ad_12 (by decide) ?_
      replace hf : (some 1 : Option (Int32)) = some rr := hf
      cases hf
      exact ret_z F rfl hP hS dJ1_canEncode_9a6ad_16

/-! J1_indexOfChar_4cfef -/
def rm_J1_indexOfChar_4cfef : Room := { frames := 0, cells := 0, slots := 0, locals := 0 }
theorem nd_J1_indexOfChar_4cfef : yJ1_indexOfChar_4cfef.cls ≠ "java/lang/invoke/MethodHandle" ∧ yJ1_indexOfChar_4cfef.cls ≠ "java/lang/invoke/VarHandle" ∧ (parseMethodDescriptor yJ1_indexOfChar_4cfef.desc).map (fun d => d.parameters.length) = some 4 := by decide +kernel
def f_J1_indexOfChar_4cfef_7   : Nat → Int32 → Int32 → Int32 → Option (Int32)
  | 0, _, _, _ => none
  | n + 1, x3, x4, x5 => (if x3 ≤ x5 then some (-1) else (rd kby 5 x5).bind (fun v2 => (if v2 = x4 then some x5 else f_J1_indexOfChar_4cfef_7   n x3 x4 (x5 + 1))))
def f_J1_indexOfChar_4cfef  (x1 : Int32) (x2 : Int32) (x3 : Int32) : Option (Int32) := f_J1_indexOfChar_4cfef_7 300 x3 (x1).toInt8.toInt32 x2
set_option maxHeartbeats 4000000 in
set_option maxRecDepth 100000 in
theorem b_J1_indexOfChar_4cfef_7 {p : Program} {l : Launch} {e : Env} {s : State} {m : MethodId} {args : Array Value} {below : List Frame} {meth : Method} {c : Code} {D : va_G} {cI cB : ClassId} {kK kV : Nat → Nat} {A : Nat → Prop} (F : Fx p m c s meth args cJ1_indexOfChar_4cfef 6 RJ1 wsJ1_indexOfChar_4cfef (some .int) D cI cB kK kV A)   {rr : Int32}  : ∀ (n : Nat), ∀ (x3 : Int32) (x4 : Int32) (x5 : Int32) (H : Heap) (locs : List Loc) (ls : Array Slot), va_P D vwCl ([] : va_W) H → va_D A ([] : va_W) → va_S A s.heap H locs → lv_has ls 6 [(0, .ref (kV 0)), (3, .int x3), (4, .int x4), (5, .int x5)] → f_J1_indexOfChar_4cfef_7   n x3 x4 x5 = some rr → W p l e rm_J1_indexOfChar_4cfef s m args below meth c H locs 0 0 (Zq D below args s A ([] : va_W) (some (.int rr))) (F0 m 7 ls []) := by
  obtain ⟨hx, hb, hml, hown, hts, hrt, hlocks, hK, hA, hZ⟩ := id F
  intro n
  induction n with
  | zero =>
    intro x3 x4 x5 H locs ls hP hD hS hl hf
    cases hf
  | succ n ih =>
    intro x3 x4 x5 H locs ls hP hD hS hl hf
    refine lv_iload hx hb dJ1_indexOfChar_4cfef_7 (lv_at hl 3 rfl) ?_
    refine lv_iload_n hx hb dJ1_indexOfChar_4cfef_9 rfl (lv_at hl 1 rfl) ?_
    refine lv_icmp_ge (tgt := 31) hx hb dJ1_indexOfChar_4cfef_10 (by decide) (fun c1 => ?_) (fun c1 => ?_)
    · replace hf := (if_pos c1).symm.trans hf
      refine lv_iconst (v := (-1)) hx hb dJ1_indexOfChar_4cfef_31 (by decide) ?_
      replace hf : (some (-1) : Option (Int32)) = some rr := hf
      cases hf
      exact ret_i F hP hS dJ1_indexOfChar_4cfef_32
    · replace hf := (if_neg c1).symm.trans hf
      refine lv_aload_n hx hb dJ1_indexOfChar_4cfef_13 rfl (lv_at hl 0 rfl) ?_
      refine lv_iload hx hb dJ1_indexOfChar_4cfef_14 (lv_at hl 3 rfl) ?_
      obtain ⟨v2, ev2, hf⟩ := bnd hf
      refine kbl F hS ev2 dJ1_indexOfChar_4cfef_16 ?_
      refine lv_iload hx hb dJ1_indexOfChar_4cfef_17 (lv_at hl 2 rfl) ?_
      refine lv_icmp_ne (tgt := 25) hx hb dJ1_indexOfChar_4cfef_19 (by decide) (fun c3 => ?_) (fun c3 => ?_)
      · replace hf := (if_neg c3).symm.trans hf
        refine lv_iinc (v := (x5 + 1)) (lv' := [(5, .int (x5 + 1)), (0, .ref (kV 0)), (3, .int x3), (4, .int x4)]) hx hb dJ1_indexOfChar_4cfef_25 hl (k := 3) rfl rfl (by decide) rfl (fun ls hl => ?_)
        refine lv_goto (tgt := 7) hx hb dJ1_indexOfChar_4cfef_28 (by decide) ?_
        exact ih x3 x4 (x5 + 1) H locs ls hP hD hS (lv_sub hl [1, 2, 3, 0] rfl) hf
      · replace hf := (if_pos c3).symm.trans hf
        refine lv_iload hx hb dJ1_indexOfChar_4cfef_22 (lv_at hl 3 rfl) ?_
        replace hf : (some x5 : Option (Int32)) = some rr := hf
        cases hf
        exact ret_i F hP hS dJ1_indexOfChar_4cfef_24

set_option maxHeartbeats 4000000 in
set_option maxRecDepth 100000 in
theorem k_J1_indexOfChar_4cfef (l : Launch) {D : va_G} {cI cB : ClassId} {kK kV : Nat → Nat}   (x1 : Int32) (x2 : Int32) (x3 : Int32) {rr : Int32}  (hf : f_J1_indexOfChar_4cfef x1 x2 x3 = some rr) : Ct l yJ1_indexOfChar_4cfef wsJ1_indexOfChar_4cfef rm_J1_indexOfChar_4cfef D cI cB kK kV [.ref (kV 0), .int x1, .int x2, .int x3] ([] : va_W) ([] : va_W) (some (.int rr)) := by
  refine Ct.of (cc := cJ1_indexOfChar_4cfef) (maxL := 6) (ret := (some .int)) (by decide) rfl (Nat.le_of_ble_eq_true rfl) rfl ?_
  intro p e s m below meth c A ls F hP hD hS hl
  have hl : lv_has ls 6 [(0, .ref (kV 0)), (1, .int x1), (2, .int x2), (3, .int x3)] := hl
  obtain ⟨hx, hb, hml, hown, hts, hrt, hlocks, hK, hA, hZ⟩ := id F
  obtain ⟨H, hH⟩ : ∃ H, H = s.heap := ⟨_, rfl⟩
  obtain ⟨locs, hLo⟩ : ∃ q : List Loc, q = [] := ⟨_, rfl⟩
  refine (?_ : W p l e rm_J1_indexOfChar_4cfef s m _ below meth c s.heap [] 0 0 _ _)
  rw [← hH, ← hLo]
  rw [← hH] at hP
  have hS : va_S A s.heap H locs := by rw [hH, hLo]; exact hS
  refine lv_iload_n hx hb dJ1_indexOfChar_4cfef_0 rfl (lv_at hl 1 rfl) ?_
  refine lv_i2b hx hb dJ1_indexOfChar_4cfef_1 rfl ?_
  refine lv_istore (lv' := [(4, .int (x1).toInt8.toInt32), (0, .ref (kV 0)), (1, .int x1), (2, .int x2), (3, .int x3)]) hx hb dJ1_indexOfChar_4cfef_2 hl (by decide) rfl (fun ls hl => ?_)
  refine lv_iload_n hx hb dJ1_indexOfChar_4cfef_4 rfl (lv_at hl 3 rfl) ?_
  refine lv_istore (lv' := [(5, .int x2), (4, .int (x1).toInt8.toInt32), (0, .ref (kV 0)), (1, .int x1), (2, .int x2), (3, .int x3)]) hx hb dJ1_indexOfChar_4cfef_5 hl (by decide) rfl (fun ls hl => ?_)
  exact b_J1_indexOfChar_4cfef_7 F 300 x3 (x1).toInt8.toInt32 x2 H locs ls hP hD hS (lv_sub hl [2, 5, 1, 0] rfl) hf

/-! J1_indexOf_4cfef -/
def rm_J1_indexOf_4cfef : Room := { frames := 1, cells := 0, slots := 0, locals := 25 }
theorem nd_J1_indexOf_4cfef : yJ1_indexOf_4cfef.cls ≠ "java/lang/invoke/MethodHandle" ∧ yJ1_indexOf_4cfef.cls ≠ "java/lang/invoke/VarHandle" ∧ (parseMethodDescriptor yJ1_indexOf_4cfef.desc).map (fun d => d.parameters.length) = some 4 := by decide +kernel
def f_J1_indexOf_4cfef  (x1 : Int32) (x2 : Int32) (x3 : Int32) : Option (Int32) := (f_J1_canEncode_9a6ad x1).bind (fun v1 => (if v1 = 0 then some (-1) else (if (if x2 < 0 then 0 else x2) < (if 5 < x3 then 5 else x3) then (f_J1_indexOfChar_4cfef x1 (if x2 < 0 then 0 else x2) (if 5 < x3 then 5 else x3)).bind (fun v5 => some v5) else some (-1))))
set_option maxHeartbeats 4000000 in
set_option maxRecDepth 100000 in
theorem k_J1_indexOf_4cfef (l : Launch) {D : va_G} {cI cB : ClassId} {kK kV : Nat → Nat}   (x1 : Int32) (x2 : Int32) (x3 : Int32) {rr : Int32}  (hf : f_J1_indexOf_4cfef x1 x2 x3 = some rr) : Ct l yJ1_indexOf_4cfef wsJ1_indexOf_4cfef rm_J1_indexOf_4cfef D cI cB kK kV [.ref (kV 0), .int x1, .int x2, .int x3] ([] : va_W) ([] : va_W) (some (.int rr)) := by
  refine Ct.of (cc := cJ1_indexOf_4cfef) (maxL := 4) (ret := (some .int)) (by decide) rfl (Nat.le_of_ble_eq_true rfl) rfl ?_
  intro p e s m below meth c A ls F hP hD hS hl
  have hl : lv_has ls 4 [(0, .ref (kV 0)), (1, .int x1), (2, .int x2), (3, .int x3)] := hl
  obtain ⟨hx, hb, hml, hown, hts, hrt, hlocks, hK, hA, hZ⟩ := id F
  obtain ⟨H, hH⟩ : ∃ H, H = s.heap := ⟨_, rfl⟩
  obtain ⟨locs, hLo⟩ : ∃ q : List Loc, q = [] := ⟨_, rfl⟩
  refine (?_ : W p l e rm_J1_indexOf_4cfef s m _ below meth c s.heap [] 0 0 _ _)
  rw [← hH, ← hLo]
  rw [← hH] at hP
  have hS : va_S A s.heap H locs := by rw [hH, hLo]; exact hS
  refine lv_iload_n hx hb dJ1_indexOf_4cfef_0 rfl (lv_at hl 1 rfl) ?_
  obtain ⟨v1, e2, hf⟩ := bnd hf
  refine cS F hP hD hS (k_J1_canEncode_9a6ad l  x1 e2) gJ1_indexOf_4cfef_J1_canEncode_9a6ad rfl ⟨rfl, rfl⟩ nd_J1_canEncode_9a6ad ⟨Nat.le_of_ble_eq_true rfl, Nat.le_of_ble_eq_true rfl⟩ rfl hl.1 rfl (Nat.le_of_ble_eq_true rfl) dJ1_indexOf_4cfef_1 (pmE ([] : va_W)) (pmE ([] : va_W)) (fun H locs hP hD hS => ?_)
  refine lv_if_ne (tgt := 9) hx hb dJ1_indexOf_4cfef_4 (by decide) (fun c3 => ?_) (fun c3 => ?_)
  · replace hf := (if_neg c3).symm.trans hf
    refine lv_iload_n hx hb dJ1_indexOf_4cfef_9 rfl (lv_at hl 2 rfl) ?_
    refine lv_iconst (v := 0) hx hb dJ1_indexOf_4cfef_10 (by decide) ?_
    refine va_mmax hx hb (hml.trans hl.1.symm) hown (hts _ (List.mem_of_getElem? (i := 1) rfl)) (hts _ (List.mem_of_getElem? (i := 2) rfl)) (hts _ (List.mem_of_getElem? (i := 3) rfl)) (hts _ (List.mem_of_getElem? (i := 4) rfl)) (Nat.le_of_ble_eq_true rfl) (Nat.le_of_ble_eq_true rfl) (Nat.zero_le _) (Nat.zero_le _) dJ1_indexOf_4cfef_11 ?_
    refine lv_istore_n (lv' := [(2, .int (if x2 < 0 then 0 else x2)), (0, .ref (kV 0)), (1, .int x1), (3, .int x3)]) hx hb dJ1_indexOf_4cfef_14 rfl hl (by decide) rfl (fun ls hl => ?_)
    refine lv_iload_n hx hb dJ1_indexOf_4cfef_15 rfl (lv_at hl 3 rfl) ?_
    refine lv_aload_n hx hb dJ1_indexOf_4cfef_16 rfl (lv_at hl 1 rfl) ?_
    refine kln F hS dJ1_indexOf_4cfef_17 ?_
    refine va_mmin hx hb (hml.trans hl.1.symm) hown (hts _ (List.mem_of_getElem? (i := 5) rfl)) (hts _ (List.mem_of_getElem? (i := 6) rfl)) (hts _ (List.mem_of_getElem? (i := 3) rfl)) (hts _ (List.mem_of_getElem? (i := 7) rfl)) (Nat.le_of_ble_eq_true rfl) (Nat.le_of_ble_eq_true rfl) (Nat.zero_le _) (Nat.zero_le _) dJ1_indexOf_4cfef_18 ?_
    refine lv_istore_n (lv' := [(3, .int (if 5 < x3 then 5 else x3)), (2, .int (if x2 < 0 then 0 else x2)), (0, .ref (kV 0)), (1, .int x1)]) hx hb dJ1_indexOf_4cfef_21 rfl hl (by decide) rfl (fun ls hl => ?_)
    refine lv_iload_n hx hb dJ1_indexOf_4cfef_22 rfl (lv_at hl 1 rfl) ?_
    refine lv_iload_n hx hb dJ1_indexOf_4cfef_23 rfl (lv_at hl 0 rfl) ?_
    refine lv_icmp_lt (tgt := 29) hx hb dJ1_indexOf_4cfef_24 (by decide) (fun c4 => ?_) (fun c4 => ?_)
    · replace hf := (if_pos c4).symm.trans hf
      refine lv_aload_n hx hb dJ1_indexOf_4cfef_29 rfl (lv_at hl 2 rfl) ?_
      refine lv_iload_n hx hb dJ1_indexOf_4cfef_30 rfl (lv_at hl 3 rfl) ?_
      refine lv_iload_n hx hb dJ1_indexOf_4cfef_31 rfl (lv_at hl 1 rfl) ?_
      refine lv_iload_n hx hb dJ1_indexOf_4cfef_32 rfl (lv_at hl 0 rfl) ?_
      obtain ⟨v5, e6, hf⟩ := bnd hf
      refine cS F hP hD hS (k_J1_indexOfChar_4cfef l  x1 (if x2 < 0 then 0 else x2) (if 5 < x3 then 5 else x3) e6) gJ1_indexOf_4cfef_J1_indexOfChar_4cfef rfl ⟨rfl, rfl⟩ nd_J1_indexOfChar_4cfef ⟨Nat.le_of_ble_eq_true rfl, Nat.le_of_ble_eq_true rfl⟩ rfl hl.1 rfl (Nat.le_of_ble_eq_true rfl) dJ1_indexOf_4cfef_33 (pmE ([] : va_W)) (pmE ([] : va_W)) (fun H locs hP hD hS => ?_)
      replace hf : (some v5 : Option (Int32)) = some rr := hf
      cases hf
      exact ret_i F hP hS dJ1_indexOf_4cfef_36
    · replace hf := (if_neg c4).symm.trans hf
      refine lv_iconst (v := (-1)) hx hb dJ1_indexOf_4cfef_27 (by decide) ?_
      replace hf : (some (-1) : Option (Int32)) = some rr := hf
      cases hf
      exact ret_i F hP hS dJ1_indexOf_4cfef_28
  · replace hf := (if_pos c3).symm.trans hf
    refine lv_iconst (v := (-1)) hx hb dJ1_indexOf_4cfef_7 (by decide) ?_
    replace hf : (some (-1) : Option (Int32)) = some rr := hf
    cases hf
    exact ret_i F hP hS dJ1_indexOf_4cfef_8

/-! J0_indexOf_7cf53 -/
def rm_J0_indexOf_7cf53 : Room := { frames := 2, cells := 0, slots := 0, locals := 48 }
theorem nd_J0_indexOf_7cf53 : yJ0_indexOf_7cf53.cls = RJ0 ∧ yJ0_indexOf_7cf53.cls ≠ "java/lang/invoke/MethodHandle" ∧ yJ0_indexOf_7cf53.cls ≠ "java/lang/invoke/VarHandle" ∧ (parseMethodDescriptor yJ0_indexOf_7cf53.desc).map (fun d => d.parameters.length) = some 2 := by decide +kernel
def f_J0_indexOf_7cf53  (x1 : Int32) (x2 : Int32) : Option (Int32) := (f_J1_indexOf_4cfef x1 x2 5).bind (fun v5 => some v5)
set_option maxHeartbeats 4000000 in
set_option maxRecDepth 100000 in
theorem k_J0_indexOf_7cf53 (l : Launch) {D : va_G} {cI cB : ClassId} {kK kV : Nat → Nat}   (x1 : Int32) (x2 : Int32) {rr : Int32}  (hf : f_J0_indexOf_7cf53 x1 x2 = some rr) : Ct l yJ0_indexOf_7cf53 wsJ0_indexOf_7cf53 rm_J0_indexOf_7cf53 D cI cB kK kV [.ref (kK 0), .int x1, .int x2] ([] : va_W) ([] : va_W) (some (.int rr)) := by
  refine Ct.of (cc := cJ0_indexOf_7cf53) (maxL := 3) (ret := (some .int)) (by decide) rfl (Nat.le_of_ble_eq_true rfl) rfl ?_
  intro p e s m below meth c A ls F hP hD hS hl
  have hl : lv_has ls 3 [(0, .ref (kK 0)), (1, .int x1), (2, .int x2)] := hl
  obtain ⟨hx, hb, hml, hown, hts, hrt, hlocks, hK, hA, hZ⟩ := id F
  obtain ⟨H, hH⟩ : ∃ H, H = s.heap := ⟨_, rfl⟩
  obtain ⟨locs, hLo⟩ : ∃ q : List Loc, q = [] := ⟨_, rfl⟩
  refine (?_ : W p l e rm_J0_indexOf_7cf53 s m _ below meth c s.heap [] 0 0 _ _)
  rw [← hH, ← hLo]
  rw [← hH] at hP
  have hS : va_S A s.heap H locs := by rw [hH, hLo]; exact hS
  refine lv_aload_n hx hb dJ0_indexOf_7cf53_0 rfl (lv_at hl 0 rfl) ?_
  refine cR F hP hD hS (k_J0_isLatin1_aae02 l   (by decide : f_J0_isLatin1_aae02 = some 1)) gJ0_indexOf_7cf53_J0_isLatin1_aae02 rfl ⟨rfl, rfl⟩ nd_J0_isLatin1_aae02 ⟨Nat.le_of_ble_eq_true rfl, Nat.le_of_ble_eq_true rfl⟩ (vk_recv hZ.2.1 (by decide) hS) rfl hl.1 rfl (Nat.le_of_ble_eq_true rfl) dJ0_indexOf_7cf53_1 (pmE ([] : va_W)) (pmE ([] : va_W)) (fun H locs hP hD hS => ?_)
  refine lv_if_eq (tgt := 23) hx hb dJ0_indexOf_7cf53_4 (by decide) (fun c => absurd c (by decide)) (fun _ => ?_)
  refine lv_aload_n hx hb dJ0_indexOf_7cf53_7 rfl (lv_at hl 0 rfl) ?_
  refine vk_getf hx hb (hZ.2.1.1 0 (by decide)).2.2.1 hS hown (hts _ (List.mem_of_getElem? (i := 1) rfl)) (fun _ h9 => h9) dJ0_indexOf_7cf53_8 ?_
  refine lv_iload_n hx hb dJ0_indexOf_7cf53_11 rfl (lv_at hl 1 rfl) ?_
  refine lv_iload_n hx hb dJ0_indexOf_7cf53_12 rfl (lv_at hl 2 rfl) ?_
  refine lv_aload_n hx hb dJ0_indexOf_7cf53_13 rfl (lv_at hl 0 rfl) ?_
  refine cR F hP hD hS (k_J0_length_8abf5 l   (by decide : f_J0_length_8abf5 = some 5)) gJ0_indexOf_7cf53_J0_length_8abf5 rfl ⟨rfl, rfl⟩ nd_J0_length_8abf5 ⟨Nat.le_of_ble_eq_true rfl, Nat.le_of_ble_eq_true rfl⟩ (vk_recv hZ.2.1 (by decide) hS) rfl hl.1 rfl (Nat.le_of_ble_eq_true rfl) dJ0_indexOf_7cf53_14 (pmE ([] : va_W)) (pmE ([] : va_W)) (fun H locs hP hD hS => ?_)
  obtain ⟨v5, e6, hf⟩ := bnd hf
  refine cS F hP hD hS (k_J1_indexOf_4cfef l  x1 x2 5 e6) gJ0_indexOf_7cf53_J1_indexOf_4cfef rfl ⟨rfl, rfl⟩ nd_J1_indexOf_4cfef ⟨Nat.le_of_ble_eq_true rfl, Nat.le_of_ble_eq_true rfl⟩ rfl hl.1 rfl (Nat.le_of_ble_eq_true rfl) dJ0_indexOf_7cf53_17 (pmE ([] : va_W)) (pmE ([] : va_W)) (fun H locs hP hD hS => ?_)
  refine lv_goto (tgt := 36) hx hb dJ0_indexOf_7cf53_20 (by decide) ?_
  replace hf : (some v5 : Option (Int32)) = some rr := hf
  cases hf
  exact ret_i F hP hS dJ0_indexOf_7cf53_36

/-! J0_indexOf_0f7a4 -/
def rm_J0_indexOf_0f7a4 : Room := { frames := 3, cells := 0, slots := 0, locals := 70 }
theorem nd_J0_indexOf_0f7a4 : yJ0_indexOf_0f7a4.cls = RJ0 ∧ yJ0_indexOf_0f7a4.cls ≠ "java/lang/invoke/MethodHandle" ∧ yJ0_indexOf_0f7a4.cls ≠ "java/lang/invoke/VarHandle" ∧ (parseMethodDescriptor yJ0_indexOf_0f7a4.desc).map (fun d => d.parameters.length) = some 1 := by decide +kernel
def f_J0_indexOf_0f7a4  (x1 : Int32) : Option (Int32) := (f_J0_indexOf_7cf53 x1 0).bind (fun v1 => some v1)
set_option maxHeartbeats 4000000 in
set_option maxRecDepth 100000 in
theorem k_J0_indexOf_0f7a4 (l : Launch) {D : va_G} {cI cB : ClassId} {kK kV : Nat → Nat}   (x1 : Int32) {rr : Int32}  (hf : f_J0_indexOf_0f7a4 x1 = some rr) : Ct l yJ0_indexOf_0f7a4 wsJ0_indexOf_0f7a4 rm_J0_indexOf_0f7a4 D cI cB kK kV [.ref (kK 0), .int x1] ([] : va_W) ([] : va_W) (some (.int rr)) := by
  refine Ct.of (cc := cJ0_indexOf_0f7a4) (maxL := 2) (ret := (some .int)) (by decide) rfl (Nat.le_of_ble_eq_true rfl) rfl ?_
  intro p e s m below meth c A ls F hP hD hS hl
  have hl : lv_has ls 2 [(0, .ref (kK 0)), (1, .int x1)] := hl
  obtain ⟨hx, hb, hml, hown, hts, hrt, hlocks, hK, hA, hZ⟩ := id F
  obtain ⟨H, hH⟩ : ∃ H, H = s.heap := ⟨_, rfl⟩
  obtain ⟨locs, hLo⟩ : ∃ q : List Loc, q = [] := ⟨_, rfl⟩
  refine (?_ : W p l e rm_J0_indexOf_0f7a4 s m _ below meth c s.heap [] 0 0 _ _)
  rw [← hH, ← hLo]
  rw [← hH] at hP
  have hS : va_S A s.heap H locs := by rw [hH, hLo]; exact hS
  refine lv_aload_n hx hb dJ0_indexOf_0f7a4_0 rfl (lv_at hl 0 rfl) ?_
  refine lv_iload_n hx hb dJ0_indexOf_0f7a4_1 rfl (lv_at hl 1 rfl) ?_
  refine lv_iconst (v := 0) hx hb dJ0_indexOf_0f7a4_2 (by decide) ?_
  obtain ⟨v1, e2, hf⟩ := bnd hf
  refine cR F hP hD hS (k_J0_indexOf_7cf53 l  x1 0 e2) gJ0_indexOf_0f7a4_J0_indexOf_7cf53 rfl ⟨rfl, rfl⟩ nd_J0_indexOf_7cf53 ⟨Nat.le_of_ble_eq_true rfl, Nat.le_of_ble_eq_true rfl⟩ (vk_recv hZ.2.1 (by decide) hS) rfl hl.1 rfl (Nat.le_of_ble_eq_true rfl) dJ0_indexOf_0f7a4_3 (pmE ([] : va_W)) (pmE ([] : va_W)) (fun H locs hP hD hS => ?_)
  replace hf : (some v1 : Option (Int32)) = some rr := hf
  cases hf
  exact ret_i F hP hS dJ0_indexOf_0f7a4_6

/-! X2_kindCalled -/
def rm_X2_kindCalled : Room := { frames := 4, cells := 0, slots := 0, locals := 91 }
theorem nd_X2_kindCalled : yX2_kindCalled.cls ≠ "java/lang/invoke/MethodHandle" ∧ yX2_kindCalled.cls ≠ "java/lang/invoke/VarHandle" ∧ (parseMethodDescriptor yX2_kindCalled.desc).map (fun d => d.parameters.length) = some 1 := by decide +kernel
def f_X2_kindCalled  (x0 : Int32) : Option (Int32) := (f_J0_indexOf_0f7a4 ((x0).toUInt32 % 65536).toInt32).bind (fun v1 => some v1)
set_option maxHeartbeats 4000000 in
set_option maxRecDepth 100000 in
theorem k_X2_kindCalled (l : Launch) {D : va_G} {cI cB : ClassId} {kK kV : Nat → Nat}   (x0 : Int32) {rr : Int32}  (hf : f_X2_kindCalled x0 = some rr) : Ct l yX2_kindCalled wsX2_kindCalled rm_X2_kindCalled D cI cB kK kV [.int x0] ([] : va_W) ([] : va_W) (some (.int rr)) := by
  refine Ct.of (cc := cX2_kindCalled) (maxL := 1) (ret := (some .int)) (by decide) rfl (Nat.le_of_ble_eq_true rfl) rfl ?_
  intro p e s m below meth c A ls F hP hD hS hl
  have hl : lv_has ls 1 [(0, .int x0)] := hl
  obtain ⟨hx, hb, hml, hown, hts, hrt, hlocks, hK, hA, hZ⟩ := id F
  obtain ⟨H, hH⟩ : ∃ H, H = s.heap := ⟨_, rfl⟩
  obtain ⟨locs, hLo⟩ : ∃ q : List Loc, q = [] := ⟨_, rfl⟩
  refine (?_ : W p l e rm_X2_kindCalled s m _ below meth c s.heap [] 0 0 _ _)
  rw [← hH, ← hLo]
  rw [← hH] at hP
  have hS : va_S A s.heap H locs := by rw [hH, hLo]; exact hS
  refine va_ldcS hx hb hown hZ.1 dX2_kindCalled_0 ?_
  refine lv_iload_n hx hb dX2_kindCalled_2 rfl (lv_at hl 0 rfl) ?_
  refine lv_i2c hx hb dX2_kindCalled_3 rfl ?_
  obtain ⟨v1, e2, hf⟩ := bnd hf
  refine cR F hP hD hS (k_J0_indexOf_0f7a4 l  ((x0).toUInt32 % 65536).toInt32 e2) gX2_kindCalled_J0_indexOf_0f7a4 rfl ⟨rfl, rfl⟩ nd_J0_indexOf_0f7a4 ⟨Nat.le_of_ble_eq_true rfl, Nat.le_of_ble_eq_true rfl⟩ (vk_recv hZ.2.1 (by decide) hS) rfl hl.1 rfl (Nat.le_of_ble_eq_true rfl) dX2_kindCalled_4 (pmE ([] : va_W)) (pmE ([] : va_W)) (fun H locs hP hD hS => ?_)
  replace hf : (some v1 : Option (Int32)) = some rr := hf
  cases hf
  exact ret_i F hP hS dX2_kindCalled_7

