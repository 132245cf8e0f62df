/-! X1_knows -/
def rm_X1_knows : Room := { frames := 0, cells := 0, slots := 0, locals := 0 }
theorem in_X1_knows_X1 : ∀ w ∈ u_ws RX1 TX1 3, w ∈ wsX1_knows := fun _ h => List.mem_cons_of_mem _ (List.mem_append_right _ (h))
theorem nd_X1_knows : yX1_knows.cls = RX1 ∧ yX1_knows.cls ≠ "java/lang/invoke/MethodHandle" ∧ yX1_knows.cls ≠ "java/lang/invoke/VarHandle" ∧ (parseMethodDescriptor yX1_knows.desc).map (fun d => d.parameters.length) = some 1 := by decide +kernel
def f_X1_knows (t_heirs : Int32) (x1 : Int32) : Option (Int32) := (if x1 < 0 then some 0 else (if t_heirs ≤ x1 then some 0 else some 1))
set_option maxHeartbeats 4000000 in
set_option maxRecDepth 100000 in
theorem k_X1_knows (l : Launch) {D : va_G} {cI cB : ClassId} {kK kV : Nat → Nat} (ad_t : Nat → Nat) (t_kinds : Nat → Int32) (t_now_worths : Nat → Int32) (t_now_made : Nat → Int32) (t_now_heardOf : Nat → Int32) (t_now_heardThing : Nat → Int32) (t_now_heardOther : Nat → Int32) (t_now_heardMore : Nat → Int32) (t_now_lie : Int32) (t_now_changes : Int32) (t_now_heard : Int32) (t_heirs : Int32) (x1 : Int32) {rr : Int32}  (hf : f_X1_knows t_heirs x1 = some rr) : Ct l yX1_knows wsX1_knows rm_X1_knows D cI cB kK kV [.ref (ad_t 0), .int x1] (w_X1 cI cB ad_t t_kinds t_now_worths t_now_made t_now_heardOf t_now_heardThing t_now_heardOther t_now_heardMore t_now_lie t_now_changes t_now_heard t_heirs) (w_X1 cI cB ad_t t_kinds t_now_worths t_now_made t_now_heardOf t_now_heardThing t_now_heardOther t_now_heardMore t_now_lie t_now_changes t_now_heard t_heirs) (some (.int rr)) := by
  refine Ct.of (cc := cX1_knows) (maxL := 2) (ret := (some .boolean)) (by decide) rfl (Nat.le_of_ble_eq_true rfl) rfl ?_
  intro p e s m below meth c A ls F hP hD hS hl
  have hl : lv_has ls 2 [(0, .ref (ad_t 0)), (1, .int x1)] := hl
  obtain ⟨hx, hb, hml, hown, hts, hrt, hlocks, hK, hA, hZ⟩ := id F
  obtain ⟨H, hH⟩ : ∃ H, H = s.heap := ⟨_, rfl⟩
  obtain ⟨locs, hLo⟩ : ∃ q : List Loc, q = [] := ⟨_, rfl⟩
  refine (?_ : W p l e rm_X1_knows s m _ below meth c s.heap [] 0 0 _ _)
  rw [← hH, ← hLo]
  rw [← hH] at hP
  have hS : va_S A s.heap H locs := by rw [hH, hLo]; exact hS
  refine lv_iload_n hx hb dX1_knows_0 rfl (lv_at hl 1 rfl) ?_
  refine lv_if_lt (tgt := 16) hx hb dX1_knows_1 (by decide) (fun c1 => ?_) (fun c1 => ?_)
  · replace hf := (if_pos c1).symm.trans hf
    refine lv_iconst (v := 0) hx hb dX1_knows_16 (by decide) ?_
    replace hf : (some 0 : Option (Int32)) = some rr := hf
    cases hf
    exact ret_z F rfl hP hS dX1_knows_17
  · replace hf := (if_neg c1).symm.trans hf
    refine lv_iload_n hx hb dX1_knows_4 rfl (lv_at hl 1 rfl) ?_
    refine lv_aload_n hx hb dX1_knows_5 rfl (lv_at hl 0 rfl) ?_
    refine gf F hP in_X1_knows_X1 0 rfl rfl 2 (by decide) 1 rfl rfl dX1_knows_6 ?_
    refine lv_icmp_ge (tgt := 16) hx hb dX1_knows_9 (by decide) (fun c2 => ?_) (fun c2 => ?_)
    · replace hf := (if_pos c2).symm.trans hf
      refine lv_iconst (v := 0) hx hb dX1_knows_16 (by decide) ?_
      replace hf : (some 0 : Option (Int32)) = some rr := hf
      cases hf
      exact ret_z F rfl hP hS dX1_knows_17
    · replace hf := (if_neg c2).symm.trans hf
      refine lv_iconst (v := 1) hx hb dX1_knows_12 (by decide) ?_
      refine lv_goto (tgt := 17) hx hb dX1_knows_13 (by decide) ?_
      replace hf : (some 1 : Option (Int32)) = some rr := hf
      cases hf
      exact ret_z F rfl hP hS dX1_knows_17

/-! X1_saidAs -/
def rm_X1_saidAs : Room := { frames := 0, cells := 0, slots := 0, locals := 0 }
theorem nd_X1_saidAs : yX1_saidAs.cls ≠ "java/lang/invoke/MethodHandle" ∧ yX1_saidAs.cls ≠ "java/lang/invoke/VarHandle" ∧ (parseMethodDescriptor yX1_saidAs.desc).map (fun d => d.parameters.length) = some 3 := by decide +kernel
def f_X1_saidAs  (x0 : Int32) (x1 : Int32) (x2 : Int32) : Option (Int32) := (if x0 = 1 then some (9 - x1) else (if x0 = 2 then some 5 else (if x0 = 3 then some (9 - x2) else (if x0 = 4 then (if x1 < 5 then some 0 else some (9 - x1)) else some x1))))
set_option maxHeartbeats 4000000 in
set_option maxRecDepth 100000 in
theorem k_X1_saidAs (l : Launch) {D : va_G} {cI cB : ClassId} {kK kV : Nat → Nat}   (x0 : Int32) (x1 : Int32) (x2 : Int32) {rr : Int32}  (hf : f_X1_saidAs x0 x1 x2 = some rr) : Ct l yX1_saidAs wsX1_saidAs rm_X1_saidAs D cI cB kK kV [.int x0, .int x1, .int x2] ([] : va_W) ([] : va_W) (some (.int rr)) := by
  refine Ct.of (cc := cX1_saidAs) (maxL := 3) (ret := (some .int)) (by decide) rfl (Nat.le_of_ble_eq_true rfl) rfl ?_
  intro p e s m below meth c A ls F hP hD hS hl
  have hl : lv_has ls 3 [(0, .int x0), (1, .int x1), (2, .int x2)] := hl
  obtain ⟨hx, hb, hml, hown, hts, hrt, hlocks, hK, hA, hZ⟩ := id F
  obtain ⟨H, hH⟩ : ∃ H, H = s.heap := ⟨_, rfl⟩
  obtain ⟨locs, hLo⟩ : ∃ q : List Loc, q = [] := ⟨_, rfl⟩
  refine (?_ : W p l e rm_X1_saidAs s m _ below meth c s.heap [] 0 0 _ _)
  rw [← hH, ← hLo]
  rw [← hH] at hP
  have hS : va_S A s.heap H locs := by rw [hH, hLo]; exact hS
  refine lv_iload_n hx hb dX1_saidAs_0 rfl (lv_at hl 0 rfl) ?_
  by_cases c1 : x0 = 1
  · replace hf := (if_pos c1).symm.trans hf
    refine lv_tableIn (off := 31) (tgt := 32) hx hb dX1_saidAs_1 (by rw [c1]; decide) (by rw [c1]; decide) (by rw [c1]; rfl) (by decide) ?_
    refine lv_bipush (v := 9) hx hb dX1_saidAs_32 (by decide) ?_
    refine lv_iload_n hx hb dX1_saidAs_34 rfl (lv_at hl 1 rfl) ?_
    refine lv_isub hx hb dX1_saidAs_35 ?_
    replace hf : (some (9 - x1) : Option (Int32)) = some rr := hf
    cases hf
    exact ret_i F hP hS dX1_saidAs_36
  replace hf := (if_neg c1).symm.trans hf
  by_cases c2 : x0 = 2
  · replace hf := (if_pos c2).symm.trans hf
    refine lv_tableIn (off := 36) (tgt := 37) hx hb dX1_saidAs_1 (by rw [c2]; decide) (by rw [c2]; decide) (by rw [c2]; rfl) (by decide) ?_
    refine lv_iconst (v := 5) hx hb dX1_saidAs_37 (by decide) ?_
    replace hf : (some 5 : Option (Int32)) = some rr := hf
    cases hf
    exact ret_i F hP hS dX1_saidAs_38
  replace hf := (if_neg c2).symm.trans hf
  by_cases c3 : x0 = 3
  · replace hf := (if_pos c3).symm.trans hf
    refine lv_tableIn (off := 38) (tgt := 39) hx hb dX1_saidAs_1 (by rw [c3]; decide) (by rw [c3]; decide) (by rw [c3]; rfl) (by decide) ?_
    refine lv_bipush (v := 9) hx hb dX1_saidAs_39 (by decide) ?_
    refine lv_iload_n hx hb dX1_saidAs_41 rfl (lv_at hl 2 rfl) ?_
    refine lv_isub hx hb dX1_saidAs_42 ?_
    replace hf : (some (9 - x2) : Option (Int32)) = some rr := hf
    cases hf
    exact ret_i F hP hS dX1_saidAs_43
  replace hf := (if_neg c3).symm.trans hf
  by_cases c4 : x0 = 4
  · replace hf := (if_pos c4).symm.trans hf
    refine lv_tableIn (off := 43) (tgt := 44) hx hb dX1_saidAs_1 (by rw [c4]; decide) (by rw [c4]; decide) (by rw [c4]; rfl) (by decide) ?_
    refine lv_iload_n hx hb dX1_saidAs_44 rfl (lv_at hl 1 rfl) ?_
    refine lv_iconst (v := 5) hx hb dX1_saidAs_45 (by decide) ?_
    refine lv_icmp_lt (tgt := 56) hx hb dX1_saidAs_46 (by decide) (fun c5 => ?_) (fun c5 => ?_)
    · replace hf := (if_pos c5).symm.trans hf
      refine lv_iconst (v := 0) hx hb dX1_saidAs_56 (by decide) ?_
      replace hf : (some 0 : Option (Int32)) = some rr := hf
      cases hf
      exact ret_i F hP hS dX1_saidAs_57
    · replace hf := (if_neg c5).symm.trans hf
      refine lv_bipush (v := 9) hx hb dX1_saidAs_49 (by decide) ?_
      refine lv_iload_n hx hb dX1_saidAs_51 rfl (lv_at hl 1 rfl) ?_
      refine lv_isub hx hb dX1_saidAs_52 ?_
      refine lv_goto (tgt := 57) hx hb dX1_saidAs_53 (by decide) ?_
      replace hf : (some (9 - x1) : Option (Int32)) = some rr := hf
      cases hf
      exact ret_i F hP hS dX1_saidAs_57
  replace hf := (if_neg c4).symm.trans hf
  have o6 : (x0 : Int32).toInt < 1 ∨ 4 < (x0 : Int32).toInt := by
    have z0 := lv_neT (a := 1) c1 (by decide)
    have z1 := lv_neT (a := 2) c2 (by decide)
    have z2 := lv_neT (a := 3) c3 (by decide)
    have z3 := lv_neT (a := 4) c4 (by decide)
    omega
  refine lv_tableOut (tgt := 58) hx hb dX1_saidAs_1 o6 (by decide) ?_
  refine lv_iload_n hx hb dX1_saidAs_58 rfl (lv_at hl 1 rfl) ?_
  replace hf : (some x1 : Option (Int32)) = some rr := hf
  cases hf
  exact ret_i F hP hS dX1_saidAs_59

/-! X1_saidBy -/
def rm_X1_saidBy : Room := { frames := 1, cells := 0, slots := 0, locals := 23 }
theorem in_X1_saidBy_X1 : ∀ w ∈ u_ws RX1 TX1 3, w ∈ wsX1_saidBy := fun _ h => List.mem_cons_of_mem _ (List.mem_append_left _ (List.mem_append_left _ (List.mem_append_left _ (List.mem_append_right _ (h)))))
theorem in_X1_saidBy_X4 : ∀ w ∈ u_ws RX4 TX4 9, w ∈ wsX1_saidBy := fun _ h => List.mem_cons_of_mem _ (List.mem_append_left _ (List.mem_append_left _ (List.mem_append_right _ (h))))
theorem nd_X1_saidBy : yX1_saidBy.cls = RX1 ∧ yX1_saidBy.cls ≠ "java/lang/invoke/MethodHandle" ∧ yX1_saidBy.cls ≠ "java/lang/invoke/VarHandle" ∧ (parseMethodDescriptor yX1_saidBy.desc).map (fun d => d.parameters.length) = some 2 := by decide +kernel
def f_X1_saidBy_5 (t_kinds : Nat → Int32) (t_now_worths : Nat → Int32)  : Nat → Int32 → Int32 → Int32 → Int32 → Option (Int32)
  | 0, _, _, _, _ => none
  | n + 1, x1, x2, x3, x4 => (if 4 ≤ x4 then some x3 else (if x1 < x4 then some x3 else (f_X3_get 4 t_kinds x4).bind (fun v3 => (f_X5_at t_now_worths x4 x2).bind (fun v5 => (f_X1_saidAs v3 v5 x3).bind (fun v7 => f_X1_saidBy_5 t_kinds t_now_worths  n x1 x2 v7 (x4 + 1))))))
def f_X1_saidBy (t_kinds : Nat → Int32) (t_now_worths : Nat → Int32) (x1 : Int32) (x2 : Int32) : Option (Int32) := f_X1_saidBy_5 t_kinds t_now_worths 300 x1 x2 0 0
set_option maxHeartbeats 4000000 in
set_option maxRecDepth 100000 in
theorem b_X1_saidBy_5 {p : Program} {l : Launch} {e : Env} {s : State} {m : MethodId} {args : Array Value} {below : List Frame} {meth : Method} {c : Code} {D : va_G} {cI cB : ClassId} {kK kV : Nat → Nat} {A : Nat → Prop} (F : Fx p m c s meth args cX1_saidBy 5 RX1 wsX1_saidBy (some .int) D cI cB kK kV A) {ad_t : Nat → Nat} {t_kinds : Nat → Int32} {t_now_worths : Nat → Int32} {t_now_made : Nat → Int32} {t_now_heardOf : Nat → Int32} {t_now_heardThing : Nat → Int32} {t_now_heardOther : Nat → Int32} {t_now_heardMore : Nat → Int32} {t_now_lie : Int32} {t_now_changes : Int32} {t_now_heard : Int32} {t_heirs : Int32} {rr : Int32}  : ∀ (n : Nat), ∀ (x1 : Int32) (x2 : Int32) (x3 : Int32) (x4 : Int32) (H : Heap) (locs : List Loc) (ls : Array Slot), va_P D vwCl (w_X1 cI cB ad_t t_kinds t_now_worths t_now_made t_now_heardOf t_now_heardThing t_now_heardOther t_now_heardMore t_now_lie t_now_changes t_now_heard t_heirs) H → va_D A (w_X1 cI cB ad_t t_kinds t_now_worths t_now_made t_now_heardOf t_now_heardThing t_now_heardOther t_now_heardMore t_now_lie t_now_changes t_now_heard t_heirs) → va_S A s.heap H locs → lv_has ls 5 [(0, .ref (ad_t 0)), (1, .int x1), (2, .int x2), (3, .int x3), (4, .int x4)] → f_X1_saidBy_5 t_kinds t_now_worths  n x1 x2 x3 x4 = some rr → W p l e rm_X1_saidBy s m args below meth c H locs 0 0 (Zq D below args s A (w_X1 cI cB ad_t t_kinds t_now_worths t_now_made t_now_heardOf t_now_heardThing t_now_heardOther t_now_heardMore t_now_lie t_now_changes t_now_heard t_heirs) (some (.int rr))) (F0 m 5 ls []) := by
  obtain ⟨hx, hb, hml, hown, hts, hrt, hlocks, hK, hA, hZ⟩ := id F
  intro n
  induction n with
  | zero =>
    intro x1 x2 x3 x4 H locs ls hP hD hS hl hf
    cases hf
  | succ n ih =>
    intro x1 x2 x3 x4 H locs ls hP hD hS hl hf
    refine lv_iload hx hb dX1_saidBy_5 (lv_at hl 4 rfl) ?_
    refine lv_iconst (v := 4) hx hb dX1_saidBy_7 (by decide) ?_
    refine lv_icmp_ge (tgt := 50) hx hb dX1_saidBy_8 (by decide) (fun c1 => ?_) (fun c1 => ?_)
    · replace hf := (if_pos c1).symm.trans hf
      refine lv_iload_n hx hb dX1_saidBy_50 rfl (lv_at hl 3 rfl) ?_
      replace hf : (some x3 : Option (Int32)) = some rr := hf
      cases hf
      exact ret_i F hP hS dX1_saidBy_51
    · replace hf := (if_neg c1).symm.trans hf
      refine lv_iload hx hb dX1_saidBy_11 (lv_at hl 4 rfl) ?_
      refine lv_iload_n hx hb dX1_saidBy_13 rfl (lv_at hl 1 rfl) ?_
      refine lv_icmp_gt (tgt := 50) hx hb dX1_saidBy_14 (by decide) (fun c2 => ?_) (fun c2 => ?_)
      · replace hf := (if_pos c2).symm.trans hf
        refine lv_iload_n hx hb dX1_saidBy_50 rfl (lv_at hl 3 rfl) ?_
        replace hf : (some x3 : Option (Int32)) = some rr := hf
        cases hf
        exact ret_i F hP hS dX1_saidBy_51
      · replace hf := (if_neg c2).symm.trans hf
        refine lv_aload_n hx hb dX1_saidBy_17 rfl (lv_at hl 0 rfl) ?_
        refine gf F hP in_X1_saidBy_X1 0 rfl rfl 0 (by decide) 1 rfl rfl dX1_saidBy_18 ?_
        refine lv_iload hx hb dX1_saidBy_21 (lv_at hl 4 rfl) ?_
        obtain ⟨v3, e4, hf⟩ := bnd hf
        refine cV F hP hD hS (k_X3_get l (sh ad_t 1) 4 t_kinds x4 e4) gX1_saidBy_X3_get rfl ⟨rfl, rfl⟩ nd_X3_get ⟨Nat.le_of_ble_eq_true rfl, Nat.le_of_ble_eq_true rfl⟩ 1 3 rfl rfl rfl hl.1 rfl (Nat.le_of_ble_eq_true rfl) dX1_saidBy_23 (pm1 (ws := (w_X1 cI cB ad_t t_kinds t_now_worths t_now_made t_now_heardOf t_now_heardThing t_now_heardOther t_now_heardMore t_now_lie t_now_changes t_now_heard t_heirs)) (X := List.take 1 (w_X1 cI cB ad_t t_kinds t_now_worths t_now_made t_now_heardOf t_now_heardThing t_now_heardOther t_now_heardMore t_now_lie t_now_changes t_now_heard t_heirs)) (Y := List.drop 3 (w_X1 cI cB ad_t t_kinds t_now_worths t_now_made t_now_heardOf t_now_heardThing t_now_heardOther t_now_heardMore t_now_lie t_now_changes t_now_heard t_heirs)) rfl) (pm1 (ws := (w_X1 cI cB ad_t t_kinds t_now_worths t_now_made t_now_heardOf t_now_heardThing t_now_heardOther t_now_heardMore t_now_lie t_now_changes t_now_heard t_heirs)) (X := List.take 1 (w_X1 cI cB ad_t t_kinds t_now_worths t_now_made t_now_heardOf t_now_heardThing t_now_heardOther t_now_heardMore t_now_lie t_now_changes t_now_heard t_heirs)) (Y := List.drop 3 (w_X1 cI cB ad_t t_kinds t_now_worths t_now_made t_now_heardOf t_now_heardThing t_now_heardOther t_now_heardMore t_now_lie t_now_changes t_now_heard t_heirs)) rfl) (fun H locs hP hD hS => ?_)
        refine lv_aload_n hx hb dX1_saidBy_26 rfl (lv_at hl 0 rfl) ?_
        refine gf F hP in_X1_saidBy_X1 0 rfl rfl 1 (by decide) 2 rfl rfl dX1_saidBy_27 ?_
        refine gfN F hP in_X1_saidBy_X4 3 rfl rfl 0 (by decide) 17 rfl rfl dX1_saidBy_30 ?_
        refine lv_iload hx hb dX1_saidBy_33 (lv_at hl 4 rfl) ?_
        refine lv_iload_n hx hb dX1_saidBy_35 rfl (lv_at hl 2 rfl) ?_
        obtain ⟨v5, e6, hf⟩ := bnd hf
        refine cV F hP hD hS (k_X5_at l (sh ad_t 4) t_now_worths x4 x2 e6) gX1_saidBy_X5_at rfl ⟨rfl, rfl⟩ nd_X5_at ⟨Nat.le_of_ble_eq_true rfl, Nat.le_of_ble_eq_true rfl⟩ 4 5 rfl rfl rfl hl.1 rfl (Nat.le_of_ble_eq_true rfl) dX1_saidBy_36 (pm1 (ws := (w_X1 cI cB ad_t t_kinds t_now_worths t_now_made t_now_heardOf t_now_heardThing t_now_heardOther t_now_heardMore t_now_lie t_now_changes t_now_heard t_heirs)) (X := List.take 4 (w_X1 cI cB ad_t t_kinds t_now_worths t_now_made t_now_heardOf t_now_heardThing t_now_heardOther t_now_heardMore t_now_lie t_now_changes t_now_heard t_heirs)) (Y := List.drop 6 (w_X1 cI cB ad_t t_kinds t_now_worths t_now_made t_now_heardOf t_now_heardThing t_now_heardOther t_now_heardMore t_now_lie t_now_changes t_now_heard t_heirs)) rfl) (pm1 (ws := (w_X1 cI cB ad_t t_kinds t_now_worths t_now_made t_now_heardOf t_now_heardThing t_now_heardOther t_now_heardMore t_now_lie t_now_changes t_now_heard t_heirs)) (X := List.take 4 (w_X1 cI cB ad_t t_kinds t_now_worths t_now_made t_now_heardOf t_now_heardThing t_now_heardOther t_now_heardMore t_now_lie t_now_changes t_now_heard t_heirs)) (Y := List.drop 6 (w_X1 cI cB ad_t t_kinds t_now_worths t_now_made t_now_heardOf t_now_heardThing t_now_heardOther t_now_heardMore t_now_lie t_now_changes t_now_heard t_heirs)) rfl) (fun H locs hP hD hS => ?_)
        refine lv_iload_n hx hb dX1_saidBy_39 rfl (lv_at hl 3 rfl) ?_
        obtain ⟨v7, e8, hf⟩ := bnd hf
        refine cS F hP hD hS (k_X1_saidAs l  v3 v5 x3 e8) gX1_saidBy_X1_saidAs rfl ⟨rfl, rfl⟩ nd_X1_saidAs ⟨Nat.le_of_ble_eq_true rfl, Nat.le_of_ble_eq_true rfl⟩ rfl hl.1 rfl (Nat.le_of_ble_eq_true rfl) dX1_saidBy_40 (pmE (w_X1 cI cB ad_t t_kinds t_now_worths t_now_made t_now_heardOf t_now_heardThing t_now_heardOther t_now_heardMore t_now_lie t_now_changes t_now_heard t_heirs)) (pmE (w_X1 cI cB ad_t t_kinds t_now_worths t_now_made t_now_heardOf t_now_heardThing t_now_heardOther t_now_heardMore t_now_lie t_now_changes t_now_heard t_heirs)) (fun H locs hP hD hS => ?_)
        refine lv_istore_n (lv' := [(3, .int v7), (0, .ref (ad_t 0)), (1, .int x1), (2, .int x2), (4, .int x4)]) hx hb dX1_saidBy_43 rfl hl (by decide) rfl (fun ls hl => ?_)
        refine lv_iinc (v := (x4 + 1)) (lv' := [(4, .int (x4 + 1)), (3, .int v7), (0, .ref (ad_t 0)), (1, .int x1), (2, .int x2)]) hx hb dX1_saidBy_44 hl (k := 4) rfl rfl (by decide) rfl (fun ls hl => ?_)
        refine lv_goto (tgt := 5) hx hb dX1_saidBy_47 (by decide) ?_
        exact ih x1 x2 v7 (x4 + 1) H locs ls hP hD hS (lv_sub hl [2, 3, 4, 1, 0] rfl) hf

set_option maxHeartbeats 4000000 in
set_option maxRecDepth 100000 in
theorem k_X1_saidBy (l : Launch) {D : va_G} {cI cB : ClassId} {kK kV : Nat → Nat} (ad_t : Nat → Nat) (t_kinds : Nat → Int32) (t_now_worths : Nat → Int32) (t_now_made : Nat → Int32) (t_now_heardOf : Nat → Int32) (t_now_heardThing : Nat → Int32) (t_now_heardOther : Nat → Int32) (t_now_heardMore : Nat → Int32) (t_now_lie : Int32) (t_now_changes : Int32) (t_now_heard : Int32) (t_heirs : Int32) (x1 : Int32) (x2 : Int32) {rr : Int32}  (hf : f_X1_saidBy t_kinds t_now_worths x1 x2 = some rr) : Ct l yX1_saidBy wsX1_saidBy rm_X1_saidBy D cI cB kK kV [.ref (ad_t 0), .int x1, .int x2] (w_X1 cI cB ad_t t_kinds t_now_worths t_now_made t_now_heardOf t_now_heardThing t_now_heardOther t_now_heardMore t_now_lie t_now_changes t_now_heard t_heirs) (w_X1 cI cB ad_t t_kinds t_now_worths t_now_made t_now_heardOf t_now_heardThing t_now_heardOther t_now_heardMore t_now_lie t_now_changes t_now_heard t_heirs) (some (.int rr)) := by
  refine Ct.of (cc := cX1_saidBy) (maxL := 5) (ret := (some .int)) (by decide) rfl (Nat.le_of_ble_eq_true rfl) rfl ?_
  intro p e s m below meth c A ls F hP hD hS hl
  have hl : lv_has ls 5 [(0, .ref (ad_t 0)), (1, .int x1), (2, .int x2)] := hl
  obtain ⟨hx, hb, hml, hown, hts, hrt, hlocks, hK, hA, hZ⟩ := id F
  obtain ⟨H, hH⟩ : ∃ H, H = s.heap := ⟨_, rfl⟩
  obtain ⟨locs, hLo⟩ : ∃ q : List Loc, q = [] := ⟨_, rfl⟩
  refine (?_ : W p l e rm_X1_saidBy s m _ below meth c s.heap [] 0 0 _ _)
  rw [← hH, ← hLo]
  rw [← hH] at hP
  have hS : va_S A s.heap H locs := by rw [hH, hLo]; exact hS
  refine lv_iconst (v := 0) hx hb dX1_saidBy_0 (by decide) ?_
  refine lv_istore_n (lv' := [(3, .int 0), (0, .ref (ad_t 0)), (1, .int x1), (2, .int x2)]) hx hb dX1_saidBy_1 rfl hl (by decide) rfl (fun ls hl => ?_)
  refine lv_iconst (v := 0) hx hb dX1_saidBy_2 (by decide) ?_
  refine lv_istore (lv' := [(4, .int 0), (3, .int 0), (0, .ref (ad_t 0)), (1, .int x1), (2, .int x2)]) hx hb dX1_saidBy_3 hl (by decide) rfl (fun ls hl => ?_)
  exact b_X1_saidBy_5 F 300 x1 x2 0 0 H locs ls hP hD hS (lv_sub hl [2, 3, 4, 1, 0] rfl) hf

/-! X1_leastSaid -/
def rm_X1_leastSaid : Room := { frames := 2, cells := 0, slots := 0, locals := 47 }
theorem nd_X1_leastSaid : yX1_leastSaid.cls = RX1 ∧ yX1_leastSaid.cls ≠ "java/lang/invoke/MethodHandle" ∧ yX1_leastSaid.cls ≠ "java/lang/invoke/VarHandle" ∧ (parseMethodDescriptor yX1_leastSaid.desc).map (fun d => d.parameters.length) = some 2 := by decide +kernel
def f_X1_leastSaid_9 (t_kinds : Nat → Int32) (t_now_worths : Nat → Int32)  : Nat → Int32 → Int32 → Int32 → Int32 → Int32 → Option (Int32)
  | 0, _, _, _, _, _ => none
  | n + 1, x1, x2, x3, x4, x5 => (if 4 ≤ x5 then some x3 else (f_X1_saidBy t_kinds t_now_worths x1 x5).bind (fun v2 => (if ((x2 >>> (x5 &&& 31)) &&& 1) = 0 then (if x4 ≤ v2 then f_X1_leastSaid_9 t_kinds t_now_worths  n x1 x2 x3 x4 (x5 + 1) else f_X1_leastSaid_9 t_kinds t_now_worths  n x1 x2 x5 v2 (x5 + 1)) else f_X1_leastSaid_9 t_kinds t_now_worths  n x1 x2 x3 x4 (x5 + 1))))
def f_X1_leastSaid (t_kinds : Nat → Int32) (t_now_worths : Nat → Int32) (x1 : Int32) (x2 : Int32) : Option (Int32) := f_X1_leastSaid_9 t_kinds t_now_worths 300 x1 x2 0 10 0
set_option maxHeartbeats 4000000 in
set_option maxRecDepth 100000 in
theorem b_X1_leastSaid_9 {p : Program} {l : Launch} {e : Env} {s : State} {m : MethodId} {args : Array Value} {below : List Frame} {meth : Method} {c : Code} {D : va_G} {cI cB : ClassId} {kK kV : Nat → Nat} {A : Nat → Prop} (F : Fx p m c s meth args cX1_leastSaid 7 RX1 wsX1_leastSaid (some .int) D cI cB kK kV A) {ad_t : Nat → Nat} {t_kinds : Nat → Int32} {t_now_worths : Nat → Int32} {t_now_made : Nat → Int32} {t_now_heardOf : Nat → Int32} {t_now_heardThing : Nat → Int32} {t_now_heardOther : Nat → Int32} {t_now_heardMore : Nat → Int32} {t_now_lie : Int32} {t_now_changes : Int32} {t_now_heard : Int32} {t_heirs : Int32} {rr : Int32}  : ∀ (n : Nat), ∀ (x1 : Int32) (x2 : Int32) (x3 : Int32) (x4 : Int32) (x5 : Int32) (H : Heap) (locs : List Loc) (ls : Array Slot), va_P D vwCl (w_X1 cI cB ad_t t_kinds t_now_worths t_now_made t_now_heardOf t_now_heardThing t_now_heardOther t_now_heardMore t_now_lie t_now_changes t_now_heard t_heirs) H → va_D A (w_X1 cI cB ad_t t_kinds t_now_worths t_now_made t_now_heardOf t_now_heardThing t_now_heardOther t_now_heardMore t_now_lie t_now_changes t_now_heard t_heirs) → va_S A s.heap H locs → lv_has ls 7 [(0, .ref (ad_t 0)), (1, .int x1), (2, .int x2), (3, .int x3), (4, .int x4), (5, .int x5)] → f_X1_leastSaid_9 t_kinds t_now_worths  n x1 x2 x3 x4 x5 = some rr → W p l e rm_X1_leastSaid s m args below meth c H locs 0 0 (Zq D below args s A (w_X1 cI cB ad_t t_kinds t_now_worths t_now_made t_now_heardOf t_now_heardThing t_now_heardOther t_now_heardMore t_now_lie t_now_changes t_now_heard t_heirs) (some (.int rr))) (F0 m 9 ls []) := by
  obtain ⟨hx, hb, hml, hown, hts, hrt, hlocks, hK, hA, hZ⟩ := id F
  intro n
  induction n with
  | zero =>
    intro x1 x2 x3 x4 x5 H locs ls hP hD hS hl hf
    cases hf
  | succ n ih =>
    intro x1 x2 x3 x4 x5 H locs ls hP hD hS hl hf
    refine lv_iload hx hb dX1_leastSaid_9 (lv_at hl 5 rfl) ?_
    refine lv_iconst (v := 4) hx hb dX1_leastSaid_11 (by decide) ?_
    refine lv_icmp_ge (tgt := 53) hx hb dX1_leastSaid_12 (by decide) (fun c1 => ?_) (fun c1 => ?_)
    · replace hf := (if_pos c1).symm.trans hf
      refine lv_iload_n hx hb dX1_leastSaid_53 rfl (lv_at hl 3 rfl) ?_
      replace hf : (some x3 : Option (Int32)) = some rr := hf
      cases hf
      exact ret_i F hP hS dX1_leastSaid_54
    · replace hf := (if_neg c1).symm.trans hf
      refine lv_aload_n hx hb dX1_leastSaid_15 rfl (lv_at hl 0 rfl) ?_
      refine lv_iload_n hx hb dX1_leastSaid_16 rfl (lv_at hl 1 rfl) ?_
      refine lv_iload hx hb dX1_leastSaid_17 (lv_at hl 5 rfl) ?_
      obtain ⟨v2, e3, hf⟩ := bnd hf
      refine cV F hP hD hS (k_X1_saidBy l ad_t t_kinds t_now_worths t_now_made t_now_heardOf t_now_heardThing t_now_heardOther t_now_heardMore t_now_lie t_now_changes t_now_heard t_heirs x1 x5 e3) gX1_leastSaid_X1_saidBy rfl ⟨rfl, rfl⟩ nd_X1_saidBy ⟨Nat.le_of_ble_eq_true rfl, Nat.le_of_ble_eq_true rfl⟩ 0 1 rfl rfl rfl hl.1 rfl (Nat.le_of_ble_eq_true rfl) dX1_leastSaid_19 (pm0 (w_X1 cI cB ad_t t_kinds t_now_worths t_now_made t_now_heardOf t_now_heardThing t_now_heardOther t_now_heardMore t_now_lie t_now_changes t_now_heard t_heirs)) (pm0 (w_X1 cI cB ad_t t_kinds t_now_worths t_now_made t_now_heardOf t_now_heardThing t_now_heardOther t_now_heardMore t_now_lie t_now_changes t_now_heard t_heirs)) (fun H locs hP hD hS => ?_)
      refine lv_istore (lv' := [(6, .int v2), (0, .ref (ad_t 0)), (1, .int x1), (2, .int x2), (3, .int x3), (4, .int x4), (5, .int x5)]) hx hb dX1_leastSaid_22 hl (by decide) rfl (fun ls hl => ?_)
      refine lv_iload_n hx hb dX1_leastSaid_24 rfl (lv_at hl 3 rfl) ?_
      refine lv_iload hx hb dX1_leastSaid_25 (lv_at hl 6 rfl) ?_
      refine lv_ishr hx hb dX1_leastSaid_27 ?_
      refine lv_iconst (v := 1) hx hb dX1_leastSaid_28 (by decide) ?_
      refine lv_iand hx hb dX1_leastSaid_29 ?_
      refine lv_if_ne (tgt := 47) hx hb dX1_leastSaid_30 (by decide) (fun c4 => ?_) (fun c4 => ?_)
      · replace hf := (if_neg c4).symm.trans hf
        refine lv_iinc (v := (x5 + 1)) (lv' := [(5, .int (x5 + 1)), (6, .int v2), (0, .ref (ad_t 0)), (1, .int x1), (2, .int x2), (3, .int x3), (4, .int x4)]) hx hb dX1_leastSaid_47 hl (k := 6) rfl rfl (by decide) rfl (fun ls hl => ?_)
        refine lv_goto (tgt := 9) hx hb dX1_leastSaid_50 (by decide) ?_
        exact ih x1 x2 x3 x4 (x5 + 1) H locs ls hP hD hS (lv_sub hl [2, 3, 4, 5, 6, 0] rfl) hf
      · replace hf := (if_pos c4).symm.trans hf
        refine lv_iload hx hb dX1_leastSaid_33 (lv_at hl 0 rfl) ?_
        refine lv_iload hx hb dX1_leastSaid_35 (lv_at hl 5 rfl) ?_
        refine lv_icmp_ge (tgt := 47) hx hb dX1_leastSaid_37 (by decide) (fun c5 => ?_) (fun c5 => ?_)
        · replace hf := (if_pos c5).symm.trans hf
          refine lv_iinc (v := (x5 + 1)) (lv' := [(5, .int (x5 + 1)), (6, .int v2), (0, .ref (ad_t 0)), (1, .int x1), (2, .int x2), (3, .int x3), (4, .int x4)]) hx hb dX1_leastSaid_47 hl (k := 6) rfl rfl (by decide) rfl (fun ls hl => ?_)
          refine lv_goto (tgt := 9) hx hb dX1_leastSaid_50 (by decide) ?_
          exact ih x1 x2 x3 x4 (x5 + 1) H locs ls hP hD hS (lv_sub hl [2, 3, 4, 5, 6, 0] rfl) hf
        · replace hf := (if_neg c5).symm.trans hf
          refine lv_iload hx hb dX1_leastSaid_40 (lv_at hl 6 rfl) ?_
          refine lv_istore_n (lv' := [(3, .int x5), (6, .int v2), (0, .ref (ad_t 0)), (1, .int x1), (2, .int x2), (4, .int x4), (5, .int x5)]) hx hb dX1_leastSaid_42 rfl hl (by decide) rfl (fun ls hl => ?_)
          refine lv_iload hx hb dX1_leastSaid_43 (lv_at hl 1 rfl) ?_
          refine lv_istore (lv' := [(4, .int v2), (3, .int x5), (6, .int v2), (0, .ref (ad_t 0)), (1, .int x1), (2, .int x2), (5, .int x5)]) hx hb dX1_leastSaid_45 hl (by decide) rfl (fun ls hl => ?_)
          refine lv_iinc (v := (x5 + 1)) (lv' := [(5, .int (x5 + 1)), (4, .int v2), (3, .int x5), (6, .int v2), (0, .ref (ad_t 0)), (1, .int x1), (2, .int x2)]) hx hb dX1_leastSaid_47 hl (k := 6) rfl rfl (by decide) rfl (fun ls hl => ?_)
          refine lv_goto (tgt := 9) hx hb dX1_leastSaid_50 (by decide) ?_
          exact ih x1 x2 x5 v2 (x5 + 1) H locs ls hP hD hS (lv_sub hl [4, 5, 6, 2, 1, 0] rfl) hf

set_option maxHeartbeats 4000000 in
set_option maxRecDepth 100000 in
theorem k_X1_leastSaid (l : Launch) {D : va_G} {cI cB : ClassId} {kK kV : Nat → Nat} (ad_t : Nat → Nat) (t_kinds : Nat → Int32) (t_now_worths : Nat → Int32) (t_now_made : Nat → Int32) (t_now_heardOf : Nat → Int32) (t_now_heardThing : Nat → Int32) (t_now_heardOther : Nat → Int32) (t_now_heardMore : Nat → Int32) (t_now_lie : Int32) (t_now_changes : Int32) (t_now_heard : Int32) (t_heirs : Int32) (x1 : Int32) (x2 : Int32) {rr : Int32}  (hf : f_X1_leastSaid t_kinds t_now_worths x1 x2 = some rr) : Ct l yX1_leastSaid wsX1_leastSaid rm_X1_leastSaid D cI cB kK kV [.ref (ad_t 0), .int x1, .int x2] (w_X1 cI cB ad_t t_kinds t_now_worths t_now_made t_now_heardOf t_now_heardThing t_now_heardOther t_now_heardMore t_now_lie t_now_changes t_now_heard t_heirs) (w_X1 cI cB ad_t t_kinds t_now_worths t_now_made t_now_heardOf t_now_heardThing t_now_heardOther t_now_heardMore t_now_lie t_now_changes t_now_heard t_heirs) (some (.int rr)) := by
  refine Ct.of (cc := cX1_leastSaid) (maxL := 7) (ret := (some .int)) (by decide) rfl (Nat.le_of_ble_eq_true rfl) rfl ?_
  intro p e s m below meth c A ls F hP hD hS hl
  have hl : lv_has ls 7 [(0, .ref (ad_t 0)), (1, .int x1), (2, .int x2)] := hl
  obtain ⟨hx, hb, hml, hown, hts, hrt, hlocks, hK, hA, hZ⟩ := id F
  obtain ⟨H, hH⟩ : ∃ H, H = s.heap := ⟨_, rfl⟩
  obtain ⟨locs, hLo⟩ : ∃ q : List Loc, q = [] := ⟨_, rfl⟩
  refine (?_ : W p l e rm_X1_leastSaid s m _ below meth c s.heap [] 0 0 _ _)
  rw [← hH, ← hLo]
  rw [← hH] at hP
  have hS : va_S A s.heap H locs := by rw [hH, hLo]; exact hS
  refine lv_iconst (v := 0) hx hb dX1_leastSaid_0 (by decide) ?_
  refine lv_istore_n (lv' := [(3, .int 0), (0, .ref (ad_t 0)), (1, .int x1), (2, .int x2)]) hx hb dX1_leastSaid_1 rfl hl (by decide) rfl (fun ls hl => ?_)
  refine lv_bipush (v := 10) hx hb dX1_leastSaid_2 (by decide) ?_
  refine lv_istore (lv' := [(4, .int 10), (3, .int 0), (0, .ref (ad_t 0)), (1, .int x1), (2, .int x2)]) hx hb dX1_leastSaid_4 hl (by decide) rfl (fun ls hl => ?_)
  refine lv_iconst (v := 0) hx hb dX1_leastSaid_6 (by decide) ?_
  refine lv_istore (lv' := [(5, .int 0), (4, .int 10), (3, .int 0), (0, .ref (ad_t 0)), (1, .int x1), (2, .int x2)]) hx hb dX1_leastSaid_7 hl (by decide) rfl (fun ls hl => ?_)
  exact b_X1_leastSaid_9 F 300 x1 x2 0 10 0 H locs ls hP hD hS (lv_sub hl [3, 4, 5, 2, 1, 0] rfl) hf

/-! X1_placed -/
def rm_X1_placed : Room := { frames := 0, cells := 0, slots := 0, locals := 0 }
theorem in_X1_placed_X1 : ∀ w ∈ u_ws RX1 TX1 3, w ∈ wsX1_placed := fun _ h => List.mem_cons_of_mem _ (List.mem_append_right _ (h))
theorem nd_X1_placed : yX1_placed.cls = RX1 ∧ yX1_placed.cls ≠ "java/lang/invoke/MethodHandle" ∧ yX1_placed.cls ≠ "java/lang/invoke/VarHandle" ∧ (parseMethodDescriptor yX1_placed.desc).map (fun d => d.parameters.length) = some 3 := by decide +kernel
def f_X1_placed (t_heirs : Int32) (x1 : Int32) (x2 : Int32) (x3 : Int32) : Option (Int32) := some ((x1 &&& (((3 : Int32) <<< ((2 * ((t_heirs - 1) - x2)) &&& 31)) ^^^ (-1))) ||| (x3 <<< ((2 * ((t_heirs - 1) - x2)) &&& 31)))
set_option maxHeartbeats 4000000 in
set_option maxRecDepth 100000 in
theorem k_X1_placed (l : Launch) {D : va_G} {cI cB : ClassId} {kK kV : Nat → Nat} (ad_t : Nat → Nat) (t_kinds : Nat → Int32) (t_now_worths : Nat → Int32) (t_now_made : Nat → Int32) (t_now_heardOf : Nat → Int32) (t_now_heardThing : Nat → Int32) (t_now_heardOther : Nat → Int32) (t_now_heardMore : Nat → Int32) (t_now_lie : Int32) (t_now_changes : Int32) (t_now_heard : Int32) (t_heirs : Int32) (x1 : Int32) (x2 : Int32) (x3 : Int32) {rr : Int32}  (hf : f_X1_placed t_heirs x1 x2 x3 = some rr) : Ct l yX1_placed wsX1_placed rm_X1_placed D cI cB kK kV [.ref (ad_t 0), .int x1, .int x2, .int x3] (w_X1 cI cB ad_t t_kinds t_now_worths t_now_made t_now_heardOf t_now_heardThing t_now_heardOther t_now_heardMore t_now_lie t_now_changes t_now_heard t_heirs) (w_X1 cI cB ad_t t_kinds t_now_worths t_now_made t_now_heardOf t_now_heardThing t_now_heardOther t_now_heardMore t_now_lie t_now_changes t_now_heard t_heirs) (some (.int rr)) := by
  refine Ct.of (cc := cX1_placed) (maxL := 5) (ret := (some .int)) (by decide) rfl (Nat.le_of_ble_eq_true rfl) rfl ?_
  intro p e s m below meth c A ls F hP hD hS hl
  have hl : lv_has ls 5 [(0, .ref (ad_t 0)), (1, .int x1), (2, .int x2), (3, .int x3)] := hl
  obtain ⟨hx, hb, hml, hown, hts, hrt, hlocks, hK, hA, hZ⟩ := id F
  obtain ⟨H, hH⟩ : ∃ H, H = s.heap := ⟨_, rfl⟩
  obtain ⟨locs, hLo⟩ : ∃ q : List Loc, q = [] := ⟨_, rfl⟩
  refine (?_ : W p l e rm_X1_placed s m _ below meth c s.heap [] 0 0 _ _)
  rw [← hH, ← hLo]
  rw [← hH] at hP
  have hS : va_S A s.heap H locs := by rw [hH, hLo]; exact hS
  refine lv_iconst (v := 2) hx hb dX1_placed_0 (by decide) ?_
  refine lv_aload_n hx hb dX1_placed_1 rfl (lv_at hl 0 rfl) ?_
  refine gf F hP in_X1_placed_X1 0 rfl rfl 2 (by decide) 1 rfl rfl dX1_placed_2 ?_
  refine lv_iconst (v := 1) hx hb dX1_placed_5 (by decide) ?_
  refine lv_isub hx hb dX1_placed_6 ?_
  refine lv_iload_n hx hb dX1_placed_7 rfl (lv_at hl 2 rfl) ?_
  refine lv_isub hx hb dX1_placed_8 ?_
  refine lv_imul hx hb dX1_placed_9 ?_
  refine lv_istore (lv' := [(4, .int (2 * ((t_heirs - 1) - x2))), (0, .ref (ad_t 0)), (1, .int x1), (2, .int x2), (3, .int x3)]) hx hb dX1_placed_10 hl (by decide) rfl (fun ls hl => ?_)
  refine lv_iload_n hx hb dX1_placed_12 rfl (lv_at hl 2 rfl) ?_
  refine lv_iconst (v := 3) hx hb dX1_placed_13 (by decide) ?_
  refine lv_iload hx hb dX1_placed_14 (lv_at hl 0 rfl) ?_
  refine lv_ishl hx hb dX1_placed_16 ?_
  refine lv_iconst (v := (-1)) hx hb dX1_placed_17 (by decide) ?_
  refine lv_ixor hx hb dX1_placed_18 ?_
  refine lv_iand hx hb dX1_placed_19 ?_
  refine lv_iload_n hx hb dX1_placed_20 rfl (lv_at hl 4 rfl) ?_
  refine lv_iload hx hb dX1_placed_21 (lv_at hl 0 rfl) ?_
  refine lv_ishl hx hb dX1_placed_23 ?_
  refine lv_ior hx hb dX1_placed_24 ?_
  replace hf : (some ((x1 &&& (((3 : Int32) <<< ((2 * ((t_heirs - 1) - x2)) &&& 31)) ^^^ (-1))) ||| (x3 <<< ((2 * ((t_heirs - 1) - x2)) &&& 31))) : Option (Int32)) = some rr := hf
  cases hf
  exact ret_i F hP hS dX1_placed_25

/-! X1_dealt -/
def rm_X1_dealt : Room := { frames := 3, cells := 0, slots := 0, locals := 73 }
theorem in_X1_dealt_X1 : ∀ w ∈ u_ws RX1 TX1 3, w ∈ wsX1_dealt := fun _ h => List.mem_cons_of_mem _ (List.mem_append_left _ (List.mem_append_left _ (List.mem_append_left _ (List.mem_append_right _ (h)))))
theorem nd_X1_dealt : yX1_dealt.cls = RX1 ∧ yX1_dealt.cls ≠ "java/lang/invoke/MethodHandle" ∧ yX1_dealt.cls ≠ "java/lang/invoke/VarHandle" ∧ (parseMethodDescriptor yX1_dealt.desc).map (fun d => d.parameters.length) = some 0 := by decide +kernel
def f_X1_dealt_6 (t_kinds : Nat → Int32) (t_now_worths : Nat → Int32) (t_heirs : Int32)  : Nat → Int32 → Int32 → Int32 → Option (Int32)
  | 0, _, _, _ => none
  | n + 1, x1, x2, x3 => (if 4 ≤ x3 then some x1 else (if t_heirs ≤ x3 then some x1 else (f_X1_leastSaid t_kinds t_now_worths x3 x2).bind (fun v3 => (f_X1_placed t_heirs x1 x3 v3).bind (fun v5 => f_X1_dealt_6 t_kinds t_now_worths t_heirs  n v5 (x2 ||| ((1 : Int32) <<< (v3 &&& 31))) (x3 + 1)))))
def f_X1_dealt (t_kinds : Nat → Int32) (t_now_worths : Nat → Int32) (t_heirs : Int32)  : Option (Int32) := f_X1_dealt_6 t_kinds t_now_worths t_heirs 300 0 0 0
set_option maxHeartbeats 4000000 in
set_option maxRecDepth 100000 in
theorem b_X1_dealt_6 {p : Program} {l : Launch} {e : Env} {s : State} {m : MethodId} {args : Array Value} {below : List Frame} {meth : Method} {c : Code} {D : va_G} {cI cB : ClassId} {kK kV : Nat → Nat} {A : Nat → Prop} (F : Fx p m c s meth args cX1_dealt 5 RX1 wsX1_dealt (some .int) D cI cB kK kV A) {ad_t : Nat → Nat} {t_kinds : Nat → Int32} {t_now_worths : Nat → Int32} {t_now_made : Nat → Int32} {t_now_heardOf : Nat → Int32} {t_now_heardThing : Nat → Int32} {t_now_heardOther : Nat → Int32} {t_now_heardMore : Nat → Int32} {t_now_lie : Int32} {t_now_changes : Int32} {t_now_heard : Int32} {t_heirs : Int32} {rr : Int32}  : ∀ (n : Nat), ∀ (x1 : Int32) (x2 : Int32) (x3 : Int32) (H : Heap) (locs : List Loc) (ls : Array Slot), va_P D vwCl (w_X1 cI cB ad_t t_kinds t_now_worths t_now_made t_now_heardOf t_now_heardThing t_now_heardOther t_now_heardMore t_now_lie t_now_changes t_now_heard t_heirs) H → va_D A (w_X1 cI cB ad_t t_kinds t_now_worths t_now_made t_now_heardOf t_now_heardThing t_now_heardOther t_now_heardMore t_now_lie t_now_changes t_now_heard t_heirs) → va_S A s.heap H locs → lv_has ls 5 [(0, .ref (ad_t 0)), (1, .int x1), (2, .int x2), (3, .int x3)] → f_X1_dealt_6 t_kinds t_now_worths t_heirs  n x1 x2 x3 = some rr → W p l e rm_X1_dealt s m args below meth c H locs 0 0 (Zq D below args s A (w_X1 cI cB ad_t t_kinds t_now_worths t_now_made t_now_heardOf t_now_heardThing t_now_heardOther t_now_heardMore t_now_lie t_now_changes t_now_heard t_heirs) (some (.int rr))) (F0 m 6 ls []) := by
  obtain ⟨hx, hb, hml, hown, hts, hrt, hlocks, hK, hA, hZ⟩ := id F
  intro n
  induction n with
  | zero =>
    intro x1 x2 x3 H locs ls hP hD hS hl hf
    cases hf
  | succ n ih =>
    intro x1 x2 x3 H locs ls hP hD hS hl hf
    refine lv_iload_n hx hb dX1_dealt_6 rfl (lv_at hl 3 rfl) ?_
    refine lv_iconst (v := 4) hx hb dX1_dealt_7 (by decide) ?_
    refine lv_icmp_ge (tgt := 49) hx hb dX1_dealt_8 (by decide) (fun c1 => ?_) (fun c1 => ?_)
    · replace hf := (if_pos c1).symm.trans hf
      refine lv_iload_n hx hb dX1_dealt_49 rfl (lv_at hl 1 rfl) ?_
      replace hf : (some x1 : Option (Int32)) = some rr := hf
      cases hf
      exact ret_i F hP hS dX1_dealt_50
    · replace hf := (if_neg c1).symm.trans hf
      refine lv_iload_n hx hb dX1_dealt_11 rfl (lv_at hl 3 rfl) ?_
      refine lv_aload_n hx hb dX1_dealt_12 rfl (lv_at hl 0 rfl) ?_
      refine gf F hP in_X1_dealt_X1 0 rfl rfl 2 (by decide) 1 rfl rfl dX1_dealt_13 ?_
      refine lv_icmp_ge (tgt := 49) hx hb dX1_dealt_16 (by decide) (fun c2 => ?_) (fun c2 => ?_)
      · replace hf := (if_pos c2).symm.trans hf
        refine lv_iload_n hx hb dX1_dealt_49 rfl (lv_at hl 1 rfl) ?_
        replace hf : (some x1 : Option (Int32)) = some rr := hf
        cases hf
        exact ret_i F hP hS dX1_dealt_50
      · replace hf := (if_neg c2).symm.trans hf
        refine lv_aload_n hx hb dX1_dealt_19 rfl (lv_at hl 0 rfl) ?_
        refine lv_iload_n hx hb dX1_dealt_20 rfl (lv_at hl 3 rfl) ?_
        refine lv_iload_n hx hb dX1_dealt_21 rfl (lv_at hl 2 rfl) ?_
        obtain ⟨v3, e4, hf⟩ := bnd hf
        refine cV F hP hD hS (k_X1_leastSaid l ad_t t_kinds t_now_worths t_now_made t_now_heardOf t_now_heardThing t_now_heardOther t_now_heardMore t_now_lie t_now_changes t_now_heard t_heirs x3 x2 e4) gX1_dealt_X1_leastSaid rfl ⟨rfl, rfl⟩ nd_X1_leastSaid ⟨Nat.le_of_ble_eq_true rfl, Nat.le_of_ble_eq_true rfl⟩ 0 1 rfl rfl rfl hl.1 rfl (Nat.le_of_ble_eq_true rfl) dX1_dealt_22 (pm0 (w_X1 cI cB ad_t t_kinds t_now_worths t_now_made t_now_heardOf t_now_heardThing t_now_heardOther t_now_heardMore t_now_lie t_now_changes t_now_heard t_heirs)) (pm0 (w_X1 cI cB ad_t t_kinds t_now_worths t_now_made t_now_heardOf t_now_heardThing t_now_heardOther t_now_heardMore t_now_lie t_now_changes t_now_heard t_heirs)) (fun H locs hP hD hS => ?_)
        refine lv_istore (lv' := [(4, .int v3), (0, .ref (ad_t 0)), (1, .int x1), (2, .int x2), (3, .int x3)]) hx hb dX1_dealt_25 hl (by decide) rfl (fun ls hl => ?_)
        refine lv_iload_n hx hb dX1_dealt_27 rfl (lv_at hl 3 rfl) ?_
        refine lv_iconst (v := 1) hx hb dX1_dealt_28 (by decide) ?_
        refine lv_iload hx hb dX1_dealt_29 (lv_at hl 0 rfl) ?_
        refine lv_ishl hx hb dX1_dealt_31 ?_
        refine lv_ior hx hb dX1_dealt_32 ?_
        refine lv_istore_n (lv' := [(2, .int (x2 ||| ((1 : Int32) <<< (v3 &&& 31)))), (4, .int v3), (0, .ref (ad_t 0)), (1, .int x1), (3, .int x3)]) hx hb dX1_dealt_33 rfl hl (by decide) rfl (fun ls hl => ?_)
        refine lv_aload_n hx hb dX1_dealt_34 rfl (lv_at hl 2 rfl) ?_
        refine lv_iload_n hx hb dX1_dealt_35 rfl (lv_at hl 3 rfl) ?_
        refine lv_iload_n hx hb dX1_dealt_36 rfl (lv_at hl 4 rfl) ?_
        refine lv_iload hx hb dX1_dealt_37 (lv_at hl 1 rfl) ?_
        obtain ⟨v5, e6, hf⟩ := bnd hf
        refine cV F hP hD hS (k_X1_placed l ad_t t_kinds t_now_worths t_now_made t_now_heardOf t_now_heardThing t_now_heardOther t_now_heardMore t_now_lie t_now_changes t_now_heard t_heirs x1 x3 v3 e6) gX1_dealt_X1_placed rfl ⟨rfl, rfl⟩ nd_X1_placed ⟨Nat.le_of_ble_eq_true rfl, Nat.le_of_ble_eq_true rfl⟩ 0 1 rfl rfl rfl hl.1 rfl (Nat.le_of_ble_eq_true rfl) dX1_dealt_39 (pm0 (w_X1 cI cB ad_t t_kinds t_now_worths t_now_made t_now_heardOf t_now_heardThing t_now_heardOther t_now_heardMore t_now_lie t_now_changes t_now_heard t_heirs)) (pm0 (w_X1 cI cB ad_t t_kinds t_now_worths t_now_made t_now_heardOf t_now_heardThing t_now_heardOther t_now_heardMore t_now_lie t_now_changes t_now_heard t_heirs)) (fun H locs hP hD hS => ?_)
        refine lv_istore_n (lv' := [(1, .int v5), (2, .int (x2 ||| ((1 : Int32) <<< (v3 &&& 31)))), (4, .int v3), (0, .ref (ad_t 0)), (3, .int x3)]) hx hb dX1_dealt_42 rfl hl (by decide) rfl (fun ls hl => ?_)
        refine lv_iinc (v := (x3 + 1)) (lv' := [(3, .int (x3 + 1)), (1, .int v5), (2, .int (x2 ||| ((1 : Int32) <<< (v3 &&& 31)))), (4, .int v3), (0, .ref (ad_t 0))]) hx hb dX1_dealt_43 hl (k := 4) rfl rfl (by decide) rfl (fun ls hl => ?_)
        refine lv_goto (tgt := 6) hx hb dX1_dealt_46 (by decide) ?_
        exact ih v5 (x2 ||| ((1 : Int32) <<< (v3 &&& 31))) (x3 + 1) H locs ls hP hD hS (lv_sub hl [4, 1, 2, 0] rfl) hf

set_option maxHeartbeats 4000000 in
set_option maxRecDepth 100000 in
theorem k_X1_dealt (l : Launch) {D : va_G} {cI cB : ClassId} {kK kV : Nat → Nat} (ad_t : Nat → Nat) (t_kinds : Nat → Int32) (t_now_worths : Nat → Int32) (t_now_made : Nat → Int32) (t_now_heardOf : Nat → Int32) (t_now_heardThing : Nat → Int32) (t_now_heardOther : Nat → Int32) (t_now_heardMore : Nat → Int32) (t_now_lie : Int32) (t_now_changes : Int32) (t_now_heard : Int32) (t_heirs : Int32)  {rr : Int32}  (hf : f_X1_dealt t_kinds t_now_worths t_heirs = some rr) : Ct l yX1_dealt wsX1_dealt rm_X1_dealt D cI cB kK kV [.ref (ad_t 0)] (w_X1 cI cB ad_t t_kinds t_now_worths t_now_made t_now_heardOf t_now_heardThing t_now_heardOther t_now_heardMore t_now_lie t_now_changes t_now_heard t_heirs) (w_X1 cI cB ad_t t_kinds t_now_worths t_now_made t_now_heardOf t_now_heardThing t_now_heardOther t_now_heardMore t_now_lie t_now_changes t_now_heard t_heirs) (some (.int rr)) := by
  refine Ct.of (cc := cX1_dealt) (maxL := 5) (ret := (some .int)) (by decide) rfl (Nat.le_of_ble_eq_true rfl) rfl ?_
  intro p e s m below meth c A ls F hP hD hS hl
  have hl : lv_has ls 5 [(0, .ref (ad_t 0))] := hl
  obtain ⟨hx, hb, hml, hown, hts, hrt, hlocks, hK, hA, hZ⟩ := id F
  obtain ⟨H, hH⟩ : ∃ H, H = s.heap := ⟨_, rfl⟩
  obtain ⟨locs, hLo⟩ : ∃ q : List Loc, q = [] := ⟨_, rfl⟩
  refine (?_ : W p l e rm_X1_dealt s m _ below meth c s.heap [] 0 0 _ _)
  rw [← hH, ← hLo]
  rw [← hH] at hP
  have hS : va_S A s.heap H locs := by rw [hH, hLo]; exact hS
  refine lv_iconst (v := 0) hx hb dX1_dealt_0 (by decide) ?_
  refine lv_istore_n (lv' := [(1, .int 0), (0, .ref (ad_t 0))]) hx hb dX1_dealt_1 rfl hl (by decide) rfl (fun ls hl => ?_)
  refine lv_iconst (v := 0) hx hb dX1_dealt_2 (by decide) ?_
  refine lv_istore_n (lv' := [(2, .int 0), (1, .int 0), (0, .ref (ad_t 0))]) hx hb dX1_dealt_3 rfl hl (by decide) rfl (fun ls hl => ?_)
  refine lv_iconst (v := 0) hx hb dX1_dealt_4 (by decide) ?_
  refine lv_istore_n (lv' := [(3, .int 0), (2, .int 0), (1, .int 0), (0, .ref (ad_t 0))]) hx hb dX1_dealt_5 rfl hl (by decide) rfl (fun ls hl => ?_)
  exact b_X1_dealt_6 F 300 0 0 0 H locs ls hP hD hS (lv_sub hl [3, 2, 1, 0] rfl) hf

/-! X1_takeFrom -/
def rm_X1_takeFrom : Room := { frames := 6, cells := 0, slots := 0, locals := 132 }
theorem in_X1_takeFrom_X1 : ∀ w ∈ u_ws RX1 TX1 3, w ∈ wsX1_takeFrom := fun _ h => List.mem_cons_of_mem _ (List.mem_append_left _ (List.mem_append_left _ (List.mem_append_left _ (List.mem_append_left _ (List.mem_append_right _ (h))))))
theorem in_X1_takeFrom_X4 : ∀ w ∈ u_ws RX4 TX4 9, w ∈ wsX1_takeFrom := fun _ h => List.mem_cons_of_mem _ (List.mem_append_left _ (List.mem_append_left _ (List.mem_append_left _ (List.mem_append_right _ (h)))))
theorem nd_X1_takeFrom : yX1_takeFrom.cls = RX1 ∧ yX1_takeFrom.cls ≠ "java/lang/invoke/MethodHandle" ∧ yX1_takeFrom.cls ≠ "java/lang/invoke/VarHandle" ∧ (parseMethodDescriptor yX1_takeFrom.desc).map (fun d => d.parameters.length) = some 2 := by decide +kernel
def f_X1_takeFrom_79 (o_codes : Nat → Int32)  (t_kinds : Nat → Int32) (t_now_worths : Nat → Int32) (t_now_made : Nat → Int32) (t_now_lie : Int32) (t_now_changes : Int32) (t_now_heard : Int32) (t_heirs : Int32) : Option ((Nat → Int32) × (Nat → Int32) × (Nat → Int32) × Int32 × Int32 × Int32 × Int32) := (f_X4_forgetAll t_now_made t_now_changes t_now_heard).bind (fun (g1, g2, g3) => (f_X1_dealt t_kinds t_now_worths t_heirs).bind (fun v5 => some (t_kinds, t_now_worths, g1, v5, g2, g3, t_heirs)))
def f_X1_takeFrom_41 (o_codes : Nat → Int32) (back_12 : Int32 → (Nat → Int32) → (Nat → Int32) → (Nat → Int32) → Int32 → Int32 → Int32 → Int32 → Option ((Nat → Int32) × (Nat → Int32) × (Nat → Int32) × Int32 × Int32 × Int32 × Int32)) : Nat → Int32 → Int32 → (Nat → Int32) → (Nat → Int32) → (Nat → Int32) → Int32 → Int32 → Int32 → Int32 → Option ((Nat → Int32) × (Nat → Int32) × (Nat → Int32) × Int32 × Int32 × Int32 × Int32)
  | 0, _, _, _, _, _, _, _, _, _ => none
  | n + 1, x3, x4, t_kinds, t_now_worths, t_now_made, t_now_lie, t_now_changes, t_now_heard, t_heirs => (if 4 ≤ x4 then back_12 (x3 + 1) t_kinds t_now_worths t_now_made t_now_lie t_now_changes t_now_heard t_heirs else (f_X2_digitOf o_codes x3 x4).bind (fun v2 => (f_X5_put t_now_worths x3 x4 v2).bind (fun g4 => f_X1_takeFrom_41 o_codes back_12 n x3 (x4 + 1) t_kinds g4 t_now_made t_now_lie t_now_changes t_now_heard t_heirs)))
def f_X1_takeFrom_12 (o_codes : Nat → Int32)  : Nat → Int32 → (Nat → Int32) → (Nat → Int32) → (Nat → Int32) → Int32 → Int32 → Int32 → Int32 → Option ((Nat → Int32) × (Nat → Int32) × (Nat → Int32) × Int32 × Int32 × Int32 × Int32)
  | 0, _, _, _, _, _, _, _, _ => none
  | n + 1, x3, t_kinds, t_now_worths, t_now_made, t_now_lie, t_now_changes, t_now_heard, t_heirs => (if 4 ≤ x3 then f_X1_takeFrom_79 o_codes t_kinds t_now_worths t_now_made t_now_lie t_now_changes t_now_heard t_heirs else (if t_heirs ≤ x3 then f_X1_takeFrom_79 o_codes t_kinds t_now_worths t_now_made t_now_lie t_now_changes t_now_heard t_heirs else (f_X2_kindOf o_codes x3).bind (fun v3 => (f_X3_set 4 t_kinds x3 v3).bind (fun g5 => f_X1_takeFrom_41 o_codes (f_X1_takeFrom_12 o_codes  n) 300 x3 0 g5 t_now_worths t_now_made t_now_lie t_now_changes t_now_heard t_heirs))))
def f_X1_takeFrom (t_kinds : Nat → Int32) (t_now_worths : Nat → Int32) (t_now_made : Nat → Int32) (t_now_lie : Int32) (t_now_changes : Int32) (t_now_heard : Int32) (t_heirs : Int32) (o_codes : Nat → Int32) (x2 : Int32) : Option ((Nat → Int32) × (Nat → Int32) × (Nat → Int32) × Int32 × Int32 × Int32 × Int32) := f_X1_takeFrom_12 o_codes 300 0 t_kinds t_now_worths t_now_made t_now_lie t_now_changes t_now_heard x2
set_option maxHeartbeats 4000000 in
set_option maxRecDepth 100000 in
theorem b_X1_takeFrom_79 {p : Program} {l : Launch} {e : Env} {s : State} {m : MethodId} {args : Array Value} {below : List Frame} {meth : Method} {c : Code} {D : va_G} {cI cB : ClassId} {kK kV : Nat → Nat} {A : Nat → Prop} (F : Fx p m c s meth args cX1_takeFrom 5 RX1 wsX1_takeFrom none D cI cB kK kV A) {ad_t : Nat → Nat} {ad_o : Nat → Nat} {t_now_heardOf : Nat → Int32} {t_now_heardThing : Nat → Int32} {t_now_heardOther : Nat → Int32} {t_now_heardMore : Nat → Int32} {o_codes : Nat → Int32} {o_letters : Int32}  {g_t_kinds : Nat → Int32} {g_t_now_worths : Nat → Int32} {g_t_now_made : Nat → Int32} {g_t_now_lie : Int32} {g_t_now_changes : Int32} {g_t_now_heard : Int32} {g_t_heirs : Int32} : ∀ (t_kinds : Nat → Int32) (t_now_worths : Nat → Int32) (t_now_made : Nat → Int32) (t_now_lie : Int32) (t_now_changes : Int32) (t_now_heard : Int32) (t_heirs : Int32) (H : Heap) (locs : List Loc) (ls : Array Slot), va_P D vwCl (w_X1 cI cB ad_t t_kinds t_now_worths t_now_made t_now_heardOf t_now_heardThing t_now_heardOther t_now_heardMore t_now_lie t_now_changes t_now_heard t_heirs ++ w_X2 cI cB ad_o o_codes o_letters) H → va_D A (w_X1 cI cB ad_t t_kinds t_now_worths t_now_made t_now_heardOf t_now_heardThing t_now_heardOther t_now_heardMore t_now_lie t_now_changes t_now_heard t_heirs ++ w_X2 cI cB ad_o o_codes o_letters) → va_S A s.heap H locs → lv_has ls 5 [(0, .ref (ad_t 0)), (1, .ref (ad_o 0))] → f_X1_takeFrom_79 o_codes  t_kinds t_now_worths t_now_made t_now_lie t_now_changes t_now_heard t_heirs = some (g_t_kinds, g_t_now_worths, g_t_now_made, g_t_now_lie, g_t_now_changes, g_t_now_heard, g_t_heirs) → W p l e rm_X1_takeFrom s m args below meth c H locs 0 0 (Zq D below args s A (w_X1 cI cB ad_t g_t_kinds g_t_now_worths g_t_now_made t_now_heardOf t_now_heardThing t_now_heardOther t_now_heardMore g_t_now_lie g_t_now_changes g_t_now_heard g_t_heirs ++ w_X2 cI cB ad_o o_codes o_letters) none) (F0 m 79 ls []) := by
  obtain ⟨hx, hb, hml, hown, hts, hrt, hlocks, hK, hA, hZ⟩ := id F
  intro t_kinds t_now_worths t_now_made t_now_lie t_now_changes t_now_heard t_heirs H locs ls hP hD hS hl hf
  refine lv_aload_n hx hb dX1_takeFrom_79 rfl (lv_at hl 0 rfl) ?_
  refine gf F hP in_X1_takeFrom_X1 0 rfl rfl 1 (by decide) 3 rfl rfl dX1_takeFrom_80 ?_
  obtain ⟨⟨g1, g2, g3⟩, e4, hf⟩ := bnd hf
  refine cV F hP hD hS (k_X4_forgetAll l (sh ad_t 3) t_now_worths t_now_made t_now_heardOf t_now_heardThing t_now_heardOther t_now_heardMore t_now_lie t_now_changes t_now_heard  e4) gX1_takeFrom_X4_forgetAll rfl ⟨rfl, rfl⟩ nd_X4_forgetAll ⟨Nat.le_of_ble_eq_true rfl, Nat.le_of_ble_eq_true rfl⟩ 3 4 rfl rfl rfl hl.1 rfl (Nat.le_of_ble_eq_true rfl) dX1_takeFrom_83 (pm1 (ws := (w_X1 cI cB ad_t t_kinds t_now_worths t_now_made t_now_heardOf t_now_heardThing t_now_heardOther t_now_heardMore t_now_lie t_now_changes t_now_heard t_heirs ++ w_X2 cI cB ad_o o_codes o_letters)) (X := List.take 3 (w_X1 cI cB ad_t t_kinds t_now_worths t_now_made t_now_heardOf t_now_heardThing t_now_heardOther t_now_heardMore t_now_lie t_now_changes t_now_heard t_heirs ++ w_X2 cI cB ad_o o_codes o_letters)) (Y := List.drop 16 (w_X1 cI cB ad_t t_kinds t_now_worths t_now_made t_now_heardOf t_now_heardThing t_now_heardOther t_now_heardMore t_now_lie t_now_changes t_now_heard t_heirs ++ w_X2 cI cB ad_o o_codes o_letters)) rfl) (pm1 (ws := (w_X1 cI cB ad_t t_kinds t_now_worths g1 t_now_heardOf t_now_heardThing t_now_heardOther t_now_heardMore t_now_lie g2 g3 t_heirs ++ w_X2 cI cB ad_o o_codes o_letters)) (X := List.take 3 (w_X1 cI cB ad_t t_kinds t_now_worths t_now_made t_now_heardOf t_now_heardThing t_now_heardOther t_now_heardMore t_now_lie t_now_changes t_now_heard t_heirs ++ w_X2 cI cB ad_o o_codes o_letters)) (Y := List.drop 16 (w_X1 cI cB ad_t t_kinds t_now_worths t_now_made t_now_heardOf t_now_heardThing t_now_heardOther t_now_heardMore t_now_lie t_now_changes t_now_heard t_heirs ++ w_X2 cI cB ad_o o_codes o_letters)) rfl) (fun H locs hP hD hS => ?_)
  refine lv_aload_n hx hb dX1_takeFrom_86 rfl (lv_at hl 0 rfl) ?_
  refine gf F hP in_X1_takeFrom_X1 0 rfl rfl 1 (by decide) 3 rfl rfl dX1_takeFrom_87 ?_
  refine lv_aload_n hx hb dX1_takeFrom_90 rfl (lv_at hl 0 rfl) ?_
  obtain ⟨v5, e6, hf⟩ := bnd hf
  refine cV F hP hD hS (k_X1_dealt l ad_t t_kinds t_now_worths g1 t_now_heardOf t_now_heardThing t_now_heardOther t_now_heardMore t_now_lie g2 g3 t_heirs  e6) gX1_takeFrom_X1_dealt rfl ⟨rfl, rfl⟩ nd_X1_dealt ⟨Nat.le_of_ble_eq_true rfl, Nat.le_of_ble_eq_true rfl⟩ 0 1 rfl rfl rfl hl.1 rfl (Nat.le_of_ble_eq_true rfl) dX1_takeFrom_91 (pm1 (ws := (w_X1 cI cB ad_t t_kinds t_now_worths g1 t_now_heardOf t_now_heardThing t_now_heardOther t_now_heardMore t_now_lie g2 g3 t_heirs ++ w_X2 cI cB ad_o o_codes o_letters)) (X := List.take 0 (w_X1 cI cB ad_t t_kinds t_now_worths g1 t_now_heardOf t_now_heardThing t_now_heardOther t_now_heardMore t_now_lie g2 g3 t_heirs ++ w_X2 cI cB ad_o o_codes o_letters)) (Y := List.drop 16 (w_X1 cI cB ad_t t_kinds t_now_worths g1 t_now_heardOf t_now_heardThing t_now_heardOther t_now_heardMore t_now_lie g2 g3 t_heirs ++ w_X2 cI cB ad_o o_codes o_letters)) rfl) (pm1 (ws := (w_X1 cI cB ad_t t_kinds t_now_worths g1 t_now_heardOf t_now_heardThing t_now_heardOther t_now_heardMore t_now_lie g2 g3 t_heirs ++ w_X2 cI cB ad_o o_codes o_letters)) (X := List.take 0 (w_X1 cI cB ad_t t_kinds t_now_worths g1 t_now_heardOf t_now_heardThing t_now_heardOther t_now_heardMore t_now_lie g2 g3 t_heirs ++ w_X2 cI cB ad_o o_codes o_letters)) (Y := List.drop 16 (w_X1 cI cB ad_t t_kinds t_now_worths g1 t_now_heardOf t_now_heardThing t_now_heardOther t_now_heardMore t_now_lie g2 g3 t_heirs ++ w_X2 cI cB ad_o o_codes o_letters)) rfl) (fun H locs hP hD hS => ?_)
  refine pfN F hP hD hS in_X1_takeFrom_X4 tyX4 tyX4_ok nmX4 3 rfl rfl 6 (by decide) 18 rfl rfl rfl rfl (Nat.le_of_ble_eq_true rfl) dX1_takeFrom_94 (w_X1 cI cB ad_t t_kinds t_now_worths g1 t_now_heardOf t_now_heardThing t_now_heardOther t_now_heardMore v5 g2 g3 t_heirs ++ w_X2 cI cB ad_o o_codes o_letters) rfl (fun H locs hP hD hS => ?_)
  replace hf : (some (t_kinds, t_now_worths, g1, v5, g2, g3, t_heirs) : Option ((Nat → Int32) × (Nat → Int32) × (Nat → Int32) × Int32 × Int32 × Int32 × Int32)) = some (g_t_kinds, g_t_now_worths, g_t_now_made, g_t_now_lie, g_t_now_changes, g_t_now_heard, g_t_heirs) := hf
  cases hf
  exact ret_v F hP hS dX1_takeFrom_97

set_option maxHeartbeats 4000000 in
set_option maxRecDepth 100000 in
theorem b_X1_takeFrom_41 {p : Program} {l : Launch} {e : Env} {s : State} {m : MethodId} {args : Array Value} {below : List Frame} {meth : Method} {c : Code} {D : va_G} {cI cB : ClassId} {kK kV : Nat → Nat} {A : Nat → Prop} (F : Fx p m c s meth args cX1_takeFrom 5 RX1 wsX1_takeFrom none D cI cB kK kV A) {ad_t : Nat → Nat} {ad_o : Nat → Nat} {t_now_heardOf : Nat → Int32} {t_now_heardThing : Nat → Int32} {t_now_heardOther : Nat → Int32} {t_now_heardMore : Nat → Int32} {o_codes : Nat → Int32} {o_letters : Int32}  {g_t_kinds : Nat → Int32} {g_t_now_worths : Nat → Int32} {g_t_now_made : Nat → Int32} {g_t_now_lie : Int32} {g_t_now_changes : Int32} {g_t_now_heard : Int32} {g_t_heirs : Int32} (back_12 : Int32 → (Nat → Int32) → (Nat → Int32) → (Nat → Int32) → Int32 → Int32 → Int32 → Int32 → Option ((Nat → Int32) × (Nat → Int32) × (Nat → Int32) × Int32 × Int32 × Int32 × Int32)) (hb_12 : ∀ (x3 : Int32) (t_kinds : Nat → Int32) (t_now_worths : Nat → Int32) (t_now_made : Nat → Int32) (t_now_lie : Int32) (t_now_changes : Int32) (t_now_heard : Int32) (t_heirs : Int32) (H : Heap) (locs : List Loc) (ls : Array Slot), va_P D vwCl (w_X1 cI cB ad_t t_kinds t_now_worths t_now_made t_now_heardOf t_now_heardThing t_now_heardOther t_now_heardMore t_now_lie t_now_changes t_now_heard t_heirs ++ w_X2 cI cB ad_o o_codes o_letters) H → va_D A (w_X1 cI cB ad_t t_kinds t_now_worths t_now_made t_now_heardOf t_now_heardThing t_now_heardOther t_now_heardMore t_now_lie t_now_changes t_now_heard t_heirs ++ w_X2 cI cB ad_o o_codes o_letters) → va_S A s.heap H locs → lv_has ls 5 [(0, .ref (ad_t 0)), (1, .ref (ad_o 0)), (3, .int x3)] → back_12 x3 t_kinds t_now_worths t_now_made t_now_lie t_now_changes t_now_heard t_heirs = some (g_t_kinds, g_t_now_worths, g_t_now_made, g_t_now_lie, g_t_now_changes, g_t_now_heard, g_t_heirs) → W p l e rm_X1_takeFrom s m args below meth c H locs 0 0 (Zq D below args s A (w_X1 cI cB ad_t g_t_kinds g_t_now_worths g_t_now_made t_now_heardOf t_now_heardThing t_now_heardOther t_now_heardMore g_t_now_lie g_t_now_changes g_t_now_heard g_t_heirs ++ w_X2 cI cB ad_o o_codes o_letters) none) (F0 m 12 ls [])) : ∀ (n : Nat), ∀ (x3 : Int32) (x4 : Int32) (t_kinds : Nat → Int32) (t_now_worths : Nat → Int32) (t_now_made : Nat → Int32) (t_now_lie : Int32) (t_now_changes : Int32) (t_now_heard : Int32) (t_heirs : Int32) (H : Heap) (locs : List Loc) (ls : Array Slot), va_P D vwCl (w_X1 cI cB ad_t t_kinds t_now_worths t_now_made t_now_heardOf t_now_heardThing t_now_heardOther t_now_heardMore t_now_lie t_now_changes t_now_heard t_heirs ++ w_X2 cI cB ad_o o_codes o_letters) H → va_D A (w_X1 cI cB ad_t t_kinds t_now_worths t_now_made t_now_heardOf t_now_heardThing t_now_heardOther t_now_heardMore t_now_lie t_now_changes t_now_heard t_heirs ++ w_X2 cI cB ad_o o_codes o_letters) → va_S A s.heap H locs → lv_has ls 5 [(0, .ref (ad_t 0)), (1, .ref (ad_o 0)), (3, .int x3), (4, .int x4)] → f_X1_takeFrom_41 o_codes back_12 n x3 x4 t_kinds t_now_worths t_now_made t_now_lie t_now_changes t_now_heard t_heirs = some (g_t_kinds, g_t_now_worths, g_t_now_made, g_t_now_lie, g_t_now_changes, g_t_now_heard, g_t_heirs) → W p l e rm_X1_takeFrom s m args below meth c H locs 0 0 (Zq D below args s A (w_X1 cI cB ad_t g_t_kinds g_t_now_worths g_t_now_made t_now_heardOf t_now_heardThing t_now_heardOther t_now_heardMore g_t_now_lie g_t_now_changes g_t_now_heard g_t_heirs ++ w_X2 cI cB ad_o o_codes o_letters) none) (F0 m 41 ls []) := by
  obtain ⟨hx, hb, hml, hown, hts, hrt, hlocks, hK, hA, hZ⟩ := id F
  intro n
  induction n with
  | zero =>
    intro x3 x4 t_kinds t_now_worths t_now_made t_now_lie t_now_changes t_now_heard t_heirs H locs ls hP hD hS hl hf
    cases hf
  | succ n ih =>
    intro x3 x4 t_kinds t_now_worths t_now_made t_now_lie t_now_changes t_now_heard t_heirs H locs ls hP hD hS hl hf
    refine lv_iload hx hb dX1_takeFrom_41 (lv_at hl 3 rfl) ?_
    refine lv_iconst (v := 4) hx hb dX1_takeFrom_43 (by decide) ?_
    refine lv_icmp_ge (tgt := 73) hx hb dX1_takeFrom_44 (by decide) (fun c1 => ?_) (fun c1 => ?_)
    · replace hf := (if_pos c1).symm.trans hf
      refine lv_iinc (v := (x3 + 1)) (lv' := [(3, .int (x3 + 1)), (0, .ref (ad_t 0)), (1, .ref (ad_o 0)), (4, .int x4)]) hx hb dX1_takeFrom_73 hl (k := 2) rfl rfl (by decide) rfl (fun ls hl => ?_)
      refine lv_goto (tgt := 12) hx hb dX1_takeFrom_76 (by decide) ?_
      exact hb_12 (x3 + 1) t_kinds t_now_worths t_now_made t_now_lie t_now_changes t_now_heard t_heirs H locs ls hP hD hS (lv_sub hl [1, 2, 0] rfl) hf
    · replace hf := (if_neg c1).symm.trans hf
      refine lv_aload_n hx hb dX1_takeFrom_47 rfl (lv_at hl 0 rfl) ?_
      refine gf F hP in_X1_takeFrom_X1 0 rfl rfl 1 (by decide) 3 rfl rfl dX1_takeFrom_48 ?_
      refine gfN F hP in_X1_takeFrom_X4 3 rfl rfl 0 (by decide) 17 rfl rfl dX1_takeFrom_51 ?_
      refine lv_iload_n hx hb dX1_takeFrom_54 rfl (lv_at hl 2 rfl) ?_
      refine lv_iload hx hb dX1_takeFrom_55 (lv_at hl 3 rfl) ?_
      refine lv_aload_n hx hb dX1_takeFrom_57 rfl (lv_at hl 1 rfl) ?_
      refine lv_iload_n hx hb dX1_takeFrom_58 rfl (lv_at hl 2 rfl) ?_
      refine lv_iload hx hb dX1_takeFrom_59 (lv_at hl 3 rfl) ?_
      obtain ⟨v2, e3, hf⟩ := bnd hf
      refine cV F hP hD hS (k_X2_digitOf l ad_o o_codes o_letters x3 x4 e3) gX1_takeFrom_X2_digitOf rfl ⟨rfl, rfl⟩ nd_X2_digitOf ⟨Nat.le_of_ble_eq_true rfl, Nat.le_of_ble_eq_true rfl⟩ 16 2 rfl rfl rfl hl.1 rfl (Nat.le_of_ble_eq_true rfl) dX1_takeFrom_61 (pm1 (ws := (w_X1 cI cB ad_t t_kinds t_now_worths t_now_made t_now_heardOf t_now_heardThing t_now_heardOther t_now_heardMore t_now_lie t_now_changes t_now_heard t_heirs ++ w_X2 cI cB ad_o o_codes o_letters)) (X := List.take 16 (w_X1 cI cB ad_t t_kinds t_now_worths t_now_made t_now_heardOf t_now_heardThing t_now_heardOther t_now_heardMore t_now_lie t_now_changes t_now_heard t_heirs ++ w_X2 cI cB ad_o o_codes o_letters)) (Y := List.drop 19 (w_X1 cI cB ad_t t_kinds t_now_worths t_now_made t_now_heardOf t_now_heardThing t_now_heardOther t_now_heardMore t_now_lie t_now_changes t_now_heard t_heirs ++ w_X2 cI cB ad_o o_codes o_letters)) rfl) (pm1 (ws := (w_X1 cI cB ad_t t_kinds t_now_worths t_now_made t_now_heardOf t_now_heardThing t_now_heardOther t_now_heardMore t_now_lie t_now_changes t_now_heard t_heirs ++ w_X2 cI cB ad_o o_codes o_letters)) (X := List.take 16 (w_X1 cI cB ad_t t_kinds t_now_worths t_now_made t_now_heardOf t_now_heardThing t_now_heardOther t_now_heardMore t_now_lie t_now_changes t_now_heard t_heirs ++ w_X2 cI cB ad_o o_codes o_letters)) (Y := List.drop 19 (w_X1 cI cB ad_t t_kinds t_now_worths t_now_made t_now_heardOf t_now_heardThing t_now_heardOther t_now_heardMore t_now_lie t_now_changes t_now_heard t_heirs ++ w_X2 cI cB ad_o o_codes o_letters)) rfl) (fun H locs hP hD hS => ?_)
      obtain ⟨g4, e5, hf⟩ := bnd hf
      refine cV F hP hD hS (k_X5_put l (sh ad_t 4) t_now_worths x3 x4 v2 e5) gX1_takeFrom_X5_put rfl ⟨rfl, rfl⟩ nd_X5_put ⟨Nat.le_of_ble_eq_true rfl, Nat.le_of_ble_eq_true rfl⟩ 4 5 rfl rfl rfl hl.1 rfl (Nat.le_of_ble_eq_true rfl) dX1_takeFrom_64 (pm1 (ws := (w_X1 cI cB ad_t t_kinds t_now_worths t_now_made t_now_heardOf t_now_heardThing t_now_heardOther t_now_heardMore t_now_lie t_now_changes t_now_heard t_heirs ++ w_X2 cI cB ad_o o_codes o_letters)) (X := List.take 4 (w_X1 cI cB ad_t t_kinds t_now_worths t_now_made t_now_heardOf t_now_heardThing t_now_heardOther t_now_heardMore t_now_lie t_now_changes t_now_heard t_heirs ++ w_X2 cI cB ad_o o_codes o_letters)) (Y := List.drop 6 (w_X1 cI cB ad_t t_kinds t_now_worths t_now_made t_now_heardOf t_now_heardThing t_now_heardOther t_now_heardMore t_now_lie t_now_changes t_now_heard t_heirs ++ w_X2 cI cB ad_o o_codes o_letters)) rfl) (pm1 (ws := (w_X1 cI cB ad_t t_kinds g4 t_now_made t_now_heardOf t_now_heardThing t_now_heardOther t_now_heardMore t_now_lie t_now_changes t_now_heard t_heirs ++ w_X2 cI cB ad_o o_codes o_letters)) (X := List.take 4 (w_X1 cI cB ad_t t_kinds t_now_worths t_now_made t_now_heardOf t_now_heardThing t_now_heardOther t_now_heardMore t_now_lie t_now_changes t_now_heard t_heirs ++ w_X2 cI cB ad_o o_codes o_letters)) (Y := List.drop 6 (w_X1 cI cB ad_t t_kinds t_now_worths t_now_made t_now_heardOf t_now_heardThing t_now_heardOther t_now_heardMore t_now_lie t_now_changes t_now_heard t_heirs ++ w_X2 cI cB ad_o o_codes o_letters)) rfl) (fun H locs hP hD hS => ?_)
      refine lv_iinc (v := (x4 + 1)) (lv' := [(4, .int (x4 + 1)), (0, .ref (ad_t 0)), (1, .ref (ad_o 0)), (3, .int x3)]) hx hb dX1_takeFrom_67 hl (k := 3) rfl rfl (by decide) rfl (fun ls hl => ?_)
      refine lv_goto (tgt := 41) hx hb dX1_takeFrom_70 (by decide) ?_
      exact ih x3 (x4 + 1) t_kinds g4 t_now_made t_now_lie t_now_changes t_now_heard t_heirs H locs ls hP hD hS (lv_sub hl [1, 2, 3, 0] rfl) hf

set_option maxHeartbeats 4000000 in
set_option maxRecDepth 100000 in
theorem b_X1_takeFrom_12 {p : Program} {l : Launch} {e : Env} {s : State} {m : MethodId} {args : Array Value} {below : List Frame} {meth : Method} {c : Code} {D : va_G} {cI cB : ClassId} {kK kV : Nat → Nat} {A : Nat → Prop} (F : Fx p m c s meth args cX1_takeFrom 5 RX1 wsX1_takeFrom none D cI cB kK kV A) {ad_t : Nat → Nat} {ad_o : Nat → Nat} {t_now_heardOf : Nat → Int32} {t_now_heardThing : Nat → Int32} {t_now_heardOther : Nat → Int32} {t_now_heardMore : Nat → Int32} {o_codes : Nat → Int32} {o_letters : Int32}  {g_t_kinds : Nat → Int32} {g_t_now_worths : Nat → Int32} {g_t_now_made : Nat → Int32} {g_t_now_lie : Int32} {g_t_now_changes : Int32} {g_t_now_heard : Int32} {g_t_heirs : Int32} : ∀ (n : Nat), ∀ (x3 : Int32) (t_kinds : Nat → Int32) (t_now_worths : Nat → Int32) (t_now_made : Nat → Int32) (t_now_lie : Int32) (t_now_changes : Int32) (t_now_heard : Int32) (t_heirs : Int32) (H : Heap) (locs : List Loc) (ls : Array Slot), va_P D vwCl (w_X1 cI cB ad_t t_kinds t_now_worths t_now_made t_now_heardOf t_now_heardThing t_now_heardOther t_now_heardMore t_now_lie t_now_changes t_now_heard t_heirs ++ w_X2 cI cB ad_o o_codes o_letters) H → va_D A (w_X1 cI cB ad_t t_kinds t_now_worths t_now_made t_now_heardOf t_now_heardThing t_now_heardOther t_now_heardMore t_now_lie t_now_changes t_now_heard t_heirs ++ w_X2 cI cB ad_o o_codes o_letters) → va_S A s.heap H locs → lv_has ls 5 [(0, .ref (ad_t 0)), (1, .ref (ad_o 0)), (3, .int x3)] → f_X1_takeFrom_12 o_codes  n x3 t_kinds t_now_worths t_now_made t_now_lie t_now_changes t_now_heard t_heirs = some (g_t_kinds, g_t_now_worths, g_t_now_made, g_t_now_lie, g_t_now_changes, g_t_now_heard, g_t_heirs) → W p l e rm_X1_takeFrom s m args below meth c H locs 0 0 (Zq D below args s A (w_X1 cI cB ad_t g_t_kinds g_t_now_worths g_t_now_made t_now_heardOf t_now_heardThing t_now_heardOther t_now_heardMore g_t_now_lie g_t_now_changes g_t_now_heard g_t_heirs ++ w_X2 cI cB ad_o o_codes o_letters) none) (F0 m 12 ls []) := by
  obtain ⟨hx, hb, hml, hown, hts, hrt, hlocks, hK, hA, hZ⟩ := id F
  intro n
  induction n with
  | zero =>
    intro x3 t_kinds t_now_worths t_now_made t_now_lie t_now_changes t_now_heard t_heirs H locs ls hP hD hS hl hf
    cases hf
  | succ n ih =>
    intro x3 t_kinds t_now_worths t_now_made t_now_lie t_now_changes t_now_heard t_heirs H locs ls hP hD hS hl hf
    refine lv_iload_n hx hb dX1_takeFrom_12 rfl (lv_at hl 2 rfl) ?_
    refine lv_iconst (v := 4) hx hb dX1_takeFrom_13 (by decide) ?_
    refine lv_icmp_ge (tgt := 79) hx hb dX1_takeFrom_14 (by decide) (fun c1 => ?_) (fun c1 => ?_)
    · replace hf := (if_pos c1).symm.trans hf
      exact b_X1_takeFrom_79 F  t_kinds t_now_worths t_now_made t_now_lie t_now_changes t_now_heard t_heirs H locs ls hP hD hS (lv_sub hl [0, 1] rfl) hf
    · replace hf := (if_neg c1).symm.trans hf
      refine lv_iload_n hx hb dX1_takeFrom_17 rfl (lv_at hl 2 rfl) ?_
      refine lv_aload_n hx hb dX1_takeFrom_18 rfl (lv_at hl 0 rfl) ?_
      refine gf F hP in_X1_takeFrom_X1 0 rfl rfl 2 (by decide) 1 rfl rfl dX1_takeFrom_19 ?_
      refine lv_icmp_ge (tgt := 79) hx hb dX1_takeFrom_22 (by decide) (fun c2 => ?_) (fun c2 => ?_)
      · replace hf := (if_pos c2).symm.trans hf
        exact b_X1_takeFrom_79 F  t_kinds t_now_worths t_now_made t_now_lie t_now_changes t_now_heard t_heirs H locs ls hP hD hS (lv_sub hl [0, 1] rfl) hf
      · replace hf := (if_neg c2).symm.trans hf
        refine lv_aload_n hx hb dX1_takeFrom_25 rfl (lv_at hl 0 rfl) ?_
        refine gf F hP in_X1_takeFrom_X1 0 rfl rfl 0 (by decide) 2 rfl rfl dX1_takeFrom_26 ?_
        refine lv_iload_n hx hb dX1_takeFrom_29 rfl (lv_at hl 2 rfl) ?_
        refine lv_aload_n hx hb dX1_takeFrom_30 rfl (lv_at hl 1 rfl) ?_
        refine lv_iload_n hx hb dX1_takeFrom_31 rfl (lv_at hl 2 rfl) ?_
        obtain ⟨v3, e4, hf⟩ := bnd hf
        refine cV F hP hD hS (k_X2_kindOf l ad_o o_codes o_letters x3 e4) gX1_takeFrom_X2_kindOf rfl ⟨rfl, rfl⟩ nd_X2_kindOf ⟨Nat.le_of_ble_eq_true rfl, Nat.le_of_ble_eq_true rfl⟩ 16 2 rfl rfl rfl hl.1 rfl (Nat.le_of_ble_eq_true rfl) dX1_takeFrom_32 (pm1 (ws := (w_X1 cI cB ad_t t_kinds t_now_worths t_now_made t_now_heardOf t_now_heardThing t_now_heardOther t_now_heardMore t_now_lie t_now_changes t_now_heard t_heirs ++ w_X2 cI cB ad_o o_codes o_letters)) (X := List.take 16 (w_X1 cI cB ad_t t_kinds t_now_worths t_now_made t_now_heardOf t_now_heardThing t_now_heardOther t_now_heardMore t_now_lie t_now_changes t_now_heard t_heirs ++ w_X2 cI cB ad_o o_codes o_letters)) (Y := List.drop 19 (w_X1 cI cB ad_t t_kinds t_now_worths t_now_made t_now_heardOf t_now_heardThing t_now_heardOther t_now_heardMore t_now_lie t_now_changes t_now_heard t_heirs ++ w_X2 cI cB ad_o o_codes o_letters)) rfl) (pm1 (ws := (w_X1 cI cB ad_t t_kinds t_now_worths t_now_made t_now_heardOf t_now_heardThing t_now_heardOther t_now_heardMore t_now_lie t_now_changes t_now_heard t_heirs ++ w_X2 cI cB ad_o o_codes o_letters)) (X := List.take 16 (w_X1 cI cB ad_t t_kinds t_now_worths t_now_made t_now_heardOf t_now_heardThing t_now_heardOther t_now_heardMore t_now_lie t_now_changes t_now_heard t_heirs ++ w_X2 cI cB ad_o o_codes o_letters)) (Y := List.drop 19 (w_X1 cI cB ad_t t_kinds t_now_worths t_now_made t_now_heardOf t_now_heardThing t_now_heardOther t_now_heardMore t_now_lie t_now_changes t_now_heard t_heirs ++ w_X2 cI cB ad_o o_codes o_letters)) rfl) (fun H locs hP hD hS => ?_)
        obtain ⟨g5, e6, hf⟩ := bnd hf
        refine cV F hP hD hS (k_X3_set l (sh ad_t 1) 4 t_kinds x3 v3 e6) gX1_takeFrom_X3_set rfl ⟨rfl, rfl⟩ nd_X3_set ⟨Nat.le_of_ble_eq_true rfl, Nat.le_of_ble_eq_true rfl⟩ 1 3 rfl rfl rfl hl.1 rfl (Nat.le_of_ble_eq_true rfl) dX1_takeFrom_35 (pm1 (ws := (w_X1 cI cB ad_t t_kinds t_now_worths t_now_made t_now_heardOf t_now_heardThing t_now_heardOther t_now_heardMore t_now_lie t_now_changes t_now_heard t_heirs ++ w_X2 cI cB ad_o o_codes o_letters)) (X := List.take 1 (w_X1 cI cB ad_t t_kinds t_now_worths t_now_made t_now_heardOf t_now_heardThing t_now_heardOther t_now_heardMore t_now_lie t_now_changes t_now_heard t_heirs ++ w_X2 cI cB ad_o o_codes o_letters)) (Y := List.drop 3 (w_X1 cI cB ad_t t_kinds t_now_worths t_now_made t_now_heardOf t_now_heardThing t_now_heardOther t_now_heardMore t_now_lie t_now_changes t_now_heard t_heirs ++ w_X2 cI cB ad_o o_codes o_letters)) rfl) (pm1 (ws := (w_X1 cI cB ad_t g5 t_now_worths t_now_made t_now_heardOf t_now_heardThing t_now_heardOther t_now_heardMore t_now_lie t_now_changes t_now_heard t_heirs ++ w_X2 cI cB ad_o o_codes o_letters)) (X := List.take 1 (w_X1 cI cB ad_t t_kinds t_now_worths t_now_made t_now_heardOf t_now_heardThing t_now_heardOther t_now_heardMore t_now_lie t_now_changes t_now_heard t_heirs ++ w_X2 cI cB ad_o o_codes o_letters)) (Y := List.drop 3 (w_X1 cI cB ad_t t_kinds t_now_worths t_now_made t_now_heardOf t_now_heardThing t_now_heardOther t_now_heardMore t_now_lie t_now_changes t_now_heard t_heirs ++ w_X2 cI cB ad_o o_codes o_letters)) rfl) (fun H locs hP hD hS => ?_)
        refine lv_iconst (v := 0) hx hb dX1_takeFrom_38 (by decide) ?_
        refine lv_istore (lv' := [(4, .int 0), (0, .ref (ad_t 0)), (1, .ref (ad_o 0)), (3, .int x3)]) hx hb dX1_takeFrom_39 hl (by decide) rfl (fun ls hl => ?_)
        exact b_X1_takeFrom_41 F (f_X1_takeFrom_12 o_codes  n) ih 300 x3 0 g5 t_now_worths t_now_made t_now_lie t_now_changes t_now_heard t_heirs H locs ls hP hD hS (lv_sub hl [1, 2, 3, 0] rfl) hf

set_option maxHeartbeats 4000000 in
set_option maxRecDepth 100000 in
theorem k_X1_takeFrom (l : Launch) {D : va_G} {cI cB : ClassId} {kK kV : Nat → Nat} (ad_t : Nat → Nat) (ad_o : Nat → Nat) (t_kinds : Nat → Int32) (t_now_worths : Nat → Int32) (t_now_made : Nat → Int32) (t_now_heardOf : Nat → Int32) (t_now_heardThing : Nat → Int32) (t_now_heardOther : Nat → Int32) (t_now_heardMore : Nat → Int32) (t_now_lie : Int32) (t_now_changes : Int32) (t_now_heard : Int32) (t_heirs : Int32) (o_codes : Nat → Int32) (o_letters : Int32) (x2 : Int32)  {g_t_kinds : Nat → Int32} {g_t_now_worths : Nat → Int32} {g_t_now_made : Nat → Int32} {g_t_now_lie : Int32} {g_t_now_changes : Int32} {g_t_now_heard : Int32} {g_t_heirs : Int32} (hf : f_X1_takeFrom t_kinds t_now_worths t_now_made t_now_lie t_now_changes t_now_heard t_heirs o_codes x2 = some (g_t_kinds, g_t_now_worths, g_t_now_made, g_t_now_lie, g_t_now_changes, g_t_now_heard, g_t_heirs)) : Ct l yX1_takeFrom wsX1_takeFrom rm_X1_takeFrom D cI cB kK kV [.ref (ad_t 0), .ref (ad_o 0), .int x2] (w_X1 cI cB ad_t t_kinds t_now_worths t_now_made t_now_heardOf t_now_heardThing t_now_heardOther t_now_heardMore t_now_lie t_now_changes t_now_heard t_heirs ++ w_X2 cI cB ad_o o_codes o_letters) (w_X1 cI cB ad_t g_t_kinds g_t_now_worths g_t_now_made t_now_heardOf t_now_heardThing t_now_heardOther t_now_heardMore g_t_now_lie g_t_now_changes g_t_now_heard g_t_heirs ++ w_X2 cI cB ad_o o_codes o_letters) none := by
  refine Ct.of (cc := cX1_takeFrom) (maxL := 5) (ret := none) (by decide) rfl (Nat.le_of_ble_eq_true rfl) rfl ?_
  intro p e s m below meth c A ls F hP hD hS hl
  have hl : lv_has ls 5 [(0, .ref (ad_t 0)), (1, .ref (ad_o 0)), (2, .int x2)] := hl
  obtain ⟨hx, hb, hml, hown, hts, hrt, hlocks, hK, hA, hZ⟩ := id F
  obtain ⟨H, hH⟩ : ∃ H, H = s.heap := ⟨_, rfl⟩
  obtain ⟨locs, hLo⟩ : ∃ q : List Loc, q = [] := ⟨_, rfl⟩
  refine (?_ : W p l e rm_X1_takeFrom s m _ below meth c s.heap [] 0 0 _ _)
  rw [← hH, ← hLo]
  rw [← hH] at hP
  have hS : va_S A s.heap H locs := by rw [hH, hLo]; exact hS
  refine lv_aload_n hx hb dX1_takeFrom_0 rfl (lv_at hl 1 rfl) ?_
  refine lv_ifnonnull (tgt := 5) hx hb dX1_takeFrom_1 (by decide) ?_
  refine lv_aload_n hx hb dX1_takeFrom_5 rfl (lv_at hl 0 rfl) ?_
  refine lv_iload_n hx hb dX1_takeFrom_6 rfl (lv_at hl 2 rfl) ?_
  refine pf F hP hD hS in_X1_takeFrom_X1 tyX1 tyX1_ok nmX1 0 rfl rfl 2 (by decide) 1 rfl rfl rfl rfl (Nat.le_of_ble_eq_true rfl) dX1_takeFrom_7 (w_X1 cI cB ad_t t_kinds t_now_worths t_now_made t_now_heardOf t_now_heardThing t_now_heardOther t_now_heardMore t_now_lie t_now_changes t_now_heard x2 ++ w_X2 cI cB ad_o o_codes o_letters) rfl (fun H locs hP hD hS => ?_)
  refine lv_iconst (v := 0) hx hb dX1_takeFrom_10 (by decide) ?_
  refine lv_istore_n (lv' := [(3, .int 0), (0, .ref (ad_t 0)), (1, .ref (ad_o 0)), (2, .int x2)]) hx hb dX1_takeFrom_11 rfl hl (by decide) rfl (fun ls hl => ?_)
  exact b_X1_takeFrom_12 F 300 0 t_kinds t_now_worths t_now_made t_now_lie t_now_changes t_now_heard x2 H locs ls hP hD hS (lv_sub hl [1, 2, 0] rfl) hf

/-! X1_thingIn -/
def rm_X1_thingIn : Room := { frames := 0, cells := 0, slots := 0, locals := 0 }
theorem in_X1_thingIn_X1 : ∀ w ∈ u_ws RX1 TX1 3, w ∈ wsX1_thingIn := fun _ h => List.mem_cons_of_mem _ (List.mem_append_right _ (h))
theorem nd_X1_thingIn : yX1_thingIn.cls = RX1 ∧ yX1_thingIn.cls ≠ "java/lang/invoke/MethodHandle" ∧ yX1_thingIn.cls ≠ "java/lang/invoke/VarHandle" ∧ (parseMethodDescriptor yX1_thingIn.desc).map (fun d => d.parameters.length) = some 2 := by decide +kernel
def f_X1_thingIn (t_heirs : Int32) (x1 : Int32) (x2 : Int32) : Option (Int32) := some ((x1 >>> ((2 * ((t_heirs - 1) - x2)) &&& 31)) &&& 3)
set_option maxHeartbeats 4000000 in
set_option maxRecDepth 100000 in
theorem k_X1_thingIn (l : Launch) {D : va_G} {cI cB : ClassId} {kK kV : Nat → Nat} (ad_t : Nat → Nat) (t_kinds : Nat → Int32) (t_now_worths : Nat → Int32) (t_now_made : Nat → Int32) (t_now_heardOf : Nat → Int32) (t_now_heardThing : Nat → Int32) (t_now_heardOther : Nat → Int32) (t_now_heardMore : Nat → Int32) (t_now_lie : Int32) (t_now_changes : Int32) (t_now_heard : Int32) (t_heirs : Int32) (x1 : Int32) (x2 : Int32) {rr : Int32}  (hf : f_X1_thingIn t_heirs x1 x2 = some rr) : Ct l yX1_thingIn wsX1_thingIn rm_X1_thingIn D cI cB kK kV [.ref (ad_t 0), .int x1, .int x2] (w_X1 cI cB ad_t t_kinds t_now_worths t_now_made t_now_heardOf t_now_heardThing t_now_heardOther t_now_heardMore t_now_lie t_now_changes t_now_heard t_heirs) (w_X1 cI cB ad_t t_kinds t_now_worths t_now_made t_now_heardOf t_now_heardThing t_now_heardOther t_now_heardMore t_now_lie t_now_changes t_now_heard t_heirs) (some (.int rr)) := by
  refine Ct.of (cc := cX1_thingIn) (maxL := 3) (ret := (some .int)) (by decide) rfl (Nat.le_of_ble_eq_true rfl) rfl ?_
  intro p e s m below meth c A ls F hP hD hS hl
  have hl : lv_has ls 3 [(0, .ref (ad_t 0)), (1, .int x1), (2, .int x2)] := hl
  obtain ⟨hx, hb, hml, hown, hts, hrt, hlocks, hK, hA, hZ⟩ := id F
  obtain ⟨H, hH⟩ : ∃ H, H = s.heap := ⟨_, rfl⟩
  obtain ⟨locs, hLo⟩ : ∃ q : List Loc, q = [] := ⟨_, rfl⟩
  refine (?_ : W p l e rm_X1_thingIn s m _ below meth c s.heap [] 0 0 _ _)
  rw [← hH, ← hLo]
  rw [← hH] at hP
  have hS : va_S A s.heap H locs := by rw [hH, hLo]; exact hS
  refine lv_iload_n hx hb dX1_thingIn_0 rfl (lv_at hl 1 rfl) ?_
  refine lv_iconst (v := 2) hx hb dX1_thingIn_1 (by decide) ?_
  refine lv_aload_n hx hb dX1_thingIn_2 rfl (lv_at hl 0 rfl) ?_
  refine gf F hP in_X1_thingIn_X1 0 rfl rfl 2 (by decide) 1 rfl rfl dX1_thingIn_3 ?_
  refine lv_iconst (v := 1) hx hb dX1_thingIn_6 (by decide) ?_
  refine lv_isub hx hb dX1_thingIn_7 ?_
  refine lv_iload_n hx hb dX1_thingIn_8 rfl (lv_at hl 2 rfl) ?_
  refine lv_isub hx hb dX1_thingIn_9 ?_
  refine lv_imul hx hb dX1_thingIn_10 ?_
  refine lv_ishr hx hb dX1_thingIn_11 ?_
  refine lv_iconst (v := 3) hx hb dX1_thingIn_12 (by decide) ?_
  refine lv_iand hx hb dX1_thingIn_13 ?_
  replace hf : (some ((x1 >>> ((2 * ((t_heirs - 1) - x2)) &&& 31)) &&& 3) : Option (Int32)) = some rr := hf
  cases hf
  exact ret_i F hP hS dX1_thingIn_14

/-! X1_thingOf -/
def rm_X1_thingOf : Room := { frames := 1, cells := 0, slots := 0, locals := 22 }
theorem in_X1_thingOf_X1 : ∀ w ∈ u_ws RX1 TX1 3, w ∈ wsX1_thingOf := fun _ h => List.mem_cons_of_mem _ (List.mem_append_left _ (List.mem_append_right _ (h)))
theorem in_X1_thingOf_X4 : ∀ w ∈ u_ws RX4 TX4 9, w ∈ wsX1_thingOf := fun _ h => List.mem_cons_of_mem _ (List.mem_append_right _ (h))
theorem nd_X1_thingOf : yX1_thingOf.cls = RX1 ∧ yX1_thingOf.cls ≠ "java/lang/invoke/MethodHandle" ∧ yX1_thingOf.cls ≠ "java/lang/invoke/VarHandle" ∧ (parseMethodDescriptor yX1_thingOf.desc).map (fun d => d.parameters.length) = some 1 := by decide +kernel
def f_X1_thingOf (t_now_lie : Int32) (t_heirs : Int32) (x1 : Int32) : Option (Int32) := (f_X1_thingIn t_heirs t_now_lie x1).bind (fun v1 => some v1)
set_option maxHeartbeats 4000000 in
set_option maxRecDepth 100000 in
theorem k_X1_thingOf (l : Launch) {D : va_G} {cI cB : ClassId} {kK kV : Nat → Nat} (ad_t : Nat → Nat) (t_kinds : Nat → Int32) (t_now_worths : Nat → Int32) (t_now_made : Nat → Int32) (t_now_heardOf : Nat → Int32) (t_now_heardThing : Nat → Int32) (t_now_heardOther : Nat → Int32) (t_now_heardMore : Nat → Int32) (t_now_lie : Int32) (t_now_changes : Int32) (t_now_heard : Int32) (t_heirs : Int32) (x1 : Int32) {rr : Int32}  (hf : f_X1_thingOf t_now_lie t_heirs x1 = some rr) : Ct l yX1_thingOf wsX1_thingOf rm_X1_thingOf D cI cB kK kV [.ref (ad_t 0), .int x1] (w_X1 cI cB ad_t t_kinds t_now_worths t_now_made t_now_heardOf t_now_heardThing t_now_heardOther t_now_heardMore t_now_lie t_now_changes t_now_heard t_heirs) (w_X1 cI cB ad_t t_kinds t_now_worths t_now_made t_now_heardOf t_now_heardThing t_now_heardOther t_now_heardMore t_now_lie t_now_changes t_now_heard t_heirs) (some (.int rr)) := by
  refine Ct.of (cc := cX1_thingOf) (maxL := 2) (ret := (some .int)) (by decide) rfl (Nat.le_of_ble_eq_true rfl) rfl ?_
  intro p e s m below meth c A ls F hP hD hS hl
  have hl : lv_has ls 2 [(0, .ref (ad_t 0)), (1, .int x1)] := hl
  obtain ⟨hx, hb, hml, hown, hts, hrt, hlocks, hK, hA, hZ⟩ := id F
  obtain ⟨H, hH⟩ : ∃ H, H = s.heap := ⟨_, rfl⟩
  obtain ⟨locs, hLo⟩ : ∃ q : List Loc, q = [] := ⟨_, rfl⟩
  refine (?_ : W p l e rm_X1_thingOf s m _ below meth c s.heap [] 0 0 _ _)
  rw [← hH, ← hLo]
  rw [← hH] at hP
  have hS : va_S A s.heap H locs := by rw [hH, hLo]; exact hS
  refine lv_aload_n hx hb dX1_thingOf_0 rfl (lv_at hl 0 rfl) ?_
  refine lv_aload_n hx hb dX1_thingOf_1 rfl (lv_at hl 0 rfl) ?_
  refine gf F hP in_X1_thingOf_X1 0 rfl rfl 1 (by decide) 1 rfl rfl dX1_thingOf_2 ?_
  refine gfN F hP in_X1_thingOf_X4 3 rfl rfl 6 (by decide) 18 rfl rfl dX1_thingOf_5 ?_
  refine lv_iload_n hx hb dX1_thingOf_8 rfl (lv_at hl 1 rfl) ?_
  obtain ⟨v1, e2, hf⟩ := bnd hf
  refine cV F hP hD hS (k_X1_thingIn l ad_t t_kinds t_now_worths t_now_made t_now_heardOf t_now_heardThing t_now_heardOther t_now_heardMore t_now_lie t_now_changes t_now_heard t_heirs t_now_lie x1 e2) gX1_thingOf_X1_thingIn rfl ⟨rfl, rfl⟩ nd_X1_thingIn ⟨Nat.le_of_ble_eq_true rfl, Nat.le_of_ble_eq_true rfl⟩ 0 1 rfl rfl rfl hl.1 rfl (Nat.le_of_ble_eq_true rfl) dX1_thingOf_9 (pm0 (w_X1 cI cB ad_t t_kinds t_now_worths t_now_made t_now_heardOf t_now_heardThing t_now_heardOther t_now_heardMore t_now_lie t_now_changes t_now_heard t_heirs)) (pm0 (w_X1 cI cB ad_t t_kinds t_now_worths t_now_made t_now_heardOf t_now_heardThing t_now_heardOther t_now_heardMore t_now_lie t_now_changes t_now_heard t_heirs)) (fun H locs hP hD hS => ?_)
  replace hf : (some v1 : Option (Int32)) = some rr := hf
  cases hf
  exact ret_i F hP hS dX1_thingOf_12

/-! X1_ownerOf -/
def rm_X1_ownerOf : Room := { frames := 2, cells := 0, slots := 0, locals := 43 }
theorem in_X1_ownerOf_X1 : ∀ w ∈ u_ws RX1 TX1 3, w ∈ wsX1_ownerOf := fun _ h => List.mem_cons_of_mem _ (List.mem_append_left _ (List.mem_append_right _ (h)))
theorem nd_X1_ownerOf : yX1_ownerOf.cls = RX1 ∧ yX1_ownerOf.cls ≠ "java/lang/invoke/MethodHandle" ∧ yX1_ownerOf.cls ≠ "java/lang/invoke/VarHandle" ∧ (parseMethodDescriptor yX1_ownerOf.desc).map (fun d => d.parameters.length) = some 1 := by decide +kernel
def f_X1_ownerOf_2 (t_now_lie : Int32) (t_heirs : Int32)  : Nat → Int32 → Int32 → Option (Int32)
  | 0, _, _ => none
  | n + 1, x1, x2 => (if 4 ≤ x2 then some (-1) else (if t_heirs ≤ x2 then some (-1) else (f_X1_thingOf t_now_lie t_heirs x2).bind (fun v3 => (if v3 = x1 then some x2 else f_X1_ownerOf_2 t_now_lie t_heirs  n x1 (x2 + 1)))))
def f_X1_ownerOf (t_now_lie : Int32) (t_heirs : Int32) (x1 : Int32) : Option (Int32) := f_X1_ownerOf_2 t_now_lie t_heirs 300 x1 0
set_option maxHeartbeats 4000000 in
set_option maxRecDepth 100000 in
theorem b_X1_ownerOf_2 {p : Program} {l : Launch} {e : Env} {s : State} {m : MethodId} {args : Array Value} {below : List Frame} {meth : Method} {c : Code} {D : va_G} {cI cB : ClassId} {kK kV : Nat → Nat} {A : Nat → Prop} (F : Fx p m c s meth args cX1_ownerOf 3 RX1 wsX1_ownerOf (some .int) D cI cB kK kV A) {ad_t : Nat → Nat} {t_kinds : Nat → Int32} {t_now_worths : Nat → Int32} {t_now_made : Nat → Int32} {t_now_heardOf : Nat → Int32} {t_now_heardThing : Nat → Int32} {t_now_heardOther : Nat → Int32} {t_now_heardMore : Nat → Int32} {t_now_lie : Int32} {t_now_changes : Int32} {t_now_heard : Int32} {t_heirs : Int32} {rr : Int32}  : ∀ (n : Nat), ∀ (x1 : Int32) (x2 : Int32) (H : Heap) (locs : List Loc) (ls : Array Slot), va_P D vwCl (w_X1 cI cB ad_t t_kinds t_now_worths t_now_made t_now_heardOf t_now_heardThing t_now_heardOther t_now_heardMore t_now_lie t_now_changes t_now_heard t_heirs) H → va_D A (w_X1 cI cB ad_t t_kinds t_now_worths t_now_made t_now_heardOf t_now_heardThing t_now_heardOther t_now_heardMore t_now_lie t_now_changes t_now_heard t_heirs) → va_S A s.heap H locs → lv_has ls 3 [(0, .ref (ad_t 0)), (1, .int x1), (2, .int x2)] → f_X1_ownerOf_2 t_now_lie t_heirs  n x1 x2 = some rr → W p l e rm_X1_ownerOf s m args below meth c H locs 0 0 (Zq D below args s A (w_X1 cI cB ad_t t_kinds t_now_worths t_now_made t_now_heardOf t_now_heardThing t_now_heardOther t_now_heardMore t_now_lie t_now_changes t_now_heard t_heirs) (some (.int rr))) (F0 m 2 ls []) := by
  obtain ⟨hx, hb, hml, hown, hts, hrt, hlocks, hK, hA, hZ⟩ := id F
  intro n
  induction n with
  | zero =>
    intro x1 x2 H locs ls hP hD hS hl hf
    cases hf
  | succ n ih =>
    intro x1 x2 H locs ls hP hD hS hl hf
    refine lv_iload_n hx hb dX1_ownerOf_2 rfl (lv_at hl 2 rfl) ?_
    refine lv_iconst (v := 4) hx hb dX1_ownerOf_3 (by decide) ?_
    refine lv_icmp_ge (tgt := 32) hx hb dX1_ownerOf_4 (by decide) (fun c1 => ?_) (fun c1 => ?_)
    · replace hf := (if_pos c1).symm.trans hf
      refine lv_iconst (v := (-1)) hx hb dX1_ownerOf_32 (by decide) ?_
      replace hf : (some (-1) : Option (Int32)) = some rr := hf
      cases hf
      exact ret_i F hP hS dX1_ownerOf_33
    · replace hf := (if_neg c1).symm.trans hf
      refine lv_iload_n hx hb dX1_ownerOf_7 rfl (lv_at hl 2 rfl) ?_
      refine lv_aload_n hx hb dX1_ownerOf_8 rfl (lv_at hl 0 rfl) ?_
      refine gf F hP in_X1_ownerOf_X1 0 rfl rfl 2 (by decide) 1 rfl rfl dX1_ownerOf_9 ?_
      refine lv_icmp_ge (tgt := 32) hx hb dX1_ownerOf_12 (by decide) (fun c2 => ?_) (fun c2 => ?_)
      · replace hf := (if_pos c2).symm.trans hf
        refine lv_iconst (v := (-1)) hx hb dX1_ownerOf_32 (by decide) ?_
        replace hf : (some (-1) : Option (Int32)) = some rr := hf
        cases hf
        exact ret_i F hP hS dX1_ownerOf_33
      · replace hf := (if_neg c2).symm.trans hf
        refine lv_aload_n hx hb dX1_ownerOf_15 rfl (lv_at hl 0 rfl) ?_
        refine lv_iload_n hx hb dX1_ownerOf_16 rfl (lv_at hl 2 rfl) ?_
        obtain ⟨v3, e4, hf⟩ := bnd hf
        refine cV F hP hD hS (k_X1_thingOf l ad_t t_kinds t_now_worths t_now_made t_now_heardOf t_now_heardThing t_now_heardOther t_now_heardMore t_now_lie t_now_changes t_now_heard t_heirs x2 e4) gX1_ownerOf_X1_thingOf rfl ⟨rfl, rfl⟩ nd_X1_thingOf ⟨Nat.le_of_ble_eq_true rfl, Nat.le_of_ble_eq_true rfl⟩ 0 1 rfl rfl rfl hl.1 rfl (Nat.le_of_ble_eq_true rfl) dX1_ownerOf_17 (pm0 (w_X1 cI cB ad_t t_kinds t_now_worths t_now_made t_now_heardOf t_now_heardThing t_now_heardOther t_now_heardMore t_now_lie t_now_changes t_now_heard t_heirs)) (pm0 (w_X1 cI cB ad_t t_kinds t_now_worths t_now_made t_now_heardOf t_now_heardThing t_now_heardOther t_now_heardMore t_now_lie t_now_changes t_now_heard t_heirs)) (fun H locs hP hD hS => ?_)
        refine lv_iload_n hx hb dX1_ownerOf_20 rfl (lv_at hl 1 rfl) ?_
        refine lv_icmp_ne (tgt := 26) hx hb dX1_ownerOf_21 (by decide) (fun c5 => ?_) (fun c5 => ?_)
        · replace hf := (if_neg c5).symm.trans hf
          refine lv_iinc (v := (x2 + 1)) (lv' := [(2, .int (x2 + 1)), (0, .ref (ad_t 0)), (1, .int x1)]) hx hb dX1_ownerOf_26 hl (k := 2) rfl rfl (by decide) rfl (fun ls hl => ?_)
          refine lv_goto (tgt := 2) hx hb dX1_ownerOf_29 (by decide) ?_
          exact ih x1 (x2 + 1) H locs ls hP hD hS (lv_sub hl [1, 2, 0] rfl) hf
        · replace hf := (if_pos c5).symm.trans hf
          refine lv_iload_n hx hb dX1_ownerOf_24 rfl (lv_at hl 2 rfl) ?_
          replace hf : (some x2 : Option (Int32)) = some rr := hf
          cases hf
          exact ret_i F hP hS dX1_ownerOf_25

set_option maxHeartbeats 4000000 in
set_option maxRecDepth 100000 in
theorem k_X1_ownerOf (l : Launch) {D : va_G} {cI cB : ClassId} {kK kV : Nat → Nat} (ad_t : Nat → Nat) (t_kinds : Nat → Int32) (t_now_worths : Nat → Int32) (t_now_made : Nat → Int32) (t_now_heardOf : Nat → Int32) (t_now_heardThing : Nat → Int32) (t_now_heardOther : Nat → Int32) (t_now_heardMore : Nat → Int32) (t_now_lie : Int32) (t_now_changes : Int32) (t_now_heard : Int32) (t_heirs : Int32) (x1 : Int32) {rr : Int32}  (hf : f_X1_ownerOf t_now_lie t_heirs x1 = some rr) : Ct l yX1_ownerOf wsX1_ownerOf rm_X1_ownerOf D cI cB kK kV [.ref (ad_t 0), .int x1] (w_X1 cI cB ad_t t_kinds t_now_worths t_now_made t_now_heardOf t_now_heardThing t_now_heardOther t_now_heardMore t_now_lie t_now_changes t_now_heard t_heirs) (w_X1 cI cB ad_t t_kinds t_now_worths t_now_made t_now_heardOf t_now_heardThing t_now_heardOther t_now_heardMore t_now_lie t_now_changes t_now_heard t_heirs) (some (.int rr)) := by
  refine Ct.of (cc := cX1_ownerOf) (maxL := 3) (ret := (some .int)) (by decide) rfl (Nat.le_of_ble_eq_true rfl) rfl ?_
  intro p e s m below meth c A ls F hP hD hS hl
  have hl : lv_has ls 3 [(0, .ref (ad_t 0)), (1, .int x1)] := hl
  obtain ⟨hx, hb, hml, hown, hts, hrt, hlocks, hK, hA, hZ⟩ := id F
  obtain ⟨H, hH⟩ : ∃ H, H = s.heap := ⟨_, rfl⟩
  obtain ⟨locs, hLo⟩ : ∃ q : List Loc, q = [] := ⟨_, rfl⟩
  refine (?_ : W p l e rm_X1_ownerOf s m _ below meth c s.heap [] 0 0 _ _)
  rw [← hH, ← hLo]
  rw [← hH] at hP
  have hS : va_S A s.heap H locs := by rw [hH, hLo]; exact hS
  refine lv_iconst (v := 0) hx hb dX1_ownerOf_0 (by decide) ?_
  refine lv_istore_n (lv' := [(2, .int 0), (0, .ref (ad_t 0)), (1, .int x1)]) hx hb dX1_ownerOf_1 rfl hl (by decide) rfl (fun ls hl => ?_)
  exact b_X1_ownerOf_2 F 300 x1 0 H locs ls hP hD hS (lv_sub hl [1, 2, 0] rfl) hf

/-! X1_unlikeIn -/
def rm_X1_unlikeIn : Room := { frames := 1, cells := 0, slots := 0, locals := 22 }
theorem in_X1_unlikeIn_X1 : ∀ w ∈ u_ws RX1 TX1 3, w ∈ wsX1_unlikeIn := fun _ h => List.mem_cons_of_mem _ (List.mem_append_right _ (h))
theorem nd_X1_unlikeIn : yX1_unlikeIn.cls = RX1 ∧ yX1_unlikeIn.cls ≠ "java/lang/invoke/MethodHandle" ∧ yX1_unlikeIn.cls ≠ "java/lang/invoke/VarHandle" ∧ (parseMethodDescriptor yX1_unlikeIn.desc).map (fun d => d.parameters.length) = some 2 := by decide +kernel
def f_X1_unlikeIn_5 (t_heirs : Int32)  : Nat → Int32 → Int32 → Int32 → Int32 → Option (Int32)
  | 0, _, _, _, _ => none
  | n + 1, x1, x2, x3, x4 => (if 4 ≤ x4 then some x3 else (if t_heirs ≤ x4 then some x3 else (f_X1_thingIn t_heirs x1 x4).bind (fun v3 => (f_X1_thingIn t_heirs x2 x4).bind (fun v5 => (if v3 = v5 then f_X1_unlikeIn_5 t_heirs  n x1 x2 x3 (x4 + 1) else f_X1_unlikeIn_5 t_heirs  n x1 x2 (x3 + 1) (x4 + 1))))))
def f_X1_unlikeIn (t_heirs : Int32) (x1 : Int32) (x2 : Int32) : Option (Int32) := f_X1_unlikeIn_5 t_heirs 300 x1 x2 0 0
set_option maxHeartbeats 4000000 in
set_option maxRecDepth 100000 in
theorem b_X1_unlikeIn_5 {p : Program} {l : Launch} {e : Env} {s : State} {m : MethodId} {args : Array Value} {below : List Frame} {meth : Method} {c : Code} {D : va_G} {cI cB : ClassId} {kK kV : Nat → Nat} {A : Nat → Prop} (F : Fx p m c s meth args cX1_unlikeIn 5 RX1 wsX1_unlikeIn (some .int) D cI cB kK kV A) {ad_t : Nat → Nat} {t_kinds : Nat → Int32} {t_now_worths : Nat → Int32} {t_now_made : Nat → Int32} {t_now_heardOf : Nat → Int32} {t_now_heardThing : Nat → Int32} {t_now_heardOther : Nat → Int32} {t_now_heardMore : Nat → Int32} {t_now_lie : Int32} {t_now_changes : Int32} {t_now_heard : Int32} {t_heirs : Int32} {rr : Int32}  : ∀ (n : Nat), ∀ (x1 : Int32) (x2 : Int32) (x3 : Int32) (x4 : Int32) (H : Heap) (locs : List Loc) (ls : Array Slot), va_P D vwCl (w_X1 cI cB ad_t t_kinds t_now_worths t_now_made t_now_heardOf t_now_heardThing t_now_heardOther t_now_heardMore t_now_lie t_now_changes t_now_heard t_heirs) H → va_D A (w_X1 cI cB ad_t t_kinds t_now_worths t_now_made t_now_heardOf t_now_heardThing t_now_heardOther t_now_heardMore t_now_lie t_now_changes t_now_heard t_heirs) → va_S A s.heap H locs → lv_has ls 5 [(0, .ref (ad_t 0)), (1, .int x1), (2, .int x2), (3, .int x3), (4, .int x4)] → f_X1_unlikeIn_5 t_heirs  n x1 x2 x3 x4 = some rr → W p l e rm_X1_unlikeIn s m args below meth c H locs 0 0 (Zq D below args s A (w_X1 cI cB ad_t t_kinds t_now_worths t_now_made t_now_heardOf t_now_heardThing t_now_heardOther t_now_heardMore t_now_lie t_now_changes t_now_heard t_heirs) (some (.int rr))) (F0 m 5 ls []) := by
  obtain ⟨hx, hb, hml, hown, hts, hrt, hlocks, hK, hA, hZ⟩ := id F
  intro n
  induction n with
  | zero =>
    intro x1 x2 x3 x4 H locs ls hP hD hS hl hf
    cases hf
  | succ n ih =>
    intro x1 x2 x3 x4 H locs ls hP hD hS hl hf
    refine lv_iload hx hb dX1_unlikeIn_5 (lv_at hl 4 rfl) ?_
    refine lv_iconst (v := 4) hx hb dX1_unlikeIn_7 (by decide) ?_
    refine lv_icmp_ge (tgt := 46) hx hb dX1_unlikeIn_8 (by decide) (fun c1 => ?_) (fun c1 => ?_)
    · replace hf := (if_pos c1).symm.trans hf
      refine lv_iload_n hx hb dX1_unlikeIn_46 rfl (lv_at hl 3 rfl) ?_
      replace hf : (some x3 : Option (Int32)) = some rr := hf
      cases hf
      exact ret_i F hP hS dX1_unlikeIn_47
    · replace hf := (if_neg c1).symm.trans hf
      refine lv_iload hx hb dX1_unlikeIn_11 (lv_at hl 4 rfl) ?_
      refine lv_aload_n hx hb dX1_unlikeIn_13 rfl (lv_at hl 0 rfl) ?_
      refine gf F hP in_X1_unlikeIn_X1 0 rfl rfl 2 (by decide) 1 rfl rfl dX1_unlikeIn_14 ?_
      refine lv_icmp_ge (tgt := 46) hx hb dX1_unlikeIn_17 (by decide) (fun c2 => ?_) (fun c2 => ?_)
      · replace hf := (if_pos c2).symm.trans hf
        refine lv_iload_n hx hb dX1_unlikeIn_46 rfl (lv_at hl 3 rfl) ?_
        replace hf : (some x3 : Option (Int32)) = some rr := hf
        cases hf
        exact ret_i F hP hS dX1_unlikeIn_47
      · replace hf := (if_neg c2).symm.trans hf
        refine lv_aload_n hx hb dX1_unlikeIn_20 rfl (lv_at hl 0 rfl) ?_
        refine lv_iload_n hx hb dX1_unlikeIn_21 rfl (lv_at hl 1 rfl) ?_
        refine lv_iload hx hb dX1_unlikeIn_22 (lv_at hl 4 rfl) ?_
        obtain ⟨v3, e4, hf⟩ := bnd hf
        refine cV F hP hD hS (k_X1_thingIn l ad_t t_kinds t_now_worths t_now_made t_now_heardOf t_now_heardThing t_now_heardOther t_now_heardMore t_now_lie t_now_changes t_now_heard t_heirs x1 x4 e4) gX1_unlikeIn_X1_thingIn rfl ⟨rfl, rfl⟩ nd_X1_thingIn ⟨Nat.le_of_ble_eq_true rfl, Nat.le_of_ble_eq_true rfl⟩ 0 1 rfl rfl rfl hl.1 rfl (Nat.le_of_ble_eq_true rfl) dX1_unlikeIn_24 (pm0 (w_X1 cI cB ad_t t_kinds t_now_worths t_now_made t_now_heardOf t_now_heardThing t_now_heardOther t_now_heardMore t_now_lie t_now_changes t_now_heard t_heirs)) (pm0 (w_X1 cI cB ad_t t_kinds t_now_worths t_now_made t_now_heardOf t_now_heardThing t_now_heardOther t_now_heardMore t_now_lie t_now_changes t_now_heard t_heirs)) (fun H locs hP hD hS => ?_)
        refine lv_aload_n hx hb dX1_unlikeIn_27 rfl (lv_at hl 0 rfl) ?_
        refine lv_iload_n hx hb dX1_unlikeIn_28 rfl (lv_at hl 2 rfl) ?_
        refine lv_iload hx hb dX1_unlikeIn_29 (lv_at hl 4 rfl) ?_
        obtain ⟨v5, e6, hf⟩ := bnd hf
        refine cV F hP hD hS (k_X1_thingIn l ad_t t_kinds t_now_worths t_now_made t_now_heardOf t_now_heardThing t_now_heardOther t_now_heardMore t_now_lie t_now_changes t_now_heard t_heirs x2 x4 e6) gX1_unlikeIn_X1_thingIn rfl ⟨rfl, rfl⟩ nd_X1_thingIn ⟨Nat.le_of_ble_eq_true rfl, Nat.le_of_ble_eq_true rfl⟩ 0 1 rfl rfl rfl hl.1 rfl (Nat.le_of_ble_eq_true rfl) dX1_unlikeIn_31 (pm0 (w_X1 cI cB ad_t t_kinds t_now_worths t_now_made t_now_heardOf t_now_heardThing t_now_heardOther t_now_heardMore t_now_lie t_now_changes t_now_heard t_heirs)) (pm0 (w_X1 cI cB ad_t t_kinds t_now_worths t_now_made t_now_heardOf t_now_heardThing t_now_heardOther t_now_heardMore t_now_lie t_now_changes t_now_heard t_heirs)) (fun H locs hP hD hS => ?_)
        refine lv_icmp_eq (tgt := 40) hx hb dX1_unlikeIn_34 (by decide) (fun c7 => ?_) (fun c7 => ?_)
        · replace hf := (if_pos c7).symm.trans hf
          refine lv_iinc (v := (x4 + 1)) (lv' := [(4, .int (x4 + 1)), (0, .ref (ad_t 0)), (1, .int x1), (2, .int x2), (3, .int x3)]) hx hb dX1_unlikeIn_40 hl (k := 4) rfl rfl (by decide) rfl (fun ls hl => ?_)
          refine lv_goto (tgt := 5) hx hb dX1_unlikeIn_43 (by decide) ?_
          exact ih x1 x2 x3 (x4 + 1) H locs ls hP hD hS (lv_sub hl [1, 2, 3, 4, 0] rfl) hf
        · replace hf := (if_neg c7).symm.trans hf
          refine lv_iinc (v := (x3 + 1)) (lv' := [(3, .int (x3 + 1)), (0, .ref (ad_t 0)), (1, .int x1), (2, .int x2), (4, .int x4)]) hx hb dX1_unlikeIn_37 hl (k := 3) rfl rfl (by decide) rfl (fun ls hl => ?_)
          refine lv_iinc (v := (x4 + 1)) (lv' := [(4, .int (x4 + 1)), (3, .int (x3 + 1)), (0, .ref (ad_t 0)), (1, .int x1), (2, .int x2)]) hx hb dX1_unlikeIn_40 hl (k := 4) rfl rfl (by decide) rfl (fun ls hl => ?_)
          refine lv_goto (tgt := 5) hx hb dX1_unlikeIn_43 (by decide) ?_
          exact ih x1 x2 (x3 + 1) (x4 + 1) H locs ls hP hD hS (lv_sub hl [2, 3, 4, 1, 0] rfl) hf

set_option maxHeartbeats 4000000 in
set_option maxRecDepth 100000 in
theorem k_X1_unlikeIn (l : Launch) {D : va_G} {cI cB : ClassId} {kK kV : Nat → Nat} (ad_t : Nat → Nat) (t_kinds : Nat → Int32) (t_now_worths : Nat → Int32) (t_now_made : Nat → Int32) (t_now_heardOf : Nat → Int32) (t_now_heardThing : Nat → Int32) (t_now_heardOther : Nat → Int32) (t_now_heardMore : Nat → Int32) (t_now_lie : Int32) (t_now_changes : Int32) (t_now_heard : Int32) (t_heirs : Int32) (x1 : Int32) (x2 : Int32) {rr : Int32}  (hf : f_X1_unlikeIn t_heirs x1 x2 = some rr) : Ct l yX1_unlikeIn wsX1_unlikeIn rm_X1_unlikeIn D cI cB kK kV [.ref (ad_t 0), .int x1, .int x2] (w_X1 cI cB ad_t t_kinds t_now_worths t_now_made t_now_heardOf t_now_heardThing t_now_heardOther t_now_heardMore t_now_lie t_now_changes t_now_heard t_heirs) (w_X1 cI cB ad_t t_kinds t_now_worths t_now_made t_now_heardOf t_now_heardThing t_now_heardOther t_now_heardMore t_now_lie t_now_changes t_now_heard t_heirs) (some (.int rr)) := by
  refine Ct.of (cc := cX1_unlikeIn) (maxL := 5) (ret := (some .int)) (by decide) rfl (Nat.le_of_ble_eq_true rfl) rfl ?_
  intro p e s m below meth c A ls F hP hD hS hl
  have hl : lv_has ls 5 [(0, .ref (ad_t 0)), (1, .int x1), (2, .int x2)] := hl
  obtain ⟨hx, hb, hml, hown, hts, hrt, hlocks, hK, hA, hZ⟩ := id F
  obtain ⟨H, hH⟩ : ∃ H, H = s.heap := ⟨_, rfl⟩
  obtain ⟨locs, hLo⟩ : ∃ q : List Loc, q = [] := ⟨_, rfl⟩
  refine (?_ : W p l e rm_X1_unlikeIn s m _ below meth c s.heap [] 0 0 _ _)
  rw [← hH, ← hLo]
  rw [← hH] at hP
  have hS : va_S A s.heap H locs := by rw [hH, hLo]; exact hS
  refine lv_iconst (v := 0) hx hb dX1_unlikeIn_0 (by decide) ?_
  refine lv_istore_n (lv' := [(3, .int 0), (0, .ref (ad_t 0)), (1, .int x1), (2, .int x2)]) hx hb dX1_unlikeIn_1 rfl hl (by decide) rfl (fun ls hl => ?_)
  refine lv_iconst (v := 0) hx hb dX1_unlikeIn_2 (by decide) ?_
  refine lv_istore (lv' := [(4, .int 0), (3, .int 0), (0, .ref (ad_t 0)), (1, .int x1), (2, .int x2)]) hx hb dX1_unlikeIn_3 hl (by decide) rfl (fun ls hl => ?_)
  exact b_X1_unlikeIn_5 F 300 x1 x2 0 0 H locs ls hP hD hS (lv_sub hl [2, 3, 4, 1, 0] rfl) hf

/-! X1_worthIn -/
def rm_X1_worthIn : Room := { frames := 1, cells := 0, slots := 0, locals := 23 }
theorem in_X1_worthIn_X1 : ∀ w ∈ u_ws RX1 TX1 3, w ∈ wsX1_worthIn := fun _ h => List.mem_cons_of_mem _ (List.mem_append_left _ (List.mem_append_left _ (List.mem_append_right _ (h))))
theorem in_X1_worthIn_X4 : ∀ w ∈ u_ws RX4 TX4 9, w ∈ wsX1_worthIn := fun _ h => List.mem_cons_of_mem _ (List.mem_append_left _ (List.mem_append_right _ (h)))
theorem nd_X1_worthIn : yX1_worthIn.cls = RX1 ∧ yX1_worthIn.cls ≠ "java/lang/invoke/MethodHandle" ∧ yX1_worthIn.cls ≠ "java/lang/invoke/VarHandle" ∧ (parseMethodDescriptor yX1_worthIn.desc).map (fun d => d.parameters.length) = some 2 := by decide +kernel
def f_X1_worthIn (t_now_worths : Nat → Int32) (t_heirs : Int32) (x1 : Int32) (x2 : Int32) : Option (Int32) := (f_X1_thingIn t_heirs x1 x2).bind (fun v1 => (f_X5_at t_now_worths x2 v1).bind (fun v3 => some v3))
set_option maxHeartbeats 4000000 in
set_option maxRecDepth 100000 in
theorem k_X1_worthIn (l : Launch) {D : va_G} {cI cB : ClassId} {kK kV : Nat → Nat} (ad_t : Nat → Nat) (t_kinds : Nat → Int32) (t_now_worths : Nat → Int32) (t_now_made : Nat → Int32) (t_now_heardOf : Nat → Int32) (t_now_heardThing : Nat → Int32) (t_now_heardOther : Nat → Int32) (t_now_heardMore : Nat → Int32) (t_now_lie : Int32) (t_now_changes : Int32) (t_now_heard : Int32) (t_heirs : Int32) (x1 : Int32) (x2 : Int32) {rr : Int32}  (hf : f_X1_worthIn t_now_worths t_heirs x1 x2 = some rr) : Ct l yX1_worthIn wsX1_worthIn rm_X1_worthIn D cI cB kK kV [.ref (ad_t 0), .int x1, .int x2] (w_X1 cI cB ad_t t_kinds t_now_worths t_now_made t_now_heardOf t_now_heardThing t_now_heardOther t_now_heardMore t_now_lie t_now_changes t_now_heard t_heirs) (w_X1 cI cB ad_t t_kinds t_now_worths t_now_made t_now_heardOf t_now_heardThing t_now_heardOther t_now_heardMore t_now_lie t_now_changes t_now_heard t_heirs) (some (.int rr)) := by
  refine Ct.of (cc := cX1_worthIn) (maxL := 3) (ret := (some .int)) (by decide) rfl (Nat.le_of_ble_eq_true rfl) rfl ?_
  intro p e s m below meth c A ls F hP hD hS hl
  have hl : lv_has ls 3 [(0, .ref (ad_t 0)), (1, .int x1), (2, .int x2)] := hl
  obtain ⟨hx, hb, hml, hown, hts, hrt, hlocks, hK, hA, hZ⟩ := id F
  obtain ⟨H, hH⟩ : ∃ H, H = s.heap := ⟨_, rfl⟩
  obtain ⟨locs, hLo⟩ : ∃ q : List Loc, q = [] := ⟨_, rfl⟩
  refine (?_ : W p l e rm_X1_worthIn s m _ below meth c s.heap [] 0 0 _ _)
  rw [← hH, ← hLo]
  rw [← hH] at hP
  have hS : va_S A s.heap H locs := by rw [hH, hLo]; exact hS
  refine lv_aload_n hx hb dX1_worthIn_0 rfl (lv_at hl 0 rfl) ?_
  refine gf F hP in_X1_worthIn_X1 0 rfl rfl 1 (by decide) 1 rfl rfl dX1_worthIn_1 ?_
  refine gfN F hP in_X1_worthIn_X4 3 rfl rfl 0 (by decide) 17 rfl rfl dX1_worthIn_4 ?_
  refine lv_iload_n hx hb dX1_worthIn_7 rfl (lv_at hl 2 rfl) ?_
  refine lv_aload_n hx hb dX1_worthIn_8 rfl (lv_at hl 0 rfl) ?_
  refine lv_iload_n hx hb dX1_worthIn_9 rfl (lv_at hl 1 rfl) ?_
  refine lv_iload_n hx hb dX1_worthIn_10 rfl (lv_at hl 2 rfl) ?_
  obtain ⟨v1, e2, hf⟩ := bnd hf
  refine cV F hP hD hS (k_X1_thingIn l ad_t t_kinds t_now_worths t_now_made t_now_heardOf t_now_heardThing t_now_heardOther t_now_heardMore t_now_lie t_now_changes t_now_heard t_heirs x1 x2 e2) gX1_worthIn_X1_thingIn rfl ⟨rfl, rfl⟩ nd_X1_thingIn ⟨Nat.le_of_ble_eq_true rfl, Nat.le_of_ble_eq_true rfl⟩ 0 1 rfl rfl rfl hl.1 rfl (Nat.le_of_ble_eq_true rfl) dX1_worthIn_11 (pm0 (w_X1 cI cB ad_t t_kinds t_now_worths t_now_made t_now_heardOf t_now_heardThing t_now_heardOther t_now_heardMore t_now_lie t_now_changes t_now_heard t_heirs)) (pm0 (w_X1 cI cB ad_t t_kinds t_now_worths t_now_made t_now_heardOf t_now_heardThing t_now_heardOther t_now_heardMore t_now_lie t_now_changes t_now_heard t_heirs)) (fun H locs hP hD hS => ?_)
  obtain ⟨v3, e4, hf⟩ := bnd hf
  refine cV F hP hD hS (k_X5_at l (sh ad_t 4) t_now_worths x2 v1 e4) gX1_worthIn_X5_at rfl ⟨rfl, rfl⟩ nd_X5_at ⟨Nat.le_of_ble_eq_true rfl, Nat.le_of_ble_eq_true rfl⟩ 4 5 rfl rfl rfl hl.1 rfl (Nat.le_of_ble_eq_true rfl) dX1_worthIn_14 (pm1 (ws := (w_X1 cI cB ad_t t_kinds t_now_worths t_now_made t_now_heardOf t_now_heardThing t_now_heardOther t_now_heardMore t_now_lie t_now_changes t_now_heard t_heirs)) (X := List.take 4 (w_X1 cI cB ad_t t_kinds t_now_worths t_now_made t_now_heardOf t_now_heardThing t_now_heardOther t_now_heardMore t_now_lie t_now_changes t_now_heard t_heirs)) (Y := List.drop 6 (w_X1 cI cB ad_t t_kinds t_now_worths t_now_made t_now_heardOf t_now_heardThing t_now_heardOther t_now_heardMore t_now_lie t_now_changes t_now_heard t_heirs)) rfl) (pm1 (ws := (w_X1 cI cB ad_t t_kinds t_now_worths t_now_made t_now_heardOf t_now_heardThing t_now_heardOther t_now_heardMore t_now_lie t_now_changes t_now_heard t_heirs)) (X := List.take 4 (w_X1 cI cB ad_t t_kinds t_now_worths t_now_made t_now_heardOf t_now_heardThing t_now_heardOther t_now_heardMore t_now_lie t_now_changes t_now_heard t_heirs)) (Y := List.drop 6 (w_X1 cI cB ad_t t_kinds t_now_worths t_now_made t_now_heardOf t_now_heardThing t_now_heardOther t_now_heardMore t_now_lie t_now_changes t_now_heard t_heirs)) rfl) (fun H locs hP hD hS => ?_)
  replace hf : (some v3 : Option (Int32)) = some rr := hf
  cases hf
  exact ret_i F hP hS dX1_worthIn_17

/-! X1_sumOf -/
def rm_X1_sumOf : Room := { frames := 2, cells := 0, slots := 0, locals := 45 }
theorem in_X1_sumOf_X1 : ∀ w ∈ u_ws RX1 TX1 3, w ∈ wsX1_sumOf := fun _ h => List.mem_cons_of_mem _ (List.mem_append_left _ (List.mem_append_left _ (List.mem_append_right _ (h))))
theorem nd_X1_sumOf : yX1_sumOf.cls = RX1 ∧ yX1_sumOf.cls ≠ "java/lang/invoke/MethodHandle" ∧ yX1_sumOf.cls ≠ "java/lang/invoke/VarHandle" ∧ (parseMethodDescriptor yX1_sumOf.desc).map (fun d => d.parameters.length) = some 1 := by decide +kernel
def f_X1_sumOf_4 (t_now_worths : Nat → Int32) (t_heirs : Int32)  : Nat → Int32 → Int32 → Int32 → Option (Int32)
  | 0, _, _, _ => none
  | n + 1, x1, x2, x3 => (if 4 ≤ x3 then some x2 else (if t_heirs ≤ x3 then some x2 else (f_X1_worthIn t_now_worths t_heirs x1 x3).bind (fun v3 => f_X1_sumOf_4 t_now_worths t_heirs  n x1 (x2 + v3) (x3 + 1))))
def f_X1_sumOf (t_now_worths : Nat → Int32) (t_heirs : Int32) (x1 : Int32) : Option (Int32) := f_X1_sumOf_4 t_now_worths t_heirs 300 x1 0 0
set_option maxHeartbeats 4000000 in
set_option maxRecDepth 100000 in
theorem b_X1_sumOf_4 {p : Program} {l : Launch} {e : Env} {s : State} {m : MethodId} {args : Array Value} {below : List Frame} {meth : Method} {c : Code} {D : va_G} {cI cB : ClassId} {kK kV : Nat → Nat} {A : Nat → Prop} (F : Fx p m c s meth args cX1_sumOf 4 RX1 wsX1_sumOf (some .int) D cI cB kK kV A) {ad_t : Nat → Nat} {t_kinds : Nat → Int32} {t_now_worths : Nat → Int32} {t_now_made : Nat → Int32} {t_now_heardOf : Nat → Int32} {t_now_heardThing : Nat → Int32} {t_now_heardOther : Nat → Int32} {t_now_heardMore : Nat → Int32} {t_now_lie : Int32} {t_now_changes : Int32} {t_now_heard : Int32} {t_heirs : Int32} {rr : Int32}  : ∀ (n : Nat), ∀ (x1 : Int32) (x2 : Int32) (x3 : Int32) (H : Heap) (locs : List Loc) (ls : Array Slot), va_P D vwCl (w_X1 cI cB ad_t t_kinds t_now_worths t_now_made t_now_heardOf t_now_heardThing t_now_heardOther t_now_heardMore t_now_lie t_now_changes t_now_heard t_heirs) H → va_D A (w_X1 cI cB ad_t t_kinds t_now_worths t_now_made t_now_heardOf t_now_heardThing t_now_heardOther t_now_heardMore t_now_lie t_now_changes t_now_heard t_heirs) → va_S A s.heap H locs → lv_has ls 4 [(0, .ref (ad_t 0)), (1, .int x1), (2, .int x2), (3, .int x3)] → f_X1_sumOf_4 t_now_worths t_heirs  n x1 x2 x3 = some rr → W p l e rm_X1_sumOf s m args below meth c H locs 0 0 (Zq D below args s A (w_X1 cI cB ad_t t_kinds t_now_worths t_now_made t_now_heardOf t_now_heardThing t_now_heardOther t_now_heardMore t_now_lie t_now_changes t_now_heard t_heirs) (some (.int rr))) (F0 m 4 ls []) := by
  obtain ⟨hx, hb, hml, hown, hts, hrt, hlocks, hK, hA, hZ⟩ := id F
  intro n
  induction n with
  | zero =>
    intro x1 x2 x3 H locs ls hP hD hS hl hf
    cases hf
  | succ n ih =>
    intro x1 x2 x3 H locs ls hP hD hS hl hf
    refine lv_iload_n hx hb dX1_sumOf_4 rfl (lv_at hl 3 rfl) ?_
    refine lv_iconst (v := 4) hx hb dX1_sumOf_5 (by decide) ?_
    refine lv_icmp_ge (tgt := 32) hx hb dX1_sumOf_6 (by decide) (fun c1 => ?_) (fun c1 => ?_)
    · replace hf := (if_pos c1).symm.trans hf
      refine lv_iload_n hx hb dX1_sumOf_32 rfl (lv_at hl 2 rfl) ?_
      replace hf : (some x2 : Option (Int32)) = some rr := hf
      cases hf
      exact ret_i F hP hS dX1_sumOf_33
    · replace hf := (if_neg c1).symm.trans hf
      refine lv_iload_n hx hb dX1_sumOf_9 rfl (lv_at hl 3 rfl) ?_
      refine lv_aload_n hx hb dX1_sumOf_10 rfl (lv_at hl 0 rfl) ?_
      refine gf F hP in_X1_sumOf_X1 0 rfl rfl 2 (by decide) 1 rfl rfl dX1_sumOf_11 ?_
      refine lv_icmp_ge (tgt := 32) hx hb dX1_sumOf_14 (by decide) (fun c2 => ?_) (fun c2 => ?_)
      · replace hf := (if_pos c2).symm.trans hf
        refine lv_iload_n hx hb dX1_sumOf_32 rfl (lv_at hl 2 rfl) ?_
        replace hf : (some x2 : Option (Int32)) = some rr := hf
        cases hf
        exact ret_i F hP hS dX1_sumOf_33
      · replace hf := (if_neg c2).symm.trans hf
        refine lv_iload_n hx hb dX1_sumOf_17 rfl (lv_at hl 2 rfl) ?_
        refine lv_aload_n hx hb dX1_sumOf_18 rfl (lv_at hl 0 rfl) ?_
        refine lv_iload_n hx hb dX1_sumOf_19 rfl (lv_at hl 1 rfl) ?_
        refine lv_iload_n hx hb dX1_sumOf_20 rfl (lv_at hl 3 rfl) ?_
        obtain ⟨v3, e4, hf⟩ := bnd hf
        refine cV F hP hD hS (k_X1_worthIn l ad_t t_kinds t_now_worths t_now_made t_now_heardOf t_now_heardThing t_now_heardOther t_now_heardMore t_now_lie t_now_changes t_now_heard t_heirs x1 x3 e4) gX1_sumOf_X1_worthIn rfl ⟨rfl, rfl⟩ nd_X1_worthIn ⟨Nat.le_of_ble_eq_true rfl, Nat.le_of_ble_eq_true rfl⟩ 0 1 rfl rfl rfl hl.1 rfl (Nat.le_of_ble_eq_true rfl) dX1_sumOf_21 (pm0 (w_X1 cI cB ad_t t_kinds t_now_worths t_now_made t_now_heardOf t_now_heardThing t_now_heardOther t_now_heardMore t_now_lie t_now_changes t_now_heard t_heirs)) (pm0 (w_X1 cI cB ad_t t_kinds t_now_worths t_now_made t_now_heardOf t_now_heardThing t_now_heardOther t_now_heardMore t_now_lie t_now_changes t_now_heard t_heirs)) (fun H locs hP hD hS => ?_)
        refine lv_iadd hx hb dX1_sumOf_24 ?_
        refine lv_istore_n (lv' := [(2, .int (x2 + v3)), (0, .ref (ad_t 0)), (1, .int x1), (3, .int x3)]) hx hb dX1_sumOf_25 rfl hl (by decide) rfl (fun ls hl => ?_)
        refine lv_iinc (v := (x3 + 1)) (lv' := [(3, .int (x3 + 1)), (2, .int (x2 + v3)), (0, .ref (ad_t 0)), (1, .int x1)]) hx hb dX1_sumOf_26 hl (k := 3) rfl rfl (by decide) rfl (fun ls hl => ?_)
        refine lv_goto (tgt := 4) hx hb dX1_sumOf_29 (by decide) ?_
        exact ih x1 (x2 + v3) (x3 + 1) H locs ls hP hD hS (lv_sub hl [2, 3, 1, 0] rfl) hf

set_option maxHeartbeats 4000000 in
set_option maxRecDepth 100000 in
theorem k_X1_sumOf (l : Launch) {D : va_G} {cI cB : ClassId} {kK kV : Nat → Nat} (ad_t : Nat → Nat) (t_kinds : Nat → Int32) (t_now_worths : Nat → Int32) (t_now_made : Nat → Int32) (t_now_heardOf : Nat → Int32) (t_now_heardThing : Nat → Int32) (t_now_heardOther : Nat → Int32) (t_now_heardMore : Nat → Int32) (t_now_lie : Int32) (t_now_changes : Int32) (t_now_heard : Int32) (t_heirs : Int32) (x1 : Int32) {rr : Int32}  (hf : f_X1_sumOf t_now_worths t_heirs x1 = some rr) : Ct l yX1_sumOf wsX1_sumOf rm_X1_sumOf D cI cB kK kV [.ref (ad_t 0), .int x1] (w_X1 cI cB ad_t t_kinds t_now_worths t_now_made t_now_heardOf t_now_heardThing t_now_heardOther t_now_heardMore t_now_lie t_now_changes t_now_heard t_heirs) (w_X1 cI cB ad_t t_kinds t_now_worths t_now_made t_now_heardOf t_now_heardThing t_now_heardOther t_now_heardMore t_now_lie t_now_changes t_now_heard t_heirs) (some (.int rr)) := by
  refine Ct.of (cc := cX1_sumOf) (maxL := 4) (ret := (some .int)) (by decide) rfl (Nat.le_of_ble_eq_true rfl) rfl ?_
  intro p e s m below meth c A ls F hP hD hS hl
  have hl : lv_has ls 4 [(0, .ref (ad_t 0)), (1, .int x1)] := hl
  obtain ⟨hx, hb, hml, hown, hts, hrt, hlocks, hK, hA, hZ⟩ := id F
  obtain ⟨H, hH⟩ : ∃ H, H = s.heap := ⟨_, rfl⟩
  obtain ⟨locs, hLo⟩ : ∃ q : List Loc, q = [] := ⟨_, rfl⟩
  refine (?_ : W p l e rm_X1_sumOf s m _ below meth c s.heap [] 0 0 _ _)
  rw [← hH, ← hLo]
  rw [← hH] at hP
  have hS : va_S A s.heap H locs := by rw [hH, hLo]; exact hS
  refine lv_iconst (v := 0) hx hb dX1_sumOf_0 (by decide) ?_
  refine lv_istore_n (lv' := [(2, .int 0), (0, .ref (ad_t 0)), (1, .int x1)]) hx hb dX1_sumOf_1 rfl hl (by decide) rfl (fun ls hl => ?_)
  refine lv_iconst (v := 0) hx hb dX1_sumOf_2 (by decide) ?_
  refine lv_istore_n (lv' := [(3, .int 0), (2, .int 0), (0, .ref (ad_t 0)), (1, .int x1)]) hx hb dX1_sumOf_3 rfl hl (by decide) rfl (fun ls hl => ?_)
  exact b_X1_sumOf_4 F 300 x1 0 0 H locs ls hP hD hS (lv_sub hl [2, 3, 1, 0] rfl) hf

/-! X1_isContent -/
def rm_X1_isContent : Room := { frames := 2, cells := 0, slots := 0, locals := 45 }
theorem nd_X1_isContent : yX1_isContent.cls = RX1 ∧ yX1_isContent.cls ≠ "java/lang/invoke/MethodHandle" ∧ yX1_isContent.cls ≠ "java/lang/invoke/VarHandle" ∧ (parseMethodDescriptor yX1_isContent.desc).map (fun d => d.parameters.length) = some 2 := by decide +kernel
def f_X1_isContent (t_now_worths : Nat → Int32) (t_heirs : Int32) (x1 : Int32) (x2 : Int32) : Option (Int32) := (f_X1_worthIn t_now_worths t_heirs x1 x2).bind (fun v1 => (if v1 < 5 then some 0 else some 1))
set_option maxHeartbeats 4000000 in
set_option maxRecDepth 100000 in
theorem k_X1_isContent (l : Launch) {D : va_G} {cI cB : ClassId} {kK kV : Nat → Nat} (ad_t : Nat → Nat) (t_kinds : Nat → Int32) (t_now_worths : Nat → Int32) (t_now_made : Nat → Int32) (t_now_heardOf : Nat → Int32) (t_now_heardThing : Nat → Int32) (t_now_heardOther : Nat → Int32) (t_now_heardMore : Nat → Int32) (t_now_lie : Int32) (t_now_changes : Int32) (t_now_heard : Int32) (t_heirs : Int32) (x1 : Int32) (x2 : Int32) {rr : Int32}  (hf : f_X1_isContent t_now_worths t_heirs x1 x2 = some rr) : Ct l yX1_isContent wsX1_isContent rm_X1_isContent D cI cB kK kV [.ref (ad_t 0), .int x1, .int x2] (w_X1 cI cB ad_t t_kinds t_now_worths t_now_made t_now_heardOf t_now_heardThing t_now_heardOther t_now_heardMore t_now_lie t_now_changes t_now_heard t_heirs) (w_X1 cI cB ad_t t_kinds t_now_worths t_now_made t_now_heardOf t_now_heardThing t_now_heardOther t_now_heardMore t_now_lie t_now_changes t_now_heard t_heirs) (some (.int rr)) := by
  refine Ct.of (cc := cX1_isContent) (maxL := 3) (ret := (some .boolean)) (by decide) rfl (Nat.le_of_ble_eq_true rfl) rfl ?_
  intro p e s m below meth c A ls F hP hD hS hl
  have hl : lv_has ls 3 [(0, .ref (ad_t 0)), (1, .int x1), (2, .int x2)] := hl
  obtain ⟨hx, hb, hml, hown, hts, hrt, hlocks, hK, hA, hZ⟩ := id F
  obtain ⟨H, hH⟩ : ∃ H, H = s.heap := ⟨_, rfl⟩
  obtain ⟨locs, hLo⟩ : ∃ q : List Loc, q = [] := ⟨_, rfl⟩
  refine (?_ : W p l e rm_X1_isContent s m _ below meth c s.heap [] 0 0 _ _)
  rw [← hH, ← hLo]
  rw [← hH] at hP
  have hS : va_S A s.heap H locs := by rw [hH, hLo]; exact hS
  refine lv_aload_n hx hb dX1_isContent_0 rfl (lv_at hl 0 rfl) ?_
  refine lv_iload_n hx hb dX1_isContent_1 rfl (lv_at hl 1 rfl) ?_
  refine lv_iload_n hx hb dX1_isContent_2 rfl (lv_at hl 2 rfl) ?_
  obtain ⟨v1, e2, hf⟩ := bnd hf
  refine cV F hP hD hS (k_X1_worthIn l ad_t t_kinds t_now_worths t_now_made t_now_heardOf t_now_heardThing t_now_heardOther t_now_heardMore t_now_lie t_now_changes t_now_heard t_heirs x1 x2 e2) gX1_isContent_X1_worthIn rfl ⟨rfl, rfl⟩ nd_X1_worthIn ⟨Nat.le_of_ble_eq_true rfl, Nat.le_of_ble_eq_true rfl⟩ 0 1 rfl rfl rfl hl.1 rfl (Nat.le_of_ble_eq_true rfl) dX1_isContent_3 (pm0 (w_X1 cI cB ad_t t_kinds t_now_worths t_now_made t_now_heardOf t_now_heardThing t_now_heardOther t_now_heardMore t_now_lie t_now_changes t_now_heard t_heirs)) (pm0 (w_X1 cI cB ad_t t_kinds t_now_worths t_now_made t_now_heardOf t_now_heardThing t_now_heardOther t_now_heardMore t_now_lie t_now_changes t_now_heard t_heirs)) (fun H locs hP hD hS => ?_)
  refine lv_iconst (v := 5) hx hb dX1_isContent_6 (by decide) ?_
  refine lv_icmp_lt (tgt := 14) hx hb dX1_isContent_7 (by decide) (fun c3 => ?_) (fun c3 => ?_)
  · replace hf := (if_pos c3).symm.trans hf
    refine lv_iconst (v := 0) hx hb dX1_isContent_14 (by decide) ?_
    replace hf : (some 0 : Option (Int32)) = some rr := hf
    cases hf
    exact ret_z F rfl hP hS dX1_isContent_15
  · replace hf := (if_neg c3).symm.trans hf
    refine lv_iconst (v := 1) hx hb dX1_isContent_10 (by decide) ?_
    refine lv_goto (tgt := 15) hx hb dX1_isContent_11 (by decide) ?_
    replace hf : (some 1 : Option (Int32)) = some rr := hf
    cases hf
    exact ret_z F rfl hP hS dX1_isContent_15

/-! X1_contentIn -/
def rm_X1_contentIn : Room := { frames := 3, cells := 0, slots := 0, locals := 67 }
theorem in_X1_contentIn_X1 : ∀ w ∈ u_ws RX1 TX1 3, w ∈ wsX1_contentIn := fun _ h => List.mem_cons_of_mem _ (List.mem_append_left _ (List.mem_append_left _ (List.mem_append_right _ (h))))
theorem nd_X1_contentIn : yX1_contentIn.cls = RX1 ∧ yX1_contentIn.cls ≠ "java/lang/invoke/MethodHandle" ∧ yX1_contentIn.cls ≠ "java/lang/invoke/VarHandle" ∧ (parseMethodDescriptor yX1_contentIn.desc).map (fun d => d.parameters.length) = some 1 := by decide +kernel
def f_X1_contentIn_4 (t_now_worths : Nat → Int32) (t_heirs : Int32)  : Nat → Int32 → Int32 → Int32 → Option (Int32)
  | 0, _, _, _ => none
  | n + 1, x1, x2, x3 => (if 4 ≤ x3 then some x2 else (if t_heirs ≤ x3 then some x2 else (f_X1_isContent t_now_worths t_heirs x1 x3).bind (fun v3 => (if v3 = 0 then f_X1_contentIn_4 t_now_worths t_heirs  n x1 x2 (x3 + 1) else f_X1_contentIn_4 t_now_worths t_heirs  n x1 (x2 + 1) (x3 + 1)))))
def f_X1_contentIn (t_now_worths : Nat → Int32) (t_heirs : Int32) (x1 : Int32) : Option (Int32) := f_X1_contentIn_4 t_now_worths t_heirs 300 x1 0 0
set_option maxHeartbeats 4000000 in
set_option maxRecDepth 100000 in
theorem b_X1_contentIn_4 {p : Program} {l : Launch} {e : Env} {s : State} {m : MethodId} {args : Array Value} {below : List Frame} {meth : Method} {c : Code} {D : va_G} {cI cB : ClassId} {kK kV : Nat → Nat} {A : Nat → Prop} (F : Fx p m c s meth args cX1_contentIn 4 RX1 wsX1_contentIn (some .int) D cI cB kK kV A) {ad_t : Nat → Nat} {t_kinds : Nat → Int32} {t_now_worths : Nat → Int32} {t_now_made : Nat → Int32} {t_now_heardOf : Nat → Int32} {t_now_heardThing : Nat → Int32} {t_now_heardOther : Nat → Int32} {t_now_heardMore : Nat → Int32} {t_now_lie : Int32} {t_now_changes : Int32} {t_now_heard : Int32} {t_heirs : Int32} {rr : Int32}  : ∀ (n : Nat), ∀ (x1 : Int32) (x2 : Int32) (x3 : Int32) (H : Heap) (locs : List Loc) (ls : Array Slot), va_P D vwCl (w_X1 cI cB ad_t t_kinds t_now_worths t_now_made t_now_heardOf t_now_heardThing t_now_heardOther t_now_heardMore t_now_lie t_now_changes t_now_heard t_heirs) H → va_D A (w_X1 cI cB ad_t t_kinds t_now_worths t_now_made t_now_heardOf t_now_heardThing t_now_heardOther t_now_heardMore t_now_lie t_now_changes t_now_heard t_heirs) → va_S A s.heap H locs → lv_has ls 4 [(0, .ref (ad_t 0)), (1, .int x1), (2, .int x2), (3, .int x3)] → f_X1_contentIn_4 t_now_worths t_heirs  n x1 x2 x3 = some rr → W p l e rm_X1_contentIn s m args below meth c H locs 0 0 (Zq D below args s A (w_X1 cI cB ad_t t_kinds t_now_worths t_now_made t_now_heardOf t_now_heardThing t_now_heardOther t_now_heardMore t_now_lie t_now_changes t_now_heard t_heirs) (some (.int rr))) (F0 m 4 ls []) := by
  obtain ⟨hx, hb, hml, hown, hts, hrt, hlocks, hK, hA, hZ⟩ := id F
  intro n
  induction n with
  | zero =>
    intro x1 x2 x3 H locs ls hP hD hS hl hf
    cases hf
  | succ n ih =>
    intro x1 x2 x3 H locs ls hP hD hS hl hf
    refine lv_iload_n hx hb dX1_contentIn_4 rfl (lv_at hl 3 rfl) ?_
    refine lv_iconst (v := 4) hx hb dX1_contentIn_5 (by decide) ?_
    refine lv_icmp_ge (tgt := 35) hx hb dX1_contentIn_6 (by decide) (fun c1 => ?_) (fun c1 => ?_)
    · replace hf := (if_pos c1).symm.trans hf
      refine lv_iload_n hx hb dX1_contentIn_35 rfl (lv_at hl 2 rfl) ?_
      replace hf : (some x2 : Option (Int32)) = some rr := hf
      cases hf
      exact ret_i F hP hS dX1_contentIn_36
    · replace hf := (if_neg c1).symm.trans hf
      refine lv_iload_n hx hb dX1_contentIn_9 rfl (lv_at hl 3 rfl) ?_
      refine lv_aload_n hx hb dX1_contentIn_10 rfl (lv_at hl 0 rfl) ?_
      refine gf F hP in_X1_contentIn_X1 0 rfl rfl 2 (by decide) 1 rfl rfl dX1_contentIn_11 ?_
      refine lv_icmp_ge (tgt := 35) hx hb dX1_contentIn_14 (by decide) (fun c2 => ?_) (fun c2 => ?_)
      · replace hf := (if_pos c2).symm.trans hf
        refine lv_iload_n hx hb dX1_contentIn_35 rfl (lv_at hl 2 rfl) ?_
        replace hf : (some x2 : Option (Int32)) = some rr := hf
        cases hf
        exact ret_i F hP hS dX1_contentIn_36
      · replace hf := (if_neg c2).symm.trans hf
        refine lv_aload_n hx hb dX1_contentIn_17 rfl (lv_at hl 0 rfl) ?_
        refine lv_iload_n hx hb dX1_contentIn_18 rfl (lv_at hl 1 rfl) ?_
        refine lv_iload_n hx hb dX1_contentIn_19 rfl (lv_at hl 3 rfl) ?_
        obtain ⟨v3, e4, hf⟩ := bnd hf
        refine cV F hP hD hS (k_X1_isContent l ad_t t_kinds t_now_worths t_now_made t_now_heardOf t_now_heardThing t_now_heardOther t_now_heardMore t_now_lie t_now_changes t_now_heard t_heirs x1 x3 e4) gX1_contentIn_X1_isContent rfl ⟨rfl, rfl⟩ nd_X1_isContent ⟨Nat.le_of_ble_eq_true rfl, Nat.le_of_ble_eq_true rfl⟩ 0 1 rfl rfl rfl hl.1 rfl (Nat.le_of_ble_eq_true rfl) dX1_contentIn_20 (pm0 (w_X1 cI cB ad_t t_kinds t_now_worths t_now_made t_now_heardOf t_now_heardThing t_now_heardOther t_now_heardMore t_now_lie t_now_changes t_now_heard t_heirs)) (pm0 (w_X1 cI cB ad_t t_kinds t_now_worths t_now_made t_now_heardOf t_now_heardThing t_now_heardOther t_now_heardMore t_now_lie t_now_changes t_now_heard t_heirs)) (fun H locs hP hD hS => ?_)
        refine lv_if_eq (tgt := 29) hx hb dX1_contentIn_23 (by decide) (fun c5 => ?_) (fun c5 => ?_)
        · replace hf := (if_pos c5).symm.trans hf
          refine lv_iinc (v := (x3 + 1)) (lv' := [(3, .int (x3 + 1)), (0, .ref (ad_t 0)), (1, .int x1), (2, .int x2)]) hx hb dX1_contentIn_29 hl (k := 3) rfl rfl (by decide) rfl (fun ls hl => ?_)
          refine lv_goto (tgt := 4) hx hb dX1_contentIn_32 (by decide) ?_
          exact ih x1 x2 (x3 + 1) H locs ls hP hD hS (lv_sub hl [1, 2, 3, 0] rfl) hf
        · replace hf := (if_neg c5).symm.trans hf
          refine lv_iinc (v := (x2 + 1)) (lv' := [(2, .int (x2 + 1)), (0, .ref (ad_t 0)), (1, .int x1), (3, .int x3)]) hx hb dX1_contentIn_26 hl (k := 2) rfl rfl (by decide) rfl (fun ls hl => ?_)
          refine lv_iinc (v := (x3 + 1)) (lv' := [(3, .int (x3 + 1)), (2, .int (x2 + 1)), (0, .ref (ad_t 0)), (1, .int x1)]) hx hb dX1_contentIn_29 hl (k := 3) rfl rfl (by decide) rfl (fun ls hl => ?_)
          refine lv_goto (tgt := 4) hx hb dX1_contentIn_32 (by decide) ?_
          exact ih x1 (x2 + 1) (x3 + 1) H locs ls hP hD hS (lv_sub hl [2, 3, 1, 0] rfl) hf

set_option maxHeartbeats 4000000 in
set_option maxRecDepth 100000 in
theorem k_X1_contentIn (l : Launch) {D : va_G} {cI cB : ClassId} {kK kV : Nat → Nat} (ad_t : Nat → Nat) (t_kinds : Nat → Int32) (t_now_worths : Nat → Int32) (t_now_made : Nat → Int32) (t_now_heardOf : Nat → Int32) (t_now_heardThing : Nat → Int32) (t_now_heardOther : Nat → Int32) (t_now_heardMore : Nat → Int32) (t_now_lie : Int32) (t_now_changes : Int32) (t_now_heard : Int32) (t_heirs : Int32) (x1 : Int32) {rr : Int32}  (hf : f_X1_contentIn t_now_worths t_heirs x1 = some rr) : Ct l yX1_contentIn wsX1_contentIn rm_X1_contentIn D cI cB kK kV [.ref (ad_t 0), .int x1] (w_X1 cI cB ad_t t_kinds t_now_worths t_now_made t_now_heardOf t_now_heardThing t_now_heardOther t_now_heardMore t_now_lie t_now_changes t_now_heard t_heirs) (w_X1 cI cB ad_t t_kinds t_now_worths t_now_made t_now_heardOf t_now_heardThing t_now_heardOther t_now_heardMore t_now_lie t_now_changes t_now_heard t_heirs) (some (.int rr)) := by
  refine Ct.of (cc := cX1_contentIn) (maxL := 4) (ret := (some .int)) (by decide) rfl (Nat.le_of_ble_eq_true rfl) rfl ?_
  intro p e s m below meth c A ls F hP hD hS hl
  have hl : lv_has ls 4 [(0, .ref (ad_t 0)), (1, .int x1)] := hl
  obtain ⟨hx, hb, hml, hown, hts, hrt, hlocks, hK, hA, hZ⟩ := id F
  obtain ⟨H, hH⟩ : ∃ H, H = s.heap := ⟨_, rfl⟩
  obtain ⟨locs, hLo⟩ : ∃ q : List Loc, q = [] := ⟨_, rfl⟩
  refine (?_ : W p l e rm_X1_contentIn s m _ below meth c s.heap [] 0 0 _ _)
  rw [← hH, ← hLo]
  rw [← hH] at hP
  have hS : va_S A s.heap H locs := by rw [hH, hLo]; exact hS
  refine lv_iconst (v := 0) hx hb dX1_contentIn_0 (by decide) ?_
  refine lv_istore_n (lv' := [(2, .int 0), (0, .ref (ad_t 0)), (1, .int x1)]) hx hb dX1_contentIn_1 rfl hl (by decide) rfl (fun ls hl => ?_)
  refine lv_iconst (v := 0) hx hb dX1_contentIn_2 (by decide) ?_
  refine lv_istore_n (lv' := [(3, .int 0), (2, .int 0), (0, .ref (ad_t 0)), (1, .int x1)]) hx hb dX1_contentIn_3 rfl hl (by decide) rfl (fun ls hl => ?_)
  exact b_X1_contentIn_4 F 300 x1 0 0 H locs ls hP hD hS (lv_sub hl [2, 3, 1, 0] rfl) hf

/-! X1_mayIn -/
def rm_X1_mayIn : Room := { frames := 2, cells := 0, slots := 0, locals := 47 }
theorem in_X1_mayIn_X1 : ∀ w ∈ u_ws RX1 TX1 3, w ∈ wsX1_mayIn := fun _ h => List.mem_cons_of_mem _ (List.mem_append_left _ (List.mem_append_left _ (List.mem_append_left _ (List.mem_append_right _ (h)))))
theorem in_X1_mayIn_X4 : ∀ w ∈ u_ws RX4 TX4 9, w ∈ wsX1_mayIn := fun _ h => List.mem_cons_of_mem _ (List.mem_append_left _ (List.mem_append_left _ (List.mem_append_right _ (h))))
theorem nd_X1_mayIn : yX1_mayIn.cls = RX1 ∧ yX1_mayIn.cls ≠ "java/lang/invoke/MethodHandle" ∧ yX1_mayIn.cls ≠ "java/lang/invoke/VarHandle" ∧ (parseMethodDescriptor yX1_mayIn.desc).map (fun d => d.parameters.length) = some 3 := by decide +kernel
def f_X1_mayIn_142 (t_kinds : Nat → Int32) (t_now_worths : Nat → Int32) (t_heirs : Int32)  (k0 : Int32) (k1 : Int32) : Option (Int32) := some (k1 + k0)
def f_X1_mayIn_132 (t_kinds : Nat → Int32) (t_now_worths : Nat → Int32) (t_heirs : Int32)  (x7 : Int32) (k0 : Int32) : Option (Int32) := (if x7 = 0 then f_X1_mayIn_142 t_kinds t_now_worths t_heirs 0 k0 else f_X1_mayIn_142 t_kinds t_now_worths t_heirs 1 k0)
def f_X1_mayIn_120 (t_kinds : Nat → Int32) (t_now_worths : Nat → Int32) (t_heirs : Int32)  (x6 : Int32) (k0 : Int32) : Option (Int32) := (if x6 = 0 then f_X1_mayIn_132 t_kinds t_now_worths t_heirs k0 0 else f_X1_mayIn_132 t_kinds t_now_worths t_heirs k0 2)
def f_X1_mayIn_119 (t_kinds : Nat → Int32) (t_now_worths : Nat → Int32) (t_heirs : Int32)  (x6 : Int32) : Option (Int32) := f_X1_mayIn_120 t_kinds t_now_worths t_heirs x6 0
def f_X1_mayIn_55 (t_kinds : Nat → Int32) (t_now_worths : Nat → Int32) (t_heirs : Int32)  (x2 : Int32) (x3 : Int32) (x4 : Int32) (x5 : Int32) (k0 : Int32) : Option (Int32) := (f_X5_at t_now_worths x2 x5).bind (fun v1 => (f_X5_at t_now_worths x2 x4).bind (fun v3 => (if v1 ≤ v3 then f_X1_mayIn_119 t_kinds t_now_worths t_heirs k0 else (f_X5_at t_now_worths x3 x4).bind (fun v6 => (f_X5_at t_now_worths x3 x5).bind (fun v8 => (if v6 ≤ v8 then f_X1_mayIn_119 t_kinds t_now_worths t_heirs k0 else f_X1_mayIn_120 t_kinds t_now_worths t_heirs k0 1))))))
def f_X1_mayIn_54 (t_kinds : Nat → Int32) (t_now_worths : Nat → Int32) (t_heirs : Int32)  (x2 : Int32) (x3 : Int32) (x4 : Int32) (x5 : Int32) : Option (Int32) := f_X1_mayIn_55 t_kinds t_now_worths t_heirs x2 x3 x4 x5 0
def f_X1_mayIn (t_kinds : Nat → Int32) (t_now_worths : Nat → Int32) (t_heirs : Int32) (x1 : Int32) (x2 : Int32) (x3 : Int32) : Option (Int32) := (f_X1_thingIn t_heirs x1 x2).bind (fun v1 => (f_X1_thingIn t_heirs x1 x3).bind (fun v3 => (f_X1_saidBy t_kinds t_now_worths x2 v3).bind (fun v5 => (f_X1_saidBy t_kinds t_now_worths x3 v3).bind (fun v7 => (if v7 ≤ v5 then f_X1_mayIn_54 t_kinds t_now_worths t_heirs x2 x3 v1 v3 else (f_X1_saidBy t_kinds t_now_worths x3 v1).bind (fun v10 => (f_X1_saidBy t_kinds t_now_worths x2 v1).bind (fun v12 => (if v12 ≤ v10 then f_X1_mayIn_54 t_kinds t_now_worths t_heirs x2 x3 v1 v3 else f_X1_mayIn_55 t_kinds t_now_worths t_heirs x2 x3 v1 v3 1))))))))
set_option maxHeartbeats 4000000 in
set_option maxRecDepth 100000 in
theorem b_X1_mayIn_142 {p : Program} {l : Launch} {e : Env} {s : State} {m : MethodId} {args : Array Value} {below : List Frame} {meth : Method} {c : Code} {D : va_G} {cI cB : ClassId} {kK kV : Nat → Nat} {A : Nat → Prop} (F : Fx p m c s meth args cX1_mayIn 8 RX1 wsX1_mayIn (some .int) D cI cB kK kV A) {ad_t : Nat → Nat} {t_kinds : Nat → Int32} {t_now_worths : Nat → Int32} {t_now_made : Nat → Int32} {t_now_heardOf : Nat → Int32} {t_now_heardThing : Nat → Int32} {t_now_heardOther : Nat → Int32} {t_now_heardMore : Nat → Int32} {t_now_lie : Int32} {t_now_changes : Int32} {t_now_heard : Int32} {t_heirs : Int32} {rr : Int32}  : ∀ (k0 : Int32) (k1 : Int32) (H : Heap) (locs : List Loc) (ls : Array Slot), va_P D vwCl (w_X1 cI cB ad_t t_kinds t_now_worths t_now_made t_now_heardOf t_now_heardThing t_now_heardOther t_now_heardMore t_now_lie t_now_changes t_now_heard t_heirs) H → va_D A (w_X1 cI cB ad_t t_kinds t_now_worths t_now_made t_now_heardOf t_now_heardThing t_now_heardOther t_now_heardMore t_now_lie t_now_changes t_now_heard t_heirs) → va_S A s.heap H locs → lv_has ls 8 [(0, .ref (ad_t 0))] → f_X1_mayIn_142 t_kinds t_now_worths t_heirs  k0 k1 = some rr → W p l e rm_X1_mayIn s m args below meth c H locs 0 0 (Zq D below args s A (w_X1 cI cB ad_t t_kinds t_now_worths t_now_made t_now_heardOf t_now_heardThing t_now_heardOther t_now_heardMore t_now_lie t_now_changes t_now_heard t_heirs) (some (.int rr))) (F0 m 142 ls [.int k0, .int k1]) := by
  obtain ⟨hx, hb, hml, hown, hts, hrt, hlocks, hK, hA, hZ⟩ := id F
  intro k0 k1 H locs ls hP hD hS hl hf
  refine lv_iadd hx hb dX1_mayIn_142 ?_
  replace hf : (some (k1 + k0) : Option (Int32)) = some rr := hf
  cases hf
  exact ret_i F hP hS dX1_mayIn_143

set_option maxHeartbeats 4000000 in
set_option maxRecDepth 100000 in
theorem b_X1_mayIn_132 {p : Program} {l : Launch} {e : Env} {s : State} {m : MethodId} {args : Array Value} {below : List Frame} {meth : Method} {c : Code} {D : va_G} {cI cB : ClassId} {kK kV : Nat → Nat} {A : Nat → Prop} (F : Fx p m c s meth args cX1_mayIn 8 RX1 wsX1_mayIn (some .int) D cI cB kK kV A) {ad_t : Nat → Nat} {t_kinds : Nat → Int32} {t_now_worths : Nat → Int32} {t_now_made : Nat → Int32} {t_now_heardOf : Nat → Int32} {t_now_heardThing : Nat → Int32} {t_now_heardOther : Nat → Int32} {t_now_heardMore : Nat → Int32} {t_now_lie : Int32} {t_now_changes : Int32} {t_now_heard : Int32} {t_heirs : Int32} {rr : Int32}  : ∀ (x7 : Int32) (k0 : Int32) (H : Heap) (locs : List Loc) (ls : Array Slot), va_P D vwCl (w_X1 cI cB ad_t t_kinds t_now_worths t_now_made t_now_heardOf t_now_heardThing t_now_heardOther t_now_heardMore t_now_lie t_now_changes t_now_heard t_heirs) H → va_D A (w_X1 cI cB ad_t t_kinds t_now_worths t_now_made t_now_heardOf t_now_heardThing t_now_heardOther t_now_heardMore t_now_lie t_now_changes t_now_heard t_heirs) → va_S A s.heap H locs → lv_has ls 8 [(0, .ref (ad_t 0)), (7, .int x7)] → f_X1_mayIn_132 t_kinds t_now_worths t_heirs  x7 k0 = some rr → W p l e rm_X1_mayIn s m args below meth c H locs 0 0 (Zq D below args s A (w_X1 cI cB ad_t t_kinds t_now_worths t_now_made t_now_heardOf t_now_heardThing t_now_heardOther t_now_heardMore t_now_lie t_now_changes t_now_heard t_heirs) (some (.int rr))) (F0 m 132 ls [.int k0]) := by
  obtain ⟨hx, hb, hml, hown, hts, hrt, hlocks, hK, hA, hZ⟩ := id F
  intro x7 k0 H locs ls hP hD hS hl hf
  refine lv_iload hx hb dX1_mayIn_132 (lv_at hl 1 rfl) ?_
  refine lv_if_eq (tgt := 141) hx hb dX1_mayIn_134 (by decide) (fun c1 => ?_) (fun c1 => ?_)
  · replace hf := (if_pos c1).symm.trans hf
    refine lv_iconst (v := 0) hx hb dX1_mayIn_141 (by decide) ?_
    exact b_X1_mayIn_142 F  0 k0 H locs ls hP hD hS (lv_sub hl [0] rfl) hf
  · replace hf := (if_neg c1).symm.trans hf
    refine lv_iconst (v := 1) hx hb dX1_mayIn_137 (by decide) ?_
    refine lv_goto (tgt := 142) hx hb dX1_mayIn_138 (by decide) ?_
    exact b_X1_mayIn_142 F  1 k0 H locs ls hP hD hS (lv_sub hl [0] rfl) hf

set_option maxHeartbeats 4000000 in
set_option maxRecDepth 100000 in
theorem b_X1_mayIn_120 {p : Program} {l : Launch} {e : Env} {s : State} {m : MethodId} {args : Array Value} {below : List Frame} {meth : Method} {c : Code} {D : va_G} {cI cB : ClassId} {kK kV : Nat → Nat} {A : Nat → Prop} (F : Fx p m c s meth args cX1_mayIn 8 RX1 wsX1_mayIn (some .int) D cI cB kK kV A) {ad_t : Nat → Nat} {t_kinds : Nat → Int32} {t_now_worths : Nat → Int32} {t_now_made : Nat → Int32} {t_now_heardOf : Nat → Int32} {t_now_heardThing : Nat → Int32} {t_now_heardOther : Nat → Int32} {t_now_heardMore : Nat → Int32} {t_now_lie : Int32} {t_now_changes : Int32} {t_now_heard : Int32} {t_heirs : Int32} {rr : Int32}  : ∀ (x6 : Int32) (k0 : Int32) (H : Heap) (locs : List Loc) (ls : Array Slot), va_P D vwCl (w_X1 cI cB ad_t t_kinds t_now_worths t_now_made t_now_heardOf t_now_heardThing t_now_heardOther t_now_heardMore t_now_lie t_now_changes t_now_heard t_heirs) H → va_D A (w_X1 cI cB ad_t t_kinds t_now_worths t_now_made t_now_heardOf t_now_heardThing t_now_heardOther t_now_heardMore t_now_lie t_now_changes t_now_heard t_heirs) → va_S A s.heap H locs → lv_has ls 8 [(0, .ref (ad_t 0)), (6, .int x6)] → f_X1_mayIn_120 t_kinds t_now_worths t_heirs  x6 k0 = some rr → W p l e rm_X1_mayIn s m args below meth c H locs 0 0 (Zq D below args s A (w_X1 cI cB ad_t t_kinds t_now_worths t_now_made t_now_heardOf t_now_heardThing t_now_heardOther t_now_heardMore t_now_lie t_now_changes t_now_heard t_heirs) (some (.int rr))) (F0 m 120 ls [.int k0]) := by
  obtain ⟨hx, hb, hml, hown, hts, hrt, hlocks, hK, hA, hZ⟩ := id F
  intro x6 k0 H locs ls hP hD hS hl hf
  refine lv_istore (lv' := [(7, .int k0), (0, .ref (ad_t 0)), (6, .int x6)]) hx hb dX1_mayIn_120 hl (by decide) rfl (fun ls hl => ?_)
  refine lv_iload hx hb dX1_mayIn_122 (lv_at hl 2 rfl) ?_
  refine lv_if_eq (tgt := 131) hx hb dX1_mayIn_124 (by decide) (fun c1 => ?_) (fun c1 => ?_)
  · replace hf := (if_pos c1).symm.trans hf
    refine lv_iconst (v := 0) hx hb dX1_mayIn_131 (by decide) ?_
    exact b_X1_mayIn_132 F  k0 0 H locs ls hP hD hS (lv_sub hl [1, 0] rfl) hf
  · replace hf := (if_neg c1).symm.trans hf
    refine lv_iconst (v := 2) hx hb dX1_mayIn_127 (by decide) ?_
    refine lv_goto (tgt := 132) hx hb dX1_mayIn_128 (by decide) ?_
    exact b_X1_mayIn_132 F  k0 2 H locs ls hP hD hS (lv_sub hl [1, 0] rfl) hf

set_option maxHeartbeats 4000000 in
set_option maxRecDepth 100000 in
theorem b_X1_mayIn_119 {p : Program} {l : Launch} {e : Env} {s : State} {m : MethodId} {args : Array Value} {below : List Frame} {meth : Method} {c : Code} {D : va_G} {cI cB : ClassId} {kK kV : Nat → Nat} {A : Nat → Prop} (F : Fx p m c s meth args cX1_mayIn 8 RX1 wsX1_mayIn (some .int) D cI cB kK kV A) {ad_t : Nat → Nat} {t_kinds : Nat → Int32} {t_now_worths : Nat → Int32} {t_now_made : Nat → Int32} {t_now_heardOf : Nat → Int32} {t_now_heardThing : Nat → Int32} {t_now_heardOther : Nat → Int32} {t_now_heardMore : Nat → Int32} {t_now_lie : Int32} {t_now_changes : Int32} {t_now_heard : Int32} {t_heirs : Int32} {rr : Int32}  : ∀ (x6 : Int32) (H : Heap) (locs : List Loc) (ls : Array Slot), va_P D vwCl (w_X1 cI cB ad_t t_kinds t_now_worths t_now_made t_now_heardOf t_now_heardThing t_now_heardOther t_now_heardMore t_now_lie t_now_changes t_now_heard t_heirs) H → va_D A (w_X1 cI cB ad_t t_kinds t_now_worths t_now_made t_now_heardOf t_now_heardThing t_now_heardOther t_now_heardMore t_now_lie t_now_changes t_now_heard t_heirs) → va_S A s.heap H locs → lv_has ls 8 [(0, .ref (ad_t 0)), (6, .int x6)] → f_X1_mayIn_119 t_kinds t_now_worths t_heirs  x6 = some rr → W p l e rm_X1_mayIn s m args below meth c H locs 0 0 (Zq D below args s A (w_X1 cI cB ad_t t_kinds t_now_worths t_now_made t_now_heardOf t_now_heardThing t_now_heardOther t_now_heardMore t_now_lie t_now_changes t_now_heard t_heirs) (some (.int rr))) (F0 m 119 ls []) := by
  obtain ⟨hx, hb, hml, hown, hts, hrt, hlocks, hK, hA, hZ⟩ := id F
  intro x6 H locs ls hP hD hS hl hf
  refine lv_iconst (v := 0) hx hb dX1_mayIn_119 (by decide) ?_
  exact b_X1_mayIn_120 F  x6 0 H locs ls hP hD hS (lv_sub hl [0, 1] rfl) hf

set_option maxHeartbeats 4000000 in
set_option maxRecDepth 100000 in
theorem b_X1_mayIn_55 {p : Program} {l : Launch} {e : Env} {s : State} {m : MethodId} {args : Array Value} {below : List Frame} {meth : Method} {c : Code} {D : va_G} {cI cB : ClassId} {kK kV : Nat → Nat} {A : Nat → Prop} (F : Fx p m c s meth args cX1_mayIn 8 RX1 wsX1_mayIn (some .int) D cI cB kK kV A) {ad_t : Nat → Nat} {t_kinds : Nat → Int32} {t_now_worths : Nat → Int32} {t_now_made : Nat → Int32} {t_now_heardOf : Nat → Int32} {t_now_heardThing : Nat → Int32} {t_now_heardOther : Nat → Int32} {t_now_heardMore : Nat → Int32} {t_now_lie : Int32} {t_now_changes : Int32} {t_now_heard : Int32} {t_heirs : Int32} {rr : Int32}  : ∀ (x2 : Int32) (x3 : Int32) (x4 : Int32) (x5 : Int32) (k0 : Int32) (H : Heap) (locs : List Loc) (ls : Array Slot), va_P D vwCl (w_X1 cI cB ad_t t_kinds t_now_worths t_now_made t_now_heardOf t_now_heardThing t_now_heardOther t_now_heardMore t_now_lie t_now_changes t_now_heard t_heirs) H → va_D A (w_X1 cI cB ad_t t_kinds t_now_worths t_now_made t_now_heardOf t_now_heardThing t_now_heardOther t_now_heardMore t_now_lie t_now_changes t_now_heard t_heirs) → va_S A s.heap H locs → lv_has ls 8 [(0, .ref (ad_t 0)), (2, .int x2), (3, .int x3), (4, .int x4), (5, .int x5)] → f_X1_mayIn_55 t_kinds t_now_worths t_heirs  x2 x3 x4 x5 k0 = some rr → W p l e rm_X1_mayIn s m args below meth c H locs 0 0 (Zq D below args s A (w_X1 cI cB ad_t t_kinds t_now_worths t_now_made t_now_heardOf t_now_heardThing t_now_heardOther t_now_heardMore t_now_lie t_now_changes t_now_heard t_heirs) (some (.int rr))) (F0 m 55 ls [.int k0]) := by
  obtain ⟨hx, hb, hml, hown, hts, hrt, hlocks, hK, hA, hZ⟩ := id F
  intro x2 x3 x4 x5 k0 H locs ls hP hD hS hl hf
  refine lv_istore (lv' := [(6, .int k0), (0, .ref (ad_t 0)), (2, .int x2), (3, .int x3), (4, .int x4), (5, .int x5)]) hx hb dX1_mayIn_55 hl (by decide) rfl (fun ls hl => ?_)
  refine lv_aload_n hx hb dX1_mayIn_57 rfl (lv_at hl 1 rfl) ?_
  refine gf F hP in_X1_mayIn_X1 0 rfl rfl 1 (by decide) 1 rfl rfl dX1_mayIn_58 ?_
  refine gfN F hP in_X1_mayIn_X4 3 rfl rfl 0 (by decide) 17 rfl rfl dX1_mayIn_61 ?_
  refine lv_iload_n hx hb dX1_mayIn_64 rfl (lv_at hl 2 rfl) ?_
  refine lv_iload hx hb dX1_mayIn_65 (lv_at hl 5 rfl) ?_
  obtain ⟨v1, e2, hf⟩ := bnd hf
  refine cV F hP hD hS (k_X5_at l (sh ad_t 4) t_now_worths x2 x5 e2) gX1_mayIn_X5_at rfl ⟨rfl, rfl⟩ nd_X5_at ⟨Nat.le_of_ble_eq_true rfl, Nat.le_of_ble_eq_true rfl⟩ 4 5 rfl rfl rfl hl.1 rfl (Nat.le_of_ble_eq_true rfl) dX1_mayIn_67 (pm1 (ws := (w_X1 cI cB ad_t t_kinds t_now_worths t_now_made t_now_heardOf t_now_heardThing t_now_heardOther t_now_heardMore t_now_lie t_now_changes t_now_heard t_heirs)) (X := List.take 4 (w_X1 cI cB ad_t t_kinds t_now_worths t_now_made t_now_heardOf t_now_heardThing t_now_heardOther t_now_heardMore t_now_lie t_now_changes t_now_heard t_heirs)) (Y := List.drop 6 (w_X1 cI cB ad_t t_kinds t_now_worths t_now_made t_now_heardOf t_now_heardThing t_now_heardOther t_now_heardMore t_now_lie t_now_changes t_now_heard t_heirs)) rfl) (pm1 (ws := (w_X1 cI cB ad_t t_kinds t_now_worths t_now_made t_now_heardOf t_now_heardThing t_now_heardOther t_now_heardMore t_now_lie t_now_changes t_now_heard t_heirs)) (X := List.take 4 (w_X1 cI cB ad_t t_kinds t_now_worths t_now_made t_now_heardOf t_now_heardThing t_now_heardOther t_now_heardMore t_now_lie t_now_changes t_now_heard t_heirs)) (Y := List.drop 6 (w_X1 cI cB ad_t t_kinds t_now_worths t_now_made t_now_heardOf t_now_heardThing t_now_heardOther t_now_heardMore t_now_lie t_now_changes t_now_heard t_heirs)) rfl) (fun H locs hP hD hS => ?_)
  refine lv_aload_n hx hb dX1_mayIn_70 rfl (lv_at hl 1 rfl) ?_
  refine gf F hP in_X1_mayIn_X1 0 rfl rfl 1 (by decide) 1 rfl rfl dX1_mayIn_71 ?_
  refine gfN F hP in_X1_mayIn_X4 3 rfl rfl 0 (by decide) 17 rfl rfl dX1_mayIn_74 ?_
  refine lv_iload_n hx hb dX1_mayIn_77 rfl (lv_at hl 2 rfl) ?_
  refine lv_iload hx hb dX1_mayIn_78 (lv_at hl 4 rfl) ?_
  obtain ⟨v3, e4, hf⟩ := bnd hf
  refine cV F hP hD hS (k_X5_at l (sh ad_t 4) t_now_worths x2 x4 e4) gX1_mayIn_X5_at rfl ⟨rfl, rfl⟩ nd_X5_at ⟨Nat.le_of_ble_eq_true rfl, Nat.le_of_ble_eq_true rfl⟩ 4 5 rfl rfl rfl hl.1 rfl (Nat.le_of_ble_eq_true rfl) dX1_mayIn_80 (pm1 (ws := (w_X1 cI cB ad_t t_kinds t_now_worths t_now_made t_now_heardOf t_now_heardThing t_now_heardOther t_now_heardMore t_now_lie t_now_changes t_now_heard t_heirs)) (X := List.take 4 (w_X1 cI cB ad_t t_kinds t_now_worths t_now_made t_now_heardOf t_now_heardThing t_now_heardOther t_now_heardMore t_now_lie t_now_changes t_now_heard t_heirs)) (Y := List.drop 6 (w_X1 cI cB ad_t t_kinds t_now_worths t_now_made t_now_heardOf t_now_heardThing t_now_heardOther t_now_heardMore t_now_lie t_now_changes t_now_heard t_heirs)) rfl) (pm1 (ws := (w_X1 cI cB ad_t t_kinds t_now_worths t_now_made t_now_heardOf t_now_heardThing t_now_heardOther t_now_heardMore t_now_lie t_now_changes t_now_heard t_heirs)) (X := List.take 4 (w_X1 cI cB ad_t t_kinds t_now_worths t_now_made t_now_heardOf t_now_heardThing t_now_heardOther t_now_heardMore t_now_lie t_now_changes t_now_heard t_heirs)) (Y := List.drop 6 (w_X1 cI cB ad_t t_kinds t_now_worths t_now_made t_now_heardOf t_now_heardThing t_now_heardOther t_now_heardMore t_now_lie t_now_changes t_now_heard t_heirs)) rfl) (fun H locs hP hD hS => ?_)
  refine lv_icmp_le (tgt := 119) hx hb dX1_mayIn_83 (by decide) (fun c5 => ?_) (fun c5 => ?_)
  · replace hf := (if_pos c5).symm.trans hf
    exact b_X1_mayIn_119 F  k0 H locs ls hP hD hS (lv_sub hl [1, 0] rfl) hf
  · replace hf := (if_neg c5).symm.trans hf
    refine lv_aload_n hx hb dX1_mayIn_86 rfl (lv_at hl 1 rfl) ?_
    refine gf F hP in_X1_mayIn_X1 0 rfl rfl 1 (by decide) 1 rfl rfl dX1_mayIn_87 ?_
    refine gfN F hP in_X1_mayIn_X4 3 rfl rfl 0 (by decide) 17 rfl rfl dX1_mayIn_90 ?_
    refine lv_iload_n hx hb dX1_mayIn_93 rfl (lv_at hl 3 rfl) ?_
    refine lv_iload hx hb dX1_mayIn_94 (lv_at hl 4 rfl) ?_
    obtain ⟨v6, e7, hf⟩ := bnd hf
    refine cV F hP hD hS (k_X5_at l (sh ad_t 4) t_now_worths x3 x4 e7) gX1_mayIn_X5_at rfl ⟨rfl, rfl⟩ nd_X5_at ⟨Nat.le_of_ble_eq_true rfl, Nat.le_of_ble_eq_true rfl⟩ 4 5 rfl rfl rfl hl.1 rfl (Nat.le_of_ble_eq_true rfl) dX1_mayIn_96 (pm1 (ws := (w_X1 cI cB ad_t t_kinds t_now_worths t_now_made t_now_heardOf t_now_heardThing t_now_heardOther t_now_heardMore t_now_lie t_now_changes t_now_heard t_heirs)) (X := List.take 4 (w_X1 cI cB ad_t t_kinds t_now_worths t_now_made t_now_heardOf t_now_heardThing t_now_heardOther t_now_heardMore t_now_lie t_now_changes t_now_heard t_heirs)) (Y := List.drop 6 (w_X1 cI cB ad_t t_kinds t_now_worths t_now_made t_now_heardOf t_now_heardThing t_now_heardOther t_now_heardMore t_now_lie t_now_changes t_now_heard t_heirs)) rfl) (pm1 (ws := (w_X1 cI cB ad_t t_kinds t_now_worths t_now_made t_now_heardOf t_now_heardThing t_now_heardOther t_now_heardMore t_now_lie t_now_changes t_now_heard t_heirs)) (X := List.take 4 (w_X1 cI cB ad_t t_kinds t_now_worths t_now_made t_now_heardOf t_now_heardThing t_now_heardOther t_now_heardMore t_now_lie t_now_changes t_now_heard t_heirs)) (Y := List.drop 6 (w_X1 cI cB ad_t t_kinds t_now_worths t_now_made t_now_heardOf t_now_heardThing t_now_heardOther t_now_heardMore t_now_lie t_now_changes t_now_heard t_heirs)) rfl) (fun H locs hP hD hS => ?_)
    refine lv_aload_n hx hb dX1_mayIn_99 rfl (lv_at hl 1 rfl) ?_
    refine gf F hP in_X1_mayIn_X1 0 rfl rfl 1 (by decide) 1 rfl rfl dX1_mayIn_100 ?_
    refine gfN F hP in_X1_mayIn_X4 3 rfl rfl 0 (by decide) 17 rfl rfl dX1_mayIn_103 ?_
    refine lv_iload_n hx hb dX1_mayIn_106 rfl (lv_at hl 3 rfl) ?_
    refine lv_iload hx hb dX1_mayIn_107 (lv_at hl 5 rfl) ?_
    obtain ⟨v8, e9, hf⟩ := bnd hf
    refine cV F hP hD hS (k_X5_at l (sh ad_t 4) t_now_worths x3 x5 e9) gX1_mayIn_X5_at rfl ⟨rfl, rfl⟩ nd_X5_at ⟨Nat.le_of_ble_eq_true rfl, Nat.le_of_ble_eq_true rfl⟩ 4 5 rfl rfl rfl hl.1 rfl (Nat.le_of_ble_eq_true rfl) dX1_mayIn_109 (pm1 (ws := (w_X1 cI cB ad_t t_kinds t_now_worths t_now_made t_now_heardOf t_now_heardThing t_now_heardOther t_now_heardMore t_now_lie t_now_changes t_now_heard t_heirs)) (X := List.take 4 (w_X1 cI cB ad_t t_kinds t_now_worths t_now_made t_now_heardOf t_now_heardThing t_now_heardOther t_now_heardMore t_now_lie t_now_changes t_now_heard t_heirs)) (Y := List.drop 6 (w_X1 cI cB ad_t t_kinds t_now_worths t_now_made t_now_heardOf t_now_heardThing t_now_heardOther t_now_heardMore t_now_lie t_now_changes t_now_heard t_heirs)) rfl) (pm1 (ws := (w_X1 cI cB ad_t t_kinds t_now_worths t_now_made t_now_heardOf t_now_heardThing t_now_heardOther t_now_heardMore t_now_lie t_now_changes t_now_heard t_heirs)) (X := List.take 4 (w_X1 cI cB ad_t t_kinds t_now_worths t_now_made t_now_heardOf t_now_heardThing t_now_heardOther t_now_heardMore t_now_lie t_now_changes t_now_heard t_heirs)) (Y := List.drop 6 (w_X1 cI cB ad_t t_kinds t_now_worths t_now_made t_now_heardOf t_now_heardThing t_now_heardOther t_now_heardMore t_now_lie t_now_changes t_now_heard t_heirs)) rfl) (fun H locs hP hD hS => ?_)
    refine lv_icmp_le (tgt := 119) hx hb dX1_mayIn_112 (by decide) (fun c10 => ?_) (fun c10 => ?_)
    · replace hf := (if_pos c10).symm.trans hf
      exact b_X1_mayIn_119 F  k0 H locs ls hP hD hS (lv_sub hl [1, 0] rfl) hf
    · replace hf := (if_neg c10).symm.trans hf
      refine lv_iconst (v := 1) hx hb dX1_mayIn_115 (by decide) ?_
      refine lv_goto (tgt := 120) hx hb dX1_mayIn_116 (by decide) ?_
      exact b_X1_mayIn_120 F  k0 1 H locs ls hP hD hS (lv_sub hl [1, 0] rfl) hf

set_option maxHeartbeats 4000000 in
set_option maxRecDepth 100000 in
theorem b_X1_mayIn_54 {p : Program} {l : Launch} {e : Env} {s : State} {m : MethodId} {args : Array Value} {below : List Frame} {meth : Method} {c : Code} {D : va_G} {cI cB : ClassId} {kK kV : Nat → Nat} {A : Nat → Prop} (F : Fx p m c s meth args cX1_mayIn 8 RX1 wsX1_mayIn (some .int) D cI cB kK kV A) {ad_t : Nat → Nat} {t_kinds : Nat → Int32} {t_now_worths : Nat → Int32} {t_now_made : Nat → Int32} {t_now_heardOf : Nat → Int32} {t_now_heardThing : Nat → Int32} {t_now_heardOther : Nat → Int32} {t_now_heardMore : Nat → Int32} {t_now_lie : Int32} {t_now_changes : Int32} {t_now_heard : Int32} {t_heirs : Int32} {rr : Int32}  : ∀ (x2 : Int32) (x3 : Int32) (x4 : Int32) (x5 : Int32) (H : Heap) (locs : List Loc) (ls : Array Slot), va_P D vwCl (w_X1 cI cB ad_t t_kinds t_now_worths t_now_made t_now_heardOf t_now_heardThing t_now_heardOther t_now_heardMore t_now_lie t_now_changes t_now_heard t_heirs) H → va_D A (w_X1 cI cB ad_t t_kinds t_now_worths t_now_made t_now_heardOf t_now_heardThing t_now_heardOther t_now_heardMore t_now_lie t_now_changes t_now_heard t_heirs) → va_S A s.heap H locs → lv_has ls 8 [(0, .ref (ad_t 0)), (2, .int x2), (3, .int x3), (4, .int x4), (5, .int x5)] → f_X1_mayIn_54 t_kinds t_now_worths t_heirs  x2 x3 x4 x5 = some rr → W p l e rm_X1_mayIn s m args below meth c H locs 0 0 (Zq D below args s A (w_X1 cI cB ad_t t_kinds t_now_worths t_now_made t_now_heardOf t_now_heardThing t_now_heardOther t_now_heardMore t_now_lie t_now_changes t_now_heard t_heirs) (some (.int rr))) (F0 m 54 ls []) := by
  obtain ⟨hx, hb, hml, hown, hts, hrt, hlocks, hK, hA, hZ⟩ := id F
  intro x2 x3 x4 x5 H locs ls hP hD hS hl hf
  refine lv_iconst (v := 0) hx hb dX1_mayIn_54 (by decide) ?_
  exact b_X1_mayIn_55 F  x2 x3 x4 x5 0 H locs ls hP hD hS (lv_sub hl [0, 1, 2, 3, 4] rfl) hf

set_option maxHeartbeats 4000000 in
set_option maxRecDepth 100000 in
theorem k_X1_mayIn (l : Launch) {D : va_G} {cI cB : ClassId} {kK kV : Nat → Nat} (ad_t : Nat → Nat) (t_kinds : Nat → Int32) (t_now_worths : Nat → Int32) (t_now_made : Nat → Int32) (t_now_heardOf : Nat → Int32) (t_now_heardThing : Nat → Int32) (t_now_heardOther : Nat → Int32) (t_now_heardMore : Nat → Int32) (t_now_lie : Int32) (t_now_changes : Int32) (t_now_heard : Int32) (t_heirs : Int32) (x1 : Int32) (x2 : Int32) (x3 : Int32) {rr : Int32}  (hf : f_X1_mayIn t_kinds t_now_worths t_heirs x1 x2 x3 = some rr) : Ct l yX1_mayIn wsX1_mayIn rm_X1_mayIn D cI cB kK kV [.ref (ad_t 0), .int x1, .int x2, .int x3] (w_X1 cI cB ad_t t_kinds t_now_worths t_now_made t_now_heardOf t_now_heardThing t_now_heardOther t_now_heardMore t_now_lie t_now_changes t_now_heard t_heirs) (w_X1 cI cB ad_t t_kinds t_now_worths t_now_made t_now_heardOf t_now_heardThing t_now_heardOther t_now_heardMore t_now_lie t_now_changes t_now_heard t_heirs) (some (.int rr)) := by
  refine Ct.of (cc := cX1_mayIn) (maxL := 8) (ret := (some .int)) (by decide) rfl (Nat.le_of_ble_eq_true rfl) rfl ?_
  intro p e s m below meth c A ls F hP hD hS hl
  have hl : lv_has ls 8 [(0, .ref (ad_t 0)), (1, .int x1), (2, .int x2), (3, .int x3)] := hl
  obtain ⟨hx, hb, hml, hown, hts, hrt, hlocks, hK, hA, hZ⟩ := id F
  obtain ⟨H, hH⟩ : ∃ H, H = s.heap := ⟨_, rfl⟩
  obtain ⟨locs, hLo⟩ : ∃ q : List Loc, q = [] := ⟨_, rfl⟩
  refine (?_ : W p l e rm_X1_mayIn s m _ below meth c s.heap [] 0 0 _ _)
  rw [← hH, ← hLo]
  rw [← hH] at hP
  have hS : va_S A s.heap H locs := by rw [hH, hLo]; exact hS
  refine lv_aload_n hx hb dX1_mayIn_0 rfl (lv_at hl 0 rfl) ?_
  refine lv_iload_n hx hb dX1_mayIn_1 rfl (lv_at hl 1 rfl) ?_
  refine lv_iload_n hx hb dX1_mayIn_2 rfl (lv_at hl 2 rfl) ?_
  obtain ⟨v1, e2, hf⟩ := bnd hf
  refine cV F hP hD hS (k_X1_thingIn l ad_t t_kinds t_now_worths t_now_made t_now_heardOf t_now_heardThing t_now_heardOther t_now_heardMore t_now_lie t_now_changes t_now_heard t_heirs x1 x2 e2) gX1_mayIn_X1_thingIn rfl ⟨rfl, rfl⟩ nd_X1_thingIn ⟨Nat.le_of_ble_eq_true rfl, Nat.le_of_ble_eq_true rfl⟩ 0 1 rfl rfl rfl hl.1 rfl (Nat.le_of_ble_eq_true rfl) dX1_mayIn_3 (pm0 (w_X1 cI cB ad_t t_kinds t_now_worths t_now_made t_now_heardOf t_now_heardThing t_now_heardOther t_now_heardMore t_now_lie t_now_changes t_now_heard t_heirs)) (pm0 (w_X1 cI cB ad_t t_kinds t_now_worths t_now_made t_now_heardOf t_now_heardThing t_now_heardOther t_now_heardMore t_now_lie t_now_changes t_now_heard t_heirs)) (fun H locs hP hD hS => ?_)
  refine lv_istore (lv' := [(4, .int v1), (0, .ref (ad_t 0)), (1, .int x1), (2, .int x2), (3, .int x3)]) hx hb dX1_mayIn_6 hl (by decide) rfl (fun ls hl => ?_)
  refine lv_aload_n hx hb dX1_mayIn_8 rfl (lv_at hl 1 rfl) ?_
  refine lv_iload_n hx hb dX1_mayIn_9 rfl (lv_at hl 2 rfl) ?_
  refine lv_iload_n hx hb dX1_mayIn_10 rfl (lv_at hl 4 rfl) ?_
  obtain ⟨v3, e4, hf⟩ := bnd hf
  refine cV F hP hD hS (k_X1_thingIn l ad_t t_kinds t_now_worths t_now_made t_now_heardOf t_now_heardThing t_now_heardOther t_now_heardMore t_now_lie t_now_changes t_now_heard t_heirs x1 x3 e4) gX1_mayIn_X1_thingIn rfl ⟨rfl, rfl⟩ nd_X1_thingIn ⟨Nat.le_of_ble_eq_true rfl, Nat.le_of_ble_eq_true rfl⟩ 0 1 rfl rfl rfl hl.1 rfl (Nat.le_of_ble_eq_true rfl) dX1_mayIn_11 (pm0 (w_X1 cI cB ad_t t_kinds t_now_worths t_now_made t_now_heardOf t_now_heardThing t_now_heardOther t_now_heardMore t_now_lie t_now_changes t_now_heard t_heirs)) (pm0 (w_X1 cI cB ad_t t_kinds t_now_worths t_now_made t_now_heardOf t_now_heardThing t_now_heardOther t_now_heardMore t_now_lie t_now_changes t_now_heard t_heirs)) (fun H locs hP hD hS => ?_)
  refine lv_istore (lv' := [(5, .int v3), (4, .int v1), (0, .ref (ad_t 0)), (1, .int x1), (2, .int x2), (3, .int x3)]) hx hb dX1_mayIn_14 hl (by decide) rfl (fun ls hl => ?_)
  refine lv_aload_n hx hb dX1_mayIn_16 rfl (lv_at hl 2 rfl) ?_
  refine lv_iload_n hx hb dX1_mayIn_17 rfl (lv_at hl 4 rfl) ?_
  refine lv_iload hx hb dX1_mayIn_18 (lv_at hl 0 rfl) ?_
  obtain ⟨v5, e6, hf⟩ := bnd hf
  refine cV F hP hD hS (k_X1_saidBy l ad_t t_kinds t_now_worths t_now_made t_now_heardOf t_now_heardThing t_now_heardOther t_now_heardMore t_now_lie t_now_changes t_now_heard t_heirs x2 v3 e6) gX1_mayIn_X1_saidBy rfl ⟨rfl, rfl⟩ nd_X1_saidBy ⟨Nat.le_of_ble_eq_true rfl, Nat.le_of_ble_eq_true rfl⟩ 0 1 rfl rfl rfl hl.1 rfl (Nat.le_of_ble_eq_true rfl) dX1_mayIn_20 (pm0 (w_X1 cI cB ad_t t_kinds t_now_worths t_now_made t_now_heardOf t_now_heardThing t_now_heardOther t_now_heardMore t_now_lie t_now_changes t_now_heard t_heirs)) (pm0 (w_X1 cI cB ad_t t_kinds t_now_worths t_now_made t_now_heardOf t_now_heardThing t_now_heardOther t_now_heardMore t_now_lie t_now_changes t_now_heard t_heirs)) (fun H locs hP hD hS => ?_)
  refine lv_aload_n hx hb dX1_mayIn_23 rfl (lv_at hl 2 rfl) ?_
  refine lv_iload_n hx hb dX1_mayIn_24 rfl (lv_at hl 5 rfl) ?_
  refine lv_iload hx hb dX1_mayIn_25 (lv_at hl 0 rfl) ?_
  obtain ⟨v7, e8, hf⟩ := bnd hf
  refine cV F hP hD hS (k_X1_saidBy l ad_t t_kinds t_now_worths t_now_made t_now_heardOf t_now_heardThing t_now_heardOther t_now_heardMore t_now_lie t_now_changes t_now_heard t_heirs x3 v3 e8) gX1_mayIn_X1_saidBy rfl ⟨rfl, rfl⟩ nd_X1_saidBy ⟨Nat.le_of_ble_eq_true rfl, Nat.le_of_ble_eq_true rfl⟩ 0 1 rfl rfl rfl hl.1 rfl (Nat.le_of_ble_eq_true rfl) dX1_mayIn_27 (pm0 (w_X1 cI cB ad_t t_kinds t_now_worths t_now_made t_now_heardOf t_now_heardThing t_now_heardOther t_now_heardMore t_now_lie t_now_changes t_now_heard t_heirs)) (pm0 (w_X1 cI cB ad_t t_kinds t_now_worths t_now_made t_now_heardOf t_now_heardThing t_now_heardOther t_now_heardMore t_now_lie t_now_changes t_now_heard t_heirs)) (fun H locs hP hD hS => ?_)
  refine lv_icmp_ge (tgt := 54) hx hb dX1_mayIn_30 (by decide) (fun c9 => ?_) (fun c9 => ?_)
  · replace hf := (if_pos c9).symm.trans hf
    exact b_X1_mayIn_54 F  x2 x3 v1 v3 H locs ls hP hD hS (lv_sub hl [2, 4, 5, 1, 0] rfl) hf
  · replace hf := (if_neg c9).symm.trans hf
    refine lv_aload_n hx hb dX1_mayIn_33 rfl (lv_at hl 2 rfl) ?_
    refine lv_iload_n hx hb dX1_mayIn_34 rfl (lv_at hl 5 rfl) ?_
    refine lv_iload hx hb dX1_mayIn_35 (lv_at hl 1 rfl) ?_
    obtain ⟨v10, e11, hf⟩ := bnd hf
    refine cV F hP hD hS (k_X1_saidBy l ad_t t_kinds t_now_worths t_now_made t_now_heardOf t_now_heardThing t_now_heardOther t_now_heardMore t_now_lie t_now_changes t_now_heard t_heirs x3 v1 e11) gX1_mayIn_X1_saidBy rfl ⟨rfl, rfl⟩ nd_X1_saidBy ⟨Nat.le_of_ble_eq_true rfl, Nat.le_of_ble_eq_true rfl⟩ 0 1 rfl rfl rfl hl.1 rfl (Nat.le_of_ble_eq_true rfl) dX1_mayIn_37 (pm0 (w_X1 cI cB ad_t t_kinds t_now_worths t_now_made t_now_heardOf t_now_heardThing t_now_heardOther t_now_heardMore t_now_lie t_now_changes t_now_heard t_heirs)) (pm0 (w_X1 cI cB ad_t t_kinds t_now_worths t_now_made t_now_heardOf t_now_heardThing t_now_heardOther t_now_heardMore t_now_lie t_now_changes t_now_heard t_heirs)) (fun H locs hP hD hS => ?_)
    refine lv_aload_n hx hb dX1_mayIn_40 rfl (lv_at hl 2 rfl) ?_
    refine lv_iload_n hx hb dX1_mayIn_41 rfl (lv_at hl 4 rfl) ?_
    refine lv_iload hx hb dX1_mayIn_42 (lv_at hl 1 rfl) ?_
    obtain ⟨v12, e13, hf⟩ := bnd hf
    refine cV F hP hD hS (k_X1_saidBy l ad_t t_kinds t_now_worths t_now_made t_now_heardOf t_now_heardThing t_now_heardOther t_now_heardMore t_now_lie t_now_changes t_now_heard t_heirs x2 v1 e13) gX1_mayIn_X1_saidBy rfl ⟨rfl, rfl⟩ nd_X1_saidBy ⟨Nat.le_of_ble_eq_true rfl, Nat.le_of_ble_eq_true rfl⟩ 0 1 rfl rfl rfl hl.1 rfl (Nat.le_of_ble_eq_true rfl) dX1_mayIn_44 (pm0 (w_X1 cI cB ad_t t_kinds t_now_worths t_now_made t_now_heardOf t_now_heardThing t_now_heardOther t_now_heardMore t_now_lie t_now_changes t_now_heard t_heirs)) (pm0 (w_X1 cI cB ad_t t_kinds t_now_worths t_now_made t_now_heardOf t_now_heardThing t_now_heardOther t_now_heardMore t_now_lie t_now_changes t_now_heard t_heirs)) (fun H locs hP hD hS => ?_)
    refine lv_icmp_ge (tgt := 54) hx hb dX1_mayIn_47 (by decide) (fun c14 => ?_) (fun c14 => ?_)
    · replace hf := (if_pos c14).symm.trans hf
      exact b_X1_mayIn_54 F  x2 x3 v1 v3 H locs ls hP hD hS (lv_sub hl [2, 4, 5, 1, 0] rfl) hf
    · replace hf := (if_neg c14).symm.trans hf
      refine lv_iconst (v := 1) hx hb dX1_mayIn_50 (by decide) ?_
      refine lv_goto (tgt := 55) hx hb dX1_mayIn_51 (by decide) ?_
      exact b_X1_mayIn_55 F  x2 x3 v1 v3 1 H locs ls hP hD hS (lv_sub hl [2, 4, 5, 1, 0] rfl) hf

/-! X1_changed -/
def rm_X1_changed : Room := { frames := 1, cells := 0, slots := 0, locals := 24 }
theorem nd_X1_changed : yX1_changed.cls = RX1 ∧ yX1_changed.cls ≠ "java/lang/invoke/MethodHandle" ∧ yX1_changed.cls ≠ "java/lang/invoke/VarHandle" ∧ (parseMethodDescriptor yX1_changed.desc).map (fun d => d.parameters.length) = some 3 := by decide +kernel
def f_X1_changed (t_heirs : Int32) (x1 : Int32) (x2 : Int32) (x3 : Int32) : Option (Int32) := (f_X1_thingIn t_heirs x1 x3).bind (fun v1 => (f_X1_placed t_heirs x1 x2 v1).bind (fun v3 => (f_X1_thingIn t_heirs x1 x2).bind (fun v5 => (f_X1_placed t_heirs v3 x3 v5).bind (fun v7 => some v7))))
set_option maxHeartbeats 4000000 in
set_option maxRecDepth 100000 in
theorem k_X1_changed (l : Launch) {D : va_G} {cI cB : ClassId} {kK kV : Nat → Nat} (ad_t : Nat → Nat) (t_kinds : Nat → Int32) (t_now_worths : Nat → Int32) (t_now_made : Nat → Int32) (t_now_heardOf : Nat → Int32) (t_now_heardThing : Nat → Int32) (t_now_heardOther : Nat → Int32) (t_now_heardMore : Nat → Int32) (t_now_lie : Int32) (t_now_changes : Int32) (t_now_heard : Int32) (t_heirs : Int32) (x1 : Int32) (x2 : Int32) (x3 : Int32) {rr : Int32}  (hf : f_X1_changed t_heirs x1 x2 x3 = some rr) : Ct l yX1_changed wsX1_changed rm_X1_changed D cI cB kK kV [.ref (ad_t 0), .int x1, .int x2, .int x3] (w_X1 cI cB ad_t t_kinds t_now_worths t_now_made t_now_heardOf t_now_heardThing t_now_heardOther t_now_heardMore t_now_lie t_now_changes t_now_heard t_heirs) (w_X1 cI cB ad_t t_kinds t_now_worths t_now_made t_now_heardOf t_now_heardThing t_now_heardOther t_now_heardMore t_now_lie t_now_changes t_now_heard t_heirs) (some (.int rr)) := by
  refine Ct.of (cc := cX1_changed) (maxL := 4) (ret := (some .int)) (by decide) rfl (Nat.le_of_ble_eq_true rfl) rfl ?_
  intro p e s m below meth c A ls F hP hD hS hl
  have hl : lv_has ls 4 [(0, .ref (ad_t 0)), (1, .int x1), (2, .int x2), (3, .int x3)] := hl
  obtain ⟨hx, hb, hml, hown, hts, hrt, hlocks, hK, hA, hZ⟩ := id F
  obtain ⟨H, hH⟩ : ∃ H, H = s.heap := ⟨_, rfl⟩
  obtain ⟨locs, hLo⟩ : ∃ q : List Loc, q = [] := ⟨_, rfl⟩
  refine (?_ : W p l e rm_X1_changed s m _ below meth c s.heap [] 0 0 _ _)
  rw [← hH, ← hLo]
  rw [← hH] at hP
  have hS : va_S A s.heap H locs := by rw [hH, hLo]; exact hS
  refine lv_aload_n hx hb dX1_changed_0 rfl (lv_at hl 0 rfl) ?_
  refine lv_aload_n hx hb dX1_changed_1 rfl (lv_at hl 0 rfl) ?_
  refine lv_iload_n hx hb dX1_changed_2 rfl (lv_at hl 1 rfl) ?_
  refine lv_iload_n hx hb dX1_changed_3 rfl (lv_at hl 2 rfl) ?_
  refine lv_aload_n hx hb dX1_changed_4 rfl (lv_at hl 0 rfl) ?_
  refine lv_iload_n hx hb dX1_changed_5 rfl (lv_at hl 1 rfl) ?_
  refine lv_iload_n hx hb dX1_changed_6 rfl (lv_at hl 3 rfl) ?_
  obtain ⟨v1, e2, hf⟩ := bnd hf
  refine cV F hP hD hS (k_X1_thingIn l ad_t t_kinds t_now_worths t_now_made t_now_heardOf t_now_heardThing t_now_heardOther t_now_heardMore t_now_lie t_now_changes t_now_heard t_heirs x1 x3 e2) gX1_changed_X1_thingIn rfl ⟨rfl, rfl⟩ nd_X1_thingIn ⟨Nat.le_of_ble_eq_true rfl, Nat.le_of_ble_eq_true rfl⟩ 0 1 rfl rfl rfl hl.1 rfl (Nat.le_of_ble_eq_true rfl) dX1_changed_7 (pm0 (w_X1 cI cB ad_t t_kinds t_now_worths t_now_made t_now_heardOf t_now_heardThing t_now_heardOther t_now_heardMore t_now_lie t_now_changes t_now_heard t_heirs)) (pm0 (w_X1 cI cB ad_t t_kinds t_now_worths t_now_made t_now_heardOf t_now_heardThing t_now_heardOther t_now_heardMore t_now_lie t_now_changes t_now_heard t_heirs)) (fun H locs hP hD hS => ?_)
  obtain ⟨v3, e4, hf⟩ := bnd hf
  refine cV F hP hD hS (k_X1_placed l ad_t t_kinds t_now_worths t_now_made t_now_heardOf t_now_heardThing t_now_heardOther t_now_heardMore t_now_lie t_now_changes t_now_heard t_heirs x1 x2 v1 e4) gX1_changed_X1_placed rfl ⟨rfl, rfl⟩ nd_X1_placed ⟨Nat.le_of_ble_eq_true rfl, Nat.le_of_ble_eq_true rfl⟩ 0 1 rfl rfl rfl hl.1 rfl (Nat.le_of_ble_eq_true rfl) dX1_changed_10 (pm0 (w_X1 cI cB ad_t t_kinds t_now_worths t_now_made t_now_heardOf t_now_heardThing t_now_heardOther t_now_heardMore t_now_lie t_now_changes t_now_heard t_heirs)) (pm0 (w_X1 cI cB ad_t t_kinds t_now_worths t_now_made t_now_heardOf t_now_heardThing t_now_heardOther t_now_heardMore t_now_lie t_now_changes t_now_heard t_heirs)) (fun H locs hP hD hS => ?_)
  refine lv_iload_n hx hb dX1_changed_13 rfl (lv_at hl 3 rfl) ?_
  refine lv_aload_n hx hb dX1_changed_14 rfl (lv_at hl 0 rfl) ?_
  refine lv_iload_n hx hb dX1_changed_15 rfl (lv_at hl 1 rfl) ?_
  refine lv_iload_n hx hb dX1_changed_16 rfl (lv_at hl 2 rfl) ?_
  obtain ⟨v5, e6, hf⟩ := bnd hf
  refine cV F hP hD hS (k_X1_thingIn l ad_t t_kinds t_now_worths t_now_made t_now_heardOf t_now_heardThing t_now_heardOther t_now_heardMore t_now_lie t_now_changes t_now_heard t_heirs x1 x2 e6) gX1_changed_X1_thingIn rfl ⟨rfl, rfl⟩ nd_X1_thingIn ⟨Nat.le_of_ble_eq_true rfl, Nat.le_of_ble_eq_true rfl⟩ 0 1 rfl rfl rfl hl.1 rfl (Nat.le_of_ble_eq_true rfl) dX1_changed_17 (pm0 (w_X1 cI cB ad_t t_kinds t_now_worths t_now_made t_now_heardOf t_now_heardThing t_now_heardOther t_now_heardMore t_now_lie t_now_changes t_now_heard t_heirs)) (pm0 (w_X1 cI cB ad_t t_kinds t_now_worths t_now_made t_now_heardOf t_now_heardThing t_now_heardOther t_now_heardMore t_now_lie t_now_changes t_now_heard t_heirs)) (fun H locs hP hD hS => ?_)
  obtain ⟨v7, e8, hf⟩ := bnd hf
  refine cV F hP hD hS (k_X1_placed l ad_t t_kinds t_now_worths t_now_made t_now_heardOf t_now_heardThing t_now_heardOther t_now_heardMore t_now_lie t_now_changes t_now_heard t_heirs v3 x3 v5 e8) gX1_changed_X1_placed rfl ⟨rfl, rfl⟩ nd_X1_placed ⟨Nat.le_of_ble_eq_true rfl, Nat.le_of_ble_eq_true rfl⟩ 0 1 rfl rfl rfl hl.1 rfl (Nat.le_of_ble_eq_true rfl) dX1_changed_20 (pm0 (w_X1 cI cB ad_t t_kinds t_now_worths t_now_made t_now_heardOf t_now_heardThing t_now_heardOther t_now_heardMore t_now_lie t_now_changes t_now_heard t_heirs)) (pm0 (w_X1 cI cB ad_t t_kinds t_now_worths t_now_made t_now_heardOf t_now_heardThing t_now_heardOther t_now_heardMore t_now_lie t_now_changes t_now_heard t_heirs)) (fun H locs hP hD hS => ?_)
  replace hf : (some v7 : Option (Int32)) = some rr := hf
  cases hf
  exact ret_i F hP hS dX1_changed_23

/-! X1_isParted -/
def rm_X1_isParted : Room := { frames := 1, cells := 0, slots := 0, locals := 22 }
theorem in_X1_isParted_X1 : ∀ w ∈ u_ws RX1 TX1 3, w ∈ wsX1_isParted := fun _ h => List.mem_cons_of_mem _ (List.mem_append_right _ (h))
theorem nd_X1_isParted : yX1_isParted.cls = RX1 ∧ yX1_isParted.cls ≠ "java/lang/invoke/MethodHandle" ∧ yX1_isParted.cls ≠ "java/lang/invoke/VarHandle" ∧ (parseMethodDescriptor yX1_isParted.desc).map (fun d => d.parameters.length) = some 1 := by decide +kernel
def f_X1_isParted_34 (t_heirs : Int32)  (x2 : Int32) : Option (Int32) := (f_J6_bitCount_0f7a4 x2).bind (fun v1 => (if v1 = t_heirs then some 1 else some 0))
def f_X1_isParted_4 (t_heirs : Int32)  : Nat → Int32 → Int32 → Int32 → Option (Int32)
  | 0, _, _, _ => none
  | n + 1, x1, x2, x3 => (if 4 ≤ x3 then f_X1_isParted_34 t_heirs x2 else (if t_heirs ≤ x3 then f_X1_isParted_34 t_heirs x2 else (f_X1_thingIn t_heirs x1 x3).bind (fun v3 => f_X1_isParted_4 t_heirs  n x1 (x2 ||| ((1 : Int32) <<< (v3 &&& 31))) (x3 + 1))))
def f_X1_isParted (t_heirs : Int32) (x1 : Int32) : Option (Int32) := f_X1_isParted_4 t_heirs 300 x1 0 0
set_option maxHeartbeats 4000000 in
set_option maxRecDepth 100000 in
theorem b_X1_isParted_34 {p : Program} {l : Launch} {e : Env} {s : State} {m : MethodId} {args : Array Value} {below : List Frame} {meth : Method} {c : Code} {D : va_G} {cI cB : ClassId} {kK kV : Nat → Nat} {A : Nat → Prop} (F : Fx p m c s meth args cX1_isParted 4 RX1 wsX1_isParted (some .boolean) D cI cB kK kV A) {ad_t : Nat → Nat} {t_kinds : Nat → Int32} {t_now_worths : Nat → Int32} {t_now_made : Nat → Int32} {t_now_heardOf : Nat → Int32} {t_now_heardThing : Nat → Int32} {t_now_heardOther : Nat → Int32} {t_now_heardMore : Nat → Int32} {t_now_lie : Int32} {t_now_changes : Int32} {t_now_heard : Int32} {t_heirs : Int32} {rr : Int32}  : ∀ (x2 : Int32) (H : Heap) (locs : List Loc) (ls : Array Slot), va_P D vwCl (w_X1 cI cB ad_t t_kinds t_now_worths t_now_made t_now_heardOf t_now_heardThing t_now_heardOther t_now_heardMore t_now_lie t_now_changes t_now_heard t_heirs) H → va_D A (w_X1 cI cB ad_t t_kinds t_now_worths t_now_made t_now_heardOf t_now_heardThing t_now_heardOther t_now_heardMore t_now_lie t_now_changes t_now_heard t_heirs) → va_S A s.heap H locs → lv_has ls 4 [(0, .ref (ad_t 0)), (2, .int x2)] → f_X1_isParted_34 t_heirs  x2 = some rr → W p l e rm_X1_isParted s m args below meth c H locs 0 0 (Zq D below args s A (w_X1 cI cB ad_t t_kinds t_now_worths t_now_made t_now_heardOf t_now_heardThing t_now_heardOther t_now_heardMore t_now_lie t_now_changes t_now_heard t_heirs) (some (.int rr))) (F0 m 34 ls []) := by
  obtain ⟨hx, hb, hml, hown, hts, hrt, hlocks, hK, hA, hZ⟩ := id F
  intro x2 H locs ls hP hD hS hl hf
  refine lv_iload_n hx hb dX1_isParted_34 rfl (lv_at hl 1 rfl) ?_
  obtain ⟨v1, e2, hf⟩ := bnd hf
  refine cS F hP hD hS (k_J6_bitCount_0f7a4 l  x2 e2) gX1_isParted_J6_bitCount_0f7a4 rfl ⟨rfl, rfl⟩ nd_J6_bitCount_0f7a4 ⟨Nat.le_of_ble_eq_true rfl, Nat.le_of_ble_eq_true rfl⟩ rfl hl.1 rfl (Nat.le_of_ble_eq_true rfl) dX1_isParted_35 (pmE (w_X1 cI cB ad_t t_kinds t_now_worths t_now_made t_now_heardOf t_now_heardThing t_now_heardOther t_now_heardMore t_now_lie t_now_changes t_now_heard t_heirs)) (pmE (w_X1 cI cB ad_t t_kinds t_now_worths t_now_made t_now_heardOf t_now_heardThing t_now_heardOther t_now_heardMore t_now_lie t_now_changes t_now_heard t_heirs)) (fun H locs hP hD hS => ?_)
  refine lv_aload_n hx hb dX1_isParted_38 rfl (lv_at hl 0 rfl) ?_
  refine gf F hP in_X1_isParted_X1 0 rfl rfl 2 (by decide) 1 rfl rfl dX1_isParted_39 ?_
  refine lv_icmp_ne (tgt := 49) hx hb dX1_isParted_42 (by decide) (fun c3 => ?_) (fun c3 => ?_)
  · replace hf := (if_neg c3).symm.trans hf
    refine lv_iconst (v := 0) hx hb dX1_isParted_49 (by decide) ?_
    replace hf : (some 0 : Option (Int32)) = some rr := hf
    cases hf
    exact ret_z F rfl hP hS dX1_isParted_50
  · replace hf := (if_pos c3).symm.trans hf
    refine lv_iconst (v := 1) hx hb dX1_isParted_45 (by decide) ?_
    refine lv_goto (tgt := 50) hx hb dX1_isParted_46 (by decide) ?_
    replace hf : (some 1 : Option (Int32)) = some rr := hf
    cases hf
    exact ret_z F rfl hP hS dX1_isParted_50

set_option maxHeartbeats 4000000 in
set_option maxRecDepth 100000 in
theorem b_X1_isParted_4 {p : Program} {l : Launch} {e : Env} {s : State} {m : MethodId} {args : Array Value} {below : List Frame} {meth : Method} {c : Code} {D : va_G} {cI cB : ClassId} {kK kV : Nat → Nat} {A : Nat → Prop} (F : Fx p m c s meth args cX1_isParted 4 RX1 wsX1_isParted (some .boolean) D cI cB kK kV A) {ad_t : Nat → Nat} {t_kinds : Nat → Int32} {t_now_worths : Nat → Int32} {t_now_made : Nat → Int32} {t_now_heardOf : Nat → Int32} {t_now_heardThing : Nat → Int32} {t_now_heardOther : Nat → Int32} {t_now_heardMore : Nat → Int32} {t_now_lie : Int32} {t_now_changes : Int32} {t_now_heard : Int32} {t_heirs : Int32} {rr : Int32}  : ∀ (n : Nat), ∀ (x1 : Int32) (x2 : Int32) (x3 : Int32) (H : Heap) (locs : List Loc) (ls : Array Slot), va_P D vwCl (w_X1 cI cB ad_t t_kinds t_now_worths t_now_made t_now_heardOf t_now_heardThing t_now_heardOther t_now_heardMore t_now_lie t_now_changes t_now_heard t_heirs) H → va_D A (w_X1 cI cB ad_t t_kinds t_now_worths t_now_made t_now_heardOf t_now_heardThing t_now_heardOther t_now_heardMore t_now_lie t_now_changes t_now_heard t_heirs) → va_S A s.heap H locs → lv_has ls 4 [(0, .ref (ad_t 0)), (1, .int x1), (2, .int x2), (3, .int x3)] → f_X1_isParted_4 t_heirs  n x1 x2 x3 = some rr → W p l e rm_X1_isParted s m args below meth c H locs 0 0 (Zq D below args s A (w_X1 cI cB ad_t t_kinds t_now_worths t_now_made t_now_heardOf t_now_heardThing t_now_heardOther t_now_heardMore t_now_lie t_now_changes t_now_heard t_heirs) (some (.int rr))) (F0 m 4 ls []) := by
  obtain ⟨hx, hb, hml, hown, hts, hrt, hlocks, hK, hA, hZ⟩ := id F
  intro n
  induction n with
  | zero =>
    intro x1 x2 x3 H locs ls hP hD hS hl hf
    cases hf
  | succ n ih =>
    intro x1 x2 x3 H locs ls hP hD hS hl hf
    refine lv_iload_n hx hb dX1_isParted_4 rfl (lv_at hl 3 rfl) ?_
    refine lv_iconst (v := 4) hx hb dX1_isParted_5 (by decide) ?_
    refine lv_icmp_ge (tgt := 34) hx hb dX1_isParted_6 (by decide) (fun c1 => ?_) (fun c1 => ?_)
    · replace hf := (if_pos c1).symm.trans hf
      exact b_X1_isParted_34 F  x2 H locs ls hP hD hS (lv_sub hl [0, 2] rfl) hf
    · replace hf := (if_neg c1).symm.trans hf
      refine lv_iload_n hx hb dX1_isParted_9 rfl (lv_at hl 3 rfl) ?_
      refine lv_aload_n hx hb dX1_isParted_10 rfl (lv_at hl 0 rfl) ?_
      refine gf F hP in_X1_isParted_X1 0 rfl rfl 2 (by decide) 1 rfl rfl dX1_isParted_11 ?_
      refine lv_icmp_ge (tgt := 34) hx hb dX1_isParted_14 (by decide) (fun c2 => ?_) (fun c2 => ?_)
      · replace hf := (if_pos c2).symm.trans hf
        exact b_X1_isParted_34 F  x2 H locs ls hP hD hS (lv_sub hl [0, 2] rfl) hf
      · replace hf := (if_neg c2).symm.trans hf
        refine lv_iload_n hx hb dX1_isParted_17 rfl (lv_at hl 2 rfl) ?_
        refine lv_iconst (v := 1) hx hb dX1_isParted_18 (by decide) ?_
        refine lv_aload_n hx hb dX1_isParted_19 rfl (lv_at hl 0 rfl) ?_
        refine lv_iload_n hx hb dX1_isParted_20 rfl (lv_at hl 1 rfl) ?_
        refine lv_iload_n hx hb dX1_isParted_21 rfl (lv_at hl 3 rfl) ?_
        obtain ⟨v3, e4, hf⟩ := bnd hf
        refine cV F hP hD hS (k_X1_thingIn l ad_t t_kinds t_now_worths t_now_made t_now_heardOf t_now_heardThing t_now_heardOther t_now_heardMore t_now_lie t_now_changes t_now_heard t_heirs x1 x3 e4) gX1_isParted_X1_thingIn rfl ⟨rfl, rfl⟩ nd_X1_thingIn ⟨Nat.le_of_ble_eq_true rfl, Nat.le_of_ble_eq_true rfl⟩ 0 1 rfl rfl rfl hl.1 rfl (Nat.le_of_ble_eq_true rfl) dX1_isParted_22 (pm0 (w_X1 cI cB ad_t t_kinds t_now_worths t_now_made t_now_heardOf t_now_heardThing t_now_heardOther t_now_heardMore t_now_lie t_now_changes t_now_heard t_heirs)) (pm0 (w_X1 cI cB ad_t t_kinds t_now_worths t_now_made t_now_heardOf t_now_heardThing t_now_heardOther t_now_heardMore t_now_lie t_now_changes t_now_heard t_heirs)) (fun H locs hP hD hS => ?_)
        refine lv_ishl hx hb dX1_isParted_25 ?_
        refine lv_ior hx hb dX1_isParted_26 ?_
        refine lv_istore_n (lv' := [(2, .int (x2 ||| ((1 : Int32) <<< (v3 &&& 31)))), (0, .ref (ad_t 0)), (1, .int x1), (3, .int x3)]) hx hb dX1_isParted_27 rfl hl (by decide) rfl (fun ls hl => ?_)
        refine lv_iinc (v := (x3 + 1)) (lv' := [(3, .int (x3 + 1)), (2, .int (x2 ||| ((1 : Int32) <<< (v3 &&& 31)))), (0, .ref (ad_t 0)), (1, .int x1)]) hx hb dX1_isParted_28 hl (k := 3) rfl rfl (by decide) rfl (fun ls hl => ?_)
        refine lv_goto (tgt := 4) hx hb dX1_isParted_31 (by decide) ?_
        exact ih x1 (x2 ||| ((1 : Int32) <<< (v3 &&& 31))) (x3 + 1) H locs ls hP hD hS (lv_sub hl [2, 3, 1, 0] rfl) hf

set_option maxHeartbeats 4000000 in
set_option maxRecDepth 100000 in
theorem k_X1_isParted (l : Launch) {D : va_G} {cI cB : ClassId} {kK kV : Nat → Nat} (ad_t : Nat → Nat) (t_kinds : Nat → Int32) (t_now_worths : Nat → Int32) (t_now_made : Nat → Int32) (t_now_heardOf : Nat → Int32) (t_now_heardThing : Nat → Int32) (t_now_heardOther : Nat → Int32) (t_now_heardMore : Nat → Int32) (t_now_lie : Int32) (t_now_changes : Int32) (t_now_heard : Int32) (t_heirs : Int32) (x1 : Int32) {rr : Int32}  (hf : f_X1_isParted t_heirs x1 = some rr) : Ct l yX1_isParted wsX1_isParted rm_X1_isParted D cI cB kK kV [.ref (ad_t 0), .int x1] (w_X1 cI cB ad_t t_kinds t_now_worths t_now_made t_now_heardOf t_now_heardThing t_now_heardOther t_now_heardMore t_now_lie t_now_changes t_now_heard t_heirs) (w_X1 cI cB ad_t t_kinds t_now_worths t_now_made t_now_heardOf t_now_heardThing t_now_heardOther t_now_heardMore t_now_lie t_now_changes t_now_heard t_heirs) (some (.int rr)) := by
  refine Ct.of (cc := cX1_isParted) (maxL := 4) (ret := (some .boolean)) (by decide) rfl (Nat.le_of_ble_eq_true rfl) rfl ?_
  intro p e s m below meth c A ls F hP hD hS hl
  have hl : lv_has ls 4 [(0, .ref (ad_t 0)), (1, .int x1)] := hl
  obtain ⟨hx, hb, hml, hown, hts, hrt, hlocks, hK, hA, hZ⟩ := id F
  obtain ⟨H, hH⟩ : ∃ H, H = s.heap := ⟨_, rfl⟩
  obtain ⟨locs, hLo⟩ : ∃ q : List Loc, q = [] := ⟨_, rfl⟩
  refine (?_ : W p l e rm_X1_isParted s m _ below meth c s.heap [] 0 0 _ _)
  rw [← hH, ← hLo]
  rw [← hH] at hP
  have hS : va_S A s.heap H locs := by rw [hH, hLo]; exact hS
  refine lv_iconst (v := 0) hx hb dX1_isParted_0 (by decide) ?_
  refine lv_istore_n (lv' := [(2, .int 0), (0, .ref (ad_t 0)), (1, .int x1)]) hx hb dX1_isParted_1 rfl hl (by decide) rfl (fun ls hl => ?_)
  refine lv_iconst (v := 0) hx hb dX1_isParted_2 (by decide) ?_
  refine lv_istore_n (lv' := [(3, .int 0), (2, .int 0), (0, .ref (ad_t 0)), (1, .int x1)]) hx hb dX1_isParted_3 rfl hl (by decide) rfl (fun ls hl => ?_)
  exact b_X1_isParted_4 F 300 x1 0 0 H locs ls hP hD hS (lv_sub hl [2, 3, 1, 0] rfl) hf

/-! X1_worstLie -/
def rm_X1_worstLie : Room := { frames := 3, cells := 0, slots := 0, locals := 68 }
theorem in_X1_worstLie_X1 : ∀ w ∈ u_ws RX1 TX1 3, w ∈ wsX1_worstLie := fun _ h => List.mem_cons_of_mem _ (List.mem_append_left _ (List.mem_append_left _ (List.mem_append_right _ (h))))
theorem nd_X1_worstLie : yX1_worstLie.cls = RX1 ∧ yX1_worstLie.cls ≠ "java/lang/invoke/MethodHandle" ∧ yX1_worstLie.cls ≠ "java/lang/invoke/VarHandle" ∧ (parseMethodDescriptor yX1_worstLie.desc).map (fun d => d.parameters.length) = some 0 := by decide +kernel
def f_X1_worstLie_7 (t_now_worths : Nat → Int32) (t_heirs : Int32)  : Nat → Int32 → Int32 → Int32 → Option (Int32)
  | 0, _, _, _ => none
  | n + 1, x1, x2, x3 => (if 256 ≤ x3 then some x1 else (if ((1 : Int32) <<< ((2 * t_heirs) &&& 31)) ≤ x3 then some x1 else (f_X1_isParted t_heirs x3).bind (fun v3 => (if v3 = 0 then f_X1_worstLie_7 t_now_worths t_heirs  n x1 x2 (x3 + 1) else (f_X1_sumOf t_now_worths t_heirs x3).bind (fun v6 => (if x2 ≤ v6 then f_X1_worstLie_7 t_now_worths t_heirs  n x1 x2 (x3 + 1) else (f_X1_sumOf t_now_worths t_heirs x3).bind (fun v9 => f_X1_worstLie_7 t_now_worths t_heirs  n x3 v9 (x3 + 1))))))))
def f_X1_worstLie (t_now_worths : Nat → Int32) (t_heirs : Int32)  : Option (Int32) := f_X1_worstLie_7 t_now_worths t_heirs 300 0 37 0
set_option maxHeartbeats 4000000 in
set_option maxRecDepth 100000 in
theorem b_X1_worstLie_7 {p : Program} {l : Launch} {e : Env} {s : State} {m : MethodId} {args : Array Value} {below : List Frame} {meth : Method} {c : Code} {D : va_G} {cI cB : ClassId} {kK kV : Nat → Nat} {A : Nat → Prop} (F : Fx p m c s meth args cX1_worstLie 4 RX1 wsX1_worstLie (some .int) D cI cB kK kV A) {ad_t : Nat → Nat} {t_kinds : Nat → Int32} {t_now_worths : Nat → Int32} {t_now_made : Nat → Int32} {t_now_heardOf : Nat → Int32} {t_now_heardThing : Nat → Int32} {t_now_heardOther : Nat → Int32} {t_now_heardMore : Nat → Int32} {t_now_lie : Int32} {t_now_changes : Int32} {t_now_heard : Int32} {t_heirs : Int32} {rr : Int32}  : ∀ (n : Nat), ∀ (x1 : Int32) (x2 : Int32) (x3 : Int32) (H : Heap) (locs : List Loc) (ls : Array Slot), va_P D vwCl (w_X1 cI cB ad_t t_kinds t_now_worths t_now_made t_now_heardOf t_now_heardThing t_now_heardOther t_now_heardMore t_now_lie t_now_changes t_now_heard t_heirs) H → va_D A (w_X1 cI cB ad_t t_kinds t_now_worths t_now_made t_now_heardOf t_now_heardThing t_now_heardOther t_now_heardMore t_now_lie t_now_changes t_now_heard t_heirs) → va_S A s.heap H locs → lv_has ls 4 [(0, .ref (ad_t 0)), (1, .int x1), (2, .int x2), (3, .int x3)] → f_X1_worstLie_7 t_now_worths t_heirs  n x1 x2 x3 = some rr → W p l e rm_X1_worstLie s m args below meth c H locs 0 0 (Zq D below args s A (w_X1 cI cB ad_t t_kinds t_now_worths t_now_made t_now_heardOf t_now_heardThing t_now_heardOther t_now_heardMore t_now_lie t_now_changes t_now_heard t_heirs) (some (.int rr))) (F0 m 7 ls []) := by
  obtain ⟨hx, hb, hml, hown, hts, hrt, hlocks, hK, hA, hZ⟩ := id F
  intro n
  induction n with
  | zero =>
    intro x1 x2 x3 H locs ls hP hD hS hl hf
    cases hf
  | succ n ih =>
    intro x1 x2 x3 H locs ls hP hD hS hl hf
    refine lv_iload_n hx hb dX1_worstLie_7 rfl (lv_at hl 3 rfl) ?_
    refine lv_sipush (v := 256) hx hb dX1_worstLie_8 (by decide) ?_
    refine lv_icmp_ge (tgt := 57) hx hb dX1_worstLie_11 (by decide) (fun c1 => ?_) (fun c1 => ?_)
    · replace hf := (if_pos c1).symm.trans hf
      refine lv_iload_n hx hb dX1_worstLie_57 rfl (lv_at hl 1 rfl) ?_
      replace hf : (some x1 : Option (Int32)) = some rr := hf
      cases hf
      exact ret_i F hP hS dX1_worstLie_58
    · replace hf := (if_neg c1).symm.trans hf
      refine lv_iload_n hx hb dX1_worstLie_14 rfl (lv_at hl 3 rfl) ?_
      refine lv_iconst (v := 1) hx hb dX1_worstLie_15 (by decide) ?_
      refine lv_iconst (v := 2) hx hb dX1_worstLie_16 (by decide) ?_
      refine lv_aload_n hx hb dX1_worstLie_17 rfl (lv_at hl 0 rfl) ?_
      refine gf F hP in_X1_worstLie_X1 0 rfl rfl 2 (by decide) 1 rfl rfl dX1_worstLie_18 ?_
      refine lv_imul hx hb dX1_worstLie_21 ?_
      refine lv_ishl hx hb dX1_worstLie_22 ?_
      refine lv_icmp_ge (tgt := 57) hx hb dX1_worstLie_23 (by decide) (fun c2 => ?_) (fun c2 => ?_)
      · replace hf := (if_pos c2).symm.trans hf
        refine lv_iload_n hx hb dX1_worstLie_57 rfl (lv_at hl 1 rfl) ?_
        replace hf : (some x1 : Option (Int32)) = some rr := hf
        cases hf
        exact ret_i F hP hS dX1_worstLie_58
      · replace hf := (if_neg c2).symm.trans hf
        refine lv_aload_n hx hb dX1_worstLie_26 rfl (lv_at hl 0 rfl) ?_
        refine lv_iload_n hx hb dX1_worstLie_27 rfl (lv_at hl 3 rfl) ?_
        obtain ⟨v3, e4, hf⟩ := bnd hf
        refine cV F hP hD hS (k_X1_isParted l ad_t t_kinds t_now_worths t_now_made t_now_heardOf t_now_heardThing t_now_heardOther t_now_heardMore t_now_lie t_now_changes t_now_heard t_heirs x3 e4) gX1_worstLie_X1_isParted rfl ⟨rfl, rfl⟩ nd_X1_isParted ⟨Nat.le_of_ble_eq_true rfl, Nat.le_of_ble_eq_true rfl⟩ 0 1 rfl rfl rfl hl.1 rfl (Nat.le_of_ble_eq_true rfl) dX1_worstLie_28 (pm0 (w_X1 cI cB ad_t t_kinds t_now_worths t_now_made t_now_heardOf t_now_heardThing t_now_heardOther t_now_heardMore t_now_lie t_now_changes t_now_heard t_heirs)) (pm0 (w_X1 cI cB ad_t t_kinds t_now_worths t_now_made t_now_heardOf t_now_heardThing t_now_heardOther t_now_heardMore t_now_lie t_now_changes t_now_heard t_heirs)) (fun H locs hP hD hS => ?_)
        refine lv_if_eq (tgt := 51) hx hb dX1_worstLie_31 (by decide) (fun c5 => ?_) (fun c5 => ?_)
        · replace hf := (if_pos c5).symm.trans hf
          refine lv_iinc (v := (x3 + 1)) (lv' := [(3, .int (x3 + 1)), (0, .ref (ad_t 0)), (1, .int x1), (2, .int x2)]) hx hb dX1_worstLie_51 hl (k := 3) rfl rfl (by decide) rfl (fun ls hl => ?_)
          refine lv_goto (tgt := 7) hx hb dX1_worstLie_54 (by decide) ?_
          exact ih x1 x2 (x3 + 1) H locs ls hP hD hS (lv_sub hl [1, 2, 3, 0] rfl) hf
        · replace hf := (if_neg c5).symm.trans hf
          refine lv_aload_n hx hb dX1_worstLie_34 rfl (lv_at hl 0 rfl) ?_
          refine lv_iload_n hx hb dX1_worstLie_35 rfl (lv_at hl 3 rfl) ?_
          obtain ⟨v6, e7, hf⟩ := bnd hf
          refine cV F hP hD hS (k_X1_sumOf l ad_t t_kinds t_now_worths t_now_made t_now_heardOf t_now_heardThing t_now_heardOther t_now_heardMore t_now_lie t_now_changes t_now_heard t_heirs x3 e7) gX1_worstLie_X1_sumOf rfl ⟨rfl, rfl⟩ nd_X1_sumOf ⟨Nat.le_of_ble_eq_true rfl, Nat.le_of_ble_eq_true rfl⟩ 0 1 rfl rfl rfl hl.1 rfl (Nat.le_of_ble_eq_true rfl) dX1_worstLie_36 (pm0 (w_X1 cI cB ad_t t_kinds t_now_worths t_now_made t_now_heardOf t_now_heardThing t_now_heardOther t_now_heardMore t_now_lie t_now_changes t_now_heard t_heirs)) (pm0 (w_X1 cI cB ad_t t_kinds t_now_worths t_now_made t_now_heardOf t_now_heardThing t_now_heardOther t_now_heardMore t_now_lie t_now_changes t_now_heard t_heirs)) (fun H locs hP hD hS => ?_)
          refine lv_iload_n hx hb dX1_worstLie_39 rfl (lv_at hl 2 rfl) ?_
          refine lv_icmp_ge (tgt := 51) hx hb dX1_worstLie_40 (by decide) (fun c8 => ?_) (fun c8 => ?_)
          · replace hf := (if_pos c8).symm.trans hf
            refine lv_iinc (v := (x3 + 1)) (lv' := [(3, .int (x3 + 1)), (0, .ref (ad_t 0)), (1, .int x1), (2, .int x2)]) hx hb dX1_worstLie_51 hl (k := 3) rfl rfl (by decide) rfl (fun ls hl => ?_)
            refine lv_goto (tgt := 7) hx hb dX1_worstLie_54 (by decide) ?_
            exact ih x1 x2 (x3 + 1) H locs ls hP hD hS (lv_sub hl [1, 2, 3, 0] rfl) hf
          · replace hf := (if_neg c8).symm.trans hf
            refine lv_iload_n hx hb dX1_worstLie_43 rfl (lv_at hl 3 rfl) ?_
            refine lv_istore_n (lv' := [(1, .int x3), (0, .ref (ad_t 0)), (2, .int x2), (3, .int x3)]) hx hb dX1_worstLie_44 rfl hl (by decide) rfl (fun ls hl => ?_)
            refine lv_aload_n hx hb dX1_worstLie_45 rfl (lv_at hl 1 rfl) ?_
            refine lv_iload_n hx hb dX1_worstLie_46 rfl (lv_at hl 3 rfl) ?_
            obtain ⟨v9, e10, hf⟩ := bnd hf
            refine cV F hP hD hS (k_X1_sumOf l ad_t t_kinds t_now_worths t_now_made t_now_heardOf t_now_heardThing t_now_heardOther t_now_heardMore t_now_lie t_now_changes t_now_heard t_heirs x3 e10) gX1_worstLie_X1_sumOf rfl ⟨rfl, rfl⟩ nd_X1_sumOf ⟨Nat.le_of_ble_eq_true rfl, Nat.le_of_ble_eq_true rfl⟩ 0 1 rfl rfl rfl hl.1 rfl (Nat.le_of_ble_eq_true rfl) dX1_worstLie_47 (pm0 (w_X1 cI cB ad_t t_kinds t_now_worths t_now_made t_now_heardOf t_now_heardThing t_now_heardOther t_now_heardMore t_now_lie t_now_changes t_now_heard t_heirs)) (pm0 (w_X1 cI cB ad_t t_kinds t_now_worths t_now_made t_now_heardOf t_now_heardThing t_now_heardOther t_now_heardMore t_now_lie t_now_changes t_now_heard t_heirs)) (fun H locs hP hD hS => ?_)
            refine lv_istore_n (lv' := [(2, .int v9), (1, .int x3), (0, .ref (ad_t 0)), (3, .int x3)]) hx hb dX1_worstLie_50 rfl hl (by decide) rfl (fun ls hl => ?_)
            refine lv_iinc (v := (x3 + 1)) (lv' := [(3, .int (x3 + 1)), (2, .int v9), (1, .int x3), (0, .ref (ad_t 0))]) hx hb dX1_worstLie_51 hl (k := 3) rfl rfl (by decide) rfl (fun ls hl => ?_)
            refine lv_goto (tgt := 7) hx hb dX1_worstLie_54 (by decide) ?_
            exact ih x3 v9 (x3 + 1) H locs ls hP hD hS (lv_sub hl [3, 2, 1, 0] rfl) hf

set_option maxHeartbeats 4000000 in
set_option maxRecDepth 100000 in
theorem k_X1_worstLie (l : Launch) {D : va_G} {cI cB : ClassId} {kK kV : Nat → Nat} (ad_t : Nat → Nat) (t_kinds : Nat → Int32) (t_now_worths : Nat → Int32) (t_now_made : Nat → Int32) (t_now_heardOf : Nat → Int32) (t_now_heardThing : Nat → Int32) (t_now_heardOther : Nat → Int32) (t_now_heardMore : Nat → Int32) (t_now_lie : Int32) (t_now_changes : Int32) (t_now_heard : Int32) (t_heirs : Int32)  {rr : Int32}  (hf : f_X1_worstLie t_now_worths t_heirs = some rr) : Ct l yX1_worstLie wsX1_worstLie rm_X1_worstLie D cI cB kK kV [.ref (ad_t 0)] (w_X1 cI cB ad_t t_kinds t_now_worths t_now_made t_now_heardOf t_now_heardThing t_now_heardOther t_now_heardMore t_now_lie t_now_changes t_now_heard t_heirs) (w_X1 cI cB ad_t t_kinds t_now_worths t_now_made t_now_heardOf t_now_heardThing t_now_heardOther t_now_heardMore t_now_lie t_now_changes t_now_heard t_heirs) (some (.int rr)) := by
  refine Ct.of (cc := cX1_worstLie) (maxL := 4) (ret := (some .int)) (by decide) rfl (Nat.le_of_ble_eq_true rfl) rfl ?_
  intro p e s m below meth c A ls F hP hD hS hl
  have hl : lv_has ls 4 [(0, .ref (ad_t 0))] := hl
  obtain ⟨hx, hb, hml, hown, hts, hrt, hlocks, hK, hA, hZ⟩ := id F
  obtain ⟨H, hH⟩ : ∃ H, H = s.heap := ⟨_, rfl⟩
  obtain ⟨locs, hLo⟩ : ∃ q : List Loc, q = [] := ⟨_, rfl⟩
  refine (?_ : W p l e rm_X1_worstLie s m _ below meth c s.heap [] 0 0 _ _)
  rw [← hH, ← hLo]
  rw [← hH] at hP
  have hS : va_S A s.heap H locs := by rw [hH, hLo]; exact hS
  refine lv_iconst (v := 0) hx hb dX1_worstLie_0 (by decide) ?_
  refine lv_istore_n (lv' := [(1, .int 0), (0, .ref (ad_t 0))]) hx hb dX1_worstLie_1 rfl hl (by decide) rfl (fun ls hl => ?_)
  refine lv_bipush (v := 37) hx hb dX1_worstLie_2 (by decide) ?_
  refine lv_istore_n (lv' := [(2, .int 37), (1, .int 0), (0, .ref (ad_t 0))]) hx hb dX1_worstLie_4 rfl hl (by decide) rfl (fun ls hl => ?_)
  refine lv_iconst (v := 0) hx hb dX1_worstLie_5 (by decide) ?_
  refine lv_istore_n (lv' := [(3, .int 0), (2, .int 37), (1, .int 0), (0, .ref (ad_t 0))]) hx hb dX1_worstLie_6 rfl hl (by decide) rfl (fun ls hl => ?_)
  exact b_X1_worstLie_7 F 300 0 37 0 H locs ls hP hD hS (lv_sub hl [3, 2, 1, 0] rfl) hf

/-! X1_wouldBeSo -/
def rm_X1_wouldBeSo : Room := { frames := 1, cells := 0, slots := 0, locals := 23 }
theorem in_X1_wouldBeSo_X1 : ∀ w ∈ u_ws RX1 TX1 3, w ∈ wsX1_wouldBeSo := fun _ h => List.mem_cons_of_mem _ (List.mem_append_left _ (List.mem_append_left _ (List.mem_append_left _ (List.mem_append_right _ (h)))))
theorem in_X1_wouldBeSo_X4 : ∀ w ∈ u_ws RX4 TX4 9, w ∈ wsX1_wouldBeSo := fun _ h => List.mem_cons_of_mem _ (List.mem_append_left _ (List.mem_append_left _ (List.mem_append_right _ (h))))
theorem nd_X1_wouldBeSo : yX1_wouldBeSo.cls = RX1 ∧ yX1_wouldBeSo.cls ≠ "java/lang/invoke/MethodHandle" ∧ yX1_wouldBeSo.cls ≠ "java/lang/invoke/VarHandle" ∧ (parseMethodDescriptor yX1_wouldBeSo.desc).map (fun d => d.parameters.length) = some 3 := by decide +kernel
def f_X1_wouldBeSo_153 (t_now_worths : Nat → Int32) (t_now_heardOf : Nat → Int32) (t_now_heardThing : Nat → Int32) (t_now_heardOther : Nat → Int32) (t_now_heardMore : Nat → Int32) (t_now_heard : Int32) (back_3 : Int32 → Int32 → Int32 → Int32 → Option (Int32)) (x1 : Int32) (x2 : Int32) (x3 : Int32) (x4 : Int32) (k0 : Int32) (k1 : Int32) : Option (Int32) := (if k1 = k0 then back_3 x1 x2 x3 (x4 + 1) else some 0)
def f_X1_wouldBeSo_121 (t_now_worths : Nat → Int32) (t_now_heardOf : Nat → Int32) (t_now_heardThing : Nat → Int32) (t_now_heardOther : Nat → Int32) (t_now_heardMore : Nat → Int32) (t_now_heard : Int32) (back_3 : Int32 → Int32 → Int32 → Int32 → Option (Int32)) (x1 : Int32) (x2 : Int32) (x3 : Int32) (x4 : Int32) (x7 : Int32) (x8 : Int32) (k0 : Int32) : Option (Int32) := (f_X3_get 6 t_now_heardOf x4).bind (fun v1 => (if v1 = x1 then (if x7 ≤ x8 then f_X1_wouldBeSo_153 t_now_worths t_now_heardOf t_now_heardThing t_now_heardOther t_now_heardMore t_now_heard back_3 x1 x2 x3 x4 0 k0 else f_X1_wouldBeSo_153 t_now_worths t_now_heardOf t_now_heardThing t_now_heardOther t_now_heardMore t_now_heard back_3 x1 x2 x3 x4 1 k0) else back_3 x1 x2 x3 (x4 + 1)))
def f_X1_wouldBeSo_98 (t_now_worths : Nat → Int32) (t_now_heardOf : Nat → Int32) (t_now_heardThing : Nat → Int32) (t_now_heardOther : Nat → Int32) (t_now_heardMore : Nat → Int32) (t_now_heard : Int32) (back_3 : Int32 → Int32 → Int32 → Int32 → Option (Int32)) (x1 : Int32) (x2 : Int32) (x3 : Int32) (x4 : Int32) (x7 : Int32) (k0 : Int32) : Option (Int32) := (f_X3_get 6 t_now_heardMore x4).bind (fun v1 => (if v1 = 1 then f_X1_wouldBeSo_121 t_now_worths t_now_heardOf t_now_heardThing t_now_heardOther t_now_heardMore t_now_heard back_3 x1 x2 x3 x4 x7 k0 1 else f_X1_wouldBeSo_121 t_now_worths t_now_heardOf t_now_heardThing t_now_heardOther t_now_heardMore t_now_heard back_3 x1 x2 x3 x4 x7 k0 0))
def f_X1_wouldBeSo_73 (t_now_worths : Nat → Int32) (t_now_heardOf : Nat → Int32) (t_now_heardThing : Nat → Int32) (t_now_heardOther : Nat → Int32) (t_now_heardMore : Nat → Int32) (t_now_heard : Int32) (back_3 : Int32 → Int32 → Int32 → Int32 → Option (Int32)) (x1 : Int32) (x2 : Int32) (x3 : Int32) (x4 : Int32) (x6 : Int32) (k0 : Int32) : Option (Int32) := (if x6 = x2 then f_X1_wouldBeSo_98 t_now_worths t_now_heardOf t_now_heardThing t_now_heardOther t_now_heardMore t_now_heard back_3 x1 x2 x3 x4 k0 x3 else (f_X5_at t_now_worths x1 x6).bind (fun v2 => f_X1_wouldBeSo_98 t_now_worths t_now_heardOf t_now_heardThing t_now_heardOther t_now_heardMore t_now_heard back_3 x1 x2 x3 x4 k0 v2))
def f_X1_wouldBeSo_3 (t_now_worths : Nat → Int32) (t_now_heardOf : Nat → Int32) (t_now_heardThing : Nat → Int32) (t_now_heardOther : Nat → Int32) (t_now_heardMore : Nat → Int32) (t_now_heard : Int32)  : Nat → Int32 → Int32 → Int32 → Int32 → Option (Int32)
  | 0, _, _, _, _ => none
  | n + 1, x1, x2, x3, x4 => (if 6 ≤ x4 then some 1 else (if t_now_heard ≤ x4 then some 1 else (f_X3_get 6 t_now_heardThing x4).bind (fun v3 => (f_X3_get 6 t_now_heardOther x4).bind (fun v5 => (if v3 = x2 then f_X1_wouldBeSo_73 t_now_worths t_now_heardOf t_now_heardThing t_now_heardOther t_now_heardMore t_now_heard (f_X1_wouldBeSo_3 t_now_worths t_now_heardOf t_now_heardThing t_now_heardOther t_now_heardMore t_now_heard  n) x1 x2 x3 x4 v5 x3 else (f_X5_at t_now_worths x1 v3).bind (fun v8 => f_X1_wouldBeSo_73 t_now_worths t_now_heardOf t_now_heardThing t_now_heardOther t_now_heardMore t_now_heard (f_X1_wouldBeSo_3 t_now_worths t_now_heardOf t_now_heardThing t_now_heardOther t_now_heardMore t_now_heard  n) x1 x2 x3 x4 v5 v8))))))
def f_X1_wouldBeSo (t_now_worths : Nat → Int32) (t_now_heardOf : Nat → Int32) (t_now_heardThing : Nat → Int32) (t_now_heardOther : Nat → Int32) (t_now_heardMore : Nat → Int32) (t_now_heard : Int32) (x1 : Int32) (x2 : Int32) (x3 : Int32) : Option (Int32) := f_X1_wouldBeSo_3 t_now_worths t_now_heardOf t_now_heardThing t_now_heardOther t_now_heardMore t_now_heard 300 x1 x2 x3 0
set_option maxHeartbeats 4000000 in
set_option maxRecDepth 100000 in
theorem b_X1_wouldBeSo_153 {p : Program} {l : Launch} {e : Env} {s : State} {m : MethodId} {args : Array Value} {below : List Frame} {meth : Method} {c : Code} {D : va_G} {cI cB : ClassId} {kK kV : Nat → Nat} {A : Nat → Prop} (F : Fx p m c s meth args cX1_wouldBeSo 10 RX1 wsX1_wouldBeSo (some .boolean) D cI cB kK kV A) {ad_t : Nat → Nat} {t_kinds : Nat → Int32} {t_now_worths : Nat → Int32} {t_now_made : Nat → Int32} {t_now_heardOf : Nat → Int32} {t_now_heardThing : Nat → Int32} {t_now_heardOther : Nat → Int32} {t_now_heardMore : Nat → Int32} {t_now_lie : Int32} {t_now_changes : Int32} {t_now_heard : Int32} {t_heirs : Int32} {rr : Int32}  (back_3 : Int32 → Int32 → Int32 → Int32 → Option (Int32)) (hb_3 : ∀ (x1 : Int32) (x2 : Int32) (x3 : Int32) (x4 : Int32) (H : Heap) (locs : List Loc) (ls : Array Slot), va_P D vwCl (w_X1 cI cB ad_t t_kinds t_now_worths t_now_made t_now_heardOf t_now_heardThing t_now_heardOther t_now_heardMore t_now_lie t_now_changes t_now_heard t_heirs) H → va_D A (w_X1 cI cB ad_t t_kinds t_now_worths t_now_made t_now_heardOf t_now_heardThing t_now_heardOther t_now_heardMore t_now_lie t_now_changes t_now_heard t_heirs) → va_S A s.heap H locs → lv_has ls 10 [(0, .ref (ad_t 0)), (1, .int x1), (2, .int x2), (3, .int x3), (4, .int x4)] → back_3 x1 x2 x3 x4 = some rr → W p l e rm_X1_wouldBeSo s m args below meth c H locs 0 0 (Zq D below args s A (w_X1 cI cB ad_t t_kinds t_now_worths t_now_made t_now_heardOf t_now_heardThing t_now_heardOther t_now_heardMore t_now_lie t_now_changes t_now_heard t_heirs) (some (.int rr))) (F0 m 3 ls [])) : ∀ (x1 : Int32) (x2 : Int32) (x3 : Int32) (x4 : Int32) (k0 : Int32) (k1 : Int32) (H : Heap) (locs : List Loc) (ls : Array Slot), va_P D vwCl (w_X1 cI cB ad_t t_kinds t_now_worths t_now_made t_now_heardOf t_now_heardThing t_now_heardOther t_now_heardMore t_now_lie t_now_changes t_now_heard t_heirs) H → va_D A (w_X1 cI cB ad_t t_kinds t_now_worths t_now_made t_now_heardOf t_now_heardThing t_now_heardOther t_now_heardMore t_now_lie t_now_changes t_now_heard t_heirs) → va_S A s.heap H locs → lv_has ls 10 [(0, .ref (ad_t 0)), (1, .int x1), (2, .int x2), (3, .int x3), (4, .int x4)] → f_X1_wouldBeSo_153 t_now_worths t_now_heardOf t_now_heardThing t_now_heardOther t_now_heardMore t_now_heard back_3 x1 x2 x3 x4 k0 k1 = some rr → W p l e rm_X1_wouldBeSo s m args below meth c H locs 0 0 (Zq D below args s A (w_X1 cI cB ad_t t_kinds t_now_worths t_now_made t_now_heardOf t_now_heardThing t_now_heardOther t_now_heardMore t_now_lie t_now_changes t_now_heard t_heirs) (some (.int rr))) (F0 m 153 ls [.int k0, .int k1]) := by
  obtain ⟨hx, hb, hml, hown, hts, hrt, hlocks, hK, hA, hZ⟩ := id F
  intro x1 x2 x3 x4 k0 k1 H locs ls hP hD hS hl hf
  refine lv_icmp_eq (tgt := 158) hx hb dX1_wouldBeSo_153 (by decide) (fun c1 => ?_) (fun c1 => ?_)
  · replace hf := (if_pos c1).symm.trans hf
    refine lv_iinc (v := (x4 + 1)) (lv' := [(4, .int (x4 + 1)), (0, .ref (ad_t 0)), (1, .int x1), (2, .int x2), (3, .int x3)]) hx hb dX1_wouldBeSo_158 hl (k := 4) rfl rfl (by decide) rfl (fun ls hl => ?_)
    refine lv_goto (tgt := 3) hx hb dX1_wouldBeSo_161 (by decide) ?_
    exact hb_3 x1 x2 x3 (x4 + 1) H locs ls hP hD hS (lv_sub hl [1, 2, 3, 4, 0] rfl) hf
  · replace hf := (if_neg c1).symm.trans hf
    refine lv_iconst (v := 0) hx hb dX1_wouldBeSo_156 (by decide) ?_
    replace hf : (some 0 : Option (Int32)) = some rr := hf
    cases hf
    exact ret_z F rfl hP hS dX1_wouldBeSo_157

set_option maxHeartbeats 4000000 in
set_option maxRecDepth 100000 in
theorem b_X1_wouldBeSo_121 {p : Program} {l : Launch} {e : Env} {s : State} {m : MethodId} {args : Array Value} {below : List Frame} {meth : Method} {c : Code} {D : va_G} {cI cB : ClassId} {kK kV : Nat → Nat} {A : Nat → Prop} (F : Fx p m c s meth args cX1_wouldBeSo 10 RX1 wsX1_wouldBeSo (some .boolean) D cI cB kK kV A) {ad_t : Nat → Nat} {t_kinds : Nat → Int32} {t_now_worths : Nat → Int32} {t_now_made : Nat → Int32} {t_now_heardOf : Nat → Int32} {t_now_heardThing : Nat → Int32} {t_now_heardOther : Nat → Int32} {t_now_heardMore : Nat → Int32} {t_now_lie : Int32} {t_now_changes : Int32} {t_now_heard : Int32} {t_heirs : Int32} {rr : Int32}  (back_3 : Int32 → Int32 → Int32 → Int32 → Option (Int32)) (hb_3 : ∀ (x1 : Int32) (x2 : Int32) (x3 : Int32) (x4 : Int32) (H : Heap) (locs : List Loc) (ls : Array Slot), va_P D vwCl (w_X1 cI cB ad_t t_kinds t_now_worths t_now_made t_now_heardOf t_now_heardThing t_now_heardOther t_now_heardMore t_now_lie t_now_changes t_now_heard t_heirs) H → va_D A (w_X1 cI cB ad_t t_kinds t_now_worths t_now_made t_now_heardOf t_now_heardThing t_now_heardOther t_now_heardMore t_now_lie t_now_changes t_now_heard t_heirs) → va_S A s.heap H locs → lv_has ls 10 [(0, .ref (ad_t 0)), (1, .int x1), (2, .int x2), (3, .int x3), (4, .int x4)] → back_3 x1 x2 x3 x4 = some rr → W p l e rm_X1_wouldBeSo s m args below meth c H locs 0 0 (Zq D below args s A (w_X1 cI cB ad_t t_kinds t_now_worths t_now_made t_now_heardOf t_now_heardThing t_now_heardOther t_now_heardMore t_now_lie t_now_changes t_now_heard t_heirs) (some (.int rr))) (F0 m 3 ls [])) : ∀ (x1 : Int32) (x2 : Int32) (x3 : Int32) (x4 : Int32) (x7 : Int32) (x8 : Int32) (k0 : Int32) (H : Heap) (locs : List Loc) (ls : Array Slot), va_P D vwCl (w_X1 cI cB ad_t t_kinds t_now_worths t_now_made t_now_heardOf t_now_heardThing t_now_heardOther t_now_heardMore t_now_lie t_now_changes t_now_heard t_heirs) H → va_D A (w_X1 cI cB ad_t t_kinds t_now_worths t_now_made t_now_heardOf t_now_heardThing t_now_heardOther t_now_heardMore t_now_lie t_now_changes t_now_heard t_heirs) → va_S A s.heap H locs → lv_has ls 10 [(0, .ref (ad_t 0)), (1, .int x1), (2, .int x2), (3, .int x3), (4, .int x4), (7, .int x7), (8, .int x8)] → f_X1_wouldBeSo_121 t_now_worths t_now_heardOf t_now_heardThing t_now_heardOther t_now_heardMore t_now_heard back_3 x1 x2 x3 x4 x7 x8 k0 = some rr → W p l e rm_X1_wouldBeSo s m args below meth c H locs 0 0 (Zq D below args s A (w_X1 cI cB ad_t t_kinds t_now_worths t_now_made t_now_heardOf t_now_heardThing t_now_heardOther t_now_heardMore t_now_lie t_now_changes t_now_heard t_heirs) (some (.int rr))) (F0 m 121 ls [.int k0]) := by
  obtain ⟨hx, hb, hml, hown, hts, hrt, hlocks, hK, hA, hZ⟩ := id F
  intro x1 x2 x3 x4 x7 x8 k0 H locs ls hP hD hS hl hf
  refine lv_istore (lv' := [(9, .int k0), (0, .ref (ad_t 0)), (1, .int x1), (2, .int x2), (3, .int x3), (4, .int x4), (7, .int x7), (8, .int x8)]) hx hb dX1_wouldBeSo_121 hl (by decide) rfl (fun ls hl => ?_)
  refine lv_aload_n hx hb dX1_wouldBeSo_123 rfl (lv_at hl 1 rfl) ?_
  refine gf F hP in_X1_wouldBeSo_X1 0 rfl rfl 1 (by decide) 1 rfl rfl dX1_wouldBeSo_124 ?_
  refine gfN F hP in_X1_wouldBeSo_X4 3 rfl rfl 2 (by decide) 23 rfl rfl dX1_wouldBeSo_127 ?_
  refine lv_iload hx hb dX1_wouldBeSo_130 (lv_at hl 5 rfl) ?_
  obtain ⟨v1, e2, hf⟩ := bnd hf
  refine cV F hP hD hS (k_X3_get l (sh ad_t 8) 6 t_now_heardOf x4 e2) gX1_wouldBeSo_X3_get rfl ⟨rfl, rfl⟩ nd_X3_get ⟨Nat.le_of_ble_eq_true rfl, Nat.le_of_ble_eq_true rfl⟩ 8 3 rfl rfl rfl hl.1 rfl (Nat.le_of_ble_eq_true rfl) dX1_wouldBeSo_132 (pm1 (ws := (w_X1 cI cB ad_t t_kinds t_now_worths t_now_made t_now_heardOf t_now_heardThing t_now_heardOther t_now_heardMore t_now_lie t_now_changes t_now_heard t_heirs)) (X := List.take 8 (w_X1 cI cB ad_t t_kinds t_now_worths t_now_made t_now_heardOf t_now_heardThing t_now_heardOther t_now_heardMore t_now_lie t_now_changes t_now_heard t_heirs)) (Y := List.drop 10 (w_X1 cI cB ad_t t_kinds t_now_worths t_now_made t_now_heardOf t_now_heardThing t_now_heardOther t_now_heardMore t_now_lie t_now_changes t_now_heard t_heirs)) rfl) (pm1 (ws := (w_X1 cI cB ad_t t_kinds t_now_worths t_now_made t_now_heardOf t_now_heardThing t_now_heardOther t_now_heardMore t_now_lie t_now_changes t_now_heard t_heirs)) (X := List.take 8 (w_X1 cI cB ad_t t_kinds t_now_worths t_now_made t_now_heardOf t_now_heardThing t_now_heardOther t_now_heardMore t_now_lie t_now_changes t_now_heard t_heirs)) (Y := List.drop 10 (w_X1 cI cB ad_t t_kinds t_now_worths t_now_made t_now_heardOf t_now_heardThing t_now_heardOther t_now_heardMore t_now_lie t_now_changes t_now_heard t_heirs)) rfl) (fun H locs hP hD hS => ?_)
  refine lv_iload_n hx hb dX1_wouldBeSo_135 rfl (lv_at hl 2 rfl) ?_
  refine lv_icmp_ne (tgt := 158) hx hb dX1_wouldBeSo_136 (by decide) (fun c3 => ?_) (fun c3 => ?_)
  · replace hf := (if_neg c3).symm.trans hf
    refine lv_iinc (v := (x4 + 1)) (lv' := [(4, .int (x4 + 1)), (9, .int k0), (0, .ref (ad_t 0)), (1, .int x1), (2, .int x2), (3, .int x3), (7, .int x7), (8, .int x8)]) hx hb dX1_wouldBeSo_158 hl (k := 5) rfl rfl (by decide) rfl (fun ls hl => ?_)
    refine lv_goto (tgt := 3) hx hb dX1_wouldBeSo_161 (by decide) ?_
    exact hb_3 x1 x2 x3 (x4 + 1) H locs ls hP hD hS (lv_sub hl [2, 3, 4, 5, 0] rfl) hf
  · replace hf := (if_pos c3).symm.trans hf
    refine lv_iload hx hb dX1_wouldBeSo_139 (lv_at hl 0 rfl) ?_
    refine lv_iload hx hb dX1_wouldBeSo_141 (lv_at hl 6 rfl) ?_
    refine lv_iload hx hb dX1_wouldBeSo_143 (lv_at hl 7 rfl) ?_
    refine lv_icmp_le (tgt := 152) hx hb dX1_wouldBeSo_145 (by decide) (fun c4 => ?_) (fun c4 => ?_)
    · replace hf := (if_pos c4).symm.trans hf
      refine lv_iconst (v := 0) hx hb dX1_wouldBeSo_152 (by decide) ?_
      exact b_X1_wouldBeSo_153 F back_3 hb_3 x1 x2 x3 x4 0 k0 H locs ls hP hD hS (lv_sub hl [1, 2, 3, 4, 5] rfl) hf
    · replace hf := (if_neg c4).symm.trans hf
      refine lv_iconst (v := 1) hx hb dX1_wouldBeSo_148 (by decide) ?_
      refine lv_goto (tgt := 153) hx hb dX1_wouldBeSo_149 (by decide) ?_
      exact b_X1_wouldBeSo_153 F back_3 hb_3 x1 x2 x3 x4 1 k0 H locs ls hP hD hS (lv_sub hl [1, 2, 3, 4, 5] rfl) hf

set_option maxHeartbeats 4000000 in
set_option maxRecDepth 100000 in
theorem b_X1_wouldBeSo_98 {p : Program} {l : Launch} {e : Env} {s : State} {m : MethodId} {args : Array Value} {below : List Frame} {meth : Method} {c : Code} {D : va_G} {cI cB : ClassId} {kK kV : Nat → Nat} {A : Nat → Prop} (F : Fx p m c s meth args cX1_wouldBeSo 10 RX1 wsX1_wouldBeSo (some .boolean) D cI cB kK kV A) {ad_t : Nat → Nat} {t_kinds : Nat → Int32} {t_now_worths : Nat → Int32} {t_now_made : Nat → Int32} {t_now_heardOf : Nat → Int32} {t_now_heardThing : Nat → Int32} {t_now_heardOther : Nat → Int32} {t_now_heardMore : Nat → Int32} {t_now_lie : Int32} {t_now_changes : Int32} {t_now_heard : Int32} {t_heirs : Int32} {rr : Int32}  (back_3 : Int32 → Int32 → Int32 → Int32 → Option (Int32)) (hb_3 : ∀ (x1 : Int32) (x2 : Int32) (x3 : Int32) (x4 : Int32) (H : Heap) (locs : List Loc) (ls : Array Slot), va_P D vwCl (w_X1 cI cB ad_t t_kinds t_now_worths t_now_made t_now_heardOf t_now_heardThing t_now_heardOther t_now_heardMore t_now_lie t_now_changes t_now_heard t_heirs) H → va_D A (w_X1 cI cB ad_t t_kinds t_now_worths t_now_made t_now_heardOf t_now_heardThing t_now_heardOther t_now_heardMore t_now_lie t_now_changes t_now_heard t_heirs) → va_S A s.heap H locs → lv_has ls 10 [(0, .ref (ad_t 0)), (1, .int x1), (2, .int x2), (3, .int x3), (4, .int x4)] → back_3 x1 x2 x3 x4 = some rr → W p l e rm_X1_wouldBeSo s m args below meth c H locs 0 0 (Zq D below args s A (w_X1 cI cB ad_t t_kinds t_now_worths t_now_made t_now_heardOf t_now_heardThing t_now_heardOther t_now_heardMore t_now_lie t_now_changes t_now_heard t_heirs) (some (.int rr))) (F0 m 3 ls [])) : ∀ (x1 : Int32) (x2 : Int32) (x3 : Int32) (x4 : Int32) (x7 : Int32) (k0 : Int32) (H : Heap) (locs : List Loc) (ls : Array Slot), va_P D vwCl (w_X1 cI cB ad_t t_kinds t_now_worths t_now_made t_now_heardOf t_now_heardThing t_now_heardOther t_now_heardMore t_now_lie t_now_changes t_now_heard t_heirs) H → va_D A (w_X1 cI cB ad_t t_kinds t_now_worths t_now_made t_now_heardOf t_now_heardThing t_now_heardOther t_now_heardMore t_now_lie t_now_changes t_now_heard t_heirs) → va_S A s.heap H locs → lv_has ls 10 [(0, .ref (ad_t 0)), (1, .int x1), (2, .int x2), (3, .int x3), (4, .int x4), (7, .int x7)] → f_X1_wouldBeSo_98 t_now_worths t_now_heardOf t_now_heardThing t_now_heardOther t_now_heardMore t_now_heard back_3 x1 x2 x3 x4 x7 k0 = some rr → W p l e rm_X1_wouldBeSo s m args below meth c H locs 0 0 (Zq D below args s A (w_X1 cI cB ad_t t_kinds t_now_worths t_now_made t_now_heardOf t_now_heardThing t_now_heardOther t_now_heardMore t_now_lie t_now_changes t_now_heard t_heirs) (some (.int rr))) (F0 m 98 ls [.int k0]) := by
  obtain ⟨hx, hb, hml, hown, hts, hrt, hlocks, hK, hA, hZ⟩ := id F
  intro x1 x2 x3 x4 x7 k0 H locs ls hP hD hS hl hf
  refine lv_istore (lv' := [(8, .int k0), (0, .ref (ad_t 0)), (1, .int x1), (2, .int x2), (3, .int x3), (4, .int x4), (7, .int x7)]) hx hb dX1_wouldBeSo_98 hl (by decide) rfl (fun ls hl => ?_)
  refine lv_aload_n hx hb dX1_wouldBeSo_100 rfl (lv_at hl 1 rfl) ?_
  refine gf F hP in_X1_wouldBeSo_X1 0 rfl rfl 1 (by decide) 1 rfl rfl dX1_wouldBeSo_101 ?_
  refine gfN F hP in_X1_wouldBeSo_X4 3 rfl rfl 5 (by decide) 22 rfl rfl dX1_wouldBeSo_104 ?_
  refine lv_iload hx hb dX1_wouldBeSo_107 (lv_at hl 5 rfl) ?_
  obtain ⟨v1, e2, hf⟩ := bnd hf
  refine cV F hP hD hS (k_X3_get l (sh ad_t 14) 6 t_now_heardMore x4 e2) gX1_wouldBeSo_X3_get rfl ⟨rfl, rfl⟩ nd_X3_get ⟨Nat.le_of_ble_eq_true rfl, Nat.le_of_ble_eq_true rfl⟩ 14 3 rfl rfl rfl hl.1 rfl (Nat.le_of_ble_eq_true rfl) dX1_wouldBeSo_109 (pm1 (ws := (w_X1 cI cB ad_t t_kinds t_now_worths t_now_made t_now_heardOf t_now_heardThing t_now_heardOther t_now_heardMore t_now_lie t_now_changes t_now_heard t_heirs)) (X := List.take 14 (w_X1 cI cB ad_t t_kinds t_now_worths t_now_made t_now_heardOf t_now_heardThing t_now_heardOther t_now_heardMore t_now_lie t_now_changes t_now_heard t_heirs)) (Y := List.drop 16 (w_X1 cI cB ad_t t_kinds t_now_worths t_now_made t_now_heardOf t_now_heardThing t_now_heardOther t_now_heardMore t_now_lie t_now_changes t_now_heard t_heirs)) rfl) (pm1 (ws := (w_X1 cI cB ad_t t_kinds t_now_worths t_now_made t_now_heardOf t_now_heardThing t_now_heardOther t_now_heardMore t_now_lie t_now_changes t_now_heard t_heirs)) (X := List.take 14 (w_X1 cI cB ad_t t_kinds t_now_worths t_now_made t_now_heardOf t_now_heardThing t_now_heardOther t_now_heardMore t_now_lie t_now_changes t_now_heard t_heirs)) (Y := List.drop 16 (w_X1 cI cB ad_t t_kinds t_now_worths t_now_made t_now_heardOf t_now_heardThing t_now_heardOther t_now_heardMore t_now_lie t_now_changes t_now_heard t_heirs)) rfl) (fun H locs hP hD hS => ?_)
  refine lv_iconst (v := 1) hx hb dX1_wouldBeSo_112 (by decide) ?_
  refine lv_icmp_ne (tgt := 120) hx hb dX1_wouldBeSo_113 (by decide) (fun c3 => ?_) (fun c3 => ?_)
  · replace hf := (if_neg c3).symm.trans hf
    refine lv_iconst (v := 0) hx hb dX1_wouldBeSo_120 (by decide) ?_
    exact b_X1_wouldBeSo_121 F back_3 hb_3 x1 x2 x3 x4 x7 k0 0 H locs ls hP hD hS (lv_sub hl [1, 2, 3, 4, 5, 6, 0] rfl) hf
  · replace hf := (if_pos c3).symm.trans hf
    refine lv_iconst (v := 1) hx hb dX1_wouldBeSo_116 (by decide) ?_
    refine lv_goto (tgt := 121) hx hb dX1_wouldBeSo_117 (by decide) ?_
    exact b_X1_wouldBeSo_121 F back_3 hb_3 x1 x2 x3 x4 x7 k0 1 H locs ls hP hD hS (lv_sub hl [1, 2, 3, 4, 5, 6, 0] rfl) hf

set_option maxHeartbeats 4000000 in
set_option maxRecDepth 100000 in
theorem b_X1_wouldBeSo_73 {p : Program} {l : Launch} {e : Env} {s : State} {m : MethodId} {args : Array Value} {below : List Frame} {meth : Method} {c : Code} {D : va_G} {cI cB : ClassId} {kK kV : Nat → Nat} {A : Nat → Prop} (F : Fx p m c s meth args cX1_wouldBeSo 10 RX1 wsX1_wouldBeSo (some .boolean) D cI cB kK kV A) {ad_t : Nat → Nat} {t_kinds : Nat → Int32} {t_now_worths : Nat → Int32} {t_now_made : Nat → Int32} {t_now_heardOf : Nat → Int32} {t_now_heardThing : Nat → Int32} {t_now_heardOther : Nat → Int32} {t_now_heardMore : Nat → Int32} {t_now_lie : Int32} {t_now_changes : Int32} {t_now_heard : Int32} {t_heirs : Int32} {rr : Int32}  (back_3 : Int32 → Int32 → Int32 → Int32 → Option (Int32)) (hb_3 : ∀ (x1 : Int32) (x2 : Int32) (x3 : Int32) (x4 : Int32) (H : Heap) (locs : List Loc) (ls : Array Slot), va_P D vwCl (w_X1 cI cB ad_t t_kinds t_now_worths t_now_made t_now_heardOf t_now_heardThing t_now_heardOther t_now_heardMore t_now_lie t_now_changes t_now_heard t_heirs) H → va_D A (w_X1 cI cB ad_t t_kinds t_now_worths t_now_made t_now_heardOf t_now_heardThing t_now_heardOther t_now_heardMore t_now_lie t_now_changes t_now_heard t_heirs) → va_S A s.heap H locs → lv_has ls 10 [(0, .ref (ad_t 0)), (1, .int x1), (2, .int x2), (3, .int x3), (4, .int x4)] → back_3 x1 x2 x3 x4 = some rr → W p l e rm_X1_wouldBeSo s m args below meth c H locs 0 0 (Zq D below args s A (w_X1 cI cB ad_t t_kinds t_now_worths t_now_made t_now_heardOf t_now_heardThing t_now_heardOther t_now_heardMore t_now_lie t_now_changes t_now_heard t_heirs) (some (.int rr))) (F0 m 3 ls [])) : ∀ (x1 : Int32) (x2 : Int32) (x3 : Int32) (x4 : Int32) (x6 : Int32) (k0 : Int32) (H : Heap) (locs : List Loc) (ls : Array Slot), va_P D vwCl (w_X1 cI cB ad_t t_kinds t_now_worths t_now_made t_now_heardOf t_now_heardThing t_now_heardOther t_now_heardMore t_now_lie t_now_changes t_now_heard t_heirs) H → va_D A (w_X1 cI cB ad_t t_kinds t_now_worths t_now_made t_now_heardOf t_now_heardThing t_now_heardOther t_now_heardMore t_now_lie t_now_changes t_now_heard t_heirs) → va_S A s.heap H locs → lv_has ls 10 [(0, .ref (ad_t 0)), (1, .int x1), (2, .int x2), (3, .int x3), (4, .int x4), (6, .int x6)] → f_X1_wouldBeSo_73 t_now_worths t_now_heardOf t_now_heardThing t_now_heardOther t_now_heardMore t_now_heard back_3 x1 x2 x3 x4 x6 k0 = some rr → W p l e rm_X1_wouldBeSo s m args below meth c H locs 0 0 (Zq D below args s A (w_X1 cI cB ad_t t_kinds t_now_worths t_now_made t_now_heardOf t_now_heardThing t_now_heardOther t_now_heardMore t_now_lie t_now_changes t_now_heard t_heirs) (some (.int rr))) (F0 m 73 ls [.int k0]) := by
  obtain ⟨hx, hb, hml, hown, hts, hrt, hlocks, hK, hA, hZ⟩ := id F
  intro x1 x2 x3 x4 x6 k0 H locs ls hP hD hS hl hf
  refine lv_istore (lv' := [(7, .int k0), (0, .ref (ad_t 0)), (1, .int x1), (2, .int x2), (3, .int x3), (4, .int x4), (6, .int x6)]) hx hb dX1_wouldBeSo_73 hl (by decide) rfl (fun ls hl => ?_)
  refine lv_iload hx hb dX1_wouldBeSo_75 (lv_at hl 6 rfl) ?_
  refine lv_iload_n hx hb dX1_wouldBeSo_77 rfl (lv_at hl 3 rfl) ?_
  refine lv_icmp_ne (tgt := 85) hx hb dX1_wouldBeSo_78 (by decide) (fun c1 => ?_) (fun c1 => ?_)
  · replace hf := (if_neg c1).symm.trans hf
    refine lv_aload_n hx hb dX1_wouldBeSo_85 rfl (lv_at hl 1 rfl) ?_
    refine gf F hP in_X1_wouldBeSo_X1 0 rfl rfl 1 (by decide) 1 rfl rfl dX1_wouldBeSo_86 ?_
    refine gfN F hP in_X1_wouldBeSo_X4 3 rfl rfl 0 (by decide) 17 rfl rfl dX1_wouldBeSo_89 ?_
    refine lv_iload_n hx hb dX1_wouldBeSo_92 rfl (lv_at hl 2 rfl) ?_
    refine lv_iload hx hb dX1_wouldBeSo_93 (lv_at hl 6 rfl) ?_
    obtain ⟨v2, e3, hf⟩ := bnd hf
    refine cV F hP hD hS (k_X5_at l (sh ad_t 4) t_now_worths x1 x6 e3) gX1_wouldBeSo_X5_at rfl ⟨rfl, rfl⟩ nd_X5_at ⟨Nat.le_of_ble_eq_true rfl, Nat.le_of_ble_eq_true rfl⟩ 4 5 rfl rfl rfl hl.1 rfl (Nat.le_of_ble_eq_true rfl) dX1_wouldBeSo_95 (pm1 (ws := (w_X1 cI cB ad_t t_kinds t_now_worths t_now_made t_now_heardOf t_now_heardThing t_now_heardOther t_now_heardMore t_now_lie t_now_changes t_now_heard t_heirs)) (X := List.take 4 (w_X1 cI cB ad_t t_kinds t_now_worths t_now_made t_now_heardOf t_now_heardThing t_now_heardOther t_now_heardMore t_now_lie t_now_changes t_now_heard t_heirs)) (Y := List.drop 6 (w_X1 cI cB ad_t t_kinds t_now_worths t_now_made t_now_heardOf t_now_heardThing t_now_heardOther t_now_heardMore t_now_lie t_now_changes t_now_heard t_heirs)) rfl) (pm1 (ws := (w_X1 cI cB ad_t t_kinds t_now_worths t_now_made t_now_heardOf t_now_heardThing t_now_heardOther t_now_heardMore t_now_lie t_now_changes t_now_heard t_heirs)) (X := List.take 4 (w_X1 cI cB ad_t t_kinds t_now_worths t_now_made t_now_heardOf t_now_heardThing t_now_heardOther t_now_heardMore t_now_lie t_now_changes t_now_heard t_heirs)) (Y := List.drop 6 (w_X1 cI cB ad_t t_kinds t_now_worths t_now_made t_now_heardOf t_now_heardThing t_now_heardOther t_now_heardMore t_now_lie t_now_changes t_now_heard t_heirs)) rfl) (fun H locs hP hD hS => ?_)
    exact b_X1_wouldBeSo_98 F back_3 hb_3 x1 x2 x3 x4 k0 v2 H locs ls hP hD hS (lv_sub hl [1, 2, 3, 4, 5, 0] rfl) hf
  · replace hf := (if_pos c1).symm.trans hf
    refine lv_iload_n hx hb dX1_wouldBeSo_81 rfl (lv_at hl 4 rfl) ?_
    refine lv_goto (tgt := 98) hx hb dX1_wouldBeSo_82 (by decide) ?_
    exact b_X1_wouldBeSo_98 F back_3 hb_3 x1 x2 x3 x4 k0 x3 H locs ls hP hD hS (lv_sub hl [1, 2, 3, 4, 5, 0] rfl) hf

set_option maxHeartbeats 4000000 in
set_option maxRecDepth 100000 in
theorem b_X1_wouldBeSo_3 {p : Program} {l : Launch} {e : Env} {s : State} {m : MethodId} {args : Array Value} {below : List Frame} {meth : Method} {c : Code} {D : va_G} {cI cB : ClassId} {kK kV : Nat → Nat} {A : Nat → Prop} (F : Fx p m c s meth args cX1_wouldBeSo 10 RX1 wsX1_wouldBeSo (some .boolean) D cI cB kK kV A) {ad_t : Nat → Nat} {t_kinds : Nat → Int32} {t_now_worths : Nat → Int32} {t_now_made : Nat → Int32} {t_now_heardOf : Nat → Int32} {t_now_heardThing : Nat → Int32} {t_now_heardOther : Nat → Int32} {t_now_heardMore : Nat → Int32} {t_now_lie : Int32} {t_now_changes : Int32} {t_now_heard : Int32} {t_heirs : Int32} {rr : Int32}  : ∀ (n : Nat), ∀ (x1 : Int32) (x2 : Int32) (x3 : Int32) (x4 : Int32) (H : Heap) (locs : List Loc) (ls : Array Slot), va_P D vwCl (w_X1 cI cB ad_t t_kinds t_now_worths t_now_made t_now_heardOf t_now_heardThing t_now_heardOther t_now_heardMore t_now_lie t_now_changes t_now_heard t_heirs) H → va_D A (w_X1 cI cB ad_t t_kinds t_now_worths t_now_made t_now_heardOf t_now_heardThing t_now_heardOther t_now_heardMore t_now_lie t_now_changes t_now_heard t_heirs) → va_S A s.heap H locs → lv_has ls 10 [(0, .ref (ad_t 0)), (1, .int x1), (2, .int x2), (3, .int x3), (4, .int x4)] → f_X1_wouldBeSo_3 t_now_worths t_now_heardOf t_now_heardThing t_now_heardOther t_now_heardMore t_now_heard  n x1 x2 x3 x4 = some rr → W p l e rm_X1_wouldBeSo s m args below meth c H locs 0 0 (Zq D below args s A (w_X1 cI cB ad_t t_kinds t_now_worths t_now_made t_now_heardOf t_now_heardThing t_now_heardOther t_now_heardMore t_now_lie t_now_changes t_now_heard t_heirs) (some (.int rr))) (F0 m 3 ls []) := by
  obtain ⟨hx, hb, hml, hown, hts, hrt, hlocks, hK, hA, hZ⟩ := id F
  intro n
  induction n with
  | zero =>
    intro x1 x2 x3 x4 H locs ls hP hD hS hl hf
    cases hf
  | succ n ih =>
    intro x1 x2 x3 x4 H locs ls hP hD hS hl hf
    refine lv_iload hx hb dX1_wouldBeSo_3 (lv_at hl 4 rfl) ?_
    refine lv_bipush (v := 6) hx hb dX1_wouldBeSo_5 (by decide) ?_
    refine lv_icmp_ge (tgt := 164) hx hb dX1_wouldBeSo_7 (by decide) (fun c1 => ?_) (fun c1 => ?_)
    · replace hf := (if_pos c1).symm.trans hf
      refine lv_iconst (v := 1) hx hb dX1_wouldBeSo_164 (by decide) ?_
      replace hf : (some 1 : Option (Int32)) = some rr := hf
      cases hf
      exact ret_z F rfl hP hS dX1_wouldBeSo_165
    · replace hf := (if_neg c1).symm.trans hf
      refine lv_iload hx hb dX1_wouldBeSo_10 (lv_at hl 4 rfl) ?_
      refine lv_aload_n hx hb dX1_wouldBeSo_12 rfl (lv_at hl 0 rfl) ?_
      refine gf F hP in_X1_wouldBeSo_X1 0 rfl rfl 1 (by decide) 1 rfl rfl dX1_wouldBeSo_13 ?_
      refine gfN F hP in_X1_wouldBeSo_X4 3 rfl rfl 8 (by decide) 19 rfl rfl dX1_wouldBeSo_16 ?_
      refine lv_icmp_ge (tgt := 164) hx hb dX1_wouldBeSo_19 (by decide) (fun c2 => ?_) (fun c2 => ?_)
      · replace hf := (if_pos c2).symm.trans hf
        refine lv_iconst (v := 1) hx hb dX1_wouldBeSo_164 (by decide) ?_
        replace hf : (some 1 : Option (Int32)) = some rr := hf
        cases hf
        exact ret_z F rfl hP hS dX1_wouldBeSo_165
      · replace hf := (if_neg c2).symm.trans hf
        refine lv_aload_n hx hb dX1_wouldBeSo_22 rfl (lv_at hl 0 rfl) ?_
        refine gf F hP in_X1_wouldBeSo_X1 0 rfl rfl 1 (by decide) 1 rfl rfl dX1_wouldBeSo_23 ?_
        refine gfN F hP in_X1_wouldBeSo_X4 3 rfl rfl 3 (by decide) 20 rfl rfl dX1_wouldBeSo_26 ?_
        refine lv_iload hx hb dX1_wouldBeSo_29 (lv_at hl 4 rfl) ?_
        obtain ⟨v3, e4, hf⟩ := bnd hf
        refine cV F hP hD hS (k_X3_get l (sh ad_t 10) 6 t_now_heardThing x4 e4) gX1_wouldBeSo_X3_get rfl ⟨rfl, rfl⟩ nd_X3_get ⟨Nat.le_of_ble_eq_true rfl, Nat.le_of_ble_eq_true rfl⟩ 10 3 rfl rfl rfl hl.1 rfl (Nat.le_of_ble_eq_true rfl) dX1_wouldBeSo_31 (pm1 (ws := (w_X1 cI cB ad_t t_kinds t_now_worths t_now_made t_now_heardOf t_now_heardThing t_now_heardOther t_now_heardMore t_now_lie t_now_changes t_now_heard t_heirs)) (X := List.take 10 (w_X1 cI cB ad_t t_kinds t_now_worths t_now_made t_now_heardOf t_now_heardThing t_now_heardOther t_now_heardMore t_now_lie t_now_changes t_now_heard t_heirs)) (Y := List.drop 12 (w_X1 cI cB ad_t t_kinds t_now_worths t_now_made t_now_heardOf t_now_heardThing t_now_heardOther t_now_heardMore t_now_lie t_now_changes t_now_heard t_heirs)) rfl) (pm1 (ws := (w_X1 cI cB ad_t t_kinds t_now_worths t_now_made t_now_heardOf t_now_heardThing t_now_heardOther t_now_heardMore t_now_lie t_now_changes t_now_heard t_heirs)) (X := List.take 10 (w_X1 cI cB ad_t t_kinds t_now_worths t_now_made t_now_heardOf t_now_heardThing t_now_heardOther t_now_heardMore t_now_lie t_now_changes t_now_heard t_heirs)) (Y := List.drop 12 (w_X1 cI cB ad_t t_kinds t_now_worths t_now_made t_now_heardOf t_now_heardThing t_now_heardOther t_now_heardMore t_now_lie t_now_changes t_now_heard t_heirs)) rfl) (fun H locs hP hD hS => ?_)
        refine lv_istore (lv' := [(5, .int v3), (0, .ref (ad_t 0)), (1, .int x1), (2, .int x2), (3, .int x3), (4, .int x4)]) hx hb dX1_wouldBeSo_34 hl (by decide) rfl (fun ls hl => ?_)
        refine lv_aload_n hx hb dX1_wouldBeSo_36 rfl (lv_at hl 1 rfl) ?_
        refine gf F hP in_X1_wouldBeSo_X1 0 rfl rfl 1 (by decide) 1 rfl rfl dX1_wouldBeSo_37 ?_
        refine gfN F hP in_X1_wouldBeSo_X4 3 rfl rfl 4 (by decide) 21 rfl rfl dX1_wouldBeSo_40 ?_
        refine lv_iload hx hb dX1_wouldBeSo_43 (lv_at hl 5 rfl) ?_
        obtain ⟨v5, e6, hf⟩ := bnd hf
        refine cV F hP hD hS (k_X3_get l (sh ad_t 12) 6 t_now_heardOther x4 e6) gX1_wouldBeSo_X3_get rfl ⟨rfl, rfl⟩ nd_X3_get ⟨Nat.le_of_ble_eq_true rfl, Nat.le_of_ble_eq_true rfl⟩ 12 3 rfl rfl rfl hl.1 rfl (Nat.le_of_ble_eq_true rfl) dX1_wouldBeSo_45 (pm1 (ws := (w_X1 cI cB ad_t t_kinds t_now_worths t_now_made t_now_heardOf t_now_heardThing t_now_heardOther t_now_heardMore t_now_lie t_now_changes t_now_heard t_heirs)) (X := List.take 12 (w_X1 cI cB ad_t t_kinds t_now_worths t_now_made t_now_heardOf t_now_heardThing t_now_heardOther t_now_heardMore t_now_lie t_now_changes t_now_heard t_heirs)) (Y := List.drop 14 (w_X1 cI cB ad_t t_kinds t_now_worths t_now_made t_now_heardOf t_now_heardThing t_now_heardOther t_now_heardMore t_now_lie t_now_changes t_now_heard t_heirs)) rfl) (pm1 (ws := (w_X1 cI cB ad_t t_kinds t_now_worths t_now_made t_now_heardOf t_now_heardThing t_now_heardOther t_now_heardMore t_now_lie t_now_changes t_now_heard t_heirs)) (X := List.take 12 (w_X1 cI cB ad_t t_kinds t_now_worths t_now_made t_now_heardOf t_now_heardThing t_now_heardOther t_now_heardMore t_now_lie t_now_changes t_now_heard t_heirs)) (Y := List.drop 14 (w_X1 cI cB ad_t t_kinds t_now_worths t_now_made t_now_heardOf t_now_heardThing t_now_heardOther t_now_heardMore t_now_lie t_now_changes t_now_heard t_heirs)) rfl) (fun H locs hP hD hS => ?_)
        refine lv_istore (lv' := [(6, .int v5), (5, .int v3), (0, .ref (ad_t 0)), (1, .int x1), (2, .int x2), (3, .int x3), (4, .int x4)]) hx hb dX1_wouldBeSo_48 hl (by decide) rfl (fun ls hl => ?_)
        refine lv_iload hx hb dX1_wouldBeSo_50 (lv_at hl 1 rfl) ?_
        refine lv_iload_n hx hb dX1_wouldBeSo_52 rfl (lv_at hl 4 rfl) ?_
        refine lv_icmp_ne (tgt := 60) hx hb dX1_wouldBeSo_53 (by decide) (fun c7 => ?_) (fun c7 => ?_)
        · replace hf := (if_neg c7).symm.trans hf
          refine lv_aload_n hx hb dX1_wouldBeSo_60 rfl (lv_at hl 2 rfl) ?_
          refine gf F hP in_X1_wouldBeSo_X1 0 rfl rfl 1 (by decide) 1 rfl rfl dX1_wouldBeSo_61 ?_
          refine gfN F hP in_X1_wouldBeSo_X4 3 rfl rfl 0 (by decide) 17 rfl rfl dX1_wouldBeSo_64 ?_
          refine lv_iload_n hx hb dX1_wouldBeSo_67 rfl (lv_at hl 3 rfl) ?_
          refine lv_iload hx hb dX1_wouldBeSo_68 (lv_at hl 1 rfl) ?_
          obtain ⟨v8, e9, hf⟩ := bnd hf
          refine cV F hP hD hS (k_X5_at l (sh ad_t 4) t_now_worths x1 v3 e9) gX1_wouldBeSo_X5_at rfl ⟨rfl, rfl⟩ nd_X5_at ⟨Nat.le_of_ble_eq_true rfl, Nat.le_of_ble_eq_true rfl⟩ 4 5 rfl rfl rfl hl.1 rfl (Nat.le_of_ble_eq_true rfl) dX1_wouldBeSo_70 (pm1 (ws := (w_X1 cI cB ad_t t_kinds t_now_worths t_now_made t_now_heardOf t_now_heardThing t_now_heardOther t_now_heardMore t_now_lie t_now_changes t_now_heard t_heirs)) (X := List.take 4 (w_X1 cI cB ad_t t_kinds t_now_worths t_now_made t_now_heardOf t_now_heardThing t_now_heardOther t_now_heardMore t_now_lie t_now_changes t_now_heard t_heirs)) (Y := List.drop 6 (w_X1 cI cB ad_t t_kinds t_now_worths t_now_made t_now_heardOf t_now_heardThing t_now_heardOther t_now_heardMore t_now_lie t_now_changes t_now_heard t_heirs)) rfl) (pm1 (ws := (w_X1 cI cB ad_t t_kinds t_now_worths t_now_made t_now_heardOf t_now_heardThing t_now_heardOther t_now_heardMore t_now_lie t_now_changes t_now_heard t_heirs)) (X := List.take 4 (w_X1 cI cB ad_t t_kinds t_now_worths t_now_made t_now_heardOf t_now_heardThing t_now_heardOther t_now_heardMore t_now_lie t_now_changes t_now_heard t_heirs)) (Y := List.drop 6 (w_X1 cI cB ad_t t_kinds t_now_worths t_now_made t_now_heardOf t_now_heardThing t_now_heardOther t_now_heardMore t_now_lie t_now_changes t_now_heard t_heirs)) rfl) (fun H locs hP hD hS => ?_)
          exact b_X1_wouldBeSo_73 F (f_X1_wouldBeSo_3 t_now_worths t_now_heardOf t_now_heardThing t_now_heardOther t_now_heardMore t_now_heard  n) ih x1 x2 x3 x4 v5 v8 H locs ls hP hD hS (lv_sub hl [2, 3, 4, 5, 6, 0] rfl) hf
        · replace hf := (if_pos c7).symm.trans hf
          refine lv_iload_n hx hb dX1_wouldBeSo_56 rfl (lv_at hl 5 rfl) ?_
          refine lv_goto (tgt := 73) hx hb dX1_wouldBeSo_57 (by decide) ?_
          exact b_X1_wouldBeSo_73 F (f_X1_wouldBeSo_3 t_now_worths t_now_heardOf t_now_heardThing t_now_heardOther t_now_heardMore t_now_heard  n) ih x1 x2 x3 x4 v5 x3 H locs ls hP hD hS (lv_sub hl [2, 3, 4, 5, 6, 0] rfl) hf

set_option maxHeartbeats 4000000 in
set_option maxRecDepth 100000 in
theorem k_X1_wouldBeSo (l : Launch) {D : va_G} {cI cB : ClassId} {kK kV : Nat → Nat} (ad_t : Nat → Nat) (t_kinds : Nat → Int32) (t_now_worths : Nat → Int32) (t_now_made : Nat → Int32) (t_now_heardOf : Nat → Int32) (t_now_heardThing : Nat → Int32) (t_now_heardOther : Nat → Int32) (t_now_heardMore : Nat → Int32) (t_now_lie : Int32) (t_now_changes : Int32) (t_now_heard : Int32) (t_heirs : Int32) (x1 : Int32) (x2 : Int32) (x3 : Int32) {rr : Int32}  (hf : f_X1_wouldBeSo t_now_worths t_now_heardOf t_now_heardThing t_now_heardOther t_now_heardMore t_now_heard x1 x2 x3 = some rr) : Ct l yX1_wouldBeSo wsX1_wouldBeSo rm_X1_wouldBeSo D cI cB kK kV [.ref (ad_t 0), .int x1, .int x2, .int x3] (w_X1 cI cB ad_t t_kinds t_now_worths t_now_made t_now_heardOf t_now_heardThing t_now_heardOther t_now_heardMore t_now_lie t_now_changes t_now_heard t_heirs) (w_X1 cI cB ad_t t_kinds t_now_worths t_now_made t_now_heardOf t_now_heardThing t_now_heardOther t_now_heardMore t_now_lie t_now_changes t_now_heard t_heirs) (some (.int rr)) := by
  refine Ct.of (cc := cX1_wouldBeSo) (maxL := 10) (ret := (some .boolean)) (by decide) rfl (Nat.le_of_ble_eq_true rfl) rfl ?_
  intro p e s m below meth c A ls F hP hD hS hl
  have hl : lv_has ls 10 [(0, .ref (ad_t 0)), (1, .int x1), (2, .int x2), (3, .int x3)] := hl
  obtain ⟨hx, hb, hml, hown, hts, hrt, hlocks, hK, hA, hZ⟩ := id F
  obtain ⟨H, hH⟩ : ∃ H, H = s.heap := ⟨_, rfl⟩
  obtain ⟨locs, hLo⟩ : ∃ q : List Loc, q = [] := ⟨_, rfl⟩
  refine (?_ : W p l e rm_X1_wouldBeSo s m _ below meth c s.heap [] 0 0 _ _)
  rw [← hH, ← hLo]
  rw [← hH] at hP
  have hS : va_S A s.heap H locs := by rw [hH, hLo]; exact hS
  refine lv_iconst (v := 0) hx hb dX1_wouldBeSo_0 (by decide) ?_
  refine lv_istore (lv' := [(4, .int 0), (0, .ref (ad_t 0)), (1, .int x1), (2, .int x2), (3, .int x3)]) hx hb dX1_wouldBeSo_1 hl (by decide) rfl (fun ls hl => ?_)
  exact b_X1_wouldBeSo_3 F 300 x1 x2 x3 0 H locs ls hP hD hS (lv_sub hl [1, 2, 3, 4, 0] rfl) hf

