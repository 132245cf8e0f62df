/-! X4_forgetAll -/
def rm_X4_forgetAll : Room := { frames := 1, cells := 0, slots := 0, locals := 22 }
theorem in_X4_forgetAll_X4 : ∀ w ∈ u_ws RX4 TX4 9, w ∈ wsX4_forgetAll := fun _ h => List.mem_cons_of_mem _ (List.mem_append_left _ (List.mem_append_right _ (h)))
theorem nd_X4_forgetAll : yX4_forgetAll.cls = RX4 ∧ yX4_forgetAll.cls ≠ "java/lang/invoke/MethodHandle" ∧ yX4_forgetAll.cls ≠ "java/lang/invoke/VarHandle" ∧ (parseMethodDescriptor yX4_forgetAll.desc).map (fun d => d.parameters.length) = some 0 := by decide +kernel
def f_X4_forgetAll_2   : Nat → Int32 → (Nat → Int32) → Int32 → Int32 → Option ((Nat → Int32) × Int32 × Int32)
  | 0, _, _, _, _ => none
  | n + 1, x1, t_made, t_changes, t_heard => (if 4 ≤ x1 then some (t_made, 0, 0) else (f_X3_set 4 t_made x1 0).bind (fun g2 => f_X4_forgetAll_2   n (x1 + 1) g2 t_changes t_heard))
def f_X4_forgetAll (t_made : Nat → Int32) (t_changes : Int32) (t_heard : Int32)  : Option ((Nat → Int32) × Int32 × Int32) := f_X4_forgetAll_2 300 0 t_made t_changes t_heard
set_option maxHeartbeats 4000000 in
set_option maxRecDepth 100000 in
theorem b_X4_forgetAll_2 {p : Program} {l : Launch} {e : Env} {s : State} {m : MethodId} {args : Array Value} {below : List Frame} {meth : Method} {c : Code} {D : va_G} {cI cB : ClassId} {kK kV : Nat → Nat} {A : Nat → Prop} (F : Fx p m c s meth args cX4_forgetAll 2 RX4 wsX4_forgetAll none D cI cB kK kV A) {ad_t : Nat → Nat} {t_worths : Nat → Int32} {t_heardOf : Nat → Int32} {t_heardThing : Nat → Int32} {t_heardOther : Nat → Int32} {t_heardMore : Nat → Int32} {t_lie : Int32}  {g_t_made : Nat → Int32} {g_t_changes : Int32} {g_t_heard : Int32} : ∀ (n : Nat), ∀ (x1 : Int32) (t_made : Nat → Int32) (t_changes : Int32) (t_heard : Int32) (H : Heap) (locs : List Loc) (ls : Array Slot), va_P D vwCl (w_X4 cI cB ad_t t_worths t_made t_heardOf t_heardThing t_heardOther t_heardMore t_lie t_changes t_heard) H → va_D A (w_X4 cI cB ad_t t_worths t_made t_heardOf t_heardThing t_heardOther t_heardMore t_lie t_changes t_heard) → va_S A s.heap H locs → lv_has ls 2 [(0, .ref (ad_t 0)), (1, .int x1)] → f_X4_forgetAll_2   n x1 t_made t_changes t_heard = some (g_t_made, g_t_changes, g_t_heard) → W p l e rm_X4_forgetAll s m args below meth c H locs 0 0 (Zq D below args s A (w_X4 cI cB ad_t t_worths g_t_made t_heardOf t_heardThing t_heardOther t_heardMore t_lie g_t_changes g_t_heard) none) (F0 m 2 ls []) := by
  obtain ⟨hx, hb, hml, hown, hts, hrt, hlocks, hK, hA, hZ⟩ := id F
  intro n
  induction n with
  | zero =>
    intro x1 t_made t_changes t_heard H locs ls hP hD hS hl hf
    cases hf
  | succ n ih =>
    intro x1 t_made t_changes t_heard H locs ls hP hD hS hl hf
    refine lv_iload_n hx hb dX4_forgetAll_2 rfl (lv_at hl 1 rfl) ?_
    refine lv_iconst (v := 4) hx hb dX4_forgetAll_3 (by decide) ?_
    refine lv_icmp_ge (tgt := 22) hx hb dX4_forgetAll_4 (by decide) (fun c1 => ?_) (fun c1 => ?_)
    · replace hf := (if_pos c1).symm.trans hf
      refine lv_aload_n hx hb dX4_forgetAll_22 rfl (lv_at hl 0 rfl) ?_
      refine lv_iconst (v := 0) hx hb dX4_forgetAll_23 (by decide) ?_
      refine pf F hP hD hS in_X4_forgetAll_X4 tyX4 tyX4_ok nmX4 0 rfl rfl 7 (by decide) 2 rfl rfl rfl rfl (Nat.le_of_ble_eq_true rfl) dX4_forgetAll_24 (w_X4 cI cB ad_t t_worths t_made t_heardOf t_heardThing t_heardOther t_heardMore t_lie 0 t_heard) rfl (fun H locs hP hD hS => ?_)
      refine lv_aload_n hx hb dX4_forgetAll_27 rfl (lv_at hl 0 rfl) ?_
      refine lv_iconst (v := 0) hx hb dX4_forgetAll_28 (by decide) ?_
      refine pf F hP hD hS in_X4_forgetAll_X4 tyX4 tyX4_ok nmX4 0 rfl rfl 8 (by decide) 3 rfl rfl rfl rfl (Nat.le_of_ble_eq_true rfl) dX4_forgetAll_29 (w_X4 cI cB ad_t t_worths t_made t_heardOf t_heardThing t_heardOther t_heardMore t_lie 0 0) rfl (fun H locs hP hD hS => ?_)
      replace hf : (some (t_made, 0, 0) : Option ((Nat → Int32) × Int32 × Int32)) = some (g_t_made, g_t_changes, g_t_heard) := hf
      cases hf
      exact ret_v F hP hS dX4_forgetAll_32
    · replace hf := (if_neg c1).symm.trans hf
      refine lv_aload_n hx hb dX4_forgetAll_7 rfl (lv_at hl 0 rfl) ?_
      refine gf F hP in_X4_forgetAll_X4 0 rfl rfl 1 (by decide) 1 rfl rfl dX4_forgetAll_8 ?_
      refine lv_iload_n hx hb dX4_forgetAll_11 rfl (lv_at hl 1 rfl) ?_
      refine lv_iconst (v := 0) hx hb dX4_forgetAll_12 (by decide) ?_
      obtain ⟨g2, e3, hf⟩ := bnd hf
      refine cV F hP hD hS (k_X3_set l (sh ad_t 3) 4 t_made x1 0 e3) gX4_forgetAll_X3_set rfl ⟨rfl, rfl⟩ nd_X3_set ⟨Nat.le_of_ble_eq_true rfl, Nat.le_of_ble_eq_true rfl⟩ 3 3 rfl rfl rfl hl.1 rfl (Nat.le_of_ble_eq_true rfl) dX4_forgetAll_13 (pm1 (ws := (w_X4 cI cB ad_t t_worths t_made t_heardOf t_heardThing t_heardOther t_heardMore t_lie t_changes t_heard)) (X := List.take 3 (w_X4 cI cB ad_t t_worths t_made t_heardOf t_heardThing t_heardOther t_heardMore t_lie t_changes t_heard)) (Y := List.drop 5 (w_X4 cI cB ad_t t_worths t_made t_heardOf t_heardThing t_heardOther t_heardMore t_lie t_changes t_heard)) rfl) (pm1 (ws := (w_X4 cI cB ad_t t_worths g2 t_heardOf t_heardThing t_heardOther t_heardMore t_lie t_changes t_heard)) (X := List.take 3 (w_X4 cI cB ad_t t_worths t_made t_heardOf t_heardThing t_heardOther t_heardMore t_lie t_changes t_heard)) (Y := List.drop 5 (w_X4 cI cB ad_t t_worths t_made t_heardOf t_heardThing t_heardOther t_heardMore t_lie t_changes t_heard)) rfl) (fun H locs hP hD hS => ?_)
      refine lv_iinc (v := (x1 + 1)) (lv' := [(1, .int (x1 + 1)), (0, .ref (ad_t 0))]) hx hb dX4_forgetAll_16 hl (k := 1) rfl rfl (by decide) rfl (fun ls hl => ?_)
      refine lv_goto (tgt := 2) hx hb dX4_forgetAll_19 (by decide) ?_
      exact ih (x1 + 1) g2 t_changes t_heard H locs ls hP hD hS (lv_sub hl [1, 0] rfl) hf

set_option maxHeartbeats 4000000 in
set_option maxRecDepth 100000 in
theorem k_X4_forgetAll (l : Launch) {D : va_G} {cI cB : ClassId} {kK kV : Nat → Nat} (ad_t : Nat → Nat) (t_worths : Nat → Int32) (t_made : Nat → Int32) (t_heardOf : Nat → Int32) (t_heardThing : Nat → Int32) (t_heardOther : Nat → Int32) (t_heardMore : Nat → Int32) (t_lie : Int32) (t_changes : Int32) (t_heard : Int32)   {g_t_made : Nat → Int32} {g_t_changes : Int32} {g_t_heard : Int32} (hf : f_X4_forgetAll t_made t_changes t_heard = some (g_t_made, g_t_changes, g_t_heard)) : Ct l yX4_forgetAll wsX4_forgetAll rm_X4_forgetAll D cI cB kK kV [.ref (ad_t 0)] (w_X4 cI cB ad_t t_worths t_made t_heardOf t_heardThing t_heardOther t_heardMore t_lie t_changes t_heard) (w_X4 cI cB ad_t t_worths g_t_made t_heardOf t_heardThing t_heardOther t_heardMore t_lie g_t_changes g_t_heard) none := by
  refine Ct.of (cc := cX4_forgetAll) (maxL := 2) (ret := none) (by decide) rfl (Nat.le_of_ble_eq_true rfl) rfl ?_
  intro p e s m below meth c A ls F hP hD hS hl
  have hl : lv_has ls 2 [(0, .ref (ad_t 0))] := hl
  obtain ⟨hx, hb, hml, hown, hts, hrt, hlocks, hK, hA, hZ⟩ := id F
  obtain ⟨H, hH⟩ : ∃ H, H = s.heap := ⟨_, rfl⟩
  obtain ⟨locs, hLo⟩ : ∃ q : List Loc, q = [] := ⟨_, rfl⟩
  refine (?_ : W p l e rm_X4_forgetAll s m _ below meth c s.heap [] 0 0 _ _)
  rw [← hH, ← hLo]
  rw [← hH] at hP
  have hS : va_S A s.heap H locs := by rw [hH, hLo]; exact hS
  refine lv_iconst (v := 0) hx hb dX4_forgetAll_0 (by decide) ?_
  refine lv_istore_n (lv' := [(1, .int 0), (0, .ref (ad_t 0))]) hx hb dX4_forgetAll_1 rfl hl (by decide) rfl (fun ls hl => ?_)
  exact b_X4_forgetAll_2 F 300 0 t_made t_changes t_heard H locs ls hP hD hS (lv_sub hl [1, 0] rfl) hf

/-! X4_noteChange -/
def rm_X4_noteChange : Room := { frames := 1, cells := 0, slots := 0, locals := 22 }
theorem in_X4_noteChange_X4 : ∀ w ∈ u_ws RX4 TX4 9, w ∈ wsX4_noteChange := fun _ h => List.mem_cons_of_mem _ (List.mem_append_left _ (List.mem_append_right _ (h)))
theorem nd_X4_noteChange : yX4_noteChange.cls = RX4 ∧ yX4_noteChange.cls ≠ "java/lang/invoke/MethodHandle" ∧ yX4_noteChange.cls ≠ "java/lang/invoke/VarHandle" ∧ (parseMethodDescriptor yX4_noteChange.desc).map (fun d => d.parameters.length) = some 2 := by decide +kernel
def f_X4_noteChange (t_made : Nat → Int32) (t_changes : Int32) (x1 : Int32) (x2 : Int32) : Option ((Nat → Int32) × Int32) := (f_X3_get 4 t_made x1).bind (fun v1 => (f_X3_set 4 t_made x1 (v1 + 1)).bind (fun g3 => (f_X3_get 4 g3 x2).bind (fun v5 => (f_X3_set 4 g3 x2 (v5 + 1)).bind (fun g7 => some (g7, (t_changes + 1))))))
set_option maxHeartbeats 4000000 in
set_option maxRecDepth 100000 in
theorem k_X4_noteChange (l : Launch) {D : va_G} {cI cB : ClassId} {kK kV : Nat → Nat} (ad_t : Nat → Nat) (t_worths : Nat → Int32) (t_made : Nat → Int32) (t_heardOf : Nat → Int32) (t_heardThing : Nat → Int32) (t_heardOther : Nat → Int32) (t_heardMore : Nat → Int32) (t_lie : Int32) (t_changes : Int32) (t_heard : Int32) (x1 : Int32) (x2 : Int32)  {g_t_made : Nat → Int32} {g_t_changes : Int32} (hf : f_X4_noteChange t_made t_changes x1 x2 = some (g_t_made, g_t_changes)) : Ct l yX4_noteChange wsX4_noteChange rm_X4_noteChange D cI cB kK kV [.ref (ad_t 0), .int x1, .int x2] (w_X4 cI cB ad_t t_worths t_made t_heardOf t_heardThing t_heardOther t_heardMore t_lie t_changes t_heard) (w_X4 cI cB ad_t t_worths g_t_made t_heardOf t_heardThing t_heardOther t_heardMore t_lie g_t_changes t_heard) none := by
  refine Ct.of (cc := cX4_noteChange) (maxL := 3) (ret := none) (by decide) rfl (Nat.le_of_ble_eq_true rfl) rfl ?_
  intro p e s m below meth c A ls F hP hD hS hl
  have hl : lv_has ls 3 [(0, .ref (ad_t 0)), (1, .int x1), (2, .int x2)] := hl
  obtain ⟨hx, hb, hml, hown, hts, hrt, hlocks, hK, hA, hZ⟩ := id F
  obtain ⟨H, hH⟩ : ∃ H, H = s.heap := ⟨_, rfl⟩
  obtain ⟨locs, hLo⟩ : ∃ q : List Loc, q = [] := ⟨_, rfl⟩
  refine (?_ : W p l e rm_X4_noteChange s m _ below meth c s.heap [] 0 0 _ _)
  rw [← hH, ← hLo]
  rw [← hH] at hP
  have hS : va_S A s.heap H locs := by rw [hH, hLo]; exact hS
  refine lv_aload_n hx hb dX4_noteChange_0 rfl (lv_at hl 0 rfl) ?_
  refine gf F hP in_X4_noteChange_X4 0 rfl rfl 1 (by decide) 1 rfl rfl dX4_noteChange_1 ?_
  refine lv_iload_n hx hb dX4_noteChange_4 rfl (lv_at hl 1 rfl) ?_
  refine lv_aload_n hx hb dX4_noteChange_5 rfl (lv_at hl 0 rfl) ?_
  refine gf F hP in_X4_noteChange_X4 0 rfl rfl 1 (by decide) 1 rfl rfl dX4_noteChange_6 ?_
  refine lv_iload_n hx hb dX4_noteChange_9 rfl (lv_at hl 1 rfl) ?_
  obtain ⟨v1, e2, hf⟩ := bnd hf
  refine cV F hP hD hS (k_X3_get l (sh ad_t 3) 4 t_made x1 e2) gX4_noteChange_X3_get rfl ⟨rfl, rfl⟩ nd_X3_get ⟨Nat.le_of_ble_eq_true rfl, Nat.le_of_ble_eq_true rfl⟩ 3 3 rfl rfl rfl hl.1 rfl (Nat.le_of_ble_eq_true rfl) dX4_noteChange_10 (pm1 (ws := (w_X4 cI cB ad_t t_worths t_made t_heardOf t_heardThing t_heardOther t_heardMore t_lie t_changes t_heard)) (X := List.take 3 (w_X4 cI cB ad_t t_worths t_made t_heardOf t_heardThing t_heardOther t_heardMore t_lie t_changes t_heard)) (Y := List.drop 5 (w_X4 cI cB ad_t t_worths t_made t_heardOf t_heardThing t_heardOther t_heardMore t_lie t_changes t_heard)) rfl) (pm1 (ws := (w_X4 cI cB ad_t t_worths t_made t_heardOf t_heardThing t_heardOther t_heardMore t_lie t_changes t_heard)) (X := List.take 3 (w_X4 cI cB ad_t t_worths t_made t_heardOf t_heardThing t_heardOther t_heardMore t_lie t_changes t_heard)) (Y := List.drop 5 (w_X4 cI cB ad_t t_worths t_made t_heardOf t_heardThing t_heardOther t_heardMore t_lie t_changes t_heard)) rfl) (fun H locs hP hD hS => ?_)
  refine lv_iconst (v := 1) hx hb dX4_noteChange_13 (by decide) ?_
  refine lv_iadd hx hb dX4_noteChange_14 ?_
  obtain ⟨g3, e4, hf⟩ := bnd hf
  refine cV F hP hD hS (k_X3_set l (sh ad_t 3) 4 t_made x1 (v1 + 1) e4) gX4_noteChange_X3_set rfl ⟨rfl, rfl⟩ nd_X3_set ⟨Nat.le_of_ble_eq_true rfl, Nat.le_of_ble_eq_true rfl⟩ 3 3 rfl rfl rfl hl.1 rfl (Nat.le_of_ble_eq_true rfl) dX4_noteChange_15 (pm1 (ws := (w_X4 cI cB ad_t t_worths t_made t_heardOf t_heardThing t_heardOther t_heardMore t_lie t_changes t_heard)) (X := List.take 3 (w_X4 cI cB ad_t t_worths t_made t_heardOf t_heardThing t_heardOther t_heardMore t_lie t_changes t_heard)) (Y := List.drop 5 (w_X4 cI cB ad_t t_worths t_made t_heardOf t_heardThing t_heardOther t_heardMore t_lie t_changes t_heard)) rfl) (pm1 (ws := (w_X4 cI cB ad_t t_worths g3 t_heardOf t_heardThing t_heardOther t_heardMore t_lie t_changes t_heard)) (X := List.take 3 (w_X4 cI cB ad_t t_worths t_made t_heardOf t_heardThing t_heardOther t_heardMore t_lie t_changes t_heard)) (Y := List.drop 5 (w_X4 cI cB ad_t t_worths t_made t_heardOf t_heardThing t_heardOther t_heardMore t_lie t_changes t_heard)) rfl) (fun H locs hP hD hS => ?_)
  refine lv_aload_n hx hb dX4_noteChange_18 rfl (lv_at hl 0 rfl) ?_
  refine gf F hP in_X4_noteChange_X4 0 rfl rfl 1 (by decide) 1 rfl rfl dX4_noteChange_19 ?_
  refine lv_iload_n hx hb dX4_noteChange_22 rfl (lv_at hl 2 rfl) ?_
  refine lv_aload_n hx hb dX4_noteChange_23 rfl (lv_at hl 0 rfl) ?_
  refine gf F hP in_X4_noteChange_X4 0 rfl rfl 1 (by decide) 1 rfl rfl dX4_noteChange_24 ?_
  refine lv_iload_n hx hb dX4_noteChange_27 rfl (lv_at hl 2 rfl) ?_
  obtain ⟨v5, e6, hf⟩ := bnd hf
  refine cV F hP hD hS (k_X3_get l (sh ad_t 3) 4 g3 x2 e6) gX4_noteChange_X3_get rfl ⟨rfl, rfl⟩ nd_X3_get ⟨Nat.le_of_ble_eq_true rfl, Nat.le_of_ble_eq_true rfl⟩ 3 3 rfl rfl rfl hl.1 rfl (Nat.le_of_ble_eq_true rfl) dX4_noteChange_28 (pm1 (ws := (w_X4 cI cB ad_t t_worths g3 t_heardOf t_heardThing t_heardOther t_heardMore t_lie t_changes t_heard)) (X := List.take 3 (w_X4 cI cB ad_t t_worths g3 t_heardOf t_heardThing t_heardOther t_heardMore t_lie t_changes t_heard)) (Y := List.drop 5 (w_X4 cI cB ad_t t_worths g3 t_heardOf t_heardThing t_heardOther t_heardMore t_lie t_changes t_heard)) rfl) (pm1 (ws := (w_X4 cI cB ad_t t_worths g3 t_heardOf t_heardThing t_heardOther t_heardMore t_lie t_changes t_heard)) (X := List.take 3 (w_X4 cI cB ad_t t_worths g3 t_heardOf t_heardThing t_heardOther t_heardMore t_lie t_changes t_heard)) (Y := List.drop 5 (w_X4 cI cB ad_t t_worths g3 t_heardOf t_heardThing t_heardOther t_heardMore t_lie t_changes t_heard)) rfl) (fun H locs hP hD hS => ?_)
  refine lv_iconst (v := 1) hx hb dX4_noteChange_31 (by decide) ?_
  refine lv_iadd hx hb dX4_noteChange_32 ?_
  obtain ⟨g7, e8, hf⟩ := bnd hf
  refine cV F hP hD hS (k_X3_set l (sh ad_t 3) 4 g3 x2 (v5 + 1) e8) gX4_noteChange_X3_set rfl ⟨rfl, rfl⟩ nd_X3_set ⟨Nat.le_of_ble_eq_true rfl, Nat.le_of_ble_eq_true rfl⟩ 3 3 rfl rfl rfl hl.1 rfl (Nat.le_of_ble_eq_true rfl) dX4_noteChange_33 (pm1 (ws := (w_X4 cI cB ad_t t_worths g3 t_heardOf t_heardThing t_heardOther t_heardMore t_lie t_changes t_heard)) (X := List.take 3 (w_X4 cI cB ad_t t_worths g3 t_heardOf t_heardThing t_heardOther t_heardMore t_lie t_changes t_heard)) (Y := List.drop 5 (w_X4 cI cB ad_t t_worths g3 t_heardOf t_heardThing t_heardOther t_heardMore t_lie t_changes t_heard)) rfl) (pm1 (ws := (w_X4 cI cB ad_t t_worths g7 t_heardOf t_heardThing t_heardOther t_heardMore t_lie t_changes t_heard)) (X := List.take 3 (w_X4 cI cB ad_t t_worths g3 t_heardOf t_heardThing t_heardOther t_heardMore t_lie t_changes t_heard)) (Y := List.drop 5 (w_X4 cI cB ad_t t_worths g3 t_heardOf t_heardThing t_heardOther t_heardMore t_lie t_changes t_heard)) rfl) (fun H locs hP hD hS => ?_)
  refine lv_aload_n hx hb dX4_noteChange_36 rfl (lv_at hl 0 rfl) ?_
  refine lv_dup hx hb dX4_noteChange_37 rfl ?_
  refine gf F hP in_X4_noteChange_X4 0 rfl rfl 7 (by decide) 2 rfl rfl dX4_noteChange_38 ?_
  refine lv_iconst (v := 1) hx hb dX4_noteChange_41 (by decide) ?_
  refine lv_iadd hx hb dX4_noteChange_42 ?_
  refine pf F hP hD hS in_X4_noteChange_X4 tyX4 tyX4_ok nmX4 0 rfl rfl 7 (by decide) 2 rfl rfl rfl rfl (Nat.le_of_ble_eq_true rfl) dX4_noteChange_43 (w_X4 cI cB ad_t t_worths g7 t_heardOf t_heardThing t_heardOther t_heardMore t_lie (t_changes + 1) t_heard) rfl (fun H locs hP hD hS => ?_)
  replace hf : (some (g7, (t_changes + 1)) : Option ((Nat → Int32) × Int32)) = some (g_t_made, g_t_changes) := hf
  cases hf
  exact ret_v F hP hS dX4_noteChange_46

/-! X4_noteHeard -/
def rm_X4_noteHeard : Room := { frames := 1, cells := 0, slots := 0, locals := 22 }
theorem in_X4_noteHeard_X4 : ∀ w ∈ u_ws RX4 TX4 9, w ∈ wsX4_noteHeard := fun _ h => List.mem_cons_of_mem _ (List.mem_append_left _ (List.mem_append_right _ (h)))
theorem nd_X4_noteHeard : yX4_noteHeard.cls = RX4 ∧ yX4_noteHeard.cls ≠ "java/lang/invoke/MethodHandle" ∧ yX4_noteHeard.cls ≠ "java/lang/invoke/VarHandle" ∧ (parseMethodDescriptor yX4_noteHeard.desc).map (fun d => d.parameters.length) = some 4 := by decide +kernel
def f_X4_noteHeard_54   (k0 : Int32) (k1 : Int32) (t_heardOf : Nat → Int32) (t_heardThing : Nat → Int32) (t_heardOther : Nat → Int32) (t_heardMore : Nat → Int32) (t_heard : Int32) : Option ((Nat → Int32) × (Nat → Int32) × (Nat → Int32) × (Nat → Int32) × Int32) := (f_X3_set 6 t_heardMore k1 k0).bind (fun g1 => some (t_heardOf, t_heardThing, t_heardOther, g1, (t_heard + 1)))
def f_X4_noteHeard (t_heardOf : Nat → Int32) (t_heardThing : Nat → Int32) (t_heardOther : Nat → Int32) (t_heardMore : Nat → Int32) (t_heard : Int32) (x1 : Int32) (x2 : Int32) (x3 : Int32) (x4 : Int32) : Option ((Nat → Int32) × (Nat → Int32) × (Nat → Int32) × (Nat → Int32) × Int32) := (f_X3_set 6 t_heardOf t_heard x1).bind (fun g1 => (f_X3_set 6 t_heardThing t_heard x2).bind (fun g3 => (f_X3_set 6 t_heardOther t_heard x3).bind (fun g5 => (if x4 = 0 then f_X4_noteHeard_54 0 t_heard g1 g3 g5 t_heardMore t_heard else f_X4_noteHeard_54 1 t_heard g1 g3 g5 t_heardMore t_heard))))
set_option maxHeartbeats 4000000 in
set_option maxRecDepth 100000 in
theorem b_X4_noteHeard_54 {p : Program} {l : Launch} {e : Env} {s : State} {m : MethodId} {args : Array Value} {below : List Frame} {meth : Method} {c : Code} {D : va_G} {cI cB : ClassId} {kK kV : Nat → Nat} {A : Nat → Prop} (F : Fx p m c s meth args cX4_noteHeard 5 RX4 wsX4_noteHeard none D cI cB kK kV A) {ad_t : Nat → Nat} {t_worths : Nat → Int32} {t_made : Nat → Int32} {t_lie : Int32} {t_changes : Int32}  {g_t_heardOf : Nat → Int32} {g_t_heardThing : Nat → Int32} {g_t_heardOther : Nat → Int32} {g_t_heardMore : Nat → Int32} {g_t_heard : Int32} : ∀ (k0 : Int32) (k1 : Int32) (t_heardOf : Nat → Int32) (t_heardThing : Nat → Int32) (t_heardOther : Nat → Int32) (t_heardMore : Nat → Int32) (t_heard : Int32) (H : Heap) (locs : List Loc) (ls : Array Slot), va_P D vwCl (w_X4 cI cB ad_t t_worths t_made t_heardOf t_heardThing t_heardOther t_heardMore t_lie t_changes t_heard) H → va_D A (w_X4 cI cB ad_t t_worths t_made t_heardOf t_heardThing t_heardOther t_heardMore t_lie t_changes t_heard) → va_S A s.heap H locs → lv_has ls 5 [(0, .ref (ad_t 0))] → f_X4_noteHeard_54   k0 k1 t_heardOf t_heardThing t_heardOther t_heardMore t_heard = some (g_t_heardOf, g_t_heardThing, g_t_heardOther, g_t_heardMore, g_t_heard) → W p l e rm_X4_noteHeard s m args below meth c H locs 0 0 (Zq D below args s A (w_X4 cI cB ad_t t_worths t_made g_t_heardOf g_t_heardThing g_t_heardOther g_t_heardMore t_lie t_changes g_t_heard) none) (F0 m 54 ls [.int k0, .int k1, .ref (ad_t 11)]) := by
  obtain ⟨hx, hb, hml, hown, hts, hrt, hlocks, hK, hA, hZ⟩ := id F
  intro k0 k1 t_heardOf t_heardThing t_heardOther t_heardMore t_heard H locs ls hP hD hS hl hf
  obtain ⟨g1, e2, hf⟩ := bnd hf
  refine cV F hP hD hS (k_X3_set l (sh ad_t 11) 6 t_heardMore k1 k0 e2) gX4_noteHeard_X3_set rfl ⟨rfl, rfl⟩ nd_X3_set ⟨Nat.le_of_ble_eq_true rfl, Nat.le_of_ble_eq_true rfl⟩ 11 3 rfl rfl rfl hl.1 rfl (Nat.le_of_ble_eq_true rfl) dX4_noteHeard_54 (pm1 (ws := (w_X4 cI cB ad_t t_worths t_made t_heardOf t_heardThing t_heardOther t_heardMore t_lie t_changes t_heard)) (X := List.take 11 (w_X4 cI cB ad_t t_worths t_made t_heardOf t_heardThing t_heardOther t_heardMore t_lie t_changes t_heard)) (Y := List.drop 13 (w_X4 cI cB ad_t t_worths t_made t_heardOf t_heardThing t_heardOther t_heardMore t_lie t_changes t_heard)) rfl) (pm1 (ws := (w_X4 cI cB ad_t t_worths t_made t_heardOf t_heardThing t_heardOther g1 t_lie t_changes t_heard)) (X := List.take 11 (w_X4 cI cB ad_t t_worths t_made t_heardOf t_heardThing t_heardOther t_heardMore t_lie t_changes t_heard)) (Y := List.drop 13 (w_X4 cI cB ad_t t_worths t_made t_heardOf t_heardThing t_heardOther t_heardMore t_lie t_changes t_heard)) rfl) (fun H locs hP hD hS => ?_)
  refine lv_aload_n hx hb dX4_noteHeard_57 rfl (lv_at hl 0 rfl) ?_
  refine lv_dup hx hb dX4_noteHeard_58 rfl ?_
  refine gf F hP in_X4_noteHeard_X4 0 rfl rfl 8 (by decide) 2 rfl rfl dX4_noteHeard_59 ?_
  refine lv_iconst (v := 1) hx hb dX4_noteHeard_62 (by decide) ?_
  refine lv_iadd hx hb dX4_noteHeard_63 ?_
  refine pf F hP hD hS in_X4_noteHeard_X4 tyX4 tyX4_ok nmX4 0 rfl rfl 8 (by decide) 2 rfl rfl rfl rfl (Nat.le_of_ble_eq_true rfl) dX4_noteHeard_64 (w_X4 cI cB ad_t t_worths t_made t_heardOf t_heardThing t_heardOther g1 t_lie t_changes (t_heard + 1)) rfl (fun H locs hP hD hS => ?_)
  replace hf : (some (t_heardOf, t_heardThing, t_heardOther, g1, (t_heard + 1)) : Option ((Nat → Int32) × (Nat → Int32) × (Nat → Int32) × (Nat → Int32) × Int32)) = some (g_t_heardOf, g_t_heardThing, g_t_heardOther, g_t_heardMore, g_t_heard) := hf
  cases hf
  exact ret_v F hP hS dX4_noteHeard_67

set_option maxHeartbeats 4000000 in
set_option maxRecDepth 100000 in
theorem k_X4_noteHeard (l : Launch) {D : va_G} {cI cB : ClassId} {kK kV : Nat → Nat} (ad_t : Nat → Nat) (t_worths : Nat → Int32) (t_made : Nat → Int32) (t_heardOf : Nat → Int32) (t_heardThing : Nat → Int32) (t_heardOther : Nat → Int32) (t_heardMore : Nat → Int32) (t_lie : Int32) (t_changes : Int32) (t_heard : Int32) (x1 : Int32) (x2 : Int32) (x3 : Int32) (x4 : Int32)  {g_t_heardOf : Nat → Int32} {g_t_heardThing : Nat → Int32} {g_t_heardOther : Nat → Int32} {g_t_heardMore : Nat → Int32} {g_t_heard : Int32} (hf : f_X4_noteHeard t_heardOf t_heardThing t_heardOther t_heardMore t_heard x1 x2 x3 x4 = some (g_t_heardOf, g_t_heardThing, g_t_heardOther, g_t_heardMore, g_t_heard)) : Ct l yX4_noteHeard wsX4_noteHeard rm_X4_noteHeard D cI cB kK kV [.ref (ad_t 0), .int x1, .int x2, .int x3, .int x4] (w_X4 cI cB ad_t t_worths t_made t_heardOf t_heardThing t_heardOther t_heardMore t_lie t_changes t_heard) (w_X4 cI cB ad_t t_worths t_made g_t_heardOf g_t_heardThing g_t_heardOther g_t_heardMore t_lie t_changes g_t_heard) none := by
  refine Ct.of (cc := cX4_noteHeard) (maxL := 5) (ret := none) (by decide) rfl (Nat.le_of_ble_eq_true rfl) rfl ?_
  intro p e s m below meth c A ls F hP hD hS hl
  have hl : lv_has ls 5 [(0, .ref (ad_t 0)), (1, .int x1), (2, .int x2), (3, .int x3), (4, .int x4)] := hl
  obtain ⟨hx, hb, hml, hown, hts, hrt, hlocks, hK, hA, hZ⟩ := id F
  obtain ⟨H, hH⟩ : ∃ H, H = s.heap := ⟨_, rfl⟩
  obtain ⟨locs, hLo⟩ : ∃ q : List Loc, q = [] := ⟨_, rfl⟩
  refine (?_ : W p l e rm_X4_noteHeard s m _ below meth c s.heap [] 0 0 _ _)
  rw [← hH, ← hLo]
  rw [← hH] at hP
  have hS : va_S A s.heap H locs := by rw [hH, hLo]; exact hS
  refine lv_aload_n hx hb dX4_noteHeard_0 rfl (lv_at hl 0 rfl) ?_
  refine gf F hP in_X4_noteHeard_X4 0 rfl rfl 2 (by decide) 1 rfl rfl dX4_noteHeard_1 ?_
  refine lv_aload_n hx hb dX4_noteHeard_4 rfl (lv_at hl 0 rfl) ?_
  refine gf F hP in_X4_noteHeard_X4 0 rfl rfl 8 (by decide) 2 rfl rfl dX4_noteHeard_5 ?_
  refine lv_iload_n hx hb dX4_noteHeard_8 rfl (lv_at hl 1 rfl) ?_
  obtain ⟨g1, e2, hf⟩ := bnd hf
  refine cV F hP hD hS (k_X3_set l (sh ad_t 5) 6 t_heardOf t_heard x1 e2) gX4_noteHeard_X3_set rfl ⟨rfl, rfl⟩ nd_X3_set ⟨Nat.le_of_ble_eq_true rfl, Nat.le_of_ble_eq_true rfl⟩ 5 3 rfl rfl rfl hl.1 rfl (Nat.le_of_ble_eq_true rfl) dX4_noteHeard_9 (pm1 (ws := (w_X4 cI cB ad_t t_worths t_made t_heardOf t_heardThing t_heardOther t_heardMore t_lie t_changes t_heard)) (X := List.take 5 (w_X4 cI cB ad_t t_worths t_made t_heardOf t_heardThing t_heardOther t_heardMore t_lie t_changes t_heard)) (Y := List.drop 7 (w_X4 cI cB ad_t t_worths t_made t_heardOf t_heardThing t_heardOther t_heardMore t_lie t_changes t_heard)) rfl) (pm1 (ws := (w_X4 cI cB ad_t t_worths t_made g1 t_heardThing t_heardOther t_heardMore t_lie t_changes t_heard)) (X := List.take 5 (w_X4 cI cB ad_t t_worths t_made t_heardOf t_heardThing t_heardOther t_heardMore t_lie t_changes t_heard)) (Y := List.drop 7 (w_X4 cI cB ad_t t_worths t_made t_heardOf t_heardThing t_heardOther t_heardMore t_lie t_changes t_heard)) rfl) (fun H locs hP hD hS => ?_)
  refine lv_aload_n hx hb dX4_noteHeard_12 rfl (lv_at hl 0 rfl) ?_
  refine gf F hP in_X4_noteHeard_X4 0 rfl rfl 3 (by decide) 3 rfl rfl dX4_noteHeard_13 ?_
  refine lv_aload_n hx hb dX4_noteHeard_16 rfl (lv_at hl 0 rfl) ?_
  refine gf F hP in_X4_noteHeard_X4 0 rfl rfl 8 (by decide) 2 rfl rfl dX4_noteHeard_17 ?_
  refine lv_iload_n hx hb dX4_noteHeard_20 rfl (lv_at hl 2 rfl) ?_
  obtain ⟨g3, e4, hf⟩ := bnd hf
  refine cV F hP hD hS (k_X3_set l (sh ad_t 7) 6 t_heardThing t_heard x2 e4) gX4_noteHeard_X3_set rfl ⟨rfl, rfl⟩ nd_X3_set ⟨Nat.le_of_ble_eq_true rfl, Nat.le_of_ble_eq_true rfl⟩ 7 3 rfl rfl rfl hl.1 rfl (Nat.le_of_ble_eq_true rfl) dX4_noteHeard_21 (pm1 (ws := (w_X4 cI cB ad_t t_worths t_made g1 t_heardThing t_heardOther t_heardMore t_lie t_changes t_heard)) (X := List.take 7 (w_X4 cI cB ad_t t_worths t_made g1 t_heardThing t_heardOther t_heardMore t_lie t_changes t_heard)) (Y := List.drop 9 (w_X4 cI cB ad_t t_worths t_made g1 t_heardThing t_heardOther t_heardMore t_lie t_changes t_heard)) rfl) (pm1 (ws := (w_X4 cI cB ad_t t_worths t_made g1 g3 t_heardOther t_heardMore t_lie t_changes t_heard)) (X := List.take 7 (w_X4 cI cB ad_t t_worths t_made g1 t_heardThing t_heardOther t_heardMore t_lie t_changes t_heard)) (Y := List.drop 9 (w_X4 cI cB ad_t t_worths t_made g1 t_heardThing t_heardOther t_heardMore t_lie t_changes t_heard)) rfl) (fun H locs hP hD hS => ?_)
  refine lv_aload_n hx hb dX4_noteHeard_24 rfl (lv_at hl 0 rfl) ?_
  refine gf F hP in_X4_noteHeard_X4 0 rfl rfl 4 (by decide) 4 rfl rfl dX4_noteHeard_25 ?_
  refine lv_aload_n hx hb dX4_noteHeard_28 rfl (lv_at hl 0 rfl) ?_
  refine gf F hP in_X4_noteHeard_X4 0 rfl rfl 8 (by decide) 2 rfl rfl dX4_noteHeard_29 ?_
  refine lv_iload_n hx hb dX4_noteHeard_32 rfl (lv_at hl 3 rfl) ?_
  obtain ⟨g5, e6, hf⟩ := bnd hf
  refine cV F hP hD hS (k_X3_set l (sh ad_t 9) 6 t_heardOther t_heard x3 e6) gX4_noteHeard_X3_set rfl ⟨rfl, rfl⟩ nd_X3_set ⟨Nat.le_of_ble_eq_true rfl, Nat.le_of_ble_eq_true rfl⟩ 9 3 rfl rfl rfl hl.1 rfl (Nat.le_of_ble_eq_true rfl) dX4_noteHeard_33 (pm1 (ws := (w_X4 cI cB ad_t t_worths t_made g1 g3 t_heardOther t_heardMore t_lie t_changes t_heard)) (X := List.take 9 (w_X4 cI cB ad_t t_worths t_made g1 g3 t_heardOther t_heardMore t_lie t_changes t_heard)) (Y := List.drop 11 (w_X4 cI cB ad_t t_worths t_made g1 g3 t_heardOther t_heardMore t_lie t_changes t_heard)) rfl) (pm1 (ws := (w_X4 cI cB ad_t t_worths t_made g1 g3 g5 t_heardMore t_lie t_changes t_heard)) (X := List.take 9 (w_X4 cI cB ad_t t_worths t_made g1 g3 t_heardOther t_heardMore t_lie t_changes t_heard)) (Y := List.drop 11 (w_X4 cI cB ad_t t_worths t_made g1 g3 t_heardOther t_heardMore t_lie t_changes t_heard)) rfl) (fun H locs hP hD hS => ?_)
  refine lv_aload_n hx hb dX4_noteHeard_36 rfl (lv_at hl 0 rfl) ?_
  refine gf F hP in_X4_noteHeard_X4 0 rfl rfl 5 (by decide) 5 rfl rfl dX4_noteHeard_37 ?_
  refine lv_aload_n hx hb dX4_noteHeard_40 rfl (lv_at hl 0 rfl) ?_
  refine gf F hP in_X4_noteHeard_X4 0 rfl rfl 8 (by decide) 2 rfl rfl dX4_noteHeard_41 ?_
  refine lv_iload hx hb dX4_noteHeard_44 (lv_at hl 4 rfl) ?_
  refine lv_if_eq (tgt := 53) hx hb dX4_noteHeard_46 (by decide) (fun c7 => ?_) (fun c7 => ?_)
  · replace hf := (if_pos c7).symm.trans hf
    refine lv_iconst (v := 0) hx hb dX4_noteHeard_53 (by decide) ?_
    exact b_X4_noteHeard_54 F  0 t_heard g1 g3 g5 t_heardMore t_heard H locs ls hP hD hS (lv_sub hl [0] rfl) hf
  · replace hf := (if_neg c7).symm.trans hf
    refine lv_iconst (v := 1) hx hb dX4_noteHeard_49 (by decide) ?_
    refine lv_goto (tgt := 54) hx hb dX4_noteHeard_50 (by decide) ?_
    exact b_X4_noteHeard_54 F  1 t_heard g1 g3 g5 t_heardMore t_heard H locs ls hP hD hS (lv_sub hl [0] rfl) hf

/-! X4_takeFrom -/
def rm_X4_takeFrom : Room := { frames := 1, cells := 0, slots := 0, locals := 22 }
theorem in_X4_takeFrom_X4 : ∀ w ∈ u_ws RX4 TX4 9, w ∈ wsX4_takeFrom := fun _ h => List.mem_cons_of_mem _ (List.mem_append_left _ (List.mem_append_left _ (List.mem_append_right _ (h))))
theorem nd_X4_takeFrom : yX4_takeFrom.cls = RX4 ∧ yX4_takeFrom.cls ≠ "java/lang/invoke/MethodHandle" ∧ yX4_takeFrom.cls ≠ "java/lang/invoke/VarHandle" ∧ (parseMethodDescriptor yX4_takeFrom.desc).map (fun d => d.parameters.length) = some 1 := by decide +kernel
def f_X4_takeFrom (t_worths : Nat → Int32) (t_made : Nat → Int32) (t_heardOf : Nat → Int32) (t_heardThing : Nat → Int32) (t_heardOther : Nat → Int32) (t_heardMore : Nat → Int32) (t_lie : Int32) (t_changes : Int32) (t_heard : Int32) (o_worths : Nat → Int32) (o_made : Nat → Int32) (o_heardOf : Nat → Int32) (o_heardThing : Nat → Int32) (o_heardOther : Nat → Int32) (o_heardMore : Nat → Int32) (o_lie : Int32) (o_changes : Int32) (o_heard : Int32)  : Option ((Nat → Int32) × (Nat → Int32) × (Nat → Int32) × (Nat → Int32) × (Nat → Int32) × (Nat → Int32) × Int32 × Int32 × Int32) := (f_X5_takeFrom t_worths o_worths).bind (fun g1 => (f_X3_takeFrom 4 t_made 4 o_made).bind (fun g3 => (f_X3_takeFrom 6 t_heardOf 6 o_heardOf).bind (fun g5 => (f_X3_takeFrom 6 t_heardThing 6 o_heardThing).bind (fun g7 => (f_X3_takeFrom 6 t_heardOther 6 o_heardOther).bind (fun g9 => (f_X3_takeFrom 6 t_heardMore 6 o_heardMore).bind (fun g11 => some (g1, g3, g5, g7, g9, g11, o_lie, o_changes, o_heard)))))))
set_option maxHeartbeats 4000000 in
set_option maxRecDepth 100000 in
theorem k_X4_takeFrom (l : Launch) {D : va_G} {cI cB : ClassId} {kK kV : Nat → Nat} (ad_t : Nat → Nat) (ad_o : Nat → Nat) (t_worths : Nat → Int32) (t_made : Nat → Int32) (t_heardOf : Nat → Int32) (t_heardThing : Nat → Int32) (t_heardOther : Nat → Int32) (t_heardMore : Nat → Int32) (t_lie : Int32) (t_changes : Int32) (t_heard : Int32) (o_worths : Nat → Int32) (o_made : Nat → Int32) (o_heardOf : Nat → Int32) (o_heardThing : Nat → Int32) (o_heardOther : Nat → Int32) (o_heardMore : Nat → Int32) (o_lie : Int32) (o_changes : Int32) (o_heard : Int32)   {g_t_worths : Nat → Int32} {g_t_made : Nat → Int32} {g_t_heardOf : Nat → Int32} {g_t_heardThing : Nat → Int32} {g_t_heardOther : Nat → Int32} {g_t_heardMore : Nat → Int32} {g_t_lie : Int32} {g_t_changes : Int32} {g_t_heard : Int32} (hf : f_X4_takeFrom t_worths t_made t_heardOf t_heardThing t_heardOther t_heardMore t_lie t_changes t_heard o_worths o_made o_heardOf o_heardThing o_heardOther o_heardMore o_lie o_changes o_heard = some (g_t_worths, g_t_made, g_t_heardOf, g_t_heardThing, g_t_heardOther, g_t_heardMore, g_t_lie, g_t_changes, g_t_heard)) : Ct l yX4_takeFrom wsX4_takeFrom rm_X4_takeFrom D cI cB kK kV [.ref (ad_t 0), .ref (ad_o 0)] (w_X4 cI cB ad_t t_worths t_made t_heardOf t_heardThing t_heardOther t_heardMore t_lie t_changes t_heard ++ w_X4 cI cB ad_o o_worths o_made o_heardOf o_heardThing o_heardOther o_heardMore o_lie o_changes o_heard) (w_X4 cI cB ad_t g_t_worths g_t_made g_t_heardOf g_t_heardThing g_t_heardOther g_t_heardMore g_t_lie g_t_changes g_t_heard ++ w_X4 cI cB ad_o o_worths o_made o_heardOf o_heardThing o_heardOther o_heardMore o_lie o_changes o_heard) none := by
  refine Ct.of (cc := cX4_takeFrom) (maxL := 2) (ret := none) (by decide) rfl (Nat.le_of_ble_eq_true rfl) rfl ?_
  intro p e s m below meth c A ls F hP hD hS hl
  have hl : lv_has ls 2 [(0, .ref (ad_t 0)), (1, .ref (ad_o 0))] := hl
  obtain ⟨hx, hb, hml, hown, hts, hrt, hlocks, hK, hA, hZ⟩ := id F
  obtain ⟨H, hH⟩ : ∃ H, H = s.heap := ⟨_, rfl⟩
  obtain ⟨locs, hLo⟩ : ∃ q : List Loc, q = [] := ⟨_, rfl⟩
  refine (?_ : W p l e rm_X4_takeFrom s m _ below meth c s.heap [] 0 0 _ _)
  rw [← hH, ← hLo]
  rw [← hH] at hP
  have hS : va_S A s.heap H locs := by rw [hH, hLo]; exact hS
  refine lv_aload_n hx hb dX4_takeFrom_0 rfl (lv_at hl 1 rfl) ?_
  refine lv_ifnonnull (tgt := 5) hx hb dX4_takeFrom_1 (by decide) ?_
  refine lv_aload_n hx hb dX4_takeFrom_5 rfl (lv_at hl 0 rfl) ?_
  refine gf F hP in_X4_takeFrom_X4 0 rfl rfl 0 (by decide) 1 rfl rfl dX4_takeFrom_6 ?_
  refine lv_aload_n hx hb dX4_takeFrom_9 rfl (lv_at hl 1 rfl) ?_
  refine gf F hP in_X4_takeFrom_X4 13 rfl rfl 0 (by decide) 1 rfl rfl dX4_takeFrom_10 ?_
  obtain ⟨g1, e2, hf⟩ := bnd hf
  refine cV F hP hD hS (k_X5_takeFrom l (sh ad_t 1) (sh ad_o 1) t_worths o_worths  e2) gX4_takeFrom_X5_takeFrom rfl ⟨rfl, rfl⟩ nd_X5_takeFrom ⟨Nat.le_of_ble_eq_true rfl, Nat.le_of_ble_eq_true rfl⟩ 1 5 rfl rfl rfl hl.1 rfl (Nat.le_of_ble_eq_true rfl) dX4_takeFrom_13 (pm2 (ws := (w_X4 cI cB ad_t t_worths t_made t_heardOf t_heardThing t_heardOther t_heardMore t_lie t_changes t_heard ++ w_X4 cI cB ad_o o_worths o_made o_heardOf o_heardThing o_heardOther o_heardMore o_lie o_changes o_heard)) (X := List.take 1 (w_X4 cI cB ad_t t_worths t_made t_heardOf t_heardThing t_heardOther t_heardMore t_lie t_changes t_heard ++ w_X4 cI cB ad_o o_worths o_made o_heardOf o_heardThing o_heardOther o_heardMore o_lie o_changes o_heard)) (Z := List.take 11 (List.drop 3 (w_X4 cI cB ad_t t_worths t_made t_heardOf t_heardThing t_heardOther t_heardMore t_lie t_changes t_heard ++ w_X4 cI cB ad_o o_worths o_made o_heardOf o_heardThing o_heardOther o_heardMore o_lie o_changes o_heard))) (Y := List.drop 16 (w_X4 cI cB ad_t t_worths t_made t_heardOf t_heardThing t_heardOther t_heardMore t_lie t_changes t_heard ++ w_X4 cI cB ad_o o_worths o_made o_heardOf o_heardThing o_heardOther o_heardMore o_lie o_changes o_heard)) rfl) (pm2 (ws := (w_X4 cI cB ad_t g1 t_made t_heardOf t_heardThing t_heardOther t_heardMore t_lie t_changes t_heard ++ w_X4 cI cB ad_o o_worths o_made o_heardOf o_heardThing o_heardOther o_heardMore o_lie o_changes o_heard)) (X := List.take 1 (w_X4 cI cB ad_t t_worths t_made t_heardOf t_heardThing t_heardOther t_heardMore t_lie t_changes t_heard ++ w_X4 cI cB ad_o o_worths o_made o_heardOf o_heardThing o_heardOther o_heardMore o_lie o_changes o_heard)) (Z := List.take 11 (List.drop 3 (w_X4 cI cB ad_t t_worths t_made t_heardOf t_heardThing t_heardOther t_heardMore t_lie t_changes t_heard ++ w_X4 cI cB ad_o o_worths o_made o_heardOf o_heardThing o_heardOther o_heardMore o_lie o_changes o_heard))) (Y := List.drop 16 (w_X4 cI cB ad_t t_worths t_made t_heardOf t_heardThing t_heardOther t_heardMore t_lie t_changes t_heard ++ w_X4 cI cB ad_o o_worths o_made o_heardOf o_heardThing o_heardOther o_heardMore o_lie o_changes o_heard)) rfl) (fun H locs hP hD hS => ?_)
  refine lv_aload_n hx hb dX4_takeFrom_16 rfl (lv_at hl 0 rfl) ?_
  refine gf F hP in_X4_takeFrom_X4 0 rfl rfl 1 (by decide) 2 rfl rfl dX4_takeFrom_17 ?_
  refine lv_aload_n hx hb dX4_takeFrom_20 rfl (lv_at hl 1 rfl) ?_
  refine gf F hP in_X4_takeFrom_X4 13 rfl rfl 1 (by decide) 2 rfl rfl dX4_takeFrom_21 ?_
  obtain ⟨g3, e4, hf⟩ := bnd hf
  refine cV F hP hD hS (k_X3_takeFrom l (sh ad_t 3) (sh ad_o 3) 4 t_made 4 o_made  e4) gX4_takeFrom_X3_takeFrom rfl ⟨rfl, rfl⟩ nd_X3_takeFrom ⟨Nat.le_of_ble_eq_true rfl, Nat.le_of_ble_eq_true rfl⟩ 3 3 rfl rfl rfl hl.1 rfl (Nat.le_of_ble_eq_true rfl) dX4_takeFrom_24 (pm2 (ws := (w_X4 cI cB ad_t g1 t_made t_heardOf t_heardThing t_heardOther t_heardMore t_lie t_changes t_heard ++ w_X4 cI cB ad_o o_worths o_made o_heardOf o_heardThing o_heardOther o_heardMore o_lie o_changes o_heard)) (X := List.take 3 (w_X4 cI cB ad_t g1 t_made t_heardOf t_heardThing t_heardOther t_heardMore t_lie t_changes t_heard ++ w_X4 cI cB ad_o o_worths o_made o_heardOf o_heardThing o_heardOther o_heardMore o_lie o_changes o_heard)) (Z := List.take 11 (List.drop 5 (w_X4 cI cB ad_t g1 t_made t_heardOf t_heardThing t_heardOther t_heardMore t_lie t_changes t_heard ++ w_X4 cI cB ad_o o_worths o_made o_heardOf o_heardThing o_heardOther o_heardMore o_lie o_changes o_heard))) (Y := List.drop 18 (w_X4 cI cB ad_t g1 t_made t_heardOf t_heardThing t_heardOther t_heardMore t_lie t_changes t_heard ++ w_X4 cI cB ad_o o_worths o_made o_heardOf o_heardThing o_heardOther o_heardMore o_lie o_changes o_heard)) rfl) (pm2 (ws := (w_X4 cI cB ad_t g1 g3 t_heardOf t_heardThing t_heardOther t_heardMore t_lie t_changes t_heard ++ w_X4 cI cB ad_o o_worths o_made o_heardOf o_heardThing o_heardOther o_heardMore o_lie o_changes o_heard)) (X := List.take 3 (w_X4 cI cB ad_t g1 t_made t_heardOf t_heardThing t_heardOther t_heardMore t_lie t_changes t_heard ++ w_X4 cI cB ad_o o_worths o_made o_heardOf o_heardThing o_heardOther o_heardMore o_lie o_changes o_heard)) (Z := List.take 11 (List.drop 5 (w_X4 cI cB ad_t g1 t_made t_heardOf t_heardThing t_heardOther t_heardMore t_lie t_changes t_heard ++ w_X4 cI cB ad_o o_worths o_made o_heardOf o_heardThing o_heardOther o_heardMore o_lie o_changes o_heard))) (Y := List.drop 18 (w_X4 cI cB ad_t g1 t_made t_heardOf t_heardThing t_heardOther t_heardMore t_lie t_changes t_heard ++ w_X4 cI cB ad_o o_worths o_made o_heardOf o_heardThing o_heardOther o_heardMore o_lie o_changes o_heard)) rfl) (fun H locs hP hD hS => ?_)
  refine lv_aload_n hx hb dX4_takeFrom_27 rfl (lv_at hl 0 rfl) ?_
  refine gf F hP in_X4_takeFrom_X4 0 rfl rfl 2 (by decide) 3 rfl rfl dX4_takeFrom_28 ?_
  refine lv_aload_n hx hb dX4_takeFrom_31 rfl (lv_at hl 1 rfl) ?_
  refine gf F hP in_X4_takeFrom_X4 13 rfl rfl 2 (by decide) 3 rfl rfl dX4_takeFrom_32 ?_
  obtain ⟨g5, e6, hf⟩ := bnd hf
  refine cV F hP hD hS (k_X3_takeFrom l (sh ad_t 5) (sh ad_o 5) 6 t_heardOf 6 o_heardOf  e6) gX4_takeFrom_X3_takeFrom rfl ⟨rfl, rfl⟩ nd_X3_takeFrom ⟨Nat.le_of_ble_eq_true rfl, Nat.le_of_ble_eq_true rfl⟩ 5 3 rfl rfl rfl hl.1 rfl (Nat.le_of_ble_eq_true rfl) dX4_takeFrom_35 (pm2 (ws := (w_X4 cI cB ad_t g1 g3 t_heardOf t_heardThing t_heardOther t_heardMore t_lie t_changes t_heard ++ w_X4 cI cB ad_o o_worths o_made o_heardOf o_heardThing o_heardOther o_heardMore o_lie o_changes o_heard)) (X := List.take 5 (w_X4 cI cB ad_t g1 g3 t_heardOf t_heardThing t_heardOther t_heardMore t_lie t_changes t_heard ++ w_X4 cI cB ad_o o_worths o_made o_heardOf o_heardThing o_heardOther o_heardMore o_lie o_changes o_heard)) (Z := List.take 11 (List.drop 7 (w_X4 cI cB ad_t g1 g3 t_heardOf t_heardThing t_heardOther t_heardMore t_lie t_changes t_heard ++ w_X4 cI cB ad_o o_worths o_made o_heardOf o_heardThing o_heardOther o_heardMore o_lie o_changes o_heard))) (Y := List.drop 20 (w_X4 cI cB ad_t g1 g3 t_heardOf t_heardThing t_heardOther t_heardMore t_lie t_changes t_heard ++ w_X4 cI cB ad_o o_worths o_made o_heardOf o_heardThing o_heardOther o_heardMore o_lie o_changes o_heard)) rfl) (pm2 (ws := (w_X4 cI cB ad_t g1 g3 g5 t_heardThing t_heardOther t_heardMore t_lie t_changes t_heard ++ w_X4 cI cB ad_o o_worths o_made o_heardOf o_heardThing o_heardOther o_heardMore o_lie o_changes o_heard)) (X := List.take 5 (w_X4 cI cB ad_t g1 g3 t_heardOf t_heardThing t_heardOther t_heardMore t_lie t_changes t_heard ++ w_X4 cI cB ad_o o_worths o_made o_heardOf o_heardThing o_heardOther o_heardMore o_lie o_changes o_heard)) (Z := List.take 11 (List.drop 7 (w_X4 cI cB ad_t g1 g3 t_heardOf t_heardThing t_heardOther t_heardMore t_lie t_changes t_heard ++ w_X4 cI cB ad_o o_worths o_made o_heardOf o_heardThing o_heardOther o_heardMore o_lie o_changes o_heard))) (Y := List.drop 20 (w_X4 cI cB ad_t g1 g3 t_heardOf t_heardThing t_heardOther t_heardMore t_lie t_changes t_heard ++ w_X4 cI cB ad_o o_worths o_made o_heardOf o_heardThing o_heardOther o_heardMore o_lie o_changes o_heard)) rfl) (fun H locs hP hD hS => ?_)
  refine lv_aload_n hx hb dX4_takeFrom_38 rfl (lv_at hl 0 rfl) ?_
  refine gf F hP in_X4_takeFrom_X4 0 rfl rfl 3 (by decide) 4 rfl rfl dX4_takeFrom_39 ?_
  refine lv_aload_n hx hb dX4_takeFrom_42 rfl (lv_at hl 1 rfl) ?_
  refine gf F hP in_X4_takeFrom_X4 13 rfl rfl 3 (by decide) 4 rfl rfl dX4_takeFrom_43 ?_
  obtain ⟨g7, e8, hf⟩ := bnd hf
  refine cV F hP hD hS (k_X3_takeFrom l (sh ad_t 7) (sh ad_o 7) 6 t_heardThing 6 o_heardThing  e8) gX4_takeFrom_X3_takeFrom rfl ⟨rfl, rfl⟩ nd_X3_takeFrom ⟨Nat.le_of_ble_eq_true rfl, Nat.le_of_ble_eq_true rfl⟩ 7 3 rfl rfl rfl hl.1 rfl (Nat.le_of_ble_eq_true rfl) dX4_takeFrom_46 (pm2 (ws := (w_X4 cI cB ad_t g1 g3 g5 t_heardThing t_heardOther t_heardMore t_lie t_changes t_heard ++ w_X4 cI cB ad_o o_worths o_made o_heardOf o_heardThing o_heardOther o_heardMore o_lie o_changes o_heard)) (X := List.take 7 (w_X4 cI cB ad_t g1 g3 g5 t_heardThing t_heardOther t_heardMore t_lie t_changes t_heard ++ w_X4 cI cB ad_o o_worths o_made o_heardOf o_heardThing o_heardOther o_heardMore o_lie o_changes o_heard)) (Z := List.take 11 (List.drop 9 (w_X4 cI cB ad_t g1 g3 g5 t_heardThing t_heardOther t_heardMore t_lie t_changes t_heard ++ w_X4 cI cB ad_o o_worths o_made o_heardOf o_heardThing o_heardOther o_heardMore o_lie o_changes o_heard))) (Y := List.drop 22 (w_X4 cI cB ad_t g1 g3 g5 t_heardThing t_heardOther t_heardMore t_lie t_changes t_heard ++ w_X4 cI cB ad_o o_worths o_made o_heardOf o_heardThing o_heardOther o_heardMore o_lie o_changes o_heard)) rfl) (pm2 (ws := (w_X4 cI cB ad_t g1 g3 g5 g7 t_heardOther t_heardMore t_lie t_changes t_heard ++ w_X4 cI cB ad_o o_worths o_made o_heardOf o_heardThing o_heardOther o_heardMore o_lie o_changes o_heard)) (X := List.take 7 (w_X4 cI cB ad_t g1 g3 g5 t_heardThing t_heardOther t_heardMore t_lie t_changes t_heard ++ w_X4 cI cB ad_o o_worths o_made o_heardOf o_heardThing o_heardOther o_heardMore o_lie o_changes o_heard)) (Z := List.take 11 (List.drop 9 (w_X4 cI cB ad_t g1 g3 g5 t_heardThing t_heardOther t_heardMore t_lie t_changes t_heard ++ w_X4 cI cB ad_o o_worths o_made o_heardOf o_heardThing o_heardOther o_heardMore o_lie o_changes o_heard))) (Y := List.drop 22 (w_X4 cI cB ad_t g1 g3 g5 t_heardThing t_heardOther t_heardMore t_lie t_changes t_heard ++ w_X4 cI cB ad_o o_worths o_made o_heardOf o_heardThing o_heardOther o_heardMore o_lie o_changes o_heard)) rfl) (fun H locs hP hD hS => ?_)
  refine lv_aload_n hx hb dX4_takeFrom_49 rfl (lv_at hl 0 rfl) ?_
  refine gf F hP in_X4_takeFrom_X4 0 rfl rfl 4 (by decide) 5 rfl rfl dX4_takeFrom_50 ?_
  refine lv_aload_n hx hb dX4_takeFrom_53 rfl (lv_at hl 1 rfl) ?_
  refine gf F hP in_X4_takeFrom_X4 13 rfl rfl 4 (by decide) 5 rfl rfl dX4_takeFrom_54 ?_
  obtain ⟨g9, e10, hf⟩ := bnd hf
  refine cV F hP hD hS (k_X3_takeFrom l (sh ad_t 9) (sh ad_o 9) 6 t_heardOther 6 o_heardOther  e10) gX4_takeFrom_X3_takeFrom rfl ⟨rfl, rfl⟩ nd_X3_takeFrom ⟨Nat.le_of_ble_eq_true rfl, Nat.le_of_ble_eq_true rfl⟩ 9 3 rfl rfl rfl hl.1 rfl (Nat.le_of_ble_eq_true rfl) dX4_takeFrom_57 (pm2 (ws := (w_X4 cI cB ad_t g1 g3 g5 g7 t_heardOther t_heardMore t_lie t_changes t_heard ++ w_X4 cI cB ad_o o_worths o_made o_heardOf o_heardThing o_heardOther o_heardMore o_lie o_changes o_heard)) (X := List.take 9 (w_X4 cI cB ad_t g1 g3 g5 g7 t_heardOther t_heardMore t_lie t_changes t_heard ++ w_X4 cI cB ad_o o_worths o_made o_heardOf o_heardThing o_heardOther o_heardMore o_lie o_changes o_heard)) (Z := List.take 11 (List.drop 11 (w_X4 cI cB ad_t g1 g3 g5 g7 t_heardOther t_heardMore t_lie t_changes t_heard ++ w_X4 cI cB ad_o o_worths o_made o_heardOf o_heardThing o_heardOther o_heardMore o_lie o_changes o_heard))) (Y := List.drop 24 (w_X4 cI cB ad_t g1 g3 g5 g7 t_heardOther t_heardMore t_lie t_changes t_heard ++ w_X4 cI cB ad_o o_worths o_made o_heardOf o_heardThing o_heardOther o_heardMore o_lie o_changes o_heard)) rfl) (pm2 (ws := (w_X4 cI cB ad_t g1 g3 g5 g7 g9 t_heardMore t_lie t_changes t_heard ++ w_X4 cI cB ad_o o_worths o_made o_heardOf o_heardThing o_heardOther o_heardMore o_lie o_changes o_heard)) (X := List.take 9 (w_X4 cI cB ad_t g1 g3 g5 g7 t_heardOther t_heardMore t_lie t_changes t_heard ++ w_X4 cI cB ad_o o_worths o_made o_heardOf o_heardThing o_heardOther o_heardMore o_lie o_changes o_heard)) (Z := List.take 11 (List.drop 11 (w_X4 cI cB ad_t g1 g3 g5 g7 t_heardOther t_heardMore t_lie t_changes t_heard ++ w_X4 cI cB ad_o o_worths o_made o_heardOf o_heardThing o_heardOther o_heardMore o_lie o_changes o_heard))) (Y := List.drop 24 (w_X4 cI cB ad_t g1 g3 g5 g7 t_heardOther t_heardMore t_lie t_changes t_heard ++ w_X4 cI cB ad_o o_worths o_made o_heardOf o_heardThing o_heardOther o_heardMore o_lie o_changes o_heard)) rfl) (fun H locs hP hD hS => ?_)
  refine lv_aload_n hx hb dX4_takeFrom_60 rfl (lv_at hl 0 rfl) ?_
  refine gf F hP in_X4_takeFrom_X4 0 rfl rfl 5 (by decide) 6 rfl rfl dX4_takeFrom_61 ?_
  refine lv_aload_n hx hb dX4_takeFrom_64 rfl (lv_at hl 1 rfl) ?_
  refine gf F hP in_X4_takeFrom_X4 13 rfl rfl 5 (by decide) 6 rfl rfl dX4_takeFrom_65 ?_
  obtain ⟨g11, e12, hf⟩ := bnd hf
  refine cV F hP hD hS (k_X3_takeFrom l (sh ad_t 11) (sh ad_o 11) 6 t_heardMore 6 o_heardMore  e12) gX4_takeFrom_X3_takeFrom rfl ⟨rfl, rfl⟩ nd_X3_takeFrom ⟨Nat.le_of_ble_eq_true rfl, Nat.le_of_ble_eq_true rfl⟩ 11 3 rfl rfl rfl hl.1 rfl (Nat.le_of_ble_eq_true rfl) dX4_takeFrom_68 (pm2 (ws := (w_X4 cI cB ad_t g1 g3 g5 g7 g9 t_heardMore t_lie t_changes t_heard ++ w_X4 cI cB ad_o o_worths o_made o_heardOf o_heardThing o_heardOther o_heardMore o_lie o_changes o_heard)) (X := List.take 11 (w_X4 cI cB ad_t g1 g3 g5 g7 g9 t_heardMore t_lie t_changes t_heard ++ w_X4 cI cB ad_o o_worths o_made o_heardOf o_heardThing o_heardOther o_heardMore o_lie o_changes o_heard)) (Z := List.take 11 (List.drop 13 (w_X4 cI cB ad_t g1 g3 g5 g7 g9 t_heardMore t_lie t_changes t_heard ++ w_X4 cI cB ad_o o_worths o_made o_heardOf o_heardThing o_heardOther o_heardMore o_lie o_changes o_heard))) (Y := List.drop 26 (w_X4 cI cB ad_t g1 g3 g5 g7 g9 t_heardMore t_lie t_changes t_heard ++ w_X4 cI cB ad_o o_worths o_made o_heardOf o_heardThing o_heardOther o_heardMore o_lie o_changes o_heard)) rfl) (pm2 (ws := (w_X4 cI cB ad_t g1 g3 g5 g7 g9 g11 t_lie t_changes t_heard ++ w_X4 cI cB ad_o o_worths o_made o_heardOf o_heardThing o_heardOther o_heardMore o_lie o_changes o_heard)) (X := List.take 11 (w_X4 cI cB ad_t g1 g3 g5 g7 g9 t_heardMore t_lie t_changes t_heard ++ w_X4 cI cB ad_o o_worths o_made o_heardOf o_heardThing o_heardOther o_heardMore o_lie o_changes o_heard)) (Z := List.take 11 (List.drop 13 (w_X4 cI cB ad_t g1 g3 g5 g7 g9 t_heardMore t_lie t_changes t_heard ++ w_X4 cI cB ad_o o_worths o_made o_heardOf o_heardThing o_heardOther o_heardMore o_lie o_changes o_heard))) (Y := List.drop 26 (w_X4 cI cB ad_t g1 g3 g5 g7 g9 t_heardMore t_lie t_changes t_heard ++ w_X4 cI cB ad_o o_worths o_made o_heardOf o_heardThing o_heardOther o_heardMore o_lie o_changes o_heard)) rfl) (fun H locs hP hD hS => ?_)
  refine lv_aload_n hx hb dX4_takeFrom_71 rfl (lv_at hl 0 rfl) ?_
  refine lv_aload_n hx hb dX4_takeFrom_72 rfl (lv_at hl 1 rfl) ?_
  refine gf F hP in_X4_takeFrom_X4 13 rfl rfl 6 (by decide) 7 rfl rfl dX4_takeFrom_73 ?_
  refine pf F hP hD hS in_X4_takeFrom_X4 tyX4 tyX4_ok nmX4 0 rfl rfl 6 (by decide) 7 rfl rfl rfl rfl (Nat.le_of_ble_eq_true rfl) dX4_takeFrom_76 (w_X4 cI cB ad_t g1 g3 g5 g7 g9 g11 o_lie t_changes t_heard ++ w_X4 cI cB ad_o o_worths o_made o_heardOf o_heardThing o_heardOther o_heardMore o_lie o_changes o_heard) rfl (fun H locs hP hD hS => ?_)
  refine lv_aload_n hx hb dX4_takeFrom_79 rfl (lv_at hl 0 rfl) ?_
  refine lv_aload_n hx hb dX4_takeFrom_80 rfl (lv_at hl 1 rfl) ?_
  refine gf F hP in_X4_takeFrom_X4 13 rfl rfl 7 (by decide) 8 rfl rfl dX4_takeFrom_81 ?_
  refine pf F hP hD hS in_X4_takeFrom_X4 tyX4 tyX4_ok nmX4 0 rfl rfl 7 (by decide) 8 rfl rfl rfl rfl (Nat.le_of_ble_eq_true rfl) dX4_takeFrom_84 (w_X4 cI cB ad_t g1 g3 g5 g7 g9 g11 o_lie o_changes t_heard ++ w_X4 cI cB ad_o o_worths o_made o_heardOf o_heardThing o_heardOther o_heardMore o_lie o_changes o_heard) rfl (fun H locs hP hD hS => ?_)
  refine lv_aload_n hx hb dX4_takeFrom_87 rfl (lv_at hl 0 rfl) ?_
  refine lv_aload_n hx hb dX4_takeFrom_88 rfl (lv_at hl 1 rfl) ?_
  refine gf F hP in_X4_takeFrom_X4 13 rfl rfl 8 (by decide) 9 rfl rfl dX4_takeFrom_89 ?_
  refine pf F hP hD hS in_X4_takeFrom_X4 tyX4 tyX4_ok nmX4 0 rfl rfl 8 (by decide) 9 rfl rfl rfl rfl (Nat.le_of_ble_eq_true rfl) dX4_takeFrom_92 (w_X4 cI cB ad_t g1 g3 g5 g7 g9 g11 o_lie o_changes o_heard ++ w_X4 cI cB ad_o o_worths o_made o_heardOf o_heardThing o_heardOther o_heardMore o_lie o_changes o_heard) rfl (fun H locs hP hD hS => ?_)
  replace hf : (some (g1, g3, g5, g7, g9, g11, o_lie, o_changes, o_heard) : Option ((Nat → Int32) × (Nat → Int32) × (Nat → Int32) × (Nat → Int32) × (Nat → Int32) × (Nat → Int32) × Int32 × Int32 × Int32)) = some (g_t_worths, g_t_made, g_t_heardOf, g_t_heardThing, g_t_heardOther, g_t_heardMore, g_t_lie, g_t_changes, g_t_heard) := hf
  cases hf
  exact ret_v F hP hS dX4_takeFrom_95

