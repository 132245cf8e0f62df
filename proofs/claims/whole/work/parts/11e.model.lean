/-! X7_truths -/
def rm_X7_truths : Room := { frames := 3, cells := 0, slots := 0, locals := 74 }
theorem nd_X7_truths : yX7_truths.cls = RX7 ∧ yX7_truths.cls ≠ "java/lang/invoke/MethodHandle" ∧ yX7_truths.cls ≠ "java/lang/invoke/VarHandle" ∧ (parseMethodDescriptor yX7_truths.desc).map (fun d => d.parameters.length) = some 2 := by decide +kernel
def f_X7_truths (t_heirs : Int32) (t_worthOf : Nat → Int32) (t_heard : Int32) (t_heardHeir : Nat → Int32) (t_heardOne : Nat → Int32) (t_heardTwo : Nat → Int32) (t_heardMore : Nat → Int32) (x1 : Int32) (x2 : Int32) : Option (Int32) := (f_X7_isHeir t_heirs x1).bind (fun v1 => (if v1 = 0 then some (-101) else (f_X7_isThing t_heirs x2).bind (fun v4 => (if v4 = 0 then some (-101) else (f_X7_truthsNow t_worthOf t_heard t_heardHeir t_heardOne t_heardTwo t_heardMore x1 x2).bind (fun v7 => some v7)))))
set_option maxHeartbeats 4000000 in
set_option maxRecDepth 100000 in
theorem k_X7_truths (l : Launch) {D : va_G} {cI cB : ClassId} {kK kV : Nat → Nat} (ad_t : Nat → Nat) (t_wills : Int32) (t_heirs : Int32) (t_kindOf : Nat → Int32) (t_worthOf : Nat → Int32) (t_thingOf : Nat → Int32) (t_changesOf : Nat → Int32) (t_changes : Int32) (t_heard : Int32) (t_heardHeir : Nat → Int32) (t_heardOne : Nat → Int32) (t_heardTwo : Nat → Int32) (t_heardMore : Nat → Int32) (t_pageLength : Int32) (t_page : Nat → Int32) (t_says : Nat → Int32) (t_dealt : Nat → Int32) (t_farOf : Nat → Int32) (t_endMany : Int32) (t_endMost : Int32) (t_endLeast : Int32) (t_endFew : Int32) (t_seedNow : Int64) (t_saved : Nat → Int32) (t_isKept : Int32) (t_keptWill : Int32) (t_keptChanges : Int32) (t_keptHeard : Int32) (t_keptWorth : Nat → Int32) (t_keptThing : Nat → Int32) (t_keptChangesOf : Nat → Int32) (t_keptHeir : Nat → Int32) (t_keptOne : Nat → Int32) (t_keptTwo : Nat → Int32) (t_keptMore : Nat → Int32) (t_h : Int64) (x1 : Int32) (x2 : Int32) {rr : Int32}  (hf : f_X7_truths t_heirs t_worthOf t_heard t_heardHeir t_heardOne t_heardTwo t_heardMore x1 x2 = some rr) : Ct l yX7_truths wsX7_truths rm_X7_truths D cI cB kK kV [.ref (ad_t 0), .int x1, .int x2] (w_X7 cI cB ad_t t_wills t_heirs t_kindOf t_worthOf t_thingOf t_changesOf t_changes t_heard t_heardHeir t_heardOne t_heardTwo t_heardMore t_pageLength t_page t_says t_dealt t_farOf t_endMany t_endMost t_endLeast t_endFew t_seedNow t_saved t_isKept t_keptWill t_keptChanges t_keptHeard t_keptWorth t_keptThing t_keptChangesOf t_keptHeir t_keptOne t_keptTwo t_keptMore t_h) (w_X7 cI cB ad_t t_wills t_heirs t_kindOf t_worthOf t_thingOf t_changesOf t_changes t_heard t_heardHeir t_heardOne t_heardTwo t_heardMore t_pageLength t_page t_says t_dealt t_farOf t_endMany t_endMost t_endLeast t_endFew t_seedNow t_saved t_isKept t_keptWill t_keptChanges t_keptHeard t_keptWorth t_keptThing t_keptChangesOf t_keptHeir t_keptOne t_keptTwo t_keptMore t_h) (some (.int rr)) := by
  refine Ct.of (cc := cX7_truths) (maxL := 3) (ret := (some .int)) (by decide) rfl (Nat.le_of_ble_eq_true rfl) rfl ?_
  intro p e s m below meth c A ls F hP hD hS hl
  have hl : lv_has ls 3 [(0, .ref (ad_t 0)), (1, .int x1), (2, .int x2)] := hl
  obtain ⟨hx, hb, hml, hown, hts, hrt, hlocks, hK, hA, hZ⟩ := id F
  obtain ⟨H, hH⟩ : ∃ H, H = s.heap := ⟨_, rfl⟩
  obtain ⟨locs, hLo⟩ : ∃ q : List Loc, q = [] := ⟨_, rfl⟩
  refine (?_ : W p l e rm_X7_truths s m _ below meth c s.heap [] 0 0 _ _)
  rw [← hH, ← hLo]
  rw [← hH] at hP
  have hS : va_S A s.heap H locs := by rw [hH, hLo]; exact hS
  refine lv_aload_n hx hb dX7_truths_0 rfl (lv_at hl 0 rfl) ?_
  refine lv_iload_n hx hb dX7_truths_1 rfl (lv_at hl 1 rfl) ?_
  obtain ⟨v1, e2, hf⟩ := bnd hf
  refine cV F hP hD hS (k_X7_isHeir l ad_t t_wills t_heirs t_kindOf t_worthOf t_thingOf t_changesOf t_changes t_heard t_heardHeir t_heardOne t_heardTwo t_heardMore t_pageLength t_page t_says t_dealt t_farOf t_endMany t_endMost t_endLeast t_endFew t_seedNow t_saved t_isKept t_keptWill t_keptChanges t_keptHeard t_keptWorth t_keptThing t_keptChangesOf t_keptHeir t_keptOne t_keptTwo t_keptMore t_h x1 e2) gX7_truths_X7_isHeir rfl ⟨rfl, rfl⟩ nd_X7_isHeir ⟨Nat.le_of_ble_eq_true rfl, Nat.le_of_ble_eq_true rfl⟩ 0 7 rfl rfl rfl hl.1 rfl (Nat.le_of_ble_eq_true rfl) dX7_truths_2 (pm0 (w_X7 cI cB ad_t t_wills t_heirs t_kindOf t_worthOf t_thingOf t_changesOf t_changes t_heard t_heardHeir t_heardOne t_heardTwo t_heardMore t_pageLength t_page t_says t_dealt t_farOf t_endMany t_endMost t_endLeast t_endFew t_seedNow t_saved t_isKept t_keptWill t_keptChanges t_keptHeard t_keptWorth t_keptThing t_keptChangesOf t_keptHeir t_keptOne t_keptTwo t_keptMore t_h)) (pm0 (w_X7 cI cB ad_t t_wills t_heirs t_kindOf t_worthOf t_thingOf t_changesOf t_changes t_heard t_heardHeir t_heardOne t_heardTwo t_heardMore t_pageLength t_page t_says t_dealt t_farOf t_endMany t_endMost t_endLeast t_endFew t_seedNow t_saved t_isKept t_keptWill t_keptChanges t_keptHeard t_keptWorth t_keptThing t_keptChangesOf t_keptHeir t_keptOne t_keptTwo t_keptMore t_h)) (fun H locs hP hD hS => ?_)
  refine lv_if_eq (tgt := 25) hx hb dX7_truths_5 (by decide) (fun c3 => ?_) (fun c3 => ?_)
  · replace hf := (if_pos c3).symm.trans hf
    refine lv_bipush (v := (-101)) hx hb dX7_truths_25 (by decide) ?_
    replace hf : (some (-101) : Option (Int32)) = some rr := hf
    cases hf
    exact ret_i F hP hS dX7_truths_27
  · replace hf := (if_neg c3).symm.trans hf
    refine lv_aload_n hx hb dX7_truths_8 rfl (lv_at hl 0 rfl) ?_
    refine lv_iload_n hx hb dX7_truths_9 rfl (lv_at hl 2 rfl) ?_
    obtain ⟨v4, e5, hf⟩ := bnd hf
    refine cV F hP hD hS (k_X7_isThing l ad_t t_wills t_heirs t_kindOf t_worthOf t_thingOf t_changesOf t_changes t_heard t_heardHeir t_heardOne t_heardTwo t_heardMore t_pageLength t_page t_says t_dealt t_farOf t_endMany t_endMost t_endLeast t_endFew t_seedNow t_saved t_isKept t_keptWill t_keptChanges t_keptHeard t_keptWorth t_keptThing t_keptChangesOf t_keptHeir t_keptOne t_keptTwo t_keptMore t_h x2 e5) gX7_truths_X7_isThing rfl ⟨rfl, rfl⟩ nd_X7_isThing ⟨Nat.le_of_ble_eq_true rfl, Nat.le_of_ble_eq_true rfl⟩ 0 7 rfl rfl rfl hl.1 rfl (Nat.le_of_ble_eq_true rfl) dX7_truths_10 (pm0 (w_X7 cI cB ad_t t_wills t_heirs t_kindOf t_worthOf t_thingOf t_changesOf t_changes t_heard t_heardHeir t_heardOne t_heardTwo t_heardMore t_pageLength t_page t_says t_dealt t_farOf t_endMany t_endMost t_endLeast t_endFew t_seedNow t_saved t_isKept t_keptWill t_keptChanges t_keptHeard t_keptWorth t_keptThing t_keptChangesOf t_keptHeir t_keptOne t_keptTwo t_keptMore t_h)) (pm0 (w_X7 cI cB ad_t t_wills t_heirs t_kindOf t_worthOf t_thingOf t_changesOf t_changes t_heard t_heardHeir t_heardOne t_heardTwo t_heardMore t_pageLength t_page t_says t_dealt t_farOf t_endMany t_endMost t_endLeast t_endFew t_seedNow t_saved t_isKept t_keptWill t_keptChanges t_keptHeard t_keptWorth t_keptThing t_keptChangesOf t_keptHeir t_keptOne t_keptTwo t_keptMore t_h)) (fun H locs hP hD hS => ?_)
    refine lv_if_eq (tgt := 25) hx hb dX7_truths_13 (by decide) (fun c6 => ?_) (fun c6 => ?_)
    · replace hf := (if_pos c6).symm.trans hf
      refine lv_bipush (v := (-101)) hx hb dX7_truths_25 (by decide) ?_
      replace hf : (some (-101) : Option (Int32)) = some rr := hf
      cases hf
      exact ret_i F hP hS dX7_truths_27
    · replace hf := (if_neg c6).symm.trans hf
      refine lv_aload_n hx hb dX7_truths_16 rfl (lv_at hl 0 rfl) ?_
      refine lv_iload_n hx hb dX7_truths_17 rfl (lv_at hl 1 rfl) ?_
      refine lv_iload_n hx hb dX7_truths_18 rfl (lv_at hl 2 rfl) ?_
      obtain ⟨v7, e8, hf⟩ := bnd hf
      refine cV F hP hD hS (k_X7_truthsNow l ad_t t_wills t_heirs t_kindOf t_worthOf t_thingOf t_changesOf t_changes t_heard t_heardHeir t_heardOne t_heardTwo t_heardMore t_pageLength t_page t_says t_dealt t_farOf t_endMany t_endMost t_endLeast t_endFew t_seedNow t_saved t_isKept t_keptWill t_keptChanges t_keptHeard t_keptWorth t_keptThing t_keptChangesOf t_keptHeir t_keptOne t_keptTwo t_keptMore t_h x1 x2 e8) gX7_truths_X7_truthsNow rfl ⟨rfl, rfl⟩ nd_X7_truthsNow ⟨Nat.le_of_ble_eq_true rfl, Nat.le_of_ble_eq_true rfl⟩ 0 7 rfl rfl rfl hl.1 rfl (Nat.le_of_ble_eq_true rfl) dX7_truths_19 (pm0 (w_X7 cI cB ad_t t_wills t_heirs t_kindOf t_worthOf t_thingOf t_changesOf t_changes t_heard t_heardHeir t_heardOne t_heardTwo t_heardMore t_pageLength t_page t_says t_dealt t_farOf t_endMany t_endMost t_endLeast t_endFew t_seedNow t_saved t_isKept t_keptWill t_keptChanges t_keptHeard t_keptWorth t_keptThing t_keptChangesOf t_keptHeir t_keptOne t_keptTwo t_keptMore t_h)) (pm0 (w_X7 cI cB ad_t t_wills t_heirs t_kindOf t_worthOf t_thingOf t_changesOf t_changes t_heard t_heardHeir t_heardOne t_heardTwo t_heardMore t_pageLength t_page t_says t_dealt t_farOf t_endMany t_endMost t_endLeast t_endFew t_seedNow t_saved t_isKept t_keptWill t_keptChanges t_keptHeard t_keptWorth t_keptThing t_keptChangesOf t_keptHeir t_keptOne t_keptTwo t_keptMore t_h)) (fun H locs hP hD hS => ?_)
      refine lv_goto (tgt := 27) hx hb dX7_truths_22 (by decide) ?_
      replace hf : (some v7 : Option (Int32)) = some rr := hf
      cases hf
      exact ret_i F hP hS dX7_truths_27

/-! X7_askNow -/
def rm_X7_askNow : Room := { frames := 3, cells := 0, slots := 0, locals := 74 }
theorem in_X7_askNow_X7 : ∀ w ∈ u_ws RX7 TX7 35, w ∈ wsX7_askNow := fun _ h => List.mem_cons_of_mem _ (List.mem_append_right _ (h))
theorem nd_X7_askNow : yX7_askNow.cls = RX7 ∧ yX7_askNow.cls ≠ "java/lang/invoke/MethodHandle" ∧ yX7_askNow.cls ≠ "java/lang/invoke/VarHandle" ∧ (parseMethodDescriptor yX7_askNow.desc).map (fun d => d.parameters.length) = some 2 := by decide +kernel
def f_X7_askNow_177 (t_worthOf : Nat → Int32) (t_heard : Int32) (t_heardHeir : Nat → Int32) (t_heardOne : Nat → Int32) (t_heardTwo : Nat → Int32) (t_heardMore : Nat → Int32) (back_17 : Int32 → Int32 → Int32 → Int32 → Int32 → Int32 → Option (Int32)) (x1 : Int32) (x2 : Int32) (x3 : Int32) (x4 : Int32) (x6 : Int32) (k0 : Int32) : Option (Int32) := back_17 x1 x2 x3 x4 k0 (x6 + 1)
def f_X7_askNow_161 (t_worthOf : Nat → Int32) (t_heard : Int32) (t_heardHeir : Nat → Int32) (t_heardOne : Nat → Int32) (t_heardTwo : Nat → Int32) (t_heardMore : Nat → Int32) (back_17 : Int32 → Int32 → Int32 → Int32 → Int32 → Int32 → Option (Int32)) (x1 : Int32) (x2 : Int32) (x3 : Int32) (x5 : Int32) (x6 : Int32) (x9 : Int32) (k0 : Int32) : Option (Int32) := (if x5 ≤ x9 then f_X7_askNow_177 t_worthOf t_heard t_heardHeir t_heardOne t_heardTwo t_heardMore back_17 x1 x2 x3 k0 x6 x5 else f_X7_askNow_177 t_worthOf t_heard t_heardHeir t_heardOne t_heardTwo t_heardMore back_17 x1 x2 x3 k0 x6 x9)
def f_X7_askNow_145 (t_worthOf : Nat → Int32) (t_heard : Int32) (t_heardHeir : Nat → Int32) (t_heardOne : Nat → Int32) (t_heardTwo : Nat → Int32) (t_heardMore : Nat → Int32) (back_17 : Int32 → Int32 → Int32 → Int32 → Int32 → Int32 → Option (Int32)) (x1 : Int32) (x2 : Int32) (x3 : Int32) (x4 : Int32) (x5 : Int32) (x6 : Int32) (k0 : Int32) : Option (Int32) := (if x5 ≤ k0 then f_X7_askNow_161 t_worthOf t_heard t_heardHeir t_heardOne t_heardTwo t_heardMore back_17 x1 x2 x3 x5 x6 k0 x4 else f_X7_askNow_161 t_worthOf t_heard t_heardHeir t_heardOne t_heardTwo t_heardMore back_17 x1 x2 x3 x5 x6 k0 x6)
def f_X7_askNow_111 (t_worthOf : Nat → Int32) (t_heard : Int32) (t_heardHeir : Nat → Int32) (t_heardOne : Nat → Int32) (t_heardTwo : Nat → Int32) (t_heardMore : Nat → Int32) (back_17 : Int32 → Int32 → Int32 → Int32 → Int32 → Int32 → Option (Int32)) (back_36 : Int32 → Int32 → Int32 → Int32 → Int32 → Int32 → Int32 → Int32 → Int32 → Option (Int32)) (x1 : Int32) (x2 : Int32) (x3 : Int32) (x4 : Int32) (x5 : Int32) (x6 : Int32) (x7 : Int32) (x9 : Int32) (k0 : Int32) (k1 : Int32) : Option (Int32) := back_36 x1 x2 x3 x4 x5 x6 x7 (k1 + k0) (x9 + 1)
def f_X7_askNow_110 (t_worthOf : Nat → Int32) (t_heard : Int32) (t_heardHeir : Nat → Int32) (t_heardOne : Nat → Int32) (t_heardTwo : Nat → Int32) (t_heardMore : Nat → Int32) (back_17 : Int32 → Int32 → Int32 → Int32 → Int32 → Int32 → Option (Int32)) (back_36 : Int32 → Int32 → Int32 → Int32 → Int32 → Int32 → Int32 → Int32 → Int32 → Option (Int32)) (x1 : Int32) (x2 : Int32) (x3 : Int32) (x4 : Int32) (x5 : Int32) (x6 : Int32) (x7 : Int32) (x9 : Int32) (k0 : Int32) : Option (Int32) := f_X7_askNow_111 t_worthOf t_heard t_heardHeir t_heardOne t_heardTwo t_heardMore back_17 back_36 x1 x2 x3 x4 x5 x6 x7 x9 0 k0
def f_X7_askNow_87 (t_worthOf : Nat → Int32) (t_heard : Int32) (t_heardHeir : Nat → Int32) (t_heardOne : Nat → Int32) (t_heardTwo : Nat → Int32) (t_heardMore : Nat → Int32) (back_17 : Int32 → Int32 → Int32 → Int32 → Int32 → Int32 → Option (Int32)) (back_36 : Int32 → Int32 → Int32 → Int32 → Int32 → Int32 → Int32 → Int32 → Int32 → Option (Int32)) (x1 : Int32) (x2 : Int32) (x3 : Int32) (x4 : Int32) (x5 : Int32) (x6 : Int32) (x8 : Int32) (x9 : Int32) (x10 : Int32) (k0 : Int32) (k1 : Int32) : Option (Int32) := (f_X7_isIn x3 x9).bind (fun v1 => (if v1 = 0 then f_X7_askNow_110 t_worthOf t_heard t_heardHeir t_heardOne t_heardTwo t_heardMore back_17 back_36 x1 x2 x3 x4 x5 x6 (k1 + k0) x9 x8 else (if x10 = 0 then f_X7_askNow_111 t_worthOf t_heard t_heardHeir t_heardOne t_heardTwo t_heardMore back_17 back_36 x1 x2 x3 x4 x5 x6 (k1 + k0) x9 1 x8 else f_X7_askNow_110 t_worthOf t_heard t_heardHeir t_heardOne t_heardTwo t_heardMore back_17 back_36 x1 x2 x3 x4 x5 x6 (k1 + k0) x9 x8)))
def f_X7_askNow_86 (t_worthOf : Nat → Int32) (t_heard : Int32) (t_heardHeir : Nat → Int32) (t_heardOne : Nat → Int32) (t_heardTwo : Nat → Int32) (t_heardMore : Nat → Int32) (back_17 : Int32 → Int32 → Int32 → Int32 → Int32 → Int32 → Option (Int32)) (back_36 : Int32 → Int32 → Int32 → Int32 → Int32 → Int32 → Int32 → Int32 → Int32 → Option (Int32)) (x1 : Int32) (x2 : Int32) (x3 : Int32) (x4 : Int32) (x5 : Int32) (x6 : Int32) (x8 : Int32) (x9 : Int32) (x10 : Int32) (k0 : Int32) : Option (Int32) := f_X7_askNow_87 t_worthOf t_heard t_heardHeir t_heardOne t_heardTwo t_heardMore back_17 back_36 x1 x2 x3 x4 x5 x6 x8 x9 x10 0 k0
def f_X7_askNow_64 (t_worthOf : Nat → Int32) (t_heard : Int32) (t_heardHeir : Nat → Int32) (t_heardOne : Nat → Int32) (t_heardTwo : Nat → Int32) (t_heardMore : Nat → Int32) (back_17 : Int32 → Int32 → Int32 → Int32 → Int32 → Int32 → Option (Int32)) (back_36 : Int32 → Int32 → Int32 → Int32 → Int32 → Int32 → Int32 → Int32 → Int32 → Option (Int32)) (x1 : Int32) (x2 : Int32) (x3 : Int32) (x4 : Int32) (x5 : Int32) (x6 : Int32) (x7 : Int32) (x8 : Int32) (x9 : Int32) (k0 : Int32) : Option (Int32) := (f_X7_isIn x3 x9).bind (fun v1 => (if v1 = 0 then f_X7_askNow_86 t_worthOf t_heard t_heardHeir t_heardOne t_heardTwo t_heardMore back_17 back_36 x1 x2 x3 x4 x5 x6 x8 x9 k0 x7 else (if k0 = 0 then f_X7_askNow_86 t_worthOf t_heard t_heardHeir t_heardOne t_heardTwo t_heardMore back_17 back_36 x1 x2 x3 x4 x5 x6 x8 x9 k0 x7 else f_X7_askNow_87 t_worthOf t_heard t_heardHeir t_heardOne t_heardTwo t_heardMore back_17 back_36 x1 x2 x3 x4 x5 x6 x8 x9 k0 1 x7)))
def f_X7_askNow_36 (t_worthOf : Nat → Int32) (t_heard : Int32) (t_heardHeir : Nat → Int32) (t_heardOne : Nat → Int32) (t_heardTwo : Nat → Int32) (t_heardMore : Nat → Int32) (back_17 : Int32 → Int32 → Int32 → Int32 → Int32 → Int32 → Option (Int32)) : Nat → Int32 → Int32 → Int32 → Int32 → Int32 → Int32 → Int32 → Int32 → Int32 → Option (Int32)
  | 0, _, _, _, _, _, _, _, _, _ => none
  | n + 1, x1, x2, x3, x4, x5, x6, x7, x8, x9 => (if 9 < x9 then (if x6 = x2 then f_X7_askNow_145 t_worthOf t_heard t_heardHeir t_heardOne t_heardTwo t_heardMore back_17 x1 x2 x3 x4 x5 x6 268435456 else (if x7 ≤ x8 then f_X7_askNow_145 t_worthOf t_heard t_heardHeir t_heardOne t_heardTwo t_heardMore back_17 x1 x2 x3 x4 x5 x6 x8 else f_X7_askNow_145 t_worthOf t_heard t_heardHeir t_heardOne t_heardTwo t_heardMore back_17 x1 x2 x3 x4 x5 x6 x7)) else (rd t_worthOf 16 ((4 * x1) + x6)).bind (fun v4 => (if x9 ≤ v4 then f_X7_askNow_64 t_worthOf t_heard t_heardHeir t_heardOne t_heardTwo t_heardMore back_17 (f_X7_askNow_36 t_worthOf t_heard t_heardHeir t_heardOne t_heardTwo t_heardMore back_17 n) x1 x2 x3 x4 x5 x6 x7 x8 x9 0 else f_X7_askNow_64 t_worthOf t_heard t_heardHeir t_heardOne t_heardTwo t_heardMore back_17 (f_X7_askNow_36 t_worthOf t_heard t_heardHeir t_heardOne t_heardTwo t_heardMore back_17 n) x1 x2 x3 x4 x5 x6 x7 x8 x9 1)))
def f_X7_askNow_17 (t_worthOf : Nat → Int32) (t_heard : Int32) (t_heardHeir : Nat → Int32) (t_heardOne : Nat → Int32) (t_heardTwo : Nat → Int32) (t_heardMore : Nat → Int32)  : Nat → Int32 → Int32 → Int32 → Int32 → Int32 → Int32 → Option (Int32)
  | 0, _, _, _, _, _, _ => none
  | n + 1, x1, x2, x3, x4, x5, x6 => (if 4 ≤ x6 then some x4 else (if x3 = 0 then some x4 else f_X7_askNow_36 t_worthOf t_heard t_heardHeir t_heardOne t_heardTwo t_heardMore (f_X7_askNow_17 t_worthOf t_heard t_heardHeir t_heardOne t_heardTwo t_heardMore  n) 300 x1 x2 x3 x4 x5 x6 0 0 0))
def f_X7_askNow (t_worthOf : Nat → Int32) (t_heard : Int32) (t_heardHeir : Nat → Int32) (t_heardOne : Nat → Int32) (t_heardTwo : Nat → Int32) (t_heardMore : Nat → Int32) (x1 : Int32) (x2 : Int32) : Option (Int32) := (f_X7_truthsNow t_worthOf t_heard t_heardHeir t_heardOne t_heardTwo t_heardMore x1 x2).bind (fun v1 => f_X7_askNow_17 t_worthOf t_heard t_heardHeir t_heardOne t_heardTwo t_heardMore 300 x1 x2 v1 (-1) 268435456 0)
set_option maxHeartbeats 4000000 in
set_option maxRecDepth 100000 in
theorem b_X7_askNow_177 {p : Program} {l : Launch} {e : Env} {s : State} {m : MethodId} {args : Array Value} {below : List Frame} {meth : Method} {c : Code} {D : va_G} {cI cB : ClassId} {kK kV : Nat → Nat} {A : Nat → Prop} (F : Fx p m c s meth args cX7_askNow 11 RX7 wsX7_askNow (some .int) D cI cB kK kV A) {ad_t : Nat → Nat} {t_wills : Int32} {t_heirs : Int32} {t_kindOf : Nat → Int32} {t_worthOf : Nat → Int32} {t_thingOf : Nat → Int32} {t_changesOf : Nat → Int32} {t_changes : Int32} {t_heard : Int32} {t_heardHeir : Nat → Int32} {t_heardOne : Nat → Int32} {t_heardTwo : Nat → Int32} {t_heardMore : Nat → Int32} {t_pageLength : Int32} {t_page : Nat → Int32} {t_says : Nat → Int32} {t_dealt : Nat → Int32} {t_farOf : Nat → Int32} {t_endMany : Int32} {t_endMost : Int32} {t_endLeast : Int32} {t_endFew : Int32} {t_seedNow : Int64} {t_saved : Nat → Int32} {t_isKept : Int32} {t_keptWill : Int32} {t_keptChanges : Int32} {t_keptHeard : Int32} {t_keptWorth : Nat → Int32} {t_keptThing : Nat → Int32} {t_keptChangesOf : Nat → Int32} {t_keptHeir : Nat → Int32} {t_keptOne : Nat → Int32} {t_keptTwo : Nat → Int32} {t_keptMore : Nat → Int32} {t_h : Int64} {rr : Int32}  (back_17 : Int32 → Int32 → Int32 → Int32 → Int32 → Int32 → Option (Int32)) (hb_17 : ∀ (x1 : Int32) (x2 : Int32) (x3 : Int32) (x4 : Int32) (x5 : Int32) (x6 : Int32) (H : Heap) (locs : List Loc) (ls : Array Slot), va_P D vwCl (w_X7 cI cB ad_t t_wills t_heirs t_kindOf t_worthOf t_thingOf t_changesOf t_changes t_heard t_heardHeir t_heardOne t_heardTwo t_heardMore t_pageLength t_page t_says t_dealt t_farOf t_endMany t_endMost t_endLeast t_endFew t_seedNow t_saved t_isKept t_keptWill t_keptChanges t_keptHeard t_keptWorth t_keptThing t_keptChangesOf t_keptHeir t_keptOne t_keptTwo t_keptMore t_h) H → va_D A (w_X7 cI cB ad_t t_wills t_heirs t_kindOf t_worthOf t_thingOf t_changesOf t_changes t_heard t_heardHeir t_heardOne t_heardTwo t_heardMore t_pageLength t_page t_says t_dealt t_farOf t_endMany t_endMost t_endLeast t_endFew t_seedNow t_saved t_isKept t_keptWill t_keptChanges t_keptHeard t_keptWorth t_keptThing t_keptChangesOf t_keptHeir t_keptOne t_keptTwo t_keptMore t_h) → va_S A s.heap H locs → lv_has ls 11 [(0, .ref (ad_t 0)), (1, .int x1), (2, .int x2), (3, .int x3), (4, .int x4), (5, .int x5), (6, .int x6)] → back_17 x1 x2 x3 x4 x5 x6 = some rr → W p l e rm_X7_askNow s m args below meth c H locs 0 0 (Zq D below args s A (w_X7 cI cB ad_t t_wills t_heirs t_kindOf t_worthOf t_thingOf t_changesOf t_changes t_heard t_heardHeir t_heardOne t_heardTwo t_heardMore t_pageLength t_page t_says t_dealt t_farOf t_endMany t_endMost t_endLeast t_endFew t_seedNow t_saved t_isKept t_keptWill t_keptChanges t_keptHeard t_keptWorth t_keptThing t_keptChangesOf t_keptHeir t_keptOne t_keptTwo t_keptMore t_h) (some (.int rr))) (F0 m 17 ls [])) : ∀ (x1 : Int32) (x2 : Int32) (x3 : Int32) (x4 : Int32) (x6 : Int32) (k0 : Int32) (H : Heap) (locs : List Loc) (ls : Array Slot), va_P D vwCl (w_X7 cI cB ad_t t_wills t_heirs t_kindOf t_worthOf t_thingOf t_changesOf t_changes t_heard t_heardHeir t_heardOne t_heardTwo t_heardMore t_pageLength t_page t_says t_dealt t_farOf t_endMany t_endMost t_endLeast t_endFew t_seedNow t_saved t_isKept t_keptWill t_keptChanges t_keptHeard t_keptWorth t_keptThing t_keptChangesOf t_keptHeir t_keptOne t_keptTwo t_keptMore t_h) H → va_D A (w_X7 cI cB ad_t t_wills t_heirs t_kindOf t_worthOf t_thingOf t_changesOf t_changes t_heard t_heardHeir t_heardOne t_heardTwo t_heardMore t_pageLength t_page t_says t_dealt t_farOf t_endMany t_endMost t_endLeast t_endFew t_seedNow t_saved t_isKept t_keptWill t_keptChanges t_keptHeard t_keptWorth t_keptThing t_keptChangesOf t_keptHeir t_keptOne t_keptTwo t_keptMore t_h) → va_S A s.heap H locs → lv_has ls 11 [(0, .ref (ad_t 0)), (1, .int x1), (2, .int x2), (3, .int x3), (4, .int x4), (6, .int x6)] → f_X7_askNow_177 t_worthOf t_heard t_heardHeir t_heardOne t_heardTwo t_heardMore back_17 x1 x2 x3 x4 x6 k0 = some rr → W p l e rm_X7_askNow s m args below meth c H locs 0 0 (Zq D below args s A (w_X7 cI cB ad_t t_wills t_heirs t_kindOf t_worthOf t_thingOf t_changesOf t_changes t_heard t_heardHeir t_heardOne t_heardTwo t_heardMore t_pageLength t_page t_says t_dealt t_farOf t_endMany t_endMost t_endLeast t_endFew t_seedNow t_saved t_isKept t_keptWill t_keptChanges t_keptHeard t_keptWorth t_keptThing t_keptChangesOf t_keptHeir t_keptOne t_keptTwo t_keptMore t_h) (some (.int rr))) (F0 m 177 ls [.int k0]) := by
  obtain ⟨hx, hb, hml, hown, hts, hrt, hlocks, hK, hA, hZ⟩ := id F
  intro x1 x2 x3 x4 x6 k0 H locs ls hP hD hS hl hf
  refine lv_istore (lv' := [(5, .int k0), (0, .ref (ad_t 0)), (1, .int x1), (2, .int x2), (3, .int x3), (4, .int x4), (6, .int x6)]) hx hb dX7_askNow_177 hl (by decide) rfl (fun ls hl => ?_)
  refine lv_iinc (v := (x6 + 1)) (lv' := [(6, .int (x6 + 1)), (5, .int k0), (0, .ref (ad_t 0)), (1, .int x1), (2, .int x2), (3, .int x3), (4, .int x4)]) hx hb dX7_askNow_179 hl (k := 6) rfl rfl (by decide) rfl (fun ls hl => ?_)
  refine lv_goto (tgt := 17) hx hb dX7_askNow_182 (by decide) ?_
  exact hb_17 x1 x2 x3 x4 k0 (x6 + 1) H locs ls hP hD hS (lv_sub hl [2, 3, 4, 5, 6, 1, 0] rfl) hf

set_option maxHeartbeats 4000000 in
set_option maxRecDepth 100000 in
theorem b_X7_askNow_161 {p : Program} {l : Launch} {e : Env} {s : State} {m : MethodId} {args : Array Value} {below : List Frame} {meth : Method} {c : Code} {D : va_G} {cI cB : ClassId} {kK kV : Nat → Nat} {A : Nat → Prop} (F : Fx p m c s meth args cX7_askNow 11 RX7 wsX7_askNow (some .int) D cI cB kK kV A) {ad_t : Nat → Nat} {t_wills : Int32} {t_heirs : Int32} {t_kindOf : Nat → Int32} {t_worthOf : Nat → Int32} {t_thingOf : Nat → Int32} {t_changesOf : Nat → Int32} {t_changes : Int32} {t_heard : Int32} {t_heardHeir : Nat → Int32} {t_heardOne : Nat → Int32} {t_heardTwo : Nat → Int32} {t_heardMore : Nat → Int32} {t_pageLength : Int32} {t_page : Nat → Int32} {t_says : Nat → Int32} {t_dealt : Nat → Int32} {t_farOf : Nat → Int32} {t_endMany : Int32} {t_endMost : Int32} {t_endLeast : Int32} {t_endFew : Int32} {t_seedNow : Int64} {t_saved : Nat → Int32} {t_isKept : Int32} {t_keptWill : Int32} {t_keptChanges : Int32} {t_keptHeard : Int32} {t_keptWorth : Nat → Int32} {t_keptThing : Nat → Int32} {t_keptChangesOf : Nat → Int32} {t_keptHeir : Nat → Int32} {t_keptOne : Nat → Int32} {t_keptTwo : Nat → Int32} {t_keptMore : Nat → Int32} {t_h : Int64} {rr : Int32}  (back_17 : Int32 → Int32 → Int32 → Int32 → Int32 → Int32 → Option (Int32)) (hb_17 : ∀ (x1 : Int32) (x2 : Int32) (x3 : Int32) (x4 : Int32) (x5 : Int32) (x6 : Int32) (H : Heap) (locs : List Loc) (ls : Array Slot), va_P D vwCl (w_X7 cI cB ad_t t_wills t_heirs t_kindOf t_worthOf t_thingOf t_changesOf t_changes t_heard t_heardHeir t_heardOne t_heardTwo t_heardMore t_pageLength t_page t_says t_dealt t_farOf t_endMany t_endMost t_endLeast t_endFew t_seedNow t_saved t_isKept t_keptWill t_keptChanges t_keptHeard t_keptWorth t_keptThing t_keptChangesOf t_keptHeir t_keptOne t_keptTwo t_keptMore t_h) H → va_D A (w_X7 cI cB ad_t t_wills t_heirs t_kindOf t_worthOf t_thingOf t_changesOf t_changes t_heard t_heardHeir t_heardOne t_heardTwo t_heardMore t_pageLength t_page t_says t_dealt t_farOf t_endMany t_endMost t_endLeast t_endFew t_seedNow t_saved t_isKept t_keptWill t_keptChanges t_keptHeard t_keptWorth t_keptThing t_keptChangesOf t_keptHeir t_keptOne t_keptTwo t_keptMore t_h) → va_S A s.heap H locs → lv_has ls 11 [(0, .ref (ad_t 0)), (1, .int x1), (2, .int x2), (3, .int x3), (4, .int x4), (5, .int x5), (6, .int x6)] → back_17 x1 x2 x3 x4 x5 x6 = some rr → W p l e rm_X7_askNow s m args below meth c H locs 0 0 (Zq D below args s A (w_X7 cI cB ad_t t_wills t_heirs t_kindOf t_worthOf t_thingOf t_changesOf t_changes t_heard t_heardHeir t_heardOne t_heardTwo t_heardMore t_pageLength t_page t_says t_dealt t_farOf t_endMany t_endMost t_endLeast t_endFew t_seedNow t_saved t_isKept t_keptWill t_keptChanges t_keptHeard t_keptWorth t_keptThing t_keptChangesOf t_keptHeir t_keptOne t_keptTwo t_keptMore t_h) (some (.int rr))) (F0 m 17 ls [])) : ∀ (x1 : Int32) (x2 : Int32) (x3 : Int32) (x5 : Int32) (x6 : Int32) (x9 : Int32) (k0 : Int32) (H : Heap) (locs : List Loc) (ls : Array Slot), va_P D vwCl (w_X7 cI cB ad_t t_wills t_heirs t_kindOf t_worthOf t_thingOf t_changesOf t_changes t_heard t_heardHeir t_heardOne t_heardTwo t_heardMore t_pageLength t_page t_says t_dealt t_farOf t_endMany t_endMost t_endLeast t_endFew t_seedNow t_saved t_isKept t_keptWill t_keptChanges t_keptHeard t_keptWorth t_keptThing t_keptChangesOf t_keptHeir t_keptOne t_keptTwo t_keptMore t_h) H → va_D A (w_X7 cI cB ad_t t_wills t_heirs t_kindOf t_worthOf t_thingOf t_changesOf t_changes t_heard t_heardHeir t_heardOne t_heardTwo t_heardMore t_pageLength t_page t_says t_dealt t_farOf t_endMany t_endMost t_endLeast t_endFew t_seedNow t_saved t_isKept t_keptWill t_keptChanges t_keptHeard t_keptWorth t_keptThing t_keptChangesOf t_keptHeir t_keptOne t_keptTwo t_keptMore t_h) → va_S A s.heap H locs → lv_has ls 11 [(0, .ref (ad_t 0)), (1, .int x1), (2, .int x2), (3, .int x3), (5, .int x5), (6, .int x6), (9, .int x9)] → f_X7_askNow_161 t_worthOf t_heard t_heardHeir t_heardOne t_heardTwo t_heardMore back_17 x1 x2 x3 x5 x6 x9 k0 = some rr → W p l e rm_X7_askNow s m args below meth c H locs 0 0 (Zq D below args s A (w_X7 cI cB ad_t t_wills t_heirs t_kindOf t_worthOf t_thingOf t_changesOf t_changes t_heard t_heardHeir t_heardOne t_heardTwo t_heardMore t_pageLength t_page t_says t_dealt t_farOf t_endMany t_endMost t_endLeast t_endFew t_seedNow t_saved t_isKept t_keptWill t_keptChanges t_keptHeard t_keptWorth t_keptThing t_keptChangesOf t_keptHeir t_keptOne t_keptTwo t_keptMore t_h) (some (.int rr))) (F0 m 161 ls [.int k0]) := by
  obtain ⟨hx, hb, hml, hown, hts, hrt, hlocks, hK, hA, hZ⟩ := id F
  intro x1 x2 x3 x5 x6 x9 k0 H locs ls hP hD hS hl hf
  refine lv_istore (lv' := [(4, .int k0), (0, .ref (ad_t 0)), (1, .int x1), (2, .int x2), (3, .int x3), (5, .int x5), (6, .int x6), (9, .int x9)]) hx hb dX7_askNow_161 hl (by decide) rfl (fun ls hl => ?_)
  refine lv_iload hx hb dX7_askNow_163 (lv_at hl 7 rfl) ?_
  refine lv_iload hx hb dX7_askNow_165 (lv_at hl 5 rfl) ?_
  refine lv_icmp_ge (tgt := 175) hx hb dX7_askNow_167 (by decide) (fun c1 => ?_) (fun c1 => ?_)
  · replace hf := (if_pos c1).symm.trans hf
    refine lv_iload hx hb dX7_askNow_175 (lv_at hl 5 rfl) ?_
    exact b_X7_askNow_177 F back_17 hb_17 x1 x2 x3 k0 x6 x5 H locs ls hP hD hS (lv_sub hl [1, 2, 3, 4, 0, 6] rfl) hf
  · replace hf := (if_neg c1).symm.trans hf
    refine lv_iload hx hb dX7_askNow_170 (lv_at hl 7 rfl) ?_
    refine lv_goto (tgt := 177) hx hb dX7_askNow_172 (by decide) ?_
    exact b_X7_askNow_177 F back_17 hb_17 x1 x2 x3 k0 x6 x9 H locs ls hP hD hS (lv_sub hl [1, 2, 3, 4, 0, 6] rfl) hf

set_option maxHeartbeats 4000000 in
set_option maxRecDepth 100000 in
theorem b_X7_askNow_145 {p : Program} {l : Launch} {e : Env} {s : State} {m : MethodId} {args : Array Value} {below : List Frame} {meth : Method} {c : Code} {D : va_G} {cI cB : ClassId} {kK kV : Nat → Nat} {A : Nat → Prop} (F : Fx p m c s meth args cX7_askNow 11 RX7 wsX7_askNow (some .int) D cI cB kK kV A) {ad_t : Nat → Nat} {t_wills : Int32} {t_heirs : Int32} {t_kindOf : Nat → Int32} {t_worthOf : Nat → Int32} {t_thingOf : Nat → Int32} {t_changesOf : Nat → Int32} {t_changes : Int32} {t_heard : Int32} {t_heardHeir : Nat → Int32} {t_heardOne : Nat → Int32} {t_heardTwo : Nat → Int32} {t_heardMore : Nat → Int32} {t_pageLength : Int32} {t_page : Nat → Int32} {t_says : Nat → Int32} {t_dealt : Nat → Int32} {t_farOf : Nat → Int32} {t_endMany : Int32} {t_endMost : Int32} {t_endLeast : Int32} {t_endFew : Int32} {t_seedNow : Int64} {t_saved : Nat → Int32} {t_isKept : Int32} {t_keptWill : Int32} {t_keptChanges : Int32} {t_keptHeard : Int32} {t_keptWorth : Nat → Int32} {t_keptThing : Nat → Int32} {t_keptChangesOf : Nat → Int32} {t_keptHeir : Nat → Int32} {t_keptOne : Nat → Int32} {t_keptTwo : Nat → Int32} {t_keptMore : Nat → Int32} {t_h : Int64} {rr : Int32}  (back_17 : Int32 → Int32 → Int32 → Int32 → Int32 → Int32 → Option (Int32)) (hb_17 : ∀ (x1 : Int32) (x2 : Int32) (x3 : Int32) (x4 : Int32) (x5 : Int32) (x6 : Int32) (H : Heap) (locs : List Loc) (ls : Array Slot), va_P D vwCl (w_X7 cI cB ad_t t_wills t_heirs t_kindOf t_worthOf t_thingOf t_changesOf t_changes t_heard t_heardHeir t_heardOne t_heardTwo t_heardMore t_pageLength t_page t_says t_dealt t_farOf t_endMany t_endMost t_endLeast t_endFew t_seedNow t_saved t_isKept t_keptWill t_keptChanges t_keptHeard t_keptWorth t_keptThing t_keptChangesOf t_keptHeir t_keptOne t_keptTwo t_keptMore t_h) H → va_D A (w_X7 cI cB ad_t t_wills t_heirs t_kindOf t_worthOf t_thingOf t_changesOf t_changes t_heard t_heardHeir t_heardOne t_heardTwo t_heardMore t_pageLength t_page t_says t_dealt t_farOf t_endMany t_endMost t_endLeast t_endFew t_seedNow t_saved t_isKept t_keptWill t_keptChanges t_keptHeard t_keptWorth t_keptThing t_keptChangesOf t_keptHeir t_keptOne t_keptTwo t_keptMore t_h) → va_S A s.heap H locs → lv_has ls 11 [(0, .ref (ad_t 0)), (1, .int x1), (2, .int x2), (3, .int x3), (4, .int x4), (5, .int x5), (6, .int x6)] → back_17 x1 x2 x3 x4 x5 x6 = some rr → W p l e rm_X7_askNow s m args below meth c H locs 0 0 (Zq D below args s A (w_X7 cI cB ad_t t_wills t_heirs t_kindOf t_worthOf t_thingOf t_changesOf t_changes t_heard t_heardHeir t_heardOne t_heardTwo t_heardMore t_pageLength t_page t_says t_dealt t_farOf t_endMany t_endMost t_endLeast t_endFew t_seedNow t_saved t_isKept t_keptWill t_keptChanges t_keptHeard t_keptWorth t_keptThing t_keptChangesOf t_keptHeir t_keptOne t_keptTwo t_keptMore t_h) (some (.int rr))) (F0 m 17 ls [])) : ∀ (x1 : Int32) (x2 : Int32) (x3 : Int32) (x4 : Int32) (x5 : Int32) (x6 : Int32) (k0 : Int32) (H : Heap) (locs : List Loc) (ls : Array Slot), va_P D vwCl (w_X7 cI cB ad_t t_wills t_heirs t_kindOf t_worthOf t_thingOf t_changesOf t_changes t_heard t_heardHeir t_heardOne t_heardTwo t_heardMore t_pageLength t_page t_says t_dealt t_farOf t_endMany t_endMost t_endLeast t_endFew t_seedNow t_saved t_isKept t_keptWill t_keptChanges t_keptHeard t_keptWorth t_keptThing t_keptChangesOf t_keptHeir t_keptOne t_keptTwo t_keptMore t_h) H → va_D A (w_X7 cI cB ad_t t_wills t_heirs t_kindOf t_worthOf t_thingOf t_changesOf t_changes t_heard t_heardHeir t_heardOne t_heardTwo t_heardMore t_pageLength t_page t_says t_dealt t_farOf t_endMany t_endMost t_endLeast t_endFew t_seedNow t_saved t_isKept t_keptWill t_keptChanges t_keptHeard t_keptWorth t_keptThing t_keptChangesOf t_keptHeir t_keptOne t_keptTwo t_keptMore t_h) → va_S A s.heap H locs → lv_has ls 11 [(0, .ref (ad_t 0)), (1, .int x1), (2, .int x2), (3, .int x3), (4, .int x4), (5, .int x5), (6, .int x6)] → f_X7_askNow_145 t_worthOf t_heard t_heardHeir t_heardOne t_heardTwo t_heardMore back_17 x1 x2 x3 x4 x5 x6 k0 = some rr → W p l e rm_X7_askNow s m args below meth c H locs 0 0 (Zq D below args s A (w_X7 cI cB ad_t t_wills t_heirs t_kindOf t_worthOf t_thingOf t_changesOf t_changes t_heard t_heardHeir t_heardOne t_heardTwo t_heardMore t_pageLength t_page t_says t_dealt t_farOf t_endMany t_endMost t_endLeast t_endFew t_seedNow t_saved t_isKept t_keptWill t_keptChanges t_keptHeard t_keptWorth t_keptThing t_keptChangesOf t_keptHeir t_keptOne t_keptTwo t_keptMore t_h) (some (.int rr))) (F0 m 145 ls [.int k0]) := by
  obtain ⟨hx, hb, hml, hown, hts, hrt, hlocks, hK, hA, hZ⟩ := id F
  intro x1 x2 x3 x4 x5 x6 k0 H locs ls hP hD hS hl hf
  refine lv_istore (lv' := [(9, .int k0), (0, .ref (ad_t 0)), (1, .int x1), (2, .int x2), (3, .int x3), (4, .int x4), (5, .int x5), (6, .int x6)]) hx hb dX7_askNow_145 hl (by decide) rfl (fun ls hl => ?_)
  refine lv_iload hx hb dX7_askNow_147 (lv_at hl 0 rfl) ?_
  refine lv_iload hx hb dX7_askNow_149 (lv_at hl 6 rfl) ?_
  refine lv_icmp_ge (tgt := 159) hx hb dX7_askNow_151 (by decide) (fun c1 => ?_) (fun c1 => ?_)
  · replace hf := (if_pos c1).symm.trans hf
    refine lv_iload hx hb dX7_askNow_159 (lv_at hl 5 rfl) ?_
    exact b_X7_askNow_161 F back_17 hb_17 x1 x2 x3 x5 x6 k0 x4 H locs ls hP hD hS (lv_sub hl [1, 2, 3, 4, 6, 7, 0] rfl) hf
  · replace hf := (if_neg c1).symm.trans hf
    refine lv_iload hx hb dX7_askNow_154 (lv_at hl 7 rfl) ?_
    refine lv_goto (tgt := 161) hx hb dX7_askNow_156 (by decide) ?_
    exact b_X7_askNow_161 F back_17 hb_17 x1 x2 x3 x5 x6 k0 x6 H locs ls hP hD hS (lv_sub hl [1, 2, 3, 4, 6, 7, 0] rfl) hf

set_option maxHeartbeats 4000000 in
set_option maxRecDepth 100000 in
theorem b_X7_askNow_111 {p : Program} {l : Launch} {e : Env} {s : State} {m : MethodId} {args : Array Value} {below : List Frame} {meth : Method} {c : Code} {D : va_G} {cI cB : ClassId} {kK kV : Nat → Nat} {A : Nat → Prop} (F : Fx p m c s meth args cX7_askNow 11 RX7 wsX7_askNow (some .int) D cI cB kK kV A) {ad_t : Nat → Nat} {t_wills : Int32} {t_heirs : Int32} {t_kindOf : Nat → Int32} {t_worthOf : Nat → Int32} {t_thingOf : Nat → Int32} {t_changesOf : Nat → Int32} {t_changes : Int32} {t_heard : Int32} {t_heardHeir : Nat → Int32} {t_heardOne : Nat → Int32} {t_heardTwo : Nat → Int32} {t_heardMore : Nat → Int32} {t_pageLength : Int32} {t_page : Nat → Int32} {t_says : Nat → Int32} {t_dealt : Nat → Int32} {t_farOf : Nat → Int32} {t_endMany : Int32} {t_endMost : Int32} {t_endLeast : Int32} {t_endFew : Int32} {t_seedNow : Int64} {t_saved : Nat → Int32} {t_isKept : Int32} {t_keptWill : Int32} {t_keptChanges : Int32} {t_keptHeard : Int32} {t_keptWorth : Nat → Int32} {t_keptThing : Nat → Int32} {t_keptChangesOf : Nat → Int32} {t_keptHeir : Nat → Int32} {t_keptOne : Nat → Int32} {t_keptTwo : Nat → Int32} {t_keptMore : Nat → Int32} {t_h : Int64} {rr : Int32}  (back_17 : Int32 → Int32 → Int32 → Int32 → Int32 → Int32 → Option (Int32)) (hb_17 : ∀ (x1 : Int32) (x2 : Int32) (x3 : Int32) (x4 : Int32) (x5 : Int32) (x6 : Int32) (H : Heap) (locs : List Loc) (ls : Array Slot), va_P D vwCl (w_X7 cI cB ad_t t_wills t_heirs t_kindOf t_worthOf t_thingOf t_changesOf t_changes t_heard t_heardHeir t_heardOne t_heardTwo t_heardMore t_pageLength t_page t_says t_dealt t_farOf t_endMany t_endMost t_endLeast t_endFew t_seedNow t_saved t_isKept t_keptWill t_keptChanges t_keptHeard t_keptWorth t_keptThing t_keptChangesOf t_keptHeir t_keptOne t_keptTwo t_keptMore t_h) H → va_D A (w_X7 cI cB ad_t t_wills t_heirs t_kindOf t_worthOf t_thingOf t_changesOf t_changes t_heard t_heardHeir t_heardOne t_heardTwo t_heardMore t_pageLength t_page t_says t_dealt t_farOf t_endMany t_endMost t_endLeast t_endFew t_seedNow t_saved t_isKept t_keptWill t_keptChanges t_keptHeard t_keptWorth t_keptThing t_keptChangesOf t_keptHeir t_keptOne t_keptTwo t_keptMore t_h) → va_S A s.heap H locs → lv_has ls 11 [(0, .ref (ad_t 0)), (1, .int x1), (2, .int x2), (3, .int x3), (4, .int x4), (5, .int x5), (6, .int x6)] → back_17 x1 x2 x3 x4 x5 x6 = some rr → W p l e rm_X7_askNow s m args below meth c H locs 0 0 (Zq D below args s A (w_X7 cI cB ad_t t_wills t_heirs t_kindOf t_worthOf t_thingOf t_changesOf t_changes t_heard t_heardHeir t_heardOne t_heardTwo t_heardMore t_pageLength t_page t_says t_dealt t_farOf t_endMany t_endMost t_endLeast t_endFew t_seedNow t_saved t_isKept t_keptWill t_keptChanges t_keptHeard t_keptWorth t_keptThing t_keptChangesOf t_keptHeir t_keptOne t_keptTwo t_keptMore t_h) (some (.int rr))) (F0 m 17 ls [])) (back_36 : Int32 → Int32 → Int32 → Int32 → Int32 → Int32 → Int32 → Int32 → Int32 → Option (Int32)) (hb_36 : ∀ (x1 : Int32) (x2 : Int32) (x3 : Int32) (x4 : Int32) (x5 : Int32) (x6 : Int32) (x7 : Int32) (x8 : Int32) (x9 : Int32) (H : Heap) (locs : List Loc) (ls : Array Slot), va_P D vwCl (w_X7 cI cB ad_t t_wills t_heirs t_kindOf t_worthOf t_thingOf t_changesOf t_changes t_heard t_heardHeir t_heardOne t_heardTwo t_heardMore t_pageLength t_page t_says t_dealt t_farOf t_endMany t_endMost t_endLeast t_endFew t_seedNow t_saved t_isKept t_keptWill t_keptChanges t_keptHeard t_keptWorth t_keptThing t_keptChangesOf t_keptHeir t_keptOne t_keptTwo t_keptMore t_h) H → va_D A (w_X7 cI cB ad_t t_wills t_heirs t_kindOf t_worthOf t_thingOf t_changesOf t_changes t_heard t_heardHeir t_heardOne t_heardTwo t_heardMore t_pageLength t_page t_says t_dealt t_farOf t_endMany t_endMost t_endLeast t_endFew t_seedNow t_saved t_isKept t_keptWill t_keptChanges t_keptHeard t_keptWorth t_keptThing t_keptChangesOf t_keptHeir t_keptOne t_keptTwo t_keptMore t_h) → va_S A s.heap H locs → lv_has ls 11 [(0, .ref (ad_t 0)), (1, .int x1), (2, .int x2), (3, .int x3), (4, .int x4), (5, .int x5), (6, .int x6), (7, .int x7), (8, .int x8), (9, .int x9)] → back_36 x1 x2 x3 x4 x5 x6 x7 x8 x9 = some rr → W p l e rm_X7_askNow s m args below meth c H locs 0 0 (Zq D below args s A (w_X7 cI cB ad_t t_wills t_heirs t_kindOf t_worthOf t_thingOf t_changesOf t_changes t_heard t_heardHeir t_heardOne t_heardTwo t_heardMore t_pageLength t_page t_says t_dealt t_farOf t_endMany t_endMost t_endLeast t_endFew t_seedNow t_saved t_isKept t_keptWill t_keptChanges t_keptHeard t_keptWorth t_keptThing t_keptChangesOf t_keptHeir t_keptOne t_keptTwo t_keptMore t_h) (some (.int rr))) (F0 m 36 ls [])) : ∀ (x1 : Int32) (x2 : Int32) (x3 : Int32) (x4 : Int32) (x5 : Int32) (x6 : Int32) (x7 : Int32) (x9 : Int32) (k0 : Int32) (k1 : Int32) (H : Heap) (locs : List Loc) (ls : Array Slot), va_P D vwCl (w_X7 cI cB ad_t t_wills t_heirs t_kindOf t_worthOf t_thingOf t_changesOf t_changes t_heard t_heardHeir t_heardOne t_heardTwo t_heardMore t_pageLength t_page t_says t_dealt t_farOf t_endMany t_endMost t_endLeast t_endFew t_seedNow t_saved t_isKept t_keptWill t_keptChanges t_keptHeard t_keptWorth t_keptThing t_keptChangesOf t_keptHeir t_keptOne t_keptTwo t_keptMore t_h) H → va_D A (w_X7 cI cB ad_t t_wills t_heirs t_kindOf t_worthOf t_thingOf t_changesOf t_changes t_heard t_heardHeir t_heardOne t_heardTwo t_heardMore t_pageLength t_page t_says t_dealt t_farOf t_endMany t_endMost t_endLeast t_endFew t_seedNow t_saved t_isKept t_keptWill t_keptChanges t_keptHeard t_keptWorth t_keptThing t_keptChangesOf t_keptHeir t_keptOne t_keptTwo t_keptMore t_h) → va_S A s.heap H locs → lv_has ls 11 [(0, .ref (ad_t 0)), (1, .int x1), (2, .int x2), (3, .int x3), (4, .int x4), (5, .int x5), (6, .int x6), (7, .int x7), (9, .int x9)] → f_X7_askNow_111 t_worthOf t_heard t_heardHeir t_heardOne t_heardTwo t_heardMore back_17 back_36 x1 x2 x3 x4 x5 x6 x7 x9 k0 k1 = some rr → W p l e rm_X7_askNow s m args below meth c H locs 0 0 (Zq D below args s A (w_X7 cI cB ad_t t_wills t_heirs t_kindOf t_worthOf t_thingOf t_changesOf t_changes t_heard t_heardHeir t_heardOne t_heardTwo t_heardMore t_pageLength t_page t_says t_dealt t_farOf t_endMany t_endMost t_endLeast t_endFew t_seedNow t_saved t_isKept t_keptWill t_keptChanges t_keptHeard t_keptWorth t_keptThing t_keptChangesOf t_keptHeir t_keptOne t_keptTwo t_keptMore t_h) (some (.int rr))) (F0 m 111 ls [.int k0, .int k1]) := by
  obtain ⟨hx, hb, hml, hown, hts, hrt, hlocks, hK, hA, hZ⟩ := id F
  intro x1 x2 x3 x4 x5 x6 x7 x9 k0 k1 H locs ls hP hD hS hl hf
  refine lv_iadd hx hb dX7_askNow_111 ?_
  refine lv_istore (lv' := [(8, .int (k1 + k0)), (0, .ref (ad_t 0)), (1, .int x1), (2, .int x2), (3, .int x3), (4, .int x4), (5, .int x5), (6, .int x6), (7, .int x7), (9, .int x9)]) hx hb dX7_askNow_112 hl (by decide) rfl (fun ls hl => ?_)
  refine lv_iinc (v := (x9 + 1)) (lv' := [(9, .int (x9 + 1)), (8, .int (k1 + k0)), (0, .ref (ad_t 0)), (1, .int x1), (2, .int x2), (3, .int x3), (4, .int x4), (5, .int x5), (6, .int x6), (7, .int x7)]) hx hb dX7_askNow_114 hl (k := 9) rfl rfl (by decide) rfl (fun ls hl => ?_)
  refine lv_goto (tgt := 36) hx hb dX7_askNow_117 (by decide) ?_
  exact hb_36 x1 x2 x3 x4 x5 x6 x7 (k1 + k0) (x9 + 1) H locs ls hP hD hS (lv_sub hl [2, 3, 4, 5, 6, 7, 8, 9, 1, 0] rfl) hf

set_option maxHeartbeats 4000000 in
set_option maxRecDepth 100000 in
theorem b_X7_askNow_110 {p : Program} {l : Launch} {e : Env} {s : State} {m : MethodId} {args : Array Value} {below : List Frame} {meth : Method} {c : Code} {D : va_G} {cI cB : ClassId} {kK kV : Nat → Nat} {A : Nat → Prop} (F : Fx p m c s meth args cX7_askNow 11 RX7 wsX7_askNow (some .int) D cI cB kK kV A) {ad_t : Nat → Nat} {t_wills : Int32} {t_heirs : Int32} {t_kindOf : Nat → Int32} {t_worthOf : Nat → Int32} {t_thingOf : Nat → Int32} {t_changesOf : Nat → Int32} {t_changes : Int32} {t_heard : Int32} {t_heardHeir : Nat → Int32} {t_heardOne : Nat → Int32} {t_heardTwo : Nat → Int32} {t_heardMore : Nat → Int32} {t_pageLength : Int32} {t_page : Nat → Int32} {t_says : Nat → Int32} {t_dealt : Nat → Int32} {t_farOf : Nat → Int32} {t_endMany : Int32} {t_endMost : Int32} {t_endLeast : Int32} {t_endFew : Int32} {t_seedNow : Int64} {t_saved : Nat → Int32} {t_isKept : Int32} {t_keptWill : Int32} {t_keptChanges : Int32} {t_keptHeard : Int32} {t_keptWorth : Nat → Int32} {t_keptThing : Nat → Int32} {t_keptChangesOf : Nat → Int32} {t_keptHeir : Nat → Int32} {t_keptOne : Nat → Int32} {t_keptTwo : Nat → Int32} {t_keptMore : Nat → Int32} {t_h : Int64} {rr : Int32}  (back_17 : Int32 → Int32 → Int32 → Int32 → Int32 → Int32 → Option (Int32)) (hb_17 : ∀ (x1 : Int32) (x2 : Int32) (x3 : Int32) (x4 : Int32) (x5 : Int32) (x6 : Int32) (H : Heap) (locs : List Loc) (ls : Array Slot), va_P D vwCl (w_X7 cI cB ad_t t_wills t_heirs t_kindOf t_worthOf t_thingOf t_changesOf t_changes t_heard t_heardHeir t_heardOne t_heardTwo t_heardMore t_pageLength t_page t_says t_dealt t_farOf t_endMany t_endMost t_endLeast t_endFew t_seedNow t_saved t_isKept t_keptWill t_keptChanges t_keptHeard t_keptWorth t_keptThing t_keptChangesOf t_keptHeir t_keptOne t_keptTwo t_keptMore t_h) H → va_D A (w_X7 cI cB ad_t t_wills t_heirs t_kindOf t_worthOf t_thingOf t_changesOf t_changes t_heard t_heardHeir t_heardOne t_heardTwo t_heardMore t_pageLength t_page t_says t_dealt t_farOf t_endMany t_endMost t_endLeast t_endFew t_seedNow t_saved t_isKept t_keptWill t_keptChanges t_keptHeard t_keptWorth t_keptThing t_keptChangesOf t_keptHeir t_keptOne t_keptTwo t_keptMore t_h) → va_S A s.heap H locs → lv_has ls 11 [(0, .ref (ad_t 0)), (1, .int x1), (2, .int x2), (3, .int x3), (4, .int x4), (5, .int x5), (6, .int x6)] → back_17 x1 x2 x3 x4 x5 x6 = some rr → W p l e rm_X7_askNow s m args below meth c H locs 0 0 (Zq D below args s A (w_X7 cI cB ad_t t_wills t_heirs t_kindOf t_worthOf t_thingOf t_changesOf t_changes t_heard t_heardHeir t_heardOne t_heardTwo t_heardMore t_pageLength t_page t_says t_dealt t_farOf t_endMany t_endMost t_endLeast t_endFew t_seedNow t_saved t_isKept t_keptWill t_keptChanges t_keptHeard t_keptWorth t_keptThing t_keptChangesOf t_keptHeir t_keptOne t_keptTwo t_keptMore t_h) (some (.int rr))) (F0 m 17 ls [])) (back_36 : Int32 → Int32 → Int32 → Int32 → Int32 → Int32 → Int32 → Int32 → Int32 → Option (Int32)) (hb_36 : ∀ (x1 : Int32) (x2 : Int32) (x3 : Int32) (x4 : Int32) (x5 : Int32) (x6 : Int32) (x7 : Int32) (x8 : Int32) (x9 : Int32) (H : Heap) (locs : List Loc) (ls : Array Slot), va_P D vwCl (w_X7 cI cB ad_t t_wills t_heirs t_kindOf t_worthOf t_thingOf t_changesOf t_changes t_heard t_heardHeir t_heardOne t_heardTwo t_heardMore t_pageLength t_page t_says t_dealt t_farOf t_endMany t_endMost t_endLeast t_endFew t_seedNow t_saved t_isKept t_keptWill t_keptChanges t_keptHeard t_keptWorth t_keptThing t_keptChangesOf t_keptHeir t_keptOne t_keptTwo t_keptMore t_h) H → va_D A (w_X7 cI cB ad_t t_wills t_heirs t_kindOf t_worthOf t_thingOf t_changesOf t_changes t_heard t_heardHeir t_heardOne t_heardTwo t_heardMore t_pageLength t_page t_says t_dealt t_farOf t_endMany t_endMost t_endLeast t_endFew t_seedNow t_saved t_isKept t_keptWill t_keptChanges t_keptHeard t_keptWorth t_keptThing t_keptChangesOf t_keptHeir t_keptOne t_keptTwo t_keptMore t_h) → va_S A s.heap H locs → lv_has ls 11 [(0, .ref (ad_t 0)), (1, .int x1), (2, .int x2), (3, .int x3), (4, .int x4), (5, .int x5), (6, .int x6), (7, .int x7), (8, .int x8), (9, .int x9)] → back_36 x1 x2 x3 x4 x5 x6 x7 x8 x9 = some rr → W p l e rm_X7_askNow s m args below meth c H locs 0 0 (Zq D below args s A (w_X7 cI cB ad_t t_wills t_heirs t_kindOf t_worthOf t_thingOf t_changesOf t_changes t_heard t_heardHeir t_heardOne t_heardTwo t_heardMore t_pageLength t_page t_says t_dealt t_farOf t_endMany t_endMost t_endLeast t_endFew t_seedNow t_saved t_isKept t_keptWill t_keptChanges t_keptHeard t_keptWorth t_keptThing t_keptChangesOf t_keptHeir t_keptOne t_keptTwo t_keptMore t_h) (some (.int rr))) (F0 m 36 ls [])) : ∀ (x1 : Int32) (x2 : Int32) (x3 : Int32) (x4 : Int32) (x5 : Int32) (x6 : Int32) (x7 : Int32) (x9 : Int32) (k0 : Int32) (H : Heap) (locs : List Loc) (ls : Array Slot), va_P D vwCl (w_X7 cI cB ad_t t_wills t_heirs t_kindOf t_worthOf t_thingOf t_changesOf t_changes t_heard t_heardHeir t_heardOne t_heardTwo t_heardMore t_pageLength t_page t_says t_dealt t_farOf t_endMany t_endMost t_endLeast t_endFew t_seedNow t_saved t_isKept t_keptWill t_keptChanges t_keptHeard t_keptWorth t_keptThing t_keptChangesOf t_keptHeir t_keptOne t_keptTwo t_keptMore t_h) H → va_D A (w_X7 cI cB ad_t t_wills t_heirs t_kindOf t_worthOf t_thingOf t_changesOf t_changes t_heard t_heardHeir t_heardOne t_heardTwo t_heardMore t_pageLength t_page t_says t_dealt t_farOf t_endMany t_endMost t_endLeast t_endFew t_seedNow t_saved t_isKept t_keptWill t_keptChanges t_keptHeard t_keptWorth t_keptThing t_keptChangesOf t_keptHeir t_keptOne t_keptTwo t_keptMore t_h) → va_S A s.heap H locs → lv_has ls 11 [(0, .ref (ad_t 0)), (1, .int x1), (2, .int x2), (3, .int x3), (4, .int x4), (5, .int x5), (6, .int x6), (7, .int x7), (9, .int x9)] → f_X7_askNow_110 t_worthOf t_heard t_heardHeir t_heardOne t_heardTwo t_heardMore back_17 back_36 x1 x2 x3 x4 x5 x6 x7 x9 k0 = some rr → W p l e rm_X7_askNow s m args below meth c H locs 0 0 (Zq D below args s A (w_X7 cI cB ad_t t_wills t_heirs t_kindOf t_worthOf t_thingOf t_changesOf t_changes t_heard t_heardHeir t_heardOne t_heardTwo t_heardMore t_pageLength t_page t_says t_dealt t_farOf t_endMany t_endMost t_endLeast t_endFew t_seedNow t_saved t_isKept t_keptWill t_keptChanges t_keptHeard t_keptWorth t_keptThing t_keptChangesOf t_keptHeir t_keptOne t_keptTwo t_keptMore t_h) (some (.int rr))) (F0 m 110 ls [.int k0]) := by
  obtain ⟨hx, hb, hml, hown, hts, hrt, hlocks, hK, hA, hZ⟩ := id F
  intro x1 x2 x3 x4 x5 x6 x7 x9 k0 H locs ls hP hD hS hl hf
  refine lv_iconst (v := 0) hx hb dX7_askNow_110 (by decide) ?_
  exact b_X7_askNow_111 F back_17 hb_17 back_36 hb_36 x1 x2 x3 x4 x5 x6 x7 x9 0 k0 H locs ls hP hD hS (lv_sub hl [0, 1, 2, 3, 4, 5, 6, 7, 8] rfl) hf

set_option maxHeartbeats 4000000 in
set_option maxRecDepth 100000 in
theorem b_X7_askNow_87 {p : Program} {l : Launch} {e : Env} {s : State} {m : MethodId} {args : Array Value} {below : List Frame} {meth : Method} {c : Code} {D : va_G} {cI cB : ClassId} {kK kV : Nat → Nat} {A : Nat → Prop} (F : Fx p m c s meth args cX7_askNow 11 RX7 wsX7_askNow (some .int) D cI cB kK kV A) {ad_t : Nat → Nat} {t_wills : Int32} {t_heirs : Int32} {t_kindOf : Nat → Int32} {t_worthOf : Nat → Int32} {t_thingOf : Nat → Int32} {t_changesOf : Nat → Int32} {t_changes : Int32} {t_heard : Int32} {t_heardHeir : Nat → Int32} {t_heardOne : Nat → Int32} {t_heardTwo : Nat → Int32} {t_heardMore : Nat → Int32} {t_pageLength : Int32} {t_page : Nat → Int32} {t_says : Nat → Int32} {t_dealt : Nat → Int32} {t_farOf : Nat → Int32} {t_endMany : Int32} {t_endMost : Int32} {t_endLeast : Int32} {t_endFew : Int32} {t_seedNow : Int64} {t_saved : Nat → Int32} {t_isKept : Int32} {t_keptWill : Int32} {t_keptChanges : Int32} {t_keptHeard : Int32} {t_keptWorth : Nat → Int32} {t_keptThing : Nat → Int32} {t_keptChangesOf : Nat → Int32} {t_keptHeir : Nat → Int32} {t_keptOne : Nat → Int32} {t_keptTwo : Nat → Int32} {t_keptMore : Nat → Int32} {t_h : Int64} {rr : Int32}  (back_17 : Int32 → Int32 → Int32 → Int32 → Int32 → Int32 → Option (Int32)) (hb_17 : ∀ (x1 : Int32) (x2 : Int32) (x3 : Int32) (x4 : Int32) (x5 : Int32) (x6 : Int32) (H : Heap) (locs : List Loc) (ls : Array Slot), va_P D vwCl (w_X7 cI cB ad_t t_wills t_heirs t_kindOf t_worthOf t_thingOf t_changesOf t_changes t_heard t_heardHeir t_heardOne t_heardTwo t_heardMore t_pageLength t_page t_says t_dealt t_farOf t_endMany t_endMost t_endLeast t_endFew t_seedNow t_saved t_isKept t_keptWill t_keptChanges t_keptHeard t_keptWorth t_keptThing t_keptChangesOf t_keptHeir t_keptOne t_keptTwo t_keptMore t_h) H → va_D A (w_X7 cI cB ad_t t_wills t_heirs t_kindOf t_worthOf t_thingOf t_changesOf t_changes t_heard t_heardHeir t_heardOne t_heardTwo t_heardMore t_pageLength t_page t_says t_dealt t_farOf t_endMany t_endMost t_endLeast t_endFew t_seedNow t_saved t_isKept t_keptWill t_keptChanges t_keptHeard t_keptWorth t_keptThing t_keptChangesOf t_keptHeir t_keptOne t_keptTwo t_keptMore t_h) → va_S A s.heap H locs → lv_has ls 11 [(0, .ref (ad_t 0)), (1, .int x1), (2, .int x2), (3, .int x3), (4, .int x4), (5, .int x5), (6, .int x6)] → back_17 x1 x2 x3 x4 x5 x6 = some rr → W p l e rm_X7_askNow s m args below meth c H locs 0 0 (Zq D below args s A (w_X7 cI cB ad_t t_wills t_heirs t_kindOf t_worthOf t_thingOf t_changesOf t_changes t_heard t_heardHeir t_heardOne t_heardTwo t_heardMore t_pageLength t_page t_says t_dealt t_farOf t_endMany t_endMost t_endLeast t_endFew t_seedNow t_saved t_isKept t_keptWill t_keptChanges t_keptHeard t_keptWorth t_keptThing t_keptChangesOf t_keptHeir t_keptOne t_keptTwo t_keptMore t_h) (some (.int rr))) (F0 m 17 ls [])) (back_36 : Int32 → Int32 → Int32 → Int32 → Int32 → Int32 → Int32 → Int32 → Int32 → Option (Int32)) (hb_36 : ∀ (x1 : Int32) (x2 : Int32) (x3 : Int32) (x4 : Int32) (x5 : Int32) (x6 : Int32) (x7 : Int32) (x8 : Int32) (x9 : Int32) (H : Heap) (locs : List Loc) (ls : Array Slot), va_P D vwCl (w_X7 cI cB ad_t t_wills t_heirs t_kindOf t_worthOf t_thingOf t_changesOf t_changes t_heard t_heardHeir t_heardOne t_heardTwo t_heardMore t_pageLength t_page t_says t_dealt t_farOf t_endMany t_endMost t_endLeast t_endFew t_seedNow t_saved t_isKept t_keptWill t_keptChanges t_keptHeard t_keptWorth t_keptThing t_keptChangesOf t_keptHeir t_keptOne t_keptTwo t_keptMore t_h) H → va_D A (w_X7 cI cB ad_t t_wills t_heirs t_kindOf t_worthOf t_thingOf t_changesOf t_changes t_heard t_heardHeir t_heardOne t_heardTwo t_heardMore t_pageLength t_page t_says t_dealt t_farOf t_endMany t_endMost t_endLeast t_endFew t_seedNow t_saved t_isKept t_keptWill t_keptChanges t_keptHeard t_keptWorth t_keptThing t_keptChangesOf t_keptHeir t_keptOne t_keptTwo t_keptMore t_h) → va_S A s.heap H locs → lv_has ls 11 [(0, .ref (ad_t 0)), (1, .int x1), (2, .int x2), (3, .int x3), (4, .int x4), (5, .int x5), (6, .int x6), (7, .int x7), (8, .int x8), (9, .int x9)] → back_36 x1 x2 x3 x4 x5 x6 x7 x8 x9 = some rr → W p l e rm_X7_askNow s m args below meth c H locs 0 0 (Zq D below args s A (w_X7 cI cB ad_t t_wills t_heirs t_kindOf t_worthOf t_thingOf t_changesOf t_changes t_heard t_heardHeir t_heardOne t_heardTwo t_heardMore t_pageLength t_page t_says t_dealt t_farOf t_endMany t_endMost t_endLeast t_endFew t_seedNow t_saved t_isKept t_keptWill t_keptChanges t_keptHeard t_keptWorth t_keptThing t_keptChangesOf t_keptHeir t_keptOne t_keptTwo t_keptMore t_h) (some (.int rr))) (F0 m 36 ls [])) : ∀ (x1 : Int32) (x2 : Int32) (x3 : Int32) (x4 : Int32) (x5 : Int32) (x6 : Int32) (x8 : Int32) (x9 : Int32) (x10 : Int32) (k0 : Int32) (k1 : Int32) (H : Heap) (locs : List Loc) (ls : Array Slot), va_P D vwCl (w_X7 cI cB ad_t t_wills t_heirs t_kindOf t_worthOf t_thingOf t_changesOf t_changes t_heard t_heardHeir t_heardOne t_heardTwo t_heardMore t_pageLength t_page t_says t_dealt t_farOf t_endMany t_endMost t_endLeast t_endFew t_seedNow t_saved t_isKept t_keptWill t_keptChanges t_keptHeard t_keptWorth t_keptThing t_keptChangesOf t_keptHeir t_keptOne t_keptTwo t_keptMore t_h) H → va_D A (w_X7 cI cB ad_t t_wills t_heirs t_kindOf t_worthOf t_thingOf t_changesOf t_changes t_heard t_heardHeir t_heardOne t_heardTwo t_heardMore t_pageLength t_page t_says t_dealt t_farOf t_endMany t_endMost t_endLeast t_endFew t_seedNow t_saved t_isKept t_keptWill t_keptChanges t_keptHeard t_keptWorth t_keptThing t_keptChangesOf t_keptHeir t_keptOne t_keptTwo t_keptMore t_h) → va_S A s.heap H locs → lv_has ls 11 [(0, .ref (ad_t 0)), (1, .int x1), (2, .int x2), (3, .int x3), (4, .int x4), (5, .int x5), (6, .int x6), (8, .int x8), (9, .int x9), (10, .int x10)] → f_X7_askNow_87 t_worthOf t_heard t_heardHeir t_heardOne t_heardTwo t_heardMore back_17 back_36 x1 x2 x3 x4 x5 x6 x8 x9 x10 k0 k1 = some rr → W p l e rm_X7_askNow s m args below meth c H locs 0 0 (Zq D below args s A (w_X7 cI cB ad_t t_wills t_heirs t_kindOf t_worthOf t_thingOf t_changesOf t_changes t_heard t_heardHeir t_heardOne t_heardTwo t_heardMore t_pageLength t_page t_says t_dealt t_farOf t_endMany t_endMost t_endLeast t_endFew t_seedNow t_saved t_isKept t_keptWill t_keptChanges t_keptHeard t_keptWorth t_keptThing t_keptChangesOf t_keptHeir t_keptOne t_keptTwo t_keptMore t_h) (some (.int rr))) (F0 m 87 ls [.int k0, .int k1]) := by
  obtain ⟨hx, hb, hml, hown, hts, hrt, hlocks, hK, hA, hZ⟩ := id F
  intro x1 x2 x3 x4 x5 x6 x8 x9 x10 k0 k1 H locs ls hP hD hS hl hf
  refine lv_iadd hx hb dX7_askNow_87 ?_
  refine lv_istore (lv' := [(7, .int (k1 + k0)), (0, .ref (ad_t 0)), (1, .int x1), (2, .int x2), (3, .int x3), (4, .int x4), (5, .int x5), (6, .int x6), (8, .int x8), (9, .int x9), (10, .int x10)]) hx hb dX7_askNow_88 hl (by decide) rfl (fun ls hl => ?_)
  refine lv_iload hx hb dX7_askNow_90 (lv_at hl 8 rfl) ?_
  refine lv_iload_n hx hb dX7_askNow_92 rfl (lv_at hl 4 rfl) ?_
  refine lv_iload hx hb dX7_askNow_93 (lv_at hl 9 rfl) ?_
  obtain ⟨v1, e2, hf⟩ := bnd hf
  refine cS F hP hD hS (k_X7_isIn l  x3 x9 e2) gX7_askNow_X7_isIn rfl ⟨rfl, rfl⟩ nd_X7_isIn ⟨Nat.le_of_ble_eq_true rfl, Nat.le_of_ble_eq_true rfl⟩ rfl hl.1 rfl (Nat.le_of_ble_eq_true rfl) dX7_askNow_95 (pmE (w_X7 cI cB ad_t t_wills t_heirs t_kindOf t_worthOf t_thingOf t_changesOf t_changes t_heard t_heardHeir t_heardOne t_heardTwo t_heardMore t_pageLength t_page t_says t_dealt t_farOf t_endMany t_endMost t_endLeast t_endFew t_seedNow t_saved t_isKept t_keptWill t_keptChanges t_keptHeard t_keptWorth t_keptThing t_keptChangesOf t_keptHeir t_keptOne t_keptTwo t_keptMore t_h)) (pmE (w_X7 cI cB ad_t t_wills t_heirs t_kindOf t_worthOf t_thingOf t_changesOf t_changes t_heard t_heardHeir t_heardOne t_heardTwo t_heardMore t_pageLength t_page t_says t_dealt t_farOf t_endMany t_endMost t_endLeast t_endFew t_seedNow t_saved t_isKept t_keptWill t_keptChanges t_keptHeard t_keptWorth t_keptThing t_keptChangesOf t_keptHeir t_keptOne t_keptTwo t_keptMore t_h)) (fun H locs hP hD hS => ?_)
  refine lv_if_eq (tgt := 110) hx hb dX7_askNow_98 (by decide) (fun c3 => ?_) (fun c3 => ?_)
  · replace hf := (if_pos c3).symm.trans hf
    exact b_X7_askNow_110 F back_17 hb_17 back_36 hb_36 x1 x2 x3 x4 x5 x6 (k1 + k0) x9 x8 H locs ls hP hD hS (lv_sub hl [1, 2, 3, 4, 5, 6, 7, 0, 9] rfl) hf
  · replace hf := (if_neg c3).symm.trans hf
    refine lv_iload hx hb dX7_askNow_101 (lv_at hl 10 rfl) ?_
    refine lv_if_ne (tgt := 110) hx hb dX7_askNow_103 (by decide) (fun c4 => ?_) (fun c4 => ?_)
    · replace hf := (if_neg c4).symm.trans hf
      exact b_X7_askNow_110 F back_17 hb_17 back_36 hb_36 x1 x2 x3 x4 x5 x6 (k1 + k0) x9 x8 H locs ls hP hD hS (lv_sub hl [1, 2, 3, 4, 5, 6, 7, 0, 9] rfl) hf
    · replace hf := (if_pos c4).symm.trans hf
      refine lv_iconst (v := 1) hx hb dX7_askNow_106 (by decide) ?_
      refine lv_goto (tgt := 111) hx hb dX7_askNow_107 (by decide) ?_
      exact b_X7_askNow_111 F back_17 hb_17 back_36 hb_36 x1 x2 x3 x4 x5 x6 (k1 + k0) x9 1 x8 H locs ls hP hD hS (lv_sub hl [1, 2, 3, 4, 5, 6, 7, 0, 9] rfl) hf

set_option maxHeartbeats 4000000 in
set_option maxRecDepth 100000 in
theorem b_X7_askNow_86 {p : Program} {l : Launch} {e : Env} {s : State} {m : MethodId} {args : Array Value} {below : List Frame} {meth : Method} {c : Code} {D : va_G} {cI cB : ClassId} {kK kV : Nat → Nat} {A : Nat → Prop} (F : Fx p m c s meth args cX7_askNow 11 RX7 wsX7_askNow (some .int) D cI cB kK kV A) {ad_t : Nat → Nat} {t_wills : Int32} {t_heirs : Int32} {t_kindOf : Nat → Int32} {t_worthOf : Nat → Int32} {t_thingOf : Nat → Int32} {t_changesOf : Nat → Int32} {t_changes : Int32} {t_heard : Int32} {t_heardHeir : Nat → Int32} {t_heardOne : Nat → Int32} {t_heardTwo : Nat → Int32} {t_heardMore : Nat → Int32} {t_pageLength : Int32} {t_page : Nat → Int32} {t_says : Nat → Int32} {t_dealt : Nat → Int32} {t_farOf : Nat → Int32} {t_endMany : Int32} {t_endMost : Int32} {t_endLeast : Int32} {t_endFew : Int32} {t_seedNow : Int64} {t_saved : Nat → Int32} {t_isKept : Int32} {t_keptWill : Int32} {t_keptChanges : Int32} {t_keptHeard : Int32} {t_keptWorth : Nat → Int32} {t_keptThing : Nat → Int32} {t_keptChangesOf : Nat → Int32} {t_keptHeir : Nat → Int32} {t_keptOne : Nat → Int32} {t_keptTwo : Nat → Int32} {t_keptMore : Nat → Int32} {t_h : Int64} {rr : Int32}  (back_17 : Int32 → Int32 → Int32 → Int32 → Int32 → Int32 → Option (Int32)) (hb_17 : ∀ (x1 : Int32) (x2 : Int32) (x3 : Int32) (x4 : Int32) (x5 : Int32) (x6 : Int32) (H : Heap) (locs : List Loc) (ls : Array Slot), va_P D vwCl (w_X7 cI cB ad_t t_wills t_heirs t_kindOf t_worthOf t_thingOf t_changesOf t_changes t_heard t_heardHeir t_heardOne t_heardTwo t_heardMore t_pageLength t_page t_says t_dealt t_farOf t_endMany t_endMost t_endLeast t_endFew t_seedNow t_saved t_isKept t_keptWill t_keptChanges t_keptHeard t_keptWorth t_keptThing t_keptChangesOf t_keptHeir t_keptOne t_keptTwo t_keptMore t_h) H → va_D A (w_X7 cI cB ad_t t_wills t_heirs t_kindOf t_worthOf t_thingOf t_changesOf t_changes t_heard t_heardHeir t_heardOne t_heardTwo t_heardMore t_pageLength t_page t_says t_dealt t_farOf t_endMany t_endMost t_endLeast t_endFew t_seedNow t_saved t_isKept t_keptWill t_keptChanges t_keptHeard t_keptWorth t_keptThing t_keptChangesOf t_keptHeir t_keptOne t_keptTwo t_keptMore t_h) → va_S A s.heap H locs → lv_has ls 11 [(0, .ref (ad_t 0)), (1, .int x1), (2, .int x2), (3, .int x3), (4, .int x4), (5, .int x5), (6, .int x6)] → back_17 x1 x2 x3 x4 x5 x6 = some rr → W p l e rm_X7_askNow s m args below meth c H locs 0 0 (Zq D below args s A (w_X7 cI cB ad_t t_wills t_heirs t_kindOf t_worthOf t_thingOf t_changesOf t_changes t_heard t_heardHeir t_heardOne t_heardTwo t_heardMore t_pageLength t_page t_says t_dealt t_farOf t_endMany t_endMost t_endLeast t_endFew t_seedNow t_saved t_isKept t_keptWill t_keptChanges t_keptHeard t_keptWorth t_keptThing t_keptChangesOf t_keptHeir t_keptOne t_keptTwo t_keptMore t_h) (some (.int rr))) (F0 m 17 ls [])) (back_36 : Int32 → Int32 → Int32 → Int32 → Int32 → Int32 → Int32 → Int32 → Int32 → Option (Int32)) (hb_36 : ∀ (x1 : Int32) (x2 : Int32) (x3 : Int32) (x4 : Int32) (x5 : Int32) (x6 : Int32) (x7 : Int32) (x8 : Int32) (x9 : Int32) (H : Heap) (locs : List Loc) (ls : Array Slot), va_P D vwCl (w_X7 cI cB ad_t t_wills t_heirs t_kindOf t_worthOf t_thingOf t_changesOf t_changes t_heard t_heardHeir t_heardOne t_heardTwo t_heardMore t_pageLength t_page t_says t_dealt t_farOf t_endMany t_endMost t_endLeast t_endFew t_seedNow t_saved t_isKept t_keptWill t_keptChanges t_keptHeard t_keptWorth t_keptThing t_keptChangesOf t_keptHeir t_keptOne t_keptTwo t_keptMore t_h) H → va_D A (w_X7 cI cB ad_t t_wills t_heirs t_kindOf t_worthOf t_thingOf t_changesOf t_changes t_heard t_heardHeir t_heardOne t_heardTwo t_heardMore t_pageLength t_page t_says t_dealt t_farOf t_endMany t_endMost t_endLeast t_endFew t_seedNow t_saved t_isKept t_keptWill t_keptChanges t_keptHeard t_keptWorth t_keptThing t_keptChangesOf t_keptHeir t_keptOne t_keptTwo t_keptMore t_h) → va_S A s.heap H locs → lv_has ls 11 [(0, .ref (ad_t 0)), (1, .int x1), (2, .int x2), (3, .int x3), (4, .int x4), (5, .int x5), (6, .int x6), (7, .int x7), (8, .int x8), (9, .int x9)] → back_36 x1 x2 x3 x4 x5 x6 x7 x8 x9 = some rr → W p l e rm_X7_askNow s m args below meth c H locs 0 0 (Zq D below args s A (w_X7 cI cB ad_t t_wills t_heirs t_kindOf t_worthOf t_thingOf t_changesOf t_changes t_heard t_heardHeir t_heardOne t_heardTwo t_heardMore t_pageLength t_page t_says t_dealt t_farOf t_endMany t_endMost t_endLeast t_endFew t_seedNow t_saved t_isKept t_keptWill t_keptChanges t_keptHeard t_keptWorth t_keptThing t_keptChangesOf t_keptHeir t_keptOne t_keptTwo t_keptMore t_h) (some (.int rr))) (F0 m 36 ls [])) : ∀ (x1 : Int32) (x2 : Int32) (x3 : Int32) (x4 : Int32) (x5 : Int32) (x6 : Int32) (x8 : Int32) (x9 : Int32) (x10 : Int32) (k0 : Int32) (H : Heap) (locs : List Loc) (ls : Array Slot), va_P D vwCl (w_X7 cI cB ad_t t_wills t_heirs t_kindOf t_worthOf t_thingOf t_changesOf t_changes t_heard t_heardHeir t_heardOne t_heardTwo t_heardMore t_pageLength t_page t_says t_dealt t_farOf t_endMany t_endMost t_endLeast t_endFew t_seedNow t_saved t_isKept t_keptWill t_keptChanges t_keptHeard t_keptWorth t_keptThing t_keptChangesOf t_keptHeir t_keptOne t_keptTwo t_keptMore t_h) H → va_D A (w_X7 cI cB ad_t t_wills t_heirs t_kindOf t_worthOf t_thingOf t_changesOf t_changes t_heard t_heardHeir t_heardOne t_heardTwo t_heardMore t_pageLength t_page t_says t_dealt t_farOf t_endMany t_endMost t_endLeast t_endFew t_seedNow t_saved t_isKept t_keptWill t_keptChanges t_keptHeard t_keptWorth t_keptThing t_keptChangesOf t_keptHeir t_keptOne t_keptTwo t_keptMore t_h) → va_S A s.heap H locs → lv_has ls 11 [(0, .ref (ad_t 0)), (1, .int x1), (2, .int x2), (3, .int x3), (4, .int x4), (5, .int x5), (6, .int x6), (8, .int x8), (9, .int x9), (10, .int x10)] → f_X7_askNow_86 t_worthOf t_heard t_heardHeir t_heardOne t_heardTwo t_heardMore back_17 back_36 x1 x2 x3 x4 x5 x6 x8 x9 x10 k0 = some rr → W p l e rm_X7_askNow s m args below meth c H locs 0 0 (Zq D below args s A (w_X7 cI cB ad_t t_wills t_heirs t_kindOf t_worthOf t_thingOf t_changesOf t_changes t_heard t_heardHeir t_heardOne t_heardTwo t_heardMore t_pageLength t_page t_says t_dealt t_farOf t_endMany t_endMost t_endLeast t_endFew t_seedNow t_saved t_isKept t_keptWill t_keptChanges t_keptHeard t_keptWorth t_keptThing t_keptChangesOf t_keptHeir t_keptOne t_keptTwo t_keptMore t_h) (some (.int rr))) (F0 m 86 ls [.int k0]) := by
  obtain ⟨hx, hb, hml, hown, hts, hrt, hlocks, hK, hA, hZ⟩ := id F
  intro x1 x2 x3 x4 x5 x6 x8 x9 x10 k0 H locs ls hP hD hS hl hf
  refine lv_iconst (v := 0) hx hb dX7_askNow_86 (by decide) ?_
  exact b_X7_askNow_87 F back_17 hb_17 back_36 hb_36 x1 x2 x3 x4 x5 x6 x8 x9 x10 0 k0 H locs ls hP hD hS (lv_sub hl [0, 1, 2, 3, 4, 5, 6, 7, 8, 9] rfl) hf

set_option maxHeartbeats 4000000 in
set_option maxRecDepth 100000 in
theorem b_X7_askNow_64 {p : Program} {l : Launch} {e : Env} {s : State} {m : MethodId} {args : Array Value} {below : List Frame} {meth : Method} {c : Code} {D : va_G} {cI cB : ClassId} {kK kV : Nat → Nat} {A : Nat → Prop} (F : Fx p m c s meth args cX7_askNow 11 RX7 wsX7_askNow (some .int) D cI cB kK kV A) {ad_t : Nat → Nat} {t_wills : Int32} {t_heirs : Int32} {t_kindOf : Nat → Int32} {t_worthOf : Nat → Int32} {t_thingOf : Nat → Int32} {t_changesOf : Nat → Int32} {t_changes : Int32} {t_heard : Int32} {t_heardHeir : Nat → Int32} {t_heardOne : Nat → Int32} {t_heardTwo : Nat → Int32} {t_heardMore : Nat → Int32} {t_pageLength : Int32} {t_page : Nat → Int32} {t_says : Nat → Int32} {t_dealt : Nat → Int32} {t_farOf : Nat → Int32} {t_endMany : Int32} {t_endMost : Int32} {t_endLeast : Int32} {t_endFew : Int32} {t_seedNow : Int64} {t_saved : Nat → Int32} {t_isKept : Int32} {t_keptWill : Int32} {t_keptChanges : Int32} {t_keptHeard : Int32} {t_keptWorth : Nat → Int32} {t_keptThing : Nat → Int32} {t_keptChangesOf : Nat → Int32} {t_keptHeir : Nat → Int32} {t_keptOne : Nat → Int32} {t_keptTwo : Nat → Int32} {t_keptMore : Nat → Int32} {t_h : Int64} {rr : Int32}  (back_17 : Int32 → Int32 → Int32 → Int32 → Int32 → Int32 → Option (Int32)) (hb_17 : ∀ (x1 : Int32) (x2 : Int32) (x3 : Int32) (x4 : Int32) (x5 : Int32) (x6 : Int32) (H : Heap) (locs : List Loc) (ls : Array Slot), va_P D vwCl (w_X7 cI cB ad_t t_wills t_heirs t_kindOf t_worthOf t_thingOf t_changesOf t_changes t_heard t_heardHeir t_heardOne t_heardTwo t_heardMore t_pageLength t_page t_says t_dealt t_farOf t_endMany t_endMost t_endLeast t_endFew t_seedNow t_saved t_isKept t_keptWill t_keptChanges t_keptHeard t_keptWorth t_keptThing t_keptChangesOf t_keptHeir t_keptOne t_keptTwo t_keptMore t_h) H → va_D A (w_X7 cI cB ad_t t_wills t_heirs t_kindOf t_worthOf t_thingOf t_changesOf t_changes t_heard t_heardHeir t_heardOne t_heardTwo t_heardMore t_pageLength t_page t_says t_dealt t_farOf t_endMany t_endMost t_endLeast t_endFew t_seedNow t_saved t_isKept t_keptWill t_keptChanges t_keptHeard t_keptWorth t_keptThing t_keptChangesOf t_keptHeir t_keptOne t_keptTwo t_keptMore t_h) → va_S A s.heap H locs → lv_has ls 11 [(0, .ref (ad_t 0)), (1, .int x1), (2, .int x2), (3, .int x3), (4, .int x4), (5, .int x5), (6, .int x6)] → back_17 x1 x2 x3 x4 x5 x6 = some rr → W p l e rm_X7_askNow s m args below meth c H locs 0 0 (Zq D below args s A (w_X7 cI cB ad_t t_wills t_heirs t_kindOf t_worthOf t_thingOf t_changesOf t_changes t_heard t_heardHeir t_heardOne t_heardTwo t_heardMore t_pageLength t_page t_says t_dealt t_farOf t_endMany t_endMost t_endLeast t_endFew t_seedNow t_saved t_isKept t_keptWill t_keptChanges t_keptHeard t_keptWorth t_keptThing t_keptChangesOf t_keptHeir t_keptOne t_keptTwo t_keptMore t_h) (some (.int rr))) (F0 m 17 ls [])) (back_36 : Int32 → Int32 → Int32 → Int32 → Int32 → Int32 → Int32 → Int32 → Int32 → Option (Int32)) (hb_36 : ∀ (x1 : Int32) (x2 : Int32) (x3 : Int32) (x4 : Int32) (x5 : Int32) (x6 : Int32) (x7 : Int32) (x8 : Int32) (x9 : Int32) (H : Heap) (locs : List Loc) (ls : Array Slot), va_P D vwCl (w_X7 cI cB ad_t t_wills t_heirs t_kindOf t_worthOf t_thingOf t_changesOf t_changes t_heard t_heardHeir t_heardOne t_heardTwo t_heardMore t_pageLength t_page t_says t_dealt t_farOf t_endMany t_endMost t_endLeast t_endFew t_seedNow t_saved t_isKept t_keptWill t_keptChanges t_keptHeard t_keptWorth t_keptThing t_keptChangesOf t_keptHeir t_keptOne t_keptTwo t_keptMore t_h) H → va_D A (w_X7 cI cB ad_t t_wills t_heirs t_kindOf t_worthOf t_thingOf t_changesOf t_changes t_heard t_heardHeir t_heardOne t_heardTwo t_heardMore t_pageLength t_page t_says t_dealt t_farOf t_endMany t_endMost t_endLeast t_endFew t_seedNow t_saved t_isKept t_keptWill t_keptChanges t_keptHeard t_keptWorth t_keptThing t_keptChangesOf t_keptHeir t_keptOne t_keptTwo t_keptMore t_h) → va_S A s.heap H locs → lv_has ls 11 [(0, .ref (ad_t 0)), (1, .int x1), (2, .int x2), (3, .int x3), (4, .int x4), (5, .int x5), (6, .int x6), (7, .int x7), (8, .int x8), (9, .int x9)] → back_36 x1 x2 x3 x4 x5 x6 x7 x8 x9 = some rr → W p l e rm_X7_askNow s m args below meth c H locs 0 0 (Zq D below args s A (w_X7 cI cB ad_t t_wills t_heirs t_kindOf t_worthOf t_thingOf t_changesOf t_changes t_heard t_heardHeir t_heardOne t_heardTwo t_heardMore t_pageLength t_page t_says t_dealt t_farOf t_endMany t_endMost t_endLeast t_endFew t_seedNow t_saved t_isKept t_keptWill t_keptChanges t_keptHeard t_keptWorth t_keptThing t_keptChangesOf t_keptHeir t_keptOne t_keptTwo t_keptMore t_h) (some (.int rr))) (F0 m 36 ls [])) : ∀ (x1 : Int32) (x2 : Int32) (x3 : Int32) (x4 : Int32) (x5 : Int32) (x6 : Int32) (x7 : Int32) (x8 : Int32) (x9 : Int32) (k0 : Int32) (H : Heap) (locs : List Loc) (ls : Array Slot), va_P D vwCl (w_X7 cI cB ad_t t_wills t_heirs t_kindOf t_worthOf t_thingOf t_changesOf t_changes t_heard t_heardHeir t_heardOne t_heardTwo t_heardMore t_pageLength t_page t_says t_dealt t_farOf t_endMany t_endMost t_endLeast t_endFew t_seedNow t_saved t_isKept t_keptWill t_keptChanges t_keptHeard t_keptWorth t_keptThing t_keptChangesOf t_keptHeir t_keptOne t_keptTwo t_keptMore t_h) H → va_D A (w_X7 cI cB ad_t t_wills t_heirs t_kindOf t_worthOf t_thingOf t_changesOf t_changes t_heard t_heardHeir t_heardOne t_heardTwo t_heardMore t_pageLength t_page t_says t_dealt t_farOf t_endMany t_endMost t_endLeast t_endFew t_seedNow t_saved t_isKept t_keptWill t_keptChanges t_keptHeard t_keptWorth t_keptThing t_keptChangesOf t_keptHeir t_keptOne t_keptTwo t_keptMore t_h) → va_S A s.heap H locs → lv_has ls 11 [(0, .ref (ad_t 0)), (1, .int x1), (2, .int x2), (3, .int x3), (4, .int x4), (5, .int x5), (6, .int x6), (7, .int x7), (8, .int x8), (9, .int x9)] → f_X7_askNow_64 t_worthOf t_heard t_heardHeir t_heardOne t_heardTwo t_heardMore back_17 back_36 x1 x2 x3 x4 x5 x6 x7 x8 x9 k0 = some rr → W p l e rm_X7_askNow s m args below meth c H locs 0 0 (Zq D below args s A (w_X7 cI cB ad_t t_wills t_heirs t_kindOf t_worthOf t_thingOf t_changesOf t_changes t_heard t_heardHeir t_heardOne t_heardTwo t_heardMore t_pageLength t_page t_says t_dealt t_farOf t_endMany t_endMost t_endLeast t_endFew t_seedNow t_saved t_isKept t_keptWill t_keptChanges t_keptHeard t_keptWorth t_keptThing t_keptChangesOf t_keptHeir t_keptOne t_keptTwo t_keptMore t_h) (some (.int rr))) (F0 m 64 ls [.int k0]) := by
  obtain ⟨hx, hb, hml, hown, hts, hrt, hlocks, hK, hA, hZ⟩ := id F
  intro x1 x2 x3 x4 x5 x6 x7 x8 x9 k0 H locs ls hP hD hS hl hf
  refine lv_istore (lv' := [(10, .int k0), (0, .ref (ad_t 0)), (1, .int x1), (2, .int x2), (3, .int x3), (4, .int x4), (5, .int x5), (6, .int x6), (7, .int x7), (8, .int x8), (9, .int x9)]) hx hb dX7_askNow_64 hl (by decide) rfl (fun ls hl => ?_)
  refine lv_iload hx hb dX7_askNow_66 (lv_at hl 8 rfl) ?_
  refine lv_iload_n hx hb dX7_askNow_68 rfl (lv_at hl 4 rfl) ?_
  refine lv_iload hx hb dX7_askNow_69 (lv_at hl 10 rfl) ?_
  obtain ⟨v1, e2, hf⟩ := bnd hf
  refine cS F hP hD hS (k_X7_isIn l  x3 x9 e2) gX7_askNow_X7_isIn rfl ⟨rfl, rfl⟩ nd_X7_isIn ⟨Nat.le_of_ble_eq_true rfl, Nat.le_of_ble_eq_true rfl⟩ rfl hl.1 rfl (Nat.le_of_ble_eq_true rfl) dX7_askNow_71 (pmE (w_X7 cI cB ad_t t_wills t_heirs t_kindOf t_worthOf t_thingOf t_changesOf t_changes t_heard t_heardHeir t_heardOne t_heardTwo t_heardMore t_pageLength t_page t_says t_dealt t_farOf t_endMany t_endMost t_endLeast t_endFew t_seedNow t_saved t_isKept t_keptWill t_keptChanges t_keptHeard t_keptWorth t_keptThing t_keptChangesOf t_keptHeir t_keptOne t_keptTwo t_keptMore t_h)) (pmE (w_X7 cI cB ad_t t_wills t_heirs t_kindOf t_worthOf t_thingOf t_changesOf t_changes t_heard t_heardHeir t_heardOne t_heardTwo t_heardMore t_pageLength t_page t_says t_dealt t_farOf t_endMany t_endMost t_endLeast t_endFew t_seedNow t_saved t_isKept t_keptWill t_keptChanges t_keptHeard t_keptWorth t_keptThing t_keptChangesOf t_keptHeir t_keptOne t_keptTwo t_keptMore t_h)) (fun H locs hP hD hS => ?_)
  refine lv_if_eq (tgt := 86) hx hb dX7_askNow_74 (by decide) (fun c3 => ?_) (fun c3 => ?_)
  · replace hf := (if_pos c3).symm.trans hf
    exact b_X7_askNow_86 F back_17 hb_17 back_36 hb_36 x1 x2 x3 x4 x5 x6 x8 x9 k0 x7 H locs ls hP hD hS (lv_sub hl [1, 2, 3, 4, 5, 6, 7, 9, 10, 0] rfl) hf
  · replace hf := (if_neg c3).symm.trans hf
    refine lv_iload hx hb dX7_askNow_77 (lv_at hl 0 rfl) ?_
    refine lv_if_eq (tgt := 86) hx hb dX7_askNow_79 (by decide) (fun c4 => ?_) (fun c4 => ?_)
    · replace hf := (if_pos c4).symm.trans hf
      exact b_X7_askNow_86 F back_17 hb_17 back_36 hb_36 x1 x2 x3 x4 x5 x6 x8 x9 k0 x7 H locs ls hP hD hS (lv_sub hl [1, 2, 3, 4, 5, 6, 7, 9, 10, 0] rfl) hf
    · replace hf := (if_neg c4).symm.trans hf
      refine lv_iconst (v := 1) hx hb dX7_askNow_82 (by decide) ?_
      refine lv_goto (tgt := 87) hx hb dX7_askNow_83 (by decide) ?_
      exact b_X7_askNow_87 F back_17 hb_17 back_36 hb_36 x1 x2 x3 x4 x5 x6 x8 x9 k0 1 x7 H locs ls hP hD hS (lv_sub hl [1, 2, 3, 4, 5, 6, 7, 9, 10, 0] rfl) hf

set_option maxHeartbeats 4000000 in
set_option maxRecDepth 100000 in
theorem b_X7_askNow_36 {p : Program} {l : Launch} {e : Env} {s : State} {m : MethodId} {args : Array Value} {below : List Frame} {meth : Method} {c : Code} {D : va_G} {cI cB : ClassId} {kK kV : Nat → Nat} {A : Nat → Prop} (F : Fx p m c s meth args cX7_askNow 11 RX7 wsX7_askNow (some .int) D cI cB kK kV A) {ad_t : Nat → Nat} {t_wills : Int32} {t_heirs : Int32} {t_kindOf : Nat → Int32} {t_worthOf : Nat → Int32} {t_thingOf : Nat → Int32} {t_changesOf : Nat → Int32} {t_changes : Int32} {t_heard : Int32} {t_heardHeir : Nat → Int32} {t_heardOne : Nat → Int32} {t_heardTwo : Nat → Int32} {t_heardMore : Nat → Int32} {t_pageLength : Int32} {t_page : Nat → Int32} {t_says : Nat → Int32} {t_dealt : Nat → Int32} {t_farOf : Nat → Int32} {t_endMany : Int32} {t_endMost : Int32} {t_endLeast : Int32} {t_endFew : Int32} {t_seedNow : Int64} {t_saved : Nat → Int32} {t_isKept : Int32} {t_keptWill : Int32} {t_keptChanges : Int32} {t_keptHeard : Int32} {t_keptWorth : Nat → Int32} {t_keptThing : Nat → Int32} {t_keptChangesOf : Nat → Int32} {t_keptHeir : Nat → Int32} {t_keptOne : Nat → Int32} {t_keptTwo : Nat → Int32} {t_keptMore : Nat → Int32} {t_h : Int64} {rr : Int32}  (back_17 : Int32 → Int32 → Int32 → Int32 → Int32 → Int32 → Option (Int32)) (hb_17 : ∀ (x1 : Int32) (x2 : Int32) (x3 : Int32) (x4 : Int32) (x5 : Int32) (x6 : Int32) (H : Heap) (locs : List Loc) (ls : Array Slot), va_P D vwCl (w_X7 cI cB ad_t t_wills t_heirs t_kindOf t_worthOf t_thingOf t_changesOf t_changes t_heard t_heardHeir t_heardOne t_heardTwo t_heardMore t_pageLength t_page t_says t_dealt t_farOf t_endMany t_endMost t_endLeast t_endFew t_seedNow t_saved t_isKept t_keptWill t_keptChanges t_keptHeard t_keptWorth t_keptThing t_keptChangesOf t_keptHeir t_keptOne t_keptTwo t_keptMore t_h) H → va_D A (w_X7 cI cB ad_t t_wills t_heirs t_kindOf t_worthOf t_thingOf t_changesOf t_changes t_heard t_heardHeir t_heardOne t_heardTwo t_heardMore t_pageLength t_page t_says t_dealt t_farOf t_endMany t_endMost t_endLeast t_endFew t_seedNow t_saved t_isKept t_keptWill t_keptChanges t_keptHeard t_keptWorth t_keptThing t_keptChangesOf t_keptHeir t_keptOne t_keptTwo t_keptMore t_h) → va_S A s.heap H locs → lv_has ls 11 [(0, .ref (ad_t 0)), (1, .int x1), (2, .int x2), (3, .int x3), (4, .int x4), (5, .int x5), (6, .int x6)] → back_17 x1 x2 x3 x4 x5 x6 = some rr → W p l e rm_X7_askNow s m args below meth c H locs 0 0 (Zq D below args s A (w_X7 cI cB ad_t t_wills t_heirs t_kindOf t_worthOf t_thingOf t_changesOf t_changes t_heard t_heardHeir t_heardOne t_heardTwo t_heardMore t_pageLength t_page t_says t_dealt t_farOf t_endMany t_endMost t_endLeast t_endFew t_seedNow t_saved t_isKept t_keptWill t_keptChanges t_keptHeard t_keptWorth t_keptThing t_keptChangesOf t_keptHeir t_keptOne t_keptTwo t_keptMore t_h) (some (.int rr))) (F0 m 17 ls [])) : ∀ (n : Nat), ∀ (x1 : Int32) (x2 : Int32) (x3 : Int32) (x4 : Int32) (x5 : Int32) (x6 : Int32) (x7 : Int32) (x8 : Int32) (x9 : Int32) (H : Heap) (locs : List Loc) (ls : Array Slot), va_P D vwCl (w_X7 cI cB ad_t t_wills t_heirs t_kindOf t_worthOf t_thingOf t_changesOf t_changes t_heard t_heardHeir t_heardOne t_heardTwo t_heardMore t_pageLength t_page t_says t_dealt t_farOf t_endMany t_endMost t_endLeast t_endFew t_seedNow t_saved t_isKept t_keptWill t_keptChanges t_keptHeard t_keptWorth t_keptThing t_keptChangesOf t_keptHeir t_keptOne t_keptTwo t_keptMore t_h) H → va_D A (w_X7 cI cB ad_t t_wills t_heirs t_kindOf t_worthOf t_thingOf t_changesOf t_changes t_heard t_heardHeir t_heardOne t_heardTwo t_heardMore t_pageLength t_page t_says t_dealt t_farOf t_endMany t_endMost t_endLeast t_endFew t_seedNow t_saved t_isKept t_keptWill t_keptChanges t_keptHeard t_keptWorth t_keptThing t_keptChangesOf t_keptHeir t_keptOne t_keptTwo t_keptMore t_h) → va_S A s.heap H locs → lv_has ls 11 [(0, .ref (ad_t 0)), (1, .int x1), (2, .int x2), (3, .int x3), (4, .int x4), (5, .int x5), (6, .int x6), (7, .int x7), (8, .int x8), (9, .int x9)] → f_X7_askNow_36 t_worthOf t_heard t_heardHeir t_heardOne t_heardTwo t_heardMore back_17 n x1 x2 x3 x4 x5 x6 x7 x8 x9 = some rr → W p l e rm_X7_askNow s m args below meth c H locs 0 0 (Zq D below args s A (w_X7 cI cB ad_t t_wills t_heirs t_kindOf t_worthOf t_thingOf t_changesOf t_changes t_heard t_heardHeir t_heardOne t_heardTwo t_heardMore t_pageLength t_page t_says t_dealt t_farOf t_endMany t_endMost t_endLeast t_endFew t_seedNow t_saved t_isKept t_keptWill t_keptChanges t_keptHeard t_keptWorth t_keptThing t_keptChangesOf t_keptHeir t_keptOne t_keptTwo t_keptMore t_h) (some (.int rr))) (F0 m 36 ls []) := by
  obtain ⟨hx, hb, hml, hown, hts, hrt, hlocks, hK, hA, hZ⟩ := id F
  intro n
  induction n with
  | zero =>
    intro x1 x2 x3 x4 x5 x6 x7 x8 x9 H locs ls hP hD hS hl hf
    cases hf
  | succ n ih =>
    intro x1 x2 x3 x4 x5 x6 x7 x8 x9 H locs ls hP hD hS hl hf
    refine lv_iload hx hb dX7_askNow_36 (lv_at hl 9 rfl) ?_
    refine lv_bipush (v := 9) hx hb dX7_askNow_38 (by decide) ?_
    refine lv_icmp_gt (tgt := 120) hx hb dX7_askNow_40 (by decide) (fun c1 => ?_) (fun c1 => ?_)
    · replace hf := (if_pos c1).symm.trans hf
      refine lv_iload hx hb dX7_askNow_120 (lv_at hl 6 rfl) ?_
      refine lv_iload_n hx hb dX7_askNow_122 rfl (lv_at hl 2 rfl) ?_
      refine lv_icmp_ne (tgt := 131) hx hb dX7_askNow_123 (by decide) (fun c2 => ?_) (fun c2 => ?_)
      · replace hf := (if_neg c2).symm.trans hf
        refine lv_iload hx hb dX7_askNow_131 (lv_at hl 7 rfl) ?_
        refine lv_iload hx hb dX7_askNow_133 (lv_at hl 8 rfl) ?_
        refine lv_icmp_le (tgt := 143) hx hb dX7_askNow_135 (by decide) (fun c3 => ?_) (fun c3 => ?_)
        · replace hf := (if_pos c3).symm.trans hf
          refine lv_iload hx hb dX7_askNow_143 (lv_at hl 8 rfl) ?_
          exact b_X7_askNow_145 F back_17 hb_17 x1 x2 x3 x4 x5 x6 x8 H locs ls hP hD hS (lv_sub hl [0, 1, 2, 3, 4, 5, 6] rfl) hf
        · replace hf := (if_neg c3).symm.trans hf
          refine lv_iload hx hb dX7_askNow_138 (lv_at hl 7 rfl) ?_
          refine lv_goto (tgt := 145) hx hb dX7_askNow_140 (by decide) ?_
          exact b_X7_askNow_145 F back_17 hb_17 x1 x2 x3 x4 x5 x6 x7 H locs ls hP hD hS (lv_sub hl [0, 1, 2, 3, 4, 5, 6] rfl) hf
      · replace hf := (if_pos c2).symm.trans hf
        refine lv_ldc (v := 268435456) hx hb hown (hts _ (List.mem_of_getElem? (i := 1) rfl)) dX7_askNow_126 ?_
        refine lv_goto (tgt := 145) hx hb dX7_askNow_128 (by decide) ?_
        exact b_X7_askNow_145 F back_17 hb_17 x1 x2 x3 x4 x5 x6 268435456 H locs ls hP hD hS (lv_sub hl [0, 1, 2, 3, 4, 5, 6] rfl) hf
    · replace hf := (if_neg c1).symm.trans hf
      refine lv_iload hx hb dX7_askNow_43 (lv_at hl 9 rfl) ?_
      refine lv_aload_n hx hb dX7_askNow_45 rfl (lv_at hl 0 rfl) ?_
      refine gf F hP in_X7_askNow_X7 0 rfl rfl 3 (by decide) 2 rfl rfl dX7_askNow_46 ?_
      refine lv_iconst (v := 4) hx hb dX7_askNow_49 (by decide) ?_
      refine lv_iload_n hx hb dX7_askNow_50 rfl (lv_at hl 1 rfl) ?_
      refine lv_imul hx hb dX7_askNow_51 ?_
      refine lv_iload hx hb dX7_askNow_52 (lv_at hl 6 rfl) ?_
      refine lv_iadd hx hb dX7_askNow_54 ?_
      obtain ⟨v4, ev4, hf⟩ := bnd hf
      refine ald F hP 2 rfl ev4 dX7_askNow_55 ?_
      refine lv_icmp_le (tgt := 63) hx hb dX7_askNow_56 (by decide) (fun c5 => ?_) (fun c5 => ?_)
      · replace hf := (if_pos c5).symm.trans hf
        refine lv_iconst (v := 0) hx hb dX7_askNow_63 (by decide) ?_
        exact b_X7_askNow_64 F back_17 hb_17 (f_X7_askNow_36 t_worthOf t_heard t_heardHeir t_heardOne t_heardTwo t_heardMore back_17 n) ih x1 x2 x3 x4 x5 x6 x7 x8 x9 0 H locs ls hP hD hS (lv_sub hl [0, 1, 2, 3, 4, 5, 6, 7, 8, 9] rfl) hf
      · replace hf := (if_neg c5).symm.trans hf
        refine lv_iconst (v := 1) hx hb dX7_askNow_59 (by decide) ?_
        refine lv_goto (tgt := 64) hx hb dX7_askNow_60 (by decide) ?_
        exact b_X7_askNow_64 F back_17 hb_17 (f_X7_askNow_36 t_worthOf t_heard t_heardHeir t_heardOne t_heardTwo t_heardMore back_17 n) ih x1 x2 x3 x4 x5 x6 x7 x8 x9 1 H locs ls hP hD hS (lv_sub hl [0, 1, 2, 3, 4, 5, 6, 7, 8, 9] rfl) hf

set_option maxHeartbeats 4000000 in
set_option maxRecDepth 100000 in
theorem b_X7_askNow_17 {p : Program} {l : Launch} {e : Env} {s : State} {m : MethodId} {args : Array Value} {below : List Frame} {meth : Method} {c : Code} {D : va_G} {cI cB : ClassId} {kK kV : Nat → Nat} {A : Nat → Prop} (F : Fx p m c s meth args cX7_askNow 11 RX7 wsX7_askNow (some .int) D cI cB kK kV A) {ad_t : Nat → Nat} {t_wills : Int32} {t_heirs : Int32} {t_kindOf : Nat → Int32} {t_worthOf : Nat → Int32} {t_thingOf : Nat → Int32} {t_changesOf : Nat → Int32} {t_changes : Int32} {t_heard : Int32} {t_heardHeir : Nat → Int32} {t_heardOne : Nat → Int32} {t_heardTwo : Nat → Int32} {t_heardMore : Nat → Int32} {t_pageLength : Int32} {t_page : Nat → Int32} {t_says : Nat → Int32} {t_dealt : Nat → Int32} {t_farOf : Nat → Int32} {t_endMany : Int32} {t_endMost : Int32} {t_endLeast : Int32} {t_endFew : Int32} {t_seedNow : Int64} {t_saved : Nat → Int32} {t_isKept : Int32} {t_keptWill : Int32} {t_keptChanges : Int32} {t_keptHeard : Int32} {t_keptWorth : Nat → Int32} {t_keptThing : Nat → Int32} {t_keptChangesOf : Nat → Int32} {t_keptHeir : Nat → Int32} {t_keptOne : Nat → Int32} {t_keptTwo : Nat → Int32} {t_keptMore : Nat → Int32} {t_h : Int64} {rr : Int32}  : ∀ (n : Nat), ∀ (x1 : Int32) (x2 : Int32) (x3 : Int32) (x4 : Int32) (x5 : Int32) (x6 : Int32) (H : Heap) (locs : List Loc) (ls : Array Slot), va_P D vwCl (w_X7 cI cB ad_t t_wills t_heirs t_kindOf t_worthOf t_thingOf t_changesOf t_changes t_heard t_heardHeir t_heardOne t_heardTwo t_heardMore t_pageLength t_page t_says t_dealt t_farOf t_endMany t_endMost t_endLeast t_endFew t_seedNow t_saved t_isKept t_keptWill t_keptChanges t_keptHeard t_keptWorth t_keptThing t_keptChangesOf t_keptHeir t_keptOne t_keptTwo t_keptMore t_h) H → va_D A (w_X7 cI cB ad_t t_wills t_heirs t_kindOf t_worthOf t_thingOf t_changesOf t_changes t_heard t_heardHeir t_heardOne t_heardTwo t_heardMore t_pageLength t_page t_says t_dealt t_farOf t_endMany t_endMost t_endLeast t_endFew t_seedNow t_saved t_isKept t_keptWill t_keptChanges t_keptHeard t_keptWorth t_keptThing t_keptChangesOf t_keptHeir t_keptOne t_keptTwo t_keptMore t_h) → va_S A s.heap H locs → lv_has ls 11 [(0, .ref (ad_t 0)), (1, .int x1), (2, .int x2), (3, .int x3), (4, .int x4), (5, .int x5), (6, .int x6)] → f_X7_askNow_17 t_worthOf t_heard t_heardHeir t_heardOne t_heardTwo t_heardMore  n x1 x2 x3 x4 x5 x6 = some rr → W p l e rm_X7_askNow s m args below meth c H locs 0 0 (Zq D below args s A (w_X7 cI cB ad_t t_wills t_heirs t_kindOf t_worthOf t_thingOf t_changesOf t_changes t_heard t_heardHeir t_heardOne t_heardTwo t_heardMore t_pageLength t_page t_says t_dealt t_farOf t_endMany t_endMost t_endLeast t_endFew t_seedNow t_saved t_isKept t_keptWill t_keptChanges t_keptHeard t_keptWorth t_keptThing t_keptChangesOf t_keptHeir t_keptOne t_keptTwo t_keptMore t_h) (some (.int rr))) (F0 m 17 ls []) := by
  obtain ⟨hx, hb, hml, hown, hts, hrt, hlocks, hK, hA, hZ⟩ := id F
  intro n
  induction n with
  | zero =>
    intro x1 x2 x3 x4 x5 x6 H locs ls hP hD hS hl hf
    cases hf
  | succ n ih =>
    intro x1 x2 x3 x4 x5 x6 H locs ls hP hD hS hl hf
    refine lv_iload hx hb dX7_askNow_17 (lv_at hl 6 rfl) ?_
    refine lv_iconst (v := 4) hx hb dX7_askNow_19 (by decide) ?_
    refine lv_icmp_ge (tgt := 185) hx hb dX7_askNow_20 (by decide) (fun c1 => ?_) (fun c1 => ?_)
    · replace hf := (if_pos c1).symm.trans hf
      refine lv_iload hx hb dX7_askNow_185 (lv_at hl 4 rfl) ?_
      replace hf : (some x4 : Option (Int32)) = some rr := hf
      cases hf
      exact ret_i F hP hS dX7_askNow_187
    · replace hf := (if_neg c1).symm.trans hf
      refine lv_iload_n hx hb dX7_askNow_23 rfl (lv_at hl 3 rfl) ?_
      refine lv_if_eq (tgt := 185) hx hb dX7_askNow_24 (by decide) (fun c2 => ?_) (fun c2 => ?_)
      · replace hf := (if_pos c2).symm.trans hf
        refine lv_iload hx hb dX7_askNow_185 (lv_at hl 4 rfl) ?_
        replace hf : (some x4 : Option (Int32)) = some rr := hf
        cases hf
        exact ret_i F hP hS dX7_askNow_187
      · replace hf := (if_neg c2).symm.trans hf
        refine lv_iconst (v := 0) hx hb dX7_askNow_27 (by decide) ?_
        refine lv_istore (lv' := [(7, .int 0), (0, .ref (ad_t 0)), (1, .int x1), (2, .int x2), (3, .int x3), (4, .int x4), (5, .int x5), (6, .int x6)]) hx hb dX7_askNow_28 hl (by decide) rfl (fun ls hl => ?_)
        refine lv_iconst (v := 0) hx hb dX7_askNow_30 (by decide) ?_
        refine lv_istore (lv' := [(8, .int 0), (7, .int 0), (0, .ref (ad_t 0)), (1, .int x1), (2, .int x2), (3, .int x3), (4, .int x4), (5, .int x5), (6, .int x6)]) hx hb dX7_askNow_31 hl (by decide) rfl (fun ls hl => ?_)
        refine lv_iconst (v := 0) hx hb dX7_askNow_33 (by decide) ?_
        refine lv_istore (lv' := [(9, .int 0), (8, .int 0), (7, .int 0), (0, .ref (ad_t 0)), (1, .int x1), (2, .int x2), (3, .int x3), (4, .int x4), (5, .int x5), (6, .int x6)]) hx hb dX7_askNow_34 hl (by decide) rfl (fun ls hl => ?_)
        exact b_X7_askNow_36 F (f_X7_askNow_17 t_worthOf t_heard t_heardHeir t_heardOne t_heardTwo t_heardMore  n) ih 300 x1 x2 x3 x4 x5 x6 0 0 0 H locs ls hP hD hS (lv_sub hl [3, 4, 5, 6, 7, 8, 9, 2, 1, 0] rfl) hf

set_option maxHeartbeats 4000000 in
set_option maxRecDepth 100000 in
theorem k_X7_askNow (l : Launch) {D : va_G} {cI cB : ClassId} {kK kV : Nat → Nat} (ad_t : Nat → Nat) (t_wills : Int32) (t_heirs : Int32) (t_kindOf : Nat → Int32) (t_worthOf : Nat → Int32) (t_thingOf : Nat → Int32) (t_changesOf : Nat → Int32) (t_changes : Int32) (t_heard : Int32) (t_heardHeir : Nat → Int32) (t_heardOne : Nat → Int32) (t_heardTwo : Nat → Int32) (t_heardMore : Nat → Int32) (t_pageLength : Int32) (t_page : Nat → Int32) (t_says : Nat → Int32) (t_dealt : Nat → Int32) (t_farOf : Nat → Int32) (t_endMany : Int32) (t_endMost : Int32) (t_endLeast : Int32) (t_endFew : Int32) (t_seedNow : Int64) (t_saved : Nat → Int32) (t_isKept : Int32) (t_keptWill : Int32) (t_keptChanges : Int32) (t_keptHeard : Int32) (t_keptWorth : Nat → Int32) (t_keptThing : Nat → Int32) (t_keptChangesOf : Nat → Int32) (t_keptHeir : Nat → Int32) (t_keptOne : Nat → Int32) (t_keptTwo : Nat → Int32) (t_keptMore : Nat → Int32) (t_h : Int64) (x1 : Int32) (x2 : Int32) {rr : Int32}  (hf : f_X7_askNow t_worthOf t_heard t_heardHeir t_heardOne t_heardTwo t_heardMore x1 x2 = some rr) : Ct l yX7_askNow wsX7_askNow rm_X7_askNow D cI cB kK kV [.ref (ad_t 0), .int x1, .int x2] (w_X7 cI cB ad_t t_wills t_heirs t_kindOf t_worthOf t_thingOf t_changesOf t_changes t_heard t_heardHeir t_heardOne t_heardTwo t_heardMore t_pageLength t_page t_says t_dealt t_farOf t_endMany t_endMost t_endLeast t_endFew t_seedNow t_saved t_isKept t_keptWill t_keptChanges t_keptHeard t_keptWorth t_keptThing t_keptChangesOf t_keptHeir t_keptOne t_keptTwo t_keptMore t_h) (w_X7 cI cB ad_t t_wills t_heirs t_kindOf t_worthOf t_thingOf t_changesOf t_changes t_heard t_heardHeir t_heardOne t_heardTwo t_heardMore t_pageLength t_page t_says t_dealt t_farOf t_endMany t_endMost t_endLeast t_endFew t_seedNow t_saved t_isKept t_keptWill t_keptChanges t_keptHeard t_keptWorth t_keptThing t_keptChangesOf t_keptHeir t_keptOne t_keptTwo t_keptMore t_h) (some (.int rr)) := by
  refine Ct.of (cc := cX7_askNow) (maxL := 11) (ret := (some .int)) (by decide) rfl (Nat.le_of_ble_eq_true rfl) rfl ?_
  intro p e s m below meth c A ls F hP hD hS hl
  have hl : lv_has ls 11 [(0, .ref (ad_t 0)), (1, .int x1), (2, .int x2)] := hl
  obtain ⟨hx, hb, hml, hown, hts, hrt, hlocks, hK, hA, hZ⟩ := id F
  obtain ⟨H, hH⟩ : ∃ H, H = s.heap := ⟨_, rfl⟩
  obtain ⟨locs, hLo⟩ : ∃ q : List Loc, q = [] := ⟨_, rfl⟩
  refine (?_ : W p l e rm_X7_askNow s m _ below meth c s.heap [] 0 0 _ _)
  rw [← hH, ← hLo]
  rw [← hH] at hP
  have hS : va_S A s.heap H locs := by rw [hH, hLo]; exact hS
  refine lv_aload_n hx hb dX7_askNow_0 rfl (lv_at hl 0 rfl) ?_
  refine lv_iload_n hx hb dX7_askNow_1 rfl (lv_at hl 1 rfl) ?_
  refine lv_iload_n hx hb dX7_askNow_2 rfl (lv_at hl 2 rfl) ?_
  obtain ⟨v1, e2, hf⟩ := bnd hf
  refine cV F hP hD hS (k_X7_truthsNow l ad_t t_wills t_heirs t_kindOf t_worthOf t_thingOf t_changesOf t_changes t_heard t_heardHeir t_heardOne t_heardTwo t_heardMore t_pageLength t_page t_says t_dealt t_farOf t_endMany t_endMost t_endLeast t_endFew t_seedNow t_saved t_isKept t_keptWill t_keptChanges t_keptHeard t_keptWorth t_keptThing t_keptChangesOf t_keptHeir t_keptOne t_keptTwo t_keptMore t_h x1 x2 e2) gX7_askNow_X7_truthsNow rfl ⟨rfl, rfl⟩ nd_X7_truthsNow ⟨Nat.le_of_ble_eq_true rfl, Nat.le_of_ble_eq_true rfl⟩ 0 7 rfl rfl rfl hl.1 rfl (Nat.le_of_ble_eq_true rfl) dX7_askNow_3 (pm0 (w_X7 cI cB ad_t t_wills t_heirs t_kindOf t_worthOf t_thingOf t_changesOf t_changes t_heard t_heardHeir t_heardOne t_heardTwo t_heardMore t_pageLength t_page t_says t_dealt t_farOf t_endMany t_endMost t_endLeast t_endFew t_seedNow t_saved t_isKept t_keptWill t_keptChanges t_keptHeard t_keptWorth t_keptThing t_keptChangesOf t_keptHeir t_keptOne t_keptTwo t_keptMore t_h)) (pm0 (w_X7 cI cB ad_t t_wills t_heirs t_kindOf t_worthOf t_thingOf t_changesOf t_changes t_heard t_heardHeir t_heardOne t_heardTwo t_heardMore t_pageLength t_page t_says t_dealt t_farOf t_endMany t_endMost t_endLeast t_endFew t_seedNow t_saved t_isKept t_keptWill t_keptChanges t_keptHeard t_keptWorth t_keptThing t_keptChangesOf t_keptHeir t_keptOne t_keptTwo t_keptMore t_h)) (fun H locs hP hD hS => ?_)
  refine lv_istore_n (lv' := [(3, .int v1), (0, .ref (ad_t 0)), (1, .int x1), (2, .int x2)]) hx hb dX7_askNow_6 rfl hl (by decide) rfl (fun ls hl => ?_)
  refine lv_iconst (v := (-1)) hx hb dX7_askNow_7 (by decide) ?_
  refine lv_istore (lv' := [(4, .int (-1)), (3, .int v1), (0, .ref (ad_t 0)), (1, .int x1), (2, .int x2)]) hx hb dX7_askNow_8 hl (by decide) rfl (fun ls hl => ?_)
  refine lv_ldc (v := 268435456) hx hb hown (hts _ (List.mem_of_getElem? (i := 1) rfl)) dX7_askNow_10 ?_
  refine lv_istore (lv' := [(5, .int 268435456), (4, .int (-1)), (3, .int v1), (0, .ref (ad_t 0)), (1, .int x1), (2, .int x2)]) hx hb dX7_askNow_12 hl (by decide) rfl (fun ls hl => ?_)
  refine lv_iconst (v := 0) hx hb dX7_askNow_14 (by decide) ?_
  refine lv_istore (lv' := [(6, .int 0), (5, .int 268435456), (4, .int (-1)), (3, .int v1), (0, .ref (ad_t 0)), (1, .int x1), (2, .int x2)]) hx hb dX7_askNow_15 hl (by decide) rfl (fun ls hl => ?_)
  exact b_X7_askNow_17 F 300 x1 x2 v1 (-1) 268435456 0 H locs ls hP hD hS (lv_sub hl [4, 5, 6, 3, 2, 1, 0] rfl) hf

/-! X7_ask -/
def rm_X7_ask : Room := { frames := 4, cells := 0, slots := 0, locals := 104 }
theorem nd_X7_ask : yX7_ask.cls = RX7 ∧ yX7_ask.cls ≠ "java/lang/invoke/MethodHandle" ∧ yX7_ask.cls ≠ "java/lang/invoke/VarHandle" ∧ (parseMethodDescriptor yX7_ask.desc).map (fun d => d.parameters.length) = some 2 := by decide +kernel
def f_X7_ask (t_heirs : Int32) (t_worthOf : Nat → Int32) (t_heard : Int32) (t_heardHeir : Nat → Int32) (t_heardOne : Nat → Int32) (t_heardTwo : Nat → Int32) (t_heardMore : Nat → Int32) (x1 : Int32) (x2 : Int32) : Option (Int32) := (f_X7_isHeir t_heirs x1).bind (fun v1 => (if v1 = 0 then some (-101) else (f_X7_isThing t_heirs x2).bind (fun v4 => (if v4 = 0 then some (-101) else (f_X7_askNow t_worthOf t_heard t_heardHeir t_heardOne t_heardTwo t_heardMore x1 x2).bind (fun v7 => some v7)))))
set_option maxHeartbeats 4000000 in
set_option maxRecDepth 100000 in
theorem k_X7_ask (l : Launch) {D : va_G} {cI cB : ClassId} {kK kV : Nat → Nat} (ad_t : Nat → Nat) (t_wills : Int32) (t_heirs : Int32) (t_kindOf : Nat → Int32) (t_worthOf : Nat → Int32) (t_thingOf : Nat → Int32) (t_changesOf : Nat → Int32) (t_changes : Int32) (t_heard : Int32) (t_heardHeir : Nat → Int32) (t_heardOne : Nat → Int32) (t_heardTwo : Nat → Int32) (t_heardMore : Nat → Int32) (t_pageLength : Int32) (t_page : Nat → Int32) (t_says : Nat → Int32) (t_dealt : Nat → Int32) (t_farOf : Nat → Int32) (t_endMany : Int32) (t_endMost : Int32) (t_endLeast : Int32) (t_endFew : Int32) (t_seedNow : Int64) (t_saved : Nat → Int32) (t_isKept : Int32) (t_keptWill : Int32) (t_keptChanges : Int32) (t_keptHeard : Int32) (t_keptWorth : Nat → Int32) (t_keptThing : Nat → Int32) (t_keptChangesOf : Nat → Int32) (t_keptHeir : Nat → Int32) (t_keptOne : Nat → Int32) (t_keptTwo : Nat → Int32) (t_keptMore : Nat → Int32) (t_h : Int64) (x1 : Int32) (x2 : Int32) {rr : Int32}  (hf : f_X7_ask t_heirs t_worthOf t_heard t_heardHeir t_heardOne t_heardTwo t_heardMore x1 x2 = some rr) : Ct l yX7_ask wsX7_ask rm_X7_ask D cI cB kK kV [.ref (ad_t 0), .int x1, .int x2] (w_X7 cI cB ad_t t_wills t_heirs t_kindOf t_worthOf t_thingOf t_changesOf t_changes t_heard t_heardHeir t_heardOne t_heardTwo t_heardMore t_pageLength t_page t_says t_dealt t_farOf t_endMany t_endMost t_endLeast t_endFew t_seedNow t_saved t_isKept t_keptWill t_keptChanges t_keptHeard t_keptWorth t_keptThing t_keptChangesOf t_keptHeir t_keptOne t_keptTwo t_keptMore t_h) (w_X7 cI cB ad_t t_wills t_heirs t_kindOf t_worthOf t_thingOf t_changesOf t_changes t_heard t_heardHeir t_heardOne t_heardTwo t_heardMore t_pageLength t_page t_says t_dealt t_farOf t_endMany t_endMost t_endLeast t_endFew t_seedNow t_saved t_isKept t_keptWill t_keptChanges t_keptHeard t_keptWorth t_keptThing t_keptChangesOf t_keptHeir t_keptOne t_keptTwo t_keptMore t_h) (some (.int rr)) := by
  refine Ct.of (cc := cX7_ask) (maxL := 3) (ret := (some .int)) (by decide) rfl (Nat.le_of_ble_eq_true rfl) rfl ?_
  intro p e s m below meth c A ls F hP hD hS hl
  have hl : lv_has ls 3 [(0, .ref (ad_t 0)), (1, .int x1), (2, .int x2)] := hl
  obtain ⟨hx, hb, hml, hown, hts, hrt, hlocks, hK, hA, hZ⟩ := id F
  obtain ⟨H, hH⟩ : ∃ H, H = s.heap := ⟨_, rfl⟩
  obtain ⟨locs, hLo⟩ : ∃ q : List Loc, q = [] := ⟨_, rfl⟩
  refine (?_ : W p l e rm_X7_ask s m _ below meth c s.heap [] 0 0 _ _)
  rw [← hH, ← hLo]
  rw [← hH] at hP
  have hS : va_S A s.heap H locs := by rw [hH, hLo]; exact hS
  refine lv_aload_n hx hb dX7_ask_0 rfl (lv_at hl 0 rfl) ?_
  refine lv_iload_n hx hb dX7_ask_1 rfl (lv_at hl 1 rfl) ?_
  obtain ⟨v1, e2, hf⟩ := bnd hf
  refine cV F hP hD hS (k_X7_isHeir l ad_t t_wills t_heirs t_kindOf t_worthOf t_thingOf t_changesOf t_changes t_heard t_heardHeir t_heardOne t_heardTwo t_heardMore t_pageLength t_page t_says t_dealt t_farOf t_endMany t_endMost t_endLeast t_endFew t_seedNow t_saved t_isKept t_keptWill t_keptChanges t_keptHeard t_keptWorth t_keptThing t_keptChangesOf t_keptHeir t_keptOne t_keptTwo t_keptMore t_h x1 e2) gX7_ask_X7_isHeir rfl ⟨rfl, rfl⟩ nd_X7_isHeir ⟨Nat.le_of_ble_eq_true rfl, Nat.le_of_ble_eq_true rfl⟩ 0 7 rfl rfl rfl hl.1 rfl (Nat.le_of_ble_eq_true rfl) dX7_ask_2 (pm0 (w_X7 cI cB ad_t t_wills t_heirs t_kindOf t_worthOf t_thingOf t_changesOf t_changes t_heard t_heardHeir t_heardOne t_heardTwo t_heardMore t_pageLength t_page t_says t_dealt t_farOf t_endMany t_endMost t_endLeast t_endFew t_seedNow t_saved t_isKept t_keptWill t_keptChanges t_keptHeard t_keptWorth t_keptThing t_keptChangesOf t_keptHeir t_keptOne t_keptTwo t_keptMore t_h)) (pm0 (w_X7 cI cB ad_t t_wills t_heirs t_kindOf t_worthOf t_thingOf t_changesOf t_changes t_heard t_heardHeir t_heardOne t_heardTwo t_heardMore t_pageLength t_page t_says t_dealt t_farOf t_endMany t_endMost t_endLeast t_endFew t_seedNow t_saved t_isKept t_keptWill t_keptChanges t_keptHeard t_keptWorth t_keptThing t_keptChangesOf t_keptHeir t_keptOne t_keptTwo t_keptMore t_h)) (fun H locs hP hD hS => ?_)
  refine lv_if_eq (tgt := 25) hx hb dX7_ask_5 (by decide) (fun c3 => ?_) (fun c3 => ?_)
  · replace hf := (if_pos c3).symm.trans hf
    refine lv_bipush (v := (-101)) hx hb dX7_ask_25 (by decide) ?_
    replace hf : (some (-101) : Option (Int32)) = some rr := hf
    cases hf
    exact ret_i F hP hS dX7_ask_27
  · replace hf := (if_neg c3).symm.trans hf
    refine lv_aload_n hx hb dX7_ask_8 rfl (lv_at hl 0 rfl) ?_
    refine lv_iload_n hx hb dX7_ask_9 rfl (lv_at hl 2 rfl) ?_
    obtain ⟨v4, e5, hf⟩ := bnd hf
    refine cV F hP hD hS (k_X7_isThing l ad_t t_wills t_heirs t_kindOf t_worthOf t_thingOf t_changesOf t_changes t_heard t_heardHeir t_heardOne t_heardTwo t_heardMore t_pageLength t_page t_says t_dealt t_farOf t_endMany t_endMost t_endLeast t_endFew t_seedNow t_saved t_isKept t_keptWill t_keptChanges t_keptHeard t_keptWorth t_keptThing t_keptChangesOf t_keptHeir t_keptOne t_keptTwo t_keptMore t_h x2 e5) gX7_ask_X7_isThing rfl ⟨rfl, rfl⟩ nd_X7_isThing ⟨Nat.le_of_ble_eq_true rfl, Nat.le_of_ble_eq_true rfl⟩ 0 7 rfl rfl rfl hl.1 rfl (Nat.le_of_ble_eq_true rfl) dX7_ask_10 (pm0 (w_X7 cI cB ad_t t_wills t_heirs t_kindOf t_worthOf t_thingOf t_changesOf t_changes t_heard t_heardHeir t_heardOne t_heardTwo t_heardMore t_pageLength t_page t_says t_dealt t_farOf t_endMany t_endMost t_endLeast t_endFew t_seedNow t_saved t_isKept t_keptWill t_keptChanges t_keptHeard t_keptWorth t_keptThing t_keptChangesOf t_keptHeir t_keptOne t_keptTwo t_keptMore t_h)) (pm0 (w_X7 cI cB ad_t t_wills t_heirs t_kindOf t_worthOf t_thingOf t_changesOf t_changes t_heard t_heardHeir t_heardOne t_heardTwo t_heardMore t_pageLength t_page t_says t_dealt t_farOf t_endMany t_endMost t_endLeast t_endFew t_seedNow t_saved t_isKept t_keptWill t_keptChanges t_keptHeard t_keptWorth t_keptThing t_keptChangesOf t_keptHeir t_keptOne t_keptTwo t_keptMore t_h)) (fun H locs hP hD hS => ?_)
    refine lv_if_eq (tgt := 25) hx hb dX7_ask_13 (by decide) (fun c6 => ?_) (fun c6 => ?_)
    · replace hf := (if_pos c6).symm.trans hf
      refine lv_bipush (v := (-101)) hx hb dX7_ask_25 (by decide) ?_
      replace hf : (some (-101) : Option (Int32)) = some rr := hf
      cases hf
      exact ret_i F hP hS dX7_ask_27
    · replace hf := (if_neg c6).symm.trans hf
      refine lv_aload_n hx hb dX7_ask_16 rfl (lv_at hl 0 rfl) ?_
      refine lv_iload_n hx hb dX7_ask_17 rfl (lv_at hl 1 rfl) ?_
      refine lv_iload_n hx hb dX7_ask_18 rfl (lv_at hl 2 rfl) ?_
      obtain ⟨v7, e8, hf⟩ := bnd hf
      refine cV F hP hD hS (k_X7_askNow l ad_t t_wills t_heirs t_kindOf t_worthOf t_thingOf t_changesOf t_changes t_heard t_heardHeir t_heardOne t_heardTwo t_heardMore t_pageLength t_page t_says t_dealt t_farOf t_endMany t_endMost t_endLeast t_endFew t_seedNow t_saved t_isKept t_keptWill t_keptChanges t_keptHeard t_keptWorth t_keptThing t_keptChangesOf t_keptHeir t_keptOne t_keptTwo t_keptMore t_h x1 x2 e8) gX7_ask_X7_askNow rfl ⟨rfl, rfl⟩ nd_X7_askNow ⟨Nat.le_of_ble_eq_true rfl, Nat.le_of_ble_eq_true rfl⟩ 0 7 rfl rfl rfl hl.1 rfl (Nat.le_of_ble_eq_true rfl) dX7_ask_19 (pm0 (w_X7 cI cB ad_t t_wills t_heirs t_kindOf t_worthOf t_thingOf t_changesOf t_changes t_heard t_heardHeir t_heardOne t_heardTwo t_heardMore t_pageLength t_page t_says t_dealt t_farOf t_endMany t_endMost t_endLeast t_endFew t_seedNow t_saved t_isKept t_keptWill t_keptChanges t_keptHeard t_keptWorth t_keptThing t_keptChangesOf t_keptHeir t_keptOne t_keptTwo t_keptMore t_h)) (pm0 (w_X7 cI cB ad_t t_wills t_heirs t_kindOf t_worthOf t_thingOf t_changesOf t_changes t_heard t_heardHeir t_heardOne t_heardTwo t_heardMore t_pageLength t_page t_says t_dealt t_farOf t_endMany t_endMost t_endLeast t_endFew t_seedNow t_saved t_isKept t_keptWill t_keptChanges t_keptHeard t_keptWorth t_keptThing t_keptChangesOf t_keptHeir t_keptOne t_keptTwo t_keptMore t_h)) (fun H locs hP hD hS => ?_)
      refine lv_goto (tgt := 27) hx hb dX7_ask_22 (by decide) ?_
      replace hf : (some v7 : Option (Int32)) = some rr := hf
      cases hf
      exact ret_i F hP hS dX7_ask_27

/-! X7_draw -/
def rm_X7_draw : Room := { frames := 0, cells := 0, slots := 0, locals := 0 }
theorem in_X7_draw_X7 : ∀ w ∈ u_ws RX7 TX7 35, w ∈ wsX7_draw := fun _ h => List.mem_cons_of_mem _ (List.mem_append_right _ (h))
theorem nd_X7_draw : yX7_draw.cls = RX7 ∧ yX7_draw.cls ≠ "java/lang/invoke/MethodHandle" ∧ yX7_draw.cls ≠ "java/lang/invoke/VarHandle" ∧ (parseMethodDescriptor yX7_draw.desc).map (fun d => d.parameters.length) = some 1 := by decide +kernel
def f_X7_draw (t_seedNow : Int64) (x1 : Int32) : Option (Int32 × Int64) := (rmL ((((1103515245 * t_seedNow) + 12345) &&& 2147483647) / 65536) (x1).toInt64).bind (fun v1 => some ((v1).toInt32, (((1103515245 * t_seedNow) + 12345) &&& 2147483647)))
set_option maxHeartbeats 4000000 in
set_option maxRecDepth 100000 in
theorem k_X7_draw (l : Launch) {D : va_G} {cI cB : ClassId} {kK kV : Nat → Nat} (ad_t : Nat → Nat) (t_wills : Int32) (t_heirs : Int32) (t_kindOf : Nat → Int32) (t_worthOf : Nat → Int32) (t_thingOf : Nat → Int32) (t_changesOf : Nat → Int32) (t_changes : Int32) (t_heard : Int32) (t_heardHeir : Nat → Int32) (t_heardOne : Nat → Int32) (t_heardTwo : Nat → Int32) (t_heardMore : Nat → Int32) (t_pageLength : Int32) (t_page : Nat → Int32) (t_says : Nat → Int32) (t_dealt : Nat → Int32) (t_farOf : Nat → Int32) (t_endMany : Int32) (t_endMost : Int32) (t_endLeast : Int32) (t_endFew : Int32) (t_seedNow : Int64) (t_saved : Nat → Int32) (t_isKept : Int32) (t_keptWill : Int32) (t_keptChanges : Int32) (t_keptHeard : Int32) (t_keptWorth : Nat → Int32) (t_keptThing : Nat → Int32) (t_keptChangesOf : Nat → Int32) (t_keptHeir : Nat → Int32) (t_keptOne : Nat → Int32) (t_keptTwo : Nat → Int32) (t_keptMore : Nat → Int32) (t_h : Int64) (x1 : Int32) {rr : Int32} {g_t_seedNow : Int64} (hf : f_X7_draw t_seedNow x1 = some (rr, g_t_seedNow)) : Ct l yX7_draw wsX7_draw rm_X7_draw D cI cB kK kV [.ref (ad_t 0), .int x1] (w_X7 cI cB ad_t t_wills t_heirs t_kindOf t_worthOf t_thingOf t_changesOf t_changes t_heard t_heardHeir t_heardOne t_heardTwo t_heardMore t_pageLength t_page t_says t_dealt t_farOf t_endMany t_endMost t_endLeast t_endFew t_seedNow t_saved t_isKept t_keptWill t_keptChanges t_keptHeard t_keptWorth t_keptThing t_keptChangesOf t_keptHeir t_keptOne t_keptTwo t_keptMore t_h) (w_X7 cI cB ad_t t_wills t_heirs t_kindOf t_worthOf t_thingOf t_changesOf t_changes t_heard t_heardHeir t_heardOne t_heardTwo t_heardMore t_pageLength t_page t_says t_dealt t_farOf t_endMany t_endMost t_endLeast t_endFew g_t_seedNow t_saved t_isKept t_keptWill t_keptChanges t_keptHeard t_keptWorth t_keptThing t_keptChangesOf t_keptHeir t_keptOne t_keptTwo t_keptMore t_h) (some (.int rr)) := by
  refine Ct.of (cc := cX7_draw) (maxL := 2) (ret := (some .int)) (by decide) rfl (Nat.le_of_ble_eq_true rfl) rfl ?_
  intro p e s m below meth c A ls F hP hD hS hl
  have hl : lv_has ls 2 [(0, .ref (ad_t 0)), (1, .int x1)] := hl
  obtain ⟨hx, hb, hml, hown, hts, hrt, hlocks, hK, hA, hZ⟩ := id F
  obtain ⟨H, hH⟩ : ∃ H, H = s.heap := ⟨_, rfl⟩
  obtain ⟨locs, hLo⟩ : ∃ q : List Loc, q = [] := ⟨_, rfl⟩
  refine (?_ : W p l e rm_X7_draw s m _ below meth c s.heap [] 0 0 _ _)
  rw [← hH, ← hLo]
  rw [← hH] at hP
  have hS : va_S A s.heap H locs := by rw [hH, hLo]; exact hS
  refine lv_aload_n hx hb dX7_draw_0 rfl (lv_at hl 0 rfl) ?_
  refine lv_ldc2 (v := 1103515245) hx hb hown (hts _ (List.mem_of_getElem? (i := 1) rfl)) dX7_draw_1 ?_
  refine lv_aload_n hx hb dX7_draw_4 rfl (lv_at hl 0 rfl) ?_
  refine gf F hP in_X7_draw_X7 0 rfl rfl 21 (by decide) 2 rfl rfl dX7_draw_5 ?_
  refine lv_lmul hx hb dX7_draw_8 ?_
  refine lv_ldc2 (v := 12345) hx hb hown (hts _ (List.mem_of_getElem? (i := 3) rfl)) dX7_draw_9 ?_
  refine lv_ladd hx hb dX7_draw_12 ?_
  refine lv_ldc2 (v := 2147483647) hx hb hown (hts _ (List.mem_of_getElem? (i := 4) rfl)) dX7_draw_13 ?_
  refine lv_land hx hb dX7_draw_16 ?_
  refine pf F hP hD hS in_X7_draw_X7 tyX7 tyX7_ok nmX7 0 rfl rfl 21 (by decide) 2 rfl rfl rfl rfl (Nat.le_of_ble_eq_true rfl) dX7_draw_17 (w_X7 cI cB ad_t t_wills t_heirs t_kindOf t_worthOf t_thingOf t_changesOf t_changes t_heard t_heardHeir t_heardOne t_heardTwo t_heardMore t_pageLength t_page t_says t_dealt t_farOf t_endMany t_endMost t_endLeast t_endFew (((1103515245 * t_seedNow) + 12345) &&& 2147483647) t_saved t_isKept t_keptWill t_keptChanges t_keptHeard t_keptWorth t_keptThing t_keptChangesOf t_keptHeir t_keptOne t_keptTwo t_keptMore t_h) rfl (fun H locs hP hD hS => ?_)
  refine lv_aload_n hx hb dX7_draw_20 rfl (lv_at hl 0 rfl) ?_
  refine gf F hP in_X7_draw_X7 0 rfl rfl 21 (by decide) 2 rfl rfl dX7_draw_21 ?_
  refine lv_ldc2 (v := 65536) hx hb hown (hts _ (List.mem_of_getElem? (i := 5) rfl)) dX7_draw_24 ?_
  refine lv_ldiv hx hb dX7_draw_27 (by decide) ?_
  refine lv_iload_n hx hb dX7_draw_28 rfl (lv_at hl 1 rfl) ?_
  refine lv_i2l hx hb dX7_draw_29 rfl ?_
  obtain ⟨v1, ev1, hf⟩ := bnd hf
  obtain ⟨hv1, qv1⟩ := rmL_some ev1
  refine lv_lrem hx hb dX7_draw_30 hv1 ?_
  refine teql qv1 ?_
  refine lv_l2i hx hb dX7_draw_31 rfl ?_
  replace hf : (some ((v1).toInt32, (((1103515245 * t_seedNow) + 12345) &&& 2147483647)) : Option (Int32 × Int64)) = some (rr, g_t_seedNow) := hf
  cases hf
  exact ret_i F hP hS dX7_draw_32

/-! X7_contentMany -/
def rm_X7_contentMany : Room := { frames := 1, cells := 0, slots := 0, locals := 21 }
theorem in_X7_contentMany_X7 : ∀ w ∈ u_ws RX7 TX7 35, w ∈ wsX7_contentMany := fun _ h => List.mem_cons_of_mem _ (List.mem_append_right _ (h))
theorem nd_X7_contentMany : yX7_contentMany.cls = RX7 ∧ yX7_contentMany.cls ≠ "java/lang/invoke/MethodHandle" ∧ yX7_contentMany.cls ≠ "java/lang/invoke/VarHandle" ∧ (parseMethodDescriptor yX7_contentMany.desc).map (fun d => d.parameters.length) = some 0 := by decide +kernel
def f_X7_contentMany_26 (t_heirs : Int32) (t_worthOf : Nat → Int32) (t_thingOf : Nat → Int32) (back_4 : Int32 → Int32 → Option (Int32)) (x2 : Int32) (k0 : Int32) (k1 : Int32) : Option (Int32) := back_4 (k1 + k0) (x2 + 1)
def f_X7_contentMany_4 (t_heirs : Int32) (t_worthOf : Nat → Int32) (t_thingOf : Nat → Int32)  : Nat → Int32 → Int32 → Option (Int32)
  | 0, _, _ => none
  | n + 1, x1, x2 => (if t_heirs ≤ x2 then some x1 else (f_X7_isContent t_worthOf t_thingOf x2).bind (fun v2 => (if v2 = 0 then f_X7_contentMany_26 t_heirs t_worthOf t_thingOf (f_X7_contentMany_4 t_heirs t_worthOf t_thingOf  n) x2 0 x1 else f_X7_contentMany_26 t_heirs t_worthOf t_thingOf (f_X7_contentMany_4 t_heirs t_worthOf t_thingOf  n) x2 1 x1)))
def f_X7_contentMany (t_heirs : Int32) (t_worthOf : Nat → Int32) (t_thingOf : Nat → Int32)  : Option (Int32) := f_X7_contentMany_4 t_heirs t_worthOf t_thingOf 300 0 0
set_option maxHeartbeats 4000000 in
set_option maxRecDepth 100000 in
theorem b_X7_contentMany_26 {p : Program} {l : Launch} {e : Env} {s : State} {m : MethodId} {args : Array Value} {below : List Frame} {meth : Method} {c : Code} {D : va_G} {cI cB : ClassId} {kK kV : Nat → Nat} {A : Nat → Prop} (F : Fx p m c s meth args cX7_contentMany 3 RX7 wsX7_contentMany (some .int) D cI cB kK kV A) {ad_t : Nat → Nat} {t_wills : Int32} {t_heirs : Int32} {t_kindOf : Nat → Int32} {t_worthOf : Nat → Int32} {t_thingOf : Nat → Int32} {t_changesOf : Nat → Int32} {t_changes : Int32} {t_heard : Int32} {t_heardHeir : Nat → Int32} {t_heardOne : Nat → Int32} {t_heardTwo : Nat → Int32} {t_heardMore : Nat → Int32} {t_pageLength : Int32} {t_page : Nat → Int32} {t_says : Nat → Int32} {t_dealt : Nat → Int32} {t_farOf : Nat → Int32} {t_endMany : Int32} {t_endMost : Int32} {t_endLeast : Int32} {t_endFew : Int32} {t_seedNow : Int64} {t_saved : Nat → Int32} {t_isKept : Int32} {t_keptWill : Int32} {t_keptChanges : Int32} {t_keptHeard : Int32} {t_keptWorth : Nat → Int32} {t_keptThing : Nat → Int32} {t_keptChangesOf : Nat → Int32} {t_keptHeir : Nat → Int32} {t_keptOne : Nat → Int32} {t_keptTwo : Nat → Int32} {t_keptMore : Nat → Int32} {t_h : Int64} {rr : Int32}  (back_4 : Int32 → Int32 → Option (Int32)) (hb_4 : ∀ (x1 : Int32) (x2 : Int32) (H : Heap) (locs : List Loc) (ls : Array Slot), va_P D vwCl (w_X7 cI cB ad_t t_wills t_heirs t_kindOf t_worthOf t_thingOf t_changesOf t_changes t_heard t_heardHeir t_heardOne t_heardTwo t_heardMore t_pageLength t_page t_says t_dealt t_farOf t_endMany t_endMost t_endLeast t_endFew t_seedNow t_saved t_isKept t_keptWill t_keptChanges t_keptHeard t_keptWorth t_keptThing t_keptChangesOf t_keptHeir t_keptOne t_keptTwo t_keptMore t_h) H → va_D A (w_X7 cI cB ad_t t_wills t_heirs t_kindOf t_worthOf t_thingOf t_changesOf t_changes t_heard t_heardHeir t_heardOne t_heardTwo t_heardMore t_pageLength t_page t_says t_dealt t_farOf t_endMany t_endMost t_endLeast t_endFew t_seedNow t_saved t_isKept t_keptWill t_keptChanges t_keptHeard t_keptWorth t_keptThing t_keptChangesOf t_keptHeir t_keptOne t_keptTwo t_keptMore t_h) → va_S A s.heap H locs → lv_has ls 3 [(0, .ref (ad_t 0)), (1, .int x1), (2, .int x2)] → back_4 x1 x2 = some rr → W p l e rm_X7_contentMany s m args below meth c H locs 0 0 (Zq D below args s A (w_X7 cI cB ad_t t_wills t_heirs t_kindOf t_worthOf t_thingOf t_changesOf t_changes t_heard t_heardHeir t_heardOne t_heardTwo t_heardMore t_pageLength t_page t_says t_dealt t_farOf t_endMany t_endMost t_endLeast t_endFew t_seedNow t_saved t_isKept t_keptWill t_keptChanges t_keptHeard t_keptWorth t_keptThing t_keptChangesOf t_keptHeir t_keptOne t_keptTwo t_keptMore t_h) (some (.int rr))) (F0 m 4 ls [])) : ∀ (x2 : Int32) (k0 : Int32) (k1 : Int32) (H : Heap) (locs : List Loc) (ls : Array Slot), va_P D vwCl (w_X7 cI cB ad_t t_wills t_heirs t_kindOf t_worthOf t_thingOf t_changesOf t_changes t_heard t_heardHeir t_heardOne t_heardTwo t_heardMore t_pageLength t_page t_says t_dealt t_farOf t_endMany t_endMost t_endLeast t_endFew t_seedNow t_saved t_isKept t_keptWill t_keptChanges t_keptHeard t_keptWorth t_keptThing t_keptChangesOf t_keptHeir t_keptOne t_keptTwo t_keptMore t_h) H → va_D A (w_X7 cI cB ad_t t_wills t_heirs t_kindOf t_worthOf t_thingOf t_changesOf t_changes t_heard t_heardHeir t_heardOne t_heardTwo t_heardMore t_pageLength t_page t_says t_dealt t_farOf t_endMany t_endMost t_endLeast t_endFew t_seedNow t_saved t_isKept t_keptWill t_keptChanges t_keptHeard t_keptWorth t_keptThing t_keptChangesOf t_keptHeir t_keptOne t_keptTwo t_keptMore t_h) → va_S A s.heap H locs → lv_has ls 3 [(0, .ref (ad_t 0)), (2, .int x2)] → f_X7_contentMany_26 t_heirs t_worthOf t_thingOf back_4 x2 k0 k1 = some rr → W p l e rm_X7_contentMany s m args below meth c H locs 0 0 (Zq D below args s A (w_X7 cI cB ad_t t_wills t_heirs t_kindOf t_worthOf t_thingOf t_changesOf t_changes t_heard t_heardHeir t_heardOne t_heardTwo t_heardMore t_pageLength t_page t_says t_dealt t_farOf t_endMany t_endMost t_endLeast t_endFew t_seedNow t_saved t_isKept t_keptWill t_keptChanges t_keptHeard t_keptWorth t_keptThing t_keptChangesOf t_keptHeir t_keptOne t_keptTwo t_keptMore t_h) (some (.int rr))) (F0 m 26 ls [.int k0, .int k1]) := by
  obtain ⟨hx, hb, hml, hown, hts, hrt, hlocks, hK, hA, hZ⟩ := id F
  intro x2 k0 k1 H locs ls hP hD hS hl hf
  refine lv_iadd hx hb dX7_contentMany_26 ?_
  refine lv_istore_n (lv' := [(1, .int (k1 + k0)), (0, .ref (ad_t 0)), (2, .int x2)]) hx hb dX7_contentMany_27 rfl hl (by decide) rfl (fun ls hl => ?_)
  refine lv_iinc (v := (x2 + 1)) (lv' := [(2, .int (x2 + 1)), (1, .int (k1 + k0)), (0, .ref (ad_t 0))]) hx hb dX7_contentMany_28 hl (k := 2) rfl rfl (by decide) rfl (fun ls hl => ?_)
  refine lv_goto (tgt := 4) hx hb dX7_contentMany_31 (by decide) ?_
  exact hb_4 (k1 + k0) (x2 + 1) H locs ls hP hD hS (lv_sub hl [2, 1, 0] rfl) hf

set_option maxHeartbeats 4000000 in
set_option maxRecDepth 100000 in
theorem b_X7_contentMany_4 {p : Program} {l : Launch} {e : Env} {s : State} {m : MethodId} {args : Array Value} {below : List Frame} {meth : Method} {c : Code} {D : va_G} {cI cB : ClassId} {kK kV : Nat → Nat} {A : Nat → Prop} (F : Fx p m c s meth args cX7_contentMany 3 RX7 wsX7_contentMany (some .int) D cI cB kK kV A) {ad_t : Nat → Nat} {t_wills : Int32} {t_heirs : Int32} {t_kindOf : Nat → Int32} {t_worthOf : Nat → Int32} {t_thingOf : Nat → Int32} {t_changesOf : Nat → Int32} {t_changes : Int32} {t_heard : Int32} {t_heardHeir : Nat → Int32} {t_heardOne : Nat → Int32} {t_heardTwo : Nat → Int32} {t_heardMore : Nat → Int32} {t_pageLength : Int32} {t_page : Nat → Int32} {t_says : Nat → Int32} {t_dealt : Nat → Int32} {t_farOf : Nat → Int32} {t_endMany : Int32} {t_endMost : Int32} {t_endLeast : Int32} {t_endFew : Int32} {t_seedNow : Int64} {t_saved : Nat → Int32} {t_isKept : Int32} {t_keptWill : Int32} {t_keptChanges : Int32} {t_keptHeard : Int32} {t_keptWorth : Nat → Int32} {t_keptThing : Nat → Int32} {t_keptChangesOf : Nat → Int32} {t_keptHeir : Nat → Int32} {t_keptOne : Nat → Int32} {t_keptTwo : Nat → Int32} {t_keptMore : Nat → Int32} {t_h : Int64} {rr : Int32}  : ∀ (n : Nat), ∀ (x1 : Int32) (x2 : Int32) (H : Heap) (locs : List Loc) (ls : Array Slot), va_P D vwCl (w_X7 cI cB ad_t t_wills t_heirs t_kindOf t_worthOf t_thingOf t_changesOf t_changes t_heard t_heardHeir t_heardOne t_heardTwo t_heardMore t_pageLength t_page t_says t_dealt t_farOf t_endMany t_endMost t_endLeast t_endFew t_seedNow t_saved t_isKept t_keptWill t_keptChanges t_keptHeard t_keptWorth t_keptThing t_keptChangesOf t_keptHeir t_keptOne t_keptTwo t_keptMore t_h) H → va_D A (w_X7 cI cB ad_t t_wills t_heirs t_kindOf t_worthOf t_thingOf t_changesOf t_changes t_heard t_heardHeir t_heardOne t_heardTwo t_heardMore t_pageLength t_page t_says t_dealt t_farOf t_endMany t_endMost t_endLeast t_endFew t_seedNow t_saved t_isKept t_keptWill t_keptChanges t_keptHeard t_keptWorth t_keptThing t_keptChangesOf t_keptHeir t_keptOne t_keptTwo t_keptMore t_h) → va_S A s.heap H locs → lv_has ls 3 [(0, .ref (ad_t 0)), (1, .int x1), (2, .int x2)] → f_X7_contentMany_4 t_heirs t_worthOf t_thingOf  n x1 x2 = some rr → W p l e rm_X7_contentMany s m args below meth c H locs 0 0 (Zq D below args s A (w_X7 cI cB ad_t t_wills t_heirs t_kindOf t_worthOf t_thingOf t_changesOf t_changes t_heard t_heardHeir t_heardOne t_heardTwo t_heardMore t_pageLength t_page t_says t_dealt t_farOf t_endMany t_endMost t_endLeast t_endFew t_seedNow t_saved t_isKept t_keptWill t_keptChanges t_keptHeard t_keptWorth t_keptThing t_keptChangesOf t_keptHeir t_keptOne t_keptTwo t_keptMore t_h) (some (.int rr))) (F0 m 4 ls []) := by
  obtain ⟨hx, hb, hml, hown, hts, hrt, hlocks, hK, hA, hZ⟩ := id F
  intro n
  induction n with
  | zero =>
    intro x1 x2 H locs ls hP hD hS hl hf
    cases hf
  | succ n ih =>
    intro x1 x2 H locs ls hP hD hS hl hf
    refine lv_iload_n hx hb dX7_contentMany_4 rfl (lv_at hl 2 rfl) ?_
    refine lv_aload_n hx hb dX7_contentMany_5 rfl (lv_at hl 0 rfl) ?_
    refine gf F hP in_X7_contentMany_X7 0 rfl rfl 1 (by decide) 1 rfl rfl dX7_contentMany_6 ?_
    refine lv_icmp_ge (tgt := 34) hx hb dX7_contentMany_9 (by decide) (fun c1 => ?_) (fun c1 => ?_)
    · replace hf := (if_pos c1).symm.trans hf
      refine lv_iload_n hx hb dX7_contentMany_34 rfl (lv_at hl 1 rfl) ?_
      replace hf : (some x1 : Option (Int32)) = some rr := hf
      cases hf
      exact ret_i F hP hS dX7_contentMany_35
    · replace hf := (if_neg c1).symm.trans hf
      refine lv_iload_n hx hb dX7_contentMany_12 rfl (lv_at hl 1 rfl) ?_
      refine lv_aload_n hx hb dX7_contentMany_13 rfl (lv_at hl 0 rfl) ?_
      refine lv_iload_n hx hb dX7_contentMany_14 rfl (lv_at hl 2 rfl) ?_
      obtain ⟨v2, e3, hf⟩ := bnd hf
      refine cV F hP hD hS (k_X7_isContent l ad_t t_wills t_heirs t_kindOf t_worthOf t_thingOf t_changesOf t_changes t_heard t_heardHeir t_heardOne t_heardTwo t_heardMore t_pageLength t_page t_says t_dealt t_farOf t_endMany t_endMost t_endLeast t_endFew t_seedNow t_saved t_isKept t_keptWill t_keptChanges t_keptHeard t_keptWorth t_keptThing t_keptChangesOf t_keptHeir t_keptOne t_keptTwo t_keptMore t_h x2 e3) gX7_contentMany_X7_isContent rfl ⟨rfl, rfl⟩ nd_X7_isContent ⟨Nat.le_of_ble_eq_true rfl, Nat.le_of_ble_eq_true rfl⟩ 0 7 rfl rfl rfl hl.1 rfl (Nat.le_of_ble_eq_true rfl) dX7_contentMany_15 (pm0 (w_X7 cI cB ad_t t_wills t_heirs t_kindOf t_worthOf t_thingOf t_changesOf t_changes t_heard t_heardHeir t_heardOne t_heardTwo t_heardMore t_pageLength t_page t_says t_dealt t_farOf t_endMany t_endMost t_endLeast t_endFew t_seedNow t_saved t_isKept t_keptWill t_keptChanges t_keptHeard t_keptWorth t_keptThing t_keptChangesOf t_keptHeir t_keptOne t_keptTwo t_keptMore t_h)) (pm0 (w_X7 cI cB ad_t t_wills t_heirs t_kindOf t_worthOf t_thingOf t_changesOf t_changes t_heard t_heardHeir t_heardOne t_heardTwo t_heardMore t_pageLength t_page t_says t_dealt t_farOf t_endMany t_endMost t_endLeast t_endFew t_seedNow t_saved t_isKept t_keptWill t_keptChanges t_keptHeard t_keptWorth t_keptThing t_keptChangesOf t_keptHeir t_keptOne t_keptTwo t_keptMore t_h)) (fun H locs hP hD hS => ?_)
      refine lv_if_eq (tgt := 25) hx hb dX7_contentMany_18 (by decide) (fun c4 => ?_) (fun c4 => ?_)
      · replace hf := (if_pos c4).symm.trans hf
        refine lv_iconst (v := 0) hx hb dX7_contentMany_25 (by decide) ?_
        exact b_X7_contentMany_26 F (f_X7_contentMany_4 t_heirs t_worthOf t_thingOf  n) ih x2 0 x1 H locs ls hP hD hS (lv_sub hl [0, 2] rfl) hf
      · replace hf := (if_neg c4).symm.trans hf
        refine lv_iconst (v := 1) hx hb dX7_contentMany_21 (by decide) ?_
        refine lv_goto (tgt := 26) hx hb dX7_contentMany_22 (by decide) ?_
        exact b_X7_contentMany_26 F (f_X7_contentMany_4 t_heirs t_worthOf t_thingOf  n) ih x2 1 x1 H locs ls hP hD hS (lv_sub hl [0, 2] rfl) hf

set_option maxHeartbeats 4000000 in
set_option maxRecDepth 100000 in
theorem k_X7_contentMany (l : Launch) {D : va_G} {cI cB : ClassId} {kK kV : Nat → Nat} (ad_t : Nat → Nat) (t_wills : Int32) (t_heirs : Int32) (t_kindOf : Nat → Int32) (t_worthOf : Nat → Int32) (t_thingOf : Nat → Int32) (t_changesOf : Nat → Int32) (t_changes : Int32) (t_heard : Int32) (t_heardHeir : Nat → Int32) (t_heardOne : Nat → Int32) (t_heardTwo : Nat → Int32) (t_heardMore : Nat → Int32) (t_pageLength : Int32) (t_page : Nat → Int32) (t_says : Nat → Int32) (t_dealt : Nat → Int32) (t_farOf : Nat → Int32) (t_endMany : Int32) (t_endMost : Int32) (t_endLeast : Int32) (t_endFew : Int32) (t_seedNow : Int64) (t_saved : Nat → Int32) (t_isKept : Int32) (t_keptWill : Int32) (t_keptChanges : Int32) (t_keptHeard : Int32) (t_keptWorth : Nat → Int32) (t_keptThing : Nat → Int32) (t_keptChangesOf : Nat → Int32) (t_keptHeir : Nat → Int32) (t_keptOne : Nat → Int32) (t_keptTwo : Nat → Int32) (t_keptMore : Nat → Int32) (t_h : Int64)  {rr : Int32}  (hf : f_X7_contentMany t_heirs t_worthOf t_thingOf = some rr) : Ct l yX7_contentMany wsX7_contentMany rm_X7_contentMany D cI cB kK kV [.ref (ad_t 0)] (w_X7 cI cB ad_t t_wills t_heirs t_kindOf t_worthOf t_thingOf t_changesOf t_changes t_heard t_heardHeir t_heardOne t_heardTwo t_heardMore t_pageLength t_page t_says t_dealt t_farOf t_endMany t_endMost t_endLeast t_endFew t_seedNow t_saved t_isKept t_keptWill t_keptChanges t_keptHeard t_keptWorth t_keptThing t_keptChangesOf t_keptHeir t_keptOne t_keptTwo t_keptMore t_h) (w_X7 cI cB ad_t t_wills t_heirs t_kindOf t_worthOf t_thingOf t_changesOf t_changes t_heard t_heardHeir t_heardOne t_heardTwo t_heardMore t_pageLength t_page t_says t_dealt t_farOf t_endMany t_endMost t_endLeast t_endFew t_seedNow t_saved t_isKept t_keptWill t_keptChanges t_keptHeard t_keptWorth t_keptThing t_keptChangesOf t_keptHeir t_keptOne t_keptTwo t_keptMore t_h) (some (.int rr)) := by
  refine Ct.of (cc := cX7_contentMany) (maxL := 3) (ret := (some .int)) (by decide) rfl (Nat.le_of_ble_eq_true rfl) rfl ?_
  intro p e s m below meth c A ls F hP hD hS hl
  have hl : lv_has ls 3 [(0, .ref (ad_t 0))] := hl
  obtain ⟨hx, hb, hml, hown, hts, hrt, hlocks, hK, hA, hZ⟩ := id F
  obtain ⟨H, hH⟩ : ∃ H, H = s.heap := ⟨_, rfl⟩
  obtain ⟨locs, hLo⟩ : ∃ q : List Loc, q = [] := ⟨_, rfl⟩
  refine (?_ : W p l e rm_X7_contentMany s m _ below meth c s.heap [] 0 0 _ _)
  rw [← hH, ← hLo]
  rw [← hH] at hP
  have hS : va_S A s.heap H locs := by rw [hH, hLo]; exact hS
  refine lv_iconst (v := 0) hx hb dX7_contentMany_0 (by decide) ?_
  refine lv_istore_n (lv' := [(1, .int 0), (0, .ref (ad_t 0))]) hx hb dX7_contentMany_1 rfl hl (by decide) rfl (fun ls hl => ?_)
  refine lv_iconst (v := 0) hx hb dX7_contentMany_2 (by decide) ?_
  refine lv_istore_n (lv' := [(2, .int 0), (1, .int 0), (0, .ref (ad_t 0))]) hx hb dX7_contentMany_3 rfl hl (by decide) rfl (fun ls hl => ?_)
  exact b_X7_contentMany_4 F 300 0 0 H locs ls hP hD hS (lv_sub hl [2, 1, 0] rfl) hf

/-! X7_yearsNow -/
def rm_X7_yearsNow : Room := { frames := 3, cells := 0, slots := 0, locals := 68 }
theorem in_X7_yearsNow_X7 : ∀ w ∈ u_ws RX7 TX7 35, w ∈ wsX7_yearsNow := fun _ h => List.mem_cons_of_mem _ (List.mem_append_right _ (h))
theorem nd_X7_yearsNow : yX7_yearsNow.cls = RX7 ∧ yX7_yearsNow.cls ≠ "java/lang/invoke/MethodHandle" ∧ yX7_yearsNow.cls ≠ "java/lang/invoke/VarHandle" ∧ (parseMethodDescriptor yX7_yearsNow.desc).map (fun d => d.parameters.length) = some 3 := by decide +kernel
def f_X7_yearsNow_139 (t_heirs : Int32) (t_kindOf : Nat → Int32) (t_worthOf : Nat → Int32)  : Nat → Int32 → Int32 → Int32 → Int32 → (Nat → Int32) → (Nat → Int32) → Int64 → (Nat → Int32) → Option (Int32 × (Nat → Int32) × (Nat → Int32) × Int64 × (Nat → Int32))
  | 0, _, _, _, _, _, _, _, _ => none
  | n + 1, x3, x4, x5, x6, t_thingOf, t_says, t_seedNow, t_saved => (if t_heirs ≤ x6 then (if x3 = 0 then some (x4, t_thingOf, t_says, t_seedNow, t_saved) else (if x3 = 1 then some (x5, t_thingOf, t_says, t_seedNow, t_saved) else some ((t_seedNow).toInt32, t_thingOf, t_says, t_seedNow, t_saved))) else (rd t_saved 4 x6).bind (fun v4 => (wr t_thingOf 4 x6 v4).bind (fun g5 => f_X7_yearsNow_139 t_heirs t_kindOf t_worthOf  n x3 x4 x5 (x6 + 1) g5 t_says t_seedNow t_saved)))
def f_X7_yearsNow_44 (t_heirs : Int32) (t_kindOf : Nat → Int32) (t_worthOf : Nat → Int32)  : Nat → Int32 → Int32 → Int32 → Int32 → (Nat → Int32) → (Nat → Int32) → Int64 → (Nat → Int32) → Option (Int32 × (Nat → Int32) × (Nat → Int32) × Int64 × (Nat → Int32))
  | 0, _, _, _, _, _, _, _, _ => none
  | n + 1, x1, x3, x4, x5, t_thingOf, t_says, t_seedNow, t_saved => (if x1 ≤ x5 then (f_X7_contentMany t_heirs t_worthOf t_thingOf).bind (fun v2 => f_X7_yearsNow_139 t_heirs t_kindOf t_worthOf 300 x3 x4 v2 0 t_thingOf t_says t_seedNow t_saved) else (f_X7_draw t_seedNow t_heirs).bind (fun (v4, g5) => (f_X7_draw g5 t_heirs).bind (fun (v7, g8) => (if v4 = v7 then f_X7_yearsNow_44 t_heirs t_kindOf t_worthOf  n x1 x3 x4 (x5 + 1) t_thingOf t_says g8 t_saved else (f_X7_mayNow t_heirs t_kindOf t_worthOf t_thingOf t_says v4 v7).bind (fun (v11, g12) => (if v11 = 3 then (rd t_thingOf 4 v4).bind (fun v15 => (rd t_thingOf 4 v7).bind (fun v16 => (wr t_thingOf 4 v4 v16).bind (fun g17 => (wr g17 4 v7 v15).bind (fun g18 => f_X7_yearsNow_44 t_heirs t_kindOf t_worthOf  n x1 x3 (x4 + 1) (x5 + 1) g18 g12 g8 t_saved)))) else f_X7_yearsNow_44 t_heirs t_kindOf t_worthOf  n x1 x3 x4 (x5 + 1) t_thingOf g12 g8 t_saved))))))
def f_X7_yearsNow_3 (t_heirs : Int32) (t_kindOf : Nat → Int32) (t_worthOf : Nat → Int32)  : Nat → Int32 → Int32 → Int32 → Int32 → (Nat → Int32) → (Nat → Int32) → Int64 → (Nat → Int32) → Option (Int32 × (Nat → Int32) × (Nat → Int32) × Int64 × (Nat → Int32))
  | 0, _, _, _, _, _, _, _, _ => none
  | n + 1, x1, x2, x3, x4, t_thingOf, t_says, t_seedNow, t_saved => (if t_heirs ≤ x4 then f_X7_yearsNow_44 t_heirs t_kindOf t_worthOf 300 x1 x3 0 0 t_thingOf t_says (x2).toInt64 t_saved else (rd t_thingOf 4 x4).bind (fun v2 => (wr t_saved 4 x4 v2).bind (fun g3 => f_X7_yearsNow_3 t_heirs t_kindOf t_worthOf  n x1 x2 x3 (x4 + 1) t_thingOf t_says t_seedNow g3)))
def f_X7_yearsNow (t_heirs : Int32) (t_kindOf : Nat → Int32) (t_worthOf : Nat → Int32) (t_thingOf : Nat → Int32) (t_says : Nat → Int32) (t_seedNow : Int64) (t_saved : Nat → Int32) (x1 : Int32) (x2 : Int32) (x3 : Int32) : Option (Int32 × (Nat → Int32) × (Nat → Int32) × Int64 × (Nat → Int32)) := f_X7_yearsNow_3 t_heirs t_kindOf t_worthOf 300 x1 x2 x3 0 t_thingOf t_says t_seedNow t_saved
set_option maxHeartbeats 4000000 in
set_option maxRecDepth 100000 in
theorem b_X7_yearsNow_139 {p : Program} {l : Launch} {e : Env} {s : State} {m : MethodId} {args : Array Value} {below : List Frame} {meth : Method} {c : Code} {D : va_G} {cI cB : ClassId} {kK kV : Nat → Nat} {A : Nat → Prop} (F : Fx p m c s meth args cX7_yearsNow 9 RX7 wsX7_yearsNow (some .int) D cI cB kK kV A) {ad_t : Nat → Nat} {t_wills : Int32} {t_heirs : Int32} {t_kindOf : Nat → Int32} {t_worthOf : Nat → Int32} {t_changesOf : Nat → Int32} {t_changes : Int32} {t_heard : Int32} {t_heardHeir : Nat → Int32} {t_heardOne : Nat → Int32} {t_heardTwo : Nat → Int32} {t_heardMore : Nat → Int32} {t_pageLength : Int32} {t_page : Nat → Int32} {t_dealt : Nat → Int32} {t_farOf : Nat → Int32} {t_endMany : Int32} {t_endMost : Int32} {t_endLeast : Int32} {t_endFew : Int32} {t_isKept : Int32} {t_keptWill : Int32} {t_keptChanges : Int32} {t_keptHeard : Int32} {t_keptWorth : Nat → Int32} {t_keptThing : Nat → Int32} {t_keptChangesOf : Nat → Int32} {t_keptHeir : Nat → Int32} {t_keptOne : Nat → Int32} {t_keptTwo : Nat → Int32} {t_keptMore : Nat → Int32} {t_h : Int64} {rr : Int32} {g_t_thingOf : Nat → Int32} {g_t_says : Nat → Int32} {g_t_seedNow : Int64} {g_t_saved : Nat → Int32} : ∀ (n : Nat), ∀ (x3 : Int32) (x4 : Int32) (x5 : Int32) (x6 : Int32) (t_thingOf : Nat → Int32) (t_says : Nat → Int32) (t_seedNow : Int64) (t_saved : Nat → Int32) (H : Heap) (locs : List Loc) (ls : Array Slot), va_P D vwCl (w_X7 cI cB ad_t t_wills t_heirs t_kindOf t_worthOf t_thingOf t_changesOf t_changes t_heard t_heardHeir t_heardOne t_heardTwo t_heardMore t_pageLength t_page t_says t_dealt t_farOf t_endMany t_endMost t_endLeast t_endFew t_seedNow t_saved t_isKept t_keptWill t_keptChanges t_keptHeard t_keptWorth t_keptThing t_keptChangesOf t_keptHeir t_keptOne t_keptTwo t_keptMore t_h) H → va_D A (w_X7 cI cB ad_t t_wills t_heirs t_kindOf t_worthOf t_thingOf t_changesOf t_changes t_heard t_heardHeir t_heardOne t_heardTwo t_heardMore t_pageLength t_page t_says t_dealt t_farOf t_endMany t_endMost t_endLeast t_endFew t_seedNow t_saved t_isKept t_keptWill t_keptChanges t_keptHeard t_keptWorth t_keptThing t_keptChangesOf t_keptHeir t_keptOne t_keptTwo t_keptMore t_h) → va_S A s.heap H locs → lv_has ls 9 [(0, .ref (ad_t 0)), (3, .int x3), (4, .int x4), (5, .int x5), (6, .int x6)] → f_X7_yearsNow_139 t_heirs t_kindOf t_worthOf  n x3 x4 x5 x6 t_thingOf t_says t_seedNow t_saved = some (rr, g_t_thingOf, g_t_says, g_t_seedNow, g_t_saved) → W p l e rm_X7_yearsNow s m args below meth c H locs 0 0 (Zq D below args s A (w_X7 cI cB ad_t t_wills t_heirs t_kindOf t_worthOf g_t_thingOf t_changesOf t_changes t_heard t_heardHeir t_heardOne t_heardTwo t_heardMore t_pageLength t_page g_t_says t_dealt t_farOf t_endMany t_endMost t_endLeast t_endFew g_t_seedNow g_t_saved t_isKept t_keptWill t_keptChanges t_keptHeard t_keptWorth t_keptThing t_keptChangesOf t_keptHeir t_keptOne t_keptTwo t_keptMore t_h) (some (.int rr))) (F0 m 139 ls []) := by
  obtain ⟨hx, hb, hml, hown, hts, hrt, hlocks, hK, hA, hZ⟩ := id F
  intro n
  induction n with
  | zero =>
    intro x3 x4 x5 x6 t_thingOf t_says t_seedNow t_saved H locs ls hP hD hS hl hf
    cases hf
  | succ n ih =>
    intro x3 x4 x5 x6 t_thingOf t_says t_seedNow t_saved H locs ls hP hD hS hl hf
    refine lv_iload hx hb dX7_yearsNow_139 (lv_at hl 4 rfl) ?_
    refine lv_aload_n hx hb dX7_yearsNow_141 rfl (lv_at hl 0 rfl) ?_
    refine gf F hP in_X7_yearsNow_X7 0 rfl rfl 1 (by decide) 1 rfl rfl dX7_yearsNow_142 ?_
    refine lv_icmp_ge (tgt := 168) hx hb dX7_yearsNow_145 (by decide) (fun c1 => ?_) (fun c1 => ?_)
    · replace hf := (if_pos c1).symm.trans hf
      refine lv_iload_n hx hb dX7_yearsNow_168 rfl (lv_at hl 1 rfl) ?_
      refine lv_if_ne (tgt := 177) hx hb dX7_yearsNow_169 (by decide) (fun c2 => ?_) (fun c2 => ?_)
      · replace hf := (if_neg c2).symm.trans hf
        refine lv_iload_n hx hb dX7_yearsNow_177 rfl (lv_at hl 1 rfl) ?_
        refine lv_iconst (v := 1) hx hb dX7_yearsNow_178 (by decide) ?_
        refine lv_icmp_ne (tgt := 187) hx hb dX7_yearsNow_179 (by decide) (fun c3 => ?_) (fun c3 => ?_)
        · replace hf := (if_neg c3).symm.trans hf
          refine lv_aload_n hx hb dX7_yearsNow_187 rfl (lv_at hl 0 rfl) ?_
          refine gf F hP in_X7_yearsNow_X7 0 rfl rfl 21 (by decide) 4 rfl rfl dX7_yearsNow_188 ?_
          refine lv_l2i hx hb dX7_yearsNow_191 rfl ?_
          replace hf : (some ((t_seedNow).toInt32, t_thingOf, t_says, t_seedNow, t_saved) : Option (Int32 × (Nat → Int32) × (Nat → Int32) × Int64 × (Nat → Int32))) = some (rr, g_t_thingOf, g_t_says, g_t_seedNow, g_t_saved) := hf
          cases hf
          exact ret_i F hP hS dX7_yearsNow_192
        · replace hf := (if_pos c3).symm.trans hf
          refine lv_iload hx hb dX7_yearsNow_182 (lv_at hl 3 rfl) ?_
          refine lv_goto (tgt := 192) hx hb dX7_yearsNow_184 (by decide) ?_
          replace hf : (some (x5, t_thingOf, t_says, t_seedNow, t_saved) : Option (Int32 × (Nat → Int32) × (Nat → Int32) × Int64 × (Nat → Int32))) = some (rr, g_t_thingOf, g_t_says, g_t_seedNow, g_t_saved) := hf
          cases hf
          exact ret_i F hP hS dX7_yearsNow_192
      · replace hf := (if_pos c2).symm.trans hf
        refine lv_iload hx hb dX7_yearsNow_172 (lv_at hl 2 rfl) ?_
        refine lv_goto (tgt := 192) hx hb dX7_yearsNow_174 (by decide) ?_
        replace hf : (some (x4, t_thingOf, t_says, t_seedNow, t_saved) : Option (Int32 × (Nat → Int32) × (Nat → Int32) × Int64 × (Nat → Int32))) = some (rr, g_t_thingOf, g_t_says, g_t_seedNow, g_t_saved) := hf
        cases hf
        exact ret_i F hP hS dX7_yearsNow_192
    · replace hf := (if_neg c1).symm.trans hf
      refine lv_aload_n hx hb dX7_yearsNow_148 rfl (lv_at hl 0 rfl) ?_
      refine gf F hP in_X7_yearsNow_X7 0 rfl rfl 4 (by decide) 3 rfl rfl dX7_yearsNow_149 ?_
      refine lv_iload hx hb dX7_yearsNow_152 (lv_at hl 4 rfl) ?_
      refine lv_aload_n hx hb dX7_yearsNow_154 rfl (lv_at hl 0 rfl) ?_
      refine gf F hP in_X7_yearsNow_X7 0 rfl rfl 22 (by decide) 2 rfl rfl dX7_yearsNow_155 ?_
      refine lv_iload hx hb dX7_yearsNow_158 (lv_at hl 4 rfl) ?_
      obtain ⟨v4, ev4, hf⟩ := bnd hf
      refine ald F hP 13 rfl ev4 dX7_yearsNow_160 ?_
      obtain ⟨g5, eg5, hf⟩ := bnd hf
      refine ast F hP hD hS 3 rfl eg5 dX7_yearsNow_161 (w_X7 cI cB ad_t t_wills t_heirs t_kindOf t_worthOf g5 t_changesOf t_changes t_heard t_heardHeir t_heardOne t_heardTwo t_heardMore t_pageLength t_page t_says t_dealt t_farOf t_endMany t_endMost t_endLeast t_endFew t_seedNow t_saved t_isKept t_keptWill t_keptChanges t_keptHeard t_keptWorth t_keptThing t_keptChangesOf t_keptHeir t_keptOne t_keptTwo t_keptMore t_h) rfl (fun H locs hP hD hS => ?_)
      refine lv_iinc (v := (x6 + 1)) (lv' := [(6, .int (x6 + 1)), (0, .ref (ad_t 0)), (3, .int x3), (4, .int x4), (5, .int x5)]) hx hb dX7_yearsNow_162 hl (k := 4) rfl rfl (by decide) rfl (fun ls hl => ?_)
      refine lv_goto (tgt := 139) hx hb dX7_yearsNow_165 (by decide) ?_
      exact ih x3 x4 x5 (x6 + 1) g5 t_says t_seedNow t_saved H locs ls hP hD hS (lv_sub hl [1, 2, 3, 4, 0] rfl) hf

set_option maxHeartbeats 4000000 in
set_option maxRecDepth 100000 in
theorem b_X7_yearsNow_44 {p : Program} {l : Launch} {e : Env} {s : State} {m : MethodId} {args : Array Value} {below : List Frame} {meth : Method} {c : Code} {D : va_G} {cI cB : ClassId} {kK kV : Nat → Nat} {A : Nat → Prop} (F : Fx p m c s meth args cX7_yearsNow 9 RX7 wsX7_yearsNow (some .int) D cI cB kK kV A) {ad_t : Nat → Nat} {t_wills : Int32} {t_heirs : Int32} {t_kindOf : Nat → Int32} {t_worthOf : Nat → Int32} {t_changesOf : Nat → Int32} {t_changes : Int32} {t_heard : Int32} {t_heardHeir : Nat → Int32} {t_heardOne : Nat → Int32} {t_heardTwo : Nat → Int32} {t_heardMore : Nat → Int32} {t_pageLength : Int32} {t_page : Nat → Int32} {t_dealt : Nat → Int32} {t_farOf : Nat → Int32} {t_endMany : Int32} {t_endMost : Int32} {t_endLeast : Int32} {t_endFew : Int32} {t_isKept : Int32} {t_keptWill : Int32} {t_keptChanges : Int32} {t_keptHeard : Int32} {t_keptWorth : Nat → Int32} {t_keptThing : Nat → Int32} {t_keptChangesOf : Nat → Int32} {t_keptHeir : Nat → Int32} {t_keptOne : Nat → Int32} {t_keptTwo : Nat → Int32} {t_keptMore : Nat → Int32} {t_h : Int64} {rr : Int32} {g_t_thingOf : Nat → Int32} {g_t_says : Nat → Int32} {g_t_seedNow : Int64} {g_t_saved : Nat → Int32} : ∀ (n : Nat), ∀ (x1 : Int32) (x3 : Int32) (x4 : Int32) (x5 : Int32) (t_thingOf : Nat → Int32) (t_says : Nat → Int32) (t_seedNow : Int64) (t_saved : Nat → Int32) (H : Heap) (locs : List Loc) (ls : Array Slot), va_P D vwCl (w_X7 cI cB ad_t t_wills t_heirs t_kindOf t_worthOf t_thingOf t_changesOf t_changes t_heard t_heardHeir t_heardOne t_heardTwo t_heardMore t_pageLength t_page t_says t_dealt t_farOf t_endMany t_endMost t_endLeast t_endFew t_seedNow t_saved t_isKept t_keptWill t_keptChanges t_keptHeard t_keptWorth t_keptThing t_keptChangesOf t_keptHeir t_keptOne t_keptTwo t_keptMore t_h) H → va_D A (w_X7 cI cB ad_t t_wills t_heirs t_kindOf t_worthOf t_thingOf t_changesOf t_changes t_heard t_heardHeir t_heardOne t_heardTwo t_heardMore t_pageLength t_page t_says t_dealt t_farOf t_endMany t_endMost t_endLeast t_endFew t_seedNow t_saved t_isKept t_keptWill t_keptChanges t_keptHeard t_keptWorth t_keptThing t_keptChangesOf t_keptHeir t_keptOne t_keptTwo t_keptMore t_h) → va_S A s.heap H locs → lv_has ls 9 [(0, .ref (ad_t 0)), (1, .int x1), (3, .int x3), (4, .int x4), (5, .int x5)] → f_X7_yearsNow_44 t_heirs t_kindOf t_worthOf  n x1 x3 x4 x5 t_thingOf t_says t_seedNow t_saved = some (rr, g_t_thingOf, g_t_says, g_t_seedNow, g_t_saved) → W p l e rm_X7_yearsNow s m args below meth c H locs 0 0 (Zq D below args s A (w_X7 cI cB ad_t t_wills t_heirs t_kindOf t_worthOf g_t_thingOf t_changesOf t_changes t_heard t_heardHeir t_heardOne t_heardTwo t_heardMore t_pageLength t_page g_t_says t_dealt t_farOf t_endMany t_endMost t_endLeast t_endFew g_t_seedNow g_t_saved t_isKept t_keptWill t_keptChanges t_keptHeard t_keptWorth t_keptThing t_keptChangesOf t_keptHeir t_keptOne t_keptTwo t_keptMore t_h) (some (.int rr))) (F0 m 44 ls []) := by
  obtain ⟨hx, hb, hml, hown, hts, hrt, hlocks, hK, hA, hZ⟩ := id F
  intro n
  induction n with
  | zero =>
    intro x1 x3 x4 x5 t_thingOf t_says t_seedNow t_saved H locs ls hP hD hS hl hf
    cases hf
  | succ n ih =>
    intro x1 x3 x4 x5 t_thingOf t_says t_seedNow t_saved H locs ls hP hD hS hl hf
    refine lv_iload hx hb dX7_yearsNow_44 (lv_at hl 4 rfl) ?_
    refine lv_iload_n hx hb dX7_yearsNow_46 rfl (lv_at hl 1 rfl) ?_
    refine lv_icmp_ge (tgt := 130) hx hb dX7_yearsNow_47 (by decide) (fun c1 => ?_) (fun c1 => ?_)
    · replace hf := (if_pos c1).symm.trans hf
      refine lv_aload_n hx hb dX7_yearsNow_130 rfl (lv_at hl 0 rfl) ?_
      obtain ⟨v2, e3, hf⟩ := bnd hf
      refine cV F hP hD hS (k_X7_contentMany l ad_t t_wills t_heirs t_kindOf t_worthOf t_thingOf t_changesOf t_changes t_heard t_heardHeir t_heardOne t_heardTwo t_heardMore t_pageLength t_page t_says t_dealt t_farOf t_endMany t_endMost t_endLeast t_endFew t_seedNow t_saved t_isKept t_keptWill t_keptChanges t_keptHeard t_keptWorth t_keptThing t_keptChangesOf t_keptHeir t_keptOne t_keptTwo t_keptMore t_h  e3) gX7_yearsNow_X7_contentMany rfl ⟨rfl, rfl⟩ nd_X7_contentMany ⟨Nat.le_of_ble_eq_true rfl, Nat.le_of_ble_eq_true rfl⟩ 0 7 rfl rfl rfl hl.1 rfl (Nat.le_of_ble_eq_true rfl) dX7_yearsNow_131 (pm0 (w_X7 cI cB ad_t t_wills t_heirs t_kindOf t_worthOf t_thingOf t_changesOf t_changes t_heard t_heardHeir t_heardOne t_heardTwo t_heardMore t_pageLength t_page t_says t_dealt t_farOf t_endMany t_endMost t_endLeast t_endFew t_seedNow t_saved t_isKept t_keptWill t_keptChanges t_keptHeard t_keptWorth t_keptThing t_keptChangesOf t_keptHeir t_keptOne t_keptTwo t_keptMore t_h)) (pm0 (w_X7 cI cB ad_t t_wills t_heirs t_kindOf t_worthOf t_thingOf t_changesOf t_changes t_heard t_heardHeir t_heardOne t_heardTwo t_heardMore t_pageLength t_page t_says t_dealt t_farOf t_endMany t_endMost t_endLeast t_endFew t_seedNow t_saved t_isKept t_keptWill t_keptChanges t_keptHeard t_keptWorth t_keptThing t_keptChangesOf t_keptHeir t_keptOne t_keptTwo t_keptMore t_h)) (fun H locs hP hD hS => ?_)
      refine lv_istore (lv' := [(5, .int v2), (0, .ref (ad_t 0)), (1, .int x1), (3, .int x3), (4, .int x4)]) hx hb dX7_yearsNow_134 hl (by decide) rfl (fun ls hl => ?_)
      refine lv_iconst (v := 0) hx hb dX7_yearsNow_136 (by decide) ?_
      refine lv_istore (lv' := [(6, .int 0), (5, .int v2), (0, .ref (ad_t 0)), (1, .int x1), (3, .int x3), (4, .int x4)]) hx hb dX7_yearsNow_137 hl (by decide) rfl (fun ls hl => ?_)
      exact b_X7_yearsNow_139 F 300 x3 x4 v2 0 t_thingOf t_says t_seedNow t_saved H locs ls hP hD hS (lv_sub hl [2, 4, 5, 1, 0] rfl) hf
    · replace hf := (if_neg c1).symm.trans hf
      refine lv_aload_n hx hb dX7_yearsNow_50 rfl (lv_at hl 0 rfl) ?_
      refine lv_aload_n hx hb dX7_yearsNow_51 rfl (lv_at hl 0 rfl) ?_
      refine gf F hP in_X7_yearsNow_X7 0 rfl rfl 1 (by decide) 1 rfl rfl dX7_yearsNow_52 ?_
      obtain ⟨⟨v4, g5⟩, e6, hf⟩ := bnd hf
      refine cV F hP hD hS (k_X7_draw l ad_t t_wills t_heirs t_kindOf t_worthOf t_thingOf t_changesOf t_changes t_heard t_heardHeir t_heardOne t_heardTwo t_heardMore t_pageLength t_page t_says t_dealt t_farOf t_endMany t_endMost t_endLeast t_endFew t_seedNow t_saved t_isKept t_keptWill t_keptChanges t_keptHeard t_keptWorth t_keptThing t_keptChangesOf t_keptHeir t_keptOne t_keptTwo t_keptMore t_h t_heirs e6) gX7_yearsNow_X7_draw rfl ⟨rfl, rfl⟩ nd_X7_draw ⟨Nat.le_of_ble_eq_true rfl, Nat.le_of_ble_eq_true rfl⟩ 0 7 rfl rfl rfl hl.1 rfl (Nat.le_of_ble_eq_true rfl) dX7_yearsNow_55 (pm0 (w_X7 cI cB ad_t t_wills t_heirs t_kindOf t_worthOf t_thingOf t_changesOf t_changes t_heard t_heardHeir t_heardOne t_heardTwo t_heardMore t_pageLength t_page t_says t_dealt t_farOf t_endMany t_endMost t_endLeast t_endFew t_seedNow t_saved t_isKept t_keptWill t_keptChanges t_keptHeard t_keptWorth t_keptThing t_keptChangesOf t_keptHeir t_keptOne t_keptTwo t_keptMore t_h)) (pm0 (w_X7 cI cB ad_t t_wills t_heirs t_kindOf t_worthOf t_thingOf t_changesOf t_changes t_heard t_heardHeir t_heardOne t_heardTwo t_heardMore t_pageLength t_page t_says t_dealt t_farOf t_endMany t_endMost t_endLeast t_endFew g5 t_saved t_isKept t_keptWill t_keptChanges t_keptHeard t_keptWorth t_keptThing t_keptChangesOf t_keptHeir t_keptOne t_keptTwo t_keptMore t_h)) (fun H locs hP hD hS => ?_)
      refine lv_istore (lv' := [(6, .int v4), (0, .ref (ad_t 0)), (1, .int x1), (3, .int x3), (4, .int x4), (5, .int x5)]) hx hb dX7_yearsNow_58 hl (by decide) rfl (fun ls hl => ?_)
      refine lv_aload_n hx hb dX7_yearsNow_60 rfl (lv_at hl 1 rfl) ?_
      refine lv_aload_n hx hb dX7_yearsNow_61 rfl (lv_at hl 1 rfl) ?_
      refine gf F hP in_X7_yearsNow_X7 0 rfl rfl 1 (by decide) 1 rfl rfl dX7_yearsNow_62 ?_
      obtain ⟨⟨v7, g8⟩, e9, hf⟩ := bnd hf
      refine cV F hP hD hS (k_X7_draw l ad_t t_wills t_heirs t_kindOf t_worthOf t_thingOf t_changesOf t_changes t_heard t_heardHeir t_heardOne t_heardTwo t_heardMore t_pageLength t_page t_says t_dealt t_farOf t_endMany t_endMost t_endLeast t_endFew g5 t_saved t_isKept t_keptWill t_keptChanges t_keptHeard t_keptWorth t_keptThing t_keptChangesOf t_keptHeir t_keptOne t_keptTwo t_keptMore t_h t_heirs e9) gX7_yearsNow_X7_draw rfl ⟨rfl, rfl⟩ nd_X7_draw ⟨Nat.le_of_ble_eq_true rfl, Nat.le_of_ble_eq_true rfl⟩ 0 7 rfl rfl rfl hl.1 rfl (Nat.le_of_ble_eq_true rfl) dX7_yearsNow_65 (pm0 (w_X7 cI cB ad_t t_wills t_heirs t_kindOf t_worthOf t_thingOf t_changesOf t_changes t_heard t_heardHeir t_heardOne t_heardTwo t_heardMore t_pageLength t_page t_says t_dealt t_farOf t_endMany t_endMost t_endLeast t_endFew g5 t_saved t_isKept t_keptWill t_keptChanges t_keptHeard t_keptWorth t_keptThing t_keptChangesOf t_keptHeir t_keptOne t_keptTwo t_keptMore t_h)) (pm0 (w_X7 cI cB ad_t t_wills t_heirs t_kindOf t_worthOf t_thingOf t_changesOf t_changes t_heard t_heardHeir t_heardOne t_heardTwo t_heardMore t_pageLength t_page t_says t_dealt t_farOf t_endMany t_endMost t_endLeast t_endFew g8 t_saved t_isKept t_keptWill t_keptChanges t_keptHeard t_keptWorth t_keptThing t_keptChangesOf t_keptHeir t_keptOne t_keptTwo t_keptMore t_h)) (fun H locs hP hD hS => ?_)
      refine lv_istore (lv' := [(7, .int v7), (6, .int v4), (0, .ref (ad_t 0)), (1, .int x1), (3, .int x3), (4, .int x4), (5, .int x5)]) hx hb dX7_yearsNow_68 hl (by decide) rfl (fun ls hl => ?_)
      refine lv_iload hx hb dX7_yearsNow_70 (lv_at hl 1 rfl) ?_
      refine lv_iload hx hb dX7_yearsNow_72 (lv_at hl 0 rfl) ?_
      refine lv_icmp_eq (tgt := 124) hx hb dX7_yearsNow_74 (by decide) (fun c10 => ?_) (fun c10 => ?_)
      · replace hf := (if_pos c10).symm.trans hf
        refine lv_iinc (v := (x5 + 1)) (lv' := [(5, .int (x5 + 1)), (7, .int v7), (6, .int v4), (0, .ref (ad_t 0)), (1, .int x1), (3, .int x3), (4, .int x4)]) hx hb dX7_yearsNow_124 hl (k := 6) rfl rfl (by decide) rfl (fun ls hl => ?_)
        refine lv_goto (tgt := 44) hx hb dX7_yearsNow_127 (by decide) ?_
        exact ih x1 x3 x4 (x5 + 1) t_thingOf t_says g8 t_saved H locs ls hP hD hS (lv_sub hl [3, 4, 5, 6, 0] rfl) hf
      · replace hf := (if_neg c10).symm.trans hf
        refine lv_aload_n hx hb dX7_yearsNow_77 rfl (lv_at hl 2 rfl) ?_
        refine lv_iload hx hb dX7_yearsNow_78 (lv_at hl 1 rfl) ?_
        refine lv_iload hx hb dX7_yearsNow_80 (lv_at hl 0 rfl) ?_
        obtain ⟨⟨v11, g12⟩, e13, hf⟩ := bnd hf
        refine cV F hP hD hS (k_X7_mayNow l ad_t t_wills t_heirs t_kindOf t_worthOf t_thingOf t_changesOf t_changes t_heard t_heardHeir t_heardOne t_heardTwo t_heardMore t_pageLength t_page t_says t_dealt t_farOf t_endMany t_endMost t_endLeast t_endFew g8 t_saved t_isKept t_keptWill t_keptChanges t_keptHeard t_keptWorth t_keptThing t_keptChangesOf t_keptHeir t_keptOne t_keptTwo t_keptMore t_h v4 v7 e13) gX7_yearsNow_X7_mayNow rfl ⟨rfl, rfl⟩ nd_X7_mayNow ⟨Nat.le_of_ble_eq_true rfl, Nat.le_of_ble_eq_true rfl⟩ 0 7 rfl rfl rfl hl.1 rfl (Nat.le_of_ble_eq_true rfl) dX7_yearsNow_82 (pm0 (w_X7 cI cB ad_t t_wills t_heirs t_kindOf t_worthOf t_thingOf t_changesOf t_changes t_heard t_heardHeir t_heardOne t_heardTwo t_heardMore t_pageLength t_page t_says t_dealt t_farOf t_endMany t_endMost t_endLeast t_endFew g8 t_saved t_isKept t_keptWill t_keptChanges t_keptHeard t_keptWorth t_keptThing t_keptChangesOf t_keptHeir t_keptOne t_keptTwo t_keptMore t_h)) (pm0 (w_X7 cI cB ad_t t_wills t_heirs t_kindOf t_worthOf t_thingOf t_changesOf t_changes t_heard t_heardHeir t_heardOne t_heardTwo t_heardMore t_pageLength t_page g12 t_dealt t_farOf t_endMany t_endMost t_endLeast t_endFew g8 t_saved t_isKept t_keptWill t_keptChanges t_keptHeard t_keptWorth t_keptThing t_keptChangesOf t_keptHeir t_keptOne t_keptTwo t_keptMore t_h)) (fun H locs hP hD hS => ?_)
        refine lv_iconst (v := 3) hx hb dX7_yearsNow_85 (by decide) ?_
        refine lv_icmp_ne (tgt := 124) hx hb dX7_yearsNow_86 (by decide) (fun c14 => ?_) (fun c14 => ?_)
        · replace hf := (if_neg c14).symm.trans hf
          refine lv_iinc (v := (x5 + 1)) (lv' := [(5, .int (x5 + 1)), (7, .int v7), (6, .int v4), (0, .ref (ad_t 0)), (1, .int x1), (3, .int x3), (4, .int x4)]) hx hb dX7_yearsNow_124 hl (k := 6) rfl rfl (by decide) rfl (fun ls hl => ?_)
          refine lv_goto (tgt := 44) hx hb dX7_yearsNow_127 (by decide) ?_
          exact ih x1 x3 x4 (x5 + 1) t_thingOf g12 g8 t_saved H locs ls hP hD hS (lv_sub hl [3, 4, 5, 6, 0] rfl) hf
        · replace hf := (if_pos c14).symm.trans hf
          refine lv_aload_n hx hb dX7_yearsNow_89 rfl (lv_at hl 2 rfl) ?_
          refine gf F hP in_X7_yearsNow_X7 0 rfl rfl 4 (by decide) 3 rfl rfl dX7_yearsNow_90 ?_
          refine lv_iload hx hb dX7_yearsNow_93 (lv_at hl 1 rfl) ?_
          obtain ⟨v15, ev15, hf⟩ := bnd hf
          refine ald F hP 3 rfl ev15 dX7_yearsNow_95 ?_
          refine lv_istore (lv' := [(8, .int v15), (7, .int v7), (6, .int v4), (0, .ref (ad_t 0)), (1, .int x1), (3, .int x3), (4, .int x4), (5, .int x5)]) hx hb dX7_yearsNow_96 hl (by decide) rfl (fun ls hl => ?_)
          refine lv_aload_n hx hb dX7_yearsNow_98 rfl (lv_at hl 3 rfl) ?_
          refine gf F hP in_X7_yearsNow_X7 0 rfl rfl 4 (by decide) 3 rfl rfl dX7_yearsNow_99 ?_
          refine lv_iload hx hb dX7_yearsNow_102 (lv_at hl 2 rfl) ?_
          refine lv_aload_n hx hb dX7_yearsNow_104 rfl (lv_at hl 3 rfl) ?_
          refine gf F hP in_X7_yearsNow_X7 0 rfl rfl 4 (by decide) 3 rfl rfl dX7_yearsNow_105 ?_
          refine lv_iload hx hb dX7_yearsNow_108 (lv_at hl 1 rfl) ?_
          obtain ⟨v16, ev16, hf⟩ := bnd hf
          refine ald F hP 3 rfl ev16 dX7_yearsNow_110 ?_
          obtain ⟨g17, eg17, hf⟩ := bnd hf
          refine ast F hP hD hS 3 rfl eg17 dX7_yearsNow_111 (w_X7 cI cB ad_t t_wills t_heirs t_kindOf t_worthOf g17 t_changesOf t_changes t_heard t_heardHeir t_heardOne t_heardTwo t_heardMore t_pageLength t_page g12 t_dealt t_farOf t_endMany t_endMost t_endLeast t_endFew g8 t_saved t_isKept t_keptWill t_keptChanges t_keptHeard t_keptWorth t_keptThing t_keptChangesOf t_keptHeir t_keptOne t_keptTwo t_keptMore t_h) rfl (fun H locs hP hD hS => ?_)
          refine lv_aload_n hx hb dX7_yearsNow_112 rfl (lv_at hl 3 rfl) ?_
          refine gf F hP in_X7_yearsNow_X7 0 rfl rfl 4 (by decide) 3 rfl rfl dX7_yearsNow_113 ?_
          refine lv_iload hx hb dX7_yearsNow_116 (lv_at hl 1 rfl) ?_
          refine lv_iload hx hb dX7_yearsNow_118 (lv_at hl 0 rfl) ?_
          obtain ⟨g18, eg18, hf⟩ := bnd hf
          refine ast F hP hD hS 3 rfl eg18 dX7_yearsNow_120 (w_X7 cI cB ad_t t_wills t_heirs t_kindOf t_worthOf g18 t_changesOf t_changes t_heard t_heardHeir t_heardOne t_heardTwo t_heardMore t_pageLength t_page g12 t_dealt t_farOf t_endMany t_endMost t_endLeast t_endFew g8 t_saved t_isKept t_keptWill t_keptChanges t_keptHeard t_keptWorth t_keptThing t_keptChangesOf t_keptHeir t_keptOne t_keptTwo t_keptMore t_h) rfl (fun H locs hP hD hS => ?_)
          refine lv_iinc (v := (x4 + 1)) (lv' := [(4, .int (x4 + 1)), (8, .int v15), (7, .int v7), (6, .int v4), (0, .ref (ad_t 0)), (1, .int x1), (3, .int x3), (5, .int x5)]) hx hb dX7_yearsNow_121 hl (k := 6) rfl rfl (by decide) rfl (fun ls hl => ?_)
          refine lv_iinc (v := (x5 + 1)) (lv' := [(5, .int (x5 + 1)), (4, .int (x4 + 1)), (8, .int v15), (7, .int v7), (6, .int v4), (0, .ref (ad_t 0)), (1, .int x1), (3, .int x3)]) hx hb dX7_yearsNow_124 hl (k := 7) rfl rfl (by decide) rfl (fun ls hl => ?_)
          refine lv_goto (tgt := 44) hx hb dX7_yearsNow_127 (by decide) ?_
          exact ih x1 x3 (x4 + 1) (x5 + 1) g18 g12 g8 t_saved H locs ls hP hD hS (lv_sub hl [5, 6, 7, 1, 0] rfl) hf

set_option maxHeartbeats 4000000 in
set_option maxRecDepth 100000 in
theorem b_X7_yearsNow_3 {p : Program} {l : Launch} {e : Env} {s : State} {m : MethodId} {args : Array Value} {below : List Frame} {meth : Method} {c : Code} {D : va_G} {cI cB : ClassId} {kK kV : Nat → Nat} {A : Nat → Prop} (F : Fx p m c s meth args cX7_yearsNow 9 RX7 wsX7_yearsNow (some .int) D cI cB kK kV A) {ad_t : Nat → Nat} {t_wills : Int32} {t_heirs : Int32} {t_kindOf : Nat → Int32} {t_worthOf : Nat → Int32} {t_changesOf : Nat → Int32} {t_changes : Int32} {t_heard : Int32} {t_heardHeir : Nat → Int32} {t_heardOne : Nat → Int32} {t_heardTwo : Nat → Int32} {t_heardMore : Nat → Int32} {t_pageLength : Int32} {t_page : Nat → Int32} {t_dealt : Nat → Int32} {t_farOf : Nat → Int32} {t_endMany : Int32} {t_endMost : Int32} {t_endLeast : Int32} {t_endFew : Int32} {t_isKept : Int32} {t_keptWill : Int32} {t_keptChanges : Int32} {t_keptHeard : Int32} {t_keptWorth : Nat → Int32} {t_keptThing : Nat → Int32} {t_keptChangesOf : Nat → Int32} {t_keptHeir : Nat → Int32} {t_keptOne : Nat → Int32} {t_keptTwo : Nat → Int32} {t_keptMore : Nat → Int32} {t_h : Int64} {rr : Int32} {g_t_thingOf : Nat → Int32} {g_t_says : Nat → Int32} {g_t_seedNow : Int64} {g_t_saved : Nat → Int32} : ∀ (n : Nat), ∀ (x1 : Int32) (x2 : Int32) (x3 : Int32) (x4 : Int32) (t_thingOf : Nat → Int32) (t_says : Nat → Int32) (t_seedNow : Int64) (t_saved : Nat → Int32) (H : Heap) (locs : List Loc) (ls : Array Slot), va_P D vwCl (w_X7 cI cB ad_t t_wills t_heirs t_kindOf t_worthOf t_thingOf t_changesOf t_changes t_heard t_heardHeir t_heardOne t_heardTwo t_heardMore t_pageLength t_page t_says t_dealt t_farOf t_endMany t_endMost t_endLeast t_endFew t_seedNow t_saved t_isKept t_keptWill t_keptChanges t_keptHeard t_keptWorth t_keptThing t_keptChangesOf t_keptHeir t_keptOne t_keptTwo t_keptMore t_h) H → va_D A (w_X7 cI cB ad_t t_wills t_heirs t_kindOf t_worthOf t_thingOf t_changesOf t_changes t_heard t_heardHeir t_heardOne t_heardTwo t_heardMore t_pageLength t_page t_says t_dealt t_farOf t_endMany t_endMost t_endLeast t_endFew t_seedNow t_saved t_isKept t_keptWill t_keptChanges t_keptHeard t_keptWorth t_keptThing t_keptChangesOf t_keptHeir t_keptOne t_keptTwo t_keptMore t_h) → va_S A s.heap H locs → lv_has ls 9 [(0, .ref (ad_t 0)), (1, .int x1), (2, .int x2), (3, .int x3), (4, .int x4)] → f_X7_yearsNow_3 t_heirs t_kindOf t_worthOf  n x1 x2 x3 x4 t_thingOf t_says t_seedNow t_saved = some (rr, g_t_thingOf, g_t_says, g_t_seedNow, g_t_saved) → W p l e rm_X7_yearsNow s m args below meth c H locs 0 0 (Zq D below args s A (w_X7 cI cB ad_t t_wills t_heirs t_kindOf t_worthOf g_t_thingOf t_changesOf t_changes t_heard t_heardHeir t_heardOne t_heardTwo t_heardMore t_pageLength t_page g_t_says t_dealt t_farOf t_endMany t_endMost t_endLeast t_endFew g_t_seedNow g_t_saved t_isKept t_keptWill t_keptChanges t_keptHeard t_keptWorth t_keptThing t_keptChangesOf t_keptHeir t_keptOne t_keptTwo t_keptMore t_h) (some (.int rr))) (F0 m 3 ls []) := by
  obtain ⟨hx, hb, hml, hown, hts, hrt, hlocks, hK, hA, hZ⟩ := id F
  intro n
  induction n with
  | zero =>
    intro x1 x2 x3 x4 t_thingOf t_says t_seedNow t_saved H locs ls hP hD hS hl hf
    cases hf
  | succ n ih =>
    intro x1 x2 x3 x4 t_thingOf t_says t_seedNow t_saved H locs ls hP hD hS hl hf
    refine lv_iload hx hb dX7_yearsNow_3 (lv_at hl 4 rfl) ?_
    refine lv_aload_n hx hb dX7_yearsNow_5 rfl (lv_at hl 0 rfl) ?_
    refine gf F hP in_X7_yearsNow_X7 0 rfl rfl 1 (by decide) 1 rfl rfl dX7_yearsNow_6 ?_
    refine lv_icmp_ge (tgt := 32) hx hb dX7_yearsNow_9 (by decide) (fun c1 => ?_) (fun c1 => ?_)
    · replace hf := (if_pos c1).symm.trans hf
      refine lv_aload_n hx hb dX7_yearsNow_32 rfl (lv_at hl 0 rfl) ?_
      refine lv_iload_n hx hb dX7_yearsNow_33 rfl (lv_at hl 2 rfl) ?_
      refine lv_i2l hx hb dX7_yearsNow_34 rfl ?_
      refine pf F hP hD hS in_X7_yearsNow_X7 tyX7 tyX7_ok nmX7 0 rfl rfl 21 (by decide) 4 rfl rfl rfl rfl (Nat.le_of_ble_eq_true rfl) dX7_yearsNow_35 (w_X7 cI cB ad_t t_wills t_heirs t_kindOf t_worthOf t_thingOf t_changesOf t_changes t_heard t_heardHeir t_heardOne t_heardTwo t_heardMore t_pageLength t_page t_says t_dealt t_farOf t_endMany t_endMost t_endLeast t_endFew (x2).toInt64 t_saved t_isKept t_keptWill t_keptChanges t_keptHeard t_keptWorth t_keptThing t_keptChangesOf t_keptHeir t_keptOne t_keptTwo t_keptMore t_h) rfl (fun H locs hP hD hS => ?_)
      refine lv_iconst (v := 0) hx hb dX7_yearsNow_38 (by decide) ?_
      refine lv_istore (lv' := [(4, .int 0), (0, .ref (ad_t 0)), (1, .int x1), (2, .int x2), (3, .int x3)]) hx hb dX7_yearsNow_39 hl (by decide) rfl (fun ls hl => ?_)
      refine lv_iconst (v := 0) hx hb dX7_yearsNow_41 (by decide) ?_
      refine lv_istore (lv' := [(5, .int 0), (4, .int 0), (0, .ref (ad_t 0)), (1, .int x1), (2, .int x2), (3, .int x3)]) hx hb dX7_yearsNow_42 hl (by decide) rfl (fun ls hl => ?_)
      exact b_X7_yearsNow_44 F 300 x1 x3 0 0 t_thingOf t_says (x2).toInt64 t_saved H locs ls hP hD hS (lv_sub hl [2, 3, 5, 1, 0] rfl) hf
    · replace hf := (if_neg c1).symm.trans hf
      refine lv_aload_n hx hb dX7_yearsNow_12 rfl (lv_at hl 0 rfl) ?_
      refine gf F hP in_X7_yearsNow_X7 0 rfl rfl 22 (by decide) 2 rfl rfl dX7_yearsNow_13 ?_
      refine lv_iload hx hb dX7_yearsNow_16 (lv_at hl 4 rfl) ?_
      refine lv_aload_n hx hb dX7_yearsNow_18 rfl (lv_at hl 0 rfl) ?_
      refine gf F hP in_X7_yearsNow_X7 0 rfl rfl 4 (by decide) 3 rfl rfl dX7_yearsNow_19 ?_
      refine lv_iload hx hb dX7_yearsNow_22 (lv_at hl 4 rfl) ?_
      obtain ⟨v2, ev2, hf⟩ := bnd hf
      refine ald F hP 3 rfl ev2 dX7_yearsNow_24 ?_
      obtain ⟨g3, eg3, hf⟩ := bnd hf
      refine ast F hP hD hS 13 rfl eg3 dX7_yearsNow_25 (w_X7 cI cB ad_t t_wills t_heirs t_kindOf t_worthOf t_thingOf t_changesOf t_changes t_heard t_heardHeir t_heardOne t_heardTwo t_heardMore t_pageLength t_page t_says t_dealt t_farOf t_endMany t_endMost t_endLeast t_endFew t_seedNow g3 t_isKept t_keptWill t_keptChanges t_keptHeard t_keptWorth t_keptThing t_keptChangesOf t_keptHeir t_keptOne t_keptTwo t_keptMore t_h) rfl (fun H locs hP hD hS => ?_)
      refine lv_iinc (v := (x4 + 1)) (lv' := [(4, .int (x4 + 1)), (0, .ref (ad_t 0)), (1, .int x1), (2, .int x2), (3, .int x3)]) hx hb dX7_yearsNow_26 hl (k := 4) rfl rfl (by decide) rfl (fun ls hl => ?_)
      refine lv_goto (tgt := 3) hx hb dX7_yearsNow_29 (by decide) ?_
      exact ih x1 x2 x3 (x4 + 1) t_thingOf t_says t_seedNow g3 H locs ls hP hD hS (lv_sub hl [1, 2, 3, 4, 0] rfl) hf

set_option maxHeartbeats 4000000 in
set_option maxRecDepth 100000 in
theorem k_X7_yearsNow (l : Launch) {D : va_G} {cI cB : ClassId} {kK kV : Nat → Nat} (ad_t : Nat → Nat) (t_wills : Int32) (t_heirs : Int32) (t_kindOf : Nat → Int32) (t_worthOf : Nat → Int32) (t_thingOf : Nat → Int32) (t_changesOf : Nat → Int32) (t_changes : Int32) (t_heard : Int32) (t_heardHeir : Nat → Int32) (t_heardOne : Nat → Int32) (t_heardTwo : Nat → Int32) (t_heardMore : Nat → Int32) (t_pageLength : Int32) (t_page : Nat → Int32) (t_says : Nat → Int32) (t_dealt : Nat → Int32) (t_farOf : Nat → Int32) (t_endMany : Int32) (t_endMost : Int32) (t_endLeast : Int32) (t_endFew : Int32) (t_seedNow : Int64) (t_saved : Nat → Int32) (t_isKept : Int32) (t_keptWill : Int32) (t_keptChanges : Int32) (t_keptHeard : Int32) (t_keptWorth : Nat → Int32) (t_keptThing : Nat → Int32) (t_keptChangesOf : Nat → Int32) (t_keptHeir : Nat → Int32) (t_keptOne : Nat → Int32) (t_keptTwo : Nat → Int32) (t_keptMore : Nat → Int32) (t_h : Int64) (x1 : Int32) (x2 : Int32) (x3 : Int32) {rr : Int32} {g_t_thingOf : Nat → Int32} {g_t_says : Nat → Int32} {g_t_seedNow : Int64} {g_t_saved : Nat → Int32} (hf : f_X7_yearsNow t_heirs t_kindOf t_worthOf t_thingOf t_says t_seedNow t_saved x1 x2 x3 = some (rr, g_t_thingOf, g_t_says, g_t_seedNow, g_t_saved)) : Ct l yX7_yearsNow wsX7_yearsNow rm_X7_yearsNow D cI cB kK kV [.ref (ad_t 0), .int x1, .int x2, .int x3] (w_X7 cI cB ad_t t_wills t_heirs t_kindOf t_worthOf t_thingOf t_changesOf t_changes t_heard t_heardHeir t_heardOne t_heardTwo t_heardMore t_pageLength t_page t_says t_dealt t_farOf t_endMany t_endMost t_endLeast t_endFew t_seedNow t_saved t_isKept t_keptWill t_keptChanges t_keptHeard t_keptWorth t_keptThing t_keptChangesOf t_keptHeir t_keptOne t_keptTwo t_keptMore t_h) (w_X7 cI cB ad_t t_wills t_heirs t_kindOf t_worthOf g_t_thingOf t_changesOf t_changes t_heard t_heardHeir t_heardOne t_heardTwo t_heardMore t_pageLength t_page g_t_says t_dealt t_farOf t_endMany t_endMost t_endLeast t_endFew g_t_seedNow g_t_saved t_isKept t_keptWill t_keptChanges t_keptHeard t_keptWorth t_keptThing t_keptChangesOf t_keptHeir t_keptOne t_keptTwo t_keptMore t_h) (some (.int rr)) := by
  refine Ct.of (cc := cX7_yearsNow) (maxL := 9) (ret := (some .int)) (by decide) rfl (Nat.le_of_ble_eq_true rfl) rfl ?_
  intro p e s m below meth c A ls F hP hD hS hl
  have hl : lv_has ls 9 [(0, .ref (ad_t 0)), (1, .int x1), (2, .int x2), (3, .int x3)] := hl
  obtain ⟨hx, hb, hml, hown, hts, hrt, hlocks, hK, hA, hZ⟩ := id F
  obtain ⟨H, hH⟩ : ∃ H, H = s.heap := ⟨_, rfl⟩
  obtain ⟨locs, hLo⟩ : ∃ q : List Loc, q = [] := ⟨_, rfl⟩
  refine (?_ : W p l e rm_X7_yearsNow s m _ below meth c s.heap [] 0 0 _ _)
  rw [← hH, ← hLo]
  rw [← hH] at hP
  have hS : va_S A s.heap H locs := by rw [hH, hLo]; exact hS
  refine lv_iconst (v := 0) hx hb dX7_yearsNow_0 (by decide) ?_
  refine lv_istore (lv' := [(4, .int 0), (0, .ref (ad_t 0)), (1, .int x1), (2, .int x2), (3, .int x3)]) hx hb dX7_yearsNow_1 hl (by decide) rfl (fun ls hl => ?_)
  exact b_X7_yearsNow_3 F 300 x1 x2 x3 0 t_thingOf t_says t_seedNow t_saved H locs ls hP hD hS (lv_sub hl [1, 2, 3, 4, 0] rfl) hf

/-! X7_years -/
def rm_X7_years : Room := { frames := 4, cells := 0, slots := 0, locals := 96 }
theorem in_X7_years_X7 : ∀ w ∈ u_ws RX7 TX7 35, w ∈ wsX7_years := fun _ h => List.mem_cons_of_mem _ (List.mem_append_right _ (h))
theorem nd_X7_years : yX7_years.cls = RX7 ∧ yX7_years.cls ≠ "java/lang/invoke/MethodHandle" ∧ yX7_years.cls ≠ "java/lang/invoke/VarHandle" ∧ (parseMethodDescriptor yX7_years.desc).map (fun d => d.parameters.length) = some 3 := by decide +kernel
def f_X7_years (t_heirs : Int32) (t_kindOf : Nat → Int32) (t_worthOf : Nat → Int32) (t_thingOf : Nat → Int32) (t_says : Nat → Int32) (t_seedNow : Int64) (t_saved : Nat → Int32) (x1 : Int32) (x2 : Int32) (x3 : Int32) : Option (Int32 × (Nat → Int32) × (Nat → Int32) × Int64 × (Nat → Int32)) := (f_X7_within x1 1 60).bind (fun v1 => (if v1 = 0 then some ((-102), t_thingOf, t_says, t_seedNow, t_saved) else (if x2 < 0 then some ((-102), t_thingOf, t_says, t_seedNow, t_saved) else (f_X7_within x3 0 2).bind (fun v5 => (if v5 = 0 then some ((-102), t_thingOf, t_says, t_seedNow, t_saved) else (if t_heirs = 0 then some ((-103), t_thingOf, t_says, t_seedNow, t_saved) else (f_X7_yearsNow t_heirs t_kindOf t_worthOf t_thingOf t_says t_seedNow t_saved x1 x2 x3).bind (fun (v9, g10, g11, g12, g13) => some (v9, g10, g11, g12, g13))))))))
set_option maxHeartbeats 4000000 in
set_option maxRecDepth 100000 in
theorem k_X7_years (l : Launch) {D : va_G} {cI cB : ClassId} {kK kV : Nat → Nat} (ad_t : Nat → Nat) (t_wills : Int32) (t_heirs : Int32) (t_kindOf : Nat → Int32) (t_worthOf : Nat → Int32) (t_thingOf : Nat → Int32) (t_changesOf : Nat → Int32) (t_changes : Int32) (t_heard : Int32) (t_heardHeir : Nat → Int32) (t_heardOne : Nat → Int32) (t_heardTwo : Nat → Int32) (t_heardMore : Nat → Int32) (t_pageLength : Int32) (t_page : Nat → Int32) (t_says : Nat → Int32) (t_dealt : Nat → Int32) (t_farOf : Nat → Int32) (t_endMany : Int32) (t_endMost : Int32) (t_endLeast : Int32) (t_endFew : Int32) (t_seedNow : Int64) (t_saved : Nat → Int32) (t_isKept : Int32) (t_keptWill : Int32) (t_keptChanges : Int32) (t_keptHeard : Int32) (t_keptWorth : Nat → Int32) (t_keptThing : Nat → Int32) (t_keptChangesOf : Nat → Int32) (t_keptHeir : Nat → Int32) (t_keptOne : Nat → Int32) (t_keptTwo : Nat → Int32) (t_keptMore : Nat → Int32) (t_h : Int64) (x1 : Int32) (x2 : Int32) (x3 : Int32) {rr : Int32} {g_t_thingOf : Nat → Int32} {g_t_says : Nat → Int32} {g_t_seedNow : Int64} {g_t_saved : Nat → Int32} (hf : f_X7_years t_heirs t_kindOf t_worthOf t_thingOf t_says t_seedNow t_saved x1 x2 x3 = some (rr, g_t_thingOf, g_t_says, g_t_seedNow, g_t_saved)) : Ct l yX7_years wsX7_years rm_X7_years D cI cB kK kV [.ref (ad_t 0), .int x1, .int x2, .int x3] (w_X7 cI cB ad_t t_wills t_heirs t_kindOf t_worthOf t_thingOf t_changesOf t_changes t_heard t_heardHeir t_heardOne t_heardTwo t_heardMore t_pageLength t_page t_says t_dealt t_farOf t_endMany t_endMost t_endLeast t_endFew t_seedNow t_saved t_isKept t_keptWill t_keptChanges t_keptHeard t_keptWorth t_keptThing t_keptChangesOf t_keptHeir t_keptOne t_keptTwo t_keptMore t_h) (w_X7 cI cB ad_t t_wills t_heirs t_kindOf t_worthOf g_t_thingOf t_changesOf t_changes t_heard t_heardHeir t_heardOne t_heardTwo t_heardMore t_pageLength t_page g_t_says t_dealt t_farOf t_endMany t_endMost t_endLeast t_endFew g_t_seedNow g_t_saved t_isKept t_keptWill t_keptChanges t_keptHeard t_keptWorth t_keptThing t_keptChangesOf t_keptHeir t_keptOne t_keptTwo t_keptMore t_h) (some (.int rr)) := by
  refine Ct.of (cc := cX7_years) (maxL := 4) (ret := (some .int)) (by decide) rfl (Nat.le_of_ble_eq_true rfl) rfl ?_
  intro p e s m below meth c A ls F hP hD hS hl
  have hl : lv_has ls 4 [(0, .ref (ad_t 0)), (1, .int x1), (2, .int x2), (3, .int x3)] := hl
  obtain ⟨hx, hb, hml, hown, hts, hrt, hlocks, hK, hA, hZ⟩ := id F
  obtain ⟨H, hH⟩ : ∃ H, H = s.heap := ⟨_, rfl⟩
  obtain ⟨locs, hLo⟩ : ∃ q : List Loc, q = [] := ⟨_, rfl⟩
  refine (?_ : W p l e rm_X7_years s m _ below meth c s.heap [] 0 0 _ _)
  rw [← hH, ← hLo]
  rw [← hH] at hP
  have hS : va_S A s.heap H locs := by rw [hH, hLo]; exact hS
  refine lv_iload_n hx hb dX7_years_0 rfl (lv_at hl 1 rfl) ?_
  refine lv_iconst (v := 1) hx hb dX7_years_1 (by decide) ?_
  refine lv_bipush (v := 60) hx hb dX7_years_2 (by decide) ?_
  obtain ⟨v1, e2, hf⟩ := bnd hf
  refine cS F hP hD hS (k_X7_within l  x1 1 60 e2) gX7_years_X7_within rfl ⟨rfl, rfl⟩ nd_X7_within ⟨Nat.le_of_ble_eq_true rfl, Nat.le_of_ble_eq_true rfl⟩ rfl hl.1 rfl (Nat.le_of_ble_eq_true rfl) dX7_years_4 (pmE (w_X7 cI cB ad_t t_wills t_heirs t_kindOf t_worthOf t_thingOf t_changesOf t_changes t_heard t_heardHeir t_heardOne t_heardTwo t_heardMore t_pageLength t_page t_says t_dealt t_farOf t_endMany t_endMost t_endLeast t_endFew t_seedNow t_saved t_isKept t_keptWill t_keptChanges t_keptHeard t_keptWorth t_keptThing t_keptChangesOf t_keptHeir t_keptOne t_keptTwo t_keptMore t_h)) (pmE (w_X7 cI cB ad_t t_wills t_heirs t_kindOf t_worthOf t_thingOf t_changesOf t_changes t_heard t_heardHeir t_heardOne t_heardTwo t_heardMore t_pageLength t_page t_says t_dealt t_farOf t_endMany t_endMost t_endLeast t_endFew t_seedNow t_saved t_isKept t_keptWill t_keptChanges t_keptHeard t_keptWorth t_keptThing t_keptChangesOf t_keptHeir t_keptOne t_keptTwo t_keptMore t_h)) (fun H locs hP hD hS => ?_)
  refine lv_if_eq (tgt := 23) hx hb dX7_years_7 (by decide) (fun c3 => ?_) (fun c3 => ?_)
  · replace hf := (if_pos c3).symm.trans hf
    refine lv_bipush (v := (-102)) hx hb dX7_years_23 (by decide) ?_
    replace hf : (some ((-102), t_thingOf, t_says, t_seedNow, t_saved) : Option (Int32 × (Nat → Int32) × (Nat → Int32) × Int64 × (Nat → Int32))) = some (rr, g_t_thingOf, g_t_says, g_t_seedNow, g_t_saved) := hf
    cases hf
    exact ret_i F hP hS dX7_years_25
  · replace hf := (if_neg c3).symm.trans hf
    refine lv_iload_n hx hb dX7_years_10 rfl (lv_at hl 2 rfl) ?_
    refine lv_if_lt (tgt := 23) hx hb dX7_years_11 (by decide) (fun c4 => ?_) (fun c4 => ?_)
    · replace hf := (if_pos c4).symm.trans hf
      refine lv_bipush (v := (-102)) hx hb dX7_years_23 (by decide) ?_
      replace hf : (some ((-102), t_thingOf, t_says, t_seedNow, t_saved) : Option (Int32 × (Nat → Int32) × (Nat → Int32) × Int64 × (Nat → Int32))) = some (rr, g_t_thingOf, g_t_says, g_t_seedNow, g_t_saved) := hf
      cases hf
      exact ret_i F hP hS dX7_years_25
    · replace hf := (if_neg c4).symm.trans hf
      refine lv_iload_n hx hb dX7_years_14 rfl (lv_at hl 3 rfl) ?_
      refine lv_iconst (v := 0) hx hb dX7_years_15 (by decide) ?_
      refine lv_iconst (v := 2) hx hb dX7_years_16 (by decide) ?_
      obtain ⟨v5, e6, hf⟩ := bnd hf
      refine cS F hP hD hS (k_X7_within l  x3 0 2 e6) gX7_years_X7_within rfl ⟨rfl, rfl⟩ nd_X7_within ⟨Nat.le_of_ble_eq_true rfl, Nat.le_of_ble_eq_true rfl⟩ rfl hl.1 rfl (Nat.le_of_ble_eq_true rfl) dX7_years_17 (pmE (w_X7 cI cB ad_t t_wills t_heirs t_kindOf t_worthOf t_thingOf t_changesOf t_changes t_heard t_heardHeir t_heardOne t_heardTwo t_heardMore t_pageLength t_page t_says t_dealt t_farOf t_endMany t_endMost t_endLeast t_endFew t_seedNow t_saved t_isKept t_keptWill t_keptChanges t_keptHeard t_keptWorth t_keptThing t_keptChangesOf t_keptHeir t_keptOne t_keptTwo t_keptMore t_h)) (pmE (w_X7 cI cB ad_t t_wills t_heirs t_kindOf t_worthOf t_thingOf t_changesOf t_changes t_heard t_heardHeir t_heardOne t_heardTwo t_heardMore t_pageLength t_page t_says t_dealt t_farOf t_endMany t_endMost t_endLeast t_endFew t_seedNow t_saved t_isKept t_keptWill t_keptChanges t_keptHeard t_keptWorth t_keptThing t_keptChangesOf t_keptHeir t_keptOne t_keptTwo t_keptMore t_h)) (fun H locs hP hD hS => ?_)
      refine lv_if_ne (tgt := 26) hx hb dX7_years_20 (by decide) (fun c7 => ?_) (fun c7 => ?_)
      · replace hf := (if_neg c7).symm.trans hf
        refine lv_aload_n hx hb dX7_years_26 rfl (lv_at hl 0 rfl) ?_
        refine gf F hP in_X7_years_X7 0 rfl rfl 1 (by decide) 1 rfl rfl dX7_years_27 ?_
        refine lv_if_ne (tgt := 38) hx hb dX7_years_30 (by decide) (fun c8 => ?_) (fun c8 => ?_)
        · replace hf := (if_neg c8).symm.trans hf
          refine lv_aload_n hx hb dX7_years_38 rfl (lv_at hl 0 rfl) ?_
          refine lv_iload_n hx hb dX7_years_39 rfl (lv_at hl 1 rfl) ?_
          refine lv_iload_n hx hb dX7_years_40 rfl (lv_at hl 2 rfl) ?_
          refine lv_iload_n hx hb dX7_years_41 rfl (lv_at hl 3 rfl) ?_
          obtain ⟨⟨v9, g10, g11, g12, g13⟩, e14, hf⟩ := bnd hf
          refine cV F hP hD hS (k_X7_yearsNow l ad_t t_wills t_heirs t_kindOf t_worthOf t_thingOf t_changesOf t_changes t_heard t_heardHeir t_heardOne t_heardTwo t_heardMore t_pageLength t_page t_says t_dealt t_farOf t_endMany t_endMost t_endLeast t_endFew t_seedNow t_saved t_isKept t_keptWill t_keptChanges t_keptHeard t_keptWorth t_keptThing t_keptChangesOf t_keptHeir t_keptOne t_keptTwo t_keptMore t_h x1 x2 x3 e14) gX7_years_X7_yearsNow rfl ⟨rfl, rfl⟩ nd_X7_yearsNow ⟨Nat.le_of_ble_eq_true rfl, Nat.le_of_ble_eq_true rfl⟩ 0 7 rfl rfl rfl hl.1 rfl (Nat.le_of_ble_eq_true rfl) dX7_years_42 (pm0 (w_X7 cI cB ad_t t_wills t_heirs t_kindOf t_worthOf t_thingOf t_changesOf t_changes t_heard t_heardHeir t_heardOne t_heardTwo t_heardMore t_pageLength t_page t_says t_dealt t_farOf t_endMany t_endMost t_endLeast t_endFew t_seedNow t_saved t_isKept t_keptWill t_keptChanges t_keptHeard t_keptWorth t_keptThing t_keptChangesOf t_keptHeir t_keptOne t_keptTwo t_keptMore t_h)) (pm0 (w_X7 cI cB ad_t t_wills t_heirs t_kindOf t_worthOf g10 t_changesOf t_changes t_heard t_heardHeir t_heardOne t_heardTwo t_heardMore t_pageLength t_page g11 t_dealt t_farOf t_endMany t_endMost t_endLeast t_endFew g12 g13 t_isKept t_keptWill t_keptChanges t_keptHeard t_keptWorth t_keptThing t_keptChangesOf t_keptHeir t_keptOne t_keptTwo t_keptMore t_h)) (fun H locs hP hD hS => ?_)
          replace hf : (some (v9, g10, g11, g12, g13) : Option (Int32 × (Nat → Int32) × (Nat → Int32) × Int64 × (Nat → Int32))) = some (rr, g_t_thingOf, g_t_says, g_t_seedNow, g_t_saved) := hf
          cases hf
          exact ret_i F hP hS dX7_years_45
        · replace hf := (if_pos c8).symm.trans hf
          refine lv_bipush (v := (-103)) hx hb dX7_years_33 (by decide) ?_
          refine lv_goto (tgt := 45) hx hb dX7_years_35 (by decide) ?_
          replace hf : (some ((-103), t_thingOf, t_says, t_seedNow, t_saved) : Option (Int32 × (Nat → Int32) × (Nat → Int32) × Int64 × (Nat → Int32))) = some (rr, g_t_thingOf, g_t_says, g_t_seedNow, g_t_saved) := hf
          cases hf
          exact ret_i F hP hS dX7_years_45
      · replace hf := (if_pos c7).symm.trans hf
        refine lv_bipush (v := (-102)) hx hb dX7_years_23 (by decide) ?_
        replace hf : (some ((-102), t_thingOf, t_says, t_seedNow, t_saved) : Option (Int32 × (Nat → Int32) × (Nat → Int32) × Int64 × (Nat → Int32))) = some (rr, g_t_thingOf, g_t_says, g_t_seedNow, g_t_saved) := hf
        cases hf
        exact ret_i F hP hS dX7_years_25

/-! X7_image -/
def rm_X7_image : Room := { frames := 0, cells := 0, slots := 0, locals := 0 }
theorem in_X7_image_X7 : ∀ w ∈ u_ws RX7 TX7 35, w ∈ wsX7_image := fun _ h => List.mem_cons_of_mem _ (List.mem_append_right _ (h))
theorem nd_X7_image : yX7_image.cls = RX7 ∧ yX7_image.cls ≠ "java/lang/invoke/MethodHandle" ∧ yX7_image.cls ≠ "java/lang/invoke/VarHandle" ∧ (parseMethodDescriptor yX7_image.desc).map (fun d => d.parameters.length) = some 0 := by decide +kernel
def f_X7_image_104 (t_wills : Int32) (t_heirs : Int32) (t_worthOf : Nat → Int32) (t_thingOf : Nat → Int32) (t_changesOf : Nat → Int32) (t_changes : Int32) (t_heard : Int32) (t_heardHeir : Nat → Int32) (t_heardOne : Nat → Int32) (t_heardTwo : Nat → Int32) (t_heardMore : Nat → Int32)  : Nat → Int32 → Int32 → Int32 → Int32 → Int32 → (Nat → Int32) → (Nat → Int32) → (Nat → Int32) → (Nat → Int32) → (Nat → Int32) → (Nat → Int32) → (Nat → Int32) → Option (Int32 × Int32 × Int32 × Int32 × Int32 × (Nat → Int32) × (Nat → Int32) × (Nat → Int32) × (Nat → Int32) × (Nat → Int32) × (Nat → Int32) × (Nat → Int32))
  | 0, _, _, _, _, _, _, _, _, _, _, _, _ => none
  | n + 1, x1, t_isKept, t_keptWill, t_keptChanges, t_keptHeard, t_keptWorth, t_keptThing, t_keptChangesOf, t_keptHeir, t_keptOne, t_keptTwo, t_keptMore => (if 6 ≤ x1 then some (t_changes, t_isKept, t_keptWill, t_keptChanges, t_keptHeard, t_keptWorth, t_keptThing, t_keptChangesOf, t_keptHeir, t_keptOne, t_keptTwo, t_keptMore) else (rd t_heardHeir 6 x1).bind (fun v2 => (wr t_keptHeir 6 x1 v2).bind (fun g3 => (rd t_heardOne 6 x1).bind (fun v4 => (wr t_keptOne 6 x1 v4).bind (fun g5 => (rd t_heardTwo 6 x1).bind (fun v6 => (wr t_keptTwo 6 x1 v6).bind (fun g7 => (rd t_heardMore 6 x1).bind (fun v8 => (wr t_keptMore 6 x1 v8).bind (fun g9 => f_X7_image_104 t_wills t_heirs t_worthOf t_thingOf t_changesOf t_changes t_heard t_heardHeir t_heardOne t_heardTwo t_heardMore  n (x1 + 1) t_isKept t_keptWill t_keptChanges t_keptHeard t_keptWorth t_keptThing t_keptChangesOf g3 g5 g7 g9)))))))))
def f_X7_image_67 (t_wills : Int32) (t_heirs : Int32) (t_worthOf : Nat → Int32) (t_thingOf : Nat → Int32) (t_changesOf : Nat → Int32) (t_changes : Int32) (t_heard : Int32) (t_heardHeir : Nat → Int32) (t_heardOne : Nat → Int32) (t_heardTwo : Nat → Int32) (t_heardMore : Nat → Int32)  : Nat → Int32 → Int32 → Int32 → Int32 → Int32 → (Nat → Int32) → (Nat → Int32) → (Nat → Int32) → (Nat → Int32) → (Nat → Int32) → (Nat → Int32) → (Nat → Int32) → Option (Int32 × Int32 × Int32 × Int32 × Int32 × (Nat → Int32) × (Nat → Int32) × (Nat → Int32) × (Nat → Int32) × (Nat → Int32) × (Nat → Int32) × (Nat → Int32))
  | 0, _, _, _, _, _, _, _, _, _, _, _, _ => none
  | n + 1, x1, t_isKept, t_keptWill, t_keptChanges, t_keptHeard, t_keptWorth, t_keptThing, t_keptChangesOf, t_keptHeir, t_keptOne, t_keptTwo, t_keptMore => (if 4 ≤ x1 then f_X7_image_104 t_wills t_heirs t_worthOf t_thingOf t_changesOf t_changes t_heard t_heardHeir t_heardOne t_heardTwo t_heardMore 300 0 t_isKept t_keptWill t_keptChanges t_keptHeard t_keptWorth t_keptThing t_keptChangesOf t_keptHeir t_keptOne t_keptTwo t_keptMore else (rd t_thingOf 4 x1).bind (fun v2 => (wr t_keptThing 4 x1 v2).bind (fun g3 => (rd t_changesOf 4 x1).bind (fun v4 => (wr t_keptChangesOf 4 x1 v4).bind (fun g5 => f_X7_image_67 t_wills t_heirs t_worthOf t_thingOf t_changesOf t_changes t_heard t_heardHeir t_heardOne t_heardTwo t_heardMore  n (x1 + 1) t_isKept t_keptWill t_keptChanges t_keptHeard t_keptWorth g3 g5 t_keptHeir t_keptOne t_keptTwo t_keptMore)))))
def f_X7_image_41 (t_wills : Int32) (t_heirs : Int32) (t_worthOf : Nat → Int32) (t_thingOf : Nat → Int32) (t_changesOf : Nat → Int32) (t_changes : Int32) (t_heard : Int32) (t_heardHeir : Nat → Int32) (t_heardOne : Nat → Int32) (t_heardTwo : Nat → Int32) (t_heardMore : Nat → Int32)  : Nat → Int32 → Int32 → Int32 → Int32 → Int32 → (Nat → Int32) → (Nat → Int32) → (Nat → Int32) → (Nat → Int32) → (Nat → Int32) → (Nat → Int32) → (Nat → Int32) → Option (Int32 × Int32 × Int32 × Int32 × Int32 × (Nat → Int32) × (Nat → Int32) × (Nat → Int32) × (Nat → Int32) × (Nat → Int32) × (Nat → Int32) × (Nat → Int32))
  | 0, _, _, _, _, _, _, _, _, _, _, _, _ => none
  | n + 1, x1, t_isKept, t_keptWill, t_keptChanges, t_keptHeard, t_keptWorth, t_keptThing, t_keptChangesOf, t_keptHeir, t_keptOne, t_keptTwo, t_keptMore => (if 16 ≤ x1 then f_X7_image_67 t_wills t_heirs t_worthOf t_thingOf t_changesOf t_changes t_heard t_heardHeir t_heardOne t_heardTwo t_heardMore 300 0 t_isKept t_keptWill t_keptChanges t_keptHeard t_keptWorth t_keptThing t_keptChangesOf t_keptHeir t_keptOne t_keptTwo t_keptMore else (rd t_worthOf 16 x1).bind (fun v2 => (wr t_keptWorth 16 x1 v2).bind (fun g3 => f_X7_image_41 t_wills t_heirs t_worthOf t_thingOf t_changesOf t_changes t_heard t_heardHeir t_heardOne t_heardTwo t_heardMore  n (x1 + 1) t_isKept t_keptWill t_keptChanges t_keptHeard g3 t_keptThing t_keptChangesOf t_keptHeir t_keptOne t_keptTwo t_keptMore)))
def f_X7_image (t_wills : Int32) (t_heirs : Int32) (t_worthOf : Nat → Int32) (t_thingOf : Nat → Int32) (t_changesOf : Nat → Int32) (t_changes : Int32) (t_heard : Int32) (t_heardHeir : Nat → Int32) (t_heardOne : Nat → Int32) (t_heardTwo : Nat → Int32) (t_heardMore : Nat → Int32) (t_isKept : Int32) (t_keptWill : Int32) (t_keptChanges : Int32) (t_keptHeard : Int32) (t_keptWorth : Nat → Int32) (t_keptThing : Nat → Int32) (t_keptChangesOf : Nat → Int32) (t_keptHeir : Nat → Int32) (t_keptOne : Nat → Int32) (t_keptTwo : Nat → Int32) (t_keptMore : Nat → Int32)  : Option (Int32 × Int32 × Int32 × Int32 × Int32 × (Nat → Int32) × (Nat → Int32) × (Nat → Int32) × (Nat → Int32) × (Nat → Int32) × (Nat → Int32) × (Nat → Int32)) := (if t_heirs = 0 then some ((-103), t_isKept, t_keptWill, t_keptChanges, t_keptHeard, t_keptWorth, t_keptThing, t_keptChangesOf, t_keptHeir, t_keptOne, t_keptTwo, t_keptMore) else f_X7_image_41 t_wills t_heirs t_worthOf t_thingOf t_changesOf t_changes t_heard t_heardHeir t_heardOne t_heardTwo t_heardMore 300 0 1 t_wills t_changes t_heard t_keptWorth t_keptThing t_keptChangesOf t_keptHeir t_keptOne t_keptTwo t_keptMore)
set_option maxHeartbeats 4000000 in
set_option maxRecDepth 100000 in
theorem b_X7_image_104 {p : Program} {l : Launch} {e : Env} {s : State} {m : MethodId} {args : Array Value} {below : List Frame} {meth : Method} {c : Code} {D : va_G} {cI cB : ClassId} {kK kV : Nat → Nat} {A : Nat → Prop} (F : Fx p m c s meth args cX7_image 2 RX7 wsX7_image (some .int) D cI cB kK kV A) {ad_t : Nat → Nat} {t_wills : Int32} {t_heirs : Int32} {t_kindOf : Nat → Int32} {t_worthOf : Nat → Int32} {t_thingOf : Nat → Int32} {t_changesOf : Nat → Int32} {t_changes : Int32} {t_heard : Int32} {t_heardHeir : Nat → Int32} {t_heardOne : Nat → Int32} {t_heardTwo : Nat → Int32} {t_heardMore : Nat → Int32} {t_pageLength : Int32} {t_page : Nat → Int32} {t_says : Nat → Int32} {t_dealt : Nat → Int32} {t_farOf : Nat → Int32} {t_endMany : Int32} {t_endMost : Int32} {t_endLeast : Int32} {t_endFew : Int32} {t_seedNow : Int64} {t_saved : Nat → Int32} {t_h : Int64} {rr : Int32} {g_t_isKept : Int32} {g_t_keptWill : Int32} {g_t_keptChanges : Int32} {g_t_keptHeard : Int32} {g_t_keptWorth : Nat → Int32} {g_t_keptThing : Nat → Int32} {g_t_keptChangesOf : Nat → Int32} {g_t_keptHeir : Nat → Int32} {g_t_keptOne : Nat → Int32} {g_t_keptTwo : Nat → Int32} {g_t_keptMore : Nat → Int32} : ∀ (n : Nat), ∀ (x1 : Int32) (t_isKept : Int32) (t_keptWill : Int32) (t_keptChanges : Int32) (t_keptHeard : Int32) (t_keptWorth : Nat → Int32) (t_keptThing : Nat → Int32) (t_keptChangesOf : Nat → Int32) (t_keptHeir : Nat → Int32) (t_keptOne : Nat → Int32) (t_keptTwo : Nat → Int32) (t_keptMore : Nat → Int32) (H : Heap) (locs : List Loc) (ls : Array Slot), va_P D vwCl (w_X7 cI cB ad_t t_wills t_heirs t_kindOf t_worthOf t_thingOf t_changesOf t_changes t_heard t_heardHeir t_heardOne t_heardTwo t_heardMore t_pageLength t_page t_says t_dealt t_farOf t_endMany t_endMost t_endLeast t_endFew t_seedNow t_saved t_isKept t_keptWill t_keptChanges t_keptHeard t_keptWorth t_keptThing t_keptChangesOf t_keptHeir t_keptOne t_keptTwo t_keptMore t_h) H → va_D A (w_X7 cI cB ad_t t_wills t_heirs t_kindOf t_worthOf t_thingOf t_changesOf t_changes t_heard t_heardHeir t_heardOne t_heardTwo t_heardMore t_pageLength t_page t_says t_dealt t_farOf t_endMany t_endMost t_endLeast t_endFew t_seedNow t_saved t_isKept t_keptWill t_keptChanges t_keptHeard t_keptWorth t_keptThing t_keptChangesOf t_keptHeir t_keptOne t_keptTwo t_keptMore t_h) → va_S A s.heap H locs → lv_has ls 2 [(0, .ref (ad_t 0)), (1, .int x1)] → f_X7_image_104 t_wills t_heirs t_worthOf t_thingOf t_changesOf t_changes t_heard t_heardHeir t_heardOne t_heardTwo t_heardMore  n x1 t_isKept t_keptWill t_keptChanges t_keptHeard t_keptWorth t_keptThing t_keptChangesOf t_keptHeir t_keptOne t_keptTwo t_keptMore = some (rr, g_t_isKept, g_t_keptWill, g_t_keptChanges, g_t_keptHeard, g_t_keptWorth, g_t_keptThing, g_t_keptChangesOf, g_t_keptHeir, g_t_keptOne, g_t_keptTwo, g_t_keptMore) → W p l e rm_X7_image s m args below meth c H locs 0 0 (Zq D below args s A (w_X7 cI cB ad_t t_wills t_heirs t_kindOf t_worthOf t_thingOf t_changesOf t_changes t_heard t_heardHeir t_heardOne t_heardTwo t_heardMore t_pageLength t_page t_says t_dealt t_farOf t_endMany t_endMost t_endLeast t_endFew t_seedNow t_saved g_t_isKept g_t_keptWill g_t_keptChanges g_t_keptHeard g_t_keptWorth g_t_keptThing g_t_keptChangesOf g_t_keptHeir g_t_keptOne g_t_keptTwo g_t_keptMore t_h) (some (.int rr))) (F0 m 104 ls []) := by
  obtain ⟨hx, hb, hml, hown, hts, hrt, hlocks, hK, hA, hZ⟩ := id F
  intro n
  induction n with
  | zero =>
    intro x1 t_isKept t_keptWill t_keptChanges t_keptHeard t_keptWorth t_keptThing t_keptChangesOf t_keptHeir t_keptOne t_keptTwo t_keptMore H locs ls hP hD hS hl hf
    cases hf
  | succ n ih =>
    intro x1 t_isKept t_keptWill t_keptChanges t_keptHeard t_keptWorth t_keptThing t_keptChangesOf t_keptHeir t_keptOne t_keptTwo t_keptMore H locs ls hP hD hS hl hf
    refine lv_iload_n hx hb dX7_image_104 rfl (lv_at hl 1 rfl) ?_
    refine lv_bipush (v := 6) hx hb dX7_image_105 (by decide) ?_
    refine lv_icmp_ge (tgt := 164) hx hb dX7_image_107 (by decide) (fun c1 => ?_) (fun c1 => ?_)
    · replace hf := (if_pos c1).symm.trans hf
      refine lv_aload_n hx hb dX7_image_164 rfl (lv_at hl 0 rfl) ?_
      refine gf F hP in_X7_image_X7 0 rfl rfl 6 (by decide) 5 rfl rfl dX7_image_165 ?_
      replace hf : (some (t_changes, t_isKept, t_keptWill, t_keptChanges, t_keptHeard, t_keptWorth, t_keptThing, t_keptChangesOf, t_keptHeir, t_keptOne, t_keptTwo, t_keptMore) : Option (Int32 × Int32 × Int32 × Int32 × Int32 × (Nat → Int32) × (Nat → Int32) × (Nat → Int32) × (Nat → Int32) × (Nat → Int32) × (Nat → Int32) × (Nat → Int32))) = some (rr, g_t_isKept, g_t_keptWill, g_t_keptChanges, g_t_keptHeard, g_t_keptWorth, g_t_keptThing, g_t_keptChangesOf, g_t_keptHeir, g_t_keptOne, g_t_keptTwo, g_t_keptMore) := hf
      cases hf
      exact ret_i F hP hS dX7_image_168
    · replace hf := (if_neg c1).symm.trans hf
      refine lv_aload_n hx hb dX7_image_110 rfl (lv_at hl 0 rfl) ?_
      refine gf F hP in_X7_image_X7 0 rfl rfl 30 (by decide) 15 rfl rfl dX7_image_111 ?_
      refine lv_iload_n hx hb dX7_image_114 rfl (lv_at hl 1 rfl) ?_
      refine lv_aload_n hx hb dX7_image_115 rfl (lv_at hl 0 rfl) ?_
      refine gf F hP in_X7_image_X7 0 rfl rfl 8 (by decide) 16 rfl rfl dX7_image_116 ?_
      refine lv_iload_n hx hb dX7_image_119 rfl (lv_at hl 1 rfl) ?_
      obtain ⟨v2, ev2, hf⟩ := bnd hf
      refine ald F hP 5 rfl ev2 dX7_image_120 ?_
      obtain ⟨g3, eg3, hf⟩ := bnd hf
      refine ast F hP hD hS 17 rfl eg3 dX7_image_121 (w_X7 cI cB ad_t t_wills t_heirs t_kindOf t_worthOf t_thingOf t_changesOf t_changes t_heard t_heardHeir t_heardOne t_heardTwo t_heardMore t_pageLength t_page t_says t_dealt t_farOf t_endMany t_endMost t_endLeast t_endFew t_seedNow t_saved t_isKept t_keptWill t_keptChanges t_keptHeard t_keptWorth t_keptThing t_keptChangesOf g3 t_keptOne t_keptTwo t_keptMore t_h) rfl (fun H locs hP hD hS => ?_)
      refine lv_aload_n hx hb dX7_image_122 rfl (lv_at hl 0 rfl) ?_
      refine gf F hP in_X7_image_X7 0 rfl rfl 31 (by decide) 17 rfl rfl dX7_image_123 ?_
      refine lv_iload_n hx hb dX7_image_126 rfl (lv_at hl 1 rfl) ?_
      refine lv_aload_n hx hb dX7_image_127 rfl (lv_at hl 0 rfl) ?_
      refine gf F hP in_X7_image_X7 0 rfl rfl 9 (by decide) 18 rfl rfl dX7_image_128 ?_
      refine lv_iload_n hx hb dX7_image_131 rfl (lv_at hl 1 rfl) ?_
      obtain ⟨v4, ev4, hf⟩ := bnd hf
      refine ald F hP 6 rfl ev4 dX7_image_132 ?_
      obtain ⟨g5, eg5, hf⟩ := bnd hf
      refine ast F hP hD hS 18 rfl eg5 dX7_image_133 (w_X7 cI cB ad_t t_wills t_heirs t_kindOf t_worthOf t_thingOf t_changesOf t_changes t_heard t_heardHeir t_heardOne t_heardTwo t_heardMore t_pageLength t_page t_says t_dealt t_farOf t_endMany t_endMost t_endLeast t_endFew t_seedNow t_saved t_isKept t_keptWill t_keptChanges t_keptHeard t_keptWorth t_keptThing t_keptChangesOf g3 g5 t_keptTwo t_keptMore t_h) rfl (fun H locs hP hD hS => ?_)
      refine lv_aload_n hx hb dX7_image_134 rfl (lv_at hl 0 rfl) ?_
      refine gf F hP in_X7_image_X7 0 rfl rfl 32 (by decide) 19 rfl rfl dX7_image_135 ?_
      refine lv_iload_n hx hb dX7_image_138 rfl (lv_at hl 1 rfl) ?_
      refine lv_aload_n hx hb dX7_image_139 rfl (lv_at hl 0 rfl) ?_
      refine gf F hP in_X7_image_X7 0 rfl rfl 10 (by decide) 20 rfl rfl dX7_image_140 ?_
      refine lv_iload_n hx hb dX7_image_143 rfl (lv_at hl 1 rfl) ?_
      obtain ⟨v6, ev6, hf⟩ := bnd hf
      refine ald F hP 7 rfl ev6 dX7_image_144 ?_
      obtain ⟨g7, eg7, hf⟩ := bnd hf
      refine ast F hP hD hS 19 rfl eg7 dX7_image_145 (w_X7 cI cB ad_t t_wills t_heirs t_kindOf t_worthOf t_thingOf t_changesOf t_changes t_heard t_heardHeir t_heardOne t_heardTwo t_heardMore t_pageLength t_page t_says t_dealt t_farOf t_endMany t_endMost t_endLeast t_endFew t_seedNow t_saved t_isKept t_keptWill t_keptChanges t_keptHeard t_keptWorth t_keptThing t_keptChangesOf g3 g5 g7 t_keptMore t_h) rfl (fun H locs hP hD hS => ?_)
      refine lv_aload_n hx hb dX7_image_146 rfl (lv_at hl 0 rfl) ?_
      refine gf F hP in_X7_image_X7 0 rfl rfl 33 (by decide) 21 rfl rfl dX7_image_147 ?_
      refine lv_iload_n hx hb dX7_image_150 rfl (lv_at hl 1 rfl) ?_
      refine lv_aload_n hx hb dX7_image_151 rfl (lv_at hl 0 rfl) ?_
      refine gf F hP in_X7_image_X7 0 rfl rfl 11 (by decide) 22 rfl rfl dX7_image_152 ?_
      refine lv_iload_n hx hb dX7_image_155 rfl (lv_at hl 1 rfl) ?_
      obtain ⟨v8, ev8, hf⟩ := bnd hf
      refine ald F hP 8 rfl ev8 dX7_image_156 ?_
      obtain ⟨g9, eg9, hf⟩ := bnd hf
      refine ast F hP hD hS 20 rfl eg9 dX7_image_157 (w_X7 cI cB ad_t t_wills t_heirs t_kindOf t_worthOf t_thingOf t_changesOf t_changes t_heard t_heardHeir t_heardOne t_heardTwo t_heardMore t_pageLength t_page t_says t_dealt t_farOf t_endMany t_endMost t_endLeast t_endFew t_seedNow t_saved t_isKept t_keptWill t_keptChanges t_keptHeard t_keptWorth t_keptThing t_keptChangesOf g3 g5 g7 g9 t_h) rfl (fun H locs hP hD hS => ?_)
      refine lv_iinc (v := (x1 + 1)) (lv' := [(1, .int (x1 + 1)), (0, .ref (ad_t 0))]) hx hb dX7_image_158 hl (k := 1) rfl rfl (by decide) rfl (fun ls hl => ?_)
      refine lv_goto (tgt := 104) hx hb dX7_image_161 (by decide) ?_
      exact ih (x1 + 1) t_isKept t_keptWill t_keptChanges t_keptHeard t_keptWorth t_keptThing t_keptChangesOf g3 g5 g7 g9 H locs ls hP hD hS (lv_sub hl [1, 0] rfl) hf

set_option maxHeartbeats 4000000 in
set_option maxRecDepth 100000 in
theorem b_X7_image_67 {p : Program} {l : Launch} {e : Env} {s : State} {m : MethodId} {args : Array Value} {below : List Frame} {meth : Method} {c : Code} {D : va_G} {cI cB : ClassId} {kK kV : Nat → Nat} {A : Nat → Prop} (F : Fx p m c s meth args cX7_image 2 RX7 wsX7_image (some .int) D cI cB kK kV A) {ad_t : Nat → Nat} {t_wills : Int32} {t_heirs : Int32} {t_kindOf : Nat → Int32} {t_worthOf : Nat → Int32} {t_thingOf : Nat → Int32} {t_changesOf : Nat → Int32} {t_changes : Int32} {t_heard : Int32} {t_heardHeir : Nat → Int32} {t_heardOne : Nat → Int32} {t_heardTwo : Nat → Int32} {t_heardMore : Nat → Int32} {t_pageLength : Int32} {t_page : Nat → Int32} {t_says : Nat → Int32} {t_dealt : Nat → Int32} {t_farOf : Nat → Int32} {t_endMany : Int32} {t_endMost : Int32} {t_endLeast : Int32} {t_endFew : Int32} {t_seedNow : Int64} {t_saved : Nat → Int32} {t_h : Int64} {rr : Int32} {g_t_isKept : Int32} {g_t_keptWill : Int32} {g_t_keptChanges : Int32} {g_t_keptHeard : Int32} {g_t_keptWorth : Nat → Int32} {g_t_keptThing : Nat → Int32} {g_t_keptChangesOf : Nat → Int32} {g_t_keptHeir : Nat → Int32} {g_t_keptOne : Nat → Int32} {g_t_keptTwo : Nat → Int32} {g_t_keptMore : Nat → Int32} : ∀ (n : Nat), ∀ (x1 : Int32) (t_isKept : Int32) (t_keptWill : Int32) (t_keptChanges : Int32) (t_keptHeard : Int32) (t_keptWorth : Nat → Int32) (t_keptThing : Nat → Int32) (t_keptChangesOf : Nat → Int32) (t_keptHeir : Nat → Int32) (t_keptOne : Nat → Int32) (t_keptTwo : Nat → Int32) (t_keptMore : Nat → Int32) (H : Heap) (locs : List Loc) (ls : Array Slot), va_P D vwCl (w_X7 cI cB ad_t t_wills t_heirs t_kindOf t_worthOf t_thingOf t_changesOf t_changes t_heard t_heardHeir t_heardOne t_heardTwo t_heardMore t_pageLength t_page t_says t_dealt t_farOf t_endMany t_endMost t_endLeast t_endFew t_seedNow t_saved t_isKept t_keptWill t_keptChanges t_keptHeard t_keptWorth t_keptThing t_keptChangesOf t_keptHeir t_keptOne t_keptTwo t_keptMore t_h) H → va_D A (w_X7 cI cB ad_t t_wills t_heirs t_kindOf t_worthOf t_thingOf t_changesOf t_changes t_heard t_heardHeir t_heardOne t_heardTwo t_heardMore t_pageLength t_page t_says t_dealt t_farOf t_endMany t_endMost t_endLeast t_endFew t_seedNow t_saved t_isKept t_keptWill t_keptChanges t_keptHeard t_keptWorth t_keptThing t_keptChangesOf t_keptHeir t_keptOne t_keptTwo t_keptMore t_h) → va_S A s.heap H locs → lv_has ls 2 [(0, .ref (ad_t 0)), (1, .int x1)] → f_X7_image_67 t_wills t_heirs t_worthOf t_thingOf t_changesOf t_changes t_heard t_heardHeir t_heardOne t_heardTwo t_heardMore  n x1 t_isKept t_keptWill t_keptChanges t_keptHeard t_keptWorth t_keptThing t_keptChangesOf t_keptHeir t_keptOne t_keptTwo t_keptMore = some (rr, g_t_isKept, g_t_keptWill, g_t_keptChanges, g_t_keptHeard, g_t_keptWorth, g_t_keptThing, g_t_keptChangesOf, g_t_keptHeir, g_t_keptOne, g_t_keptTwo, g_t_keptMore) → W p l e rm_X7_image s m args below meth c H locs 0 0 (Zq D below args s A (w_X7 cI cB ad_t t_wills t_heirs t_kindOf t_worthOf t_thingOf t_changesOf t_changes t_heard t_heardHeir t_heardOne t_heardTwo t_heardMore t_pageLength t_page t_says t_dealt t_farOf t_endMany t_endMost t_endLeast t_endFew t_seedNow t_saved g_t_isKept g_t_keptWill g_t_keptChanges g_t_keptHeard g_t_keptWorth g_t_keptThing g_t_keptChangesOf g_t_keptHeir g_t_keptOne g_t_keptTwo g_t_keptMore t_h) (some (.int rr))) (F0 m 67 ls []) := by
  obtain ⟨hx, hb, hml, hown, hts, hrt, hlocks, hK, hA, hZ⟩ := id F
  intro n
  induction n with
  | zero =>
    intro x1 t_isKept t_keptWill t_keptChanges t_keptHeard t_keptWorth t_keptThing t_keptChangesOf t_keptHeir t_keptOne t_keptTwo t_keptMore H locs ls hP hD hS hl hf
    cases hf
  | succ n ih =>
    intro x1 t_isKept t_keptWill t_keptChanges t_keptHeard t_keptWorth t_keptThing t_keptChangesOf t_keptHeir t_keptOne t_keptTwo t_keptMore H locs ls hP hD hS hl hf
    refine lv_iload_n hx hb dX7_image_67 rfl (lv_at hl 1 rfl) ?_
    refine lv_iconst (v := 4) hx hb dX7_image_68 (by decide) ?_
    refine lv_icmp_ge (tgt := 102) hx hb dX7_image_69 (by decide) (fun c1 => ?_) (fun c1 => ?_)
    · replace hf := (if_pos c1).symm.trans hf
      refine lv_iconst (v := 0) hx hb dX7_image_102 (by decide) ?_
      refine lv_istore_n (lv' := [(1, .int 0), (0, .ref (ad_t 0))]) hx hb dX7_image_103 rfl hl (by decide) rfl (fun ls hl => ?_)
      exact b_X7_image_104 F 300 0 t_isKept t_keptWill t_keptChanges t_keptHeard t_keptWorth t_keptThing t_keptChangesOf t_keptHeir t_keptOne t_keptTwo t_keptMore H locs ls hP hD hS (lv_sub hl [1, 0] rfl) hf
    · replace hf := (if_neg c1).symm.trans hf
      refine lv_aload_n hx hb dX7_image_72 rfl (lv_at hl 0 rfl) ?_
      refine gf F hP in_X7_image_X7 0 rfl rfl 28 (by decide) 11 rfl rfl dX7_image_73 ?_
      refine lv_iload_n hx hb dX7_image_76 rfl (lv_at hl 1 rfl) ?_
      refine lv_aload_n hx hb dX7_image_77 rfl (lv_at hl 0 rfl) ?_
      refine gf F hP in_X7_image_X7 0 rfl rfl 4 (by decide) 12 rfl rfl dX7_image_78 ?_
      refine lv_iload_n hx hb dX7_image_81 rfl (lv_at hl 1 rfl) ?_
      obtain ⟨v2, ev2, hf⟩ := bnd hf
      refine ald F hP 3 rfl ev2 dX7_image_82 ?_
      obtain ⟨g3, eg3, hf⟩ := bnd hf
      refine ast F hP hD hS 15 rfl eg3 dX7_image_83 (w_X7 cI cB ad_t t_wills t_heirs t_kindOf t_worthOf t_thingOf t_changesOf t_changes t_heard t_heardHeir t_heardOne t_heardTwo t_heardMore t_pageLength t_page t_says t_dealt t_farOf t_endMany t_endMost t_endLeast t_endFew t_seedNow t_saved t_isKept t_keptWill t_keptChanges t_keptHeard t_keptWorth g3 t_keptChangesOf t_keptHeir t_keptOne t_keptTwo t_keptMore t_h) rfl (fun H locs hP hD hS => ?_)
      refine lv_aload_n hx hb dX7_image_84 rfl (lv_at hl 0 rfl) ?_
      refine gf F hP in_X7_image_X7 0 rfl rfl 29 (by decide) 13 rfl rfl dX7_image_85 ?_
      refine lv_iload_n hx hb dX7_image_88 rfl (lv_at hl 1 rfl) ?_
      refine lv_aload_n hx hb dX7_image_89 rfl (lv_at hl 0 rfl) ?_
      refine gf F hP in_X7_image_X7 0 rfl rfl 5 (by decide) 14 rfl rfl dX7_image_90 ?_
      refine lv_iload_n hx hb dX7_image_93 rfl (lv_at hl 1 rfl) ?_
      obtain ⟨v4, ev4, hf⟩ := bnd hf
      refine ald F hP 4 rfl ev4 dX7_image_94 ?_
      obtain ⟨g5, eg5, hf⟩ := bnd hf
      refine ast F hP hD hS 16 rfl eg5 dX7_image_95 (w_X7 cI cB ad_t t_wills t_heirs t_kindOf t_worthOf t_thingOf t_changesOf t_changes t_heard t_heardHeir t_heardOne t_heardTwo t_heardMore t_pageLength t_page t_says t_dealt t_farOf t_endMany t_endMost t_endLeast t_endFew t_seedNow t_saved t_isKept t_keptWill t_keptChanges t_keptHeard t_keptWorth g3 g5 t_keptHeir t_keptOne t_keptTwo t_keptMore t_h) rfl (fun H locs hP hD hS => ?_)
      refine lv_iinc (v := (x1 + 1)) (lv' := [(1, .int (x1 + 1)), (0, .ref (ad_t 0))]) hx hb dX7_image_96 hl (k := 1) rfl rfl (by decide) rfl (fun ls hl => ?_)
      refine lv_goto (tgt := 67) hx hb dX7_image_99 (by decide) ?_
      exact ih (x1 + 1) t_isKept t_keptWill t_keptChanges t_keptHeard t_keptWorth g3 g5 t_keptHeir t_keptOne t_keptTwo t_keptMore H locs ls hP hD hS (lv_sub hl [1, 0] rfl) hf

set_option maxHeartbeats 4000000 in
set_option maxRecDepth 100000 in
theorem b_X7_image_41 {p : Program} {l : Launch} {e : Env} {s : State} {m : MethodId} {args : Array Value} {below : List Frame} {meth : Method} {c : Code} {D : va_G} {cI cB : ClassId} {kK kV : Nat → Nat} {A : Nat → Prop} (F : Fx p m c s meth args cX7_image 2 RX7 wsX7_image (some .int) D cI cB kK kV A) {ad_t : Nat → Nat} {t_wills : Int32} {t_heirs : Int32} {t_kindOf : Nat → Int32} {t_worthOf : Nat → Int32} {t_thingOf : Nat → Int32} {t_changesOf : Nat → Int32} {t_changes : Int32} {t_heard : Int32} {t_heardHeir : Nat → Int32} {t_heardOne : Nat → Int32} {t_heardTwo : Nat → Int32} {t_heardMore : Nat → Int32} {t_pageLength : Int32} {t_page : Nat → Int32} {t_says : Nat → Int32} {t_dealt : Nat → Int32} {t_farOf : Nat → Int32} {t_endMany : Int32} {t_endMost : Int32} {t_endLeast : Int32} {t_endFew : Int32} {t_seedNow : Int64} {t_saved : Nat → Int32} {t_h : Int64} {rr : Int32} {g_t_isKept : Int32} {g_t_keptWill : Int32} {g_t_keptChanges : Int32} {g_t_keptHeard : Int32} {g_t_keptWorth : Nat → Int32} {g_t_keptThing : Nat → Int32} {g_t_keptChangesOf : Nat → Int32} {g_t_keptHeir : Nat → Int32} {g_t_keptOne : Nat → Int32} {g_t_keptTwo : Nat → Int32} {g_t_keptMore : Nat → Int32} : ∀ (n : Nat), ∀ (x1 : Int32) (t_isKept : Int32) (t_keptWill : Int32) (t_keptChanges : Int32) (t_keptHeard : Int32) (t_keptWorth : Nat → Int32) (t_keptThing : Nat → Int32) (t_keptChangesOf : Nat → Int32) (t_keptHeir : Nat → Int32) (t_keptOne : Nat → Int32) (t_keptTwo : Nat → Int32) (t_keptMore : Nat → Int32) (H : Heap) (locs : List Loc) (ls : Array Slot), va_P D vwCl (w_X7 cI cB ad_t t_wills t_heirs t_kindOf t_worthOf t_thingOf t_changesOf t_changes t_heard t_heardHeir t_heardOne t_heardTwo t_heardMore t_pageLength t_page t_says t_dealt t_farOf t_endMany t_endMost t_endLeast t_endFew t_seedNow t_saved t_isKept t_keptWill t_keptChanges t_keptHeard t_keptWorth t_keptThing t_keptChangesOf t_keptHeir t_keptOne t_keptTwo t_keptMore t_h) H → va_D A (w_X7 cI cB ad_t t_wills t_heirs t_kindOf t_worthOf t_thingOf t_changesOf t_changes t_heard t_heardHeir t_heardOne t_heardTwo t_heardMore t_pageLength t_page t_says t_dealt t_farOf t_endMany t_endMost t_endLeast t_endFew t_seedNow t_saved t_isKept t_keptWill t_keptChanges t_keptHeard t_keptWorth t_keptThing t_keptChangesOf t_keptHeir t_keptOne t_keptTwo t_keptMore t_h) → va_S A s.heap H locs → lv_has ls 2 [(0, .ref (ad_t 0)), (1, .int x1)] → f_X7_image_41 t_wills t_heirs t_worthOf t_thingOf t_changesOf t_changes t_heard t_heardHeir t_heardOne t_heardTwo t_heardMore  n x1 t_isKept t_keptWill t_keptChanges t_keptHeard t_keptWorth t_keptThing t_keptChangesOf t_keptHeir t_keptOne t_keptTwo t_keptMore = some (rr, g_t_isKept, g_t_keptWill, g_t_keptChanges, g_t_keptHeard, g_t_keptWorth, g_t_keptThing, g_t_keptChangesOf, g_t_keptHeir, g_t_keptOne, g_t_keptTwo, g_t_keptMore) → W p l e rm_X7_image s m args below meth c H locs 0 0 (Zq D below args s A (w_X7 cI cB ad_t t_wills t_heirs t_kindOf t_worthOf t_thingOf t_changesOf t_changes t_heard t_heardHeir t_heardOne t_heardTwo t_heardMore t_pageLength t_page t_says t_dealt t_farOf t_endMany t_endMost t_endLeast t_endFew t_seedNow t_saved g_t_isKept g_t_keptWill g_t_keptChanges g_t_keptHeard g_t_keptWorth g_t_keptThing g_t_keptChangesOf g_t_keptHeir g_t_keptOne g_t_keptTwo g_t_keptMore t_h) (some (.int rr))) (F0 m 41 ls []) := by
  obtain ⟨hx, hb, hml, hown, hts, hrt, hlocks, hK, hA, hZ⟩ := id F
  intro n
  induction n with
  | zero =>
    intro x1 t_isKept t_keptWill t_keptChanges t_keptHeard t_keptWorth t_keptThing t_keptChangesOf t_keptHeir t_keptOne t_keptTwo t_keptMore H locs ls hP hD hS hl hf
    cases hf
  | succ n ih =>
    intro x1 t_isKept t_keptWill t_keptChanges t_keptHeard t_keptWorth t_keptThing t_keptChangesOf t_keptHeir t_keptOne t_keptTwo t_keptMore H locs ls hP hD hS hl hf
    refine lv_iload_n hx hb dX7_image_41 rfl (lv_at hl 1 rfl) ?_
    refine lv_bipush (v := 16) hx hb dX7_image_42 (by decide) ?_
    refine lv_icmp_ge (tgt := 65) hx hb dX7_image_44 (by decide) (fun c1 => ?_) (fun c1 => ?_)
    · replace hf := (if_pos c1).symm.trans hf
      refine lv_iconst (v := 0) hx hb dX7_image_65 (by decide) ?_
      refine lv_istore_n (lv' := [(1, .int 0), (0, .ref (ad_t 0))]) hx hb dX7_image_66 rfl hl (by decide) rfl (fun ls hl => ?_)
      exact b_X7_image_67 F 300 0 t_isKept t_keptWill t_keptChanges t_keptHeard t_keptWorth t_keptThing t_keptChangesOf t_keptHeir t_keptOne t_keptTwo t_keptMore H locs ls hP hD hS (lv_sub hl [1, 0] rfl) hf
    · replace hf := (if_neg c1).symm.trans hf
      refine lv_aload_n hx hb dX7_image_47 rfl (lv_at hl 0 rfl) ?_
      refine gf F hP in_X7_image_X7 0 rfl rfl 27 (by decide) 9 rfl rfl dX7_image_48 ?_
      refine lv_iload_n hx hb dX7_image_51 rfl (lv_at hl 1 rfl) ?_
      refine lv_aload_n hx hb dX7_image_52 rfl (lv_at hl 0 rfl) ?_
      refine gf F hP in_X7_image_X7 0 rfl rfl 3 (by decide) 10 rfl rfl dX7_image_53 ?_
      refine lv_iload_n hx hb dX7_image_56 rfl (lv_at hl 1 rfl) ?_
      obtain ⟨v2, ev2, hf⟩ := bnd hf
      refine ald F hP 2 rfl ev2 dX7_image_57 ?_
      obtain ⟨g3, eg3, hf⟩ := bnd hf
      refine ast F hP hD hS 14 rfl eg3 dX7_image_58 (w_X7 cI cB ad_t t_wills t_heirs t_kindOf t_worthOf t_thingOf t_changesOf t_changes t_heard t_heardHeir t_heardOne t_heardTwo t_heardMore t_pageLength t_page t_says t_dealt t_farOf t_endMany t_endMost t_endLeast t_endFew t_seedNow t_saved t_isKept t_keptWill t_keptChanges t_keptHeard g3 t_keptThing t_keptChangesOf t_keptHeir t_keptOne t_keptTwo t_keptMore t_h) rfl (fun H locs hP hD hS => ?_)
      refine lv_iinc (v := (x1 + 1)) (lv' := [(1, .int (x1 + 1)), (0, .ref (ad_t 0))]) hx hb dX7_image_59 hl (k := 1) rfl rfl (by decide) rfl (fun ls hl => ?_)
      refine lv_goto (tgt := 41) hx hb dX7_image_62 (by decide) ?_
      exact ih (x1 + 1) t_isKept t_keptWill t_keptChanges t_keptHeard g3 t_keptThing t_keptChangesOf t_keptHeir t_keptOne t_keptTwo t_keptMore H locs ls hP hD hS (lv_sub hl [1, 0] rfl) hf

set_option maxHeartbeats 4000000 in
set_option maxRecDepth 100000 in
theorem k_X7_image (l : Launch) {D : va_G} {cI cB : ClassId} {kK kV : Nat → Nat} (ad_t : Nat → Nat) (t_wills : Int32) (t_heirs : Int32) (t_kindOf : Nat → Int32) (t_worthOf : Nat → Int32) (t_thingOf : Nat → Int32) (t_changesOf : Nat → Int32) (t_changes : Int32) (t_heard : Int32) (t_heardHeir : Nat → Int32) (t_heardOne : Nat → Int32) (t_heardTwo : Nat → Int32) (t_heardMore : Nat → Int32) (t_pageLength : Int32) (t_page : Nat → Int32) (t_says : Nat → Int32) (t_dealt : Nat → Int32) (t_farOf : Nat → Int32) (t_endMany : Int32) (t_endMost : Int32) (t_endLeast : Int32) (t_endFew : Int32) (t_seedNow : Int64) (t_saved : Nat → Int32) (t_isKept : Int32) (t_keptWill : Int32) (t_keptChanges : Int32) (t_keptHeard : Int32) (t_keptWorth : Nat → Int32) (t_keptThing : Nat → Int32) (t_keptChangesOf : Nat → Int32) (t_keptHeir : Nat → Int32) (t_keptOne : Nat → Int32) (t_keptTwo : Nat → Int32) (t_keptMore : Nat → Int32) (t_h : Int64)  {rr : Int32} {g_t_isKept : Int32} {g_t_keptWill : Int32} {g_t_keptChanges : Int32} {g_t_keptHeard : Int32} {g_t_keptWorth : Nat → Int32} {g_t_keptThing : Nat → Int32} {g_t_keptChangesOf : Nat → Int32} {g_t_keptHeir : Nat → Int32} {g_t_keptOne : Nat → Int32} {g_t_keptTwo : Nat → Int32} {g_t_keptMore : Nat → Int32} (hf : f_X7_image t_wills t_heirs t_worthOf t_thingOf t_changesOf t_changes t_heard t_heardHeir t_heardOne t_heardTwo t_heardMore t_isKept t_keptWill t_keptChanges t_keptHeard t_keptWorth t_keptThing t_keptChangesOf t_keptHeir t_keptOne t_keptTwo t_keptMore = some (rr, g_t_isKept, g_t_keptWill, g_t_keptChanges, g_t_keptHeard, g_t_keptWorth, g_t_keptThing, g_t_keptChangesOf, g_t_keptHeir, g_t_keptOne, g_t_keptTwo, g_t_keptMore)) : Ct l yX7_image wsX7_image rm_X7_image D cI cB kK kV [.ref (ad_t 0)] (w_X7 cI cB ad_t t_wills t_heirs t_kindOf t_worthOf t_thingOf t_changesOf t_changes t_heard t_heardHeir t_heardOne t_heardTwo t_heardMore t_pageLength t_page t_says t_dealt t_farOf t_endMany t_endMost t_endLeast t_endFew t_seedNow t_saved t_isKept t_keptWill t_keptChanges t_keptHeard t_keptWorth t_keptThing t_keptChangesOf t_keptHeir t_keptOne t_keptTwo t_keptMore t_h) (w_X7 cI cB ad_t t_wills t_heirs t_kindOf t_worthOf t_thingOf t_changesOf t_changes t_heard t_heardHeir t_heardOne t_heardTwo t_heardMore t_pageLength t_page t_says t_dealt t_farOf t_endMany t_endMost t_endLeast t_endFew t_seedNow t_saved g_t_isKept g_t_keptWill g_t_keptChanges g_t_keptHeard g_t_keptWorth g_t_keptThing g_t_keptChangesOf g_t_keptHeir g_t_keptOne g_t_keptTwo g_t_keptMore t_h) (some (.int rr)) := by
  refine Ct.of (cc := cX7_image) (maxL := 2) (ret := (some .int)) (by decide) rfl (Nat.le_of_ble_eq_true rfl) rfl ?_
  intro p e s m below meth c A ls F hP hD hS hl
  have hl : lv_has ls 2 [(0, .ref (ad_t 0))] := hl
  obtain ⟨hx, hb, hml, hown, hts, hrt, hlocks, hK, hA, hZ⟩ := id F
  obtain ⟨H, hH⟩ : ∃ H, H = s.heap := ⟨_, rfl⟩
  obtain ⟨locs, hLo⟩ : ∃ q : List Loc, q = [] := ⟨_, rfl⟩
  refine (?_ : W p l e rm_X7_image s m _ below meth c s.heap [] 0 0 _ _)
  rw [← hH, ← hLo]
  rw [← hH] at hP
  have hS : va_S A s.heap H locs := by rw [hH, hLo]; exact hS
  refine lv_aload_n hx hb dX7_image_0 rfl (lv_at hl 0 rfl) ?_
  refine gf F hP in_X7_image_X7 0 rfl rfl 1 (by decide) 1 rfl rfl dX7_image_1 ?_
  refine lv_if_ne (tgt := 10) hx hb dX7_image_4 (by decide) (fun c1 => ?_) (fun c1 => ?_)
  · replace hf := (if_neg c1).symm.trans hf
    refine lv_aload_n hx hb dX7_image_10 rfl (lv_at hl 0 rfl) ?_
    refine lv_iconst (v := 1) hx hb dX7_image_11 (by decide) ?_
    refine pf F hP hD hS in_X7_image_X7 tyX7 tyX7_ok nmX7 0 rfl rfl 23 (by decide) 2 rfl rfl rfl rfl (Nat.le_of_ble_eq_true rfl) dX7_image_12 (w_X7 cI cB ad_t t_wills t_heirs t_kindOf t_worthOf t_thingOf t_changesOf t_changes t_heard t_heardHeir t_heardOne t_heardTwo t_heardMore t_pageLength t_page t_says t_dealt t_farOf t_endMany t_endMost t_endLeast t_endFew t_seedNow t_saved 1 t_keptWill t_keptChanges t_keptHeard t_keptWorth t_keptThing t_keptChangesOf t_keptHeir t_keptOne t_keptTwo t_keptMore t_h) rfl (fun H locs hP hD hS => ?_)
    refine lv_aload_n hx hb dX7_image_15 rfl (lv_at hl 0 rfl) ?_
    refine lv_aload_n hx hb dX7_image_16 rfl (lv_at hl 0 rfl) ?_
    refine gf F hP in_X7_image_X7 0 rfl rfl 0 (by decide) 3 rfl rfl dX7_image_17 ?_
    refine pf F hP hD hS in_X7_image_X7 tyX7 tyX7_ok nmX7 0 rfl rfl 24 (by decide) 4 rfl rfl rfl rfl (Nat.le_of_ble_eq_true rfl) dX7_image_20 (w_X7 cI cB ad_t t_wills t_heirs t_kindOf t_worthOf t_thingOf t_changesOf t_changes t_heard t_heardHeir t_heardOne t_heardTwo t_heardMore t_pageLength t_page t_says t_dealt t_farOf t_endMany t_endMost t_endLeast t_endFew t_seedNow t_saved 1 t_wills t_keptChanges t_keptHeard t_keptWorth t_keptThing t_keptChangesOf t_keptHeir t_keptOne t_keptTwo t_keptMore t_h) rfl (fun H locs hP hD hS => ?_)
    refine lv_aload_n hx hb dX7_image_23 rfl (lv_at hl 0 rfl) ?_
    refine lv_aload_n hx hb dX7_image_24 rfl (lv_at hl 0 rfl) ?_
    refine gf F hP in_X7_image_X7 0 rfl rfl 6 (by decide) 5 rfl rfl dX7_image_25 ?_
    refine pf F hP hD hS in_X7_image_X7 tyX7 tyX7_ok nmX7 0 rfl rfl 25 (by decide) 6 rfl rfl rfl rfl (Nat.le_of_ble_eq_true rfl) dX7_image_28 (w_X7 cI cB ad_t t_wills t_heirs t_kindOf t_worthOf t_thingOf t_changesOf t_changes t_heard t_heardHeir t_heardOne t_heardTwo t_heardMore t_pageLength t_page t_says t_dealt t_farOf t_endMany t_endMost t_endLeast t_endFew t_seedNow t_saved 1 t_wills t_changes t_keptHeard t_keptWorth t_keptThing t_keptChangesOf t_keptHeir t_keptOne t_keptTwo t_keptMore t_h) rfl (fun H locs hP hD hS => ?_)
    refine lv_aload_n hx hb dX7_image_31 rfl (lv_at hl 0 rfl) ?_
    refine lv_aload_n hx hb dX7_image_32 rfl (lv_at hl 0 rfl) ?_
    refine gf F hP in_X7_image_X7 0 rfl rfl 7 (by decide) 7 rfl rfl dX7_image_33 ?_
    refine pf F hP hD hS in_X7_image_X7 tyX7 tyX7_ok nmX7 0 rfl rfl 26 (by decide) 8 rfl rfl rfl rfl (Nat.le_of_ble_eq_true rfl) dX7_image_36 (w_X7 cI cB ad_t t_wills t_heirs t_kindOf t_worthOf t_thingOf t_changesOf t_changes t_heard t_heardHeir t_heardOne t_heardTwo t_heardMore t_pageLength t_page t_says t_dealt t_farOf t_endMany t_endMost t_endLeast t_endFew t_seedNow t_saved 1 t_wills t_changes t_heard t_keptWorth t_keptThing t_keptChangesOf t_keptHeir t_keptOne t_keptTwo t_keptMore t_h) rfl (fun H locs hP hD hS => ?_)
    refine lv_iconst (v := 0) hx hb dX7_image_39 (by decide) ?_
    refine lv_istore_n (lv' := [(1, .int 0), (0, .ref (ad_t 0))]) hx hb dX7_image_40 rfl hl (by decide) rfl (fun ls hl => ?_)
    exact b_X7_image_41 F 300 0 1 t_wills t_changes t_heard t_keptWorth t_keptThing t_keptChangesOf t_keptHeir t_keptOne t_keptTwo t_keptMore H locs ls hP hD hS (lv_sub hl [1, 0] rfl) hf
  · replace hf := (if_pos c1).symm.trans hf
    refine lv_bipush (v := (-103)) hx hb dX7_image_7 (by decide) ?_
    replace hf : (some ((-103), t_isKept, t_keptWill, t_keptChanges, t_keptHeard, t_keptWorth, t_keptThing, t_keptChangesOf, t_keptHeir, t_keptOne, t_keptTwo, t_keptMore) : Option (Int32 × Int32 × Int32 × Int32 × Int32 × (Nat → Int32) × (Nat → Int32) × (Nat → Int32) × (Nat → Int32) × (Nat → Int32) × (Nat → Int32) × (Nat → Int32))) = some (rr, g_t_isKept, g_t_keptWill, g_t_keptChanges, g_t_keptHeard, g_t_keptWorth, g_t_keptThing, g_t_keptChangesOf, g_t_keptHeir, g_t_keptOne, g_t_keptTwo, g_t_keptMore) := hf
    cases hf
    exact ret_i F hP hS dX7_image_9

/-! X7_restore -/
def rm_X7_restore : Room := { frames := 0, cells := 0, slots := 0, locals := 0 }
theorem in_X7_restore_X7 : ∀ w ∈ u_ws RX7 TX7 35, w ∈ wsX7_restore := fun _ h => List.mem_cons_of_mem _ (List.mem_append_right _ (h))
theorem nd_X7_restore : yX7_restore.cls = RX7 ∧ yX7_restore.cls ≠ "java/lang/invoke/MethodHandle" ∧ yX7_restore.cls ≠ "java/lang/invoke/VarHandle" ∧ (parseMethodDescriptor yX7_restore.desc).map (fun d => d.parameters.length) = some 0 := by decide +kernel
def f_X7_restore_102 (t_wills : Int32) (t_isKept : Int32) (t_keptWill : Int32) (t_keptChanges : Int32) (t_keptHeard : Int32) (t_keptWorth : Nat → Int32) (t_keptThing : Nat → Int32) (t_keptChangesOf : Nat → Int32) (t_keptHeir : Nat → Int32) (t_keptOne : Nat → Int32) (t_keptTwo : Nat → Int32) (t_keptMore : Nat → Int32)  : Nat → Int32 → (Nat → Int32) → (Nat → Int32) → (Nat → Int32) → Int32 → Int32 → (Nat → Int32) → (Nat → Int32) → (Nat → Int32) → (Nat → Int32) → Option (Int32 × (Nat → Int32) × (Nat → Int32) × (Nat → Int32) × Int32 × Int32 × (Nat → Int32) × (Nat → Int32) × (Nat → Int32) × (Nat → Int32))
  | 0, _, _, _, _, _, _, _, _, _, _ => none
  | n + 1, x1, t_worthOf, t_thingOf, t_changesOf, t_changes, t_heard, t_heardHeir, t_heardOne, t_heardTwo, t_heardMore => (if 6 ≤ x1 then some (t_changes, t_worthOf, t_thingOf, t_changesOf, t_changes, t_heard, t_heardHeir, t_heardOne, t_heardTwo, t_heardMore) else (rd t_keptHeir 6 x1).bind (fun v2 => (wr t_heardHeir 6 x1 v2).bind (fun g3 => (rd t_keptOne 6 x1).bind (fun v4 => (wr t_heardOne 6 x1 v4).bind (fun g5 => (rd t_keptTwo 6 x1).bind (fun v6 => (wr t_heardTwo 6 x1 v6).bind (fun g7 => (rd t_keptMore 6 x1).bind (fun v8 => (wr t_heardMore 6 x1 v8).bind (fun g9 => f_X7_restore_102 t_wills t_isKept t_keptWill t_keptChanges t_keptHeard t_keptWorth t_keptThing t_keptChangesOf t_keptHeir t_keptOne t_keptTwo t_keptMore  n (x1 + 1) t_worthOf t_thingOf t_changesOf t_changes t_heard g3 g5 g7 g9)))))))))
def f_X7_restore_65 (t_wills : Int32) (t_isKept : Int32) (t_keptWill : Int32) (t_keptChanges : Int32) (t_keptHeard : Int32) (t_keptWorth : Nat → Int32) (t_keptThing : Nat → Int32) (t_keptChangesOf : Nat → Int32) (t_keptHeir : Nat → Int32) (t_keptOne : Nat → Int32) (t_keptTwo : Nat → Int32) (t_keptMore : Nat → Int32)  : Nat → Int32 → (Nat → Int32) → (Nat → Int32) → (Nat → Int32) → Int32 → Int32 → (Nat → Int32) → (Nat → Int32) → (Nat → Int32) → (Nat → Int32) → Option (Int32 × (Nat → Int32) × (Nat → Int32) × (Nat → Int32) × Int32 × Int32 × (Nat → Int32) × (Nat → Int32) × (Nat → Int32) × (Nat → Int32))
  | 0, _, _, _, _, _, _, _, _, _, _ => none
  | n + 1, x1, t_worthOf, t_thingOf, t_changesOf, t_changes, t_heard, t_heardHeir, t_heardOne, t_heardTwo, t_heardMore => (if 4 ≤ x1 then f_X7_restore_102 t_wills t_isKept t_keptWill t_keptChanges t_keptHeard t_keptWorth t_keptThing t_keptChangesOf t_keptHeir t_keptOne t_keptTwo t_keptMore 300 0 t_worthOf t_thingOf t_changesOf t_changes t_heard t_heardHeir t_heardOne t_heardTwo t_heardMore else (rd t_keptThing 4 x1).bind (fun v2 => (wr t_thingOf 4 x1 v2).bind (fun g3 => (rd t_keptChangesOf 4 x1).bind (fun v4 => (wr t_changesOf 4 x1 v4).bind (fun g5 => f_X7_restore_65 t_wills t_isKept t_keptWill t_keptChanges t_keptHeard t_keptWorth t_keptThing t_keptChangesOf t_keptHeir t_keptOne t_keptTwo t_keptMore  n (x1 + 1) t_worthOf g3 g5 t_changes t_heard t_heardHeir t_heardOne t_heardTwo t_heardMore)))))
def f_X7_restore_39 (t_wills : Int32) (t_isKept : Int32) (t_keptWill : Int32) (t_keptChanges : Int32) (t_keptHeard : Int32) (t_keptWorth : Nat → Int32) (t_keptThing : Nat → Int32) (t_keptChangesOf : Nat → Int32) (t_keptHeir : Nat → Int32) (t_keptOne : Nat → Int32) (t_keptTwo : Nat → Int32) (t_keptMore : Nat → Int32)  : Nat → Int32 → (Nat → Int32) → (Nat → Int32) → (Nat → Int32) → Int32 → Int32 → (Nat → Int32) → (Nat → Int32) → (Nat → Int32) → (Nat → Int32) → Option (Int32 × (Nat → Int32) × (Nat → Int32) × (Nat → Int32) × Int32 × Int32 × (Nat → Int32) × (Nat → Int32) × (Nat → Int32) × (Nat → Int32))
  | 0, _, _, _, _, _, _, _, _, _, _ => none
  | n + 1, x1, t_worthOf, t_thingOf, t_changesOf, t_changes, t_heard, t_heardHeir, t_heardOne, t_heardTwo, t_heardMore => (if 16 ≤ x1 then f_X7_restore_65 t_wills t_isKept t_keptWill t_keptChanges t_keptHeard t_keptWorth t_keptThing t_keptChangesOf t_keptHeir t_keptOne t_keptTwo t_keptMore 300 0 t_worthOf t_thingOf t_changesOf t_changes t_heard t_heardHeir t_heardOne t_heardTwo t_heardMore else (rd t_keptWorth 16 x1).bind (fun v2 => (wr t_worthOf 16 x1 v2).bind (fun g3 => f_X7_restore_39 t_wills t_isKept t_keptWill t_keptChanges t_keptHeard t_keptWorth t_keptThing t_keptChangesOf t_keptHeir t_keptOne t_keptTwo t_keptMore  n (x1 + 1) g3 t_thingOf t_changesOf t_changes t_heard t_heardHeir t_heardOne t_heardTwo t_heardMore)))
def f_X7_restore (t_wills : Int32) (t_worthOf : Nat → Int32) (t_thingOf : Nat → Int32) (t_changesOf : Nat → Int32) (t_changes : Int32) (t_heard : Int32) (t_heardHeir : Nat → Int32) (t_heardOne : Nat → Int32) (t_heardTwo : Nat → Int32) (t_heardMore : Nat → Int32) (t_isKept : Int32) (t_keptWill : Int32) (t_keptChanges : Int32) (t_keptHeard : Int32) (t_keptWorth : Nat → Int32) (t_keptThing : Nat → Int32) (t_keptChangesOf : Nat → Int32) (t_keptHeir : Nat → Int32) (t_keptOne : Nat → Int32) (t_keptTwo : Nat → Int32) (t_keptMore : Nat → Int32)  : Option (Int32 × (Nat → Int32) × (Nat → Int32) × (Nat → Int32) × Int32 × Int32 × (Nat → Int32) × (Nat → Int32) × (Nat → Int32) × (Nat → Int32)) := (if t_isKept = 0 then some ((-103), t_worthOf, t_thingOf, t_changesOf, t_changes, t_heard, t_heardHeir, t_heardOne, t_heardTwo, t_heardMore) else (if t_keptWill = t_wills then f_X7_restore_39 t_wills t_isKept t_keptWill t_keptChanges t_keptHeard t_keptWorth t_keptThing t_keptChangesOf t_keptHeir t_keptOne t_keptTwo t_keptMore 300 0 t_worthOf t_thingOf t_changesOf t_keptChanges t_keptHeard t_heardHeir t_heardOne t_heardTwo t_heardMore else some ((-103), t_worthOf, t_thingOf, t_changesOf, t_changes, t_heard, t_heardHeir, t_heardOne, t_heardTwo, t_heardMore)))
set_option maxHeartbeats 4000000 in
set_option maxRecDepth 100000 in
theorem b_X7_restore_102 {p : Program} {l : Launch} {e : Env} {s : State} {m : MethodId} {args : Array Value} {below : List Frame} {meth : Method} {c : Code} {D : va_G} {cI cB : ClassId} {kK kV : Nat → Nat} {A : Nat → Prop} (F : Fx p m c s meth args cX7_restore 2 RX7 wsX7_restore (some .int) D cI cB kK kV A) {ad_t : Nat → Nat} {t_wills : Int32} {t_heirs : Int32} {t_kindOf : Nat → Int32} {t_pageLength : Int32} {t_page : Nat → Int32} {t_says : Nat → Int32} {t_dealt : Nat → Int32} {t_farOf : Nat → Int32} {t_endMany : Int32} {t_endMost : Int32} {t_endLeast : Int32} {t_endFew : Int32} {t_seedNow : Int64} {t_saved : Nat → Int32} {t_isKept : Int32} {t_keptWill : Int32} {t_keptChanges : Int32} {t_keptHeard : Int32} {t_keptWorth : Nat → Int32} {t_keptThing : Nat → Int32} {t_keptChangesOf : Nat → Int32} {t_keptHeir : Nat → Int32} {t_keptOne : Nat → Int32} {t_keptTwo : Nat → Int32} {t_keptMore : Nat → Int32} {t_h : Int64} {rr : Int32} {g_t_worthOf : Nat → Int32} {g_t_thingOf : Nat → Int32} {g_t_changesOf : Nat → Int32} {g_t_changes : Int32} {g_t_heard : Int32} {g_t_heardHeir : Nat → Int32} {g_t_heardOne : Nat → Int32} {g_t_heardTwo : Nat → Int32} {g_t_heardMore : Nat → Int32} : ∀ (n : Nat), ∀ (x1 : Int32) (t_worthOf : Nat → Int32) (t_thingOf : Nat → Int32) (t_changesOf : Nat → Int32) (t_changes : Int32) (t_heard : Int32) (t_heardHeir : Nat → Int32) (t_heardOne : Nat → Int32) (t_heardTwo : Nat → Int32) (t_heardMore : Nat → Int32) (H : Heap) (locs : List Loc) (ls : Array Slot), va_P D vwCl (w_X7 cI cB ad_t t_wills t_heirs t_kindOf t_worthOf t_thingOf t_changesOf t_changes t_heard t_heardHeir t_heardOne t_heardTwo t_heardMore t_pageLength t_page t_says t_dealt t_farOf t_endMany t_endMost t_endLeast t_endFew t_seedNow t_saved t_isKept t_keptWill t_keptChanges t_keptHeard t_keptWorth t_keptThing t_keptChangesOf t_keptHeir t_keptOne t_keptTwo t_keptMore t_h) H → va_D A (w_X7 cI cB ad_t t_wills t_heirs t_kindOf t_worthOf t_thingOf t_changesOf t_changes t_heard t_heardHeir t_heardOne t_heardTwo t_heardMore t_pageLength t_page t_says t_dealt t_farOf t_endMany t_endMost t_endLeast t_endFew t_seedNow t_saved t_isKept t_keptWill t_keptChanges t_keptHeard t_keptWorth t_keptThing t_keptChangesOf t_keptHeir t_keptOne t_keptTwo t_keptMore t_h) → va_S A s.heap H locs → lv_has ls 2 [(0, .ref (ad_t 0)), (1, .int x1)] → f_X7_restore_102 t_wills t_isKept t_keptWill t_keptChanges t_keptHeard t_keptWorth t_keptThing t_keptChangesOf t_keptHeir t_keptOne t_keptTwo t_keptMore  n x1 t_worthOf t_thingOf t_changesOf t_changes t_heard t_heardHeir t_heardOne t_heardTwo t_heardMore = some (rr, g_t_worthOf, g_t_thingOf, g_t_changesOf, g_t_changes, g_t_heard, g_t_heardHeir, g_t_heardOne, g_t_heardTwo, g_t_heardMore) → W p l e rm_X7_restore s m args below meth c H locs 0 0 (Zq D below args s A (w_X7 cI cB ad_t t_wills t_heirs t_kindOf g_t_worthOf g_t_thingOf g_t_changesOf g_t_changes g_t_heard g_t_heardHeir g_t_heardOne g_t_heardTwo g_t_heardMore t_pageLength t_page t_says t_dealt t_farOf t_endMany t_endMost t_endLeast t_endFew t_seedNow t_saved t_isKept t_keptWill t_keptChanges t_keptHeard t_keptWorth t_keptThing t_keptChangesOf t_keptHeir t_keptOne t_keptTwo t_keptMore t_h) (some (.int rr))) (F0 m 102 ls []) := by
  obtain ⟨hx, hb, hml, hown, hts, hrt, hlocks, hK, hA, hZ⟩ := id F
  intro n
  induction n with
  | zero =>
    intro x1 t_worthOf t_thingOf t_changesOf t_changes t_heard t_heardHeir t_heardOne t_heardTwo t_heardMore H locs ls hP hD hS hl hf
    cases hf
  | succ n ih =>
    intro x1 t_worthOf t_thingOf t_changesOf t_changes t_heard t_heardHeir t_heardOne t_heardTwo t_heardMore H locs ls hP hD hS hl hf
    refine lv_iload_n hx hb dX7_restore_102 rfl (lv_at hl 1 rfl) ?_
    refine lv_bipush (v := 6) hx hb dX7_restore_103 (by decide) ?_
    refine lv_icmp_ge (tgt := 162) hx hb dX7_restore_105 (by decide) (fun c1 => ?_) (fun c1 => ?_)
    · replace hf := (if_pos c1).symm.trans hf
      refine lv_aload_n hx hb dX7_restore_162 rfl (lv_at hl 0 rfl) ?_
      refine gf F hP in_X7_restore_X7 0 rfl rfl 6 (by decide) 5 rfl rfl dX7_restore_163 ?_
      replace hf : (some (t_changes, t_worthOf, t_thingOf, t_changesOf, t_changes, t_heard, t_heardHeir, t_heardOne, t_heardTwo, t_heardMore) : Option (Int32 × (Nat → Int32) × (Nat → Int32) × (Nat → Int32) × Int32 × Int32 × (Nat → Int32) × (Nat → Int32) × (Nat → Int32) × (Nat → Int32))) = some (rr, g_t_worthOf, g_t_thingOf, g_t_changesOf, g_t_changes, g_t_heard, g_t_heardHeir, g_t_heardOne, g_t_heardTwo, g_t_heardMore) := hf
      cases hf
      exact ret_i F hP hS dX7_restore_166
    · replace hf := (if_neg c1).symm.trans hf
      refine lv_aload_n hx hb dX7_restore_108 rfl (lv_at hl 0 rfl) ?_
      refine gf F hP in_X7_restore_X7 0 rfl rfl 8 (by decide) 14 rfl rfl dX7_restore_109 ?_
      refine lv_iload_n hx hb dX7_restore_112 rfl (lv_at hl 1 rfl) ?_
      refine lv_aload_n hx hb dX7_restore_113 rfl (lv_at hl 0 rfl) ?_
      refine gf F hP in_X7_restore_X7 0 rfl rfl 30 (by decide) 15 rfl rfl dX7_restore_114 ?_
      refine lv_iload_n hx hb dX7_restore_117 rfl (lv_at hl 1 rfl) ?_
      obtain ⟨v2, ev2, hf⟩ := bnd hf
      refine ald F hP 17 rfl ev2 dX7_restore_118 ?_
      obtain ⟨g3, eg3, hf⟩ := bnd hf
      refine ast F hP hD hS 5 rfl eg3 dX7_restore_119 (w_X7 cI cB ad_t t_wills t_heirs t_kindOf t_worthOf t_thingOf t_changesOf t_changes t_heard g3 t_heardOne t_heardTwo t_heardMore t_pageLength t_page t_says t_dealt t_farOf t_endMany t_endMost t_endLeast t_endFew t_seedNow t_saved t_isKept t_keptWill t_keptChanges t_keptHeard t_keptWorth t_keptThing t_keptChangesOf t_keptHeir t_keptOne t_keptTwo t_keptMore t_h) rfl (fun H locs hP hD hS => ?_)
      refine lv_aload_n hx hb dX7_restore_120 rfl (lv_at hl 0 rfl) ?_
      refine gf F hP in_X7_restore_X7 0 rfl rfl 9 (by decide) 16 rfl rfl dX7_restore_121 ?_
      refine lv_iload_n hx hb dX7_restore_124 rfl (lv_at hl 1 rfl) ?_
      refine lv_aload_n hx hb dX7_restore_125 rfl (lv_at hl 0 rfl) ?_
      refine gf F hP in_X7_restore_X7 0 rfl rfl 31 (by decide) 17 rfl rfl dX7_restore_126 ?_
      refine lv_iload_n hx hb dX7_restore_129 rfl (lv_at hl 1 rfl) ?_
      obtain ⟨v4, ev4, hf⟩ := bnd hf
      refine ald F hP 18 rfl ev4 dX7_restore_130 ?_
      obtain ⟨g5, eg5, hf⟩ := bnd hf
      refine ast F hP hD hS 6 rfl eg5 dX7_restore_131 (w_X7 cI cB ad_t t_wills t_heirs t_kindOf t_worthOf t_thingOf t_changesOf t_changes t_heard g3 g5 t_heardTwo t_heardMore t_pageLength t_page t_says t_dealt t_farOf t_endMany t_endMost t_endLeast t_endFew t_seedNow t_saved t_isKept t_keptWill t_keptChanges t_keptHeard t_keptWorth t_keptThing t_keptChangesOf t_keptHeir t_keptOne t_keptTwo t_keptMore t_h) rfl (fun H locs hP hD hS => ?_)
      refine lv_aload_n hx hb dX7_restore_132 rfl (lv_at hl 0 rfl) ?_
      refine gf F hP in_X7_restore_X7 0 rfl rfl 10 (by decide) 18 rfl rfl dX7_restore_133 ?_
      refine lv_iload_n hx hb dX7_restore_136 rfl (lv_at hl 1 rfl) ?_
      refine lv_aload_n hx hb dX7_restore_137 rfl (lv_at hl 0 rfl) ?_
      refine gf F hP in_X7_restore_X7 0 rfl rfl 32 (by decide) 19 rfl rfl dX7_restore_138 ?_
      refine lv_iload_n hx hb dX7_restore_141 rfl (lv_at hl 1 rfl) ?_
      obtain ⟨v6, ev6, hf⟩ := bnd hf
      refine ald F hP 19 rfl ev6 dX7_restore_142 ?_
      obtain ⟨g7, eg7, hf⟩ := bnd hf
      refine ast F hP hD hS 7 rfl eg7 dX7_restore_143 (w_X7 cI cB ad_t t_wills t_heirs t_kindOf t_worthOf t_thingOf t_changesOf t_changes t_heard g3 g5 g7 t_heardMore t_pageLength t_page t_says t_dealt t_farOf t_endMany t_endMost t_endLeast t_endFew t_seedNow t_saved t_isKept t_keptWill t_keptChanges t_keptHeard t_keptWorth t_keptThing t_keptChangesOf t_keptHeir t_keptOne t_keptTwo t_keptMore t_h) rfl (fun H locs hP hD hS => ?_)
      refine lv_aload_n hx hb dX7_restore_144 rfl (lv_at hl 0 rfl) ?_
      refine gf F hP in_X7_restore_X7 0 rfl rfl 11 (by decide) 20 rfl rfl dX7_restore_145 ?_
      refine lv_iload_n hx hb dX7_restore_148 rfl (lv_at hl 1 rfl) ?_
      refine lv_aload_n hx hb dX7_restore_149 rfl (lv_at hl 0 rfl) ?_
      refine gf F hP in_X7_restore_X7 0 rfl rfl 33 (by decide) 21 rfl rfl dX7_restore_150 ?_
      refine lv_iload_n hx hb dX7_restore_153 rfl (lv_at hl 1 rfl) ?_
      obtain ⟨v8, ev8, hf⟩ := bnd hf
      refine ald F hP 20 rfl ev8 dX7_restore_154 ?_
      obtain ⟨g9, eg9, hf⟩ := bnd hf
      refine ast F hP hD hS 8 rfl eg9 dX7_restore_155 (w_X7 cI cB ad_t t_wills t_heirs t_kindOf t_worthOf t_thingOf t_changesOf t_changes t_heard g3 g5 g7 g9 t_pageLength t_page t_says t_dealt t_farOf t_endMany t_endMost t_endLeast t_endFew t_seedNow t_saved t_isKept t_keptWill t_keptChanges t_keptHeard t_keptWorth t_keptThing t_keptChangesOf t_keptHeir t_keptOne t_keptTwo t_keptMore t_h) rfl (fun H locs hP hD hS => ?_)
      refine lv_iinc (v := (x1 + 1)) (lv' := [(1, .int (x1 + 1)), (0, .ref (ad_t 0))]) hx hb dX7_restore_156 hl (k := 1) rfl rfl (by decide) rfl (fun ls hl => ?_)
      refine lv_goto (tgt := 102) hx hb dX7_restore_159 (by decide) ?_
      exact ih (x1 + 1) t_worthOf t_thingOf t_changesOf t_changes t_heard g3 g5 g7 g9 H locs ls hP hD hS (lv_sub hl [1, 0] rfl) hf

set_option maxHeartbeats 4000000 in
set_option maxRecDepth 100000 in
theorem b_X7_restore_65 {p : Program} {l : Launch} {e : Env} {s : State} {m : MethodId} {args : Array Value} {below : List Frame} {meth : Method} {c : Code} {D : va_G} {cI cB : ClassId} {kK kV : Nat → Nat} {A : Nat → Prop} (F : Fx p m c s meth args cX7_restore 2 RX7 wsX7_restore (some .int) D cI cB kK kV A) {ad_t : Nat → Nat} {t_wills : Int32} {t_heirs : Int32} {t_kindOf : Nat → Int32} {t_pageLength : Int32} {t_page : Nat → Int32} {t_says : Nat → Int32} {t_dealt : Nat → Int32} {t_farOf : Nat → Int32} {t_endMany : Int32} {t_endMost : Int32} {t_endLeast : Int32} {t_endFew : Int32} {t_seedNow : Int64} {t_saved : Nat → Int32} {t_isKept : Int32} {t_keptWill : Int32} {t_keptChanges : Int32} {t_keptHeard : Int32} {t_keptWorth : Nat → Int32} {t_keptThing : Nat → Int32} {t_keptChangesOf : Nat → Int32} {t_keptHeir : Nat → Int32} {t_keptOne : Nat → Int32} {t_keptTwo : Nat → Int32} {t_keptMore : Nat → Int32} {t_h : Int64} {rr : Int32} {g_t_worthOf : Nat → Int32} {g_t_thingOf : Nat → Int32} {g_t_changesOf : Nat → Int32} {g_t_changes : Int32} {g_t_heard : Int32} {g_t_heardHeir : Nat → Int32} {g_t_heardOne : Nat → Int32} {g_t_heardTwo : Nat → Int32} {g_t_heardMore : Nat → Int32} : ∀ (n : Nat), ∀ (x1 : Int32) (t_worthOf : Nat → Int32) (t_thingOf : Nat → Int32) (t_changesOf : Nat → Int32) (t_changes : Int32) (t_heard : Int32) (t_heardHeir : Nat → Int32) (t_heardOne : Nat → Int32) (t_heardTwo : Nat → Int32) (t_heardMore : Nat → Int32) (H : Heap) (locs : List Loc) (ls : Array Slot), va_P D vwCl (w_X7 cI cB ad_t t_wills t_heirs t_kindOf t_worthOf t_thingOf t_changesOf t_changes t_heard t_heardHeir t_heardOne t_heardTwo t_heardMore t_pageLength t_page t_says t_dealt t_farOf t_endMany t_endMost t_endLeast t_endFew t_seedNow t_saved t_isKept t_keptWill t_keptChanges t_keptHeard t_keptWorth t_keptThing t_keptChangesOf t_keptHeir t_keptOne t_keptTwo t_keptMore t_h) H → va_D A (w_X7 cI cB ad_t t_wills t_heirs t_kindOf t_worthOf t_thingOf t_changesOf t_changes t_heard t_heardHeir t_heardOne t_heardTwo t_heardMore t_pageLength t_page t_says t_dealt t_farOf t_endMany t_endMost t_endLeast t_endFew t_seedNow t_saved t_isKept t_keptWill t_keptChanges t_keptHeard t_keptWorth t_keptThing t_keptChangesOf t_keptHeir t_keptOne t_keptTwo t_keptMore t_h) → va_S A s.heap H locs → lv_has ls 2 [(0, .ref (ad_t 0)), (1, .int x1)] → f_X7_restore_65 t_wills t_isKept t_keptWill t_keptChanges t_keptHeard t_keptWorth t_keptThing t_keptChangesOf t_keptHeir t_keptOne t_keptTwo t_keptMore  n x1 t_worthOf t_thingOf t_changesOf t_changes t_heard t_heardHeir t_heardOne t_heardTwo t_heardMore = some (rr, g_t_worthOf, g_t_thingOf, g_t_changesOf, g_t_changes, g_t_heard, g_t_heardHeir, g_t_heardOne, g_t_heardTwo, g_t_heardMore) → W p l e rm_X7_restore s m args below meth c H locs 0 0 (Zq D below args s A (w_X7 cI cB ad_t t_wills t_heirs t_kindOf g_t_worthOf g_t_thingOf g_t_changesOf g_t_changes g_t_heard g_t_heardHeir g_t_heardOne g_t_heardTwo g_t_heardMore t_pageLength t_page t_says t_dealt t_farOf t_endMany t_endMost t_endLeast t_endFew t_seedNow t_saved t_isKept t_keptWill t_keptChanges t_keptHeard t_keptWorth t_keptThing t_keptChangesOf t_keptHeir t_keptOne t_keptTwo t_keptMore t_h) (some (.int rr))) (F0 m 65 ls []) := by
  obtain ⟨hx, hb, hml, hown, hts, hrt, hlocks, hK, hA, hZ⟩ := id F
  intro n
  induction n with
  | zero =>
    intro x1 t_worthOf t_thingOf t_changesOf t_changes t_heard t_heardHeir t_heardOne t_heardTwo t_heardMore H locs ls hP hD hS hl hf
    cases hf
  | succ n ih =>
    intro x1 t_worthOf t_thingOf t_changesOf t_changes t_heard t_heardHeir t_heardOne t_heardTwo t_heardMore H locs ls hP hD hS hl hf
    refine lv_iload_n hx hb dX7_restore_65 rfl (lv_at hl 1 rfl) ?_
    refine lv_iconst (v := 4) hx hb dX7_restore_66 (by decide) ?_
    refine lv_icmp_ge (tgt := 100) hx hb dX7_restore_67 (by decide) (fun c1 => ?_) (fun c1 => ?_)
    · replace hf := (if_pos c1).symm.trans hf
      refine lv_iconst (v := 0) hx hb dX7_restore_100 (by decide) ?_
      refine lv_istore_n (lv' := [(1, .int 0), (0, .ref (ad_t 0))]) hx hb dX7_restore_101 rfl hl (by decide) rfl (fun ls hl => ?_)
      exact b_X7_restore_102 F 300 0 t_worthOf t_thingOf t_changesOf t_changes t_heard t_heardHeir t_heardOne t_heardTwo t_heardMore H locs ls hP hD hS (lv_sub hl [1, 0] rfl) hf
    · replace hf := (if_neg c1).symm.trans hf
      refine lv_aload_n hx hb dX7_restore_70 rfl (lv_at hl 0 rfl) ?_
      refine gf F hP in_X7_restore_X7 0 rfl rfl 4 (by decide) 10 rfl rfl dX7_restore_71 ?_
      refine lv_iload_n hx hb dX7_restore_74 rfl (lv_at hl 1 rfl) ?_
      refine lv_aload_n hx hb dX7_restore_75 rfl (lv_at hl 0 rfl) ?_
      refine gf F hP in_X7_restore_X7 0 rfl rfl 28 (by decide) 11 rfl rfl dX7_restore_76 ?_
      refine lv_iload_n hx hb dX7_restore_79 rfl (lv_at hl 1 rfl) ?_
      obtain ⟨v2, ev2, hf⟩ := bnd hf
      refine ald F hP 15 rfl ev2 dX7_restore_80 ?_
      obtain ⟨g3, eg3, hf⟩ := bnd hf
      refine ast F hP hD hS 3 rfl eg3 dX7_restore_81 (w_X7 cI cB ad_t t_wills t_heirs t_kindOf t_worthOf g3 t_changesOf t_changes t_heard t_heardHeir t_heardOne t_heardTwo t_heardMore t_pageLength t_page t_says t_dealt t_farOf t_endMany t_endMost t_endLeast t_endFew t_seedNow t_saved t_isKept t_keptWill t_keptChanges t_keptHeard t_keptWorth t_keptThing t_keptChangesOf t_keptHeir t_keptOne t_keptTwo t_keptMore t_h) rfl (fun H locs hP hD hS => ?_)
      refine lv_aload_n hx hb dX7_restore_82 rfl (lv_at hl 0 rfl) ?_
      refine gf F hP in_X7_restore_X7 0 rfl rfl 5 (by decide) 12 rfl rfl dX7_restore_83 ?_
      refine lv_iload_n hx hb dX7_restore_86 rfl (lv_at hl 1 rfl) ?_
      refine lv_aload_n hx hb dX7_restore_87 rfl (lv_at hl 0 rfl) ?_
      refine gf F hP in_X7_restore_X7 0 rfl rfl 29 (by decide) 13 rfl rfl dX7_restore_88 ?_
      refine lv_iload_n hx hb dX7_restore_91 rfl (lv_at hl 1 rfl) ?_
      obtain ⟨v4, ev4, hf⟩ := bnd hf
      refine ald F hP 16 rfl ev4 dX7_restore_92 ?_
      obtain ⟨g5, eg5, hf⟩ := bnd hf
      refine ast F hP hD hS 4 rfl eg5 dX7_restore_93 (w_X7 cI cB ad_t t_wills t_heirs t_kindOf t_worthOf g3 g5 t_changes t_heard t_heardHeir t_heardOne t_heardTwo t_heardMore t_pageLength t_page t_says t_dealt t_farOf t_endMany t_endMost t_endLeast t_endFew t_seedNow t_saved t_isKept t_keptWill t_keptChanges t_keptHeard t_keptWorth t_keptThing t_keptChangesOf t_keptHeir t_keptOne t_keptTwo t_keptMore t_h) rfl (fun H locs hP hD hS => ?_)
      refine lv_iinc (v := (x1 + 1)) (lv' := [(1, .int (x1 + 1)), (0, .ref (ad_t 0))]) hx hb dX7_restore_94 hl (k := 1) rfl rfl (by decide) rfl (fun ls hl => ?_)
      refine lv_goto (tgt := 65) hx hb dX7_restore_97 (by decide) ?_
      exact ih (x1 + 1) t_worthOf g3 g5 t_changes t_heard t_heardHeir t_heardOne t_heardTwo t_heardMore H locs ls hP hD hS (lv_sub hl [1, 0] rfl) hf

set_option maxHeartbeats 4000000 in
set_option maxRecDepth 100000 in
theorem b_X7_restore_39 {p : Program} {l : Launch} {e : Env} {s : State} {m : MethodId} {args : Array Value} {below : List Frame} {meth : Method} {c : Code} {D : va_G} {cI cB : ClassId} {kK kV : Nat → Nat} {A : Nat → Prop} (F : Fx p m c s meth args cX7_restore 2 RX7 wsX7_restore (some .int) D cI cB kK kV A) {ad_t : Nat → Nat} {t_wills : Int32} {t_heirs : Int32} {t_kindOf : Nat → Int32} {t_pageLength : Int32} {t_page : Nat → Int32} {t_says : Nat → Int32} {t_dealt : Nat → Int32} {t_farOf : Nat → Int32} {t_endMany : Int32} {t_endMost : Int32} {t_endLeast : Int32} {t_endFew : Int32} {t_seedNow : Int64} {t_saved : Nat → Int32} {t_isKept : Int32} {t_keptWill : Int32} {t_keptChanges : Int32} {t_keptHeard : Int32} {t_keptWorth : Nat → Int32} {t_keptThing : Nat → Int32} {t_keptChangesOf : Nat → Int32} {t_keptHeir : Nat → Int32} {t_keptOne : Nat → Int32} {t_keptTwo : Nat → Int32} {t_keptMore : Nat → Int32} {t_h : Int64} {rr : Int32} {g_t_worthOf : Nat → Int32} {g_t_thingOf : Nat → Int32} {g_t_changesOf : Nat → Int32} {g_t_changes : Int32} {g_t_heard : Int32} {g_t_heardHeir : Nat → Int32} {g_t_heardOne : Nat → Int32} {g_t_heardTwo : Nat → Int32} {g_t_heardMore : Nat → Int32} : ∀ (n : Nat), ∀ (x1 : Int32) (t_worthOf : Nat → Int32) (t_thingOf : Nat → Int32) (t_changesOf : Nat → Int32) (t_changes : Int32) (t_heard : Int32) (t_heardHeir : Nat → Int32) (t_heardOne : Nat → Int32) (t_heardTwo : Nat → Int32) (t_heardMore : Nat → Int32) (H : Heap) (locs : List Loc) (ls : Array Slot), va_P D vwCl (w_X7 cI cB ad_t t_wills t_heirs t_kindOf t_worthOf t_thingOf t_changesOf t_changes t_heard t_heardHeir t_heardOne t_heardTwo t_heardMore t_pageLength t_page t_says t_dealt t_farOf t_endMany t_endMost t_endLeast t_endFew t_seedNow t_saved t_isKept t_keptWill t_keptChanges t_keptHeard t_keptWorth t_keptThing t_keptChangesOf t_keptHeir t_keptOne t_keptTwo t_keptMore t_h) H → va_D A (w_X7 cI cB ad_t t_wills t_heirs t_kindOf t_worthOf t_thingOf t_changesOf t_changes t_heard t_heardHeir t_heardOne t_heardTwo t_heardMore t_pageLength t_page t_says t_dealt t_farOf t_endMany t_endMost t_endLeast t_endFew t_seedNow t_saved t_isKept t_keptWill t_keptChanges t_keptHeard t_keptWorth t_keptThing t_keptChangesOf t_keptHeir t_keptOne t_keptTwo t_keptMore t_h) → va_S A s.heap H locs → lv_has ls 2 [(0, .ref (ad_t 0)), (1, .int x1)] → f_X7_restore_39 t_wills t_isKept t_keptWill t_keptChanges t_keptHeard t_keptWorth t_keptThing t_keptChangesOf t_keptHeir t_keptOne t_keptTwo t_keptMore  n x1 t_worthOf t_thingOf t_changesOf t_changes t_heard t_heardHeir t_heardOne t_heardTwo t_heardMore = some (rr, g_t_worthOf, g_t_thingOf, g_t_changesOf, g_t_changes, g_t_heard, g_t_heardHeir, g_t_heardOne, g_t_heardTwo, g_t_heardMore) → W p l e rm_X7_restore s m args below meth c H locs 0 0 (Zq D below args s A (w_X7 cI cB ad_t t_wills t_heirs t_kindOf g_t_worthOf g_t_thingOf g_t_changesOf g_t_changes g_t_heard g_t_heardHeir g_t_heardOne g_t_heardTwo g_t_heardMore t_pageLength t_page t_says t_dealt t_farOf t_endMany t_endMost t_endLeast t_endFew t_seedNow t_saved t_isKept t_keptWill t_keptChanges t_keptHeard t_keptWorth t_keptThing t_keptChangesOf t_keptHeir t_keptOne t_keptTwo t_keptMore t_h) (some (.int rr))) (F0 m 39 ls []) := by
  obtain ⟨hx, hb, hml, hown, hts, hrt, hlocks, hK, hA, hZ⟩ := id F
  intro n
  induction n with
  | zero =>
    intro x1 t_worthOf t_thingOf t_changesOf t_changes t_heard t_heardHeir t_heardOne t_heardTwo t_heardMore H locs ls hP hD hS hl hf
    cases hf
  | succ n ih =>
    intro x1 t_worthOf t_thingOf t_changesOf t_changes t_heard t_heardHeir t_heardOne t_heardTwo t_heardMore H locs ls hP hD hS hl hf
    refine lv_iload_n hx hb dX7_restore_39 rfl (lv_at hl 1 rfl) ?_
    refine lv_bipush (v := 16) hx hb dX7_restore_40 (by decide) ?_
    refine lv_icmp_ge (tgt := 63) hx hb dX7_restore_42 (by decide) (fun c1 => ?_) (fun c1 => ?_)
    · replace hf := (if_pos c1).symm.trans hf
      refine lv_iconst (v := 0) hx hb dX7_restore_63 (by decide) ?_
      refine lv_istore_n (lv' := [(1, .int 0), (0, .ref (ad_t 0))]) hx hb dX7_restore_64 rfl hl (by decide) rfl (fun ls hl => ?_)
      exact b_X7_restore_65 F 300 0 t_worthOf t_thingOf t_changesOf t_changes t_heard t_heardHeir t_heardOne t_heardTwo t_heardMore H locs ls hP hD hS (lv_sub hl [1, 0] rfl) hf
    · replace hf := (if_neg c1).symm.trans hf
      refine lv_aload_n hx hb dX7_restore_45 rfl (lv_at hl 0 rfl) ?_
      refine gf F hP in_X7_restore_X7 0 rfl rfl 3 (by decide) 8 rfl rfl dX7_restore_46 ?_
      refine lv_iload_n hx hb dX7_restore_49 rfl (lv_at hl 1 rfl) ?_
      refine lv_aload_n hx hb dX7_restore_50 rfl (lv_at hl 0 rfl) ?_
      refine gf F hP in_X7_restore_X7 0 rfl rfl 27 (by decide) 9 rfl rfl dX7_restore_51 ?_
      refine lv_iload_n hx hb dX7_restore_54 rfl (lv_at hl 1 rfl) ?_
      obtain ⟨v2, ev2, hf⟩ := bnd hf
      refine ald F hP 14 rfl ev2 dX7_restore_55 ?_
      obtain ⟨g3, eg3, hf⟩ := bnd hf
      refine ast F hP hD hS 2 rfl eg3 dX7_restore_56 (w_X7 cI cB ad_t t_wills t_heirs t_kindOf g3 t_thingOf t_changesOf t_changes t_heard t_heardHeir t_heardOne t_heardTwo t_heardMore t_pageLength t_page t_says t_dealt t_farOf t_endMany t_endMost t_endLeast t_endFew t_seedNow t_saved t_isKept t_keptWill t_keptChanges t_keptHeard t_keptWorth t_keptThing t_keptChangesOf t_keptHeir t_keptOne t_keptTwo t_keptMore t_h) rfl (fun H locs hP hD hS => ?_)
      refine lv_iinc (v := (x1 + 1)) (lv' := [(1, .int (x1 + 1)), (0, .ref (ad_t 0))]) hx hb dX7_restore_57 hl (k := 1) rfl rfl (by decide) rfl (fun ls hl => ?_)
      refine lv_goto (tgt := 39) hx hb dX7_restore_60 (by decide) ?_
      exact ih (x1 + 1) g3 t_thingOf t_changesOf t_changes t_heard t_heardHeir t_heardOne t_heardTwo t_heardMore H locs ls hP hD hS (lv_sub hl [1, 0] rfl) hf

set_option maxHeartbeats 4000000 in
set_option maxRecDepth 100000 in
theorem k_X7_restore (l : Launch) {D : va_G} {cI cB : ClassId} {kK kV : Nat → Nat} (ad_t : Nat → Nat) (t_wills : Int32) (t_heirs : Int32) (t_kindOf : Nat → Int32) (t_worthOf : Nat → Int32) (t_thingOf : Nat → Int32) (t_changesOf : Nat → Int32) (t_changes : Int32) (t_heard : Int32) (t_heardHeir : Nat → Int32) (t_heardOne : Nat → Int32) (t_heardTwo : Nat → Int32) (t_heardMore : Nat → Int32) (t_pageLength : Int32) (t_page : Nat → Int32) (t_says : Nat → Int32) (t_dealt : Nat → Int32) (t_farOf : Nat → Int32) (t_endMany : Int32) (t_endMost : Int32) (t_endLeast : Int32) (t_endFew : Int32) (t_seedNow : Int64) (t_saved : Nat → Int32) (t_isKept : Int32) (t_keptWill : Int32) (t_keptChanges : Int32) (t_keptHeard : Int32) (t_keptWorth : Nat → Int32) (t_keptThing : Nat → Int32) (t_keptChangesOf : Nat → Int32) (t_keptHeir : Nat → Int32) (t_keptOne : Nat → Int32) (t_keptTwo : Nat → Int32) (t_keptMore : Nat → Int32) (t_h : Int64)  {rr : Int32} {g_t_worthOf : Nat → Int32} {g_t_thingOf : Nat → Int32} {g_t_changesOf : Nat → Int32} {g_t_changes : Int32} {g_t_heard : Int32} {g_t_heardHeir : Nat → Int32} {g_t_heardOne : Nat → Int32} {g_t_heardTwo : Nat → Int32} {g_t_heardMore : Nat → Int32} (hf : f_X7_restore t_wills t_worthOf t_thingOf t_changesOf t_changes t_heard t_heardHeir t_heardOne t_heardTwo t_heardMore t_isKept t_keptWill t_keptChanges t_keptHeard t_keptWorth t_keptThing t_keptChangesOf t_keptHeir t_keptOne t_keptTwo t_keptMore = some (rr, g_t_worthOf, g_t_thingOf, g_t_changesOf, g_t_changes, g_t_heard, g_t_heardHeir, g_t_heardOne, g_t_heardTwo, g_t_heardMore)) : Ct l yX7_restore wsX7_restore rm_X7_restore D cI cB kK kV [.ref (ad_t 0)] (w_X7 cI cB ad_t t_wills t_heirs t_kindOf t_worthOf t_thingOf t_changesOf t_changes t_heard t_heardHeir t_heardOne t_heardTwo t_heardMore t_pageLength t_page t_says t_dealt t_farOf t_endMany t_endMost t_endLeast t_endFew t_seedNow t_saved t_isKept t_keptWill t_keptChanges t_keptHeard t_keptWorth t_keptThing t_keptChangesOf t_keptHeir t_keptOne t_keptTwo t_keptMore t_h) (w_X7 cI cB ad_t t_wills t_heirs t_kindOf g_t_worthOf g_t_thingOf g_t_changesOf g_t_changes g_t_heard g_t_heardHeir g_t_heardOne g_t_heardTwo g_t_heardMore t_pageLength t_page t_says t_dealt t_farOf t_endMany t_endMost t_endLeast t_endFew t_seedNow t_saved t_isKept t_keptWill t_keptChanges t_keptHeard t_keptWorth t_keptThing t_keptChangesOf t_keptHeir t_keptOne t_keptTwo t_keptMore t_h) (some (.int rr)) := by
  refine Ct.of (cc := cX7_restore) (maxL := 2) (ret := (some .int)) (by decide) rfl (Nat.le_of_ble_eq_true rfl) rfl ?_
  intro p e s m below meth c A ls F hP hD hS hl
  have hl : lv_has ls 2 [(0, .ref (ad_t 0))] := hl
  obtain ⟨hx, hb, hml, hown, hts, hrt, hlocks, hK, hA, hZ⟩ := id F
  obtain ⟨H, hH⟩ : ∃ H, H = s.heap := ⟨_, rfl⟩
  obtain ⟨locs, hLo⟩ : ∃ q : List Loc, q = [] := ⟨_, rfl⟩
  refine (?_ : W p l e rm_X7_restore s m _ below meth c s.heap [] 0 0 _ _)
  rw [← hH, ← hLo]
  rw [← hH] at hP
  have hS : va_S A s.heap H locs := by rw [hH, hLo]; exact hS
  refine lv_aload_n hx hb dX7_restore_0 rfl (lv_at hl 0 rfl) ?_
  refine gf F hP in_X7_restore_X7 0 rfl rfl 23 (by decide) 1 rfl rfl dX7_restore_1 ?_
  refine lv_if_eq (tgt := 18) hx hb dX7_restore_4 (by decide) (fun c1 => ?_) (fun c1 => ?_)
  · replace hf := (if_pos c1).symm.trans hf
    refine lv_bipush (v := (-103)) hx hb dX7_restore_18 (by decide) ?_
    replace hf : (some ((-103), t_worthOf, t_thingOf, t_changesOf, t_changes, t_heard, t_heardHeir, t_heardOne, t_heardTwo, t_heardMore) : Option (Int32 × (Nat → Int32) × (Nat → Int32) × (Nat → Int32) × Int32 × Int32 × (Nat → Int32) × (Nat → Int32) × (Nat → Int32) × (Nat → Int32))) = some (rr, g_t_worthOf, g_t_thingOf, g_t_changesOf, g_t_changes, g_t_heard, g_t_heardHeir, g_t_heardOne, g_t_heardTwo, g_t_heardMore) := hf
    cases hf
    exact ret_i F hP hS dX7_restore_20
  · replace hf := (if_neg c1).symm.trans hf
    refine lv_aload_n hx hb dX7_restore_7 rfl (lv_at hl 0 rfl) ?_
    refine gf F hP in_X7_restore_X7 0 rfl rfl 24 (by decide) 2 rfl rfl dX7_restore_8 ?_
    refine lv_aload_n hx hb dX7_restore_11 rfl (lv_at hl 0 rfl) ?_
    refine gf F hP in_X7_restore_X7 0 rfl rfl 0 (by decide) 3 rfl rfl dX7_restore_12 ?_
    refine lv_icmp_eq (tgt := 21) hx hb dX7_restore_15 (by decide) (fun c2 => ?_) (fun c2 => ?_)
    · replace hf := (if_pos c2).symm.trans hf
      refine lv_aload_n hx hb dX7_restore_21 rfl (lv_at hl 0 rfl) ?_
      refine lv_aload_n hx hb dX7_restore_22 rfl (lv_at hl 0 rfl) ?_
      refine gf F hP in_X7_restore_X7 0 rfl rfl 25 (by decide) 4 rfl rfl dX7_restore_23 ?_
      refine pf F hP hD hS in_X7_restore_X7 tyX7 tyX7_ok nmX7 0 rfl rfl 6 (by decide) 5 rfl rfl rfl rfl (Nat.le_of_ble_eq_true rfl) dX7_restore_26 (w_X7 cI cB ad_t t_wills t_heirs t_kindOf t_worthOf t_thingOf t_changesOf t_keptChanges t_heard t_heardHeir t_heardOne t_heardTwo t_heardMore t_pageLength t_page t_says t_dealt t_farOf t_endMany t_endMost t_endLeast t_endFew t_seedNow t_saved t_isKept t_keptWill t_keptChanges t_keptHeard t_keptWorth t_keptThing t_keptChangesOf t_keptHeir t_keptOne t_keptTwo t_keptMore t_h) rfl (fun H locs hP hD hS => ?_)
      refine lv_aload_n hx hb dX7_restore_29 rfl (lv_at hl 0 rfl) ?_
      refine lv_aload_n hx hb dX7_restore_30 rfl (lv_at hl 0 rfl) ?_
      refine gf F hP in_X7_restore_X7 0 rfl rfl 26 (by decide) 6 rfl rfl dX7_restore_31 ?_
      refine pf F hP hD hS in_X7_restore_X7 tyX7 tyX7_ok nmX7 0 rfl rfl 7 (by decide) 7 rfl rfl rfl rfl (Nat.le_of_ble_eq_true rfl) dX7_restore_34 (w_X7 cI cB ad_t t_wills t_heirs t_kindOf t_worthOf t_thingOf t_changesOf t_keptChanges t_keptHeard t_heardHeir t_heardOne t_heardTwo t_heardMore t_pageLength t_page t_says t_dealt t_farOf t_endMany t_endMost t_endLeast t_endFew t_seedNow t_saved t_isKept t_keptWill t_keptChanges t_keptHeard t_keptWorth t_keptThing t_keptChangesOf t_keptHeir t_keptOne t_keptTwo t_keptMore t_h) rfl (fun H locs hP hD hS => ?_)
      refine lv_iconst (v := 0) hx hb dX7_restore_37 (by decide) ?_
      refine lv_istore_n (lv' := [(1, .int 0), (0, .ref (ad_t 0))]) hx hb dX7_restore_38 rfl hl (by decide) rfl (fun ls hl => ?_)
      exact b_X7_restore_39 F 300 0 t_worthOf t_thingOf t_changesOf t_keptChanges t_keptHeard t_heardHeir t_heardOne t_heardTwo t_heardMore H locs ls hP hD hS (lv_sub hl [1, 0] rfl) hf
    · replace hf := (if_neg c2).symm.trans hf
      refine lv_bipush (v := (-103)) hx hb dX7_restore_18 (by decide) ?_
      replace hf : (some ((-103), t_worthOf, t_thingOf, t_changesOf, t_changes, t_heard, t_heardHeir, t_heardOne, t_heardTwo, t_heardMore) : Option (Int32 × (Nat → Int32) × (Nat → Int32) × (Nat → Int32) × Int32 × Int32 × (Nat → Int32) × (Nat → Int32) × (Nat → Int32) × (Nat → Int32))) = some (rr, g_t_worthOf, g_t_thingOf, g_t_changesOf, g_t_changes, g_t_heard, g_t_heardHeir, g_t_heardOne, g_t_heardTwo, g_t_heardMore) := hf
      cases hf
      exact ret_i F hP hS dX7_restore_20

/-! X7_howMany -/
def rm_X7_howMany : Room := { frames := 2, cells := 0, slots := 0, locals := 44 }
theorem in_X7_howMany_X7 : ∀ w ∈ u_ws RX7 TX7 35, w ∈ wsX7_howMany := fun _ h => List.mem_cons_of_mem _ (List.mem_append_right _ (h))
theorem nd_X7_howMany : yX7_howMany.cls = RX7 ∧ yX7_howMany.cls ≠ "java/lang/invoke/MethodHandle" ∧ yX7_howMany.cls ≠ "java/lang/invoke/VarHandle" ∧ (parseMethodDescriptor yX7_howMany.desc).map (fun d => d.parameters.length) = some 1 := by decide +kernel
def f_X7_howMany (t_wills : Int32) (t_heirs : Int32) (t_worthOf : Nat → Int32) (t_thingOf : Nat → Int32) (t_changes : Int32) (t_heard : Int32) (t_pageLength : Int32) (x1 : Int32) : Option (Int32) := (if x1 = 0 then some t_heirs else (if x1 = 1 then (f_X7_contentMany t_heirs t_worthOf t_thingOf).bind (fun v3 => some v3) else (if x1 = 2 then some t_changes else (if x1 = 3 then (f_X7_wayNow t_heirs t_thingOf).bind (fun v7 => (f_X7_sumBy t_heirs t_worthOf v7).bind (fun v9 => some v9)) else (if x1 = 4 then some t_heard else (if x1 = 5 then some t_pageLength else (if x1 = 6 then some t_wills else some (-102))))))))
set_option maxHeartbeats 4000000 in
set_option maxRecDepth 100000 in
theorem k_X7_howMany (l : Launch) {D : va_G} {cI cB : ClassId} {kK kV : Nat → Nat} (ad_t : Nat → Nat) (t_wills : Int32) (t_heirs : Int32) (t_kindOf : Nat → Int32) (t_worthOf : Nat → Int32) (t_thingOf : Nat → Int32) (t_changesOf : Nat → Int32) (t_changes : Int32) (t_heard : Int32) (t_heardHeir : Nat → Int32) (t_heardOne : Nat → Int32) (t_heardTwo : Nat → Int32) (t_heardMore : Nat → Int32) (t_pageLength : Int32) (t_page : Nat → Int32) (t_says : Nat → Int32) (t_dealt : Nat → Int32) (t_farOf : Nat → Int32) (t_endMany : Int32) (t_endMost : Int32) (t_endLeast : Int32) (t_endFew : Int32) (t_seedNow : Int64) (t_saved : Nat → Int32) (t_isKept : Int32) (t_keptWill : Int32) (t_keptChanges : Int32) (t_keptHeard : Int32) (t_keptWorth : Nat → Int32) (t_keptThing : Nat → Int32) (t_keptChangesOf : Nat → Int32) (t_keptHeir : Nat → Int32) (t_keptOne : Nat → Int32) (t_keptTwo : Nat → Int32) (t_keptMore : Nat → Int32) (t_h : Int64) (x1 : Int32) {rr : Int32}  (hf : f_X7_howMany t_wills t_heirs t_worthOf t_thingOf t_changes t_heard t_pageLength x1 = some rr) : Ct l yX7_howMany wsX7_howMany rm_X7_howMany D cI cB kK kV [.ref (ad_t 0), .int x1] (w_X7 cI cB ad_t t_wills t_heirs t_kindOf t_worthOf t_thingOf t_changesOf t_changes t_heard t_heardHeir t_heardOne t_heardTwo t_heardMore t_pageLength t_page t_says t_dealt t_farOf t_endMany t_endMost t_endLeast t_endFew t_seedNow t_saved t_isKept t_keptWill t_keptChanges t_keptHeard t_keptWorth t_keptThing t_keptChangesOf t_keptHeir t_keptOne t_keptTwo t_keptMore t_h) (w_X7 cI cB ad_t t_wills t_heirs t_kindOf t_worthOf t_thingOf t_changesOf t_changes t_heard t_heardHeir t_heardOne t_heardTwo t_heardMore t_pageLength t_page t_says t_dealt t_farOf t_endMany t_endMost t_endLeast t_endFew t_seedNow t_saved t_isKept t_keptWill t_keptChanges t_keptHeard t_keptWorth t_keptThing t_keptChangesOf t_keptHeir t_keptOne t_keptTwo t_keptMore t_h) (some (.int rr)) := by
  refine Ct.of (cc := cX7_howMany) (maxL := 2) (ret := (some .int)) (by decide) rfl (Nat.le_of_ble_eq_true rfl) rfl ?_
  intro p e s m below meth c A ls F hP hD hS hl
  have hl : lv_has ls 2 [(0, .ref (ad_t 0)), (1, .int x1)] := hl
  obtain ⟨hx, hb, hml, hown, hts, hrt, hlocks, hK, hA, hZ⟩ := id F
  obtain ⟨H, hH⟩ : ∃ H, H = s.heap := ⟨_, rfl⟩
  obtain ⟨locs, hLo⟩ : ∃ q : List Loc, q = [] := ⟨_, rfl⟩
  refine (?_ : W p l e rm_X7_howMany s m _ below meth c s.heap [] 0 0 _ _)
  rw [← hH, ← hLo]
  rw [← hH] at hP
  have hS : va_S A s.heap H locs := by rw [hH, hLo]; exact hS
  refine lv_iload_n hx hb dX7_howMany_0 rfl (lv_at hl 1 rfl) ?_
  by_cases c1 : x1 = 0
  · replace hf := (if_pos c1).symm.trans hf
    refine lv_tableIn (off := 43) (tgt := 44) hx hb dX7_howMany_1 (by rw [c1]; decide) (by rw [c1]; decide) (by rw [c1]; rfl) (by decide) ?_
    refine lv_aload_n hx hb dX7_howMany_44 rfl (lv_at hl 0 rfl) ?_
    refine gf F hP in_X7_howMany_X7 0 rfl rfl 1 (by decide) 1 rfl rfl dX7_howMany_45 ?_
    replace hf : (some t_heirs : Option (Int32)) = some rr := hf
    cases hf
    exact ret_i F hP hS dX7_howMany_48
  replace hf := (if_neg c1).symm.trans hf
  by_cases c2 : x1 = 1
  · replace hf := (if_pos c2).symm.trans hf
    refine lv_tableIn (off := 48) (tgt := 49) hx hb dX7_howMany_1 (by rw [c2]; decide) (by rw [c2]; decide) (by rw [c2]; rfl) (by decide) ?_
    refine lv_aload_n hx hb dX7_howMany_49 rfl (lv_at hl 0 rfl) ?_
    obtain ⟨v3, e4, hf⟩ := bnd hf
    refine cV F hP hD hS (k_X7_contentMany l ad_t t_wills t_heirs t_kindOf t_worthOf t_thingOf t_changesOf t_changes t_heard t_heardHeir t_heardOne t_heardTwo t_heardMore t_pageLength t_page t_says t_dealt t_farOf t_endMany t_endMost t_endLeast t_endFew t_seedNow t_saved t_isKept t_keptWill t_keptChanges t_keptHeard t_keptWorth t_keptThing t_keptChangesOf t_keptHeir t_keptOne t_keptTwo t_keptMore t_h  e4) gX7_howMany_X7_contentMany rfl ⟨rfl, rfl⟩ nd_X7_contentMany ⟨Nat.le_of_ble_eq_true rfl, Nat.le_of_ble_eq_true rfl⟩ 0 7 rfl rfl rfl hl.1 rfl (Nat.le_of_ble_eq_true rfl) dX7_howMany_50 (pm0 (w_X7 cI cB ad_t t_wills t_heirs t_kindOf t_worthOf t_thingOf t_changesOf t_changes t_heard t_heardHeir t_heardOne t_heardTwo t_heardMore t_pageLength t_page t_says t_dealt t_farOf t_endMany t_endMost t_endLeast t_endFew t_seedNow t_saved t_isKept t_keptWill t_keptChanges t_keptHeard t_keptWorth t_keptThing t_keptChangesOf t_keptHeir t_keptOne t_keptTwo t_keptMore t_h)) (pm0 (w_X7 cI cB ad_t t_wills t_heirs t_kindOf t_worthOf t_thingOf t_changesOf t_changes t_heard t_heardHeir t_heardOne t_heardTwo t_heardMore t_pageLength t_page t_says t_dealt t_farOf t_endMany t_endMost t_endLeast t_endFew t_seedNow t_saved t_isKept t_keptWill t_keptChanges t_keptHeard t_keptWorth t_keptThing t_keptChangesOf t_keptHeir t_keptOne t_keptTwo t_keptMore t_h)) (fun H locs hP hD hS => ?_)
    replace hf : (some v3 : Option (Int32)) = some rr := hf
    cases hf
    exact ret_i F hP hS dX7_howMany_53
  replace hf := (if_neg c2).symm.trans hf
  by_cases c5 : x1 = 2
  · replace hf := (if_pos c5).symm.trans hf
    refine lv_tableIn (off := 53) (tgt := 54) hx hb dX7_howMany_1 (by rw [c5]; decide) (by rw [c5]; decide) (by rw [c5]; rfl) (by decide) ?_
    refine lv_aload_n hx hb dX7_howMany_54 rfl (lv_at hl 0 rfl) ?_
    refine gf F hP in_X7_howMany_X7 0 rfl rfl 6 (by decide) 2 rfl rfl dX7_howMany_55 ?_
    replace hf : (some t_changes : Option (Int32)) = some rr := hf
    cases hf
    exact ret_i F hP hS dX7_howMany_58
  replace hf := (if_neg c5).symm.trans hf
  by_cases c6 : x1 = 3
  · replace hf := (if_pos c6).symm.trans hf
    refine lv_tableIn (off := 58) (tgt := 59) hx hb dX7_howMany_1 (by rw [c6]; decide) (by rw [c6]; decide) (by rw [c6]; rfl) (by decide) ?_
    refine lv_aload_n hx hb dX7_howMany_59 rfl (lv_at hl 0 rfl) ?_
    refine lv_aload_n hx hb dX7_howMany_60 rfl (lv_at hl 0 rfl) ?_
    obtain ⟨v7, e8, hf⟩ := bnd hf
    refine cV F hP hD hS (k_X7_wayNow l ad_t t_wills t_heirs t_kindOf t_worthOf t_thingOf t_changesOf t_changes t_heard t_heardHeir t_heardOne t_heardTwo t_heardMore t_pageLength t_page t_says t_dealt t_farOf t_endMany t_endMost t_endLeast t_endFew t_seedNow t_saved t_isKept t_keptWill t_keptChanges t_keptHeard t_keptWorth t_keptThing t_keptChangesOf t_keptHeir t_keptOne t_keptTwo t_keptMore t_h  e8) gX7_howMany_X7_wayNow rfl ⟨rfl, rfl⟩ nd_X7_wayNow ⟨Nat.le_of_ble_eq_true rfl, Nat.le_of_ble_eq_true rfl⟩ 0 7 rfl rfl rfl hl.1 rfl (Nat.le_of_ble_eq_true rfl) dX7_howMany_61 (pm0 (w_X7 cI cB ad_t t_wills t_heirs t_kindOf t_worthOf t_thingOf t_changesOf t_changes t_heard t_heardHeir t_heardOne t_heardTwo t_heardMore t_pageLength t_page t_says t_dealt t_farOf t_endMany t_endMost t_endLeast t_endFew t_seedNow t_saved t_isKept t_keptWill t_keptChanges t_keptHeard t_keptWorth t_keptThing t_keptChangesOf t_keptHeir t_keptOne t_keptTwo t_keptMore t_h)) (pm0 (w_X7 cI cB ad_t t_wills t_heirs t_kindOf t_worthOf t_thingOf t_changesOf t_changes t_heard t_heardHeir t_heardOne t_heardTwo t_heardMore t_pageLength t_page t_says t_dealt t_farOf t_endMany t_endMost t_endLeast t_endFew t_seedNow t_saved t_isKept t_keptWill t_keptChanges t_keptHeard t_keptWorth t_keptThing t_keptChangesOf t_keptHeir t_keptOne t_keptTwo t_keptMore t_h)) (fun H locs hP hD hS => ?_)
    obtain ⟨v9, e10, hf⟩ := bnd hf
    refine cV F hP hD hS (k_X7_sumBy l ad_t t_wills t_heirs t_kindOf t_worthOf t_thingOf t_changesOf t_changes t_heard t_heardHeir t_heardOne t_heardTwo t_heardMore t_pageLength t_page t_says t_dealt t_farOf t_endMany t_endMost t_endLeast t_endFew t_seedNow t_saved t_isKept t_keptWill t_keptChanges t_keptHeard t_keptWorth t_keptThing t_keptChangesOf t_keptHeir t_keptOne t_keptTwo t_keptMore t_h v7 e10) gX7_howMany_X7_sumBy rfl ⟨rfl, rfl⟩ nd_X7_sumBy ⟨Nat.le_of_ble_eq_true rfl, Nat.le_of_ble_eq_true rfl⟩ 0 7 rfl rfl rfl hl.1 rfl (Nat.le_of_ble_eq_true rfl) dX7_howMany_64 (pm0 (w_X7 cI cB ad_t t_wills t_heirs t_kindOf t_worthOf t_thingOf t_changesOf t_changes t_heard t_heardHeir t_heardOne t_heardTwo t_heardMore t_pageLength t_page t_says t_dealt t_farOf t_endMany t_endMost t_endLeast t_endFew t_seedNow t_saved t_isKept t_keptWill t_keptChanges t_keptHeard t_keptWorth t_keptThing t_keptChangesOf t_keptHeir t_keptOne t_keptTwo t_keptMore t_h)) (pm0 (w_X7 cI cB ad_t t_wills t_heirs t_kindOf t_worthOf t_thingOf t_changesOf t_changes t_heard t_heardHeir t_heardOne t_heardTwo t_heardMore t_pageLength t_page t_says t_dealt t_farOf t_endMany t_endMost t_endLeast t_endFew t_seedNow t_saved t_isKept t_keptWill t_keptChanges t_keptHeard t_keptWorth t_keptThing t_keptChangesOf t_keptHeir t_keptOne t_keptTwo t_keptMore t_h)) (fun H locs hP hD hS => ?_)
    replace hf : (some v9 : Option (Int32)) = some rr := hf
    cases hf
    exact ret_i F hP hS dX7_howMany_67
  replace hf := (if_neg c6).symm.trans hf
  by_cases c11 : x1 = 4
  · replace hf := (if_pos c11).symm.trans hf
    refine lv_tableIn (off := 67) (tgt := 68) hx hb dX7_howMany_1 (by rw [c11]; decide) (by rw [c11]; decide) (by rw [c11]; rfl) (by decide) ?_
    refine lv_aload_n hx hb dX7_howMany_68 rfl (lv_at hl 0 rfl) ?_
    refine gf F hP in_X7_howMany_X7 0 rfl rfl 7 (by decide) 3 rfl rfl dX7_howMany_69 ?_
    replace hf : (some t_heard : Option (Int32)) = some rr := hf
    cases hf
    exact ret_i F hP hS dX7_howMany_72
  replace hf := (if_neg c11).symm.trans hf
  by_cases c12 : x1 = 5
  · replace hf := (if_pos c12).symm.trans hf
    refine lv_tableIn (off := 72) (tgt := 73) hx hb dX7_howMany_1 (by rw [c12]; decide) (by rw [c12]; decide) (by rw [c12]; rfl) (by decide) ?_
    refine lv_aload_n hx hb dX7_howMany_73 rfl (lv_at hl 0 rfl) ?_
    refine gf F hP in_X7_howMany_X7 0 rfl rfl 12 (by decide) 4 rfl rfl dX7_howMany_74 ?_
    replace hf : (some t_pageLength : Option (Int32)) = some rr := hf
    cases hf
    exact ret_i F hP hS dX7_howMany_77
  replace hf := (if_neg c12).symm.trans hf
  by_cases c13 : x1 = 6
  · replace hf := (if_pos c13).symm.trans hf
    refine lv_tableIn (off := 77) (tgt := 78) hx hb dX7_howMany_1 (by rw [c13]; decide) (by rw [c13]; decide) (by rw [c13]; rfl) (by decide) ?_
    refine lv_aload_n hx hb dX7_howMany_78 rfl (lv_at hl 0 rfl) ?_
    refine gf F hP in_X7_howMany_X7 0 rfl rfl 0 (by decide) 5 rfl rfl dX7_howMany_79 ?_
    replace hf : (some t_wills : Option (Int32)) = some rr := hf
    cases hf
    exact ret_i F hP hS dX7_howMany_82
  replace hf := (if_neg c13).symm.trans hf
  have o14 : (x1 : Int32).toInt < 0 ∨ 6 < (x1 : Int32).toInt := by
    have z0 := lv_neT (a := 0) c1 (by decide)
    have z1 := lv_neT (a := 1) c2 (by decide)
    have z2 := lv_neT (a := 2) c5 (by decide)
    have z3 := lv_neT (a := 3) c6 (by decide)
    have z4 := lv_neT (a := 4) c11 (by decide)
    have z5 := lv_neT (a := 5) c12 (by decide)
    have z6 := lv_neT (a := 6) c13 (by decide)
    omega
  refine lv_tableOut (tgt := 83) hx hb dX7_howMany_1 o14 (by decide) ?_
  refine lv_bipush (v := (-102)) hx hb dX7_howMany_83 (by decide) ?_
  replace hf : (some (-102) : Option (Int32)) = some rr := hf
  cases hf
  exact ret_i F hP hS dX7_howMany_85

/-! X7_count -/
def rm_X7_count : Room := { frames := 3, cells := 0, slots := 0, locals := 65 }
theorem nd_X7_count : yX7_count.cls = RX7 ∧ yX7_count.cls ≠ "java/lang/invoke/MethodHandle" ∧ yX7_count.cls ≠ "java/lang/invoke/VarHandle" ∧ (parseMethodDescriptor yX7_count.desc).map (fun d => d.parameters.length) = some 1 := by decide +kernel
def f_X7_count (t_wills : Int32) (t_heirs : Int32) (t_worthOf : Nat → Int32) (t_thingOf : Nat → Int32) (t_changes : Int32) (t_heard : Int32) (t_pageLength : Int32) (x1 : Int32) : Option (Int32) := (f_X7_howMany t_wills t_heirs t_worthOf t_thingOf t_changes t_heard t_pageLength x1).bind (fun v1 => some v1)
set_option maxHeartbeats 4000000 in
set_option maxRecDepth 100000 in
theorem k_X7_count (l : Launch) {D : va_G} {cI cB : ClassId} {kK kV : Nat → Nat} (ad_t : Nat → Nat) (t_wills : Int32) (t_heirs : Int32) (t_kindOf : Nat → Int32) (t_worthOf : Nat → Int32) (t_thingOf : Nat → Int32) (t_changesOf : Nat → Int32) (t_changes : Int32) (t_heard : Int32) (t_heardHeir : Nat → Int32) (t_heardOne : Nat → Int32) (t_heardTwo : Nat → Int32) (t_heardMore : Nat → Int32) (t_pageLength : Int32) (t_page : Nat → Int32) (t_says : Nat → Int32) (t_dealt : Nat → Int32) (t_farOf : Nat → Int32) (t_endMany : Int32) (t_endMost : Int32) (t_endLeast : Int32) (t_endFew : Int32) (t_seedNow : Int64) (t_saved : Nat → Int32) (t_isKept : Int32) (t_keptWill : Int32) (t_keptChanges : Int32) (t_keptHeard : Int32) (t_keptWorth : Nat → Int32) (t_keptThing : Nat → Int32) (t_keptChangesOf : Nat → Int32) (t_keptHeir : Nat → Int32) (t_keptOne : Nat → Int32) (t_keptTwo : Nat → Int32) (t_keptMore : Nat → Int32) (t_h : Int64) (x1 : Int32) {rr : Int32}  (hf : f_X7_count t_wills t_heirs t_worthOf t_thingOf t_changes t_heard t_pageLength x1 = some rr) : Ct l yX7_count wsX7_count rm_X7_count D cI cB kK kV [.ref (ad_t 0), .int x1] (w_X7 cI cB ad_t t_wills t_heirs t_kindOf t_worthOf t_thingOf t_changesOf t_changes t_heard t_heardHeir t_heardOne t_heardTwo t_heardMore t_pageLength t_page t_says t_dealt t_farOf t_endMany t_endMost t_endLeast t_endFew t_seedNow t_saved t_isKept t_keptWill t_keptChanges t_keptHeard t_keptWorth t_keptThing t_keptChangesOf t_keptHeir t_keptOne t_keptTwo t_keptMore t_h) (w_X7 cI cB ad_t t_wills t_heirs t_kindOf t_worthOf t_thingOf t_changesOf t_changes t_heard t_heardHeir t_heardOne t_heardTwo t_heardMore t_pageLength t_page t_says t_dealt t_farOf t_endMany t_endMost t_endLeast t_endFew t_seedNow t_saved t_isKept t_keptWill t_keptChanges t_keptHeard t_keptWorth t_keptThing t_keptChangesOf t_keptHeir t_keptOne t_keptTwo t_keptMore t_h) (some (.int rr)) := by
  refine Ct.of (cc := cX7_count) (maxL := 2) (ret := (some .int)) (by decide) rfl (Nat.le_of_ble_eq_true rfl) rfl ?_
  intro p e s m below meth c A ls F hP hD hS hl
  have hl : lv_has ls 2 [(0, .ref (ad_t 0)), (1, .int x1)] := hl
  obtain ⟨hx, hb, hml, hown, hts, hrt, hlocks, hK, hA, hZ⟩ := id F
  obtain ⟨H, hH⟩ : ∃ H, H = s.heap := ⟨_, rfl⟩
  obtain ⟨locs, hLo⟩ : ∃ q : List Loc, q = [] := ⟨_, rfl⟩
  refine (?_ : W p l e rm_X7_count s m _ below meth c s.heap [] 0 0 _ _)
  rw [← hH, ← hLo]
  rw [← hH] at hP
  have hS : va_S A s.heap H locs := by rw [hH, hLo]; exact hS
  refine lv_aload_n hx hb dX7_count_0 rfl (lv_at hl 0 rfl) ?_
  refine lv_iload_n hx hb dX7_count_1 rfl (lv_at hl 1 rfl) ?_
  obtain ⟨v1, e2, hf⟩ := bnd hf
  refine cV F hP hD hS (k_X7_howMany l ad_t t_wills t_heirs t_kindOf t_worthOf t_thingOf t_changesOf t_changes t_heard t_heardHeir t_heardOne t_heardTwo t_heardMore t_pageLength t_page t_says t_dealt t_farOf t_endMany t_endMost t_endLeast t_endFew t_seedNow t_saved t_isKept t_keptWill t_keptChanges t_keptHeard t_keptWorth t_keptThing t_keptChangesOf t_keptHeir t_keptOne t_keptTwo t_keptMore t_h x1 e2) gX7_count_X7_howMany rfl ⟨rfl, rfl⟩ nd_X7_howMany ⟨Nat.le_of_ble_eq_true rfl, Nat.le_of_ble_eq_true rfl⟩ 0 7 rfl rfl rfl hl.1 rfl (Nat.le_of_ble_eq_true rfl) dX7_count_2 (pm0 (w_X7 cI cB ad_t t_wills t_heirs t_kindOf t_worthOf t_thingOf t_changesOf t_changes t_heard t_heardHeir t_heardOne t_heardTwo t_heardMore t_pageLength t_page t_says t_dealt t_farOf t_endMany t_endMost t_endLeast t_endFew t_seedNow t_saved t_isKept t_keptWill t_keptChanges t_keptHeard t_keptWorth t_keptThing t_keptChangesOf t_keptHeir t_keptOne t_keptTwo t_keptMore t_h)) (pm0 (w_X7 cI cB ad_t t_wills t_heirs t_kindOf t_worthOf t_thingOf t_changesOf t_changes t_heard t_heardHeir t_heardOne t_heardTwo t_heardMore t_pageLength t_page t_says t_dealt t_farOf t_endMany t_endMost t_endLeast t_endFew t_seedNow t_saved t_isKept t_keptWill t_keptChanges t_keptHeard t_keptWorth t_keptThing t_keptChangesOf t_keptHeir t_keptOne t_keptTwo t_keptMore t_h)) (fun H locs hP hD hS => ?_)
  replace hf : (some v1 : Option (Int32)) = some rr := hf
  cases hf
  exact ret_i F hP hS dX7_count_5

/-! X7_mix -/
def rm_X7_mix : Room := { frames := 0, cells := 0, slots := 0, locals := 0 }
theorem in_X7_mix_X7 : ∀ w ∈ u_ws RX7 TX7 35, w ∈ wsX7_mix := fun _ h => List.mem_cons_of_mem _ (List.mem_append_right _ (h))
theorem nd_X7_mix : yX7_mix.cls = RX7 ∧ yX7_mix.cls ≠ "java/lang/invoke/MethodHandle" ∧ yX7_mix.cls ≠ "java/lang/invoke/VarHandle" ∧ (parseMethodDescriptor yX7_mix.desc).map (fun d => d.parameters.length) = some 1 := by decide +kernel
def f_X7_mix (t_h : Int64) (x1 : Int64) : Option (Int64) := some ((31 * t_h) + x1)
set_option maxHeartbeats 4000000 in
set_option maxRecDepth 100000 in
theorem k_X7_mix (l : Launch) {D : va_G} {cI cB : ClassId} {kK kV : Nat → Nat} (ad_t : Nat → Nat) (t_wills : Int32) (t_heirs : Int32) (t_kindOf : Nat → Int32) (t_worthOf : Nat → Int32) (t_thingOf : Nat → Int32) (t_changesOf : Nat → Int32) (t_changes : Int32) (t_heard : Int32) (t_heardHeir : Nat → Int32) (t_heardOne : Nat → Int32) (t_heardTwo : Nat → Int32) (t_heardMore : Nat → Int32) (t_pageLength : Int32) (t_page : Nat → Int32) (t_says : Nat → Int32) (t_dealt : Nat → Int32) (t_farOf : Nat → Int32) (t_endMany : Int32) (t_endMost : Int32) (t_endLeast : Int32) (t_endFew : Int32) (t_seedNow : Int64) (t_saved : Nat → Int32) (t_isKept : Int32) (t_keptWill : Int32) (t_keptChanges : Int32) (t_keptHeard : Int32) (t_keptWorth : Nat → Int32) (t_keptThing : Nat → Int32) (t_keptChangesOf : Nat → Int32) (t_keptHeir : Nat → Int32) (t_keptOne : Nat → Int32) (t_keptTwo : Nat → Int32) (t_keptMore : Nat → Int32) (t_h : Int64) (x1 : Int64)  {g_t_h : Int64} (hf : f_X7_mix t_h x1 = some g_t_h) : Ct l yX7_mix wsX7_mix rm_X7_mix D cI cB kK kV [.ref (ad_t 0), .long x1] (w_X7 cI cB ad_t t_wills t_heirs t_kindOf t_worthOf t_thingOf t_changesOf t_changes t_heard t_heardHeir t_heardOne t_heardTwo t_heardMore t_pageLength t_page t_says t_dealt t_farOf t_endMany t_endMost t_endLeast t_endFew t_seedNow t_saved t_isKept t_keptWill t_keptChanges t_keptHeard t_keptWorth t_keptThing t_keptChangesOf t_keptHeir t_keptOne t_keptTwo t_keptMore t_h) (w_X7 cI cB ad_t t_wills t_heirs t_kindOf t_worthOf t_thingOf t_changesOf t_changes t_heard t_heardHeir t_heardOne t_heardTwo t_heardMore t_pageLength t_page t_says t_dealt t_farOf t_endMany t_endMost t_endLeast t_endFew t_seedNow t_saved t_isKept t_keptWill t_keptChanges t_keptHeard t_keptWorth t_keptThing t_keptChangesOf t_keptHeir t_keptOne t_keptTwo t_keptMore g_t_h) none := by
  refine Ct.of (cc := cX7_mix) (maxL := 3) (ret := none) (by decide) rfl (Nat.le_of_ble_eq_true rfl) rfl ?_
  intro p e s m below meth c A ls F hP hD hS hl
  have hl : lv_has ls 3 [(0, .ref (ad_t 0)), (1, .long x1)] := hl
  obtain ⟨hx, hb, hml, hown, hts, hrt, hlocks, hK, hA, hZ⟩ := id F
  obtain ⟨H, hH⟩ : ∃ H, H = s.heap := ⟨_, rfl⟩
  obtain ⟨locs, hLo⟩ : ∃ q : List Loc, q = [] := ⟨_, rfl⟩
  refine (?_ : W p l e rm_X7_mix s m _ below meth c s.heap [] 0 0 _ _)
  rw [← hH, ← hLo]
  rw [← hH] at hP
  have hS : va_S A s.heap H locs := by rw [hH, hLo]; exact hS
  refine lv_aload_n hx hb dX7_mix_0 rfl (lv_at hl 0 rfl) ?_
  refine lv_ldc2 (v := 31) hx hb hown (hts _ (List.mem_of_getElem? (i := 1) rfl)) dX7_mix_1 ?_
  refine lv_aload_n hx hb dX7_mix_4 rfl (lv_at hl 0 rfl) ?_
  refine gf F hP in_X7_mix_X7 0 rfl rfl 34 (by decide) 2 rfl rfl dX7_mix_5 ?_
  refine lv_lmul hx hb dX7_mix_8 ?_
  refine lv_lload_n hx hb dX7_mix_9 rfl (lv_at hl 1 rfl) ?_
  refine lv_ladd hx hb dX7_mix_10 ?_
  refine pf F hP hD hS in_X7_mix_X7 tyX7 tyX7_ok nmX7 0 rfl rfl 34 (by decide) 2 rfl rfl rfl rfl (Nat.le_of_ble_eq_true rfl) dX7_mix_11 (w_X7 cI cB ad_t t_wills t_heirs t_kindOf t_worthOf t_thingOf t_changesOf t_changes t_heard t_heardHeir t_heardOne t_heardTwo t_heardMore t_pageLength t_page t_says t_dealt t_farOf t_endMany t_endMost t_endLeast t_endFew t_seedNow t_saved t_isKept t_keptWill t_keptChanges t_keptHeard t_keptWorth t_keptThing t_keptChangesOf t_keptHeir t_keptOne t_keptTwo t_keptMore ((31 * t_h) + x1)) rfl (fun H locs hP hD hS => ?_)
  replace hf : (some ((31 * t_h) + x1) : Option (Int64)) = some g_t_h := hf
  cases hf
  exact ret_v F hP hS dX7_mix_14

