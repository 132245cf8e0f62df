/-! X7_areTwo -/
def rm_X7_areTwo : Room := { frames := 2, cells := 0, slots := 0, locals := 43 }
theorem nd_X7_areTwo : yX7_areTwo.cls = RX7 ∧ yX7_areTwo.cls ≠ "java/lang/invoke/MethodHandle" ∧ yX7_areTwo.cls ≠ "java/lang/invoke/VarHandle" ∧ (parseMethodDescriptor yX7_areTwo.desc).map (fun d => d.parameters.length) = some 2 := by decide +kernel
def f_X7_areTwo (t_heirs : Int32) (x1 : Int32) (x2 : Int32) : Option (Int32) := (f_X7_isHeir t_heirs x1).bind (fun v1 => (if v1 = 0 then some 0 else (f_X7_isHeir t_heirs x2).bind (fun v4 => (if v4 = 0 then some 0 else (if x1 = x2 then some 0 else some 1)))))
set_option maxHeartbeats 4000000 in
set_option maxRecDepth 100000 in
theorem k_X7_areTwo (l : Launch) {D : va_G} {cI cB : ClassId} {kK kV : Nat → Nat} (ad_t : Nat → Nat) (t_wills : Int32) (t_heirs : Int32) (t_kindOf : Nat → Int32) (t_worthOf : Nat → Int32) (t_thingOf : Nat → Int32) (t_changesOf : Nat → Int32) (t_changes : Int32) (t_heard : Int32) (t_heardHeir : Nat → Int32) (t_heardOne : Nat → Int32) (t_heardTwo : Nat → Int32) (t_heardMore : Nat → Int32) (t_pageLength : Int32) (t_page : Nat → Int32) (t_says : Nat → Int32) (t_dealt : Nat → Int32) (t_farOf : Nat → Int32) (t_endMany : Int32) (t_endMost : Int32) (t_endLeast : Int32) (t_endFew : Int32) (t_seedNow : Int64) (t_saved : Nat → Int32) (t_isKept : Int32) (t_keptWill : Int32) (t_keptChanges : Int32) (t_keptHeard : Int32) (t_keptWorth : Nat → Int32) (t_keptThing : Nat → Int32) (t_keptChangesOf : Nat → Int32) (t_keptHeir : Nat → Int32) (t_keptOne : Nat → Int32) (t_keptTwo : Nat → Int32) (t_keptMore : Nat → Int32) (t_h : Int64) (x1 : Int32) (x2 : Int32) {rr : Int32}  (hf : f_X7_areTwo t_heirs x1 x2 = some rr) : Ct l yX7_areTwo wsX7_areTwo rm_X7_areTwo D cI cB kK kV [.ref (ad_t 0), .int x1, .int x2] (w_X7 cI cB ad_t t_wills t_heirs t_kindOf t_worthOf t_thingOf t_changesOf t_changes t_heard t_heardHeir t_heardOne t_heardTwo t_heardMore t_pageLength t_page t_says t_dealt t_farOf t_endMany t_endMost t_endLeast t_endFew t_seedNow t_saved t_isKept t_keptWill t_keptChanges t_keptHeard t_keptWorth t_keptThing t_keptChangesOf t_keptHeir t_keptOne t_keptTwo t_keptMore t_h) (w_X7 cI cB ad_t t_wills t_heirs t_kindOf t_worthOf t_thingOf t_changesOf t_changes t_heard t_heardHeir t_heardOne t_heardTwo t_heardMore t_pageLength t_page t_says t_dealt t_farOf t_endMany t_endMost t_endLeast t_endFew t_seedNow t_saved t_isKept t_keptWill t_keptChanges t_keptHeard t_keptWorth t_keptThing t_keptChangesOf t_keptHeir t_keptOne t_keptTwo t_keptMore t_h) (some (.int rr)) := by
  refine Ct.of (cc := cX7_areTwo) (maxL := 3) (ret := (some .boolean)) (by decide) rfl (Nat.le_of_ble_eq_true rfl) rfl ?_
  intro p e s m below meth c A ls F hP hD hS hl
  have hl : lv_has ls 3 [(0, .ref (ad_t 0)), (1, .int x1), (2, .int x2)] := hl
  obtain ⟨hx, hb, hml, hown, hts, hrt, hlocks, hK, hA, hZ⟩ := id F
  obtain ⟨H, hH⟩ : ∃ H, H = s.heap := ⟨_, rfl⟩
  obtain ⟨locs, hLo⟩ : ∃ q : List Loc, q = [] := ⟨_, rfl⟩
  refine (?_ : W p l e rm_X7_areTwo s m _ below meth c s.heap [] 0 0 _ _)
  rw [← hH, ← hLo]
  rw [← hH] at hP
  have hS : va_S A s.heap H locs := by rw [hH, hLo]; exact hS
  refine lv_aload_n hx hb dX7_areTwo_0 rfl (lv_at hl 0 rfl) ?_
  refine lv_iload_n hx hb dX7_areTwo_1 rfl (lv_at hl 1 rfl) ?_
  obtain ⟨v1, e2, hf⟩ := bnd hf
  refine cV F hP hD hS (k_X7_isHeir l ad_t t_wills t_heirs t_kindOf t_worthOf t_thingOf t_changesOf t_changes t_heard t_heardHeir t_heardOne t_heardTwo t_heardMore t_pageLength t_page t_says t_dealt t_farOf t_endMany t_endMost t_endLeast t_endFew t_seedNow t_saved t_isKept t_keptWill t_keptChanges t_keptHeard t_keptWorth t_keptThing t_keptChangesOf t_keptHeir t_keptOne t_keptTwo t_keptMore t_h x1 e2) gX7_areTwo_X7_isHeir rfl ⟨rfl, rfl⟩ nd_X7_isHeir ⟨Nat.le_of_ble_eq_true rfl, Nat.le_of_ble_eq_true rfl⟩ 0 7 rfl rfl rfl hl.1 rfl (Nat.le_of_ble_eq_true rfl) dX7_areTwo_2 (pm0 (w_X7 cI cB ad_t t_wills t_heirs t_kindOf t_worthOf t_thingOf t_changesOf t_changes t_heard t_heardHeir t_heardOne t_heardTwo t_heardMore t_pageLength t_page t_says t_dealt t_farOf t_endMany t_endMost t_endLeast t_endFew t_seedNow t_saved t_isKept t_keptWill t_keptChanges t_keptHeard t_keptWorth t_keptThing t_keptChangesOf t_keptHeir t_keptOne t_keptTwo t_keptMore t_h)) (pm0 (w_X7 cI cB ad_t t_wills t_heirs t_kindOf t_worthOf t_thingOf t_changesOf t_changes t_heard t_heardHeir t_heardOne t_heardTwo t_heardMore t_pageLength t_page t_says t_dealt t_farOf t_endMany t_endMost t_endLeast t_endFew t_seedNow t_saved t_isKept t_keptWill t_keptChanges t_keptHeard t_keptWorth t_keptThing t_keptChangesOf t_keptHeir t_keptOne t_keptTwo t_keptMore t_h)) (fun H locs hP hD hS => ?_)
  refine lv_if_eq (tgt := 25) hx hb dX7_areTwo_5 (by decide) (fun c3 => ?_) (fun c3 => ?_)
  · replace hf := (if_pos c3).symm.trans hf
    refine lv_iconst (v := 0) hx hb dX7_areTwo_25 (by decide) ?_
    replace hf : (some 0 : Option (Int32)) = some rr := hf
    cases hf
    exact ret_z F rfl hP hS dX7_areTwo_26
  · replace hf := (if_neg c3).symm.trans hf
    refine lv_aload_n hx hb dX7_areTwo_8 rfl (lv_at hl 0 rfl) ?_
    refine lv_iload_n hx hb dX7_areTwo_9 rfl (lv_at hl 2 rfl) ?_
    obtain ⟨v4, e5, hf⟩ := bnd hf
    refine cV F hP hD hS (k_X7_isHeir l ad_t t_wills t_heirs t_kindOf t_worthOf t_thingOf t_changesOf t_changes t_heard t_heardHeir t_heardOne t_heardTwo t_heardMore t_pageLength t_page t_says t_dealt t_farOf t_endMany t_endMost t_endLeast t_endFew t_seedNow t_saved t_isKept t_keptWill t_keptChanges t_keptHeard t_keptWorth t_keptThing t_keptChangesOf t_keptHeir t_keptOne t_keptTwo t_keptMore t_h x2 e5) gX7_areTwo_X7_isHeir rfl ⟨rfl, rfl⟩ nd_X7_isHeir ⟨Nat.le_of_ble_eq_true rfl, Nat.le_of_ble_eq_true rfl⟩ 0 7 rfl rfl rfl hl.1 rfl (Nat.le_of_ble_eq_true rfl) dX7_areTwo_10 (pm0 (w_X7 cI cB ad_t t_wills t_heirs t_kindOf t_worthOf t_thingOf t_changesOf t_changes t_heard t_heardHeir t_heardOne t_heardTwo t_heardMore t_pageLength t_page t_says t_dealt t_farOf t_endMany t_endMost t_endLeast t_endFew t_seedNow t_saved t_isKept t_keptWill t_keptChanges t_keptHeard t_keptWorth t_keptThing t_keptChangesOf t_keptHeir t_keptOne t_keptTwo t_keptMore t_h)) (pm0 (w_X7 cI cB ad_t t_wills t_heirs t_kindOf t_worthOf t_thingOf t_changesOf t_changes t_heard t_heardHeir t_heardOne t_heardTwo t_heardMore t_pageLength t_page t_says t_dealt t_farOf t_endMany t_endMost t_endLeast t_endFew t_seedNow t_saved t_isKept t_keptWill t_keptChanges t_keptHeard t_keptWorth t_keptThing t_keptChangesOf t_keptHeir t_keptOne t_keptTwo t_keptMore t_h)) (fun H locs hP hD hS => ?_)
    refine lv_if_eq (tgt := 25) hx hb dX7_areTwo_13 (by decide) (fun c6 => ?_) (fun c6 => ?_)
    · replace hf := (if_pos c6).symm.trans hf
      refine lv_iconst (v := 0) hx hb dX7_areTwo_25 (by decide) ?_
      replace hf : (some 0 : Option (Int32)) = some rr := hf
      cases hf
      exact ret_z F rfl hP hS dX7_areTwo_26
    · replace hf := (if_neg c6).symm.trans hf
      refine lv_iload_n hx hb dX7_areTwo_16 rfl (lv_at hl 1 rfl) ?_
      refine lv_iload_n hx hb dX7_areTwo_17 rfl (lv_at hl 2 rfl) ?_
      refine lv_icmp_eq (tgt := 25) hx hb dX7_areTwo_18 (by decide) (fun c7 => ?_) (fun c7 => ?_)
      · replace hf := (if_pos c7).symm.trans hf
        refine lv_iconst (v := 0) hx hb dX7_areTwo_25 (by decide) ?_
        replace hf : (some 0 : Option (Int32)) = some rr := hf
        cases hf
        exact ret_z F rfl hP hS dX7_areTwo_26
      · replace hf := (if_neg c7).symm.trans hf
        refine lv_iconst (v := 1) hx hb dX7_areTwo_21 (by decide) ?_
        refine lv_goto (tgt := 26) hx hb dX7_areTwo_22 (by decide) ?_
        replace hf : (some 1 : Option (Int32)) = some rr := hf
        cases hf
        exact ret_z F rfl hP hS dX7_areTwo_26

/-! X7_isAllowed -/
def rm_X7_isAllowed : Room := { frames := 0, cells := 0, slots := 0, locals := 0 }
theorem in_X7_isAllowed_X7 : ∀ w ∈ u_ws RX7 TX7 35, w ∈ wsX7_isAllowed := fun _ h => List.mem_cons_of_mem _ (List.mem_append_right _ (h))
theorem nd_X7_isAllowed : yX7_isAllowed.cls = RX7 ∧ yX7_isAllowed.cls ≠ "java/lang/invoke/MethodHandle" ∧ yX7_isAllowed.cls ≠ "java/lang/invoke/VarHandle" ∧ (parseMethodDescriptor yX7_isAllowed.desc).map (fun d => d.parameters.length) = some 4 := by decide +kernel
def f_X7_isAllowed (t_says : Nat → Int32) (x1 : Int32) (x2 : Int32) (x3 : Int32) (x4 : Int32) : Option (Int32) := (rd t_says 16 ((4 * x1) + x4)).bind (fun v1 => (rd t_says 16 ((4 * x3) + x4)).bind (fun v2 => (if v2 ≤ v1 then some 0 else (rd t_says 16 ((4 * x3) + x2)).bind (fun v4 => (rd t_says 16 ((4 * x1) + x2)).bind (fun v5 => (if v5 ≤ v4 then some 0 else some 1))))))
set_option maxHeartbeats 4000000 in
set_option maxRecDepth 100000 in
theorem k_X7_isAllowed (l : Launch) {D : va_G} {cI cB : ClassId} {kK kV : Nat → Nat} (ad_t : Nat → Nat) (t_wills : Int32) (t_heirs : Int32) (t_kindOf : Nat → Int32) (t_worthOf : Nat → Int32) (t_thingOf : Nat → Int32) (t_changesOf : Nat → Int32) (t_changes : Int32) (t_heard : Int32) (t_heardHeir : Nat → Int32) (t_heardOne : Nat → Int32) (t_heardTwo : Nat → Int32) (t_heardMore : Nat → Int32) (t_pageLength : Int32) (t_page : Nat → Int32) (t_says : Nat → Int32) (t_dealt : Nat → Int32) (t_farOf : Nat → Int32) (t_endMany : Int32) (t_endMost : Int32) (t_endLeast : Int32) (t_endFew : Int32) (t_seedNow : Int64) (t_saved : Nat → Int32) (t_isKept : Int32) (t_keptWill : Int32) (t_keptChanges : Int32) (t_keptHeard : Int32) (t_keptWorth : Nat → Int32) (t_keptThing : Nat → Int32) (t_keptChangesOf : Nat → Int32) (t_keptHeir : Nat → Int32) (t_keptOne : Nat → Int32) (t_keptTwo : Nat → Int32) (t_keptMore : Nat → Int32) (t_h : Int64) (x1 : Int32) (x2 : Int32) (x3 : Int32) (x4 : Int32) {rr : Int32}  (hf : f_X7_isAllowed t_says x1 x2 x3 x4 = some rr) : Ct l yX7_isAllowed wsX7_isAllowed rm_X7_isAllowed D cI cB kK kV [.ref (ad_t 0), .int x1, .int x2, .int x3, .int x4] (w_X7 cI cB ad_t t_wills t_heirs t_kindOf t_worthOf t_thingOf t_changesOf t_changes t_heard t_heardHeir t_heardOne t_heardTwo t_heardMore t_pageLength t_page t_says t_dealt t_farOf t_endMany t_endMost t_endLeast t_endFew t_seedNow t_saved t_isKept t_keptWill t_keptChanges t_keptHeard t_keptWorth t_keptThing t_keptChangesOf t_keptHeir t_keptOne t_keptTwo t_keptMore t_h) (w_X7 cI cB ad_t t_wills t_heirs t_kindOf t_worthOf t_thingOf t_changesOf t_changes t_heard t_heardHeir t_heardOne t_heardTwo t_heardMore t_pageLength t_page t_says t_dealt t_farOf t_endMany t_endMost t_endLeast t_endFew t_seedNow t_saved t_isKept t_keptWill t_keptChanges t_keptHeard t_keptWorth t_keptThing t_keptChangesOf t_keptHeir t_keptOne t_keptTwo t_keptMore t_h) (some (.int rr)) := by
  refine Ct.of (cc := cX7_isAllowed) (maxL := 5) (ret := (some .boolean)) (by decide) rfl (Nat.le_of_ble_eq_true rfl) rfl ?_
  intro p e s m below meth c A ls F hP hD hS hl
  have hl : lv_has ls 5 [(0, .ref (ad_t 0)), (1, .int x1), (2, .int x2), (3, .int x3), (4, .int x4)] := hl
  obtain ⟨hx, hb, hml, hown, hts, hrt, hlocks, hK, hA, hZ⟩ := id F
  obtain ⟨H, hH⟩ : ∃ H, H = s.heap := ⟨_, rfl⟩
  obtain ⟨locs, hLo⟩ : ∃ q : List Loc, q = [] := ⟨_, rfl⟩
  refine (?_ : W p l e rm_X7_isAllowed s m _ below meth c s.heap [] 0 0 _ _)
  rw [← hH, ← hLo]
  rw [← hH] at hP
  have hS : va_S A s.heap H locs := by rw [hH, hLo]; exact hS
  refine lv_aload_n hx hb dX7_isAllowed_0 rfl (lv_at hl 0 rfl) ?_
  refine gf F hP in_X7_isAllowed_X7 0 rfl rfl 14 (by decide) 1 rfl rfl dX7_isAllowed_1 ?_
  refine lv_iconst (v := 4) hx hb dX7_isAllowed_4 (by decide) ?_
  refine lv_iload_n hx hb dX7_isAllowed_5 rfl (lv_at hl 1 rfl) ?_
  refine lv_imul hx hb dX7_isAllowed_6 ?_
  refine lv_iload hx hb dX7_isAllowed_7 (lv_at hl 4 rfl) ?_
  refine lv_iadd hx hb dX7_isAllowed_9 ?_
  obtain ⟨v1, ev1, hf⟩ := bnd hf
  refine ald F hP 10 rfl ev1 dX7_isAllowed_10 ?_
  refine lv_aload_n hx hb dX7_isAllowed_11 rfl (lv_at hl 0 rfl) ?_
  refine gf F hP in_X7_isAllowed_X7 0 rfl rfl 14 (by decide) 1 rfl rfl dX7_isAllowed_12 ?_
  refine lv_iconst (v := 4) hx hb dX7_isAllowed_15 (by decide) ?_
  refine lv_iload_n hx hb dX7_isAllowed_16 rfl (lv_at hl 3 rfl) ?_
  refine lv_imul hx hb dX7_isAllowed_17 ?_
  refine lv_iload hx hb dX7_isAllowed_18 (lv_at hl 4 rfl) ?_
  refine lv_iadd hx hb dX7_isAllowed_20 ?_
  obtain ⟨v2, ev2, hf⟩ := bnd hf
  refine ald F hP 10 rfl ev2 dX7_isAllowed_21 ?_
  refine lv_icmp_ge (tgt := 52) hx hb dX7_isAllowed_22 (by decide) (fun c3 => ?_) (fun c3 => ?_)
  · replace hf := (if_pos c3).symm.trans hf
    refine lv_iconst (v := 0) hx hb dX7_isAllowed_52 (by decide) ?_
    replace hf : (some 0 : Option (Int32)) = some rr := hf
    cases hf
    exact ret_z F rfl hP hS dX7_isAllowed_53
  · replace hf := (if_neg c3).symm.trans hf
    refine lv_aload_n hx hb dX7_isAllowed_25 rfl (lv_at hl 0 rfl) ?_
    refine gf F hP in_X7_isAllowed_X7 0 rfl rfl 14 (by decide) 1 rfl rfl dX7_isAllowed_26 ?_
    refine lv_iconst (v := 4) hx hb dX7_isAllowed_29 (by decide) ?_
    refine lv_iload_n hx hb dX7_isAllowed_30 rfl (lv_at hl 3 rfl) ?_
    refine lv_imul hx hb dX7_isAllowed_31 ?_
    refine lv_iload_n hx hb dX7_isAllowed_32 rfl (lv_at hl 2 rfl) ?_
    refine lv_iadd hx hb dX7_isAllowed_33 ?_
    obtain ⟨v4, ev4, hf⟩ := bnd hf
    refine ald F hP 10 rfl ev4 dX7_isAllowed_34 ?_
    refine lv_aload_n hx hb dX7_isAllowed_35 rfl (lv_at hl 0 rfl) ?_
    refine gf F hP in_X7_isAllowed_X7 0 rfl rfl 14 (by decide) 1 rfl rfl dX7_isAllowed_36 ?_
    refine lv_iconst (v := 4) hx hb dX7_isAllowed_39 (by decide) ?_
    refine lv_iload_n hx hb dX7_isAllowed_40 rfl (lv_at hl 1 rfl) ?_
    refine lv_imul hx hb dX7_isAllowed_41 ?_
    refine lv_iload_n hx hb dX7_isAllowed_42 rfl (lv_at hl 2 rfl) ?_
    refine lv_iadd hx hb dX7_isAllowed_43 ?_
    obtain ⟨v5, ev5, hf⟩ := bnd hf
    refine ald F hP 10 rfl ev5 dX7_isAllowed_44 ?_
    refine lv_icmp_ge (tgt := 52) hx hb dX7_isAllowed_45 (by decide) (fun c6 => ?_) (fun c6 => ?_)
    · replace hf := (if_pos c6).symm.trans hf
      refine lv_iconst (v := 0) hx hb dX7_isAllowed_52 (by decide) ?_
      replace hf : (some 0 : Option (Int32)) = some rr := hf
      cases hf
      exact ret_z F rfl hP hS dX7_isAllowed_53
    · replace hf := (if_neg c6).symm.trans hf
      refine lv_iconst (v := 1) hx hb dX7_isAllowed_48 (by decide) ?_
      refine lv_goto (tgt := 53) hx hb dX7_isAllowed_49 (by decide) ?_
      replace hf : (some 1 : Option (Int32)) = some rr := hf
      cases hf
      exact ret_z F rfl hP hS dX7_isAllowed_53

/-! X7_isWished -/
def rm_X7_isWished : Room := { frames := 0, cells := 0, slots := 0, locals := 0 }
theorem in_X7_isWished_X7 : ∀ w ∈ u_ws RX7 TX7 35, w ∈ wsX7_isWished := fun _ h => List.mem_cons_of_mem _ (List.mem_append_right _ (h))
theorem nd_X7_isWished : yX7_isWished.cls = RX7 ∧ yX7_isWished.cls ≠ "java/lang/invoke/MethodHandle" ∧ yX7_isWished.cls ≠ "java/lang/invoke/VarHandle" ∧ (parseMethodDescriptor yX7_isWished.desc).map (fun d => d.parameters.length) = some 4 := by decide +kernel
def f_X7_isWished (t_worthOf : Nat → Int32) (x1 : Int32) (x2 : Int32) (x3 : Int32) (x4 : Int32) : Option (Int32) := (rd t_worthOf 16 ((4 * x1) + x4)).bind (fun v1 => (rd t_worthOf 16 ((4 * x1) + x2)).bind (fun v2 => (if v1 ≤ v2 then some 0 else (rd t_worthOf 16 ((4 * x3) + x2)).bind (fun v4 => (rd t_worthOf 16 ((4 * x3) + x4)).bind (fun v5 => (if v4 ≤ v5 then some 0 else some 1))))))
set_option maxHeartbeats 4000000 in
set_option maxRecDepth 100000 in
theorem k_X7_isWished (l : Launch) {D : va_G} {cI cB : ClassId} {kK kV : Nat → Nat} (ad_t : Nat → Nat) (t_wills : Int32) (t_heirs : Int32) (t_kindOf : Nat → Int32) (t_worthOf : Nat → Int32) (t_thingOf : Nat → Int32) (t_changesOf : Nat → Int32) (t_changes : Int32) (t_heard : Int32) (t_heardHeir : Nat → Int32) (t_heardOne : Nat → Int32) (t_heardTwo : Nat → Int32) (t_heardMore : Nat → Int32) (t_pageLength : Int32) (t_page : Nat → Int32) (t_says : Nat → Int32) (t_dealt : Nat → Int32) (t_farOf : Nat → Int32) (t_endMany : Int32) (t_endMost : Int32) (t_endLeast : Int32) (t_endFew : Int32) (t_seedNow : Int64) (t_saved : Nat → Int32) (t_isKept : Int32) (t_keptWill : Int32) (t_keptChanges : Int32) (t_keptHeard : Int32) (t_keptWorth : Nat → Int32) (t_keptThing : Nat → Int32) (t_keptChangesOf : Nat → Int32) (t_keptHeir : Nat → Int32) (t_keptOne : Nat → Int32) (t_keptTwo : Nat → Int32) (t_keptMore : Nat → Int32) (t_h : Int64) (x1 : Int32) (x2 : Int32) (x3 : Int32) (x4 : Int32) {rr : Int32}  (hf : f_X7_isWished t_worthOf x1 x2 x3 x4 = some rr) : Ct l yX7_isWished wsX7_isWished rm_X7_isWished D cI cB kK kV [.ref (ad_t 0), .int x1, .int x2, .int x3, .int x4] (w_X7 cI cB ad_t t_wills t_heirs t_kindOf t_worthOf t_thingOf t_changesOf t_changes t_heard t_heardHeir t_heardOne t_heardTwo t_heardMore t_pageLength t_page t_says t_dealt t_farOf t_endMany t_endMost t_endLeast t_endFew t_seedNow t_saved t_isKept t_keptWill t_keptChanges t_keptHeard t_keptWorth t_keptThing t_keptChangesOf t_keptHeir t_keptOne t_keptTwo t_keptMore t_h) (w_X7 cI cB ad_t t_wills t_heirs t_kindOf t_worthOf t_thingOf t_changesOf t_changes t_heard t_heardHeir t_heardOne t_heardTwo t_heardMore t_pageLength t_page t_says t_dealt t_farOf t_endMany t_endMost t_endLeast t_endFew t_seedNow t_saved t_isKept t_keptWill t_keptChanges t_keptHeard t_keptWorth t_keptThing t_keptChangesOf t_keptHeir t_keptOne t_keptTwo t_keptMore t_h) (some (.int rr)) := by
  refine Ct.of (cc := cX7_isWished) (maxL := 5) (ret := (some .boolean)) (by decide) rfl (Nat.le_of_ble_eq_true rfl) rfl ?_
  intro p e s m below meth c A ls F hP hD hS hl
  have hl : lv_has ls 5 [(0, .ref (ad_t 0)), (1, .int x1), (2, .int x2), (3, .int x3), (4, .int x4)] := hl
  obtain ⟨hx, hb, hml, hown, hts, hrt, hlocks, hK, hA, hZ⟩ := id F
  obtain ⟨H, hH⟩ : ∃ H, H = s.heap := ⟨_, rfl⟩
  obtain ⟨locs, hLo⟩ : ∃ q : List Loc, q = [] := ⟨_, rfl⟩
  refine (?_ : W p l e rm_X7_isWished s m _ below meth c s.heap [] 0 0 _ _)
  rw [← hH, ← hLo]
  rw [← hH] at hP
  have hS : va_S A s.heap H locs := by rw [hH, hLo]; exact hS
  refine lv_aload_n hx hb dX7_isWished_0 rfl (lv_at hl 0 rfl) ?_
  refine gf F hP in_X7_isWished_X7 0 rfl rfl 3 (by decide) 1 rfl rfl dX7_isWished_1 ?_
  refine lv_iconst (v := 4) hx hb dX7_isWished_4 (by decide) ?_
  refine lv_iload_n hx hb dX7_isWished_5 rfl (lv_at hl 1 rfl) ?_
  refine lv_imul hx hb dX7_isWished_6 ?_
  refine lv_iload hx hb dX7_isWished_7 (lv_at hl 4 rfl) ?_
  refine lv_iadd hx hb dX7_isWished_9 ?_
  obtain ⟨v1, ev1, hf⟩ := bnd hf
  refine ald F hP 2 rfl ev1 dX7_isWished_10 ?_
  refine lv_aload_n hx hb dX7_isWished_11 rfl (lv_at hl 0 rfl) ?_
  refine gf F hP in_X7_isWished_X7 0 rfl rfl 3 (by decide) 1 rfl rfl dX7_isWished_12 ?_
  refine lv_iconst (v := 4) hx hb dX7_isWished_15 (by decide) ?_
  refine lv_iload_n hx hb dX7_isWished_16 rfl (lv_at hl 1 rfl) ?_
  refine lv_imul hx hb dX7_isWished_17 ?_
  refine lv_iload_n hx hb dX7_isWished_18 rfl (lv_at hl 2 rfl) ?_
  refine lv_iadd hx hb dX7_isWished_19 ?_
  obtain ⟨v2, ev2, hf⟩ := bnd hf
  refine ald F hP 2 rfl ev2 dX7_isWished_20 ?_
  refine lv_icmp_le (tgt := 52) hx hb dX7_isWished_21 (by decide) (fun c3 => ?_) (fun c3 => ?_)
  · replace hf := (if_pos c3).symm.trans hf
    refine lv_iconst (v := 0) hx hb dX7_isWished_52 (by decide) ?_
    replace hf : (some 0 : Option (Int32)) = some rr := hf
    cases hf
    exact ret_z F rfl hP hS dX7_isWished_53
  · replace hf := (if_neg c3).symm.trans hf
    refine lv_aload_n hx hb dX7_isWished_24 rfl (lv_at hl 0 rfl) ?_
    refine gf F hP in_X7_isWished_X7 0 rfl rfl 3 (by decide) 1 rfl rfl dX7_isWished_25 ?_
    refine lv_iconst (v := 4) hx hb dX7_isWished_28 (by decide) ?_
    refine lv_iload_n hx hb dX7_isWished_29 rfl (lv_at hl 3 rfl) ?_
    refine lv_imul hx hb dX7_isWished_30 ?_
    refine lv_iload_n hx hb dX7_isWished_31 rfl (lv_at hl 2 rfl) ?_
    refine lv_iadd hx hb dX7_isWished_32 ?_
    obtain ⟨v4, ev4, hf⟩ := bnd hf
    refine ald F hP 2 rfl ev4 dX7_isWished_33 ?_
    refine lv_aload_n hx hb dX7_isWished_34 rfl (lv_at hl 0 rfl) ?_
    refine gf F hP in_X7_isWished_X7 0 rfl rfl 3 (by decide) 1 rfl rfl dX7_isWished_35 ?_
    refine lv_iconst (v := 4) hx hb dX7_isWished_38 (by decide) ?_
    refine lv_iload_n hx hb dX7_isWished_39 rfl (lv_at hl 3 rfl) ?_
    refine lv_imul hx hb dX7_isWished_40 ?_
    refine lv_iload hx hb dX7_isWished_41 (lv_at hl 4 rfl) ?_
    refine lv_iadd hx hb dX7_isWished_43 ?_
    obtain ⟨v5, ev5, hf⟩ := bnd hf
    refine ald F hP 2 rfl ev5 dX7_isWished_44 ?_
    refine lv_icmp_le (tgt := 52) hx hb dX7_isWished_45 (by decide) (fun c6 => ?_) (fun c6 => ?_)
    · replace hf := (if_pos c6).symm.trans hf
      refine lv_iconst (v := 0) hx hb dX7_isWished_52 (by decide) ?_
      replace hf : (some 0 : Option (Int32)) = some rr := hf
      cases hf
      exact ret_z F rfl hP hS dX7_isWished_53
    · replace hf := (if_neg c6).symm.trans hf
      refine lv_iconst (v := 1) hx hb dX7_isWished_48 (by decide) ?_
      refine lv_goto (tgt := 53) hx hb dX7_isWished_49 (by decide) ?_
      replace hf : (some 1 : Option (Int32)) = some rr := hf
      cases hf
      exact ret_z F rfl hP hS dX7_isWished_53

/-! X7_mayNow -/
def rm_X7_mayNow : Room := { frames := 2, cells := 0, slots := 0, locals := 45 }
theorem in_X7_mayNow_X7 : ∀ w ∈ u_ws RX7 TX7 35, w ∈ wsX7_mayNow := fun _ h => List.mem_cons_of_mem _ (List.mem_append_right _ (h))
theorem nd_X7_mayNow : yX7_mayNow.cls = RX7 ∧ yX7_mayNow.cls ≠ "java/lang/invoke/MethodHandle" ∧ yX7_mayNow.cls ≠ "java/lang/invoke/VarHandle" ∧ (parseMethodDescriptor yX7_mayNow.desc).map (fun d => d.parameters.length) = some 2 := by decide +kernel
def f_X7_mayNow_58 (t_heirs : Int32) (t_kindOf : Nat → Int32) (t_worthOf : Nat → Int32) (t_thingOf : Nat → Int32)  (k0 : Int32) (k1 : Int32) (t_says : Nat → Int32) : Option (Int32 × (Nat → Int32)) := some ((k1 + k0), t_says)
def f_X7_mayNow_30 (t_heirs : Int32) (t_kindOf : Nat → Int32) (t_worthOf : Nat → Int32) (t_thingOf : Nat → Int32)  (x1 : Int32) (x2 : Int32) (k0 : Int32) (t_says : Nat → Int32) : Option (Int32 × (Nat → Int32)) := (rd t_thingOf 4 x1).bind (fun v1 => (rd t_thingOf 4 x2).bind (fun v2 => (f_X7_isWished t_worthOf x1 v1 x2 v2).bind (fun v3 => (if v3 = 0 then f_X7_mayNow_58 t_heirs t_kindOf t_worthOf t_thingOf 0 k0 t_says else f_X7_mayNow_58 t_heirs t_kindOf t_worthOf t_thingOf 1 k0 t_says))))
def f_X7_mayNow (t_heirs : Int32) (t_kindOf : Nat → Int32) (t_worthOf : Nat → Int32) (t_thingOf : Nat → Int32) (t_says : Nat → Int32) (x1 : Int32) (x2 : Int32) : Option (Int32 × (Nat → Int32)) := (f_X7_laySays t_heirs t_kindOf t_worthOf t_says).bind (fun g1 => (rd t_thingOf 4 x1).bind (fun v3 => (rd t_thingOf 4 x2).bind (fun v4 => (f_X7_isAllowed g1 x1 v3 x2 v4).bind (fun v5 => (if v5 = 0 then f_X7_mayNow_30 t_heirs t_kindOf t_worthOf t_thingOf x1 x2 0 g1 else f_X7_mayNow_30 t_heirs t_kindOf t_worthOf t_thingOf x1 x2 2 g1)))))
set_option maxHeartbeats 4000000 in
set_option maxRecDepth 100000 in
theorem b_X7_mayNow_58 {p : Program} {l : Launch} {e : Env} {s : State} {m : MethodId} {args : Array Value} {below : List Frame} {meth : Method} {c : Code} {D : va_G} {cI cB : ClassId} {kK kV : Nat → Nat} {A : Nat → Prop} (F : Fx p m c s meth args cX7_mayNow 4 RX7 wsX7_mayNow (some .int) D cI cB kK kV A) {ad_t : Nat → Nat} {t_wills : Int32} {t_heirs : Int32} {t_kindOf : Nat → Int32} {t_worthOf : Nat → Int32} {t_thingOf : Nat → Int32} {t_changesOf : Nat → Int32} {t_changes : Int32} {t_heard : Int32} {t_heardHeir : Nat → Int32} {t_heardOne : Nat → Int32} {t_heardTwo : Nat → Int32} {t_heardMore : Nat → Int32} {t_pageLength : Int32} {t_page : Nat → Int32} {t_dealt : Nat → Int32} {t_farOf : Nat → Int32} {t_endMany : Int32} {t_endMost : Int32} {t_endLeast : Int32} {t_endFew : Int32} {t_seedNow : Int64} {t_saved : Nat → Int32} {t_isKept : Int32} {t_keptWill : Int32} {t_keptChanges : Int32} {t_keptHeard : Int32} {t_keptWorth : Nat → Int32} {t_keptThing : Nat → Int32} {t_keptChangesOf : Nat → Int32} {t_keptHeir : Nat → Int32} {t_keptOne : Nat → Int32} {t_keptTwo : Nat → Int32} {t_keptMore : Nat → Int32} {t_h : Int64} {rr : Int32} {g_t_says : Nat → Int32} : ∀ (k0 : Int32) (k1 : Int32) (t_says : Nat → Int32) (H : Heap) (locs : List Loc) (ls : Array Slot), va_P D vwCl (w_X7 cI cB ad_t t_wills t_heirs t_kindOf t_worthOf t_thingOf t_changesOf t_changes t_heard t_heardHeir t_heardOne t_heardTwo t_heardMore t_pageLength t_page t_says t_dealt t_farOf t_endMany t_endMost t_endLeast t_endFew t_seedNow t_saved t_isKept t_keptWill t_keptChanges t_keptHeard t_keptWorth t_keptThing t_keptChangesOf t_keptHeir t_keptOne t_keptTwo t_keptMore t_h) H → va_D A (w_X7 cI cB ad_t t_wills t_heirs t_kindOf t_worthOf t_thingOf t_changesOf t_changes t_heard t_heardHeir t_heardOne t_heardTwo t_heardMore t_pageLength t_page t_says t_dealt t_farOf t_endMany t_endMost t_endLeast t_endFew t_seedNow t_saved t_isKept t_keptWill t_keptChanges t_keptHeard t_keptWorth t_keptThing t_keptChangesOf t_keptHeir t_keptOne t_keptTwo t_keptMore t_h) → va_S A s.heap H locs → lv_has ls 4 [(0, .ref (ad_t 0))] → f_X7_mayNow_58 t_heirs t_kindOf t_worthOf t_thingOf  k0 k1 t_says = some (rr, g_t_says) → W p l e rm_X7_mayNow s m args below meth c H locs 0 0 (Zq D below args s A (w_X7 cI cB ad_t t_wills t_heirs t_kindOf t_worthOf t_thingOf t_changesOf t_changes t_heard t_heardHeir t_heardOne t_heardTwo t_heardMore t_pageLength t_page g_t_says t_dealt t_farOf t_endMany t_endMost t_endLeast t_endFew t_seedNow t_saved t_isKept t_keptWill t_keptChanges t_keptHeard t_keptWorth t_keptThing t_keptChangesOf t_keptHeir t_keptOne t_keptTwo t_keptMore t_h) (some (.int rr))) (F0 m 58 ls [.int k0, .int k1]) := by
  obtain ⟨hx, hb, hml, hown, hts, hrt, hlocks, hK, hA, hZ⟩ := id F
  intro k0 k1 t_says H locs ls hP hD hS hl hf
  refine lv_iadd hx hb dX7_mayNow_58 ?_
  replace hf : (some ((k1 + k0), t_says) : Option (Int32 × (Nat → Int32))) = some (rr, g_t_says) := hf
  cases hf
  exact ret_i F hP hS dX7_mayNow_59

set_option maxHeartbeats 4000000 in
set_option maxRecDepth 100000 in
theorem b_X7_mayNow_30 {p : Program} {l : Launch} {e : Env} {s : State} {m : MethodId} {args : Array Value} {below : List Frame} {meth : Method} {c : Code} {D : va_G} {cI cB : ClassId} {kK kV : Nat → Nat} {A : Nat → Prop} (F : Fx p m c s meth args cX7_mayNow 4 RX7 wsX7_mayNow (some .int) D cI cB kK kV A) {ad_t : Nat → Nat} {t_wills : Int32} {t_heirs : Int32} {t_kindOf : Nat → Int32} {t_worthOf : Nat → Int32} {t_thingOf : Nat → Int32} {t_changesOf : Nat → Int32} {t_changes : Int32} {t_heard : Int32} {t_heardHeir : Nat → Int32} {t_heardOne : Nat → Int32} {t_heardTwo : Nat → Int32} {t_heardMore : Nat → Int32} {t_pageLength : Int32} {t_page : Nat → Int32} {t_dealt : Nat → Int32} {t_farOf : Nat → Int32} {t_endMany : Int32} {t_endMost : Int32} {t_endLeast : Int32} {t_endFew : Int32} {t_seedNow : Int64} {t_saved : Nat → Int32} {t_isKept : Int32} {t_keptWill : Int32} {t_keptChanges : Int32} {t_keptHeard : Int32} {t_keptWorth : Nat → Int32} {t_keptThing : Nat → Int32} {t_keptChangesOf : Nat → Int32} {t_keptHeir : Nat → Int32} {t_keptOne : Nat → Int32} {t_keptTwo : Nat → Int32} {t_keptMore : Nat → Int32} {t_h : Int64} {rr : Int32} {g_t_says : Nat → Int32} : ∀ (x1 : Int32) (x2 : Int32) (k0 : Int32) (t_says : Nat → Int32) (H : Heap) (locs : List Loc) (ls : Array Slot), va_P D vwCl (w_X7 cI cB ad_t t_wills t_heirs t_kindOf t_worthOf t_thingOf t_changesOf t_changes t_heard t_heardHeir t_heardOne t_heardTwo t_heardMore t_pageLength t_page t_says t_dealt t_farOf t_endMany t_endMost t_endLeast t_endFew t_seedNow t_saved t_isKept t_keptWill t_keptChanges t_keptHeard t_keptWorth t_keptThing t_keptChangesOf t_keptHeir t_keptOne t_keptTwo t_keptMore t_h) H → va_D A (w_X7 cI cB ad_t t_wills t_heirs t_kindOf t_worthOf t_thingOf t_changesOf t_changes t_heard t_heardHeir t_heardOne t_heardTwo t_heardMore t_pageLength t_page t_says t_dealt t_farOf t_endMany t_endMost t_endLeast t_endFew t_seedNow t_saved t_isKept t_keptWill t_keptChanges t_keptHeard t_keptWorth t_keptThing t_keptChangesOf t_keptHeir t_keptOne t_keptTwo t_keptMore t_h) → va_S A s.heap H locs → lv_has ls 4 [(0, .ref (ad_t 0)), (1, .int x1), (2, .int x2)] → f_X7_mayNow_30 t_heirs t_kindOf t_worthOf t_thingOf  x1 x2 k0 t_says = some (rr, g_t_says) → W p l e rm_X7_mayNow s m args below meth c H locs 0 0 (Zq D below args s A (w_X7 cI cB ad_t t_wills t_heirs t_kindOf t_worthOf t_thingOf t_changesOf t_changes t_heard t_heardHeir t_heardOne t_heardTwo t_heardMore t_pageLength t_page g_t_says t_dealt t_farOf t_endMany t_endMost t_endLeast t_endFew t_seedNow t_saved t_isKept t_keptWill t_keptChanges t_keptHeard t_keptWorth t_keptThing t_keptChangesOf t_keptHeir t_keptOne t_keptTwo t_keptMore t_h) (some (.int rr))) (F0 m 30 ls [.int k0]) := by
  obtain ⟨hx, hb, hml, hown, hts, hrt, hlocks, hK, hA, hZ⟩ := id F
  intro x1 x2 k0 t_says H locs ls hP hD hS hl hf
  refine lv_istore_n (lv' := [(3, .int k0), (0, .ref (ad_t 0)), (1, .int x1), (2, .int x2)]) hx hb dX7_mayNow_30 rfl hl (by decide) rfl (fun ls hl => ?_)
  refine lv_iload_n hx hb dX7_mayNow_31 rfl (lv_at hl 0 rfl) ?_
  refine lv_aload_n hx hb dX7_mayNow_32 rfl (lv_at hl 1 rfl) ?_
  refine lv_iload_n hx hb dX7_mayNow_33 rfl (lv_at hl 2 rfl) ?_
  refine lv_aload_n hx hb dX7_mayNow_34 rfl (lv_at hl 1 rfl) ?_
  refine gf F hP in_X7_mayNow_X7 0 rfl rfl 4 (by decide) 1 rfl rfl dX7_mayNow_35 ?_
  refine lv_iload_n hx hb dX7_mayNow_38 rfl (lv_at hl 2 rfl) ?_
  obtain ⟨v1, ev1, hf⟩ := bnd hf
  refine ald F hP 3 rfl ev1 dX7_mayNow_39 ?_
  refine lv_iload_n hx hb dX7_mayNow_40 rfl (lv_at hl 3 rfl) ?_
  refine lv_aload_n hx hb dX7_mayNow_41 rfl (lv_at hl 1 rfl) ?_
  refine gf F hP in_X7_mayNow_X7 0 rfl rfl 4 (by decide) 1 rfl rfl dX7_mayNow_42 ?_
  refine lv_iload_n hx hb dX7_mayNow_45 rfl (lv_at hl 3 rfl) ?_
  obtain ⟨v2, ev2, hf⟩ := bnd hf
  refine ald F hP 3 rfl ev2 dX7_mayNow_46 ?_
  obtain ⟨v3, e4, hf⟩ := bnd hf
  refine cV F hP hD hS (k_X7_isWished l ad_t t_wills t_heirs t_kindOf t_worthOf t_thingOf t_changesOf t_changes t_heard t_heardHeir t_heardOne t_heardTwo t_heardMore t_pageLength t_page t_says t_dealt t_farOf t_endMany t_endMost t_endLeast t_endFew t_seedNow t_saved t_isKept t_keptWill t_keptChanges t_keptHeard t_keptWorth t_keptThing t_keptChangesOf t_keptHeir t_keptOne t_keptTwo t_keptMore t_h x1 v1 x2 v2 e4) gX7_mayNow_X7_isWished rfl ⟨rfl, rfl⟩ nd_X7_isWished ⟨Nat.le_of_ble_eq_true rfl, Nat.le_of_ble_eq_true rfl⟩ 0 7 rfl rfl rfl hl.1 rfl (Nat.le_of_ble_eq_true rfl) dX7_mayNow_47 (pm0 (w_X7 cI cB ad_t t_wills t_heirs t_kindOf t_worthOf t_thingOf t_changesOf t_changes t_heard t_heardHeir t_heardOne t_heardTwo t_heardMore t_pageLength t_page t_says t_dealt t_farOf t_endMany t_endMost t_endLeast t_endFew t_seedNow t_saved t_isKept t_keptWill t_keptChanges t_keptHeard t_keptWorth t_keptThing t_keptChangesOf t_keptHeir t_keptOne t_keptTwo t_keptMore t_h)) (pm0 (w_X7 cI cB ad_t t_wills t_heirs t_kindOf t_worthOf t_thingOf t_changesOf t_changes t_heard t_heardHeir t_heardOne t_heardTwo t_heardMore t_pageLength t_page t_says t_dealt t_farOf t_endMany t_endMost t_endLeast t_endFew t_seedNow t_saved t_isKept t_keptWill t_keptChanges t_keptHeard t_keptWorth t_keptThing t_keptChangesOf t_keptHeir t_keptOne t_keptTwo t_keptMore t_h)) (fun H locs hP hD hS => ?_)
  refine lv_if_eq (tgt := 57) hx hb dX7_mayNow_50 (by decide) (fun c5 => ?_) (fun c5 => ?_)
  · replace hf := (if_pos c5).symm.trans hf
    refine lv_iconst (v := 0) hx hb dX7_mayNow_57 (by decide) ?_
    exact b_X7_mayNow_58 F  0 k0 t_says H locs ls hP hD hS (lv_sub hl [1] rfl) hf
  · replace hf := (if_neg c5).symm.trans hf
    refine lv_iconst (v := 1) hx hb dX7_mayNow_53 (by decide) ?_
    refine lv_goto (tgt := 58) hx hb dX7_mayNow_54 (by decide) ?_
    exact b_X7_mayNow_58 F  1 k0 t_says H locs ls hP hD hS (lv_sub hl [1] rfl) hf

set_option maxHeartbeats 4000000 in
set_option maxRecDepth 100000 in
theorem k_X7_mayNow (l : Launch) {D : va_G} {cI cB : ClassId} {kK kV : Nat → Nat} (ad_t : Nat → Nat) (t_wills : Int32) (t_heirs : Int32) (t_kindOf : Nat → Int32) (t_worthOf : Nat → Int32) (t_thingOf : Nat → Int32) (t_changesOf : Nat → Int32) (t_changes : Int32) (t_heard : Int32) (t_heardHeir : Nat → Int32) (t_heardOne : Nat → Int32) (t_heardTwo : Nat → Int32) (t_heardMore : Nat → Int32) (t_pageLength : Int32) (t_page : Nat → Int32) (t_says : Nat → Int32) (t_dealt : Nat → Int32) (t_farOf : Nat → Int32) (t_endMany : Int32) (t_endMost : Int32) (t_endLeast : Int32) (t_endFew : Int32) (t_seedNow : Int64) (t_saved : Nat → Int32) (t_isKept : Int32) (t_keptWill : Int32) (t_keptChanges : Int32) (t_keptHeard : Int32) (t_keptWorth : Nat → Int32) (t_keptThing : Nat → Int32) (t_keptChangesOf : Nat → Int32) (t_keptHeir : Nat → Int32) (t_keptOne : Nat → Int32) (t_keptTwo : Nat → Int32) (t_keptMore : Nat → Int32) (t_h : Int64) (x1 : Int32) (x2 : Int32) {rr : Int32} {g_t_says : Nat → Int32} (hf : f_X7_mayNow t_heirs t_kindOf t_worthOf t_thingOf t_says x1 x2 = some (rr, g_t_says)) : Ct l yX7_mayNow wsX7_mayNow rm_X7_mayNow D cI cB kK kV [.ref (ad_t 0), .int x1, .int x2] (w_X7 cI cB ad_t t_wills t_heirs t_kindOf t_worthOf t_thingOf t_changesOf t_changes t_heard t_heardHeir t_heardOne t_heardTwo t_heardMore t_pageLength t_page t_says t_dealt t_farOf t_endMany t_endMost t_endLeast t_endFew t_seedNow t_saved t_isKept t_keptWill t_keptChanges t_keptHeard t_keptWorth t_keptThing t_keptChangesOf t_keptHeir t_keptOne t_keptTwo t_keptMore t_h) (w_X7 cI cB ad_t t_wills t_heirs t_kindOf t_worthOf t_thingOf t_changesOf t_changes t_heard t_heardHeir t_heardOne t_heardTwo t_heardMore t_pageLength t_page g_t_says t_dealt t_farOf t_endMany t_endMost t_endLeast t_endFew t_seedNow t_saved t_isKept t_keptWill t_keptChanges t_keptHeard t_keptWorth t_keptThing t_keptChangesOf t_keptHeir t_keptOne t_keptTwo t_keptMore t_h) (some (.int rr)) := by
  refine Ct.of (cc := cX7_mayNow) (maxL := 4) (ret := (some .int)) (by decide) rfl (Nat.le_of_ble_eq_true rfl) rfl ?_
  intro p e s m below meth c A ls F hP hD hS hl
  have hl : lv_has ls 4 [(0, .ref (ad_t 0)), (1, .int x1), (2, .int x2)] := hl
  obtain ⟨hx, hb, hml, hown, hts, hrt, hlocks, hK, hA, hZ⟩ := id F
  obtain ⟨H, hH⟩ : ∃ H, H = s.heap := ⟨_, rfl⟩
  obtain ⟨locs, hLo⟩ : ∃ q : List Loc, q = [] := ⟨_, rfl⟩
  refine (?_ : W p l e rm_X7_mayNow s m _ below meth c s.heap [] 0 0 _ _)
  rw [← hH, ← hLo]
  rw [← hH] at hP
  have hS : va_S A s.heap H locs := by rw [hH, hLo]; exact hS
  refine lv_aload_n hx hb dX7_mayNow_0 rfl (lv_at hl 0 rfl) ?_
  obtain ⟨g1, e2, hf⟩ := bnd hf
  refine cV F hP hD hS (k_X7_laySays l ad_t t_wills t_heirs t_kindOf t_worthOf t_thingOf t_changesOf t_changes t_heard t_heardHeir t_heardOne t_heardTwo t_heardMore t_pageLength t_page t_says t_dealt t_farOf t_endMany t_endMost t_endLeast t_endFew t_seedNow t_saved t_isKept t_keptWill t_keptChanges t_keptHeard t_keptWorth t_keptThing t_keptChangesOf t_keptHeir t_keptOne t_keptTwo t_keptMore t_h  e2) gX7_mayNow_X7_laySays rfl ⟨rfl, rfl⟩ nd_X7_laySays ⟨Nat.le_of_ble_eq_true rfl, Nat.le_of_ble_eq_true rfl⟩ 0 7 rfl rfl rfl hl.1 rfl (Nat.le_of_ble_eq_true rfl) dX7_mayNow_1 (pm0 (w_X7 cI cB ad_t t_wills t_heirs t_kindOf t_worthOf t_thingOf t_changesOf t_changes t_heard t_heardHeir t_heardOne t_heardTwo t_heardMore t_pageLength t_page t_says t_dealt t_farOf t_endMany t_endMost t_endLeast t_endFew t_seedNow t_saved t_isKept t_keptWill t_keptChanges t_keptHeard t_keptWorth t_keptThing t_keptChangesOf t_keptHeir t_keptOne t_keptTwo t_keptMore t_h)) (pm0 (w_X7 cI cB ad_t t_wills t_heirs t_kindOf t_worthOf t_thingOf t_changesOf t_changes t_heard t_heardHeir t_heardOne t_heardTwo t_heardMore t_pageLength t_page g1 t_dealt t_farOf t_endMany t_endMost t_endLeast t_endFew t_seedNow t_saved t_isKept t_keptWill t_keptChanges t_keptHeard t_keptWorth t_keptThing t_keptChangesOf t_keptHeir t_keptOne t_keptTwo t_keptMore t_h)) (fun H locs hP hD hS => ?_)
  refine lv_aload_n hx hb dX7_mayNow_4 rfl (lv_at hl 0 rfl) ?_
  refine lv_iload_n hx hb dX7_mayNow_5 rfl (lv_at hl 1 rfl) ?_
  refine lv_aload_n hx hb dX7_mayNow_6 rfl (lv_at hl 0 rfl) ?_
  refine gf F hP in_X7_mayNow_X7 0 rfl rfl 4 (by decide) 1 rfl rfl dX7_mayNow_7 ?_
  refine lv_iload_n hx hb dX7_mayNow_10 rfl (lv_at hl 1 rfl) ?_
  obtain ⟨v3, ev3, hf⟩ := bnd hf
  refine ald F hP 3 rfl ev3 dX7_mayNow_11 ?_
  refine lv_iload_n hx hb dX7_mayNow_12 rfl (lv_at hl 2 rfl) ?_
  refine lv_aload_n hx hb dX7_mayNow_13 rfl (lv_at hl 0 rfl) ?_
  refine gf F hP in_X7_mayNow_X7 0 rfl rfl 4 (by decide) 1 rfl rfl dX7_mayNow_14 ?_
  refine lv_iload_n hx hb dX7_mayNow_17 rfl (lv_at hl 2 rfl) ?_
  obtain ⟨v4, ev4, hf⟩ := bnd hf
  refine ald F hP 3 rfl ev4 dX7_mayNow_18 ?_
  obtain ⟨v5, e6, hf⟩ := bnd hf
  refine cV F hP hD hS (k_X7_isAllowed l ad_t t_wills t_heirs t_kindOf t_worthOf t_thingOf t_changesOf t_changes t_heard t_heardHeir t_heardOne t_heardTwo t_heardMore t_pageLength t_page g1 t_dealt t_farOf t_endMany t_endMost t_endLeast t_endFew t_seedNow t_saved t_isKept t_keptWill t_keptChanges t_keptHeard t_keptWorth t_keptThing t_keptChangesOf t_keptHeir t_keptOne t_keptTwo t_keptMore t_h x1 v3 x2 v4 e6) gX7_mayNow_X7_isAllowed rfl ⟨rfl, rfl⟩ nd_X7_isAllowed ⟨Nat.le_of_ble_eq_true rfl, Nat.le_of_ble_eq_true rfl⟩ 0 7 rfl rfl rfl hl.1 rfl (Nat.le_of_ble_eq_true rfl) dX7_mayNow_19 (pm0 (w_X7 cI cB ad_t t_wills t_heirs t_kindOf t_worthOf t_thingOf t_changesOf t_changes t_heard t_heardHeir t_heardOne t_heardTwo t_heardMore t_pageLength t_page g1 t_dealt t_farOf t_endMany t_endMost t_endLeast t_endFew t_seedNow t_saved t_isKept t_keptWill t_keptChanges t_keptHeard t_keptWorth t_keptThing t_keptChangesOf t_keptHeir t_keptOne t_keptTwo t_keptMore t_h)) (pm0 (w_X7 cI cB ad_t t_wills t_heirs t_kindOf t_worthOf t_thingOf t_changesOf t_changes t_heard t_heardHeir t_heardOne t_heardTwo t_heardMore t_pageLength t_page g1 t_dealt t_farOf t_endMany t_endMost t_endLeast t_endFew t_seedNow t_saved t_isKept t_keptWill t_keptChanges t_keptHeard t_keptWorth t_keptThing t_keptChangesOf t_keptHeir t_keptOne t_keptTwo t_keptMore t_h)) (fun H locs hP hD hS => ?_)
  refine lv_if_eq (tgt := 29) hx hb dX7_mayNow_22 (by decide) (fun c7 => ?_) (fun c7 => ?_)
  · replace hf := (if_pos c7).symm.trans hf
    refine lv_iconst (v := 0) hx hb dX7_mayNow_29 (by decide) ?_
    exact b_X7_mayNow_30 F  x1 x2 0 g1 H locs ls hP hD hS (lv_sub hl [0, 1, 2] rfl) hf
  · replace hf := (if_neg c7).symm.trans hf
    refine lv_iconst (v := 2) hx hb dX7_mayNow_25 (by decide) ?_
    refine lv_goto (tgt := 30) hx hb dX7_mayNow_26 (by decide) ?_
    exact b_X7_mayNow_30 F  x1 x2 2 g1 H locs ls hP hD hS (lv_sub hl [0, 1, 2] rfl) hf

/-! X7_may -/
def rm_X7_may : Room := { frames := 3, cells := 0, slots := 0, locals := 68 }
theorem nd_X7_may : yX7_may.cls = RX7 ∧ yX7_may.cls ≠ "java/lang/invoke/MethodHandle" ∧ yX7_may.cls ≠ "java/lang/invoke/VarHandle" ∧ (parseMethodDescriptor yX7_may.desc).map (fun d => d.parameters.length) = some 2 := by decide +kernel
def f_X7_may (t_heirs : Int32) (t_kindOf : Nat → Int32) (t_worthOf : Nat → Int32) (t_thingOf : Nat → Int32) (t_says : Nat → Int32) (x1 : Int32) (x2 : Int32) : Option (Int32 × (Nat → Int32)) := (f_X7_areTwo t_heirs x1 x2).bind (fun v1 => (if v1 = 0 then some ((-101), t_says) else (f_X7_mayNow t_heirs t_kindOf t_worthOf t_thingOf t_says x1 x2).bind (fun (v4, g5) => some (v4, g5))))
set_option maxHeartbeats 4000000 in
set_option maxRecDepth 100000 in
theorem k_X7_may (l : Launch) {D : va_G} {cI cB : ClassId} {kK kV : Nat → Nat} (ad_t : Nat → Nat) (t_wills : Int32) (t_heirs : Int32) (t_kindOf : Nat → Int32) (t_worthOf : Nat → Int32) (t_thingOf : Nat → Int32) (t_changesOf : Nat → Int32) (t_changes : Int32) (t_heard : Int32) (t_heardHeir : Nat → Int32) (t_heardOne : Nat → Int32) (t_heardTwo : Nat → Int32) (t_heardMore : Nat → Int32) (t_pageLength : Int32) (t_page : Nat → Int32) (t_says : Nat → Int32) (t_dealt : Nat → Int32) (t_farOf : Nat → Int32) (t_endMany : Int32) (t_endMost : Int32) (t_endLeast : Int32) (t_endFew : Int32) (t_seedNow : Int64) (t_saved : Nat → Int32) (t_isKept : Int32) (t_keptWill : Int32) (t_keptChanges : Int32) (t_keptHeard : Int32) (t_keptWorth : Nat → Int32) (t_keptThing : Nat → Int32) (t_keptChangesOf : Nat → Int32) (t_keptHeir : Nat → Int32) (t_keptOne : Nat → Int32) (t_keptTwo : Nat → Int32) (t_keptMore : Nat → Int32) (t_h : Int64) (x1 : Int32) (x2 : Int32) {rr : Int32} {g_t_says : Nat → Int32} (hf : f_X7_may t_heirs t_kindOf t_worthOf t_thingOf t_says x1 x2 = some (rr, g_t_says)) : Ct l yX7_may wsX7_may rm_X7_may D cI cB kK kV [.ref (ad_t 0), .int x1, .int x2] (w_X7 cI cB ad_t t_wills t_heirs t_kindOf t_worthOf t_thingOf t_changesOf t_changes t_heard t_heardHeir t_heardOne t_heardTwo t_heardMore t_pageLength t_page t_says t_dealt t_farOf t_endMany t_endMost t_endLeast t_endFew t_seedNow t_saved t_isKept t_keptWill t_keptChanges t_keptHeard t_keptWorth t_keptThing t_keptChangesOf t_keptHeir t_keptOne t_keptTwo t_keptMore t_h) (w_X7 cI cB ad_t t_wills t_heirs t_kindOf t_worthOf t_thingOf t_changesOf t_changes t_heard t_heardHeir t_heardOne t_heardTwo t_heardMore t_pageLength t_page g_t_says t_dealt t_farOf t_endMany t_endMost t_endLeast t_endFew t_seedNow t_saved t_isKept t_keptWill t_keptChanges t_keptHeard t_keptWorth t_keptThing t_keptChangesOf t_keptHeir t_keptOne t_keptTwo t_keptMore t_h) (some (.int rr)) := by
  refine Ct.of (cc := cX7_may) (maxL := 3) (ret := (some .int)) (by decide) rfl (Nat.le_of_ble_eq_true rfl) rfl ?_
  intro p e s m below meth c A ls F hP hD hS hl
  have hl : lv_has ls 3 [(0, .ref (ad_t 0)), (1, .int x1), (2, .int x2)] := hl
  obtain ⟨hx, hb, hml, hown, hts, hrt, hlocks, hK, hA, hZ⟩ := id F
  obtain ⟨H, hH⟩ : ∃ H, H = s.heap := ⟨_, rfl⟩
  obtain ⟨locs, hLo⟩ : ∃ q : List Loc, q = [] := ⟨_, rfl⟩
  refine (?_ : W p l e rm_X7_may s m _ below meth c s.heap [] 0 0 _ _)
  rw [← hH, ← hLo]
  rw [← hH] at hP
  have hS : va_S A s.heap H locs := by rw [hH, hLo]; exact hS
  refine lv_aload_n hx hb dX7_may_0 rfl (lv_at hl 0 rfl) ?_
  refine lv_iload_n hx hb dX7_may_1 rfl (lv_at hl 1 rfl) ?_
  refine lv_iload_n hx hb dX7_may_2 rfl (lv_at hl 2 rfl) ?_
  obtain ⟨v1, e2, hf⟩ := bnd hf
  refine cV F hP hD hS (k_X7_areTwo l ad_t t_wills t_heirs t_kindOf t_worthOf t_thingOf t_changesOf t_changes t_heard t_heardHeir t_heardOne t_heardTwo t_heardMore t_pageLength t_page t_says t_dealt t_farOf t_endMany t_endMost t_endLeast t_endFew t_seedNow t_saved t_isKept t_keptWill t_keptChanges t_keptHeard t_keptWorth t_keptThing t_keptChangesOf t_keptHeir t_keptOne t_keptTwo t_keptMore t_h x1 x2 e2) gX7_may_X7_areTwo rfl ⟨rfl, rfl⟩ nd_X7_areTwo ⟨Nat.le_of_ble_eq_true rfl, Nat.le_of_ble_eq_true rfl⟩ 0 7 rfl rfl rfl hl.1 rfl (Nat.le_of_ble_eq_true rfl) dX7_may_3 (pm0 (w_X7 cI cB ad_t t_wills t_heirs t_kindOf t_worthOf t_thingOf t_changesOf t_changes t_heard t_heardHeir t_heardOne t_heardTwo t_heardMore t_pageLength t_page t_says t_dealt t_farOf t_endMany t_endMost t_endLeast t_endFew t_seedNow t_saved t_isKept t_keptWill t_keptChanges t_keptHeard t_keptWorth t_keptThing t_keptChangesOf t_keptHeir t_keptOne t_keptTwo t_keptMore t_h)) (pm0 (w_X7 cI cB ad_t t_wills t_heirs t_kindOf t_worthOf t_thingOf t_changesOf t_changes t_heard t_heardHeir t_heardOne t_heardTwo t_heardMore t_pageLength t_page t_says t_dealt t_farOf t_endMany t_endMost t_endLeast t_endFew t_seedNow t_saved t_isKept t_keptWill t_keptChanges t_keptHeard t_keptWorth t_keptThing t_keptChangesOf t_keptHeir t_keptOne t_keptTwo t_keptMore t_h)) (fun H locs hP hD hS => ?_)
  refine lv_if_eq (tgt := 18) hx hb dX7_may_6 (by decide) (fun c3 => ?_) (fun c3 => ?_)
  · replace hf := (if_pos c3).symm.trans hf
    refine lv_bipush (v := (-101)) hx hb dX7_may_18 (by decide) ?_
    replace hf : (some ((-101), t_says) : Option (Int32 × (Nat → Int32))) = some (rr, g_t_says) := hf
    cases hf
    exact ret_i F hP hS dX7_may_20
  · replace hf := (if_neg c3).symm.trans hf
    refine lv_aload_n hx hb dX7_may_9 rfl (lv_at hl 0 rfl) ?_
    refine lv_iload_n hx hb dX7_may_10 rfl (lv_at hl 1 rfl) ?_
    refine lv_iload_n hx hb dX7_may_11 rfl (lv_at hl 2 rfl) ?_
    obtain ⟨⟨v4, g5⟩, e6, hf⟩ := bnd hf
    refine cV F hP hD hS (k_X7_mayNow l ad_t t_wills t_heirs t_kindOf t_worthOf t_thingOf t_changesOf t_changes t_heard t_heardHeir t_heardOne t_heardTwo t_heardMore t_pageLength t_page t_says t_dealt t_farOf t_endMany t_endMost t_endLeast t_endFew t_seedNow t_saved t_isKept t_keptWill t_keptChanges t_keptHeard t_keptWorth t_keptThing t_keptChangesOf t_keptHeir t_keptOne t_keptTwo t_keptMore t_h x1 x2 e6) gX7_may_X7_mayNow rfl ⟨rfl, rfl⟩ nd_X7_mayNow ⟨Nat.le_of_ble_eq_true rfl, Nat.le_of_ble_eq_true rfl⟩ 0 7 rfl rfl rfl hl.1 rfl (Nat.le_of_ble_eq_true rfl) dX7_may_12 (pm0 (w_X7 cI cB ad_t t_wills t_heirs t_kindOf t_worthOf t_thingOf t_changesOf t_changes t_heard t_heardHeir t_heardOne t_heardTwo t_heardMore t_pageLength t_page t_says t_dealt t_farOf t_endMany t_endMost t_endLeast t_endFew t_seedNow t_saved t_isKept t_keptWill t_keptChanges t_keptHeard t_keptWorth t_keptThing t_keptChangesOf t_keptHeir t_keptOne t_keptTwo t_keptMore t_h)) (pm0 (w_X7 cI cB ad_t t_wills t_heirs t_kindOf t_worthOf t_thingOf t_changesOf t_changes t_heard t_heardHeir t_heardOne t_heardTwo t_heardMore t_pageLength t_page g5 t_dealt t_farOf t_endMany t_endMost t_endLeast t_endFew t_seedNow t_saved t_isKept t_keptWill t_keptChanges t_keptHeard t_keptWorth t_keptThing t_keptChangesOf t_keptHeir t_keptOne t_keptTwo t_keptMore t_h)) (fun H locs hP hD hS => ?_)
    refine lv_goto (tgt := 20) hx hb dX7_may_15 (by decide) ?_
    replace hf : (some (v4, g5) : Option (Int32 × (Nat → Int32))) = some (rr, g_t_says) := hf
    cases hf
    exact ret_i F hP hS dX7_may_20

/-! X7_change -/
def rm_X7_change : Room := { frames := 3, cells := 0, slots := 0, locals := 68 }
theorem in_X7_change_X7 : ∀ w ∈ u_ws RX7 TX7 35, w ∈ wsX7_change := fun _ h => List.mem_cons_of_mem _ (List.mem_append_right _ (h))
theorem nd_X7_change : yX7_change.cls = RX7 ∧ yX7_change.cls ≠ "java/lang/invoke/MethodHandle" ∧ yX7_change.cls ≠ "java/lang/invoke/VarHandle" ∧ (parseMethodDescriptor yX7_change.desc).map (fun d => d.parameters.length) = some 2 := by decide +kernel
def f_X7_change (t_heirs : Int32) (t_kindOf : Nat → Int32) (t_worthOf : Nat → Int32) (t_thingOf : Nat → Int32) (t_changesOf : Nat → Int32) (t_changes : Int32) (t_says : Nat → Int32) (x1 : Int32) (x2 : Int32) : Option (Int32 × (Nat → Int32) × (Nat → Int32) × Int32 × (Nat → Int32)) := (f_X7_areTwo t_heirs x1 x2).bind (fun v1 => (if v1 = 0 then some ((-101), t_thingOf, t_changesOf, t_changes, t_says) else (f_X7_mayNow t_heirs t_kindOf t_worthOf t_thingOf t_says x1 x2).bind (fun (v4, g5) => (if 2 ≤ v4 then (rd t_thingOf 4 x1).bind (fun v8 => (rd t_thingOf 4 x2).bind (fun v9 => (wr t_thingOf 4 x1 v9).bind (fun g10 => (wr g10 4 x2 v8).bind (fun g11 => (rd t_changesOf 4 x1).bind (fun v12 => (wr t_changesOf 4 x1 (v12 + 1)).bind (fun g13 => (rd g13 4 x2).bind (fun v14 => (wr g13 4 x2 (v14 + 1)).bind (fun g15 => some ((t_changes + 1), g11, g15, (t_changes + 1), g5))))))))) else some ((-103), t_thingOf, t_changesOf, t_changes, g5)))))
set_option maxHeartbeats 4000000 in
set_option maxRecDepth 100000 in
theorem k_X7_change (l : Launch) {D : va_G} {cI cB : ClassId} {kK kV : Nat → Nat} (ad_t : Nat → Nat) (t_wills : Int32) (t_heirs : Int32) (t_kindOf : Nat → Int32) (t_worthOf : Nat → Int32) (t_thingOf : Nat → Int32) (t_changesOf : Nat → Int32) (t_changes : Int32) (t_heard : Int32) (t_heardHeir : Nat → Int32) (t_heardOne : Nat → Int32) (t_heardTwo : Nat → Int32) (t_heardMore : Nat → Int32) (t_pageLength : Int32) (t_page : Nat → Int32) (t_says : Nat → Int32) (t_dealt : Nat → Int32) (t_farOf : Nat → Int32) (t_endMany : Int32) (t_endMost : Int32) (t_endLeast : Int32) (t_endFew : Int32) (t_seedNow : Int64) (t_saved : Nat → Int32) (t_isKept : Int32) (t_keptWill : Int32) (t_keptChanges : Int32) (t_keptHeard : Int32) (t_keptWorth : Nat → Int32) (t_keptThing : Nat → Int32) (t_keptChangesOf : Nat → Int32) (t_keptHeir : Nat → Int32) (t_keptOne : Nat → Int32) (t_keptTwo : Nat → Int32) (t_keptMore : Nat → Int32) (t_h : Int64) (x1 : Int32) (x2 : Int32) {rr : Int32} {g_t_thingOf : Nat → Int32} {g_t_changesOf : Nat → Int32} {g_t_changes : Int32} {g_t_says : Nat → Int32} (hf : f_X7_change t_heirs t_kindOf t_worthOf t_thingOf t_changesOf t_changes t_says x1 x2 = some (rr, g_t_thingOf, g_t_changesOf, g_t_changes, g_t_says)) : Ct l yX7_change wsX7_change rm_X7_change D cI cB kK kV [.ref (ad_t 0), .int x1, .int x2] (w_X7 cI cB ad_t t_wills t_heirs t_kindOf t_worthOf t_thingOf t_changesOf t_changes t_heard t_heardHeir t_heardOne t_heardTwo t_heardMore t_pageLength t_page t_says t_dealt t_farOf t_endMany t_endMost t_endLeast t_endFew t_seedNow t_saved t_isKept t_keptWill t_keptChanges t_keptHeard t_keptWorth t_keptThing t_keptChangesOf t_keptHeir t_keptOne t_keptTwo t_keptMore t_h) (w_X7 cI cB ad_t t_wills t_heirs t_kindOf t_worthOf g_t_thingOf g_t_changesOf g_t_changes t_heard t_heardHeir t_heardOne t_heardTwo t_heardMore t_pageLength t_page g_t_says t_dealt t_farOf t_endMany t_endMost t_endLeast t_endFew t_seedNow t_saved t_isKept t_keptWill t_keptChanges t_keptHeard t_keptWorth t_keptThing t_keptChangesOf t_keptHeir t_keptOne t_keptTwo t_keptMore t_h) (some (.int rr)) := by
  refine Ct.of (cc := cX7_change) (maxL := 4) (ret := (some .int)) (by decide) rfl (Nat.le_of_ble_eq_true rfl) rfl ?_
  intro p e s m below meth c A ls F hP hD hS hl
  have hl : lv_has ls 4 [(0, .ref (ad_t 0)), (1, .int x1), (2, .int x2)] := hl
  obtain ⟨hx, hb, hml, hown, hts, hrt, hlocks, hK, hA, hZ⟩ := id F
  obtain ⟨H, hH⟩ : ∃ H, H = s.heap := ⟨_, rfl⟩
  obtain ⟨locs, hLo⟩ : ∃ q : List Loc, q = [] := ⟨_, rfl⟩
  refine (?_ : W p l e rm_X7_change s m _ below meth c s.heap [] 0 0 _ _)
  rw [← hH, ← hLo]
  rw [← hH] at hP
  have hS : va_S A s.heap H locs := by rw [hH, hLo]; exact hS
  refine lv_aload_n hx hb dX7_change_0 rfl (lv_at hl 0 rfl) ?_
  refine lv_iload_n hx hb dX7_change_1 rfl (lv_at hl 1 rfl) ?_
  refine lv_iload_n hx hb dX7_change_2 rfl (lv_at hl 2 rfl) ?_
  obtain ⟨v1, e2, hf⟩ := bnd hf
  refine cV F hP hD hS (k_X7_areTwo l ad_t t_wills t_heirs t_kindOf t_worthOf t_thingOf t_changesOf t_changes t_heard t_heardHeir t_heardOne t_heardTwo t_heardMore t_pageLength t_page t_says t_dealt t_farOf t_endMany t_endMost t_endLeast t_endFew t_seedNow t_saved t_isKept t_keptWill t_keptChanges t_keptHeard t_keptWorth t_keptThing t_keptChangesOf t_keptHeir t_keptOne t_keptTwo t_keptMore t_h x1 x2 e2) gX7_change_X7_areTwo rfl ⟨rfl, rfl⟩ nd_X7_areTwo ⟨Nat.le_of_ble_eq_true rfl, Nat.le_of_ble_eq_true rfl⟩ 0 7 rfl rfl rfl hl.1 rfl (Nat.le_of_ble_eq_true rfl) dX7_change_3 (pm0 (w_X7 cI cB ad_t t_wills t_heirs t_kindOf t_worthOf t_thingOf t_changesOf t_changes t_heard t_heardHeir t_heardOne t_heardTwo t_heardMore t_pageLength t_page t_says t_dealt t_farOf t_endMany t_endMost t_endLeast t_endFew t_seedNow t_saved t_isKept t_keptWill t_keptChanges t_keptHeard t_keptWorth t_keptThing t_keptChangesOf t_keptHeir t_keptOne t_keptTwo t_keptMore t_h)) (pm0 (w_X7 cI cB ad_t t_wills t_heirs t_kindOf t_worthOf t_thingOf t_changesOf t_changes t_heard t_heardHeir t_heardOne t_heardTwo t_heardMore t_pageLength t_page t_says t_dealt t_farOf t_endMany t_endMost t_endLeast t_endFew t_seedNow t_saved t_isKept t_keptWill t_keptChanges t_keptHeard t_keptWorth t_keptThing t_keptChangesOf t_keptHeir t_keptOne t_keptTwo t_keptMore t_h)) (fun H locs hP hD hS => ?_)
  refine lv_if_ne (tgt := 12) hx hb dX7_change_6 (by decide) (fun c3 => ?_) (fun c3 => ?_)
  · replace hf := (if_neg c3).symm.trans hf
    refine lv_aload_n hx hb dX7_change_12 rfl (lv_at hl 0 rfl) ?_
    refine lv_iload_n hx hb dX7_change_13 rfl (lv_at hl 1 rfl) ?_
    refine lv_iload_n hx hb dX7_change_14 rfl (lv_at hl 2 rfl) ?_
    obtain ⟨⟨v4, g5⟩, e6, hf⟩ := bnd hf
    refine cV F hP hD hS (k_X7_mayNow l ad_t t_wills t_heirs t_kindOf t_worthOf t_thingOf t_changesOf t_changes t_heard t_heardHeir t_heardOne t_heardTwo t_heardMore t_pageLength t_page t_says t_dealt t_farOf t_endMany t_endMost t_endLeast t_endFew t_seedNow t_saved t_isKept t_keptWill t_keptChanges t_keptHeard t_keptWorth t_keptThing t_keptChangesOf t_keptHeir t_keptOne t_keptTwo t_keptMore t_h x1 x2 e6) gX7_change_X7_mayNow rfl ⟨rfl, rfl⟩ nd_X7_mayNow ⟨Nat.le_of_ble_eq_true rfl, Nat.le_of_ble_eq_true rfl⟩ 0 7 rfl rfl rfl hl.1 rfl (Nat.le_of_ble_eq_true rfl) dX7_change_15 (pm0 (w_X7 cI cB ad_t t_wills t_heirs t_kindOf t_worthOf t_thingOf t_changesOf t_changes t_heard t_heardHeir t_heardOne t_heardTwo t_heardMore t_pageLength t_page t_says t_dealt t_farOf t_endMany t_endMost t_endLeast t_endFew t_seedNow t_saved t_isKept t_keptWill t_keptChanges t_keptHeard t_keptWorth t_keptThing t_keptChangesOf t_keptHeir t_keptOne t_keptTwo t_keptMore t_h)) (pm0 (w_X7 cI cB ad_t t_wills t_heirs t_kindOf t_worthOf t_thingOf t_changesOf t_changes t_heard t_heardHeir t_heardOne t_heardTwo t_heardMore t_pageLength t_page g5 t_dealt t_farOf t_endMany t_endMost t_endLeast t_endFew t_seedNow t_saved t_isKept t_keptWill t_keptChanges t_keptHeard t_keptWorth t_keptThing t_keptChangesOf t_keptHeir t_keptOne t_keptTwo t_keptMore t_h)) (fun H locs hP hD hS => ?_)
    refine lv_iconst (v := 2) hx hb dX7_change_18 (by decide) ?_
    refine lv_icmp_ge (tgt := 25) hx hb dX7_change_19 (by decide) (fun c7 => ?_) (fun c7 => ?_)
    · replace hf := (if_pos c7).symm.trans hf
      refine lv_aload_n hx hb dX7_change_25 rfl (lv_at hl 0 rfl) ?_
      refine gf F hP in_X7_change_X7 0 rfl rfl 4 (by decide) 1 rfl rfl dX7_change_26 ?_
      refine lv_iload_n hx hb dX7_change_29 rfl (lv_at hl 1 rfl) ?_
      obtain ⟨v8, ev8, hf⟩ := bnd hf
      refine ald F hP 3 rfl ev8 dX7_change_30 ?_
      refine lv_istore_n (lv' := [(3, .int v8), (0, .ref (ad_t 0)), (1, .int x1), (2, .int x2)]) hx hb dX7_change_31 rfl hl (by decide) rfl (fun ls hl => ?_)
      refine lv_aload_n hx hb dX7_change_32 rfl (lv_at hl 1 rfl) ?_
      refine gf F hP in_X7_change_X7 0 rfl rfl 4 (by decide) 1 rfl rfl dX7_change_33 ?_
      refine lv_iload_n hx hb dX7_change_36 rfl (lv_at hl 2 rfl) ?_
      refine lv_aload_n hx hb dX7_change_37 rfl (lv_at hl 1 rfl) ?_
      refine gf F hP in_X7_change_X7 0 rfl rfl 4 (by decide) 1 rfl rfl dX7_change_38 ?_
      refine lv_iload_n hx hb dX7_change_41 rfl (lv_at hl 3 rfl) ?_
      obtain ⟨v9, ev9, hf⟩ := bnd hf
      refine ald F hP 3 rfl ev9 dX7_change_42 ?_
      obtain ⟨g10, eg10, hf⟩ := bnd hf
      refine ast F hP hD hS 3 rfl eg10 dX7_change_43 (w_X7 cI cB ad_t t_wills t_heirs t_kindOf t_worthOf g10 t_changesOf t_changes t_heard t_heardHeir t_heardOne t_heardTwo t_heardMore t_pageLength t_page g5 t_dealt t_farOf t_endMany t_endMost t_endLeast t_endFew t_seedNow t_saved t_isKept t_keptWill t_keptChanges t_keptHeard t_keptWorth t_keptThing t_keptChangesOf t_keptHeir t_keptOne t_keptTwo t_keptMore t_h) rfl (fun H locs hP hD hS => ?_)
      refine lv_aload_n hx hb dX7_change_44 rfl (lv_at hl 1 rfl) ?_
      refine gf F hP in_X7_change_X7 0 rfl rfl 4 (by decide) 1 rfl rfl dX7_change_45 ?_
      refine lv_iload_n hx hb dX7_change_48 rfl (lv_at hl 3 rfl) ?_
      refine lv_iload_n hx hb dX7_change_49 rfl (lv_at hl 0 rfl) ?_
      obtain ⟨g11, eg11, hf⟩ := bnd hf
      refine ast F hP hD hS 3 rfl eg11 dX7_change_50 (w_X7 cI cB ad_t t_wills t_heirs t_kindOf t_worthOf g11 t_changesOf t_changes t_heard t_heardHeir t_heardOne t_heardTwo t_heardMore t_pageLength t_page g5 t_dealt t_farOf t_endMany t_endMost t_endLeast t_endFew t_seedNow t_saved t_isKept t_keptWill t_keptChanges t_keptHeard t_keptWorth t_keptThing t_keptChangesOf t_keptHeir t_keptOne t_keptTwo t_keptMore t_h) rfl (fun H locs hP hD hS => ?_)
      refine lv_aload_n hx hb dX7_change_51 rfl (lv_at hl 1 rfl) ?_
      refine gf F hP in_X7_change_X7 0 rfl rfl 5 (by decide) 2 rfl rfl dX7_change_52 ?_
      refine lv_iload_n hx hb dX7_change_55 rfl (lv_at hl 2 rfl) ?_
      refine lv_dup2_11 hx hb dX7_change_56 rfl rfl ?_
      obtain ⟨v12, ev12, hf⟩ := bnd hf
      refine ald F hP 4 rfl ev12 dX7_change_57 ?_
      refine lv_iconst (v := 1) hx hb dX7_change_58 (by decide) ?_
      refine lv_iadd hx hb dX7_change_59 ?_
      obtain ⟨g13, eg13, hf⟩ := bnd hf
      refine ast F hP hD hS 4 rfl eg13 dX7_change_60 (w_X7 cI cB ad_t t_wills t_heirs t_kindOf t_worthOf g11 g13 t_changes t_heard t_heardHeir t_heardOne t_heardTwo t_heardMore t_pageLength t_page g5 t_dealt t_farOf t_endMany t_endMost t_endLeast t_endFew t_seedNow t_saved t_isKept t_keptWill t_keptChanges t_keptHeard t_keptWorth t_keptThing t_keptChangesOf t_keptHeir t_keptOne t_keptTwo t_keptMore t_h) rfl (fun H locs hP hD hS => ?_)
      refine lv_aload_n hx hb dX7_change_61 rfl (lv_at hl 1 rfl) ?_
      refine gf F hP in_X7_change_X7 0 rfl rfl 5 (by decide) 2 rfl rfl dX7_change_62 ?_
      refine lv_iload_n hx hb dX7_change_65 rfl (lv_at hl 3 rfl) ?_
      refine lv_dup2_11 hx hb dX7_change_66 rfl rfl ?_
      obtain ⟨v14, ev14, hf⟩ := bnd hf
      refine ald F hP 4 rfl ev14 dX7_change_67 ?_
      refine lv_iconst (v := 1) hx hb dX7_change_68 (by decide) ?_
      refine lv_iadd hx hb dX7_change_69 ?_
      obtain ⟨g15, eg15, hf⟩ := bnd hf
      refine ast F hP hD hS 4 rfl eg15 dX7_change_70 (w_X7 cI cB ad_t t_wills t_heirs t_kindOf t_worthOf g11 g15 t_changes t_heard t_heardHeir t_heardOne t_heardTwo t_heardMore t_pageLength t_page g5 t_dealt t_farOf t_endMany t_endMost t_endLeast t_endFew t_seedNow t_saved t_isKept t_keptWill t_keptChanges t_keptHeard t_keptWorth t_keptThing t_keptChangesOf t_keptHeir t_keptOne t_keptTwo t_keptMore t_h) rfl (fun H locs hP hD hS => ?_)
      refine lv_aload_n hx hb dX7_change_71 rfl (lv_at hl 1 rfl) ?_
      refine lv_dup hx hb dX7_change_72 rfl ?_
      refine gf F hP in_X7_change_X7 0 rfl rfl 6 (by decide) 3 rfl rfl dX7_change_73 ?_
      refine lv_iconst (v := 1) hx hb dX7_change_76 (by decide) ?_
      refine lv_iadd hx hb dX7_change_77 ?_
      refine pf F hP hD hS in_X7_change_X7 tyX7 tyX7_ok nmX7 0 rfl rfl 6 (by decide) 3 rfl rfl rfl rfl (Nat.le_of_ble_eq_true rfl) dX7_change_78 (w_X7 cI cB ad_t t_wills t_heirs t_kindOf t_worthOf g11 g15 (t_changes + 1) t_heard t_heardHeir t_heardOne t_heardTwo t_heardMore t_pageLength t_page g5 t_dealt t_farOf t_endMany t_endMost t_endLeast t_endFew t_seedNow t_saved t_isKept t_keptWill t_keptChanges t_keptHeard t_keptWorth t_keptThing t_keptChangesOf t_keptHeir t_keptOne t_keptTwo t_keptMore t_h) rfl (fun H locs hP hD hS => ?_)
      refine lv_aload_n hx hb dX7_change_81 rfl (lv_at hl 1 rfl) ?_
      refine gf F hP in_X7_change_X7 0 rfl rfl 6 (by decide) 3 rfl rfl dX7_change_82 ?_
      replace hf : (some ((t_changes + 1), g11, g15, (t_changes + 1), g5) : Option (Int32 × (Nat → Int32) × (Nat → Int32) × Int32 × (Nat → Int32))) = some (rr, g_t_thingOf, g_t_changesOf, g_t_changes, g_t_says) := hf
      cases hf
      exact ret_i F hP hS dX7_change_85
    · replace hf := (if_neg c7).symm.trans hf
      refine lv_bipush (v := (-103)) hx hb dX7_change_22 (by decide) ?_
      replace hf : (some ((-103), t_thingOf, t_changesOf, t_changes, g5) : Option (Int32 × (Nat → Int32) × (Nat → Int32) × Int32 × (Nat → Int32))) = some (rr, g_t_thingOf, g_t_changesOf, g_t_changes, g_t_says) := hf
      cases hf
      exact ret_i F hP hS dX7_change_24
  · replace hf := (if_pos c3).symm.trans hf
    refine lv_bipush (v := (-101)) hx hb dX7_change_9 (by decide) ?_
    replace hf : (some ((-101), t_thingOf, t_changesOf, t_changes, t_says) : Option (Int32 × (Nat → Int32) × (Nat → Int32) × Int32 × (Nat → Int32))) = some (rr, g_t_thingOf, g_t_changesOf, g_t_changes, g_t_says) := hf
    cases hf
    exact ret_i F hP hS dX7_change_11

/-! X7_figure -/
def rm_X7_figure : Room := { frames := 0, cells := 0, slots := 0, locals := 0 }
theorem nd_X7_figure : yX7_figure.cls ≠ "java/lang/invoke/MethodHandle" ∧ yX7_figure.cls ≠ "java/lang/invoke/VarHandle" ∧ (parseMethodDescriptor yX7_figure.desc).map (fun d => d.parameters.length) = some 2 := by decide +kernel
def f_X7_figure  (x0 : Int32) (x1 : Int32) : Option (Int32) := some ((x0 >>> ((2 * x1) &&& 31)) &&& 3)
set_option maxHeartbeats 4000000 in
set_option maxRecDepth 100000 in
theorem k_X7_figure (l : Launch) {D : va_G} {cI cB : ClassId} {kK kV : Nat → Nat}   (x0 : Int32) (x1 : Int32) {rr : Int32}  (hf : f_X7_figure x0 x1 = some rr) : Ct l yX7_figure wsX7_figure rm_X7_figure D cI cB kK kV [.int x0, .int x1] ([] : va_W) ([] : va_W) (some (.int rr)) := by
  refine Ct.of (cc := cX7_figure) (maxL := 2) (ret := (some .int)) (by decide) rfl (Nat.le_of_ble_eq_true rfl) rfl ?_
  intro p e s m below meth c A ls F hP hD hS hl
  have hl : lv_has ls 2 [(0, .int x0), (1, .int x1)] := hl
  obtain ⟨hx, hb, hml, hown, hts, hrt, hlocks, hK, hA, hZ⟩ := id F
  obtain ⟨H, hH⟩ : ∃ H, H = s.heap := ⟨_, rfl⟩
  obtain ⟨locs, hLo⟩ : ∃ q : List Loc, q = [] := ⟨_, rfl⟩
  refine (?_ : W p l e rm_X7_figure s m _ below meth c s.heap [] 0 0 _ _)
  rw [← hH, ← hLo]
  rw [← hH] at hP
  have hS : va_S A s.heap H locs := by rw [hH, hLo]; exact hS
  refine lv_iload_n hx hb dX7_figure_0 rfl (lv_at hl 0 rfl) ?_
  refine lv_iconst (v := 2) hx hb dX7_figure_1 (by decide) ?_
  refine lv_iload_n hx hb dX7_figure_2 rfl (lv_at hl 1 rfl) ?_
  refine lv_imul hx hb dX7_figure_3 ?_
  refine lv_ishr hx hb dX7_figure_4 ?_
  refine lv_iconst (v := 3) hx hb dX7_figure_5 (by decide) ?_
  refine lv_iand hx hb dX7_figure_6 ?_
  replace hf : (some ((x0 >>> ((2 * x1) &&& 31)) &&& 3) : Option (Int32)) = some rr := hf
  cases hf
  exact ret_i F hP hS dX7_figure_7

/-! X7_wayNow -/
def rm_X7_wayNow : Room := { frames := 0, cells := 0, slots := 0, locals := 0 }
theorem in_X7_wayNow_X7 : ∀ w ∈ u_ws RX7 TX7 35, w ∈ wsX7_wayNow := fun _ h => List.mem_cons_of_mem _ (List.mem_append_right _ (h))
theorem nd_X7_wayNow : yX7_wayNow.cls = RX7 ∧ yX7_wayNow.cls ≠ "java/lang/invoke/MethodHandle" ∧ yX7_wayNow.cls ≠ "java/lang/invoke/VarHandle" ∧ (parseMethodDescriptor yX7_wayNow.desc).map (fun d => d.parameters.length) = some 0 := by decide +kernel
def f_X7_wayNow_4 (t_heirs : Int32) (t_thingOf : Nat → Int32)  : Nat → Int32 → Int32 → Option (Int32)
  | 0, _, _ => none
  | n + 1, x1, x2 => (if t_heirs ≤ x2 then some x1 else (rd t_thingOf 4 x2).bind (fun v2 => f_X7_wayNow_4 t_heirs t_thingOf  n (x1 ||| (v2 <<< ((2 * x2) &&& 31))) (x2 + 1)))
def f_X7_wayNow (t_heirs : Int32) (t_thingOf : Nat → Int32)  : Option (Int32) := f_X7_wayNow_4 t_heirs t_thingOf 300 0 0
set_option maxHeartbeats 4000000 in
set_option maxRecDepth 100000 in
theorem b_X7_wayNow_4 {p : Program} {l : Launch} {e : Env} {s : State} {m : MethodId} {args : Array Value} {below : List Frame} {meth : Method} {c : Code} {D : va_G} {cI cB : ClassId} {kK kV : Nat → Nat} {A : Nat → Prop} (F : Fx p m c s meth args cX7_wayNow 3 RX7 wsX7_wayNow (some .int) D cI cB kK kV A) {ad_t : Nat → Nat} {t_wills : Int32} {t_heirs : Int32} {t_kindOf : Nat → Int32} {t_worthOf : Nat → Int32} {t_thingOf : Nat → Int32} {t_changesOf : Nat → Int32} {t_changes : Int32} {t_heard : Int32} {t_heardHeir : Nat → Int32} {t_heardOne : Nat → Int32} {t_heardTwo : Nat → Int32} {t_heardMore : Nat → Int32} {t_pageLength : Int32} {t_page : Nat → Int32} {t_says : Nat → Int32} {t_dealt : Nat → Int32} {t_farOf : Nat → Int32} {t_endMany : Int32} {t_endMost : Int32} {t_endLeast : Int32} {t_endFew : Int32} {t_seedNow : Int64} {t_saved : Nat → Int32} {t_isKept : Int32} {t_keptWill : Int32} {t_keptChanges : Int32} {t_keptHeard : Int32} {t_keptWorth : Nat → Int32} {t_keptThing : Nat → Int32} {t_keptChangesOf : Nat → Int32} {t_keptHeir : Nat → Int32} {t_keptOne : Nat → Int32} {t_keptTwo : Nat → Int32} {t_keptMore : Nat → Int32} {t_h : Int64} {rr : Int32}  : ∀ (n : Nat), ∀ (x1 : Int32) (x2 : Int32) (H : Heap) (locs : List Loc) (ls : Array Slot), va_P D vwCl (w_X7 cI cB ad_t t_wills t_heirs t_kindOf t_worthOf t_thingOf t_changesOf t_changes t_heard t_heardHeir t_heardOne t_heardTwo t_heardMore t_pageLength t_page t_says t_dealt t_farOf t_endMany t_endMost t_endLeast t_endFew t_seedNow t_saved t_isKept t_keptWill t_keptChanges t_keptHeard t_keptWorth t_keptThing t_keptChangesOf t_keptHeir t_keptOne t_keptTwo t_keptMore t_h) H → va_D A (w_X7 cI cB ad_t t_wills t_heirs t_kindOf t_worthOf t_thingOf t_changesOf t_changes t_heard t_heardHeir t_heardOne t_heardTwo t_heardMore t_pageLength t_page t_says t_dealt t_farOf t_endMany t_endMost t_endLeast t_endFew t_seedNow t_saved t_isKept t_keptWill t_keptChanges t_keptHeard t_keptWorth t_keptThing t_keptChangesOf t_keptHeir t_keptOne t_keptTwo t_keptMore t_h) → va_S A s.heap H locs → lv_has ls 3 [(0, .ref (ad_t 0)), (1, .int x1), (2, .int x2)] → f_X7_wayNow_4 t_heirs t_thingOf  n x1 x2 = some rr → W p l e rm_X7_wayNow s m args below meth c H locs 0 0 (Zq D below args s A (w_X7 cI cB ad_t t_wills t_heirs t_kindOf t_worthOf t_thingOf t_changesOf t_changes t_heard t_heardHeir t_heardOne t_heardTwo t_heardMore t_pageLength t_page t_says t_dealt t_farOf t_endMany t_endMost t_endLeast t_endFew t_seedNow t_saved t_isKept t_keptWill t_keptChanges t_keptHeard t_keptWorth t_keptThing t_keptChangesOf t_keptHeir t_keptOne t_keptTwo t_keptMore t_h) (some (.int rr))) (F0 m 4 ls []) := by
  obtain ⟨hx, hb, hml, hown, hts, hrt, hlocks, hK, hA, hZ⟩ := id F
  intro n
  induction n with
  | zero =>
    intro x1 x2 H locs ls hP hD hS hl hf
    cases hf
  | succ n ih =>
    intro x1 x2 H locs ls hP hD hS hl hf
    refine lv_iload_n hx hb dX7_wayNow_4 rfl (lv_at hl 2 rfl) ?_
    refine lv_aload_n hx hb dX7_wayNow_5 rfl (lv_at hl 0 rfl) ?_
    refine gf F hP in_X7_wayNow_X7 0 rfl rfl 1 (by decide) 1 rfl rfl dX7_wayNow_6 ?_
    refine lv_icmp_ge (tgt := 31) hx hb dX7_wayNow_9 (by decide) (fun c1 => ?_) (fun c1 => ?_)
    · replace hf := (if_pos c1).symm.trans hf
      refine lv_iload_n hx hb dX7_wayNow_31 rfl (lv_at hl 1 rfl) ?_
      replace hf : (some x1 : Option (Int32)) = some rr := hf
      cases hf
      exact ret_i F hP hS dX7_wayNow_32
    · replace hf := (if_neg c1).symm.trans hf
      refine lv_iload_n hx hb dX7_wayNow_12 rfl (lv_at hl 1 rfl) ?_
      refine lv_aload_n hx hb dX7_wayNow_13 rfl (lv_at hl 0 rfl) ?_
      refine gf F hP in_X7_wayNow_X7 0 rfl rfl 4 (by decide) 2 rfl rfl dX7_wayNow_14 ?_
      refine lv_iload_n hx hb dX7_wayNow_17 rfl (lv_at hl 2 rfl) ?_
      obtain ⟨v2, ev2, hf⟩ := bnd hf
      refine ald F hP 3 rfl ev2 dX7_wayNow_18 ?_
      refine lv_iconst (v := 2) hx hb dX7_wayNow_19 (by decide) ?_
      refine lv_iload_n hx hb dX7_wayNow_20 rfl (lv_at hl 2 rfl) ?_
      refine lv_imul hx hb dX7_wayNow_21 ?_
      refine lv_ishl hx hb dX7_wayNow_22 ?_
      refine lv_ior hx hb dX7_wayNow_23 ?_
      refine lv_istore_n (lv' := [(1, .int (x1 ||| (v2 <<< ((2 * x2) &&& 31)))), (0, .ref (ad_t 0)), (2, .int x2)]) hx hb dX7_wayNow_24 rfl hl (by decide) rfl (fun ls hl => ?_)
      refine lv_iinc (v := (x2 + 1)) (lv' := [(2, .int (x2 + 1)), (1, .int (x1 ||| (v2 <<< ((2 * x2) &&& 31)))), (0, .ref (ad_t 0))]) hx hb dX7_wayNow_25 hl (k := 2) rfl rfl (by decide) rfl (fun ls hl => ?_)
      refine lv_goto (tgt := 4) hx hb dX7_wayNow_28 (by decide) ?_
      exact ih (x1 ||| (v2 <<< ((2 * x2) &&& 31))) (x2 + 1) H locs ls hP hD hS (lv_sub hl [2, 1, 0] rfl) hf

set_option maxHeartbeats 4000000 in
set_option maxRecDepth 100000 in
theorem k_X7_wayNow (l : Launch) {D : va_G} {cI cB : ClassId} {kK kV : Nat → Nat} (ad_t : Nat → Nat) (t_wills : Int32) (t_heirs : Int32) (t_kindOf : Nat → Int32) (t_worthOf : Nat → Int32) (t_thingOf : Nat → Int32) (t_changesOf : Nat → Int32) (t_changes : Int32) (t_heard : Int32) (t_heardHeir : Nat → Int32) (t_heardOne : Nat → Int32) (t_heardTwo : Nat → Int32) (t_heardMore : Nat → Int32) (t_pageLength : Int32) (t_page : Nat → Int32) (t_says : Nat → Int32) (t_dealt : Nat → Int32) (t_farOf : Nat → Int32) (t_endMany : Int32) (t_endMost : Int32) (t_endLeast : Int32) (t_endFew : Int32) (t_seedNow : Int64) (t_saved : Nat → Int32) (t_isKept : Int32) (t_keptWill : Int32) (t_keptChanges : Int32) (t_keptHeard : Int32) (t_keptWorth : Nat → Int32) (t_keptThing : Nat → Int32) (t_keptChangesOf : Nat → Int32) (t_keptHeir : Nat → Int32) (t_keptOne : Nat → Int32) (t_keptTwo : Nat → Int32) (t_keptMore : Nat → Int32) (t_h : Int64)  {rr : Int32}  (hf : f_X7_wayNow t_heirs t_thingOf = some rr) : Ct l yX7_wayNow wsX7_wayNow rm_X7_wayNow D cI cB kK kV [.ref (ad_t 0)] (w_X7 cI cB ad_t t_wills t_heirs t_kindOf t_worthOf t_thingOf t_changesOf t_changes t_heard t_heardHeir t_heardOne t_heardTwo t_heardMore t_pageLength t_page t_says t_dealt t_farOf t_endMany t_endMost t_endLeast t_endFew t_seedNow t_saved t_isKept t_keptWill t_keptChanges t_keptHeard t_keptWorth t_keptThing t_keptChangesOf t_keptHeir t_keptOne t_keptTwo t_keptMore t_h) (w_X7 cI cB ad_t t_wills t_heirs t_kindOf t_worthOf t_thingOf t_changesOf t_changes t_heard t_heardHeir t_heardOne t_heardTwo t_heardMore t_pageLength t_page t_says t_dealt t_farOf t_endMany t_endMost t_endLeast t_endFew t_seedNow t_saved t_isKept t_keptWill t_keptChanges t_keptHeard t_keptWorth t_keptThing t_keptChangesOf t_keptHeir t_keptOne t_keptTwo t_keptMore t_h) (some (.int rr)) := by
  refine Ct.of (cc := cX7_wayNow) (maxL := 3) (ret := (some .int)) (by decide) rfl (Nat.le_of_ble_eq_true rfl) rfl ?_
  intro p e s m below meth c A ls F hP hD hS hl
  have hl : lv_has ls 3 [(0, .ref (ad_t 0))] := hl
  obtain ⟨hx, hb, hml, hown, hts, hrt, hlocks, hK, hA, hZ⟩ := id F
  obtain ⟨H, hH⟩ : ∃ H, H = s.heap := ⟨_, rfl⟩
  obtain ⟨locs, hLo⟩ : ∃ q : List Loc, q = [] := ⟨_, rfl⟩
  refine (?_ : W p l e rm_X7_wayNow s m _ below meth c s.heap [] 0 0 _ _)
  rw [← hH, ← hLo]
  rw [← hH] at hP
  have hS : va_S A s.heap H locs := by rw [hH, hLo]; exact hS
  refine lv_iconst (v := 0) hx hb dX7_wayNow_0 (by decide) ?_
  refine lv_istore_n (lv' := [(1, .int 0), (0, .ref (ad_t 0))]) hx hb dX7_wayNow_1 rfl hl (by decide) rfl (fun ls hl => ?_)
  refine lv_iconst (v := 0) hx hb dX7_wayNow_2 (by decide) ?_
  refine lv_istore_n (lv' := [(2, .int 0), (1, .int 0), (0, .ref (ad_t 0))]) hx hb dX7_wayNow_3 rfl hl (by decide) rfl (fun ls hl => ?_)
  exact b_X7_wayNow_4 F 300 0 0 H locs ls hP hD hS (lv_sub hl [2, 1, 0] rfl) hf

/-! X7_sumBy -/
def rm_X7_sumBy : Room := { frames := 1, cells := 0, slots := 0, locals := 21 }
theorem in_X7_sumBy_X7 : ∀ w ∈ u_ws RX7 TX7 35, w ∈ wsX7_sumBy := fun _ h => List.mem_cons_of_mem _ (List.mem_append_right _ (h))
theorem nd_X7_sumBy : yX7_sumBy.cls = RX7 ∧ yX7_sumBy.cls ≠ "java/lang/invoke/MethodHandle" ∧ yX7_sumBy.cls ≠ "java/lang/invoke/VarHandle" ∧ (parseMethodDescriptor yX7_sumBy.desc).map (fun d => d.parameters.length) = some 1 := by decide +kernel
def f_X7_sumBy_4 (t_heirs : Int32) (t_worthOf : Nat → Int32)  : Nat → Int32 → Int32 → Int32 → Option (Int32)
  | 0, _, _, _ => none
  | n + 1, x1, x2, x3 => (if t_heirs ≤ x3 then some x2 else (f_X7_figure x1 x3).bind (fun v2 => (rd t_worthOf 16 ((4 * x3) + v2)).bind (fun v4 => f_X7_sumBy_4 t_heirs t_worthOf  n x1 (x2 + v4) (x3 + 1))))
def f_X7_sumBy (t_heirs : Int32) (t_worthOf : Nat → Int32) (x1 : Int32) : Option (Int32) := f_X7_sumBy_4 t_heirs t_worthOf 300 x1 0 0
set_option maxHeartbeats 4000000 in
set_option maxRecDepth 100000 in
theorem b_X7_sumBy_4 {p : Program} {l : Launch} {e : Env} {s : State} {m : MethodId} {args : Array Value} {below : List Frame} {meth : Method} {c : Code} {D : va_G} {cI cB : ClassId} {kK kV : Nat → Nat} {A : Nat → Prop} (F : Fx p m c s meth args cX7_sumBy 4 RX7 wsX7_sumBy (some .int) D cI cB kK kV A) {ad_t : Nat → Nat} {t_wills : Int32} {t_heirs : Int32} {t_kindOf : Nat → Int32} {t_worthOf : Nat → Int32} {t_thingOf : Nat → Int32} {t_changesOf : Nat → Int32} {t_changes : Int32} {t_heard : Int32} {t_heardHeir : Nat → Int32} {t_heardOne : Nat → Int32} {t_heardTwo : Nat → Int32} {t_heardMore : Nat → Int32} {t_pageLength : Int32} {t_page : Nat → Int32} {t_says : Nat → Int32} {t_dealt : Nat → Int32} {t_farOf : Nat → Int32} {t_endMany : Int32} {t_endMost : Int32} {t_endLeast : Int32} {t_endFew : Int32} {t_seedNow : Int64} {t_saved : Nat → Int32} {t_isKept : Int32} {t_keptWill : Int32} {t_keptChanges : Int32} {t_keptHeard : Int32} {t_keptWorth : Nat → Int32} {t_keptThing : Nat → Int32} {t_keptChangesOf : Nat → Int32} {t_keptHeir : Nat → Int32} {t_keptOne : Nat → Int32} {t_keptTwo : Nat → Int32} {t_keptMore : Nat → Int32} {t_h : Int64} {rr : Int32}  : ∀ (n : Nat), ∀ (x1 : Int32) (x2 : Int32) (x3 : Int32) (H : Heap) (locs : List Loc) (ls : Array Slot), va_P D vwCl (w_X7 cI cB ad_t t_wills t_heirs t_kindOf t_worthOf t_thingOf t_changesOf t_changes t_heard t_heardHeir t_heardOne t_heardTwo t_heardMore t_pageLength t_page t_says t_dealt t_farOf t_endMany t_endMost t_endLeast t_endFew t_seedNow t_saved t_isKept t_keptWill t_keptChanges t_keptHeard t_keptWorth t_keptThing t_keptChangesOf t_keptHeir t_keptOne t_keptTwo t_keptMore t_h) H → va_D A (w_X7 cI cB ad_t t_wills t_heirs t_kindOf t_worthOf t_thingOf t_changesOf t_changes t_heard t_heardHeir t_heardOne t_heardTwo t_heardMore t_pageLength t_page t_says t_dealt t_farOf t_endMany t_endMost t_endLeast t_endFew t_seedNow t_saved t_isKept t_keptWill t_keptChanges t_keptHeard t_keptWorth t_keptThing t_keptChangesOf t_keptHeir t_keptOne t_keptTwo t_keptMore t_h) → va_S A s.heap H locs → lv_has ls 4 [(0, .ref (ad_t 0)), (1, .int x1), (2, .int x2), (3, .int x3)] → f_X7_sumBy_4 t_heirs t_worthOf  n x1 x2 x3 = some rr → W p l e rm_X7_sumBy s m args below meth c H locs 0 0 (Zq D below args s A (w_X7 cI cB ad_t t_wills t_heirs t_kindOf t_worthOf t_thingOf t_changesOf t_changes t_heard t_heardHeir t_heardOne t_heardTwo t_heardMore t_pageLength t_page t_says t_dealt t_farOf t_endMany t_endMost t_endLeast t_endFew t_seedNow t_saved t_isKept t_keptWill t_keptChanges t_keptHeard t_keptWorth t_keptThing t_keptChangesOf t_keptHeir t_keptOne t_keptTwo t_keptMore t_h) (some (.int rr))) (F0 m 4 ls []) := by
  obtain ⟨hx, hb, hml, hown, hts, hrt, hlocks, hK, hA, hZ⟩ := id F
  intro n
  induction n with
  | zero =>
    intro x1 x2 x3 H locs ls hP hD hS hl hf
    cases hf
  | succ n ih =>
    intro x1 x2 x3 H locs ls hP hD hS hl hf
    refine lv_iload_n hx hb dX7_sumBy_4 rfl (lv_at hl 3 rfl) ?_
    refine lv_aload_n hx hb dX7_sumBy_5 rfl (lv_at hl 0 rfl) ?_
    refine gf F hP in_X7_sumBy_X7 0 rfl rfl 1 (by decide) 1 rfl rfl dX7_sumBy_6 ?_
    refine lv_icmp_ge (tgt := 35) hx hb dX7_sumBy_9 (by decide) (fun c1 => ?_) (fun c1 => ?_)
    · replace hf := (if_pos c1).symm.trans hf
      refine lv_iload_n hx hb dX7_sumBy_35 rfl (lv_at hl 2 rfl) ?_
      replace hf : (some x2 : Option (Int32)) = some rr := hf
      cases hf
      exact ret_i F hP hS dX7_sumBy_36
    · replace hf := (if_neg c1).symm.trans hf
      refine lv_iload_n hx hb dX7_sumBy_12 rfl (lv_at hl 2 rfl) ?_
      refine lv_aload_n hx hb dX7_sumBy_13 rfl (lv_at hl 0 rfl) ?_
      refine gf F hP in_X7_sumBy_X7 0 rfl rfl 3 (by decide) 2 rfl rfl dX7_sumBy_14 ?_
      refine lv_iconst (v := 4) hx hb dX7_sumBy_17 (by decide) ?_
      refine lv_iload_n hx hb dX7_sumBy_18 rfl (lv_at hl 3 rfl) ?_
      refine lv_imul hx hb dX7_sumBy_19 ?_
      refine lv_iload_n hx hb dX7_sumBy_20 rfl (lv_at hl 1 rfl) ?_
      refine lv_iload_n hx hb dX7_sumBy_21 rfl (lv_at hl 3 rfl) ?_
      obtain ⟨v2, e3, hf⟩ := bnd hf
      refine cS F hP hD hS (k_X7_figure l  x1 x3 e3) gX7_sumBy_X7_figure rfl ⟨rfl, rfl⟩ nd_X7_figure ⟨Nat.le_of_ble_eq_true rfl, Nat.le_of_ble_eq_true rfl⟩ rfl hl.1 rfl (Nat.le_of_ble_eq_true rfl) dX7_sumBy_22 (pmE (w_X7 cI cB ad_t t_wills t_heirs t_kindOf t_worthOf t_thingOf t_changesOf t_changes t_heard t_heardHeir t_heardOne t_heardTwo t_heardMore t_pageLength t_page t_says t_dealt t_farOf t_endMany t_endMost t_endLeast t_endFew t_seedNow t_saved t_isKept t_keptWill t_keptChanges t_keptHeard t_keptWorth t_keptThing t_keptChangesOf t_keptHeir t_keptOne t_keptTwo t_keptMore t_h)) (pmE (w_X7 cI cB ad_t t_wills t_heirs t_kindOf t_worthOf t_thingOf t_changesOf t_changes t_heard t_heardHeir t_heardOne t_heardTwo t_heardMore t_pageLength t_page t_says t_dealt t_farOf t_endMany t_endMost t_endLeast t_endFew t_seedNow t_saved t_isKept t_keptWill t_keptChanges t_keptHeard t_keptWorth t_keptThing t_keptChangesOf t_keptHeir t_keptOne t_keptTwo t_keptMore t_h)) (fun H locs hP hD hS => ?_)
      refine lv_iadd hx hb dX7_sumBy_25 ?_
      obtain ⟨v4, ev4, hf⟩ := bnd hf
      refine ald F hP 2 rfl ev4 dX7_sumBy_26 ?_
      refine lv_iadd hx hb dX7_sumBy_27 ?_
      refine lv_istore_n (lv' := [(2, .int (x2 + v4)), (0, .ref (ad_t 0)), (1, .int x1), (3, .int x3)]) hx hb dX7_sumBy_28 rfl hl (by decide) rfl (fun ls hl => ?_)
      refine lv_iinc (v := (x3 + 1)) (lv' := [(3, .int (x3 + 1)), (2, .int (x2 + v4)), (0, .ref (ad_t 0)), (1, .int x1)]) hx hb dX7_sumBy_29 hl (k := 3) rfl rfl (by decide) rfl (fun ls hl => ?_)
      refine lv_goto (tgt := 4) hx hb dX7_sumBy_32 (by decide) ?_
      exact ih x1 (x2 + v4) (x3 + 1) H locs ls hP hD hS (lv_sub hl [2, 3, 1, 0] rfl) hf

set_option maxHeartbeats 4000000 in
set_option maxRecDepth 100000 in
theorem k_X7_sumBy (l : Launch) {D : va_G} {cI cB : ClassId} {kK kV : Nat → Nat} (ad_t : Nat → Nat) (t_wills : Int32) (t_heirs : Int32) (t_kindOf : Nat → Int32) (t_worthOf : Nat → Int32) (t_thingOf : Nat → Int32) (t_changesOf : Nat → Int32) (t_changes : Int32) (t_heard : Int32) (t_heardHeir : Nat → Int32) (t_heardOne : Nat → Int32) (t_heardTwo : Nat → Int32) (t_heardMore : Nat → Int32) (t_pageLength : Int32) (t_page : Nat → Int32) (t_says : Nat → Int32) (t_dealt : Nat → Int32) (t_farOf : Nat → Int32) (t_endMany : Int32) (t_endMost : Int32) (t_endLeast : Int32) (t_endFew : Int32) (t_seedNow : Int64) (t_saved : Nat → Int32) (t_isKept : Int32) (t_keptWill : Int32) (t_keptChanges : Int32) (t_keptHeard : Int32) (t_keptWorth : Nat → Int32) (t_keptThing : Nat → Int32) (t_keptChangesOf : Nat → Int32) (t_keptHeir : Nat → Int32) (t_keptOne : Nat → Int32) (t_keptTwo : Nat → Int32) (t_keptMore : Nat → Int32) (t_h : Int64) (x1 : Int32) {rr : Int32}  (hf : f_X7_sumBy t_heirs t_worthOf x1 = some rr) : Ct l yX7_sumBy wsX7_sumBy rm_X7_sumBy D cI cB kK kV [.ref (ad_t 0), .int x1] (w_X7 cI cB ad_t t_wills t_heirs t_kindOf t_worthOf t_thingOf t_changesOf t_changes t_heard t_heardHeir t_heardOne t_heardTwo t_heardMore t_pageLength t_page t_says t_dealt t_farOf t_endMany t_endMost t_endLeast t_endFew t_seedNow t_saved t_isKept t_keptWill t_keptChanges t_keptHeard t_keptWorth t_keptThing t_keptChangesOf t_keptHeir t_keptOne t_keptTwo t_keptMore t_h) (w_X7 cI cB ad_t t_wills t_heirs t_kindOf t_worthOf t_thingOf t_changesOf t_changes t_heard t_heardHeir t_heardOne t_heardTwo t_heardMore t_pageLength t_page t_says t_dealt t_farOf t_endMany t_endMost t_endLeast t_endFew t_seedNow t_saved t_isKept t_keptWill t_keptChanges t_keptHeard t_keptWorth t_keptThing t_keptChangesOf t_keptHeir t_keptOne t_keptTwo t_keptMore t_h) (some (.int rr)) := by
  refine Ct.of (cc := cX7_sumBy) (maxL := 4) (ret := (some .int)) (by decide) rfl (Nat.le_of_ble_eq_true rfl) rfl ?_
  intro p e s m below meth c A ls F hP hD hS hl
  have hl : lv_has ls 4 [(0, .ref (ad_t 0)), (1, .int x1)] := hl
  obtain ⟨hx, hb, hml, hown, hts, hrt, hlocks, hK, hA, hZ⟩ := id F
  obtain ⟨H, hH⟩ : ∃ H, H = s.heap := ⟨_, rfl⟩
  obtain ⟨locs, hLo⟩ : ∃ q : List Loc, q = [] := ⟨_, rfl⟩
  refine (?_ : W p l e rm_X7_sumBy s m _ below meth c s.heap [] 0 0 _ _)
  rw [← hH, ← hLo]
  rw [← hH] at hP
  have hS : va_S A s.heap H locs := by rw [hH, hLo]; exact hS
  refine lv_iconst (v := 0) hx hb dX7_sumBy_0 (by decide) ?_
  refine lv_istore_n (lv' := [(2, .int 0), (0, .ref (ad_t 0)), (1, .int x1)]) hx hb dX7_sumBy_1 rfl hl (by decide) rfl (fun ls hl => ?_)
  refine lv_iconst (v := 0) hx hb dX7_sumBy_2 (by decide) ?_
  refine lv_istore_n (lv' := [(3, .int 0), (2, .int 0), (0, .ref (ad_t 0)), (1, .int x1)]) hx hb dX7_sumBy_3 rfl hl (by decide) rfl (fun ls hl => ?_)
  exact b_X7_sumBy_4 F 300 x1 0 0 H locs ls hP hD hS (lv_sub hl [2, 3, 1, 0] rfl) hf

/-! X7_goChanges -/
def rm_X7_goChanges : Room := { frames := 1, cells := 0, slots := 0, locals := 24 }
theorem in_X7_goChanges_X7 : ∀ w ∈ u_ws RX7 TX7 35, w ∈ wsX7_goChanges := fun _ h => List.mem_cons_of_mem _ (List.mem_append_right _ (h))
theorem nd_X7_goChanges : yX7_goChanges.cls = RX7 ∧ yX7_goChanges.cls ≠ "java/lang/invoke/MethodHandle" ∧ yX7_goChanges.cls ≠ "java/lang/invoke/VarHandle" ∧ (parseMethodDescriptor yX7_goChanges.desc).map (fun d => d.parameters.length) = some 1 := by decide +kernel
def f_X7_goChanges_162 (t_heirs : Int32) (t_worthOf : Nat → Int32) (t_says : Nat → Int32) (back_4 : Int32 → Int32 → Int32 → (Nat → Int32) → Option (Int32 × (Nat → Int32))) (x1 : Int32) (x2 : Int32) (x3 : Int32) (k0 : Int32) (k1 : Int32) (t_farOf : Nat → Int32) : Option (Int32 × (Nat → Int32)) := (wr t_farOf 256 k1 k0).bind (fun g1 => back_4 x1 (x2 + 1) (x3 + 1) g1)
def f_X7_goChanges_150 (t_heirs : Int32) (t_worthOf : Nat → Int32) (t_says : Nat → Int32) (back_4 : Int32 → Int32 → Int32 → (Nat → Int32) → Option (Int32 × (Nat → Int32))) (x1 : Int32) (x2 : Int32) (x3 : Int32) (x9 : Int32) (k0 : Int32) (t_farOf : Nat → Int32) : Option (Int32 × (Nat → Int32)) := f_X7_goChanges_162 t_heirs t_worthOf t_says back_4 x1 x2 x3 x9 k0 t_farOf
def f_X7_goChanges_4 (t_heirs : Int32) (t_worthOf : Nat → Int32) (t_says : Nat → Int32)  : Nat → Int32 → Int32 → Int32 → (Nat → Int32) → Option (Int32 × (Nat → Int32))
  | 0, _, _, _, _ => none
  | n + 1, x1, x2, x3, t_farOf => (if (t_heirs * t_heirs) ≤ x3 then some (x2, t_farOf) else (dvI x3 t_heirs).bind (fun v2 => (rmI x3 t_heirs).bind (fun v3 => (f_X7_figure x1 v2).bind (fun v4 => (f_X7_figure x1 v3).bind (fun v6 => (if v3 ≤ v2 then f_X7_goChanges_4 t_heirs t_worthOf t_says  n x1 x2 (x3 + 1) t_farOf else (f_X7_isAllowed t_says v2 v4 v3 v6).bind (fun v9 => (if v9 = 0 then f_X7_goChanges_4 t_heirs t_worthOf t_says  n x1 x2 (x3 + 1) t_farOf else (f_X7_isWished t_worthOf v2 v4 v3 v6).bind (fun v12 => (if v12 = 0 then f_X7_goChanges_4 t_heirs t_worthOf t_says  n x1 x2 (x3 + 1) t_farOf else (rd t_farOf 256 x1).bind (fun v15 => (rd t_farOf 256 ((x1 ^^^ ((v4 ^^^ v6) <<< ((2 * v2) &&& 31))) ^^^ ((v4 ^^^ v6) <<< ((2 * v3) &&& 31)))).bind (fun v16 => (if v16 = (-1) then f_X7_goChanges_150 t_heirs t_worthOf t_says (f_X7_goChanges_4 t_heirs t_worthOf t_says  n) x1 x2 x3 (v15 + 1) ((x1 ^^^ ((v4 ^^^ v6) <<< ((2 * v2) &&& 31))) ^^^ ((v4 ^^^ v6) <<< ((2 * v3) &&& 31))) t_farOf else (rd t_farOf 256 ((x1 ^^^ ((v4 ^^^ v6) <<< ((2 * v2) &&& 31))) ^^^ ((v4 ^^^ v6) <<< ((2 * v3) &&& 31)))).bind (fun v18 => (if v18 ≤ (v15 + 1) then (rd t_farOf 256 ((x1 ^^^ ((v4 ^^^ v6) <<< ((2 * v2) &&& 31))) ^^^ ((v4 ^^^ v6) <<< ((2 * v3) &&& 31)))).bind (fun v20 => f_X7_goChanges_162 t_heirs t_worthOf t_says (f_X7_goChanges_4 t_heirs t_worthOf t_says  n) x1 x2 x3 v20 ((x1 ^^^ ((v4 ^^^ v6) <<< ((2 * v2) &&& 31))) ^^^ ((v4 ^^^ v6) <<< ((2 * v3) &&& 31))) t_farOf) else f_X7_goChanges_150 t_heirs t_worthOf t_says (f_X7_goChanges_4 t_heirs t_worthOf t_says  n) x1 x2 x3 (v15 + 1) ((x1 ^^^ ((v4 ^^^ v6) <<< ((2 * v2) &&& 31))) ^^^ ((v4 ^^^ v6) <<< ((2 * v3) &&& 31))) t_farOf)))))))))))))))
def f_X7_goChanges (t_heirs : Int32) (t_worthOf : Nat → Int32) (t_says : Nat → Int32) (t_farOf : Nat → Int32) (x1 : Int32) : Option (Int32 × (Nat → Int32)) := f_X7_goChanges_4 t_heirs t_worthOf t_says 300 x1 0 0 t_farOf
set_option maxHeartbeats 4000000 in
set_option maxRecDepth 100000 in
theorem b_X7_goChanges_162 {p : Program} {l : Launch} {e : Env} {s : State} {m : MethodId} {args : Array Value} {below : List Frame} {meth : Method} {c : Code} {D : va_G} {cI cB : ClassId} {kK kV : Nat → Nat} {A : Nat → Prop} (F : Fx p m c s meth args cX7_goChanges 10 RX7 wsX7_goChanges (some .int) D cI cB kK kV A) {ad_t : Nat → Nat} {t_wills : Int32} {t_heirs : Int32} {t_kindOf : Nat → Int32} {t_worthOf : Nat → Int32} {t_thingOf : Nat → Int32} {t_changesOf : Nat → Int32} {t_changes : Int32} {t_heard : Int32} {t_heardHeir : Nat → Int32} {t_heardOne : Nat → Int32} {t_heardTwo : Nat → Int32} {t_heardMore : Nat → Int32} {t_pageLength : Int32} {t_page : Nat → Int32} {t_says : Nat → Int32} {t_dealt : Nat → Int32} {t_endMany : Int32} {t_endMost : Int32} {t_endLeast : Int32} {t_endFew : Int32} {t_seedNow : Int64} {t_saved : Nat → Int32} {t_isKept : Int32} {t_keptWill : Int32} {t_keptChanges : Int32} {t_keptHeard : Int32} {t_keptWorth : Nat → Int32} {t_keptThing : Nat → Int32} {t_keptChangesOf : Nat → Int32} {t_keptHeir : Nat → Int32} {t_keptOne : Nat → Int32} {t_keptTwo : Nat → Int32} {t_keptMore : Nat → Int32} {t_h : Int64} {rr : Int32} {g_t_farOf : Nat → Int32} (back_4 : Int32 → Int32 → Int32 → (Nat → Int32) → Option (Int32 × (Nat → Int32))) (hb_4 : ∀ (x1 : Int32) (x2 : Int32) (x3 : Int32) (t_farOf : Nat → Int32) (H : Heap) (locs : List Loc) (ls : Array Slot), va_P D vwCl (w_X7 cI cB ad_t t_wills t_heirs t_kindOf t_worthOf t_thingOf t_changesOf t_changes t_heard t_heardHeir t_heardOne t_heardTwo t_heardMore t_pageLength t_page t_says t_dealt t_farOf t_endMany t_endMost t_endLeast t_endFew t_seedNow t_saved t_isKept t_keptWill t_keptChanges t_keptHeard t_keptWorth t_keptThing t_keptChangesOf t_keptHeir t_keptOne t_keptTwo t_keptMore t_h) H → va_D A (w_X7 cI cB ad_t t_wills t_heirs t_kindOf t_worthOf t_thingOf t_changesOf t_changes t_heard t_heardHeir t_heardOne t_heardTwo t_heardMore t_pageLength t_page t_says t_dealt t_farOf t_endMany t_endMost t_endLeast t_endFew t_seedNow t_saved t_isKept t_keptWill t_keptChanges t_keptHeard t_keptWorth t_keptThing t_keptChangesOf t_keptHeir t_keptOne t_keptTwo t_keptMore t_h) → va_S A s.heap H locs → lv_has ls 10 [(0, .ref (ad_t 0)), (1, .int x1), (2, .int x2), (3, .int x3)] → back_4 x1 x2 x3 t_farOf = some (rr, g_t_farOf) → W p l e rm_X7_goChanges s m args below meth c H locs 0 0 (Zq D below args s A (w_X7 cI cB ad_t t_wills t_heirs t_kindOf t_worthOf t_thingOf t_changesOf t_changes t_heard t_heardHeir t_heardOne t_heardTwo t_heardMore t_pageLength t_page t_says t_dealt g_t_farOf t_endMany t_endMost t_endLeast t_endFew t_seedNow t_saved t_isKept t_keptWill t_keptChanges t_keptHeard t_keptWorth t_keptThing t_keptChangesOf t_keptHeir t_keptOne t_keptTwo t_keptMore t_h) (some (.int rr))) (F0 m 4 ls [])) : ∀ (x1 : Int32) (x2 : Int32) (x3 : Int32) (k0 : Int32) (k1 : Int32) (t_farOf : Nat → Int32) (H : Heap) (locs : List Loc) (ls : Array Slot), va_P D vwCl (w_X7 cI cB ad_t t_wills t_heirs t_kindOf t_worthOf t_thingOf t_changesOf t_changes t_heard t_heardHeir t_heardOne t_heardTwo t_heardMore t_pageLength t_page t_says t_dealt t_farOf t_endMany t_endMost t_endLeast t_endFew t_seedNow t_saved t_isKept t_keptWill t_keptChanges t_keptHeard t_keptWorth t_keptThing t_keptChangesOf t_keptHeir t_keptOne t_keptTwo t_keptMore t_h) H → va_D A (w_X7 cI cB ad_t t_wills t_heirs t_kindOf t_worthOf t_thingOf t_changesOf t_changes t_heard t_heardHeir t_heardOne t_heardTwo t_heardMore t_pageLength t_page t_says t_dealt t_farOf t_endMany t_endMost t_endLeast t_endFew t_seedNow t_saved t_isKept t_keptWill t_keptChanges t_keptHeard t_keptWorth t_keptThing t_keptChangesOf t_keptHeir t_keptOne t_keptTwo t_keptMore t_h) → va_S A s.heap H locs → lv_has ls 10 [(0, .ref (ad_t 0)), (1, .int x1), (2, .int x2), (3, .int x3)] → f_X7_goChanges_162 t_heirs t_worthOf t_says back_4 x1 x2 x3 k0 k1 t_farOf = some (rr, g_t_farOf) → W p l e rm_X7_goChanges s m args below meth c H locs 0 0 (Zq D below args s A (w_X7 cI cB ad_t t_wills t_heirs t_kindOf t_worthOf t_thingOf t_changesOf t_changes t_heard t_heardHeir t_heardOne t_heardTwo t_heardMore t_pageLength t_page t_says t_dealt g_t_farOf t_endMany t_endMost t_endLeast t_endFew t_seedNow t_saved t_isKept t_keptWill t_keptChanges t_keptHeard t_keptWorth t_keptThing t_keptChangesOf t_keptHeir t_keptOne t_keptTwo t_keptMore t_h) (some (.int rr))) (F0 m 162 ls [.int k0, .int k1, .ref (ad_t 12)]) := by
  obtain ⟨hx, hb, hml, hown, hts, hrt, hlocks, hK, hA, hZ⟩ := id F
  intro x1 x2 x3 k0 k1 t_farOf H locs ls hP hD hS hl hf
  obtain ⟨g1, eg1, hf⟩ := bnd hf
  refine ast F hP hD hS 12 rfl eg1 dX7_goChanges_162 (w_X7 cI cB ad_t t_wills t_heirs t_kindOf t_worthOf t_thingOf t_changesOf t_changes t_heard t_heardHeir t_heardOne t_heardTwo t_heardMore t_pageLength t_page t_says t_dealt g1 t_endMany t_endMost t_endLeast t_endFew t_seedNow t_saved t_isKept t_keptWill t_keptChanges t_keptHeard t_keptWorth t_keptThing t_keptChangesOf t_keptHeir t_keptOne t_keptTwo t_keptMore t_h) rfl (fun H locs hP hD hS => ?_)
  refine lv_iinc (v := (x2 + 1)) (lv' := [(2, .int (x2 + 1)), (0, .ref (ad_t 0)), (1, .int x1), (3, .int x3)]) hx hb dX7_goChanges_163 hl (k := 2) rfl rfl (by decide) rfl (fun ls hl => ?_)
  refine lv_iinc (v := (x3 + 1)) (lv' := [(3, .int (x3 + 1)), (2, .int (x2 + 1)), (0, .ref (ad_t 0)), (1, .int x1)]) hx hb dX7_goChanges_166 hl (k := 3) rfl rfl (by decide) rfl (fun ls hl => ?_)
  refine lv_goto (tgt := 4) hx hb dX7_goChanges_169 (by decide) ?_
  exact hb_4 x1 (x2 + 1) (x3 + 1) g1 H locs ls hP hD hS (lv_sub hl [2, 3, 1, 0] rfl) hf

set_option maxHeartbeats 4000000 in
set_option maxRecDepth 100000 in
theorem b_X7_goChanges_150 {p : Program} {l : Launch} {e : Env} {s : State} {m : MethodId} {args : Array Value} {below : List Frame} {meth : Method} {c : Code} {D : va_G} {cI cB : ClassId} {kK kV : Nat → Nat} {A : Nat → Prop} (F : Fx p m c s meth args cX7_goChanges 10 RX7 wsX7_goChanges (some .int) D cI cB kK kV A) {ad_t : Nat → Nat} {t_wills : Int32} {t_heirs : Int32} {t_kindOf : Nat → Int32} {t_worthOf : Nat → Int32} {t_thingOf : Nat → Int32} {t_changesOf : Nat → Int32} {t_changes : Int32} {t_heard : Int32} {t_heardHeir : Nat → Int32} {t_heardOne : Nat → Int32} {t_heardTwo : Nat → Int32} {t_heardMore : Nat → Int32} {t_pageLength : Int32} {t_page : Nat → Int32} {t_says : Nat → Int32} {t_dealt : Nat → Int32} {t_endMany : Int32} {t_endMost : Int32} {t_endLeast : Int32} {t_endFew : Int32} {t_seedNow : Int64} {t_saved : Nat → Int32} {t_isKept : Int32} {t_keptWill : Int32} {t_keptChanges : Int32} {t_keptHeard : Int32} {t_keptWorth : Nat → Int32} {t_keptThing : Nat → Int32} {t_keptChangesOf : Nat → Int32} {t_keptHeir : Nat → Int32} {t_keptOne : Nat → Int32} {t_keptTwo : Nat → Int32} {t_keptMore : Nat → Int32} {t_h : Int64} {rr : Int32} {g_t_farOf : Nat → Int32} (back_4 : Int32 → Int32 → Int32 → (Nat → Int32) → Option (Int32 × (Nat → Int32))) (hb_4 : ∀ (x1 : Int32) (x2 : Int32) (x3 : Int32) (t_farOf : Nat → Int32) (H : Heap) (locs : List Loc) (ls : Array Slot), va_P D vwCl (w_X7 cI cB ad_t t_wills t_heirs t_kindOf t_worthOf t_thingOf t_changesOf t_changes t_heard t_heardHeir t_heardOne t_heardTwo t_heardMore t_pageLength t_page t_says t_dealt t_farOf t_endMany t_endMost t_endLeast t_endFew t_seedNow t_saved t_isKept t_keptWill t_keptChanges t_keptHeard t_keptWorth t_keptThing t_keptChangesOf t_keptHeir t_keptOne t_keptTwo t_keptMore t_h) H → va_D A (w_X7 cI cB ad_t t_wills t_heirs t_kindOf t_worthOf t_thingOf t_changesOf t_changes t_heard t_heardHeir t_heardOne t_heardTwo t_heardMore t_pageLength t_page t_says t_dealt t_farOf t_endMany t_endMost t_endLeast t_endFew t_seedNow t_saved t_isKept t_keptWill t_keptChanges t_keptHeard t_keptWorth t_keptThing t_keptChangesOf t_keptHeir t_keptOne t_keptTwo t_keptMore t_h) → va_S A s.heap H locs → lv_has ls 10 [(0, .ref (ad_t 0)), (1, .int x1), (2, .int x2), (3, .int x3)] → back_4 x1 x2 x3 t_farOf = some (rr, g_t_farOf) → W p l e rm_X7_goChanges s m args below meth c H locs 0 0 (Zq D below args s A (w_X7 cI cB ad_t t_wills t_heirs t_kindOf t_worthOf t_thingOf t_changesOf t_changes t_heard t_heardHeir t_heardOne t_heardTwo t_heardMore t_pageLength t_page t_says t_dealt g_t_farOf t_endMany t_endMost t_endLeast t_endFew t_seedNow t_saved t_isKept t_keptWill t_keptChanges t_keptHeard t_keptWorth t_keptThing t_keptChangesOf t_keptHeir t_keptOne t_keptTwo t_keptMore t_h) (some (.int rr))) (F0 m 4 ls [])) : ∀ (x1 : Int32) (x2 : Int32) (x3 : Int32) (x9 : Int32) (k0 : Int32) (t_farOf : Nat → Int32) (H : Heap) (locs : List Loc) (ls : Array Slot), va_P D vwCl (w_X7 cI cB ad_t t_wills t_heirs t_kindOf t_worthOf t_thingOf t_changesOf t_changes t_heard t_heardHeir t_heardOne t_heardTwo t_heardMore t_pageLength t_page t_says t_dealt t_farOf t_endMany t_endMost t_endLeast t_endFew t_seedNow t_saved t_isKept t_keptWill t_keptChanges t_keptHeard t_keptWorth t_keptThing t_keptChangesOf t_keptHeir t_keptOne t_keptTwo t_keptMore t_h) H → va_D A (w_X7 cI cB ad_t t_wills t_heirs t_kindOf t_worthOf t_thingOf t_changesOf t_changes t_heard t_heardHeir t_heardOne t_heardTwo t_heardMore t_pageLength t_page t_says t_dealt t_farOf t_endMany t_endMost t_endLeast t_endFew t_seedNow t_saved t_isKept t_keptWill t_keptChanges t_keptHeard t_keptWorth t_keptThing t_keptChangesOf t_keptHeir t_keptOne t_keptTwo t_keptMore t_h) → va_S A s.heap H locs → lv_has ls 10 [(0, .ref (ad_t 0)), (1, .int x1), (2, .int x2), (3, .int x3), (9, .int x9)] → f_X7_goChanges_150 t_heirs t_worthOf t_says back_4 x1 x2 x3 x9 k0 t_farOf = some (rr, g_t_farOf) → W p l e rm_X7_goChanges s m args below meth c H locs 0 0 (Zq D below args s A (w_X7 cI cB ad_t t_wills t_heirs t_kindOf t_worthOf t_thingOf t_changesOf t_changes t_heard t_heardHeir t_heardOne t_heardTwo t_heardMore t_pageLength t_page t_says t_dealt g_t_farOf t_endMany t_endMost t_endLeast t_endFew t_seedNow t_saved t_isKept t_keptWill t_keptChanges t_keptHeard t_keptWorth t_keptThing t_keptChangesOf t_keptHeir t_keptOne t_keptTwo t_keptMore t_h) (some (.int rr))) (F0 m 150 ls [.int k0, .ref (ad_t 12)]) := by
  obtain ⟨hx, hb, hml, hown, hts, hrt, hlocks, hK, hA, hZ⟩ := id F
  intro x1 x2 x3 x9 k0 t_farOf H locs ls hP hD hS hl hf
  refine lv_iload hx hb dX7_goChanges_150 (lv_at hl 4 rfl) ?_
  refine lv_goto (tgt := 162) hx hb dX7_goChanges_152 (by decide) ?_
  exact b_X7_goChanges_162 F back_4 hb_4 x1 x2 x3 x9 k0 t_farOf H locs ls hP hD hS (lv_sub hl [0, 1, 2, 3] rfl) hf

set_option maxHeartbeats 4000000 in
set_option maxRecDepth 100000 in
theorem b_X7_goChanges_4 {p : Program} {l : Launch} {e : Env} {s : State} {m : MethodId} {args : Array Value} {below : List Frame} {meth : Method} {c : Code} {D : va_G} {cI cB : ClassId} {kK kV : Nat → Nat} {A : Nat → Prop} (F : Fx p m c s meth args cX7_goChanges 10 RX7 wsX7_goChanges (some .int) D cI cB kK kV A) {ad_t : Nat → Nat} {t_wills : Int32} {t_heirs : Int32} {t_kindOf : Nat → Int32} {t_worthOf : Nat → Int32} {t_thingOf : Nat → Int32} {t_changesOf : Nat → Int32} {t_changes : Int32} {t_heard : Int32} {t_heardHeir : Nat → Int32} {t_heardOne : Nat → Int32} {t_heardTwo : Nat → Int32} {t_heardMore : Nat → Int32} {t_pageLength : Int32} {t_page : Nat → Int32} {t_says : Nat → Int32} {t_dealt : Nat → Int32} {t_endMany : Int32} {t_endMost : Int32} {t_endLeast : Int32} {t_endFew : Int32} {t_seedNow : Int64} {t_saved : Nat → Int32} {t_isKept : Int32} {t_keptWill : Int32} {t_keptChanges : Int32} {t_keptHeard : Int32} {t_keptWorth : Nat → Int32} {t_keptThing : Nat → Int32} {t_keptChangesOf : Nat → Int32} {t_keptHeir : Nat → Int32} {t_keptOne : Nat → Int32} {t_keptTwo : Nat → Int32} {t_keptMore : Nat → Int32} {t_h : Int64} {rr : Int32} {g_t_farOf : Nat → Int32} : ∀ (n : Nat), ∀ (x1 : Int32) (x2 : Int32) (x3 : Int32) (t_farOf : Nat → Int32) (H : Heap) (locs : List Loc) (ls : Array Slot), va_P D vwCl (w_X7 cI cB ad_t t_wills t_heirs t_kindOf t_worthOf t_thingOf t_changesOf t_changes t_heard t_heardHeir t_heardOne t_heardTwo t_heardMore t_pageLength t_page t_says t_dealt t_farOf t_endMany t_endMost t_endLeast t_endFew t_seedNow t_saved t_isKept t_keptWill t_keptChanges t_keptHeard t_keptWorth t_keptThing t_keptChangesOf t_keptHeir t_keptOne t_keptTwo t_keptMore t_h) H → va_D A (w_X7 cI cB ad_t t_wills t_heirs t_kindOf t_worthOf t_thingOf t_changesOf t_changes t_heard t_heardHeir t_heardOne t_heardTwo t_heardMore t_pageLength t_page t_says t_dealt t_farOf t_endMany t_endMost t_endLeast t_endFew t_seedNow t_saved t_isKept t_keptWill t_keptChanges t_keptHeard t_keptWorth t_keptThing t_keptChangesOf t_keptHeir t_keptOne t_keptTwo t_keptMore t_h) → va_S A s.heap H locs → lv_has ls 10 [(0, .ref (ad_t 0)), (1, .int x1), (2, .int x2), (3, .int x3)] → f_X7_goChanges_4 t_heirs t_worthOf t_says  n x1 x2 x3 t_farOf = some (rr, g_t_farOf) → W p l e rm_X7_goChanges s m args below meth c H locs 0 0 (Zq D below args s A (w_X7 cI cB ad_t t_wills t_heirs t_kindOf t_worthOf t_thingOf t_changesOf t_changes t_heard t_heardHeir t_heardOne t_heardTwo t_heardMore t_pageLength t_page t_says t_dealt g_t_farOf t_endMany t_endMost t_endLeast t_endFew t_seedNow t_saved t_isKept t_keptWill t_keptChanges t_keptHeard t_keptWorth t_keptThing t_keptChangesOf t_keptHeir t_keptOne t_keptTwo t_keptMore t_h) (some (.int rr))) (F0 m 4 ls []) := by
  obtain ⟨hx, hb, hml, hown, hts, hrt, hlocks, hK, hA, hZ⟩ := id F
  intro n
  induction n with
  | zero =>
    intro x1 x2 x3 t_farOf H locs ls hP hD hS hl hf
    cases hf
  | succ n ih =>
    intro x1 x2 x3 t_farOf H locs ls hP hD hS hl hf
    refine lv_iload_n hx hb dX7_goChanges_4 rfl (lv_at hl 3 rfl) ?_
    refine lv_aload_n hx hb dX7_goChanges_5 rfl (lv_at hl 0 rfl) ?_
    refine gf F hP in_X7_goChanges_X7 0 rfl rfl 1 (by decide) 1 rfl rfl dX7_goChanges_6 ?_
    refine lv_aload_n hx hb dX7_goChanges_9 rfl (lv_at hl 0 rfl) ?_
    refine gf F hP in_X7_goChanges_X7 0 rfl rfl 1 (by decide) 1 rfl rfl dX7_goChanges_10 ?_
    refine lv_imul hx hb dX7_goChanges_13 ?_
    refine lv_icmp_ge (tgt := 172) hx hb dX7_goChanges_14 (by decide) (fun c1 => ?_) (fun c1 => ?_)
    · replace hf := (if_pos c1).symm.trans hf
      refine lv_iload_n hx hb dX7_goChanges_172 rfl (lv_at hl 2 rfl) ?_
      replace hf : (some (x2, t_farOf) : Option (Int32 × (Nat → Int32))) = some (rr, g_t_farOf) := hf
      cases hf
      exact ret_i F hP hS dX7_goChanges_173
    · replace hf := (if_neg c1).symm.trans hf
      refine lv_iload_n hx hb dX7_goChanges_17 rfl (lv_at hl 3 rfl) ?_
      refine lv_aload_n hx hb dX7_goChanges_18 rfl (lv_at hl 0 rfl) ?_
      refine gf F hP in_X7_goChanges_X7 0 rfl rfl 1 (by decide) 1 rfl rfl dX7_goChanges_19 ?_
      obtain ⟨v2, ev2, hf⟩ := bnd hf
      obtain ⟨hv2, qv2⟩ := dvI_some ev2
      refine lv_idiv hx hb dX7_goChanges_22 hv2 ?_
      refine teqi qv2 ?_
      refine lv_istore (lv' := [(4, .int v2), (0, .ref (ad_t 0)), (1, .int x1), (2, .int x2), (3, .int x3)]) hx hb dX7_goChanges_23 hl (by decide) rfl (fun ls hl => ?_)
      refine lv_iload_n hx hb dX7_goChanges_25 rfl (lv_at hl 4 rfl) ?_
      refine lv_aload_n hx hb dX7_goChanges_26 rfl (lv_at hl 1 rfl) ?_
      refine gf F hP in_X7_goChanges_X7 0 rfl rfl 1 (by decide) 1 rfl rfl dX7_goChanges_27 ?_
      obtain ⟨v3, ev3, hf⟩ := bnd hf
      obtain ⟨hv3, qv3⟩ := rmI_some ev3
      refine lv_irem hx hb dX7_goChanges_30 hv3 ?_
      refine teqi qv3 ?_
      refine lv_istore (lv' := [(5, .int v3), (4, .int v2), (0, .ref (ad_t 0)), (1, .int x1), (2, .int x2), (3, .int x3)]) hx hb dX7_goChanges_31 hl (by decide) rfl (fun ls hl => ?_)
      refine lv_iload_n hx hb dX7_goChanges_33 rfl (lv_at hl 3 rfl) ?_
      refine lv_iload hx hb dX7_goChanges_34 (lv_at hl 1 rfl) ?_
      obtain ⟨v4, e5, hf⟩ := bnd hf
      refine cS F hP hD hS (k_X7_figure l  x1 v2 e5) gX7_goChanges_X7_figure rfl ⟨rfl, rfl⟩ nd_X7_figure ⟨Nat.le_of_ble_eq_true rfl, Nat.le_of_ble_eq_true rfl⟩ rfl hl.1 rfl (Nat.le_of_ble_eq_true rfl) dX7_goChanges_36 (pmE (w_X7 cI cB ad_t t_wills t_heirs t_kindOf t_worthOf t_thingOf t_changesOf t_changes t_heard t_heardHeir t_heardOne t_heardTwo t_heardMore t_pageLength t_page t_says t_dealt t_farOf t_endMany t_endMost t_endLeast t_endFew t_seedNow t_saved t_isKept t_keptWill t_keptChanges t_keptHeard t_keptWorth t_keptThing t_keptChangesOf t_keptHeir t_keptOne t_keptTwo t_keptMore t_h)) (pmE (w_X7 cI cB ad_t t_wills t_heirs t_kindOf t_worthOf t_thingOf t_changesOf t_changes t_heard t_heardHeir t_heardOne t_heardTwo t_heardMore t_pageLength t_page t_says t_dealt t_farOf t_endMany t_endMost t_endLeast t_endFew t_seedNow t_saved t_isKept t_keptWill t_keptChanges t_keptHeard t_keptWorth t_keptThing t_keptChangesOf t_keptHeir t_keptOne t_keptTwo t_keptMore t_h)) (fun H locs hP hD hS => ?_)
      refine lv_istore (lv' := [(6, .int v4), (5, .int v3), (4, .int v2), (0, .ref (ad_t 0)), (1, .int x1), (2, .int x2), (3, .int x3)]) hx hb dX7_goChanges_39 hl (by decide) rfl (fun ls hl => ?_)
      refine lv_iload_n hx hb dX7_goChanges_41 rfl (lv_at hl 4 rfl) ?_
      refine lv_iload hx hb dX7_goChanges_42 (lv_at hl 1 rfl) ?_
      obtain ⟨v6, e7, hf⟩ := bnd hf
      refine cS F hP hD hS (k_X7_figure l  x1 v3 e7) gX7_goChanges_X7_figure rfl ⟨rfl, rfl⟩ nd_X7_figure ⟨Nat.le_of_ble_eq_true rfl, Nat.le_of_ble_eq_true rfl⟩ rfl hl.1 rfl (Nat.le_of_ble_eq_true rfl) dX7_goChanges_44 (pmE (w_X7 cI cB ad_t t_wills t_heirs t_kindOf t_worthOf t_thingOf t_changesOf t_changes t_heard t_heardHeir t_heardOne t_heardTwo t_heardMore t_pageLength t_page t_says t_dealt t_farOf t_endMany t_endMost t_endLeast t_endFew t_seedNow t_saved t_isKept t_keptWill t_keptChanges t_keptHeard t_keptWorth t_keptThing t_keptChangesOf t_keptHeir t_keptOne t_keptTwo t_keptMore t_h)) (pmE (w_X7 cI cB ad_t t_wills t_heirs t_kindOf t_worthOf t_thingOf t_changesOf t_changes t_heard t_heardHeir t_heardOne t_heardTwo t_heardMore t_pageLength t_page t_says t_dealt t_farOf t_endMany t_endMost t_endLeast t_endFew t_seedNow t_saved t_isKept t_keptWill t_keptChanges t_keptHeard t_keptWorth t_keptThing t_keptChangesOf t_keptHeir t_keptOne t_keptTwo t_keptMore t_h)) (fun H locs hP hD hS => ?_)
      refine lv_istore (lv' := [(7, .int v6), (6, .int v4), (5, .int v3), (4, .int v2), (0, .ref (ad_t 0)), (1, .int x1), (2, .int x2), (3, .int x3)]) hx hb dX7_goChanges_47 hl (by decide) rfl (fun ls hl => ?_)
      refine lv_iload hx hb dX7_goChanges_49 (lv_at hl 3 rfl) ?_
      refine lv_iload hx hb dX7_goChanges_51 (lv_at hl 2 rfl) ?_
      refine lv_icmp_ge (tgt := 166) hx hb dX7_goChanges_53 (by decide) (fun c8 => ?_) (fun c8 => ?_)
      · replace hf := (if_pos c8).symm.trans hf
        refine lv_iinc (v := (x3 + 1)) (lv' := [(3, .int (x3 + 1)), (7, .int v6), (6, .int v4), (5, .int v3), (4, .int v2), (0, .ref (ad_t 0)), (1, .int x1), (2, .int x2)]) hx hb dX7_goChanges_166 hl (k := 7) rfl rfl (by decide) rfl (fun ls hl => ?_)
        refine lv_goto (tgt := 4) hx hb dX7_goChanges_169 (by decide) ?_
        exact ih x1 x2 (x3 + 1) t_farOf H locs ls hP hD hS (lv_sub hl [5, 6, 7, 0] rfl) hf
      · replace hf := (if_neg c8).symm.trans hf
        refine lv_aload_n hx hb dX7_goChanges_56 rfl (lv_at hl 4 rfl) ?_
        refine lv_iload hx hb dX7_goChanges_57 (lv_at hl 3 rfl) ?_
        refine lv_iload hx hb dX7_goChanges_59 (lv_at hl 1 rfl) ?_
        refine lv_iload hx hb dX7_goChanges_61 (lv_at hl 2 rfl) ?_
        refine lv_iload hx hb dX7_goChanges_63 (lv_at hl 0 rfl) ?_
        obtain ⟨v9, e10, hf⟩ := bnd hf
        refine cV F hP hD hS (k_X7_isAllowed l ad_t t_wills t_heirs t_kindOf t_worthOf t_thingOf t_changesOf t_changes t_heard t_heardHeir t_heardOne t_heardTwo t_heardMore t_pageLength t_page t_says t_dealt t_farOf t_endMany t_endMost t_endLeast t_endFew t_seedNow t_saved t_isKept t_keptWill t_keptChanges t_keptHeard t_keptWorth t_keptThing t_keptChangesOf t_keptHeir t_keptOne t_keptTwo t_keptMore t_h v2 v4 v3 v6 e10) gX7_goChanges_X7_isAllowed rfl ⟨rfl, rfl⟩ nd_X7_isAllowed ⟨Nat.le_of_ble_eq_true rfl, Nat.le_of_ble_eq_true rfl⟩ 0 7 rfl rfl rfl hl.1 rfl (Nat.le_of_ble_eq_true rfl) dX7_goChanges_65 (pm0 (w_X7 cI cB ad_t t_wills t_heirs t_kindOf t_worthOf t_thingOf t_changesOf t_changes t_heard t_heardHeir t_heardOne t_heardTwo t_heardMore t_pageLength t_page t_says t_dealt t_farOf t_endMany t_endMost t_endLeast t_endFew t_seedNow t_saved t_isKept t_keptWill t_keptChanges t_keptHeard t_keptWorth t_keptThing t_keptChangesOf t_keptHeir t_keptOne t_keptTwo t_keptMore t_h)) (pm0 (w_X7 cI cB ad_t t_wills t_heirs t_kindOf t_worthOf t_thingOf t_changesOf t_changes t_heard t_heardHeir t_heardOne t_heardTwo t_heardMore t_pageLength t_page t_says t_dealt t_farOf t_endMany t_endMost t_endLeast t_endFew t_seedNow t_saved t_isKept t_keptWill t_keptChanges t_keptHeard t_keptWorth t_keptThing t_keptChangesOf t_keptHeir t_keptOne t_keptTwo t_keptMore t_h)) (fun H locs hP hD hS => ?_)
        refine lv_if_eq (tgt := 166) hx hb dX7_goChanges_68 (by decide) (fun c11 => ?_) (fun c11 => ?_)
        · replace hf := (if_pos c11).symm.trans hf
          refine lv_iinc (v := (x3 + 1)) (lv' := [(3, .int (x3 + 1)), (7, .int v6), (6, .int v4), (5, .int v3), (4, .int v2), (0, .ref (ad_t 0)), (1, .int x1), (2, .int x2)]) hx hb dX7_goChanges_166 hl (k := 7) rfl rfl (by decide) rfl (fun ls hl => ?_)
          refine lv_goto (tgt := 4) hx hb dX7_goChanges_169 (by decide) ?_
          exact ih x1 x2 (x3 + 1) t_farOf H locs ls hP hD hS (lv_sub hl [5, 6, 7, 0] rfl) hf
        · replace hf := (if_neg c11).symm.trans hf
          refine lv_aload_n hx hb dX7_goChanges_71 rfl (lv_at hl 4 rfl) ?_
          refine lv_iload hx hb dX7_goChanges_72 (lv_at hl 3 rfl) ?_
          refine lv_iload hx hb dX7_goChanges_74 (lv_at hl 1 rfl) ?_
          refine lv_iload hx hb dX7_goChanges_76 (lv_at hl 2 rfl) ?_
          refine lv_iload hx hb dX7_goChanges_78 (lv_at hl 0 rfl) ?_
          obtain ⟨v12, e13, hf⟩ := bnd hf
          refine cV F hP hD hS (k_X7_isWished l ad_t t_wills t_heirs t_kindOf t_worthOf t_thingOf t_changesOf t_changes t_heard t_heardHeir t_heardOne t_heardTwo t_heardMore t_pageLength t_page t_says t_dealt t_farOf t_endMany t_endMost t_endLeast t_endFew t_seedNow t_saved t_isKept t_keptWill t_keptChanges t_keptHeard t_keptWorth t_keptThing t_keptChangesOf t_keptHeir t_keptOne t_keptTwo t_keptMore t_h v2 v4 v3 v6 e13) gX7_goChanges_X7_isWished rfl ⟨rfl, rfl⟩ nd_X7_isWished ⟨Nat.le_of_ble_eq_true rfl, Nat.le_of_ble_eq_true rfl⟩ 0 7 rfl rfl rfl hl.1 rfl (Nat.le_of_ble_eq_true rfl) dX7_goChanges_80 (pm0 (w_X7 cI cB ad_t t_wills t_heirs t_kindOf t_worthOf t_thingOf t_changesOf t_changes t_heard t_heardHeir t_heardOne t_heardTwo t_heardMore t_pageLength t_page t_says t_dealt t_farOf t_endMany t_endMost t_endLeast t_endFew t_seedNow t_saved t_isKept t_keptWill t_keptChanges t_keptHeard t_keptWorth t_keptThing t_keptChangesOf t_keptHeir t_keptOne t_keptTwo t_keptMore t_h)) (pm0 (w_X7 cI cB ad_t t_wills t_heirs t_kindOf t_worthOf t_thingOf t_changesOf t_changes t_heard t_heardHeir t_heardOne t_heardTwo t_heardMore t_pageLength t_page t_says t_dealt t_farOf t_endMany t_endMost t_endLeast t_endFew t_seedNow t_saved t_isKept t_keptWill t_keptChanges t_keptHeard t_keptWorth t_keptThing t_keptChangesOf t_keptHeir t_keptOne t_keptTwo t_keptMore t_h)) (fun H locs hP hD hS => ?_)
          refine lv_if_eq (tgt := 166) hx hb dX7_goChanges_83 (by decide) (fun c14 => ?_) (fun c14 => ?_)
          · replace hf := (if_pos c14).symm.trans hf
            refine lv_iinc (v := (x3 + 1)) (lv' := [(3, .int (x3 + 1)), (7, .int v6), (6, .int v4), (5, .int v3), (4, .int v2), (0, .ref (ad_t 0)), (1, .int x1), (2, .int x2)]) hx hb dX7_goChanges_166 hl (k := 7) rfl rfl (by decide) rfl (fun ls hl => ?_)
            refine lv_goto (tgt := 4) hx hb dX7_goChanges_169 (by decide) ?_
            exact ih x1 x2 (x3 + 1) t_farOf H locs ls hP hD hS (lv_sub hl [5, 6, 7, 0] rfl) hf
          · replace hf := (if_neg c14).symm.trans hf
            refine lv_iload_n hx hb dX7_goChanges_86 rfl (lv_at hl 5 rfl) ?_
            refine lv_iload hx hb dX7_goChanges_87 (lv_at hl 1 rfl) ?_
            refine lv_iload hx hb dX7_goChanges_89 (lv_at hl 0 rfl) ?_
            refine lv_ixor hx hb dX7_goChanges_91 ?_
            refine lv_iconst (v := 2) hx hb dX7_goChanges_92 (by decide) ?_
            refine lv_iload hx hb dX7_goChanges_93 (lv_at hl 3 rfl) ?_
            refine lv_imul hx hb dX7_goChanges_95 ?_
            refine lv_ishl hx hb dX7_goChanges_96 ?_
            refine lv_ixor hx hb dX7_goChanges_97 ?_
            refine lv_iload hx hb dX7_goChanges_98 (lv_at hl 1 rfl) ?_
            refine lv_iload hx hb dX7_goChanges_100 (lv_at hl 0 rfl) ?_
            refine lv_ixor hx hb dX7_goChanges_102 ?_
            refine lv_iconst (v := 2) hx hb dX7_goChanges_103 (by decide) ?_
            refine lv_iload hx hb dX7_goChanges_104 (lv_at hl 2 rfl) ?_
            refine lv_imul hx hb dX7_goChanges_106 ?_
            refine lv_ishl hx hb dX7_goChanges_107 ?_
            refine lv_ixor hx hb dX7_goChanges_108 ?_
            refine lv_istore (lv' := [(8, .int ((x1 ^^^ ((v4 ^^^ v6) <<< ((2 * v2) &&& 31))) ^^^ ((v4 ^^^ v6) <<< ((2 * v3) &&& 31)))), (7, .int v6), (6, .int v4), (5, .int v3), (4, .int v2), (0, .ref (ad_t 0)), (1, .int x1), (2, .int x2), (3, .int x3)]) hx hb dX7_goChanges_109 hl (by decide) rfl (fun ls hl => ?_)
            refine lv_aload_n hx hb dX7_goChanges_111 rfl (lv_at hl 5 rfl) ?_
            refine gf F hP in_X7_goChanges_X7 0 rfl rfl 16 (by decide) 2 rfl rfl dX7_goChanges_112 ?_
            refine lv_iload_n hx hb dX7_goChanges_115 rfl (lv_at hl 6 rfl) ?_
            obtain ⟨v15, ev15, hf⟩ := bnd hf
            refine ald F hP 12 rfl ev15 dX7_goChanges_116 ?_
            refine lv_iconst (v := 1) hx hb dX7_goChanges_117 (by decide) ?_
            refine lv_iadd hx hb dX7_goChanges_118 ?_
            refine lv_istore (lv' := [(9, .int (v15 + 1)), (8, .int ((x1 ^^^ ((v4 ^^^ v6) <<< ((2 * v2) &&& 31))) ^^^ ((v4 ^^^ v6) <<< ((2 * v3) &&& 31)))), (7, .int v6), (6, .int v4), (5, .int v3), (4, .int v2), (0, .ref (ad_t 0)), (1, .int x1), (2, .int x2), (3, .int x3)]) hx hb dX7_goChanges_119 hl (by decide) rfl (fun ls hl => ?_)
            refine lv_aload_n hx hb dX7_goChanges_121 rfl (lv_at hl 6 rfl) ?_
            refine gf F hP in_X7_goChanges_X7 0 rfl rfl 16 (by decide) 2 rfl rfl dX7_goChanges_122 ?_
            refine lv_iload hx hb dX7_goChanges_125 (lv_at hl 1 rfl) ?_
            refine lv_aload_n hx hb dX7_goChanges_127 rfl (lv_at hl 6 rfl) ?_
            refine gf F hP in_X7_goChanges_X7 0 rfl rfl 16 (by decide) 2 rfl rfl dX7_goChanges_128 ?_
            refine lv_iload hx hb dX7_goChanges_131 (lv_at hl 1 rfl) ?_
            obtain ⟨v16, ev16, hf⟩ := bnd hf
            refine ald F hP 12 rfl ev16 dX7_goChanges_133 ?_
            refine lv_iconst (v := (-1)) hx hb dX7_goChanges_134 (by decide) ?_
            refine lv_icmp_eq (tgt := 150) hx hb dX7_goChanges_135 (by decide) (fun c17 => ?_) (fun c17 => ?_)
            · replace hf := (if_pos c17).symm.trans hf
              exact b_X7_goChanges_150 F (f_X7_goChanges_4 t_heirs t_worthOf t_says  n) ih x1 x2 x3 (v15 + 1) ((x1 ^^^ ((v4 ^^^ v6) <<< ((2 * v2) &&& 31))) ^^^ ((v4 ^^^ v6) <<< ((2 * v3) &&& 31))) t_farOf H locs ls hP hD hS (lv_sub hl [6, 7, 8, 9, 0] rfl) hf
            · replace hf := (if_neg c17).symm.trans hf
              refine lv_iload hx hb dX7_goChanges_138 (lv_at hl 0 rfl) ?_
              refine lv_aload_n hx hb dX7_goChanges_140 rfl (lv_at hl 6 rfl) ?_
              refine gf F hP in_X7_goChanges_X7 0 rfl rfl 16 (by decide) 2 rfl rfl dX7_goChanges_141 ?_
              refine lv_iload hx hb dX7_goChanges_144 (lv_at hl 1 rfl) ?_
              obtain ⟨v18, ev18, hf⟩ := bnd hf
              refine ald F hP 12 rfl ev18 dX7_goChanges_146 ?_
              refine lv_icmp_ge (tgt := 155) hx hb dX7_goChanges_147 (by decide) (fun c19 => ?_) (fun c19 => ?_)
              · replace hf := (if_pos c19).symm.trans hf
                refine lv_aload_n hx hb dX7_goChanges_155 rfl (lv_at hl 6 rfl) ?_
                refine gf F hP in_X7_goChanges_X7 0 rfl rfl 16 (by decide) 2 rfl rfl dX7_goChanges_156 ?_
                refine lv_iload hx hb dX7_goChanges_159 (lv_at hl 1 rfl) ?_
                obtain ⟨v20, ev20, hf⟩ := bnd hf
                refine ald F hP 12 rfl ev20 dX7_goChanges_161 ?_
                exact b_X7_goChanges_162 F (f_X7_goChanges_4 t_heirs t_worthOf t_says  n) ih x1 x2 x3 v20 ((x1 ^^^ ((v4 ^^^ v6) <<< ((2 * v2) &&& 31))) ^^^ ((v4 ^^^ v6) <<< ((2 * v3) &&& 31))) t_farOf H locs ls hP hD hS (lv_sub hl [6, 7, 8, 9] rfl) hf
              · replace hf := (if_neg c19).symm.trans hf
                exact b_X7_goChanges_150 F (f_X7_goChanges_4 t_heirs t_worthOf t_says  n) ih x1 x2 x3 (v15 + 1) ((x1 ^^^ ((v4 ^^^ v6) <<< ((2 * v2) &&& 31))) ^^^ ((v4 ^^^ v6) <<< ((2 * v3) &&& 31))) t_farOf H locs ls hP hD hS (lv_sub hl [6, 7, 8, 9, 0] rfl) hf

set_option maxHeartbeats 4000000 in
set_option maxRecDepth 100000 in
theorem k_X7_goChanges (l : Launch) {D : va_G} {cI cB : ClassId} {kK kV : Nat → Nat} (ad_t : Nat → Nat) (t_wills : Int32) (t_heirs : Int32) (t_kindOf : Nat → Int32) (t_worthOf : Nat → Int32) (t_thingOf : Nat → Int32) (t_changesOf : Nat → Int32) (t_changes : Int32) (t_heard : Int32) (t_heardHeir : Nat → Int32) (t_heardOne : Nat → Int32) (t_heardTwo : Nat → Int32) (t_heardMore : Nat → Int32) (t_pageLength : Int32) (t_page : Nat → Int32) (t_says : Nat → Int32) (t_dealt : Nat → Int32) (t_farOf : Nat → Int32) (t_endMany : Int32) (t_endMost : Int32) (t_endLeast : Int32) (t_endFew : Int32) (t_seedNow : Int64) (t_saved : Nat → Int32) (t_isKept : Int32) (t_keptWill : Int32) (t_keptChanges : Int32) (t_keptHeard : Int32) (t_keptWorth : Nat → Int32) (t_keptThing : Nat → Int32) (t_keptChangesOf : Nat → Int32) (t_keptHeir : Nat → Int32) (t_keptOne : Nat → Int32) (t_keptTwo : Nat → Int32) (t_keptMore : Nat → Int32) (t_h : Int64) (x1 : Int32) {rr : Int32} {g_t_farOf : Nat → Int32} (hf : f_X7_goChanges t_heirs t_worthOf t_says t_farOf x1 = some (rr, g_t_farOf)) : Ct l yX7_goChanges wsX7_goChanges rm_X7_goChanges D cI cB kK kV [.ref (ad_t 0), .int x1] (w_X7 cI cB ad_t t_wills t_heirs t_kindOf t_worthOf t_thingOf t_changesOf t_changes t_heard t_heardHeir t_heardOne t_heardTwo t_heardMore t_pageLength t_page t_says t_dealt t_farOf t_endMany t_endMost t_endLeast t_endFew t_seedNow t_saved t_isKept t_keptWill t_keptChanges t_keptHeard t_keptWorth t_keptThing t_keptChangesOf t_keptHeir t_keptOne t_keptTwo t_keptMore t_h) (w_X7 cI cB ad_t t_wills t_heirs t_kindOf t_worthOf t_thingOf t_changesOf t_changes t_heard t_heardHeir t_heardOne t_heardTwo t_heardMore t_pageLength t_page t_says t_dealt g_t_farOf t_endMany t_endMost t_endLeast t_endFew t_seedNow t_saved t_isKept t_keptWill t_keptChanges t_keptHeard t_keptWorth t_keptThing t_keptChangesOf t_keptHeir t_keptOne t_keptTwo t_keptMore t_h) (some (.int rr)) := by
  refine Ct.of (cc := cX7_goChanges) (maxL := 10) (ret := (some .int)) (by decide) rfl (Nat.le_of_ble_eq_true rfl) rfl ?_
  intro p e s m below meth c A ls F hP hD hS hl
  have hl : lv_has ls 10 [(0, .ref (ad_t 0)), (1, .int x1)] := hl
  obtain ⟨hx, hb, hml, hown, hts, hrt, hlocks, hK, hA, hZ⟩ := id F
  obtain ⟨H, hH⟩ : ∃ H, H = s.heap := ⟨_, rfl⟩
  obtain ⟨locs, hLo⟩ : ∃ q : List Loc, q = [] := ⟨_, rfl⟩
  refine (?_ : W p l e rm_X7_goChanges s m _ below meth c s.heap [] 0 0 _ _)
  rw [← hH, ← hLo]
  rw [← hH] at hP
  have hS : va_S A s.heap H locs := by rw [hH, hLo]; exact hS
  refine lv_iconst (v := 0) hx hb dX7_goChanges_0 (by decide) ?_
  refine lv_istore_n (lv' := [(2, .int 0), (0, .ref (ad_t 0)), (1, .int x1)]) hx hb dX7_goChanges_1 rfl hl (by decide) rfl (fun ls hl => ?_)
  refine lv_iconst (v := 0) hx hb dX7_goChanges_2 (by decide) ?_
  refine lv_istore_n (lv' := [(3, .int 0), (2, .int 0), (0, .ref (ad_t 0)), (1, .int x1)]) hx hb dX7_goChanges_3 rfl hl (by decide) rfl (fun ls hl => ?_)
  exact b_X7_goChanges_4 F 300 x1 0 0 t_farOf H locs ls hP hD hS (lv_sub hl [2, 3, 1, 0] rfl) hf

/-! X7_layEnds -/
def rm_X7_layEnds : Room := { frames := 2, cells := 0, slots := 0, locals := 53 }
theorem in_X7_layEnds_X7 : ∀ w ∈ u_ws RX7 TX7 35, w ∈ wsX7_layEnds := fun _ h => List.mem_cons_of_mem _ (List.mem_append_right _ (h))
theorem nd_X7_layEnds : yX7_layEnds.cls = RX7 ∧ yX7_layEnds.cls ≠ "java/lang/invoke/MethodHandle" ∧ yX7_layEnds.cls ≠ "java/lang/invoke/VarHandle" ∧ (parseMethodDescriptor yX7_layEnds.desc).map (fun d => d.parameters.length) = some 0 := by decide +kernel
def f_X7_layEnds_176 (t_heirs : Int32) (t_kindOf : Nat → Int32) (t_worthOf : Nat → Int32) (t_thingOf : Nat → Int32) (back_38 : Int32 → (Nat → Int32) → (Nat → Int32) → Int32 → Int32 → Int32 → Int32 → Option ((Nat → Int32) × (Nat → Int32) × Int32 × Int32 × Int32 × Int32)) (back_68 : Int32 → Int32 → (Nat → Int32) → (Nat → Int32) → Int32 → Int32 → Int32 → Int32 → Option ((Nat → Int32) × (Nat → Int32) × Int32 × Int32 × Int32 × Int32)) (x1 : Int32) (x2 : Int32) (k0 : Int32) (t_says : Nat → Int32) (t_farOf : Nat → Int32) (t_endMany : Int32) (t_endMost : Int32) (t_endLeast : Int32) (t_endFew : Int32) : Option ((Nat → Int32) × (Nat → Int32) × Int32 × Int32 × Int32 × Int32) := back_68 x1 (x2 + 1) t_says t_farOf t_endMany t_endMost t_endLeast k0
def f_X7_layEnds_146 (t_heirs : Int32) (t_kindOf : Nat → Int32) (t_worthOf : Nat → Int32) (t_thingOf : Nat → Int32) (back_38 : Int32 → (Nat → Int32) → (Nat → Int32) → Int32 → Int32 → Int32 → Int32 → Option ((Nat → Int32) × (Nat → Int32) × Int32 × Int32 × Int32 × Int32)) (back_68 : Int32 → Int32 → (Nat → Int32) → (Nat → Int32) → Int32 → Int32 → Int32 → Int32 → Option ((Nat → Int32) × (Nat → Int32) × Int32 × Int32 × Int32 × Int32)) (x1 : Int32) (x2 : Int32) (k0 : Int32) (t_says : Nat → Int32) (t_farOf : Nat → Int32) (t_endMany : Int32) (t_endMost : Int32) (t_endLeast : Int32) (t_endFew : Int32) : Option ((Nat → Int32) × (Nat → Int32) × Int32 × Int32 × Int32 × Int32) := (rd t_farOf 256 x2).bind (fun v1 => (if t_endFew ≤ v1 then f_X7_layEnds_176 t_heirs t_kindOf t_worthOf t_thingOf back_38 back_68 x1 x2 t_endFew t_says t_farOf t_endMany t_endMost k0 t_endFew else (rd t_farOf 256 x2).bind (fun v3 => f_X7_layEnds_176 t_heirs t_kindOf t_worthOf t_thingOf back_38 back_68 x1 x2 v3 t_says t_farOf t_endMany t_endMost k0 t_endFew)))
def f_X7_layEnds_126 (t_heirs : Int32) (t_kindOf : Nat → Int32) (t_worthOf : Nat → Int32) (t_thingOf : Nat → Int32) (back_38 : Int32 → (Nat → Int32) → (Nat → Int32) → Int32 → Int32 → Int32 → Int32 → Option ((Nat → Int32) × (Nat → Int32) × Int32 × Int32 × Int32 × Int32)) (back_68 : Int32 → Int32 → (Nat → Int32) → (Nat → Int32) → Int32 → Int32 → Int32 → Int32 → Option ((Nat → Int32) × (Nat → Int32) × Int32 × Int32 × Int32 × Int32)) (x1 : Int32) (x2 : Int32) (x3 : Int32) (k0 : Int32) (t_says : Nat → Int32) (t_farOf : Nat → Int32) (t_endMany : Int32) (t_endMost : Int32) (t_endLeast : Int32) (t_endFew : Int32) : Option ((Nat → Int32) × (Nat → Int32) × Int32 × Int32 × Int32 × Int32) := (if t_endLeast ≤ x3 then f_X7_layEnds_146 t_heirs t_kindOf t_worthOf t_thingOf back_38 back_68 x1 x2 t_endLeast t_says t_farOf t_endMany k0 t_endLeast t_endFew else f_X7_layEnds_146 t_heirs t_kindOf t_worthOf t_thingOf back_38 back_68 x1 x2 x3 t_says t_farOf t_endMany k0 t_endLeast t_endFew)
def f_X7_layEnds_68 (t_heirs : Int32) (t_kindOf : Nat → Int32) (t_worthOf : Nat → Int32) (t_thingOf : Nat → Int32) (back_38 : Int32 → (Nat → Int32) → (Nat → Int32) → Int32 → Int32 → Int32 → Int32 → Option ((Nat → Int32) × (Nat → Int32) × Int32 × Int32 × Int32 × Int32)) : Nat → Int32 → Int32 → (Nat → Int32) → (Nat → Int32) → Int32 → Int32 → Int32 → Int32 → Option ((Nat → Int32) × (Nat → Int32) × Int32 × Int32 × Int32 × Int32)
  | 0, _, _, _, _, _, _, _, _ => none
  | n + 1, x1, x2, t_says, t_farOf, t_endMany, t_endMost, t_endLeast, t_endFew => (if 256 ≤ x2 then back_38 (x1 + 1) t_says t_farOf t_endMany t_endMost t_endLeast t_endFew else (rd t_farOf 256 x2).bind (fun v2 => (if v2 = (-1) then f_X7_layEnds_68 t_heirs t_kindOf t_worthOf t_thingOf back_38 n x1 (x2 + 1) t_says t_farOf t_endMany t_endMost t_endLeast t_endFew else (f_X7_goChanges t_heirs t_worthOf t_says t_farOf x2).bind (fun (v4, g5) => (if v4 = 0 then (f_X7_sumBy t_heirs t_worthOf x2).bind (fun v8 => (if v8 ≤ t_endMost then f_X7_layEnds_126 t_heirs t_kindOf t_worthOf t_thingOf back_38 (f_X7_layEnds_68 t_heirs t_kindOf t_worthOf t_thingOf back_38 n) x1 x2 v8 t_endMost t_says g5 (t_endMany + 1) t_endMost t_endLeast t_endFew else f_X7_layEnds_126 t_heirs t_kindOf t_worthOf t_thingOf back_38 (f_X7_layEnds_68 t_heirs t_kindOf t_worthOf t_thingOf back_38 n) x1 x2 v8 v8 t_says g5 (t_endMany + 1) t_endMost t_endLeast t_endFew)) else f_X7_layEnds_68 t_heirs t_kindOf t_worthOf t_thingOf back_38 n x1 (x2 + 1) t_says g5 t_endMany t_endMost t_endLeast t_endFew)))))
def f_X7_layEnds_38 (t_heirs : Int32) (t_kindOf : Nat → Int32) (t_worthOf : Nat → Int32) (t_thingOf : Nat → Int32)  : Nat → Int32 → (Nat → Int32) → (Nat → Int32) → Int32 → Int32 → Int32 → Int32 → Option ((Nat → Int32) × (Nat → Int32) × Int32 × Int32 × Int32 × Int32)
  | 0, _, _, _, _, _, _, _ => none
  | n + 1, x1, t_says, t_farOf, t_endMany, t_endMost, t_endLeast, t_endFew => (if 36 ≤ x1 then some (t_says, t_farOf, t_endMany, t_endMost, t_endLeast, t_endFew) else f_X7_layEnds_68 t_heirs t_kindOf t_worthOf t_thingOf (f_X7_layEnds_38 t_heirs t_kindOf t_worthOf t_thingOf  n) 300 x1 0 t_says t_farOf 0 (-1) 268435456 268435456)
def f_X7_layEnds_6 (t_heirs : Int32) (t_kindOf : Nat → Int32) (t_worthOf : Nat → Int32) (t_thingOf : Nat → Int32)  : Nat → Int32 → (Nat → Int32) → (Nat → Int32) → Int32 → Int32 → Int32 → Int32 → Option ((Nat → Int32) × (Nat → Int32) × Int32 × Int32 × Int32 × Int32)
  | 0, _, _, _, _, _, _, _ => none
  | n + 1, x1, t_says, t_farOf, t_endMany, t_endMost, t_endLeast, t_endFew => (if 256 ≤ x1 then (f_X7_wayNow t_heirs t_thingOf).bind (fun v2 => (wr t_farOf 256 v2 0).bind (fun g4 => f_X7_layEnds_38 t_heirs t_kindOf t_worthOf t_thingOf 300 0 t_says g4 t_endMany t_endMost t_endLeast t_endFew)) else (wr t_farOf 256 x1 (-1)).bind (fun g5 => f_X7_layEnds_6 t_heirs t_kindOf t_worthOf t_thingOf  n (x1 + 1) t_says g5 t_endMany t_endMost t_endLeast t_endFew))
def f_X7_layEnds (t_heirs : Int32) (t_kindOf : Nat → Int32) (t_worthOf : Nat → Int32) (t_thingOf : Nat → Int32) (t_says : Nat → Int32) (t_farOf : Nat → Int32) (t_endMany : Int32) (t_endMost : Int32) (t_endLeast : Int32) (t_endFew : Int32)  : Option ((Nat → Int32) × (Nat → Int32) × Int32 × Int32 × Int32 × Int32) := (f_X7_laySays t_heirs t_kindOf t_worthOf t_says).bind (fun g1 => f_X7_layEnds_6 t_heirs t_kindOf t_worthOf t_thingOf 300 0 g1 t_farOf t_endMany t_endMost t_endLeast t_endFew)
set_option maxHeartbeats 4000000 in
set_option maxRecDepth 100000 in
theorem b_X7_layEnds_176 {p : Program} {l : Launch} {e : Env} {s : State} {m : MethodId} {args : Array Value} {below : List Frame} {meth : Method} {c : Code} {D : va_G} {cI cB : ClassId} {kK kV : Nat → Nat} {A : Nat → Prop} (F : Fx p m c s meth args cX7_layEnds 4 RX7 wsX7_layEnds none D cI cB kK kV A) {ad_t : Nat → Nat} {t_wills : Int32} {t_heirs : Int32} {t_kindOf : Nat → Int32} {t_worthOf : Nat → Int32} {t_thingOf : Nat → Int32} {t_changesOf : Nat → Int32} {t_changes : Int32} {t_heard : Int32} {t_heardHeir : Nat → Int32} {t_heardOne : Nat → Int32} {t_heardTwo : Nat → Int32} {t_heardMore : Nat → Int32} {t_pageLength : Int32} {t_page : Nat → Int32} {t_dealt : Nat → Int32} {t_seedNow : Int64} {t_saved : Nat → Int32} {t_isKept : Int32} {t_keptWill : Int32} {t_keptChanges : Int32} {t_keptHeard : Int32} {t_keptWorth : Nat → Int32} {t_keptThing : Nat → Int32} {t_keptChangesOf : Nat → Int32} {t_keptHeir : Nat → Int32} {t_keptOne : Nat → Int32} {t_keptTwo : Nat → Int32} {t_keptMore : Nat → Int32} {t_h : Int64}  {g_t_says : Nat → Int32} {g_t_farOf : Nat → Int32} {g_t_endMany : Int32} {g_t_endMost : Int32} {g_t_endLeast : Int32} {g_t_endFew : Int32} (back_38 : Int32 → (Nat → Int32) → (Nat → Int32) → Int32 → Int32 → Int32 → Int32 → Option ((Nat → Int32) × (Nat → Int32) × Int32 × Int32 × Int32 × Int32)) (hb_38 : ∀ (x1 : Int32) (t_says : Nat → Int32) (t_farOf : Nat → Int32) (t_endMany : Int32) (t_endMost : Int32) (t_endLeast : Int32) (t_endFew : Int32) (H : Heap) (locs : List Loc) (ls : Array Slot), va_P D vwCl (w_X7 cI cB ad_t t_wills t_heirs t_kindOf t_worthOf t_thingOf t_changesOf t_changes t_heard t_heardHeir t_heardOne t_heardTwo t_heardMore t_pageLength t_page t_says t_dealt t_farOf t_endMany t_endMost t_endLeast t_endFew t_seedNow t_saved t_isKept t_keptWill t_keptChanges t_keptHeard t_keptWorth t_keptThing t_keptChangesOf t_keptHeir t_keptOne t_keptTwo t_keptMore t_h) H → va_D A (w_X7 cI cB ad_t t_wills t_heirs t_kindOf t_worthOf t_thingOf t_changesOf t_changes t_heard t_heardHeir t_heardOne t_heardTwo t_heardMore t_pageLength t_page t_says t_dealt t_farOf t_endMany t_endMost t_endLeast t_endFew t_seedNow t_saved t_isKept t_keptWill t_keptChanges t_keptHeard t_keptWorth t_keptThing t_keptChangesOf t_keptHeir t_keptOne t_keptTwo t_keptMore t_h) → va_S A s.heap H locs → lv_has ls 4 [(0, .ref (ad_t 0)), (1, .int x1)] → back_38 x1 t_says t_farOf t_endMany t_endMost t_endLeast t_endFew = some (g_t_says, g_t_farOf, g_t_endMany, g_t_endMost, g_t_endLeast, g_t_endFew) → W p l e rm_X7_layEnds s m args below meth c H locs 0 0 (Zq D below args s A (w_X7 cI cB ad_t t_wills t_heirs t_kindOf t_worthOf t_thingOf t_changesOf t_changes t_heard t_heardHeir t_heardOne t_heardTwo t_heardMore t_pageLength t_page g_t_says t_dealt g_t_farOf g_t_endMany g_t_endMost g_t_endLeast g_t_endFew t_seedNow t_saved t_isKept t_keptWill t_keptChanges t_keptHeard t_keptWorth t_keptThing t_keptChangesOf t_keptHeir t_keptOne t_keptTwo t_keptMore t_h) none) (F0 m 38 ls [])) (back_68 : Int32 → Int32 → (Nat → Int32) → (Nat → Int32) → Int32 → Int32 → Int32 → Int32 → Option ((Nat → Int32) × (Nat → Int32) × Int32 × Int32 × Int32 × Int32)) (hb_68 : ∀ (x1 : Int32) (x2 : Int32) (t_says : Nat → Int32) (t_farOf : Nat → Int32) (t_endMany : Int32) (t_endMost : Int32) (t_endLeast : Int32) (t_endFew : Int32) (H : Heap) (locs : List Loc) (ls : Array Slot), va_P D vwCl (w_X7 cI cB ad_t t_wills t_heirs t_kindOf t_worthOf t_thingOf t_changesOf t_changes t_heard t_heardHeir t_heardOne t_heardTwo t_heardMore t_pageLength t_page t_says t_dealt t_farOf t_endMany t_endMost t_endLeast t_endFew t_seedNow t_saved t_isKept t_keptWill t_keptChanges t_keptHeard t_keptWorth t_keptThing t_keptChangesOf t_keptHeir t_keptOne t_keptTwo t_keptMore t_h) H → va_D A (w_X7 cI cB ad_t t_wills t_heirs t_kindOf t_worthOf t_thingOf t_changesOf t_changes t_heard t_heardHeir t_heardOne t_heardTwo t_heardMore t_pageLength t_page t_says t_dealt t_farOf t_endMany t_endMost t_endLeast t_endFew t_seedNow t_saved t_isKept t_keptWill t_keptChanges t_keptHeard t_keptWorth t_keptThing t_keptChangesOf t_keptHeir t_keptOne t_keptTwo t_keptMore t_h) → va_S A s.heap H locs → lv_has ls 4 [(0, .ref (ad_t 0)), (1, .int x1), (2, .int x2)] → back_68 x1 x2 t_says t_farOf t_endMany t_endMost t_endLeast t_endFew = some (g_t_says, g_t_farOf, g_t_endMany, g_t_endMost, g_t_endLeast, g_t_endFew) → W p l e rm_X7_layEnds s m args below meth c H locs 0 0 (Zq D below args s A (w_X7 cI cB ad_t t_wills t_heirs t_kindOf t_worthOf t_thingOf t_changesOf t_changes t_heard t_heardHeir t_heardOne t_heardTwo t_heardMore t_pageLength t_page g_t_says t_dealt g_t_farOf g_t_endMany g_t_endMost g_t_endLeast g_t_endFew t_seedNow t_saved t_isKept t_keptWill t_keptChanges t_keptHeard t_keptWorth t_keptThing t_keptChangesOf t_keptHeir t_keptOne t_keptTwo t_keptMore t_h) none) (F0 m 68 ls [])) : ∀ (x1 : Int32) (x2 : Int32) (k0 : Int32) (t_says : Nat → Int32) (t_farOf : Nat → Int32) (t_endMany : Int32) (t_endMost : Int32) (t_endLeast : Int32) (t_endFew : Int32) (H : Heap) (locs : List Loc) (ls : Array Slot), va_P D vwCl (w_X7 cI cB ad_t t_wills t_heirs t_kindOf t_worthOf t_thingOf t_changesOf t_changes t_heard t_heardHeir t_heardOne t_heardTwo t_heardMore t_pageLength t_page t_says t_dealt t_farOf t_endMany t_endMost t_endLeast t_endFew t_seedNow t_saved t_isKept t_keptWill t_keptChanges t_keptHeard t_keptWorth t_keptThing t_keptChangesOf t_keptHeir t_keptOne t_keptTwo t_keptMore t_h) H → va_D A (w_X7 cI cB ad_t t_wills t_heirs t_kindOf t_worthOf t_thingOf t_changesOf t_changes t_heard t_heardHeir t_heardOne t_heardTwo t_heardMore t_pageLength t_page t_says t_dealt t_farOf t_endMany t_endMost t_endLeast t_endFew t_seedNow t_saved t_isKept t_keptWill t_keptChanges t_keptHeard t_keptWorth t_keptThing t_keptChangesOf t_keptHeir t_keptOne t_keptTwo t_keptMore t_h) → va_S A s.heap H locs → lv_has ls 4 [(0, .ref (ad_t 0)), (1, .int x1), (2, .int x2)] → f_X7_layEnds_176 t_heirs t_kindOf t_worthOf t_thingOf back_38 back_68 x1 x2 k0 t_says t_farOf t_endMany t_endMost t_endLeast t_endFew = some (g_t_says, g_t_farOf, g_t_endMany, g_t_endMost, g_t_endLeast, g_t_endFew) → W p l e rm_X7_layEnds s m args below meth c H locs 0 0 (Zq D below args s A (w_X7 cI cB ad_t t_wills t_heirs t_kindOf t_worthOf t_thingOf t_changesOf t_changes t_heard t_heardHeir t_heardOne t_heardTwo t_heardMore t_pageLength t_page g_t_says t_dealt g_t_farOf g_t_endMany g_t_endMost g_t_endLeast g_t_endFew t_seedNow t_saved t_isKept t_keptWill t_keptChanges t_keptHeard t_keptWorth t_keptThing t_keptChangesOf t_keptHeir t_keptOne t_keptTwo t_keptMore t_h) none) (F0 m 176 ls [.int k0, .ref (ad_t 0)]) := by
  obtain ⟨hx, hb, hml, hown, hts, hrt, hlocks, hK, hA, hZ⟩ := id F
  intro x1 x2 k0 t_says t_farOf t_endMany t_endMost t_endLeast t_endFew H locs ls hP hD hS hl hf
  refine pf F hP hD hS in_X7_layEnds_X7 tyX7 tyX7_ok nmX7 0 rfl rfl 20 (by decide) 6 rfl rfl rfl rfl (Nat.le_of_ble_eq_true rfl) dX7_layEnds_176 (w_X7 cI cB ad_t t_wills t_heirs t_kindOf t_worthOf t_thingOf t_changesOf t_changes t_heard t_heardHeir t_heardOne t_heardTwo t_heardMore t_pageLength t_page t_says t_dealt t_farOf t_endMany t_endMost t_endLeast k0 t_seedNow t_saved t_isKept t_keptWill t_keptChanges t_keptHeard t_keptWorth t_keptThing t_keptChangesOf t_keptHeir t_keptOne t_keptTwo t_keptMore t_h) rfl (fun H locs hP hD hS => ?_)
  refine lv_iinc (v := (x2 + 1)) (lv' := [(2, .int (x2 + 1)), (0, .ref (ad_t 0)), (1, .int x1)]) hx hb dX7_layEnds_179 hl (k := 2) rfl rfl (by decide) rfl (fun ls hl => ?_)
  refine lv_goto (tgt := 68) hx hb dX7_layEnds_182 (by decide) ?_
  exact hb_68 x1 (x2 + 1) t_says t_farOf t_endMany t_endMost t_endLeast k0 H locs ls hP hD hS (lv_sub hl [1, 2, 0] rfl) hf

set_option maxHeartbeats 4000000 in
set_option maxRecDepth 100000 in
theorem b_X7_layEnds_146 {p : Program} {l : Launch} {e : Env} {s : State} {m : MethodId} {args : Array Value} {below : List Frame} {meth : Method} {c : Code} {D : va_G} {cI cB : ClassId} {kK kV : Nat → Nat} {A : Nat → Prop} (F : Fx p m c s meth args cX7_layEnds 4 RX7 wsX7_layEnds none D cI cB kK kV A) {ad_t : Nat → Nat} {t_wills : Int32} {t_heirs : Int32} {t_kindOf : Nat → Int32} {t_worthOf : Nat → Int32} {t_thingOf : Nat → Int32} {t_changesOf : Nat → Int32} {t_changes : Int32} {t_heard : Int32} {t_heardHeir : Nat → Int32} {t_heardOne : Nat → Int32} {t_heardTwo : Nat → Int32} {t_heardMore : Nat → Int32} {t_pageLength : Int32} {t_page : Nat → Int32} {t_dealt : Nat → Int32} {t_seedNow : Int64} {t_saved : Nat → Int32} {t_isKept : Int32} {t_keptWill : Int32} {t_keptChanges : Int32} {t_keptHeard : Int32} {t_keptWorth : Nat → Int32} {t_keptThing : Nat → Int32} {t_keptChangesOf : Nat → Int32} {t_keptHeir : Nat → Int32} {t_keptOne : Nat → Int32} {t_keptTwo : Nat → Int32} {t_keptMore : Nat → Int32} {t_h : Int64}  {g_t_says : Nat → Int32} {g_t_farOf : Nat → Int32} {g_t_endMany : Int32} {g_t_endMost : Int32} {g_t_endLeast : Int32} {g_t_endFew : Int32} (back_38 : Int32 → (Nat → Int32) → (Nat → Int32) → Int32 → Int32 → Int32 → Int32 → Option ((Nat → Int32) × (Nat → Int32) × Int32 × Int32 × Int32 × Int32)) (hb_38 : ∀ (x1 : Int32) (t_says : Nat → Int32) (t_farOf : Nat → Int32) (t_endMany : Int32) (t_endMost : Int32) (t_endLeast : Int32) (t_endFew : Int32) (H : Heap) (locs : List Loc) (ls : Array Slot), va_P D vwCl (w_X7 cI cB ad_t t_wills t_heirs t_kindOf t_worthOf t_thingOf t_changesOf t_changes t_heard t_heardHeir t_heardOne t_heardTwo t_heardMore t_pageLength t_page t_says t_dealt t_farOf t_endMany t_endMost t_endLeast t_endFew t_seedNow t_saved t_isKept t_keptWill t_keptChanges t_keptHeard t_keptWorth t_keptThing t_keptChangesOf t_keptHeir t_keptOne t_keptTwo t_keptMore t_h) H → va_D A (w_X7 cI cB ad_t t_wills t_heirs t_kindOf t_worthOf t_thingOf t_changesOf t_changes t_heard t_heardHeir t_heardOne t_heardTwo t_heardMore t_pageLength t_page t_says t_dealt t_farOf t_endMany t_endMost t_endLeast t_endFew t_seedNow t_saved t_isKept t_keptWill t_keptChanges t_keptHeard t_keptWorth t_keptThing t_keptChangesOf t_keptHeir t_keptOne t_keptTwo t_keptMore t_h) → va_S A s.heap H locs → lv_has ls 4 [(0, .ref (ad_t 0)), (1, .int x1)] → back_38 x1 t_says t_farOf t_endMany t_endMost t_endLeast t_endFew = some (g_t_says, g_t_farOf, g_t_endMany, g_t_endMost, g_t_endLeast, g_t_endFew) → W p l e rm_X7_layEnds s m args below meth c H locs 0 0 (Zq D below args s A (w_X7 cI cB ad_t t_wills t_heirs t_kindOf t_worthOf t_thingOf t_changesOf t_changes t_heard t_heardHeir t_heardOne t_heardTwo t_heardMore t_pageLength t_page g_t_says t_dealt g_t_farOf g_t_endMany g_t_endMost g_t_endLeast g_t_endFew t_seedNow t_saved t_isKept t_keptWill t_keptChanges t_keptHeard t_keptWorth t_keptThing t_keptChangesOf t_keptHeir t_keptOne t_keptTwo t_keptMore t_h) none) (F0 m 38 ls [])) (back_68 : Int32 → Int32 → (Nat → Int32) → (Nat → Int32) → Int32 → Int32 → Int32 → Int32 → Option ((Nat → Int32) × (Nat → Int32) × Int32 × Int32 × Int32 × Int32)) (hb_68 : ∀ (x1 : Int32) (x2 : Int32) (t_says : Nat → Int32) (t_farOf : Nat → Int32) (t_endMany : Int32) (t_endMost : Int32) (t_endLeast : Int32) (t_endFew : Int32) (H : Heap) (locs : List Loc) (ls : Array Slot), va_P D vwCl (w_X7 cI cB ad_t t_wills t_heirs t_kindOf t_worthOf t_thingOf t_changesOf t_changes t_heard t_heardHeir t_heardOne t_heardTwo t_heardMore t_pageLength t_page t_says t_dealt t_farOf t_endMany t_endMost t_endLeast t_endFew t_seedNow t_saved t_isKept t_keptWill t_keptChanges t_keptHeard t_keptWorth t_keptThing t_keptChangesOf t_keptHeir t_keptOne t_keptTwo t_keptMore t_h) H → va_D A (w_X7 cI cB ad_t t_wills t_heirs t_kindOf t_worthOf t_thingOf t_changesOf t_changes t_heard t_heardHeir t_heardOne t_heardTwo t_heardMore t_pageLength t_page t_says t_dealt t_farOf t_endMany t_endMost t_endLeast t_endFew t_seedNow t_saved t_isKept t_keptWill t_keptChanges t_keptHeard t_keptWorth t_keptThing t_keptChangesOf t_keptHeir t_keptOne t_keptTwo t_keptMore t_h) → va_S A s.heap H locs → lv_has ls 4 [(0, .ref (ad_t 0)), (1, .int x1), (2, .int x2)] → back_68 x1 x2 t_says t_farOf t_endMany t_endMost t_endLeast t_endFew = some (g_t_says, g_t_farOf, g_t_endMany, g_t_endMost, g_t_endLeast, g_t_endFew) → W p l e rm_X7_layEnds s m args below meth c H locs 0 0 (Zq D below args s A (w_X7 cI cB ad_t t_wills t_heirs t_kindOf t_worthOf t_thingOf t_changesOf t_changes t_heard t_heardHeir t_heardOne t_heardTwo t_heardMore t_pageLength t_page g_t_says t_dealt g_t_farOf g_t_endMany g_t_endMost g_t_endLeast g_t_endFew t_seedNow t_saved t_isKept t_keptWill t_keptChanges t_keptHeard t_keptWorth t_keptThing t_keptChangesOf t_keptHeir t_keptOne t_keptTwo t_keptMore t_h) none) (F0 m 68 ls [])) : ∀ (x1 : Int32) (x2 : Int32) (k0 : Int32) (t_says : Nat → Int32) (t_farOf : Nat → Int32) (t_endMany : Int32) (t_endMost : Int32) (t_endLeast : Int32) (t_endFew : Int32) (H : Heap) (locs : List Loc) (ls : Array Slot), va_P D vwCl (w_X7 cI cB ad_t t_wills t_heirs t_kindOf t_worthOf t_thingOf t_changesOf t_changes t_heard t_heardHeir t_heardOne t_heardTwo t_heardMore t_pageLength t_page t_says t_dealt t_farOf t_endMany t_endMost t_endLeast t_endFew t_seedNow t_saved t_isKept t_keptWill t_keptChanges t_keptHeard t_keptWorth t_keptThing t_keptChangesOf t_keptHeir t_keptOne t_keptTwo t_keptMore t_h) H → va_D A (w_X7 cI cB ad_t t_wills t_heirs t_kindOf t_worthOf t_thingOf t_changesOf t_changes t_heard t_heardHeir t_heardOne t_heardTwo t_heardMore t_pageLength t_page t_says t_dealt t_farOf t_endMany t_endMost t_endLeast t_endFew t_seedNow t_saved t_isKept t_keptWill t_keptChanges t_keptHeard t_keptWorth t_keptThing t_keptChangesOf t_keptHeir t_keptOne t_keptTwo t_keptMore t_h) → va_S A s.heap H locs → lv_has ls 4 [(0, .ref (ad_t 0)), (1, .int x1), (2, .int x2)] → f_X7_layEnds_146 t_heirs t_kindOf t_worthOf t_thingOf back_38 back_68 x1 x2 k0 t_says t_farOf t_endMany t_endMost t_endLeast t_endFew = some (g_t_says, g_t_farOf, g_t_endMany, g_t_endMost, g_t_endLeast, g_t_endFew) → W p l e rm_X7_layEnds s m args below meth c H locs 0 0 (Zq D below args s A (w_X7 cI cB ad_t t_wills t_heirs t_kindOf t_worthOf t_thingOf t_changesOf t_changes t_heard t_heardHeir t_heardOne t_heardTwo t_heardMore t_pageLength t_page g_t_says t_dealt g_t_farOf g_t_endMany g_t_endMost g_t_endLeast g_t_endFew t_seedNow t_saved t_isKept t_keptWill t_keptChanges t_keptHeard t_keptWorth t_keptThing t_keptChangesOf t_keptHeir t_keptOne t_keptTwo t_keptMore t_h) none) (F0 m 146 ls [.int k0, .ref (ad_t 0)]) := by
  obtain ⟨hx, hb, hml, hown, hts, hrt, hlocks, hK, hA, hZ⟩ := id F
  intro x1 x2 k0 t_says t_farOf t_endMany t_endMost t_endLeast t_endFew H locs ls hP hD hS hl hf
  refine pf F hP hD hS in_X7_layEnds_X7 tyX7 tyX7_ok nmX7 0 rfl rfl 19 (by decide) 5 rfl rfl rfl rfl (Nat.le_of_ble_eq_true rfl) dX7_layEnds_146 (w_X7 cI cB ad_t t_wills t_heirs t_kindOf t_worthOf t_thingOf t_changesOf t_changes t_heard t_heardHeir t_heardOne t_heardTwo t_heardMore t_pageLength t_page t_says t_dealt t_farOf t_endMany t_endMost k0 t_endFew t_seedNow t_saved t_isKept t_keptWill t_keptChanges t_keptHeard t_keptWorth t_keptThing t_keptChangesOf t_keptHeir t_keptOne t_keptTwo t_keptMore t_h) rfl (fun H locs hP hD hS => ?_)
  refine lv_aload_n hx hb dX7_layEnds_149 rfl (lv_at hl 0 rfl) ?_
  refine lv_aload_n hx hb dX7_layEnds_150 rfl (lv_at hl 0 rfl) ?_
  refine gf F hP in_X7_layEnds_X7 0 rfl rfl 16 (by decide) 1 rfl rfl dX7_layEnds_151 ?_
  refine lv_iload_n hx hb dX7_layEnds_154 rfl (lv_at hl 2 rfl) ?_
  obtain ⟨v1, ev1, hf⟩ := bnd hf
  refine ald F hP 12 rfl ev1 dX7_layEnds_155 ?_
  refine lv_aload_n hx hb dX7_layEnds_156 rfl (lv_at hl 0 rfl) ?_
  refine gf F hP in_X7_layEnds_X7 0 rfl rfl 20 (by decide) 6 rfl rfl dX7_layEnds_157 ?_
  refine lv_icmp_ge (tgt := 172) hx hb dX7_layEnds_160 (by decide) (fun c2 => ?_) (fun c2 => ?_)
  · replace hf := (if_pos c2).symm.trans hf
    refine lv_aload_n hx hb dX7_layEnds_172 rfl (lv_at hl 0 rfl) ?_
    refine gf F hP in_X7_layEnds_X7 0 rfl rfl 20 (by decide) 6 rfl rfl dX7_layEnds_173 ?_
    exact b_X7_layEnds_176 F back_38 hb_38 back_68 hb_68 x1 x2 t_endFew t_says t_farOf t_endMany t_endMost k0 t_endFew H locs ls hP hD hS (lv_sub hl [0, 1, 2] rfl) hf
  · replace hf := (if_neg c2).symm.trans hf
    refine lv_aload_n hx hb dX7_layEnds_163 rfl (lv_at hl 0 rfl) ?_
    refine gf F hP in_X7_layEnds_X7 0 rfl rfl 16 (by decide) 1 rfl rfl dX7_layEnds_164 ?_
    refine lv_iload_n hx hb dX7_layEnds_167 rfl (lv_at hl 2 rfl) ?_
    obtain ⟨v3, ev3, hf⟩ := bnd hf
    refine ald F hP 12 rfl ev3 dX7_layEnds_168 ?_
    refine lv_goto (tgt := 176) hx hb dX7_layEnds_169 (by decide) ?_
    exact b_X7_layEnds_176 F back_38 hb_38 back_68 hb_68 x1 x2 v3 t_says t_farOf t_endMany t_endMost k0 t_endFew H locs ls hP hD hS (lv_sub hl [0, 1, 2] rfl) hf

set_option maxHeartbeats 4000000 in
set_option maxRecDepth 100000 in
theorem b_X7_layEnds_126 {p : Program} {l : Launch} {e : Env} {s : State} {m : MethodId} {args : Array Value} {below : List Frame} {meth : Method} {c : Code} {D : va_G} {cI cB : ClassId} {kK kV : Nat → Nat} {A : Nat → Prop} (F : Fx p m c s meth args cX7_layEnds 4 RX7 wsX7_layEnds none D cI cB kK kV A) {ad_t : Nat → Nat} {t_wills : Int32} {t_heirs : Int32} {t_kindOf : Nat → Int32} {t_worthOf : Nat → Int32} {t_thingOf : Nat → Int32} {t_changesOf : Nat → Int32} {t_changes : Int32} {t_heard : Int32} {t_heardHeir : Nat → Int32} {t_heardOne : Nat → Int32} {t_heardTwo : Nat → Int32} {t_heardMore : Nat → Int32} {t_pageLength : Int32} {t_page : Nat → Int32} {t_dealt : Nat → Int32} {t_seedNow : Int64} {t_saved : Nat → Int32} {t_isKept : Int32} {t_keptWill : Int32} {t_keptChanges : Int32} {t_keptHeard : Int32} {t_keptWorth : Nat → Int32} {t_keptThing : Nat → Int32} {t_keptChangesOf : Nat → Int32} {t_keptHeir : Nat → Int32} {t_keptOne : Nat → Int32} {t_keptTwo : Nat → Int32} {t_keptMore : Nat → Int32} {t_h : Int64}  {g_t_says : Nat → Int32} {g_t_farOf : Nat → Int32} {g_t_endMany : Int32} {g_t_endMost : Int32} {g_t_endLeast : Int32} {g_t_endFew : Int32} (back_38 : Int32 → (Nat → Int32) → (Nat → Int32) → Int32 → Int32 → Int32 → Int32 → Option ((Nat → Int32) × (Nat → Int32) × Int32 × Int32 × Int32 × Int32)) (hb_38 : ∀ (x1 : Int32) (t_says : Nat → Int32) (t_farOf : Nat → Int32) (t_endMany : Int32) (t_endMost : Int32) (t_endLeast : Int32) (t_endFew : Int32) (H : Heap) (locs : List Loc) (ls : Array Slot), va_P D vwCl (w_X7 cI cB ad_t t_wills t_heirs t_kindOf t_worthOf t_thingOf t_changesOf t_changes t_heard t_heardHeir t_heardOne t_heardTwo t_heardMore t_pageLength t_page t_says t_dealt t_farOf t_endMany t_endMost t_endLeast t_endFew t_seedNow t_saved t_isKept t_keptWill t_keptChanges t_keptHeard t_keptWorth t_keptThing t_keptChangesOf t_keptHeir t_keptOne t_keptTwo t_keptMore t_h) H → va_D A (w_X7 cI cB ad_t t_wills t_heirs t_kindOf t_worthOf t_thingOf t_changesOf t_changes t_heard t_heardHeir t_heardOne t_heardTwo t_heardMore t_pageLength t_page t_says t_dealt t_farOf t_endMany t_endMost t_endLeast t_endFew t_seedNow t_saved t_isKept t_keptWill t_keptChanges t_keptHeard t_keptWorth t_keptThing t_keptChangesOf t_keptHeir t_keptOne t_keptTwo t_keptMore t_h) → va_S A s.heap H locs → lv_has ls 4 [(0, .ref (ad_t 0)), (1, .int x1)] → back_38 x1 t_says t_farOf t_endMany t_endMost t_endLeast t_endFew = some (g_t_says, g_t_farOf, g_t_endMany, g_t_endMost, g_t_endLeast, g_t_endFew) → W p l e rm_X7_layEnds s m args below meth c H locs 0 0 (Zq D below args s A (w_X7 cI cB ad_t t_wills t_heirs t_kindOf t_worthOf t_thingOf t_changesOf t_changes t_heard t_heardHeir t_heardOne t_heardTwo t_heardMore t_pageLength t_page g_t_says t_dealt g_t_farOf g_t_endMany g_t_endMost g_t_endLeast g_t_endFew t_seedNow t_saved t_isKept t_keptWill t_keptChanges t_keptHeard t_keptWorth t_keptThing t_keptChangesOf t_keptHeir t_keptOne t_keptTwo t_keptMore t_h) none) (F0 m 38 ls [])) (back_68 : Int32 → Int32 → (Nat → Int32) → (Nat → Int32) → Int32 → Int32 → Int32 → Int32 → Option ((Nat → Int32) × (Nat → Int32) × Int32 × Int32 × Int32 × Int32)) (hb_68 : ∀ (x1 : Int32) (x2 : Int32) (t_says : Nat → Int32) (t_farOf : Nat → Int32) (t_endMany : Int32) (t_endMost : Int32) (t_endLeast : Int32) (t_endFew : Int32) (H : Heap) (locs : List Loc) (ls : Array Slot), va_P D vwCl (w_X7 cI cB ad_t t_wills t_heirs t_kindOf t_worthOf t_thingOf t_changesOf t_changes t_heard t_heardHeir t_heardOne t_heardTwo t_heardMore t_pageLength t_page t_says t_dealt t_farOf t_endMany t_endMost t_endLeast t_endFew t_seedNow t_saved t_isKept t_keptWill t_keptChanges t_keptHeard t_keptWorth t_keptThing t_keptChangesOf t_keptHeir t_keptOne t_keptTwo t_keptMore t_h) H → va_D A (w_X7 cI cB ad_t t_wills t_heirs t_kindOf t_worthOf t_thingOf t_changesOf t_changes t_heard t_heardHeir t_heardOne t_heardTwo t_heardMore t_pageLength t_page t_says t_dealt t_farOf t_endMany t_endMost t_endLeast t_endFew t_seedNow t_saved t_isKept t_keptWill t_keptChanges t_keptHeard t_keptWorth t_keptThing t_keptChangesOf t_keptHeir t_keptOne t_keptTwo t_keptMore t_h) → va_S A s.heap H locs → lv_has ls 4 [(0, .ref (ad_t 0)), (1, .int x1), (2, .int x2)] → back_68 x1 x2 t_says t_farOf t_endMany t_endMost t_endLeast t_endFew = some (g_t_says, g_t_farOf, g_t_endMany, g_t_endMost, g_t_endLeast, g_t_endFew) → W p l e rm_X7_layEnds s m args below meth c H locs 0 0 (Zq D below args s A (w_X7 cI cB ad_t t_wills t_heirs t_kindOf t_worthOf t_thingOf t_changesOf t_changes t_heard t_heardHeir t_heardOne t_heardTwo t_heardMore t_pageLength t_page g_t_says t_dealt g_t_farOf g_t_endMany g_t_endMost g_t_endLeast g_t_endFew t_seedNow t_saved t_isKept t_keptWill t_keptChanges t_keptHeard t_keptWorth t_keptThing t_keptChangesOf t_keptHeir t_keptOne t_keptTwo t_keptMore t_h) none) (F0 m 68 ls [])) : ∀ (x1 : Int32) (x2 : Int32) (x3 : Int32) (k0 : Int32) (t_says : Nat → Int32) (t_farOf : Nat → Int32) (t_endMany : Int32) (t_endMost : Int32) (t_endLeast : Int32) (t_endFew : Int32) (H : Heap) (locs : List Loc) (ls : Array Slot), va_P D vwCl (w_X7 cI cB ad_t t_wills t_heirs t_kindOf t_worthOf t_thingOf t_changesOf t_changes t_heard t_heardHeir t_heardOne t_heardTwo t_heardMore t_pageLength t_page t_says t_dealt t_farOf t_endMany t_endMost t_endLeast t_endFew t_seedNow t_saved t_isKept t_keptWill t_keptChanges t_keptHeard t_keptWorth t_keptThing t_keptChangesOf t_keptHeir t_keptOne t_keptTwo t_keptMore t_h) H → va_D A (w_X7 cI cB ad_t t_wills t_heirs t_kindOf t_worthOf t_thingOf t_changesOf t_changes t_heard t_heardHeir t_heardOne t_heardTwo t_heardMore t_pageLength t_page t_says t_dealt t_farOf t_endMany t_endMost t_endLeast t_endFew t_seedNow t_saved t_isKept t_keptWill t_keptChanges t_keptHeard t_keptWorth t_keptThing t_keptChangesOf t_keptHeir t_keptOne t_keptTwo t_keptMore t_h) → va_S A s.heap H locs → lv_has ls 4 [(0, .ref (ad_t 0)), (1, .int x1), (2, .int x2), (3, .int x3)] → f_X7_layEnds_126 t_heirs t_kindOf t_worthOf t_thingOf back_38 back_68 x1 x2 x3 k0 t_says t_farOf t_endMany t_endMost t_endLeast t_endFew = some (g_t_says, g_t_farOf, g_t_endMany, g_t_endMost, g_t_endLeast, g_t_endFew) → W p l e rm_X7_layEnds s m args below meth c H locs 0 0 (Zq D below args s A (w_X7 cI cB ad_t t_wills t_heirs t_kindOf t_worthOf t_thingOf t_changesOf t_changes t_heard t_heardHeir t_heardOne t_heardTwo t_heardMore t_pageLength t_page g_t_says t_dealt g_t_farOf g_t_endMany g_t_endMost g_t_endLeast g_t_endFew t_seedNow t_saved t_isKept t_keptWill t_keptChanges t_keptHeard t_keptWorth t_keptThing t_keptChangesOf t_keptHeir t_keptOne t_keptTwo t_keptMore t_h) none) (F0 m 126 ls [.int k0, .ref (ad_t 0)]) := by
  obtain ⟨hx, hb, hml, hown, hts, hrt, hlocks, hK, hA, hZ⟩ := id F
  intro x1 x2 x3 k0 t_says t_farOf t_endMany t_endMost t_endLeast t_endFew H locs ls hP hD hS hl hf
  refine pf F hP hD hS in_X7_layEnds_X7 tyX7 tyX7_ok nmX7 0 rfl rfl 18 (by decide) 3 rfl rfl rfl rfl (Nat.le_of_ble_eq_true rfl) dX7_layEnds_126 (w_X7 cI cB ad_t t_wills t_heirs t_kindOf t_worthOf t_thingOf t_changesOf t_changes t_heard t_heardHeir t_heardOne t_heardTwo t_heardMore t_pageLength t_page t_says t_dealt t_farOf t_endMany k0 t_endLeast t_endFew t_seedNow t_saved t_isKept t_keptWill t_keptChanges t_keptHeard t_keptWorth t_keptThing t_keptChangesOf t_keptHeir t_keptOne t_keptTwo t_keptMore t_h) rfl (fun H locs hP hD hS => ?_)
  refine lv_aload_n hx hb dX7_layEnds_129 rfl (lv_at hl 0 rfl) ?_
  refine lv_iload_n hx hb dX7_layEnds_130 rfl (lv_at hl 3 rfl) ?_
  refine lv_aload_n hx hb dX7_layEnds_131 rfl (lv_at hl 0 rfl) ?_
  refine gf F hP in_X7_layEnds_X7 0 rfl rfl 19 (by decide) 5 rfl rfl dX7_layEnds_132 ?_
  refine lv_icmp_ge (tgt := 142) hx hb dX7_layEnds_135 (by decide) (fun c1 => ?_) (fun c1 => ?_)
  · replace hf := (if_pos c1).symm.trans hf
    refine lv_aload_n hx hb dX7_layEnds_142 rfl (lv_at hl 0 rfl) ?_
    refine gf F hP in_X7_layEnds_X7 0 rfl rfl 19 (by decide) 5 rfl rfl dX7_layEnds_143 ?_
    exact b_X7_layEnds_146 F back_38 hb_38 back_68 hb_68 x1 x2 t_endLeast t_says t_farOf t_endMany k0 t_endLeast t_endFew H locs ls hP hD hS (lv_sub hl [0, 1, 2] rfl) hf
  · replace hf := (if_neg c1).symm.trans hf
    refine lv_iload_n hx hb dX7_layEnds_138 rfl (lv_at hl 3 rfl) ?_
    refine lv_goto (tgt := 146) hx hb dX7_layEnds_139 (by decide) ?_
    exact b_X7_layEnds_146 F back_38 hb_38 back_68 hb_68 x1 x2 x3 t_says t_farOf t_endMany k0 t_endLeast t_endFew H locs ls hP hD hS (lv_sub hl [0, 1, 2] rfl) hf

set_option maxHeartbeats 4000000 in
set_option maxRecDepth 100000 in
theorem b_X7_layEnds_68 {p : Program} {l : Launch} {e : Env} {s : State} {m : MethodId} {args : Array Value} {below : List Frame} {meth : Method} {c : Code} {D : va_G} {cI cB : ClassId} {kK kV : Nat → Nat} {A : Nat → Prop} (F : Fx p m c s meth args cX7_layEnds 4 RX7 wsX7_layEnds none D cI cB kK kV A) {ad_t : Nat → Nat} {t_wills : Int32} {t_heirs : Int32} {t_kindOf : Nat → Int32} {t_worthOf : Nat → Int32} {t_thingOf : Nat → Int32} {t_changesOf : Nat → Int32} {t_changes : Int32} {t_heard : Int32} {t_heardHeir : Nat → Int32} {t_heardOne : Nat → Int32} {t_heardTwo : Nat → Int32} {t_heardMore : Nat → Int32} {t_pageLength : Int32} {t_page : Nat → Int32} {t_dealt : Nat → Int32} {t_seedNow : Int64} {t_saved : Nat → Int32} {t_isKept : Int32} {t_keptWill : Int32} {t_keptChanges : Int32} {t_keptHeard : Int32} {t_keptWorth : Nat → Int32} {t_keptThing : Nat → Int32} {t_keptChangesOf : Nat → Int32} {t_keptHeir : Nat → Int32} {t_keptOne : Nat → Int32} {t_keptTwo : Nat → Int32} {t_keptMore : Nat → Int32} {t_h : Int64}  {g_t_says : Nat → Int32} {g_t_farOf : Nat → Int32} {g_t_endMany : Int32} {g_t_endMost : Int32} {g_t_endLeast : Int32} {g_t_endFew : Int32} (back_38 : Int32 → (Nat → Int32) → (Nat → Int32) → Int32 → Int32 → Int32 → Int32 → Option ((Nat → Int32) × (Nat → Int32) × Int32 × Int32 × Int32 × Int32)) (hb_38 : ∀ (x1 : Int32) (t_says : Nat → Int32) (t_farOf : Nat → Int32) (t_endMany : Int32) (t_endMost : Int32) (t_endLeast : Int32) (t_endFew : Int32) (H : Heap) (locs : List Loc) (ls : Array Slot), va_P D vwCl (w_X7 cI cB ad_t t_wills t_heirs t_kindOf t_worthOf t_thingOf t_changesOf t_changes t_heard t_heardHeir t_heardOne t_heardTwo t_heardMore t_pageLength t_page t_says t_dealt t_farOf t_endMany t_endMost t_endLeast t_endFew t_seedNow t_saved t_isKept t_keptWill t_keptChanges t_keptHeard t_keptWorth t_keptThing t_keptChangesOf t_keptHeir t_keptOne t_keptTwo t_keptMore t_h) H → va_D A (w_X7 cI cB ad_t t_wills t_heirs t_kindOf t_worthOf t_thingOf t_changesOf t_changes t_heard t_heardHeir t_heardOne t_heardTwo t_heardMore t_pageLength t_page t_says t_dealt t_farOf t_endMany t_endMost t_endLeast t_endFew t_seedNow t_saved t_isKept t_keptWill t_keptChanges t_keptHeard t_keptWorth t_keptThing t_keptChangesOf t_keptHeir t_keptOne t_keptTwo t_keptMore t_h) → va_S A s.heap H locs → lv_has ls 4 [(0, .ref (ad_t 0)), (1, .int x1)] → back_38 x1 t_says t_farOf t_endMany t_endMost t_endLeast t_endFew = some (g_t_says, g_t_farOf, g_t_endMany, g_t_endMost, g_t_endLeast, g_t_endFew) → W p l e rm_X7_layEnds s m args below meth c H locs 0 0 (Zq D below args s A (w_X7 cI cB ad_t t_wills t_heirs t_kindOf t_worthOf t_thingOf t_changesOf t_changes t_heard t_heardHeir t_heardOne t_heardTwo t_heardMore t_pageLength t_page g_t_says t_dealt g_t_farOf g_t_endMany g_t_endMost g_t_endLeast g_t_endFew t_seedNow t_saved t_isKept t_keptWill t_keptChanges t_keptHeard t_keptWorth t_keptThing t_keptChangesOf t_keptHeir t_keptOne t_keptTwo t_keptMore t_h) none) (F0 m 38 ls [])) : ∀ (n : Nat), ∀ (x1 : Int32) (x2 : Int32) (t_says : Nat → Int32) (t_farOf : Nat → Int32) (t_endMany : Int32) (t_endMost : Int32) (t_endLeast : Int32) (t_endFew : Int32) (H : Heap) (locs : List Loc) (ls : Array Slot), va_P D vwCl (w_X7 cI cB ad_t t_wills t_heirs t_kindOf t_worthOf t_thingOf t_changesOf t_changes t_heard t_heardHeir t_heardOne t_heardTwo t_heardMore t_pageLength t_page t_says t_dealt t_farOf t_endMany t_endMost t_endLeast t_endFew t_seedNow t_saved t_isKept t_keptWill t_keptChanges t_keptHeard t_keptWorth t_keptThing t_keptChangesOf t_keptHeir t_keptOne t_keptTwo t_keptMore t_h) H → va_D A (w_X7 cI cB ad_t t_wills t_heirs t_kindOf t_worthOf t_thingOf t_changesOf t_changes t_heard t_heardHeir t_heardOne t_heardTwo t_heardMore t_pageLength t_page t_says t_dealt t_farOf t_endMany t_endMost t_endLeast t_endFew t_seedNow t_saved t_isKept t_keptWill t_keptChanges t_keptHeard t_keptWorth t_keptThing t_keptChangesOf t_keptHeir t_keptOne t_keptTwo t_keptMore t_h) → va_S A s.heap H locs → lv_has ls 4 [(0, .ref (ad_t 0)), (1, .int x1), (2, .int x2)] → f_X7_layEnds_68 t_heirs t_kindOf t_worthOf t_thingOf back_38 n x1 x2 t_says t_farOf t_endMany t_endMost t_endLeast t_endFew = some (g_t_says, g_t_farOf, g_t_endMany, g_t_endMost, g_t_endLeast, g_t_endFew) → W p l e rm_X7_layEnds s m args below meth c H locs 0 0 (Zq D below args s A (w_X7 cI cB ad_t t_wills t_heirs t_kindOf t_worthOf t_thingOf t_changesOf t_changes t_heard t_heardHeir t_heardOne t_heardTwo t_heardMore t_pageLength t_page g_t_says t_dealt g_t_farOf g_t_endMany g_t_endMost g_t_endLeast g_t_endFew t_seedNow t_saved t_isKept t_keptWill t_keptChanges t_keptHeard t_keptWorth t_keptThing t_keptChangesOf t_keptHeir t_keptOne t_keptTwo t_keptMore t_h) none) (F0 m 68 ls []) := by
  obtain ⟨hx, hb, hml, hown, hts, hrt, hlocks, hK, hA, hZ⟩ := id F
  intro n
  induction n with
  | zero =>
    intro x1 x2 t_says t_farOf t_endMany t_endMost t_endLeast t_endFew H locs ls hP hD hS hl hf
    cases hf
  | succ n ih =>
    intro x1 x2 t_says t_farOf t_endMany t_endMost t_endLeast t_endFew H locs ls hP hD hS hl hf
    refine lv_iload_n hx hb dX7_layEnds_68 rfl (lv_at hl 2 rfl) ?_
    refine lv_sipush (v := 256) hx hb dX7_layEnds_69 (by decide) ?_
    refine lv_icmp_ge (tgt := 185) hx hb dX7_layEnds_72 (by decide) (fun c1 => ?_) (fun c1 => ?_)
    · replace hf := (if_pos c1).symm.trans hf
      refine lv_iinc (v := (x1 + 1)) (lv' := [(1, .int (x1 + 1)), (0, .ref (ad_t 0)), (2, .int x2)]) hx hb dX7_layEnds_185 hl (k := 1) rfl rfl (by decide) rfl (fun ls hl => ?_)
      refine lv_goto (tgt := 38) hx hb dX7_layEnds_188 (by decide) ?_
      exact hb_38 (x1 + 1) t_says t_farOf t_endMany t_endMost t_endLeast t_endFew H locs ls hP hD hS (lv_sub hl [1, 0] rfl) hf
    · replace hf := (if_neg c1).symm.trans hf
      refine lv_aload_n hx hb dX7_layEnds_75 rfl (lv_at hl 0 rfl) ?_
      refine gf F hP in_X7_layEnds_X7 0 rfl rfl 16 (by decide) 1 rfl rfl dX7_layEnds_76 ?_
      refine lv_iload_n hx hb dX7_layEnds_79 rfl (lv_at hl 2 rfl) ?_
      obtain ⟨v2, ev2, hf⟩ := bnd hf
      refine ald F hP 12 rfl ev2 dX7_layEnds_80 ?_
      refine lv_iconst (v := (-1)) hx hb dX7_layEnds_81 (by decide) ?_
      refine lv_icmp_eq (tgt := 179) hx hb dX7_layEnds_82 (by decide) (fun c3 => ?_) (fun c3 => ?_)
      · replace hf := (if_pos c3).symm.trans hf
        refine lv_iinc (v := (x2 + 1)) (lv' := [(2, .int (x2 + 1)), (0, .ref (ad_t 0)), (1, .int x1)]) hx hb dX7_layEnds_179 hl (k := 2) rfl rfl (by decide) rfl (fun ls hl => ?_)
        refine lv_goto (tgt := 68) hx hb dX7_layEnds_182 (by decide) ?_
        exact ih x1 (x2 + 1) t_says t_farOf t_endMany t_endMost t_endLeast t_endFew H locs ls hP hD hS (lv_sub hl [1, 2, 0] rfl) hf
      · replace hf := (if_neg c3).symm.trans hf
        refine lv_aload_n hx hb dX7_layEnds_85 rfl (lv_at hl 0 rfl) ?_
        refine lv_iload_n hx hb dX7_layEnds_86 rfl (lv_at hl 2 rfl) ?_
        obtain ⟨⟨v4, g5⟩, e6, hf⟩ := bnd hf
        refine cV F hP hD hS (k_X7_goChanges l ad_t t_wills t_heirs t_kindOf t_worthOf t_thingOf t_changesOf t_changes t_heard t_heardHeir t_heardOne t_heardTwo t_heardMore t_pageLength t_page t_says t_dealt t_farOf t_endMany t_endMost t_endLeast t_endFew t_seedNow t_saved t_isKept t_keptWill t_keptChanges t_keptHeard t_keptWorth t_keptThing t_keptChangesOf t_keptHeir t_keptOne t_keptTwo t_keptMore t_h x2 e6) gX7_layEnds_X7_goChanges rfl ⟨rfl, rfl⟩ nd_X7_goChanges ⟨Nat.le_of_ble_eq_true rfl, Nat.le_of_ble_eq_true rfl⟩ 0 7 rfl rfl rfl hl.1 rfl (Nat.le_of_ble_eq_true rfl) dX7_layEnds_87 (pm0 (w_X7 cI cB ad_t t_wills t_heirs t_kindOf t_worthOf t_thingOf t_changesOf t_changes t_heard t_heardHeir t_heardOne t_heardTwo t_heardMore t_pageLength t_page t_says t_dealt t_farOf t_endMany t_endMost t_endLeast t_endFew t_seedNow t_saved t_isKept t_keptWill t_keptChanges t_keptHeard t_keptWorth t_keptThing t_keptChangesOf t_keptHeir t_keptOne t_keptTwo t_keptMore t_h)) (pm0 (w_X7 cI cB ad_t t_wills t_heirs t_kindOf t_worthOf t_thingOf t_changesOf t_changes t_heard t_heardHeir t_heardOne t_heardTwo t_heardMore t_pageLength t_page t_says t_dealt g5 t_endMany t_endMost t_endLeast t_endFew t_seedNow t_saved t_isKept t_keptWill t_keptChanges t_keptHeard t_keptWorth t_keptThing t_keptChangesOf t_keptHeir t_keptOne t_keptTwo t_keptMore t_h)) (fun H locs hP hD hS => ?_)
        refine lv_if_ne (tgt := 179) hx hb dX7_layEnds_90 (by decide) (fun c7 => ?_) (fun c7 => ?_)
        · replace hf := (if_neg c7).symm.trans hf
          refine lv_iinc (v := (x2 + 1)) (lv' := [(2, .int (x2 + 1)), (0, .ref (ad_t 0)), (1, .int x1)]) hx hb dX7_layEnds_179 hl (k := 2) rfl rfl (by decide) rfl (fun ls hl => ?_)
          refine lv_goto (tgt := 68) hx hb dX7_layEnds_182 (by decide) ?_
          exact ih x1 (x2 + 1) t_says g5 t_endMany t_endMost t_endLeast t_endFew H locs ls hP hD hS (lv_sub hl [1, 2, 0] rfl) hf
        · replace hf := (if_pos c7).symm.trans hf
          refine lv_aload_n hx hb dX7_layEnds_93 rfl (lv_at hl 0 rfl) ?_
          refine lv_iload_n hx hb dX7_layEnds_94 rfl (lv_at hl 2 rfl) ?_
          obtain ⟨v8, e9, hf⟩ := bnd hf
          refine cV F hP hD hS (k_X7_sumBy l ad_t t_wills t_heirs t_kindOf t_worthOf t_thingOf t_changesOf t_changes t_heard t_heardHeir t_heardOne t_heardTwo t_heardMore t_pageLength t_page t_says t_dealt g5 t_endMany t_endMost t_endLeast t_endFew t_seedNow t_saved t_isKept t_keptWill t_keptChanges t_keptHeard t_keptWorth t_keptThing t_keptChangesOf t_keptHeir t_keptOne t_keptTwo t_keptMore t_h x2 e9) gX7_layEnds_X7_sumBy rfl ⟨rfl, rfl⟩ nd_X7_sumBy ⟨Nat.le_of_ble_eq_true rfl, Nat.le_of_ble_eq_true rfl⟩ 0 7 rfl rfl rfl hl.1 rfl (Nat.le_of_ble_eq_true rfl) dX7_layEnds_95 (pm0 (w_X7 cI cB ad_t t_wills t_heirs t_kindOf t_worthOf t_thingOf t_changesOf t_changes t_heard t_heardHeir t_heardOne t_heardTwo t_heardMore t_pageLength t_page t_says t_dealt g5 t_endMany t_endMost t_endLeast t_endFew t_seedNow t_saved t_isKept t_keptWill t_keptChanges t_keptHeard t_keptWorth t_keptThing t_keptChangesOf t_keptHeir t_keptOne t_keptTwo t_keptMore t_h)) (pm0 (w_X7 cI cB ad_t t_wills t_heirs t_kindOf t_worthOf t_thingOf t_changesOf t_changes t_heard t_heardHeir t_heardOne t_heardTwo t_heardMore t_pageLength t_page t_says t_dealt g5 t_endMany t_endMost t_endLeast t_endFew t_seedNow t_saved t_isKept t_keptWill t_keptChanges t_keptHeard t_keptWorth t_keptThing t_keptChangesOf t_keptHeir t_keptOne t_keptTwo t_keptMore t_h)) (fun H locs hP hD hS => ?_)
          refine lv_istore_n (lv' := [(3, .int v8), (0, .ref (ad_t 0)), (1, .int x1), (2, .int x2)]) hx hb dX7_layEnds_98 rfl hl (by decide) rfl (fun ls hl => ?_)
          refine lv_aload_n hx hb dX7_layEnds_99 rfl (lv_at hl 1 rfl) ?_
          refine lv_dup hx hb dX7_layEnds_100 rfl ?_
          refine gf F hP in_X7_layEnds_X7 0 rfl rfl 17 (by decide) 2 rfl rfl dX7_layEnds_101 ?_
          refine lv_iconst (v := 1) hx hb dX7_layEnds_104 (by decide) ?_
          refine lv_iadd hx hb dX7_layEnds_105 ?_
          refine pf F hP hD hS in_X7_layEnds_X7 tyX7 tyX7_ok nmX7 0 rfl rfl 17 (by decide) 2 rfl rfl rfl rfl (Nat.le_of_ble_eq_true rfl) dX7_layEnds_106 (w_X7 cI cB ad_t t_wills t_heirs t_kindOf t_worthOf t_thingOf t_changesOf t_changes t_heard t_heardHeir t_heardOne t_heardTwo t_heardMore t_pageLength t_page t_says t_dealt g5 (t_endMany + 1) t_endMost t_endLeast t_endFew t_seedNow t_saved t_isKept t_keptWill t_keptChanges t_keptHeard t_keptWorth t_keptThing t_keptChangesOf t_keptHeir t_keptOne t_keptTwo t_keptMore t_h) rfl (fun H locs hP hD hS => ?_)
          refine lv_aload_n hx hb dX7_layEnds_109 rfl (lv_at hl 1 rfl) ?_
          refine lv_iload_n hx hb dX7_layEnds_110 rfl (lv_at hl 0 rfl) ?_
          refine lv_aload_n hx hb dX7_layEnds_111 rfl (lv_at hl 1 rfl) ?_
          refine gf F hP in_X7_layEnds_X7 0 rfl rfl 18 (by decide) 3 rfl rfl dX7_layEnds_112 ?_
          refine lv_icmp_le (tgt := 122) hx hb dX7_layEnds_115 (by decide) (fun c10 => ?_) (fun c10 => ?_)
          · replace hf := (if_pos c10).symm.trans hf
            refine lv_aload_n hx hb dX7_layEnds_122 rfl (lv_at hl 1 rfl) ?_
            refine gf F hP in_X7_layEnds_X7 0 rfl rfl 18 (by decide) 3 rfl rfl dX7_layEnds_123 ?_
            exact b_X7_layEnds_126 F back_38 hb_38 (f_X7_layEnds_68 t_heirs t_kindOf t_worthOf t_thingOf back_38 n) ih x1 x2 v8 t_endMost t_says g5 (t_endMany + 1) t_endMost t_endLeast t_endFew H locs ls hP hD hS (lv_sub hl [1, 2, 3, 0] rfl) hf
          · replace hf := (if_neg c10).symm.trans hf
            refine lv_iload_n hx hb dX7_layEnds_118 rfl (lv_at hl 0 rfl) ?_
            refine lv_goto (tgt := 126) hx hb dX7_layEnds_119 (by decide) ?_
            exact b_X7_layEnds_126 F back_38 hb_38 (f_X7_layEnds_68 t_heirs t_kindOf t_worthOf t_thingOf back_38 n) ih x1 x2 v8 v8 t_says g5 (t_endMany + 1) t_endMost t_endLeast t_endFew H locs ls hP hD hS (lv_sub hl [1, 2, 3, 0] rfl) hf

set_option maxHeartbeats 4000000 in
set_option maxRecDepth 100000 in
theorem b_X7_layEnds_38 {p : Program} {l : Launch} {e : Env} {s : State} {m : MethodId} {args : Array Value} {below : List Frame} {meth : Method} {c : Code} {D : va_G} {cI cB : ClassId} {kK kV : Nat → Nat} {A : Nat → Prop} (F : Fx p m c s meth args cX7_layEnds 4 RX7 wsX7_layEnds none D cI cB kK kV A) {ad_t : Nat → Nat} {t_wills : Int32} {t_heirs : Int32} {t_kindOf : Nat → Int32} {t_worthOf : Nat → Int32} {t_thingOf : Nat → Int32} {t_changesOf : Nat → Int32} {t_changes : Int32} {t_heard : Int32} {t_heardHeir : Nat → Int32} {t_heardOne : Nat → Int32} {t_heardTwo : Nat → Int32} {t_heardMore : Nat → Int32} {t_pageLength : Int32} {t_page : Nat → Int32} {t_dealt : Nat → Int32} {t_seedNow : Int64} {t_saved : Nat → Int32} {t_isKept : Int32} {t_keptWill : Int32} {t_keptChanges : Int32} {t_keptHeard : Int32} {t_keptWorth : Nat → Int32} {t_keptThing : Nat → Int32} {t_keptChangesOf : Nat → Int32} {t_keptHeir : Nat → Int32} {t_keptOne : Nat → Int32} {t_keptTwo : Nat → Int32} {t_keptMore : Nat → Int32} {t_h : Int64}  {g_t_says : Nat → Int32} {g_t_farOf : Nat → Int32} {g_t_endMany : Int32} {g_t_endMost : Int32} {g_t_endLeast : Int32} {g_t_endFew : Int32} : ∀ (n : Nat), ∀ (x1 : Int32) (t_says : Nat → Int32) (t_farOf : Nat → Int32) (t_endMany : Int32) (t_endMost : Int32) (t_endLeast : Int32) (t_endFew : Int32) (H : Heap) (locs : List Loc) (ls : Array Slot), va_P D vwCl (w_X7 cI cB ad_t t_wills t_heirs t_kindOf t_worthOf t_thingOf t_changesOf t_changes t_heard t_heardHeir t_heardOne t_heardTwo t_heardMore t_pageLength t_page t_says t_dealt t_farOf t_endMany t_endMost t_endLeast t_endFew t_seedNow t_saved t_isKept t_keptWill t_keptChanges t_keptHeard t_keptWorth t_keptThing t_keptChangesOf t_keptHeir t_keptOne t_keptTwo t_keptMore t_h) H → va_D A (w_X7 cI cB ad_t t_wills t_heirs t_kindOf t_worthOf t_thingOf t_changesOf t_changes t_heard t_heardHeir t_heardOne t_heardTwo t_heardMore t_pageLength t_page t_says t_dealt t_farOf t_endMany t_endMost t_endLeast t_endFew t_seedNow t_saved t_isKept t_keptWill t_keptChanges t_keptHeard t_keptWorth t_keptThing t_keptChangesOf t_keptHeir t_keptOne t_keptTwo t_keptMore t_h) → va_S A s.heap H locs → lv_has ls 4 [(0, .ref (ad_t 0)), (1, .int x1)] → f_X7_layEnds_38 t_heirs t_kindOf t_worthOf t_thingOf  n x1 t_says t_farOf t_endMany t_endMost t_endLeast t_endFew = some (g_t_says, g_t_farOf, g_t_endMany, g_t_endMost, g_t_endLeast, g_t_endFew) → W p l e rm_X7_layEnds s m args below meth c H locs 0 0 (Zq D below args s A (w_X7 cI cB ad_t t_wills t_heirs t_kindOf t_worthOf t_thingOf t_changesOf t_changes t_heard t_heardHeir t_heardOne t_heardTwo t_heardMore t_pageLength t_page g_t_says t_dealt g_t_farOf g_t_endMany g_t_endMost g_t_endLeast g_t_endFew t_seedNow t_saved t_isKept t_keptWill t_keptChanges t_keptHeard t_keptWorth t_keptThing t_keptChangesOf t_keptHeir t_keptOne t_keptTwo t_keptMore t_h) none) (F0 m 38 ls []) := by
  obtain ⟨hx, hb, hml, hown, hts, hrt, hlocks, hK, hA, hZ⟩ := id F
  intro n
  induction n with
  | zero =>
    intro x1 t_says t_farOf t_endMany t_endMost t_endLeast t_endFew H locs ls hP hD hS hl hf
    cases hf
  | succ n ih =>
    intro x1 t_says t_farOf t_endMany t_endMost t_endLeast t_endFew H locs ls hP hD hS hl hf
    refine lv_iload_n hx hb dX7_layEnds_38 rfl (lv_at hl 1 rfl) ?_
    refine lv_bipush (v := 36) hx hb dX7_layEnds_39 (by decide) ?_
    refine lv_icmp_ge (tgt := 191) hx hb dX7_layEnds_41 (by decide) (fun c1 => ?_) (fun c1 => ?_)
    · replace hf := (if_pos c1).symm.trans hf
      replace hf : (some (t_says, t_farOf, t_endMany, t_endMost, t_endLeast, t_endFew) : Option ((Nat → Int32) × (Nat → Int32) × Int32 × Int32 × Int32 × Int32)) = some (g_t_says, g_t_farOf, g_t_endMany, g_t_endMost, g_t_endLeast, g_t_endFew) := hf
      cases hf
      exact ret_v F hP hS dX7_layEnds_191
    · replace hf := (if_neg c1).symm.trans hf
      refine lv_aload_n hx hb dX7_layEnds_44 rfl (lv_at hl 0 rfl) ?_
      refine lv_iconst (v := 0) hx hb dX7_layEnds_45 (by decide) ?_
      refine pf F hP hD hS in_X7_layEnds_X7 tyX7 tyX7_ok nmX7 0 rfl rfl 17 (by decide) 2 rfl rfl rfl rfl (Nat.le_of_ble_eq_true rfl) dX7_layEnds_46 (w_X7 cI cB ad_t t_wills t_heirs t_kindOf t_worthOf t_thingOf t_changesOf t_changes t_heard t_heardHeir t_heardOne t_heardTwo t_heardMore t_pageLength t_page t_says t_dealt t_farOf 0 t_endMost t_endLeast t_endFew t_seedNow t_saved t_isKept t_keptWill t_keptChanges t_keptHeard t_keptWorth t_keptThing t_keptChangesOf t_keptHeir t_keptOne t_keptTwo t_keptMore t_h) rfl (fun H locs hP hD hS => ?_)
      refine lv_aload_n hx hb dX7_layEnds_49 rfl (lv_at hl 0 rfl) ?_
      refine lv_iconst (v := (-1)) hx hb dX7_layEnds_50 (by decide) ?_
      refine pf F hP hD hS in_X7_layEnds_X7 tyX7 tyX7_ok nmX7 0 rfl rfl 18 (by decide) 3 rfl rfl rfl rfl (Nat.le_of_ble_eq_true rfl) dX7_layEnds_51 (w_X7 cI cB ad_t t_wills t_heirs t_kindOf t_worthOf t_thingOf t_changesOf t_changes t_heard t_heardHeir t_heardOne t_heardTwo t_heardMore t_pageLength t_page t_says t_dealt t_farOf 0 (-1) t_endLeast t_endFew t_seedNow t_saved t_isKept t_keptWill t_keptChanges t_keptHeard t_keptWorth t_keptThing t_keptChangesOf t_keptHeir t_keptOne t_keptTwo t_keptMore t_h) rfl (fun H locs hP hD hS => ?_)
      refine lv_aload_n hx hb dX7_layEnds_54 rfl (lv_at hl 0 rfl) ?_
      refine lv_ldc (v := 268435456) hx hb hown (hts _ (List.mem_of_getElem? (i := 4) rfl)) dX7_layEnds_55 ?_
      refine pf F hP hD hS in_X7_layEnds_X7 tyX7 tyX7_ok nmX7 0 rfl rfl 19 (by decide) 5 rfl rfl rfl rfl (Nat.le_of_ble_eq_true rfl) dX7_layEnds_57 (w_X7 cI cB ad_t t_wills t_heirs t_kindOf t_worthOf t_thingOf t_changesOf t_changes t_heard t_heardHeir t_heardOne t_heardTwo t_heardMore t_pageLength t_page t_says t_dealt t_farOf 0 (-1) 268435456 t_endFew t_seedNow t_saved t_isKept t_keptWill t_keptChanges t_keptHeard t_keptWorth t_keptThing t_keptChangesOf t_keptHeir t_keptOne t_keptTwo t_keptMore t_h) rfl (fun H locs hP hD hS => ?_)
      refine lv_aload_n hx hb dX7_layEnds_60 rfl (lv_at hl 0 rfl) ?_
      refine lv_ldc (v := 268435456) hx hb hown (hts _ (List.mem_of_getElem? (i := 4) rfl)) dX7_layEnds_61 ?_
      refine pf F hP hD hS in_X7_layEnds_X7 tyX7 tyX7_ok nmX7 0 rfl rfl 20 (by decide) 6 rfl rfl rfl rfl (Nat.le_of_ble_eq_true rfl) dX7_layEnds_63 (w_X7 cI cB ad_t t_wills t_heirs t_kindOf t_worthOf t_thingOf t_changesOf t_changes t_heard t_heardHeir t_heardOne t_heardTwo t_heardMore t_pageLength t_page t_says t_dealt t_farOf 0 (-1) 268435456 268435456 t_seedNow t_saved t_isKept t_keptWill t_keptChanges t_keptHeard t_keptWorth t_keptThing t_keptChangesOf t_keptHeir t_keptOne t_keptTwo t_keptMore t_h) rfl (fun H locs hP hD hS => ?_)
      refine lv_iconst (v := 0) hx hb dX7_layEnds_66 (by decide) ?_
      refine lv_istore_n (lv' := [(2, .int 0), (0, .ref (ad_t 0)), (1, .int x1)]) hx hb dX7_layEnds_67 rfl hl (by decide) rfl (fun ls hl => ?_)
      exact b_X7_layEnds_68 F (f_X7_layEnds_38 t_heirs t_kindOf t_worthOf t_thingOf  n) ih 300 x1 0 t_says t_farOf 0 (-1) 268435456 268435456 H locs ls hP hD hS (lv_sub hl [1, 2, 0] rfl) hf

set_option maxHeartbeats 4000000 in
set_option maxRecDepth 100000 in
theorem b_X7_layEnds_6 {p : Program} {l : Launch} {e : Env} {s : State} {m : MethodId} {args : Array Value} {below : List Frame} {meth : Method} {c : Code} {D : va_G} {cI cB : ClassId} {kK kV : Nat → Nat} {A : Nat → Prop} (F : Fx p m c s meth args cX7_layEnds 4 RX7 wsX7_layEnds none D cI cB kK kV A) {ad_t : Nat → Nat} {t_wills : Int32} {t_heirs : Int32} {t_kindOf : Nat → Int32} {t_worthOf : Nat → Int32} {t_thingOf : Nat → Int32} {t_changesOf : Nat → Int32} {t_changes : Int32} {t_heard : Int32} {t_heardHeir : Nat → Int32} {t_heardOne : Nat → Int32} {t_heardTwo : Nat → Int32} {t_heardMore : Nat → Int32} {t_pageLength : Int32} {t_page : Nat → Int32} {t_dealt : Nat → Int32} {t_seedNow : Int64} {t_saved : Nat → Int32} {t_isKept : Int32} {t_keptWill : Int32} {t_keptChanges : Int32} {t_keptHeard : Int32} {t_keptWorth : Nat → Int32} {t_keptThing : Nat → Int32} {t_keptChangesOf : Nat → Int32} {t_keptHeir : Nat → Int32} {t_keptOne : Nat → Int32} {t_keptTwo : Nat → Int32} {t_keptMore : Nat → Int32} {t_h : Int64}  {g_t_says : Nat → Int32} {g_t_farOf : Nat → Int32} {g_t_endMany : Int32} {g_t_endMost : Int32} {g_t_endLeast : Int32} {g_t_endFew : Int32} : ∀ (n : Nat), ∀ (x1 : Int32) (t_says : Nat → Int32) (t_farOf : Nat → Int32) (t_endMany : Int32) (t_endMost : Int32) (t_endLeast : Int32) (t_endFew : Int32) (H : Heap) (locs : List Loc) (ls : Array Slot), va_P D vwCl (w_X7 cI cB ad_t t_wills t_heirs t_kindOf t_worthOf t_thingOf t_changesOf t_changes t_heard t_heardHeir t_heardOne t_heardTwo t_heardMore t_pageLength t_page t_says t_dealt t_farOf t_endMany t_endMost t_endLeast t_endFew t_seedNow t_saved t_isKept t_keptWill t_keptChanges t_keptHeard t_keptWorth t_keptThing t_keptChangesOf t_keptHeir t_keptOne t_keptTwo t_keptMore t_h) H → va_D A (w_X7 cI cB ad_t t_wills t_heirs t_kindOf t_worthOf t_thingOf t_changesOf t_changes t_heard t_heardHeir t_heardOne t_heardTwo t_heardMore t_pageLength t_page t_says t_dealt t_farOf t_endMany t_endMost t_endLeast t_endFew t_seedNow t_saved t_isKept t_keptWill t_keptChanges t_keptHeard t_keptWorth t_keptThing t_keptChangesOf t_keptHeir t_keptOne t_keptTwo t_keptMore t_h) → va_S A s.heap H locs → lv_has ls 4 [(0, .ref (ad_t 0)), (1, .int x1)] → f_X7_layEnds_6 t_heirs t_kindOf t_worthOf t_thingOf  n x1 t_says t_farOf t_endMany t_endMost t_endLeast t_endFew = some (g_t_says, g_t_farOf, g_t_endMany, g_t_endMost, g_t_endLeast, g_t_endFew) → W p l e rm_X7_layEnds s m args below meth c H locs 0 0 (Zq D below args s A (w_X7 cI cB ad_t t_wills t_heirs t_kindOf t_worthOf t_thingOf t_changesOf t_changes t_heard t_heardHeir t_heardOne t_heardTwo t_heardMore t_pageLength t_page g_t_says t_dealt g_t_farOf g_t_endMany g_t_endMost g_t_endLeast g_t_endFew t_seedNow t_saved t_isKept t_keptWill t_keptChanges t_keptHeard t_keptWorth t_keptThing t_keptChangesOf t_keptHeir t_keptOne t_keptTwo t_keptMore t_h) none) (F0 m 6 ls []) := by
  obtain ⟨hx, hb, hml, hown, hts, hrt, hlocks, hK, hA, hZ⟩ := id F
  intro n
  induction n with
  | zero =>
    intro x1 t_says t_farOf t_endMany t_endMost t_endLeast t_endFew H locs ls hP hD hS hl hf
    cases hf
  | succ n ih =>
    intro x1 t_says t_farOf t_endMany t_endMost t_endLeast t_endFew H locs ls hP hD hS hl hf
    refine lv_iload_n hx hb dX7_layEnds_6 rfl (lv_at hl 1 rfl) ?_
    refine lv_sipush (v := 256) hx hb dX7_layEnds_7 (by decide) ?_
    refine lv_icmp_ge (tgt := 26) hx hb dX7_layEnds_10 (by decide) (fun c1 => ?_) (fun c1 => ?_)
    · replace hf := (if_pos c1).symm.trans hf
      refine lv_aload_n hx hb dX7_layEnds_26 rfl (lv_at hl 0 rfl) ?_
      refine gf F hP in_X7_layEnds_X7 0 rfl rfl 16 (by decide) 1 rfl rfl dX7_layEnds_27 ?_
      refine lv_aload_n hx hb dX7_layEnds_30 rfl (lv_at hl 0 rfl) ?_
      obtain ⟨v2, e3, hf⟩ := bnd hf
      refine cV F hP hD hS (k_X7_wayNow l ad_t t_wills t_heirs t_kindOf t_worthOf t_thingOf t_changesOf t_changes t_heard t_heardHeir t_heardOne t_heardTwo t_heardMore t_pageLength t_page t_says t_dealt t_farOf t_endMany t_endMost t_endLeast t_endFew t_seedNow t_saved t_isKept t_keptWill t_keptChanges t_keptHeard t_keptWorth t_keptThing t_keptChangesOf t_keptHeir t_keptOne t_keptTwo t_keptMore t_h  e3) gX7_layEnds_X7_wayNow rfl ⟨rfl, rfl⟩ nd_X7_wayNow ⟨Nat.le_of_ble_eq_true rfl, Nat.le_of_ble_eq_true rfl⟩ 0 7 rfl rfl rfl hl.1 rfl (Nat.le_of_ble_eq_true rfl) dX7_layEnds_31 (pm0 (w_X7 cI cB ad_t t_wills t_heirs t_kindOf t_worthOf t_thingOf t_changesOf t_changes t_heard t_heardHeir t_heardOne t_heardTwo t_heardMore t_pageLength t_page t_says t_dealt t_farOf t_endMany t_endMost t_endLeast t_endFew t_seedNow t_saved t_isKept t_keptWill t_keptChanges t_keptHeard t_keptWorth t_keptThing t_keptChangesOf t_keptHeir t_keptOne t_keptTwo t_keptMore t_h)) (pm0 (w_X7 cI cB ad_t t_wills t_heirs t_kindOf t_worthOf t_thingOf t_changesOf t_changes t_heard t_heardHeir t_heardOne t_heardTwo t_heardMore t_pageLength t_page t_says t_dealt t_farOf t_endMany t_endMost t_endLeast t_endFew t_seedNow t_saved t_isKept t_keptWill t_keptChanges t_keptHeard t_keptWorth t_keptThing t_keptChangesOf t_keptHeir t_keptOne t_keptTwo t_keptMore t_h)) (fun H locs hP hD hS => ?_)
      refine lv_iconst (v := 0) hx hb dX7_layEnds_34 (by decide) ?_
      obtain ⟨g4, eg4, hf⟩ := bnd hf
      refine ast F hP hD hS 12 rfl eg4 dX7_layEnds_35 (w_X7 cI cB ad_t t_wills t_heirs t_kindOf t_worthOf t_thingOf t_changesOf t_changes t_heard t_heardHeir t_heardOne t_heardTwo t_heardMore t_pageLength t_page t_says t_dealt g4 t_endMany t_endMost t_endLeast t_endFew t_seedNow t_saved t_isKept t_keptWill t_keptChanges t_keptHeard t_keptWorth t_keptThing t_keptChangesOf t_keptHeir t_keptOne t_keptTwo t_keptMore t_h) rfl (fun H locs hP hD hS => ?_)
      refine lv_iconst (v := 0) hx hb dX7_layEnds_36 (by decide) ?_
      refine lv_istore_n (lv' := [(1, .int 0), (0, .ref (ad_t 0))]) hx hb dX7_layEnds_37 rfl hl (by decide) rfl (fun ls hl => ?_)
      exact b_X7_layEnds_38 F 300 0 t_says g4 t_endMany t_endMost t_endLeast t_endFew H locs ls hP hD hS (lv_sub hl [1, 0] rfl) hf
    · replace hf := (if_neg c1).symm.trans hf
      refine lv_aload_n hx hb dX7_layEnds_13 rfl (lv_at hl 0 rfl) ?_
      refine gf F hP in_X7_layEnds_X7 0 rfl rfl 16 (by decide) 1 rfl rfl dX7_layEnds_14 ?_
      refine lv_iload_n hx hb dX7_layEnds_17 rfl (lv_at hl 1 rfl) ?_
      refine lv_iconst (v := (-1)) hx hb dX7_layEnds_18 (by decide) ?_
      obtain ⟨g5, eg5, hf⟩ := bnd hf
      refine ast F hP hD hS 12 rfl eg5 dX7_layEnds_19 (w_X7 cI cB ad_t t_wills t_heirs t_kindOf t_worthOf t_thingOf t_changesOf t_changes t_heard t_heardHeir t_heardOne t_heardTwo t_heardMore t_pageLength t_page t_says t_dealt g5 t_endMany t_endMost t_endLeast t_endFew t_seedNow t_saved t_isKept t_keptWill t_keptChanges t_keptHeard t_keptWorth t_keptThing t_keptChangesOf t_keptHeir t_keptOne t_keptTwo t_keptMore t_h) rfl (fun H locs hP hD hS => ?_)
      refine lv_iinc (v := (x1 + 1)) (lv' := [(1, .int (x1 + 1)), (0, .ref (ad_t 0))]) hx hb dX7_layEnds_20 hl (k := 1) rfl rfl (by decide) rfl (fun ls hl => ?_)
      refine lv_goto (tgt := 6) hx hb dX7_layEnds_23 (by decide) ?_
      exact ih (x1 + 1) t_says g5 t_endMany t_endMost t_endLeast t_endFew H locs ls hP hD hS (lv_sub hl [1, 0] rfl) hf

set_option maxHeartbeats 4000000 in
set_option maxRecDepth 100000 in
theorem k_X7_layEnds (l : Launch) {D : va_G} {cI cB : ClassId} {kK kV : Nat → Nat} (ad_t : Nat → Nat) (t_wills : Int32) (t_heirs : Int32) (t_kindOf : Nat → Int32) (t_worthOf : Nat → Int32) (t_thingOf : Nat → Int32) (t_changesOf : Nat → Int32) (t_changes : Int32) (t_heard : Int32) (t_heardHeir : Nat → Int32) (t_heardOne : Nat → Int32) (t_heardTwo : Nat → Int32) (t_heardMore : Nat → Int32) (t_pageLength : Int32) (t_page : Nat → Int32) (t_says : Nat → Int32) (t_dealt : Nat → Int32) (t_farOf : Nat → Int32) (t_endMany : Int32) (t_endMost : Int32) (t_endLeast : Int32) (t_endFew : Int32) (t_seedNow : Int64) (t_saved : Nat → Int32) (t_isKept : Int32) (t_keptWill : Int32) (t_keptChanges : Int32) (t_keptHeard : Int32) (t_keptWorth : Nat → Int32) (t_keptThing : Nat → Int32) (t_keptChangesOf : Nat → Int32) (t_keptHeir : Nat → Int32) (t_keptOne : Nat → Int32) (t_keptTwo : Nat → Int32) (t_keptMore : Nat → Int32) (t_h : Int64)   {g_t_says : Nat → Int32} {g_t_farOf : Nat → Int32} {g_t_endMany : Int32} {g_t_endMost : Int32} {g_t_endLeast : Int32} {g_t_endFew : Int32} (hf : f_X7_layEnds t_heirs t_kindOf t_worthOf t_thingOf t_says t_farOf t_endMany t_endMost t_endLeast t_endFew = some (g_t_says, g_t_farOf, g_t_endMany, g_t_endMost, g_t_endLeast, g_t_endFew)) : Ct l yX7_layEnds wsX7_layEnds rm_X7_layEnds D cI cB kK kV [.ref (ad_t 0)] (w_X7 cI cB ad_t t_wills t_heirs t_kindOf t_worthOf t_thingOf t_changesOf t_changes t_heard t_heardHeir t_heardOne t_heardTwo t_heardMore t_pageLength t_page t_says t_dealt t_farOf t_endMany t_endMost t_endLeast t_endFew t_seedNow t_saved t_isKept t_keptWill t_keptChanges t_keptHeard t_keptWorth t_keptThing t_keptChangesOf t_keptHeir t_keptOne t_keptTwo t_keptMore t_h) (w_X7 cI cB ad_t t_wills t_heirs t_kindOf t_worthOf t_thingOf t_changesOf t_changes t_heard t_heardHeir t_heardOne t_heardTwo t_heardMore t_pageLength t_page g_t_says t_dealt g_t_farOf g_t_endMany g_t_endMost g_t_endLeast g_t_endFew t_seedNow t_saved t_isKept t_keptWill t_keptChanges t_keptHeard t_keptWorth t_keptThing t_keptChangesOf t_keptHeir t_keptOne t_keptTwo t_keptMore t_h) none := by
  refine Ct.of (cc := cX7_layEnds) (maxL := 4) (ret := none) (by decide) rfl (Nat.le_of_ble_eq_true rfl) rfl ?_
  intro p e s m below meth c A ls F hP hD hS hl
  have hl : lv_has ls 4 [(0, .ref (ad_t 0))] := hl
  obtain ⟨hx, hb, hml, hown, hts, hrt, hlocks, hK, hA, hZ⟩ := id F
  obtain ⟨H, hH⟩ : ∃ H, H = s.heap := ⟨_, rfl⟩
  obtain ⟨locs, hLo⟩ : ∃ q : List Loc, q = [] := ⟨_, rfl⟩
  refine (?_ : W p l e rm_X7_layEnds s m _ below meth c s.heap [] 0 0 _ _)
  rw [← hH, ← hLo]
  rw [← hH] at hP
  have hS : va_S A s.heap H locs := by rw [hH, hLo]; exact hS
  refine lv_aload_n hx hb dX7_layEnds_0 rfl (lv_at hl 0 rfl) ?_
  obtain ⟨g1, e2, hf⟩ := bnd hf
  refine cV F hP hD hS (k_X7_laySays l ad_t t_wills t_heirs t_kindOf t_worthOf t_thingOf t_changesOf t_changes t_heard t_heardHeir t_heardOne t_heardTwo t_heardMore t_pageLength t_page t_says t_dealt t_farOf t_endMany t_endMost t_endLeast t_endFew t_seedNow t_saved t_isKept t_keptWill t_keptChanges t_keptHeard t_keptWorth t_keptThing t_keptChangesOf t_keptHeir t_keptOne t_keptTwo t_keptMore t_h  e2) gX7_layEnds_X7_laySays rfl ⟨rfl, rfl⟩ nd_X7_laySays ⟨Nat.le_of_ble_eq_true rfl, Nat.le_of_ble_eq_true rfl⟩ 0 7 rfl rfl rfl hl.1 rfl (Nat.le_of_ble_eq_true rfl) dX7_layEnds_1 (pm0 (w_X7 cI cB ad_t t_wills t_heirs t_kindOf t_worthOf t_thingOf t_changesOf t_changes t_heard t_heardHeir t_heardOne t_heardTwo t_heardMore t_pageLength t_page t_says t_dealt t_farOf t_endMany t_endMost t_endLeast t_endFew t_seedNow t_saved t_isKept t_keptWill t_keptChanges t_keptHeard t_keptWorth t_keptThing t_keptChangesOf t_keptHeir t_keptOne t_keptTwo t_keptMore t_h)) (pm0 (w_X7 cI cB ad_t t_wills t_heirs t_kindOf t_worthOf t_thingOf t_changesOf t_changes t_heard t_heardHeir t_heardOne t_heardTwo t_heardMore t_pageLength t_page g1 t_dealt t_farOf t_endMany t_endMost t_endLeast t_endFew t_seedNow t_saved t_isKept t_keptWill t_keptChanges t_keptHeard t_keptWorth t_keptThing t_keptChangesOf t_keptHeir t_keptOne t_keptTwo t_keptMore t_h)) (fun H locs hP hD hS => ?_)
  refine lv_iconst (v := 0) hx hb dX7_layEnds_4 (by decide) ?_
  refine lv_istore_n (lv' := [(1, .int 0), (0, .ref (ad_t 0))]) hx hb dX7_layEnds_5 rfl hl (by decide) rfl (fun ls hl => ?_)
  exact b_X7_layEnds_6 F 300 0 g1 t_farOf t_endMany t_endMost t_endLeast t_endFew H locs ls hP hD hS (lv_sub hl [1, 0] rfl) hf

/-! X7_endsNow -/
def rm_X7_endsNow : Room := { frames := 3, cells := 0, slots := 0, locals := 76 }
theorem in_X7_endsNow_X7 : ∀ w ∈ u_ws RX7 TX7 35, w ∈ wsX7_endsNow := fun _ h => List.mem_cons_of_mem _ (List.mem_append_right _ (h))
theorem nd_X7_endsNow : yX7_endsNow.cls = RX7 ∧ yX7_endsNow.cls ≠ "java/lang/invoke/MethodHandle" ∧ yX7_endsNow.cls ≠ "java/lang/invoke/VarHandle" ∧ (parseMethodDescriptor yX7_endsNow.desc).map (fun d => d.parameters.length) = some 1 := by decide +kernel
def f_X7_endsNow (t_heirs : Int32) (t_kindOf : Nat → Int32) (t_worthOf : Nat → Int32) (t_thingOf : Nat → Int32) (t_says : Nat → Int32) (t_farOf : Nat → Int32) (t_endMany : Int32) (t_endMost : Int32) (t_endLeast : Int32) (t_endFew : Int32) (x1 : Int32) : Option (Int32 × (Nat → Int32) × (Nat → Int32) × Int32 × Int32 × Int32 × Int32) := (f_X7_layEnds t_heirs t_kindOf t_worthOf t_thingOf t_says t_farOf t_endMany t_endMost t_endLeast t_endFew).bind (fun (g1, g2, g3, g4, g5, g6) => (if x1 = 0 then some (g3, g1, g2, g3, g4, g5, g6) else (if x1 = 1 then some (g4, g1, g2, g3, g4, g5, g6) else (if x1 = 2 then some (g5, g1, g2, g3, g4, g5, g6) else some (g6, g1, g2, g3, g4, g5, g6)))))
set_option maxHeartbeats 4000000 in
set_option maxRecDepth 100000 in
theorem k_X7_endsNow (l : Launch) {D : va_G} {cI cB : ClassId} {kK kV : Nat → Nat} (ad_t : Nat → Nat) (t_wills : Int32) (t_heirs : Int32) (t_kindOf : Nat → Int32) (t_worthOf : Nat → Int32) (t_thingOf : Nat → Int32) (t_changesOf : Nat → Int32) (t_changes : Int32) (t_heard : Int32) (t_heardHeir : Nat → Int32) (t_heardOne : Nat → Int32) (t_heardTwo : Nat → Int32) (t_heardMore : Nat → Int32) (t_pageLength : Int32) (t_page : Nat → Int32) (t_says : Nat → Int32) (t_dealt : Nat → Int32) (t_farOf : Nat → Int32) (t_endMany : Int32) (t_endMost : Int32) (t_endLeast : Int32) (t_endFew : Int32) (t_seedNow : Int64) (t_saved : Nat → Int32) (t_isKept : Int32) (t_keptWill : Int32) (t_keptChanges : Int32) (t_keptHeard : Int32) (t_keptWorth : Nat → Int32) (t_keptThing : Nat → Int32) (t_keptChangesOf : Nat → Int32) (t_keptHeir : Nat → Int32) (t_keptOne : Nat → Int32) (t_keptTwo : Nat → Int32) (t_keptMore : Nat → Int32) (t_h : Int64) (x1 : Int32) {rr : Int32} {g_t_says : Nat → Int32} {g_t_farOf : Nat → Int32} {g_t_endMany : Int32} {g_t_endMost : Int32} {g_t_endLeast : Int32} {g_t_endFew : Int32} (hf : f_X7_endsNow t_heirs t_kindOf t_worthOf t_thingOf t_says t_farOf t_endMany t_endMost t_endLeast t_endFew x1 = some (rr, g_t_says, g_t_farOf, g_t_endMany, g_t_endMost, g_t_endLeast, g_t_endFew)) : Ct l yX7_endsNow wsX7_endsNow rm_X7_endsNow D cI cB kK kV [.ref (ad_t 0), .int x1] (w_X7 cI cB ad_t t_wills t_heirs t_kindOf t_worthOf t_thingOf t_changesOf t_changes t_heard t_heardHeir t_heardOne t_heardTwo t_heardMore t_pageLength t_page t_says t_dealt t_farOf t_endMany t_endMost t_endLeast t_endFew t_seedNow t_saved t_isKept t_keptWill t_keptChanges t_keptHeard t_keptWorth t_keptThing t_keptChangesOf t_keptHeir t_keptOne t_keptTwo t_keptMore t_h) (w_X7 cI cB ad_t t_wills t_heirs t_kindOf t_worthOf t_thingOf t_changesOf t_changes t_heard t_heardHeir t_heardOne t_heardTwo t_heardMore t_pageLength t_page g_t_says t_dealt g_t_farOf g_t_endMany g_t_endMost g_t_endLeast g_t_endFew t_seedNow t_saved t_isKept t_keptWill t_keptChanges t_keptHeard t_keptWorth t_keptThing t_keptChangesOf t_keptHeir t_keptOne t_keptTwo t_keptMore t_h) (some (.int rr)) := by
  refine Ct.of (cc := cX7_endsNow) (maxL := 2) (ret := (some .int)) (by decide) rfl (Nat.le_of_ble_eq_true rfl) rfl ?_
  intro p e s m below meth c A ls F hP hD hS hl
  have hl : lv_has ls 2 [(0, .ref (ad_t 0)), (1, .int x1)] := hl
  obtain ⟨hx, hb, hml, hown, hts, hrt, hlocks, hK, hA, hZ⟩ := id F
  obtain ⟨H, hH⟩ : ∃ H, H = s.heap := ⟨_, rfl⟩
  obtain ⟨locs, hLo⟩ : ∃ q : List Loc, q = [] := ⟨_, rfl⟩
  refine (?_ : W p l e rm_X7_endsNow s m _ below meth c s.heap [] 0 0 _ _)
  rw [← hH, ← hLo]
  rw [← hH] at hP
  have hS : va_S A s.heap H locs := by rw [hH, hLo]; exact hS
  refine lv_aload_n hx hb dX7_endsNow_0 rfl (lv_at hl 0 rfl) ?_
  obtain ⟨⟨g1, g2, g3, g4, g5, g6⟩, e7, hf⟩ := bnd hf
  refine cV F hP hD hS (k_X7_layEnds l ad_t t_wills t_heirs t_kindOf t_worthOf t_thingOf t_changesOf t_changes t_heard t_heardHeir t_heardOne t_heardTwo t_heardMore t_pageLength t_page t_says t_dealt t_farOf t_endMany t_endMost t_endLeast t_endFew t_seedNow t_saved t_isKept t_keptWill t_keptChanges t_keptHeard t_keptWorth t_keptThing t_keptChangesOf t_keptHeir t_keptOne t_keptTwo t_keptMore t_h  e7) gX7_endsNow_X7_layEnds rfl ⟨rfl, rfl⟩ nd_X7_layEnds ⟨Nat.le_of_ble_eq_true rfl, Nat.le_of_ble_eq_true rfl⟩ 0 7 rfl rfl rfl hl.1 rfl (Nat.le_of_ble_eq_true rfl) dX7_endsNow_1 (pm0 (w_X7 cI cB ad_t t_wills t_heirs t_kindOf t_worthOf t_thingOf t_changesOf t_changes t_heard t_heardHeir t_heardOne t_heardTwo t_heardMore t_pageLength t_page t_says t_dealt t_farOf t_endMany t_endMost t_endLeast t_endFew t_seedNow t_saved t_isKept t_keptWill t_keptChanges t_keptHeard t_keptWorth t_keptThing t_keptChangesOf t_keptHeir t_keptOne t_keptTwo t_keptMore t_h)) (pm0 (w_X7 cI cB ad_t t_wills t_heirs t_kindOf t_worthOf t_thingOf t_changesOf t_changes t_heard t_heardHeir t_heardOne t_heardTwo t_heardMore t_pageLength t_page g1 t_dealt g2 g3 g4 g5 g6 t_seedNow t_saved t_isKept t_keptWill t_keptChanges t_keptHeard t_keptWorth t_keptThing t_keptChangesOf t_keptHeir t_keptOne t_keptTwo t_keptMore t_h)) (fun H locs hP hD hS => ?_)
  refine lv_iload_n hx hb dX7_endsNow_4 rfl (lv_at hl 1 rfl) ?_
  refine lv_if_ne (tgt := 15) hx hb dX7_endsNow_5 (by decide) (fun c8 => ?_) (fun c8 => ?_)
  · replace hf := (if_neg c8).symm.trans hf
    refine lv_iload_n hx hb dX7_endsNow_15 rfl (lv_at hl 1 rfl) ?_
    refine lv_iconst (v := 1) hx hb dX7_endsNow_16 (by decide) ?_
    refine lv_icmp_ne (tgt := 27) hx hb dX7_endsNow_17 (by decide) (fun c9 => ?_) (fun c9 => ?_)
    · replace hf := (if_neg c9).symm.trans hf
      refine lv_iload_n hx hb dX7_endsNow_27 rfl (lv_at hl 1 rfl) ?_
      refine lv_iconst (v := 2) hx hb dX7_endsNow_28 (by decide) ?_
      refine lv_icmp_ne (tgt := 39) hx hb dX7_endsNow_29 (by decide) (fun c10 => ?_) (fun c10 => ?_)
      · replace hf := (if_neg c10).symm.trans hf
        refine lv_aload_n hx hb dX7_endsNow_39 rfl (lv_at hl 0 rfl) ?_
        refine gf F hP in_X7_endsNow_X7 0 rfl rfl 20 (by decide) 4 rfl rfl dX7_endsNow_40 ?_
        replace hf : (some (g6, g1, g2, g3, g4, g5, g6) : Option (Int32 × (Nat → Int32) × (Nat → Int32) × Int32 × Int32 × Int32 × Int32)) = some (rr, g_t_says, g_t_farOf, g_t_endMany, g_t_endMost, g_t_endLeast, g_t_endFew) := hf
        cases hf
        exact ret_i F hP hS dX7_endsNow_43
      · replace hf := (if_pos c10).symm.trans hf
        refine lv_aload_n hx hb dX7_endsNow_32 rfl (lv_at hl 0 rfl) ?_
        refine gf F hP in_X7_endsNow_X7 0 rfl rfl 19 (by decide) 3 rfl rfl dX7_endsNow_33 ?_
        refine lv_goto (tgt := 43) hx hb dX7_endsNow_36 (by decide) ?_
        replace hf : (some (g5, g1, g2, g3, g4, g5, g6) : Option (Int32 × (Nat → Int32) × (Nat → Int32) × Int32 × Int32 × Int32 × Int32)) = some (rr, g_t_says, g_t_farOf, g_t_endMany, g_t_endMost, g_t_endLeast, g_t_endFew) := hf
        cases hf
        exact ret_i F hP hS dX7_endsNow_43
    · replace hf := (if_pos c9).symm.trans hf
      refine lv_aload_n hx hb dX7_endsNow_20 rfl (lv_at hl 0 rfl) ?_
      refine gf F hP in_X7_endsNow_X7 0 rfl rfl 18 (by decide) 2 rfl rfl dX7_endsNow_21 ?_
      refine lv_goto (tgt := 43) hx hb dX7_endsNow_24 (by decide) ?_
      replace hf : (some (g4, g1, g2, g3, g4, g5, g6) : Option (Int32 × (Nat → Int32) × (Nat → Int32) × Int32 × Int32 × Int32 × Int32)) = some (rr, g_t_says, g_t_farOf, g_t_endMany, g_t_endMost, g_t_endLeast, g_t_endFew) := hf
      cases hf
      exact ret_i F hP hS dX7_endsNow_43
  · replace hf := (if_pos c8).symm.trans hf
    refine lv_aload_n hx hb dX7_endsNow_8 rfl (lv_at hl 0 rfl) ?_
    refine gf F hP in_X7_endsNow_X7 0 rfl rfl 17 (by decide) 1 rfl rfl dX7_endsNow_9 ?_
    refine lv_goto (tgt := 43) hx hb dX7_endsNow_12 (by decide) ?_
    replace hf : (some (g3, g1, g2, g3, g4, g5, g6) : Option (Int32 × (Nat → Int32) × (Nat → Int32) × Int32 × Int32 × Int32 × Int32)) = some (rr, g_t_says, g_t_farOf, g_t_endMany, g_t_endMost, g_t_endLeast, g_t_endFew) := hf
    cases hf
    exact ret_i F hP hS dX7_endsNow_43

